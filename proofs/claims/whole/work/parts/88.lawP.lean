/-! THE LAW: its loop, with the invariant -/
set_option maxHeartbeats 4000000 in
set_option maxRecDepth 20000 in
theorem jl_b2282 {b : Nat} {X : CX} {G : GX} (hG : Gd G) (O : Ok X G cL_law 4 RL 200) {x3 : Int32} (hr18 : ∀ M, Inv M → J X G M 18 [(0, .ref b), (1, .ref (ad G 0)), (2, .ref (ad G 287)), (3, .int (x3 + (6 : Int32)))] []) {M : Mem} (H : Inv M) : J X G M 2282 [(0, .ref b), (1, .ref (ad G 0)), (2, .ref (ad G 287)), (3, .int x3)] [] := by
  refine J.iinc (q := 2285) O dL_law_2282 rfl [(3, .int (x3 + (6 : Int32))), (0, .ref b), (1, .ref (ad G 0)), (2, .ref (ad G 287))] 3 rfl rfl (by decide) rfl ?_
  refine J.goto (q := 18) O dL_law_2285 (by decide) ?_
  exact J.sub [1, 2, 3, 0] rfl (hr18 _ H)
set_option maxHeartbeats 4000000 in
set_option maxRecDepth 20000 in
theorem jl_b614 {b L : Nat} {xs : Nat → Int32} {X : CX} {G : GX} (hG : Gd G) (O : Ok X G cL_law 4 RL 200) (hR : RetZ X G cL_law (fun r _ => r = 1)) (OX : OkX X G b L xs) {x3 : Int32} (hr18 : ∀ M, Inv M → J X G M 18 [(0, .ref b), (1, .ref (ad G 0)), (2, .ref (ad G 287)), (3, .int (x3 + (6 : Int32)))] []) (hv0 : vp_in x3 L) (hv1 : vp_in (x3 + (1 : Int32)) L) (hv2 : vp_in (x3 + (2 : Int32)) L) (hv3 : vp_in (x3 + (3 : Int32)) L) (hv4 : vp_in (x3 + (4 : Int32)) L) (hv5 : vp_in (x3 + (5 : Int32)) L) {s0 : Int32} {s1 : Int32} {s2 : Int32} {s3 : Int32} {s5 : Int32} {M : Mem} (h : f_X12_kind s3 s2 s1 s0 (xs ((x3 + (5 : Int32)).toNatClampNeg)) M (fun r' M2 => r' = s5 ∧ Inv M2)) : J X G M 614 [(0, .ref b), (1, .ref (ad G 0)), (2, .ref (ad G 287)), (3, .int x3)] [.int s0, .int s1, .int s2, .int s3, .ref (ad G 287), .int s5] := by
  refine J.aload_n (q := 615) O dL_law_614 rfl 0 rfl ?_
  refine J.iload_n (q := 616) O dL_law_615 rfl 3 rfl ?_
  refine J.iconst (q := 617) (v := (5 : Int32)) O dL_law_616 rfl rfl ?_
  refine J.iadd (q := 618) O dL_law_617 rfl ?_
  have hv242 := hv5
  refine J.xld (q := 619) O dL_law_618 rfl OX hv242 ?_
  refine J.callVI (q := 622) [.int s3, .int s2, .int s1, .int s0, .int (xs ((x3 + (5 : Int32)).toNatClampNeg))] [.int s5] [.int (xs ((x3 + (5 : Int32)).toNatClampNeg)), .int s0, .int s1, .int s2, .int s3, .ref (ad G 287), .int s5] rfl O dL_law_619 rfl (c_X12_kind hG h) wd_8_5 mw_X12_kind io_287 rfl (by decide) (Nat.le_of_ble_eq_true rfl) (fun v243 M243 h => ?_)
  refine J.icmp_eq (q := 625) (tgt := 2282) O dL_law_622 rfl (by decide) (fun z244 => ?_) (fun z244 => ?_)
  · exact J.sub [0, 1, 2, 3] rfl (jl_b2282 hG O hr18 h.2)
  · exact absurd h.1.symm z244
set_option maxHeartbeats 4000000 in
set_option maxRecDepth 20000 in
theorem jl_b577 {b L : Nat} {xs : Nat → Int32} {X : CX} {G : GX} (hG : Gd G) (O : Ok X G cL_law 4 RL 200) (hR : RetZ X G cL_law (fun r _ => r = 1)) (OX : OkX X G b L xs) {x3 : Int32} (hr18 : ∀ M, Inv M → J X G M 18 [(0, .ref b), (1, .ref (ad G 0)), (2, .ref (ad G 287)), (3, .int (x3 + (6 : Int32)))] []) (hv0 : vp_in x3 L) (hv1 : vp_in (x3 + (1 : Int32)) L) (hv2 : vp_in (x3 + (2 : Int32)) L) (hv3 : vp_in (x3 + (3 : Int32)) L) (hv4 : vp_in (x3 + (4 : Int32)) L) (hv5 : vp_in (x3 + (5 : Int32)) L) {M : Mem} (H : Inv M) {s0 : Int32} {s1 : Int32} {s2 : Int32} {s3 : Int32} (hs0 : s0 = if (xs ((x3 + (4 : Int32)).toNatClampNeg)) = 0 then 0 else 1) (hs1 : s1 = (xs ((x3 + (3 : Int32)).toNatClampNeg))) (hs2 : s2 = (xs ((x3 + (2 : Int32)).toNatClampNeg))) (hs3 : s3 = (xs ((x3 + (1 : Int32)).toNatClampNeg))) : J X G M 577 [(0, .ref b), (1, .ref (ad G 0)), (2, .ref (ad G 287)), (3, .int x3)] [.int s0, .int s1, .int s2, .int s3, .ref (ad G 0)] := by
  subst hs1 hs2 hs3
  have h := P_kind H (xs ((x3 + (1 : Int32)).toNatClampNeg)) (xs ((x3 + (2 : Int32)).toNatClampNeg)) (xs ((x3 + (3 : Int32)).toNatClampNeg)) s0 (xs ((x3 + (5 : Int32)).toNatClampNeg))
  refine J.aload_n (q := 578) O dL_law_577 rfl 0 rfl ?_
  refine J.iload_n (q := 579) O dL_law_578 rfl 3 rfl ?_
  refine J.iconst (q := 580) (v := (5 : Int32)) O dL_law_579 rfl rfl ?_
  refine J.iadd (q := 581) O dL_law_580 rfl ?_
  have hv245 := hv5
  refine J.xld (q := 582) O dL_law_581 rfl OX hv245 ?_
  refine J.callVI (q := 585) [.int (xs ((x3 + (1 : Int32)).toNatClampNeg)), .int (xs ((x3 + (2 : Int32)).toNatClampNeg)), .int (xs ((x3 + (3 : Int32)).toNatClampNeg)), .int s0, .int (xs ((x3 + (5 : Int32)).toNatClampNeg))] [] [.int (xs ((x3 + (5 : Int32)).toNatClampNeg)), .int s0, .int (xs ((x3 + (3 : Int32)).toNatClampNeg)), .int (xs ((x3 + (2 : Int32)).toNatClampNeg)), .int (xs ((x3 + (1 : Int32)).toNatClampNeg)), .ref (ad G 0)] rfl O dL_law_582 rfl (c_X11_kind hG h) wd_3_204 mw_X11_kind io_0 rfl (by decide) (Nat.le_of_ble_eq_true rfl) (fun v246 M246 h => ?_)
  refine J.aload_n (q := 586) O dL_law_585 rfl 2 rfl ?_
  refine J.aload_n (q := 587) O dL_law_586 rfl 0 rfl ?_
  refine J.iload_n (q := 588) O dL_law_587 rfl 3 rfl ?_
  refine J.iconst (q := 589) (v := (1 : Int32)) O dL_law_588 rfl rfl ?_
  refine J.iadd (q := 590) O dL_law_589 rfl ?_
  have hv247 := hv1
  refine J.xld (q := 591) O dL_law_590 rfl OX hv247 ?_
  refine J.aload_n (q := 592) O dL_law_591 rfl 0 rfl ?_
  refine J.iload_n (q := 593) O dL_law_592 rfl 3 rfl ?_
  refine J.iconst (q := 594) (v := (2 : Int32)) O dL_law_593 rfl rfl ?_
  refine J.iadd (q := 595) O dL_law_594 rfl ?_
  have hv248 := hv2
  refine J.xld (q := 596) O dL_law_595 rfl OX hv248 ?_
  refine J.aload_n (q := 597) O dL_law_596 rfl 0 rfl ?_
  refine J.iload_n (q := 598) O dL_law_597 rfl 3 rfl ?_
  refine J.iconst (q := 599) (v := (3 : Int32)) O dL_law_598 rfl rfl ?_
  refine J.iadd (q := 600) O dL_law_599 rfl ?_
  have hv249 := hv3
  refine J.xld (q := 601) O dL_law_600 rfl OX hv249 ?_
  refine J.aload_n (q := 602) O dL_law_601 rfl 0 rfl ?_
  refine J.iload_n (q := 603) O dL_law_602 rfl 3 rfl ?_
  refine J.iconst (q := 604) (v := (4 : Int32)) O dL_law_603 rfl rfl ?_
  refine J.iadd (q := 605) O dL_law_604 rfl ?_
  have hv250 := hv4
  refine J.xld (q := 606) O dL_law_605 rfl OX hv250 ?_
  refine J.if_eq (q := 609) (tgt := 613) O dL_law_606 rfl (by decide) (fun z251 => ?_) (fun z251 => ?_)
  · replace hs0 := hs0.trans (if_pos z251)
    subst hs0
    refine J.iconst (q := 614) (v := (0 : Int32)) O dL_law_613 rfl rfl ?_
    exact J.sub [0, 1, 2, 3] rfl (jl_b614 hG O hR OX hr18 hv0 hv1 hv2 hv3 hv4 hv5 h)
  · replace hs0 := hs0.trans (if_neg z251)
    subst hs0
    refine J.iconst (q := 610) (v := (1 : Int32)) O dL_law_609 rfl rfl ?_
    refine J.goto (q := 614) O dL_law_610 (by decide) ?_
    exact J.sub [0, 1, 2, 3] rfl (jl_b614 hG O hR OX hr18 hv0 hv1 hv2 hv3 hv4 hv5 h)
set_option maxHeartbeats 4000000 in
set_option maxRecDepth 20000 in
theorem jl_b731 {b L : Nat} {xs : Nat → Int32} {X : CX} {G : GX} (hG : Gd G) (O : Ok X G cL_law 4 RL 200) (hR : RetZ X G cL_law (fun r _ => r = 1)) (OX : OkX X G b L xs) {x3 : Int32} (hr18 : ∀ M, Inv M → J X G M 18 [(0, .ref b), (1, .ref (ad G 0)), (2, .ref (ad G 287)), (3, .int (x3 + (6 : Int32)))] []) (hv0 : vp_in x3 L) (hv1 : vp_in (x3 + (1 : Int32)) L) (hv2 : vp_in (x3 + (2 : Int32)) L) (hv3 : vp_in (x3 + (3 : Int32)) L) (hv4 : vp_in (x3 + (4 : Int32)) L) (hv5 : vp_in (x3 + (5 : Int32)) L) {s0 : Int32} {s1 : Int32} {s2 : Int32} {s3 : Int32} {s5 : Int32} {M : Mem} (h : f_X12_open s3 s2 s1 s0 M (fun r' M2 => r' = s5 ∧ Inv M2)) : J X G M 731 [(0, .ref b), (1, .ref (ad G 0)), (2, .ref (ad G 287)), (3, .int x3)] [.int s0, .int s1, .int s2, .int s3, .ref (ad G 287), .int s5] := by
  refine J.callVI (q := 734) [.int s3, .int s2, .int s1, .int s0] [.int s5] [.int s0, .int s1, .int s2, .int s3, .ref (ad G 287), .int s5] rfl O dL_law_731 rfl (c_X12_open hG h) wd_8_38 mw_X12_open io_287 rfl (by decide) (Nat.le_of_ble_eq_true rfl) (fun v252 M252 h => ?_)
  refine J.icmp_eq (q := 737) (tgt := 2282) O dL_law_734 rfl (by decide) (fun z253 => ?_) (fun z253 => ?_)
  · exact J.sub [0, 1, 2, 3] rfl (jl_b2282 hG O hr18 h.2)
  · exact absurd h.1.symm z253
set_option maxHeartbeats 4000000 in
set_option maxRecDepth 20000 in
theorem jl_b699 {b L : Nat} {xs : Nat → Int32} {X : CX} {G : GX} (hG : Gd G) (O : Ok X G cL_law 4 RL 200) (hR : RetZ X G cL_law (fun r _ => r = 1)) (OX : OkX X G b L xs) {x3 : Int32} (hr18 : ∀ M, Inv M → J X G M 18 [(0, .ref b), (1, .ref (ad G 0)), (2, .ref (ad G 287)), (3, .int (x3 + (6 : Int32)))] []) (hv0 : vp_in x3 L) (hv1 : vp_in (x3 + (1 : Int32)) L) (hv2 : vp_in (x3 + (2 : Int32)) L) (hv3 : vp_in (x3 + (3 : Int32)) L) (hv4 : vp_in (x3 + (4 : Int32)) L) (hv5 : vp_in (x3 + (5 : Int32)) L) {M : Mem} (H : Inv M) {s0 : Int32} {s1 : Int32} {s2 : Int32} {s3 : Int32} (hs0 : s0 = if (xs ((x3 + (4 : Int32)).toNatClampNeg)) = 0 then 0 else 1) (hs1 : s1 = (xs ((x3 + (3 : Int32)).toNatClampNeg))) (hs2 : s2 = (xs ((x3 + (2 : Int32)).toNatClampNeg))) (hs3 : s3 = (xs ((x3 + (1 : Int32)).toNatClampNeg))) : J X G M 699 [(0, .ref b), (1, .ref (ad G 0)), (2, .ref (ad G 287)), (3, .int x3)] [.int s0, .int s1, .int s2, .int s3, .ref (ad G 0)] := by
  subst hs1 hs2 hs3
  have h := P_open H (xs ((x3 + (1 : Int32)).toNatClampNeg)) (xs ((x3 + (2 : Int32)).toNatClampNeg)) (xs ((x3 + (3 : Int32)).toNatClampNeg)) s0
  refine J.callVI (q := 702) [.int (xs ((x3 + (1 : Int32)).toNatClampNeg)), .int (xs ((x3 + (2 : Int32)).toNatClampNeg)), .int (xs ((x3 + (3 : Int32)).toNatClampNeg)), .int s0] [] [.int s0, .int (xs ((x3 + (3 : Int32)).toNatClampNeg)), .int (xs ((x3 + (2 : Int32)).toNatClampNeg)), .int (xs ((x3 + (1 : Int32)).toNatClampNeg)), .ref (ad G 0)] rfl O dL_law_699 rfl (c_X11_open hG h) wd_4_15 mw_X11_open io_0 rfl (by decide) (Nat.le_of_ble_eq_true rfl) (fun v254 M254 h => ?_)
  refine J.aload_n (q := 703) O dL_law_702 rfl 2 rfl ?_
  refine J.aload_n (q := 704) O dL_law_703 rfl 0 rfl ?_
  refine J.iload_n (q := 705) O dL_law_704 rfl 3 rfl ?_
  refine J.iconst (q := 706) (v := (1 : Int32)) O dL_law_705 rfl rfl ?_
  refine J.iadd (q := 707) O dL_law_706 rfl ?_
  have hv255 := hv1
  refine J.xld (q := 708) O dL_law_707 rfl OX hv255 ?_
  refine J.aload_n (q := 709) O dL_law_708 rfl 0 rfl ?_
  refine J.iload_n (q := 710) O dL_law_709 rfl 3 rfl ?_
  refine J.iconst (q := 711) (v := (2 : Int32)) O dL_law_710 rfl rfl ?_
  refine J.iadd (q := 712) O dL_law_711 rfl ?_
  have hv256 := hv2
  refine J.xld (q := 713) O dL_law_712 rfl OX hv256 ?_
  refine J.aload_n (q := 714) O dL_law_713 rfl 0 rfl ?_
  refine J.iload_n (q := 715) O dL_law_714 rfl 3 rfl ?_
  refine J.iconst (q := 716) (v := (3 : Int32)) O dL_law_715 rfl rfl ?_
  refine J.iadd (q := 717) O dL_law_716 rfl ?_
  have hv257 := hv3
  refine J.xld (q := 718) O dL_law_717 rfl OX hv257 ?_
  refine J.aload_n (q := 719) O dL_law_718 rfl 0 rfl ?_
  refine J.iload_n (q := 720) O dL_law_719 rfl 3 rfl ?_
  refine J.iconst (q := 721) (v := (4 : Int32)) O dL_law_720 rfl rfl ?_
  refine J.iadd (q := 722) O dL_law_721 rfl ?_
  have hv258 := hv4
  refine J.xld (q := 723) O dL_law_722 rfl OX hv258 ?_
  refine J.if_eq (q := 726) (tgt := 730) O dL_law_723 rfl (by decide) (fun z259 => ?_) (fun z259 => ?_)
  · replace hs0 := hs0.trans (if_pos z259)
    subst hs0
    refine J.iconst (q := 731) (v := (0 : Int32)) O dL_law_730 rfl rfl ?_
    exact J.sub [0, 1, 2, 3] rfl (jl_b731 hG O hR OX hr18 hv0 hv1 hv2 hv3 hv4 hv5 h)
  · replace hs0 := hs0.trans (if_neg z259)
    subst hs0
    refine J.iconst (q := 727) (v := (1 : Int32)) O dL_law_726 rfl rfl ?_
    refine J.goto (q := 731) O dL_law_727 (by decide) ?_
    exact J.sub [0, 1, 2, 3] rfl (jl_b731 hG O hR OX hr18 hv0 hv1 hv2 hv3 hv4 hv5 h)
set_option maxHeartbeats 4000000 in
set_option maxRecDepth 20000 in
theorem jl_b790 {b L : Nat} {xs : Nat → Int32} {X : CX} {G : GX} (hG : Gd G) (O : Ok X G cL_law 4 RL 200) (hR : RetZ X G cL_law (fun r _ => r = 1)) (OX : OkX X G b L xs) {x3 : Int32} (hr18 : ∀ M, Inv M → J X G M 18 [(0, .ref b), (1, .ref (ad G 0)), (2, .ref (ad G 287)), (3, .int (x3 + (6 : Int32)))] []) (hv0 : vp_in x3 L) (hv1 : vp_in (x3 + (1 : Int32)) L) (hv2 : vp_in (x3 + (2 : Int32)) L) (hv3 : vp_in (x3 + (3 : Int32)) L) (hv4 : vp_in (x3 + (4 : Int32)) L) (hv5 : vp_in (x3 + (5 : Int32)) L) {s0 : Int32} {s1 : Int32} {s2 : Int32} {s4 : Int32} {M : Mem} (h : f_X12_paper s2 s1 s0 M (fun r' M2 => r' = s4 ∧ Inv M2)) : J X G M 790 [(0, .ref b), (1, .ref (ad G 0)), (2, .ref (ad G 287)), (3, .int x3)] [.int s0, .int s1, .int s2, .ref (ad G 287), .int s4] := by
  refine J.callVI (q := 793) [.int s2, .int s1, .int s0] [.int s4] [.int s0, .int s1, .int s2, .ref (ad G 287), .int s4] rfl O dL_law_790 rfl (c_X12_paper hG h) wd_8_42 mw_X12_paper io_287 rfl (by decide) (Nat.le_of_ble_eq_true rfl) (fun v260 M260 h => ?_)
  refine J.icmp_eq (q := 796) (tgt := 2282) O dL_law_793 rfl (by decide) (fun z261 => ?_) (fun z261 => ?_)
  · exact J.sub [0, 1, 2, 3] rfl (jl_b2282 hG O hr18 h.2)
  · exact absurd h.1.symm z261
set_option maxHeartbeats 4000000 in
set_option maxRecDepth 20000 in
theorem jl_b763 {b L : Nat} {xs : Nat → Int32} {X : CX} {G : GX} (hG : Gd G) (O : Ok X G cL_law 4 RL 200) (hR : RetZ X G cL_law (fun r _ => r = 1)) (OX : OkX X G b L xs) {x3 : Int32} (hr18 : ∀ M, Inv M → J X G M 18 [(0, .ref b), (1, .ref (ad G 0)), (2, .ref (ad G 287)), (3, .int (x3 + (6 : Int32)))] []) (hv0 : vp_in x3 L) (hv1 : vp_in (x3 + (1 : Int32)) L) (hv2 : vp_in (x3 + (2 : Int32)) L) (hv3 : vp_in (x3 + (3 : Int32)) L) (hv4 : vp_in (x3 + (4 : Int32)) L) (hv5 : vp_in (x3 + (5 : Int32)) L) {M : Mem} (H : Inv M) {s0 : Int32} {s1 : Int32} {s2 : Int32} (hs0 : s0 = if (xs ((x3 + (3 : Int32)).toNatClampNeg)) = 0 then 0 else 1) (hs1 : s1 = (xs ((x3 + (2 : Int32)).toNatClampNeg))) (hs2 : s2 = (xs ((x3 + (1 : Int32)).toNatClampNeg))) : J X G M 763 [(0, .ref b), (1, .ref (ad G 0)), (2, .ref (ad G 287)), (3, .int x3)] [.int s0, .int s1, .int s2, .ref (ad G 0)] := by
  subst hs1 hs2
  have h := P_paper H (xs ((x3 + (1 : Int32)).toNatClampNeg)) (xs ((x3 + (2 : Int32)).toNatClampNeg)) s0 (by rw [hs0]; exact bz_fi _)
  refine J.callVI (q := 766) [.int (xs ((x3 + (1 : Int32)).toNatClampNeg)), .int (xs ((x3 + (2 : Int32)).toNatClampNeg)), .int s0] [] [.int s0, .int (xs ((x3 + (2 : Int32)).toNatClampNeg)), .int (xs ((x3 + (1 : Int32)).toNatClampNeg)), .ref (ad G 0)] rfl O dL_law_763 rfl (c_X11_paper hG h) wd_4_27 mw_X11_paper io_0 rfl (by decide) (Nat.le_of_ble_eq_true rfl) (fun v262 M262 h => ?_)
  refine J.aload_n (q := 767) O dL_law_766 rfl 2 rfl ?_
  refine J.aload_n (q := 768) O dL_law_767 rfl 0 rfl ?_
  refine J.iload_n (q := 769) O dL_law_768 rfl 3 rfl ?_
  refine J.iconst (q := 770) (v := (1 : Int32)) O dL_law_769 rfl rfl ?_
  refine J.iadd (q := 771) O dL_law_770 rfl ?_
  have hv263 := hv1
  refine J.xld (q := 772) O dL_law_771 rfl OX hv263 ?_
  refine J.aload_n (q := 773) O dL_law_772 rfl 0 rfl ?_
  refine J.iload_n (q := 774) O dL_law_773 rfl 3 rfl ?_
  refine J.iconst (q := 775) (v := (2 : Int32)) O dL_law_774 rfl rfl ?_
  refine J.iadd (q := 776) O dL_law_775 rfl ?_
  have hv264 := hv2
  refine J.xld (q := 777) O dL_law_776 rfl OX hv264 ?_
  refine J.aload_n (q := 778) O dL_law_777 rfl 0 rfl ?_
  refine J.iload_n (q := 779) O dL_law_778 rfl 3 rfl ?_
  refine J.iconst (q := 780) (v := (3 : Int32)) O dL_law_779 rfl rfl ?_
  refine J.iadd (q := 781) O dL_law_780 rfl ?_
  have hv265 := hv3
  refine J.xld (q := 782) O dL_law_781 rfl OX hv265 ?_
  refine J.if_eq (q := 785) (tgt := 789) O dL_law_782 rfl (by decide) (fun z266 => ?_) (fun z266 => ?_)
  · replace hs0 := hs0.trans (if_pos z266)
    subst hs0
    refine J.iconst (q := 790) (v := (0 : Int32)) O dL_law_789 rfl rfl ?_
    exact J.sub [0, 1, 2, 3] rfl (jl_b790 hG O hR OX hr18 hv0 hv1 hv2 hv3 hv4 hv5 h)
  · replace hs0 := hs0.trans (if_neg z266)
    subst hs0
    refine J.iconst (q := 786) (v := (1 : Int32)) O dL_law_785 rfl rfl ?_
    refine J.goto (q := 790) O dL_law_786 (by decide) ?_
    exact J.sub [0, 1, 2, 3] rfl (jl_b790 hG O hR OX hr18 hv0 hv1 hv2 hv3 hv4 hv5 h)
set_option maxHeartbeats 4000000 in
set_option maxRecDepth 20000 in
theorem jl_b1377 {b L : Nat} {xs : Nat → Int32} {X : CX} {G : GX} (hG : Gd G) (O : Ok X G cL_law 4 RL 200) (hR : RetZ X G cL_law (fun r _ => r = 1)) (OX : OkX X G b L xs) {x3 : Int32} (hr18 : ∀ M, Inv M → J X G M 18 [(0, .ref b), (1, .ref (ad G 0)), (2, .ref (ad G 287)), (3, .int (x3 + (6 : Int32)))] []) (hv0 : vp_in x3 L) (hv1 : vp_in (x3 + (1 : Int32)) L) (hv2 : vp_in (x3 + (2 : Int32)) L) (hv3 : vp_in (x3 + (3 : Int32)) L) (hv4 : vp_in (x3 + (4 : Int32)) L) (hv5 : vp_in (x3 + (5 : Int32)) L) {s0 : Int32} {s1 : Int32} {s3 : Int32} {M : Mem} (h : f_X12_after s1 s0 M (fun r' M2 => r' = s3 ∧ Inv M2)) : J X G M 1377 [(0, .ref b), (1, .ref (ad G 0)), (2, .ref (ad G 287)), (3, .int x3)] [.int s0, .int s1, .ref (ad G 287), .int s3] := by
  refine J.callVI (q := 1380) [.int s1, .int s0] [.int s3] [.int s0, .int s1, .ref (ad G 287), .int s3] rfl O dL_law_1377 rfl (c_X12_after hG h) wd_8_175 mw_X12_after io_287 rfl (by decide) (Nat.le_of_ble_eq_true rfl) (fun v267 M267 h => ?_)
  refine J.icmp_eq (q := 1383) (tgt := 2282) O dL_law_1380 rfl (by decide) (fun z268 => ?_) (fun z268 => ?_)
  · exact J.sub [0, 1, 2, 3] rfl (jl_b2282 hG O hr18 h.2)
  · exact absurd h.1.symm z268
set_option maxHeartbeats 4000000 in
set_option maxRecDepth 20000 in
theorem jl_b1355 {b L : Nat} {xs : Nat → Int32} {X : CX} {G : GX} (hG : Gd G) (O : Ok X G cL_law 4 RL 200) (hR : RetZ X G cL_law (fun r _ => r = 1)) (OX : OkX X G b L xs) {x3 : Int32} (hr18 : ∀ M, Inv M → J X G M 18 [(0, .ref b), (1, .ref (ad G 0)), (2, .ref (ad G 287)), (3, .int (x3 + (6 : Int32)))] []) (hv0 : vp_in x3 L) (hv1 : vp_in (x3 + (1 : Int32)) L) (hv2 : vp_in (x3 + (2 : Int32)) L) (hv3 : vp_in (x3 + (3 : Int32)) L) (hv4 : vp_in (x3 + (4 : Int32)) L) (hv5 : vp_in (x3 + (5 : Int32)) L) {M : Mem} (H : Inv M) {s0 : Int32} {s1 : Int32} (hs0 : s0 = if (xs ((x3 + (2 : Int32)).toNatClampNeg)) = 0 then 0 else 1) (hs1 : s1 = (xs ((x3 + (1 : Int32)).toNatClampNeg))) : J X G M 1355 [(0, .ref b), (1, .ref (ad G 0)), (2, .ref (ad G 287)), (3, .int x3)] [.int s0, .int s1, .ref (ad G 0)] := by
  subst hs1
  have h := P_after (b := s0) H (xs ((x3 + (1 : Int32)).toNatClampNeg)) (by rw [hs0]; exact bz_fi _)
  refine J.callVI (q := 1358) [.int (xs ((x3 + (1 : Int32)).toNatClampNeg)), .int s0] [] [.int s0, .int (xs ((x3 + (1 : Int32)).toNatClampNeg)), .ref (ad G 0)] rfl O dL_law_1355 rfl (c_X11_after hG h) wd_4_212 mw_X11_after io_0 rfl (by decide) (Nat.le_of_ble_eq_true rfl) (fun v269 M269 h => ?_)
  refine J.aload_n (q := 1359) O dL_law_1358 rfl 2 rfl ?_
  refine J.aload_n (q := 1360) O dL_law_1359 rfl 0 rfl ?_
  refine J.iload_n (q := 1361) O dL_law_1360 rfl 3 rfl ?_
  refine J.iconst (q := 1362) (v := (1 : Int32)) O dL_law_1361 rfl rfl ?_
  refine J.iadd (q := 1363) O dL_law_1362 rfl ?_
  have hv270 := hv1
  refine J.xld (q := 1364) O dL_law_1363 rfl OX hv270 ?_
  refine J.aload_n (q := 1365) O dL_law_1364 rfl 0 rfl ?_
  refine J.iload_n (q := 1366) O dL_law_1365 rfl 3 rfl ?_
  refine J.iconst (q := 1367) (v := (2 : Int32)) O dL_law_1366 rfl rfl ?_
  refine J.iadd (q := 1368) O dL_law_1367 rfl ?_
  have hv271 := hv2
  refine J.xld (q := 1369) O dL_law_1368 rfl OX hv271 ?_
  refine J.if_eq (q := 1372) (tgt := 1376) O dL_law_1369 rfl (by decide) (fun z272 => ?_) (fun z272 => ?_)
  · replace hs0 := hs0.trans (if_pos z272)
    subst hs0
    refine J.iconst (q := 1377) (v := (0 : Int32)) O dL_law_1376 rfl rfl ?_
    exact J.sub [0, 1, 2, 3] rfl (jl_b1377 hG O hR OX hr18 hv0 hv1 hv2 hv3 hv4 hv5 h)
  · replace hs0 := hs0.trans (if_neg z272)
    subst hs0
    refine J.iconst (q := 1373) (v := (1 : Int32)) O dL_law_1372 rfl rfl ?_
    refine J.goto (q := 1377) O dL_law_1373 (by decide) ?_
    exact J.sub [0, 1, 2, 3] rfl (jl_b1377 hG O hR OX hr18 hv0 hv1 hv2 hv3 hv4 hv5 h)
set_option maxHeartbeats 4000000 in
set_option maxRecDepth 20000 in
theorem jl_b1499 {b L : Nat} {xs : Nat → Int32} {X : CX} {G : GX} (hG : Gd G) (O : Ok X G cL_law 4 RL 200) (hR : RetZ X G cL_law (fun r _ => r = 1)) (OX : OkX X G b L xs) {x3 : Int32} (hr18 : ∀ M, Inv M → J X G M 18 [(0, .ref b), (1, .ref (ad G 0)), (2, .ref (ad G 287)), (3, .int (x3 + (6 : Int32)))] []) (hv0 : vp_in x3 L) (hv1 : vp_in (x3 + (1 : Int32)) L) (hv2 : vp_in (x3 + (2 : Int32)) L) (hv3 : vp_in (x3 + (3 : Int32)) L) (hv4 : vp_in (x3 + (4 : Int32)) L) (hv5 : vp_in (x3 + (5 : Int32)) L) {s0 : Int32} {s1 : Int32} {s2 : Int32} {s3 : Int32} {s5 : Int32} {M : Mem} (h : f_X12_board s3 s2 s1 s0 M (fun r' M2 => r' = s5 ∧ Inv M2)) : J X G M 1499 [(0, .ref b), (1, .ref (ad G 0)), (2, .ref (ad G 287)), (3, .int x3)] [.int s0, .int s1, .int s2, .int s3, .ref (ad G 287), .int s5] := by
  refine J.callVI (q := 1502) [.int s3, .int s2, .int s1, .int s0] [.int s5] [.int s0, .int s1, .int s2, .int s3, .ref (ad G 287), .int s5] rfl O dL_law_1499 rfl (c_X12_board hG h) wd_8_187 mw_X12_board io_287 rfl (by decide) (Nat.le_of_ble_eq_true rfl) (fun v273 M273 h => ?_)
  refine J.icmp_eq (q := 1505) (tgt := 2282) O dL_law_1502 rfl (by decide) (fun z274 => ?_) (fun z274 => ?_)
  · exact J.sub [0, 1, 2, 3] rfl (jl_b2282 hG O hr18 h.2)
  · exact absurd h.1.symm z274
set_option maxHeartbeats 4000000 in
set_option maxRecDepth 20000 in
theorem jl_b1467 {b L : Nat} {xs : Nat → Int32} {X : CX} {G : GX} (hG : Gd G) (O : Ok X G cL_law 4 RL 200) (hR : RetZ X G cL_law (fun r _ => r = 1)) (OX : OkX X G b L xs) {x3 : Int32} (hr18 : ∀ M, Inv M → J X G M 18 [(0, .ref b), (1, .ref (ad G 0)), (2, .ref (ad G 287)), (3, .int (x3 + (6 : Int32)))] []) (hv0 : vp_in x3 L) (hv1 : vp_in (x3 + (1 : Int32)) L) (hv2 : vp_in (x3 + (2 : Int32)) L) (hv3 : vp_in (x3 + (3 : Int32)) L) (hv4 : vp_in (x3 + (4 : Int32)) L) (hv5 : vp_in (x3 + (5 : Int32)) L) {M : Mem} (H : Inv M) {s0 : Int32} {s1 : Int32} {s2 : Int32} {s3 : Int32} (hs0 : s0 = if (xs ((x3 + (4 : Int32)).toNatClampNeg)) = 0 then 0 else 1) (hs1 : s1 = (xs ((x3 + (3 : Int32)).toNatClampNeg))) (hs2 : s2 = (xs ((x3 + (2 : Int32)).toNatClampNeg))) (hs3 : s3 = (xs ((x3 + (1 : Int32)).toNatClampNeg))) : J X G M 1467 [(0, .ref b), (1, .ref (ad G 0)), (2, .ref (ad G 287)), (3, .int x3)] [.int s0, .int s1, .int s2, .int s3, .ref (ad G 0)] := by
  subst hs1 hs2 hs3
  have h := P_board H (xs ((x3 + (1 : Int32)).toNatClampNeg)) (xs ((x3 + (2 : Int32)).toNatClampNeg)) (xs ((x3 + (3 : Int32)).toNatClampNeg)) s0 (by rw [hs0]; exact bz_fi _)
  refine J.callVI (q := 1470) [.int (xs ((x3 + (1 : Int32)).toNatClampNeg)), .int (xs ((x3 + (2 : Int32)).toNatClampNeg)), .int (xs ((x3 + (3 : Int32)).toNatClampNeg)), .int s0] [] [.int s0, .int (xs ((x3 + (3 : Int32)).toNatClampNeg)), .int (xs ((x3 + (2 : Int32)).toNatClampNeg)), .int (xs ((x3 + (1 : Int32)).toNatClampNeg)), .ref (ad G 0)] rfl O dL_law_1467 rfl (c_X11_board hG h) wd_4_238 mw_X11_board io_0 rfl (by decide) (Nat.le_of_ble_eq_true rfl) (fun v275 M275 h => ?_)
  refine J.aload_n (q := 1471) O dL_law_1470 rfl 2 rfl ?_
  refine J.aload_n (q := 1472) O dL_law_1471 rfl 0 rfl ?_
  refine J.iload_n (q := 1473) O dL_law_1472 rfl 3 rfl ?_
  refine J.iconst (q := 1474) (v := (1 : Int32)) O dL_law_1473 rfl rfl ?_
  refine J.iadd (q := 1475) O dL_law_1474 rfl ?_
  have hv276 := hv1
  refine J.xld (q := 1476) O dL_law_1475 rfl OX hv276 ?_
  refine J.aload_n (q := 1477) O dL_law_1476 rfl 0 rfl ?_
  refine J.iload_n (q := 1478) O dL_law_1477 rfl 3 rfl ?_
  refine J.iconst (q := 1479) (v := (2 : Int32)) O dL_law_1478 rfl rfl ?_
  refine J.iadd (q := 1480) O dL_law_1479 rfl ?_
  have hv277 := hv2
  refine J.xld (q := 1481) O dL_law_1480 rfl OX hv277 ?_
  refine J.aload_n (q := 1482) O dL_law_1481 rfl 0 rfl ?_
  refine J.iload_n (q := 1483) O dL_law_1482 rfl 3 rfl ?_
  refine J.iconst (q := 1484) (v := (3 : Int32)) O dL_law_1483 rfl rfl ?_
  refine J.iadd (q := 1485) O dL_law_1484 rfl ?_
  have hv278 := hv3
  refine J.xld (q := 1486) O dL_law_1485 rfl OX hv278 ?_
  refine J.aload_n (q := 1487) O dL_law_1486 rfl 0 rfl ?_
  refine J.iload_n (q := 1488) O dL_law_1487 rfl 3 rfl ?_
  refine J.iconst (q := 1489) (v := (4 : Int32)) O dL_law_1488 rfl rfl ?_
  refine J.iadd (q := 1490) O dL_law_1489 rfl ?_
  have hv279 := hv4
  refine J.xld (q := 1491) O dL_law_1490 rfl OX hv279 ?_
  refine J.if_eq (q := 1494) (tgt := 1498) O dL_law_1491 rfl (by decide) (fun z280 => ?_) (fun z280 => ?_)
  · replace hs0 := hs0.trans (if_pos z280)
    subst hs0
    refine J.iconst (q := 1499) (v := (0 : Int32)) O dL_law_1498 rfl rfl ?_
    exact J.sub [0, 1, 2, 3] rfl (jl_b1499 hG O hR OX hr18 hv0 hv1 hv2 hv3 hv4 hv5 h)
  · replace hs0 := hs0.trans (if_neg z280)
    subst hs0
    refine J.iconst (q := 1495) (v := (1 : Int32)) O dL_law_1494 rfl rfl ?_
    refine J.goto (q := 1499) O dL_law_1495 (by decide) ?_
    exact J.sub [0, 1, 2, 3] rfl (jl_b1499 hG O hR OX hr18 hv0 hv1 hv2 hv3 hv4 hv5 h)
set_option maxHeartbeats 4000000 in
set_option maxRecDepth 20000 in
theorem jl_b1743 {b L : Nat} {xs : Nat → Int32} {X : CX} {G : GX} (hG : Gd G) (O : Ok X G cL_law 4 RL 200) (hR : RetZ X G cL_law (fun r _ => r = 1)) (OX : OkX X G b L xs) {x3 : Int32} (hr18 : ∀ M, Inv M → J X G M 18 [(0, .ref b), (1, .ref (ad G 0)), (2, .ref (ad G 287)), (3, .int (x3 + (6 : Int32)))] []) (hv0 : vp_in x3 L) (hv1 : vp_in (x3 + (1 : Int32)) L) (hv2 : vp_in (x3 + (2 : Int32)) L) (hv3 : vp_in (x3 + (3 : Int32)) L) (hv4 : vp_in (x3 + (4 : Int32)) L) (hv5 : vp_in (x3 + (5 : Int32)) L) {s0 : Int32} {s1 : Int32} {s2 : Int32} {s3 : Int32} {s5 : Int32} {M : Mem} (h : f_X12_wish s3 s2 s1 s0 M (fun r' M2 => r' = s5 ∧ Inv M2)) : J X G M 1743 [(0, .ref b), (1, .ref (ad G 0)), (2, .ref (ad G 287)), (3, .int x3)] [.int s0, .int s1, .int s2, .int s3, .ref (ad G 287), .int s5] := by
  refine J.callVI (q := 1746) [.int s3, .int s2, .int s1, .int s0] [.int s5] [.int s0, .int s1, .int s2, .int s3, .ref (ad G 287), .int s5] rfl O dL_law_1743 rfl (c_X12_wish hG h) wd_8_223 mw_X12_wish io_287 rfl (by decide) (Nat.le_of_ble_eq_true rfl) (fun v281 M281 h => ?_)
  refine J.icmp_eq (q := 1749) (tgt := 2282) O dL_law_1746 rfl (by decide) (fun z282 => ?_) (fun z282 => ?_)
  · exact J.sub [0, 1, 2, 3] rfl (jl_b2282 hG O hr18 h.2)
  · exact absurd h.1.symm z282
set_option maxHeartbeats 4000000 in
set_option maxRecDepth 20000 in
theorem jl_b1711 {b L : Nat} {xs : Nat → Int32} {X : CX} {G : GX} (hG : Gd G) (O : Ok X G cL_law 4 RL 200) (hR : RetZ X G cL_law (fun r _ => r = 1)) (OX : OkX X G b L xs) {x3 : Int32} (hr18 : ∀ M, Inv M → J X G M 18 [(0, .ref b), (1, .ref (ad G 0)), (2, .ref (ad G 287)), (3, .int (x3 + (6 : Int32)))] []) (hv0 : vp_in x3 L) (hv1 : vp_in (x3 + (1 : Int32)) L) (hv2 : vp_in (x3 + (2 : Int32)) L) (hv3 : vp_in (x3 + (3 : Int32)) L) (hv4 : vp_in (x3 + (4 : Int32)) L) (hv5 : vp_in (x3 + (5 : Int32)) L) {M : Mem} (H : Inv M) {s0 : Int32} {s1 : Int32} {s2 : Int32} {s3 : Int32} (hs0 : s0 = if (xs ((x3 + (4 : Int32)).toNatClampNeg)) = 0 then 0 else 1) (hs1 : s1 = (xs ((x3 + (3 : Int32)).toNatClampNeg))) (hs2 : s2 = (xs ((x3 + (2 : Int32)).toNatClampNeg))) (hs3 : s3 = (xs ((x3 + (1 : Int32)).toNatClampNeg))) : J X G M 1711 [(0, .ref b), (1, .ref (ad G 0)), (2, .ref (ad G 287)), (3, .int x3)] [.int s0, .int s1, .int s2, .int s3, .ref (ad G 0)] := by
  subst hs1 hs2 hs3
  have h := P_wish H (xs ((x3 + (1 : Int32)).toNatClampNeg)) (xs ((x3 + (2 : Int32)).toNatClampNeg)) (xs ((x3 + (3 : Int32)).toNatClampNeg)) s0 (by rw [hs0]; exact bz_fi _)
  refine J.callVI (q := 1714) [.int (xs ((x3 + (1 : Int32)).toNatClampNeg)), .int (xs ((x3 + (2 : Int32)).toNatClampNeg)), .int (xs ((x3 + (3 : Int32)).toNatClampNeg)), .int s0] [] [.int s0, .int (xs ((x3 + (3 : Int32)).toNatClampNeg)), .int (xs ((x3 + (2 : Int32)).toNatClampNeg)), .int (xs ((x3 + (1 : Int32)).toNatClampNeg)), .ref (ad G 0)] rfl O dL_law_1711 rfl (c_X11_wish hG h) wd_5_58 mw_X11_wish io_0 rfl (by decide) (Nat.le_of_ble_eq_true rfl) (fun v283 M283 h => ?_)
  refine J.aload_n (q := 1715) O dL_law_1714 rfl 2 rfl ?_
  refine J.aload_n (q := 1716) O dL_law_1715 rfl 0 rfl ?_
  refine J.iload_n (q := 1717) O dL_law_1716 rfl 3 rfl ?_
  refine J.iconst (q := 1718) (v := (1 : Int32)) O dL_law_1717 rfl rfl ?_
  refine J.iadd (q := 1719) O dL_law_1718 rfl ?_
  have hv284 := hv1
  refine J.xld (q := 1720) O dL_law_1719 rfl OX hv284 ?_
  refine J.aload_n (q := 1721) O dL_law_1720 rfl 0 rfl ?_
  refine J.iload_n (q := 1722) O dL_law_1721 rfl 3 rfl ?_
  refine J.iconst (q := 1723) (v := (2 : Int32)) O dL_law_1722 rfl rfl ?_
  refine J.iadd (q := 1724) O dL_law_1723 rfl ?_
  have hv285 := hv2
  refine J.xld (q := 1725) O dL_law_1724 rfl OX hv285 ?_
  refine J.aload_n (q := 1726) O dL_law_1725 rfl 0 rfl ?_
  refine J.iload_n (q := 1727) O dL_law_1726 rfl 3 rfl ?_
  refine J.iconst (q := 1728) (v := (3 : Int32)) O dL_law_1727 rfl rfl ?_
  refine J.iadd (q := 1729) O dL_law_1728 rfl ?_
  have hv286 := hv3
  refine J.xld (q := 1730) O dL_law_1729 rfl OX hv286 ?_
  refine J.aload_n (q := 1731) O dL_law_1730 rfl 0 rfl ?_
  refine J.iload_n (q := 1732) O dL_law_1731 rfl 3 rfl ?_
  refine J.iconst (q := 1733) (v := (4 : Int32)) O dL_law_1732 rfl rfl ?_
  refine J.iadd (q := 1734) O dL_law_1733 rfl ?_
  have hv287 := hv4
  refine J.xld (q := 1735) O dL_law_1734 rfl OX hv287 ?_
  refine J.if_eq (q := 1738) (tgt := 1742) O dL_law_1735 rfl (by decide) (fun z288 => ?_) (fun z288 => ?_)
  · replace hs0 := hs0.trans (if_pos z288)
    subst hs0
    refine J.iconst (q := 1743) (v := (0 : Int32)) O dL_law_1742 rfl rfl ?_
    exact J.sub [0, 1, 2, 3] rfl (jl_b1743 hG O hR OX hr18 hv0 hv1 hv2 hv3 hv4 hv5 h)
  · replace hs0 := hs0.trans (if_neg z288)
    subst hs0
    refine J.iconst (q := 1739) (v := (1 : Int32)) O dL_law_1738 rfl rfl ?_
    refine J.goto (q := 1743) O dL_law_1739 (by decide) ?_
    exact J.sub [0, 1, 2, 3] rfl (jl_b1743 hG O hR OX hr18 hv0 hv1 hv2 hv3 hv4 hv5 h)
set_option maxHeartbeats 4000000 in
set_option maxRecDepth 20000 in
theorem jl_step {b L : Nat} {xs : Nat → Int32} {X : CX} {G : GX} (hG : Gd G) (O : Ok X G cL_law 4 RL 200) (hR : RetZ X G cL_law (fun r _ => r = 1)) (OX : OkX X G b L xs) {x3 : Int32} (hr18 : ∀ M, Inv M → J X G M 18 [(0, .ref b), (1, .ref (ad G 0)), (2, .ref (ad G 287)), (3, .int (x3 + (6 : Int32)))] []) (hv0 : vp_in x3 L) (hv1 : vp_in (x3 + (1 : Int32)) L) (hv2 : vp_in (x3 + (2 : Int32)) L) (hv3 : vp_in (x3 + (3 : Int32)) L) (hv4 : vp_in (x3 + (4 : Int32)) L) (hv5 : vp_in (x3 + (5 : Int32)) L) {M : Mem} (H : Inv M) : J X G M 27 [(0, .ref b), (1, .ref (ad G 0)), (2, .ref (ad G 287)), (3, .int x3)] [] := by
  refine J.aload_n (q := 28) O dL_law_27 rfl 0 rfl ?_
  refine J.iload_n (q := 29) O dL_law_28 rfl 3 rfl ?_
  have hv290 := hv0
  refine J.xld (q := 30) O dL_law_29 rfl OX hv290 ?_
  refine J.bipush (q := 32) (v := (63 : Int32)) O dL_law_30 rfl rfl ?_
  refine J.iand (q := 33) O dL_law_32 rfl ?_
  rcases tsw_cov ((xs x3.toNatClampNeg) &&& (63 : Int32)) (0) 53 (by decide) with z291 | ⟨j, hj, z291⟩
  · refine J.tswOut (q := 2282) O dL_law_33 (by omega) (by decide) ?_
    exact J.sub [0, 1, 2, 3] rfl (jl_b2282 hG O hr18 H)
  · match j, hj, z291 with
    | 0, _, z291 =>
      have z291 : ((xs x3.toNatClampNeg) &&& (63 : Int32)) = (0 : Int32) := z291.trans (by decide)
      have h := P_days H (xs ((x3 + (1 : Int32)).toNatClampNeg))
      refine J.tswIn (q := 264) O dL_law_33 (0 : Int32) z291 (by decide) (by decide) rfl (by decide) ?_
      refine J.aload_n (q := 265) O dL_law_264 rfl 1 rfl ?_
      refine J.aload_n (q := 266) O dL_law_265 rfl 0 rfl ?_
      refine J.iload_n (q := 267) O dL_law_266 rfl 3 rfl ?_
      refine J.iconst (q := 268) (v := (1 : Int32)) O dL_law_267 rfl rfl ?_
      refine J.iadd (q := 269) O dL_law_268 rfl ?_
      have hv292 := hv1
      refine J.xld (q := 270) O dL_law_269 rfl OX hv292 ?_
      refine J.callVI (q := 273) [.int (xs ((x3 + (1 : Int32)).toNatClampNeg))] [] [.int (xs ((x3 + (1 : Int32)).toNatClampNeg)), .ref (ad G 0)] rfl O dL_law_270 rfl (c_X11_days hG h) wd_3_51 mw_X11_days io_0 rfl (by decide) (Nat.le_of_ble_eq_true rfl) (fun v293 M293 h => ?_)
      refine J.aload_n (q := 274) O dL_law_273 rfl 2 rfl ?_
      refine J.aload_n (q := 275) O dL_law_274 rfl 0 rfl ?_
      refine J.iload_n (q := 276) O dL_law_275 rfl 3 rfl ?_
      refine J.iconst (q := 277) (v := (1 : Int32)) O dL_law_276 rfl rfl ?_
      refine J.iadd (q := 278) O dL_law_277 rfl ?_
      have hv294 := hv1
      refine J.xld (q := 279) O dL_law_278 rfl OX hv294 ?_
      refine J.callVI (q := 282) [.int (xs ((x3 + (1 : Int32)).toNatClampNeg))] [.int v293] [.int (xs ((x3 + (1 : Int32)).toNatClampNeg)), .ref (ad G 287), .int v293] rfl O dL_law_279 rfl (c_X12_days hG h) wd_7_154 mw_X12_days io_287 rfl (by decide) (Nat.le_of_ble_eq_true rfl) (fun v295 M295 h => ?_)
      refine J.icmp_eq (q := 285) (tgt := 2282) O dL_law_282 rfl (by decide) (fun z296 => ?_) (fun z296 => ?_)
      · exact J.sub [0, 1, 2, 3] rfl (jl_b2282 hG O hr18 h.2)
      · exact absurd h.1.symm z296
    | 1, _, z291 =>
      have z291 : ((xs x3.toNatClampNeg) &&& (63 : Int32)) = (1 : Int32) := z291.trans (by decide)
      have h := P_feast H (xs ((x3 + (1 : Int32)).toNatClampNeg))
      refine J.tswIn (q := 287) O dL_law_33 (1 : Int32) z291 (by decide) (by decide) rfl (by decide) ?_
      refine J.aload_n (q := 288) O dL_law_287 rfl 1 rfl ?_
      refine J.aload_n (q := 289) O dL_law_288 rfl 0 rfl ?_
      refine J.iload_n (q := 290) O dL_law_289 rfl 3 rfl ?_
      refine J.iconst (q := 291) (v := (1 : Int32)) O dL_law_290 rfl rfl ?_
      refine J.iadd (q := 292) O dL_law_291 rfl ?_
      have hv297 := hv1
      refine J.xld (q := 293) O dL_law_292 rfl OX hv297 ?_
      refine J.callVI (q := 296) [.int (xs ((x3 + (1 : Int32)).toNatClampNeg))] [] [.int (xs ((x3 + (1 : Int32)).toNatClampNeg)), .ref (ad G 0)] rfl O dL_law_293 rfl (c_X11_feast hG h) wd_3_59 mw_X11_feast io_0 rfl (by decide) (Nat.le_of_ble_eq_true rfl) (fun v298 M298 h => ?_)
      refine J.aload_n (q := 297) O dL_law_296 rfl 2 rfl ?_
      refine J.aload_n (q := 298) O dL_law_297 rfl 0 rfl ?_
      refine J.iload_n (q := 299) O dL_law_298 rfl 3 rfl ?_
      refine J.iconst (q := 300) (v := (1 : Int32)) O dL_law_299 rfl rfl ?_
      refine J.iadd (q := 301) O dL_law_300 rfl ?_
      have hv299 := hv1
      refine J.xld (q := 302) O dL_law_301 rfl OX hv299 ?_
      refine J.callVI (q := 305) [.int (xs ((x3 + (1 : Int32)).toNatClampNeg))] [.int v298] [.int (xs ((x3 + (1 : Int32)).toNatClampNeg)), .ref (ad G 287), .int v298] rfl O dL_law_302 rfl (c_X12_feast hG h) wd_7_162 mw_X12_feast io_287 rfl (by decide) (Nat.le_of_ble_eq_true rfl) (fun v300 M300 h => ?_)
      refine J.icmp_eq (q := 308) (tgt := 2282) O dL_law_305 rfl (by decide) (fun z301 => ?_) (fun z301 => ?_)
      · exact J.sub [0, 1, 2, 3] rfl (jl_b2282 hG O hr18 h.2)
      · exact absurd h.1.symm z301
    | 2, _, z291 =>
      have z291 : ((xs x3.toNatClampNeg) &&& (63 : Int32)) = (2 : Int32) := z291.trans (by decide)
      have h := P_workdays H (xs ((x3 + (1 : Int32)).toNatClampNeg)) (xs ((x3 + (2 : Int32)).toNatClampNeg))
      refine J.tswIn (q := 310) O dL_law_33 (2 : Int32) z291 (by decide) (by decide) rfl (by decide) ?_
      refine J.aload_n (q := 311) O dL_law_310 rfl 1 rfl ?_
      refine J.aload_n (q := 312) O dL_law_311 rfl 0 rfl ?_
      refine J.iload_n (q := 313) O dL_law_312 rfl 3 rfl ?_
      refine J.iconst (q := 314) (v := (1 : Int32)) O dL_law_313 rfl rfl ?_
      refine J.iadd (q := 315) O dL_law_314 rfl ?_
      have hv302 := hv1
      refine J.xld (q := 316) O dL_law_315 rfl OX hv302 ?_
      refine J.aload_n (q := 317) O dL_law_316 rfl 0 rfl ?_
      refine J.iload_n (q := 318) O dL_law_317 rfl 3 rfl ?_
      refine J.iconst (q := 319) (v := (2 : Int32)) O dL_law_318 rfl rfl ?_
      refine J.iadd (q := 320) O dL_law_319 rfl ?_
      have hv303 := hv2
      refine J.xld (q := 321) O dL_law_320 rfl OX hv303 ?_
      refine J.callVI (q := 324) [.int (xs ((x3 + (1 : Int32)).toNatClampNeg)), .int (xs ((x3 + (2 : Int32)).toNatClampNeg))] [] [.int (xs ((x3 + (2 : Int32)).toNatClampNeg)), .int (xs ((x3 + (1 : Int32)).toNatClampNeg)), .ref (ad G 0)] rfl O dL_law_321 rfl (c_X11_workdays hG h) wd_3_70 mw_X11_workdays io_0 rfl (by decide) (Nat.le_of_ble_eq_true rfl) (fun v304 M304 h => ?_)
      refine J.aload_n (q := 325) O dL_law_324 rfl 2 rfl ?_
      refine J.aload_n (q := 326) O dL_law_325 rfl 0 rfl ?_
      refine J.iload_n (q := 327) O dL_law_326 rfl 3 rfl ?_
      refine J.iconst (q := 328) (v := (1 : Int32)) O dL_law_327 rfl rfl ?_
      refine J.iadd (q := 329) O dL_law_328 rfl ?_
      have hv305 := hv1
      refine J.xld (q := 330) O dL_law_329 rfl OX hv305 ?_
      refine J.aload_n (q := 331) O dL_law_330 rfl 0 rfl ?_
      refine J.iload_n (q := 332) O dL_law_331 rfl 3 rfl ?_
      refine J.iconst (q := 333) (v := (2 : Int32)) O dL_law_332 rfl rfl ?_
      refine J.iadd (q := 334) O dL_law_333 rfl ?_
      have hv306 := hv2
      refine J.xld (q := 335) O dL_law_334 rfl OX hv306 ?_
      refine J.callVI (q := 338) [.int (xs ((x3 + (1 : Int32)).toNatClampNeg)), .int (xs ((x3 + (2 : Int32)).toNatClampNeg))] [.int v304] [.int (xs ((x3 + (2 : Int32)).toNatClampNeg)), .int (xs ((x3 + (1 : Int32)).toNatClampNeg)), .ref (ad G 287), .int v304] rfl O dL_law_335 rfl (c_X12_workdays hG h) wd_7_166 mw_X12_workdays io_287 rfl (by decide) (Nat.le_of_ble_eq_true rfl) (fun v307 M307 h => ?_)
      refine J.icmp_eq (q := 341) (tgt := 2282) O dL_law_338 rfl (by decide) (fun z308 => ?_) (fun z308 => ?_)
      · exact J.sub [0, 1, 2, 3] rfl (jl_b2282 hG O hr18 h.2)
      · exact absurd h.1.symm z308
    | 3, _, z291 =>
      have z291 : ((xs x3.toNatClampNeg) &&& (63 : Int32)) = (3 : Int32) := z291.trans (by decide)
      have h := P_person H (xs ((x3 + (1 : Int32)).toNatClampNeg)) (xs ((x3 + (2 : Int32)).toNatClampNeg)) (xs ((x3 + (3 : Int32)).toNatClampNeg)) (xs ((x3 + (4 : Int32)).toNatClampNeg)) (xs ((x3 + (5 : Int32)).toNatClampNeg))
      refine J.tswIn (q := 343) O dL_law_33 (3 : Int32) z291 (by decide) (by decide) rfl (by decide) ?_
      refine J.aload_n (q := 344) O dL_law_343 rfl 1 rfl ?_
      refine J.aload_n (q := 345) O dL_law_344 rfl 0 rfl ?_
      refine J.iload_n (q := 346) O dL_law_345 rfl 3 rfl ?_
      refine J.iconst (q := 347) (v := (1 : Int32)) O dL_law_346 rfl rfl ?_
      refine J.iadd (q := 348) O dL_law_347 rfl ?_
      have hv309 := hv1
      refine J.xld (q := 349) O dL_law_348 rfl OX hv309 ?_
      refine J.aload_n (q := 350) O dL_law_349 rfl 0 rfl ?_
      refine J.iload_n (q := 351) O dL_law_350 rfl 3 rfl ?_
      refine J.iconst (q := 352) (v := (2 : Int32)) O dL_law_351 rfl rfl ?_
      refine J.iadd (q := 353) O dL_law_352 rfl ?_
      have hv310 := hv2
      refine J.xld (q := 354) O dL_law_353 rfl OX hv310 ?_
      refine J.aload_n (q := 355) O dL_law_354 rfl 0 rfl ?_
      refine J.iload_n (q := 356) O dL_law_355 rfl 3 rfl ?_
      refine J.iconst (q := 357) (v := (3 : Int32)) O dL_law_356 rfl rfl ?_
      refine J.iadd (q := 358) O dL_law_357 rfl ?_
      have hv311 := hv3
      refine J.xld (q := 359) O dL_law_358 rfl OX hv311 ?_
      refine J.aload_n (q := 360) O dL_law_359 rfl 0 rfl ?_
      refine J.iload_n (q := 361) O dL_law_360 rfl 3 rfl ?_
      refine J.iconst (q := 362) (v := (4 : Int32)) O dL_law_361 rfl rfl ?_
      refine J.iadd (q := 363) O dL_law_362 rfl ?_
      have hv312 := hv4
      refine J.xld (q := 364) O dL_law_363 rfl OX hv312 ?_
      refine J.aload_n (q := 365) O dL_law_364 rfl 0 rfl ?_
      refine J.iload_n (q := 366) O dL_law_365 rfl 3 rfl ?_
      refine J.iconst (q := 367) (v := (5 : Int32)) O dL_law_366 rfl rfl ?_
      refine J.iadd (q := 368) O dL_law_367 rfl ?_
      have hv313 := hv5
      refine J.xld (q := 369) O dL_law_368 rfl OX hv313 ?_
      refine J.callVI (q := 372) [.int (xs ((x3 + (1 : Int32)).toNatClampNeg)), .int (xs ((x3 + (2 : Int32)).toNatClampNeg)), .int (xs ((x3 + (3 : Int32)).toNatClampNeg)), .int (xs ((x3 + (4 : Int32)).toNatClampNeg)), .int (xs ((x3 + (5 : Int32)).toNatClampNeg))] [] [.int (xs ((x3 + (5 : Int32)).toNatClampNeg)), .int (xs ((x3 + (4 : Int32)).toNatClampNeg)), .int (xs ((x3 + (3 : Int32)).toNatClampNeg)), .int (xs ((x3 + (2 : Int32)).toNatClampNeg)), .int (xs ((x3 + (1 : Int32)).toNatClampNeg)), .ref (ad G 0)] rfl O dL_law_369 rfl (c_X11_person hG h) wd_3_84 mw_X11_person io_0 rfl (by decide) (Nat.le_of_ble_eq_true rfl) (fun v314 M314 h => ?_)
      refine J.aload_n (q := 373) O dL_law_372 rfl 2 rfl ?_
      refine J.aload_n (q := 374) O dL_law_373 rfl 0 rfl ?_
      refine J.iload_n (q := 375) O dL_law_374 rfl 3 rfl ?_
      refine J.iconst (q := 376) (v := (1 : Int32)) O dL_law_375 rfl rfl ?_
      refine J.iadd (q := 377) O dL_law_376 rfl ?_
      have hv315 := hv1
      refine J.xld (q := 378) O dL_law_377 rfl OX hv315 ?_
      refine J.aload_n (q := 379) O dL_law_378 rfl 0 rfl ?_
      refine J.iload_n (q := 380) O dL_law_379 rfl 3 rfl ?_
      refine J.iconst (q := 381) (v := (2 : Int32)) O dL_law_380 rfl rfl ?_
      refine J.iadd (q := 382) O dL_law_381 rfl ?_
      have hv316 := hv2
      refine J.xld (q := 383) O dL_law_382 rfl OX hv316 ?_
      refine J.aload_n (q := 384) O dL_law_383 rfl 0 rfl ?_
      refine J.iload_n (q := 385) O dL_law_384 rfl 3 rfl ?_
      refine J.iconst (q := 386) (v := (3 : Int32)) O dL_law_385 rfl rfl ?_
      refine J.iadd (q := 387) O dL_law_386 rfl ?_
      have hv317 := hv3
      refine J.xld (q := 388) O dL_law_387 rfl OX hv317 ?_
      refine J.aload_n (q := 389) O dL_law_388 rfl 0 rfl ?_
      refine J.iload_n (q := 390) O dL_law_389 rfl 3 rfl ?_
      refine J.iconst (q := 391) (v := (4 : Int32)) O dL_law_390 rfl rfl ?_
      refine J.iadd (q := 392) O dL_law_391 rfl ?_
      have hv318 := hv4
      refine J.xld (q := 393) O dL_law_392 rfl OX hv318 ?_
      refine J.aload_n (q := 394) O dL_law_393 rfl 0 rfl ?_
      refine J.iload_n (q := 395) O dL_law_394 rfl 3 rfl ?_
      refine J.iconst (q := 396) (v := (5 : Int32)) O dL_law_395 rfl rfl ?_
      refine J.iadd (q := 397) O dL_law_396 rfl ?_
      have hv319 := hv5
      refine J.xld (q := 398) O dL_law_397 rfl OX hv319 ?_
      refine J.callVI (q := 401) [.int (xs ((x3 + (1 : Int32)).toNatClampNeg)), .int (xs ((x3 + (2 : Int32)).toNatClampNeg)), .int (xs ((x3 + (3 : Int32)).toNatClampNeg)), .int (xs ((x3 + (4 : Int32)).toNatClampNeg)), .int (xs ((x3 + (5 : Int32)).toNatClampNeg))] [.int v314] [.int (xs ((x3 + (5 : Int32)).toNatClampNeg)), .int (xs ((x3 + (4 : Int32)).toNatClampNeg)), .int (xs ((x3 + (3 : Int32)).toNatClampNeg)), .int (xs ((x3 + (2 : Int32)).toNatClampNeg)), .int (xs ((x3 + (1 : Int32)).toNatClampNeg)), .ref (ad G 287), .int v314] rfl O dL_law_398 rfl (c_X12_person hG h) wd_7_174 mw_X12_person io_287 rfl (by decide) (Nat.le_of_ble_eq_true rfl) (fun v320 M320 h => ?_)
      refine J.icmp_eq (q := 404) (tgt := 2282) O dL_law_401 rfl (by decide) (fun z321 => ?_) (fun z321 => ?_)
      · exact J.sub [0, 1, 2, 3] rfl (jl_b2282 hG O hr18 h.2)
      · exact absurd h.1.symm z321
    | 4, _, z291 =>
      have z291 : ((xs x3.toNatClampNeg) &&& (63 : Int32)) = (4 : Int32) := z291.trans (by decide)
      have h := P_leave H (xs ((x3 + (1 : Int32)).toNatClampNeg))
      refine J.tswIn (q := 406) O dL_law_33 (4 : Int32) z291 (by decide) (by decide) rfl (by decide) ?_
      refine J.aload_n (q := 407) O dL_law_406 rfl 1 rfl ?_
      refine J.aload_n (q := 408) O dL_law_407 rfl 0 rfl ?_
      refine J.iload_n (q := 409) O dL_law_408 rfl 3 rfl ?_
      refine J.iconst (q := 410) (v := (1 : Int32)) O dL_law_409 rfl rfl ?_
      refine J.iadd (q := 411) O dL_law_410 rfl ?_
      have hv322 := hv1
      refine J.xld (q := 412) O dL_law_411 rfl OX hv322 ?_
      refine J.callVI (q := 415) [.int (xs ((x3 + (1 : Int32)).toNatClampNeg))] [] [.int (xs ((x3 + (1 : Int32)).toNatClampNeg)), .ref (ad G 0)] rfl O dL_law_412 rfl (c_X11_leave hG h) wd_3_102 mw_X11_leave io_0 rfl (by decide) (Nat.le_of_ble_eq_true rfl) (fun v323 M323 h => ?_)
      refine J.aload_n (q := 416) O dL_law_415 rfl 2 rfl ?_
      refine J.aload_n (q := 417) O dL_law_416 rfl 0 rfl ?_
      refine J.iload_n (q := 418) O dL_law_417 rfl 3 rfl ?_
      refine J.iconst (q := 419) (v := (1 : Int32)) O dL_law_418 rfl rfl ?_
      refine J.iadd (q := 420) O dL_law_419 rfl ?_
      have hv324 := hv1
      refine J.xld (q := 421) O dL_law_420 rfl OX hv324 ?_
      refine J.callVI (q := 424) [.int (xs ((x3 + (1 : Int32)).toNatClampNeg))] [.int v323] [.int (xs ((x3 + (1 : Int32)).toNatClampNeg)), .ref (ad G 287), .int v323] rfl O dL_law_421 rfl (c_X12_leave hG h) wd_7_184 mw_X12_leave io_287 rfl (by decide) (Nat.le_of_ble_eq_true rfl) (fun v325 M325 h => ?_)
      refine J.icmp_eq (q := 427) (tgt := 2282) O dL_law_424 rfl (by decide) (fun z326 => ?_) (fun z326 => ?_)
      · exact J.sub [0, 1, 2, 3] rfl (jl_b2282 hG O hr18 h.2)
      · exact absurd h.1.symm z326
    | 5, _, z291 =>
      have z291 : ((xs x3.toNatClampNeg) &&& (63 : Int32)) = (5 : Int32) := z291.trans (by decide)
      have h := P_feed H (xs ((x3 + (1 : Int32)).toNatClampNeg)) (((xs ((x3 + (2 : Int32)).toNatClampNeg)).toInt64 <<< ((32 : Int32).toInt64 &&& 63)) ||| ((xs ((x3 + (3 : Int32)).toNatClampNeg)).toInt64 &&& (4294967295 : Int64)))
      refine J.tswIn (q := 429) O dL_law_33 (5 : Int32) z291 (by decide) (by decide) rfl (by decide) ?_
      refine J.aload_n (q := 430) O dL_law_429 rfl 1 rfl ?_
      refine J.aload_n (q := 431) O dL_law_430 rfl 0 rfl ?_
      refine J.iload_n (q := 432) O dL_law_431 rfl 3 rfl ?_
      refine J.iconst (q := 433) (v := (1 : Int32)) O dL_law_432 rfl rfl ?_
      refine J.iadd (q := 434) O dL_law_433 rfl ?_
      have hv327 := hv1
      refine J.xld (q := 435) O dL_law_434 rfl OX hv327 ?_
      refine J.aload_n (q := 436) O dL_law_435 rfl 0 rfl ?_
      refine J.iload_n (q := 437) O dL_law_436 rfl 3 rfl ?_
      refine J.iconst (q := 438) (v := (2 : Int32)) O dL_law_437 rfl rfl ?_
      refine J.iadd (q := 439) O dL_law_438 rfl ?_
      have hv328 := hv2
      refine J.xld (q := 440) O dL_law_439 rfl OX hv328 ?_
      refine J.i2l (q := 441) O dL_law_440 rfl ?_
      refine J.bipush (q := 443) (v := (32 : Int32)) O dL_law_441 rfl rfl ?_
      refine J.lshl (q := 444) O dL_law_443 rfl ?_
      refine J.aload_n (q := 445) O dL_law_444 rfl 0 rfl ?_
      refine J.iload_n (q := 446) O dL_law_445 rfl 3 rfl ?_
      refine J.iconst (q := 447) (v := (3 : Int32)) O dL_law_446 rfl rfl ?_
      refine J.iadd (q := 448) O dL_law_447 rfl ?_
      have hv329 := hv3
      refine J.xld (q := 449) O dL_law_448 rfl OX hv329 ?_
      refine J.i2l (q := 450) O dL_law_449 rfl ?_
      refine J.ldc2 (q := 453) O dL_law_450 rfl wd_9_113 ?_
      refine J.land (q := 454) O dL_law_453 rfl ?_
      refine J.lor (q := 455) O dL_law_454 rfl ?_
      refine J.callVI (q := 458) [.int (xs ((x3 + (1 : Int32)).toNatClampNeg)), .long (((xs ((x3 + (2 : Int32)).toNatClampNeg)).toInt64 <<< ((32 : Int32).toInt64 &&& 63)) ||| ((xs ((x3 + (3 : Int32)).toNatClampNeg)).toInt64 &&& (4294967295 : Int64)))] [] [.long (((xs ((x3 + (2 : Int32)).toNatClampNeg)).toInt64 <<< ((32 : Int32).toInt64 &&& 63)) ||| ((xs ((x3 + (3 : Int32)).toNatClampNeg)).toInt64 &&& (4294967295 : Int64))), .int (xs ((x3 + (1 : Int32)).toNatClampNeg)), .ref (ad G 0)] rfl O dL_law_455 rfl (c_X11_feed hG h) wd_3_110 mw_X11_feed io_0 rfl (by decide) (Nat.le_of_ble_eq_true rfl) (fun v330 M330 h => ?_)
      refine J.aload_n (q := 459) O dL_law_458 rfl 2 rfl ?_
      refine J.aload_n (q := 460) O dL_law_459 rfl 0 rfl ?_
      refine J.iload_n (q := 461) O dL_law_460 rfl 3 rfl ?_
      refine J.iconst (q := 462) (v := (1 : Int32)) O dL_law_461 rfl rfl ?_
      refine J.iadd (q := 463) O dL_law_462 rfl ?_
      have hv331 := hv1
      refine J.xld (q := 464) O dL_law_463 rfl OX hv331 ?_
      refine J.aload_n (q := 465) O dL_law_464 rfl 0 rfl ?_
      refine J.iload_n (q := 466) O dL_law_465 rfl 3 rfl ?_
      refine J.iconst (q := 467) (v := (2 : Int32)) O dL_law_466 rfl rfl ?_
      refine J.iadd (q := 468) O dL_law_467 rfl ?_
      have hv332 := hv2
      refine J.xld (q := 469) O dL_law_468 rfl OX hv332 ?_
      refine J.i2l (q := 470) O dL_law_469 rfl ?_
      refine J.bipush (q := 472) (v := (32 : Int32)) O dL_law_470 rfl rfl ?_
      refine J.lshl (q := 473) O dL_law_472 rfl ?_
      refine J.aload_n (q := 474) O dL_law_473 rfl 0 rfl ?_
      refine J.iload_n (q := 475) O dL_law_474 rfl 3 rfl ?_
      refine J.iconst (q := 476) (v := (3 : Int32)) O dL_law_475 rfl rfl ?_
      refine J.iadd (q := 477) O dL_law_476 rfl ?_
      have hv333 := hv3
      refine J.xld (q := 478) O dL_law_477 rfl OX hv333 ?_
      refine J.i2l (q := 479) O dL_law_478 rfl ?_
      refine J.ldc2 (q := 482) O dL_law_479 rfl wd_9_113 ?_
      refine J.land (q := 483) O dL_law_482 rfl ?_
      refine J.lor (q := 484) O dL_law_483 rfl ?_
      refine J.callVI (q := 487) [.int (xs ((x3 + (1 : Int32)).toNatClampNeg)), .long (((xs ((x3 + (2 : Int32)).toNatClampNeg)).toInt64 <<< ((32 : Int32).toInt64 &&& 63)) ||| ((xs ((x3 + (3 : Int32)).toNatClampNeg)).toInt64 &&& (4294967295 : Int64)))] [.int v330] [.long (((xs ((x3 + (2 : Int32)).toNatClampNeg)).toInt64 <<< ((32 : Int32).toInt64 &&& 63)) ||| ((xs ((x3 + (3 : Int32)).toNatClampNeg)).toInt64 &&& (4294967295 : Int64))), .int (xs ((x3 + (1 : Int32)).toNatClampNeg)), .ref (ad G 287), .int v330] rfl O dL_law_484 rfl (c_X12_feed hG h) wd_7_192 mw_X12_feed io_287 rfl (by decide) (Nat.le_of_ble_eq_true rfl) (fun v334 M334 h => ?_)
      refine J.icmp_eq (q := 490) (tgt := 2282) O dL_law_487 rfl (by decide) (fun z335 => ?_) (fun z335 => ?_)
      · exact J.sub [0, 1, 2, 3] rfl (jl_b2282 hG O hr18 h.2)
      · exact absurd h.1.symm z335
    | 6, _, z291 =>
      have z291 : ((xs x3.toNatClampNeg) &&& (63 : Int32)) = (6 : Int32) := z291.trans (by decide)
      have h := P_act H (xs ((x3 + (1 : Int32)).toNatClampNeg))
      refine J.tswIn (q := 492) O dL_law_33 (6 : Int32) z291 (by decide) (by decide) rfl (by decide) ?_
      refine J.aload_n (q := 493) O dL_law_492 rfl 1 rfl ?_
      refine J.aload_n (q := 494) O dL_law_493 rfl 0 rfl ?_
      refine J.iload_n (q := 495) O dL_law_494 rfl 3 rfl ?_
      refine J.iconst (q := 496) (v := (1 : Int32)) O dL_law_495 rfl rfl ?_
      refine J.iadd (q := 497) O dL_law_496 rfl ?_
      have hv336 := hv1
      refine J.xld (q := 498) O dL_law_497 rfl OX hv336 ?_
      refine J.callVI (q := 501) [.int (xs ((x3 + (1 : Int32)).toNatClampNeg))] [] [.int (xs ((x3 + (1 : Int32)).toNatClampNeg)), .ref (ad G 0)] rfl O dL_law_498 rfl (c_X11_act hG h) wd_3_122 mw_X11_act io_0 rfl (by decide) (Nat.le_of_ble_eq_true rfl) (fun v337 M337 h => ?_)
      refine J.aload_n (q := 502) O dL_law_501 rfl 2 rfl ?_
      refine J.aload_n (q := 503) O dL_law_502 rfl 0 rfl ?_
      refine J.iload_n (q := 504) O dL_law_503 rfl 3 rfl ?_
      refine J.iconst (q := 505) (v := (1 : Int32)) O dL_law_504 rfl rfl ?_
      refine J.iadd (q := 506) O dL_law_505 rfl ?_
      have hv338 := hv1
      refine J.xld (q := 507) O dL_law_506 rfl OX hv338 ?_
      refine J.callVI (q := 510) [.int (xs ((x3 + (1 : Int32)).toNatClampNeg))] [.int v337] [.int (xs ((x3 + (1 : Int32)).toNatClampNeg)), .ref (ad G 287), .int v337] rfl O dL_law_507 rfl (c_X12_act hG h) wd_7_197 mw_X12_act io_287 rfl (by decide) (Nat.le_of_ble_eq_true rfl) (fun v339 M339 h => ?_)
      refine J.icmp_eq (q := 513) (tgt := 2282) O dL_law_510 rfl (by decide) (fun z340 => ?_) (fun z340 => ?_)
      · exact J.sub [0, 1, 2, 3] rfl (jl_b2282 hG O hr18 h.2)
      · exact absurd h.1.symm z340
    | 7, _, z291 =>
      have z291 : ((xs x3.toNatClampNeg) &&& (63 : Int32)) = (7 : Int32) := z291.trans (by decide)
      have h := P_strike H (xs ((x3 + (1 : Int32)).toNatClampNeg)) (xs ((x3 + (2 : Int32)).toNatClampNeg))
      refine J.tswIn (q := 515) O dL_law_33 (7 : Int32) z291 (by decide) (by decide) rfl (by decide) ?_
      refine J.aload_n (q := 516) O dL_law_515 rfl 1 rfl ?_
      refine J.aload_n (q := 517) O dL_law_516 rfl 0 rfl ?_
      refine J.iload_n (q := 518) O dL_law_517 rfl 3 rfl ?_
      refine J.iconst (q := 519) (v := (1 : Int32)) O dL_law_518 rfl rfl ?_
      refine J.iadd (q := 520) O dL_law_519 rfl ?_
      have hv341 := hv1
      refine J.xld (q := 521) O dL_law_520 rfl OX hv341 ?_
      refine J.aload_n (q := 522) O dL_law_521 rfl 0 rfl ?_
      refine J.iload_n (q := 523) O dL_law_522 rfl 3 rfl ?_
      refine J.iconst (q := 524) (v := (2 : Int32)) O dL_law_523 rfl rfl ?_
      refine J.iadd (q := 525) O dL_law_524 rfl ?_
      have hv342 := hv2
      refine J.xld (q := 526) O dL_law_525 rfl OX hv342 ?_
      refine J.callVI (q := 529) [.int (xs ((x3 + (1 : Int32)).toNatClampNeg)), .int (xs ((x3 + (2 : Int32)).toNatClampNeg))] [] [.int (xs ((x3 + (2 : Int32)).toNatClampNeg)), .int (xs ((x3 + (1 : Int32)).toNatClampNeg)), .ref (ad G 0)] rfl O dL_law_526 rfl (c_X11_strike hG h) wd_3_199 mw_X11_strike io_0 rfl (by decide) (Nat.le_of_ble_eq_true rfl) (fun v343 M343 h => ?_)
      refine J.aload_n (q := 530) O dL_law_529 rfl 2 rfl ?_
      refine J.aload_n (q := 531) O dL_law_530 rfl 0 rfl ?_
      refine J.iload_n (q := 532) O dL_law_531 rfl 3 rfl ?_
      refine J.iconst (q := 533) (v := (1 : Int32)) O dL_law_532 rfl rfl ?_
      refine J.iadd (q := 534) O dL_law_533 rfl ?_
      have hv344 := hv1
      refine J.xld (q := 535) O dL_law_534 rfl OX hv344 ?_
      refine J.aload_n (q := 536) O dL_law_535 rfl 0 rfl ?_
      refine J.iload_n (q := 537) O dL_law_536 rfl 3 rfl ?_
      refine J.iconst (q := 538) (v := (2 : Int32)) O dL_law_537 rfl rfl ?_
      refine J.iadd (q := 539) O dL_law_538 rfl ?_
      have hv345 := hv2
      refine J.xld (q := 540) O dL_law_539 rfl OX hv345 ?_
      refine J.callVI (q := 543) [.int (xs ((x3 + (1 : Int32)).toNatClampNeg)), .int (xs ((x3 + (2 : Int32)).toNatClampNeg))] [.int v343] [.int (xs ((x3 + (2 : Int32)).toNatClampNeg)), .int (xs ((x3 + (1 : Int32)).toNatClampNeg)), .ref (ad G 287), .int v343] rfl O dL_law_540 rfl (c_X12_strike hG h) wd_8_1 mw_X12_strike io_287 rfl (by decide) (Nat.le_of_ble_eq_true rfl) (fun v346 M346 h => ?_)
      refine J.icmp_eq (q := 546) (tgt := 2282) O dL_law_543 rfl (by decide) (fun z347 => ?_) (fun z347 => ?_)
      · exact J.sub [0, 1, 2, 3] rfl (jl_b2282 hG O hr18 h.2)
      · exact absurd h.1.symm z347
    | 8, _, z291 =>
      have z291 : ((xs x3.toNatClampNeg) &&& (63 : Int32)) = (8 : Int32) := z291.trans (by decide)
      refine J.tswIn (q := 548) O dL_law_33 (8 : Int32) z291 (by decide) (by decide) rfl (by decide) ?_
      refine J.aload_n (q := 549) O dL_law_548 rfl 1 rfl ?_
      refine J.aload_n (q := 550) O dL_law_549 rfl 0 rfl ?_
      refine J.iload_n (q := 551) O dL_law_550 rfl 3 rfl ?_
      refine J.iconst (q := 552) (v := (1 : Int32)) O dL_law_551 rfl rfl ?_
      refine J.iadd (q := 553) O dL_law_552 rfl ?_
      have hv348 := hv1
      refine J.xld (q := 554) O dL_law_553 rfl OX hv348 ?_
      refine J.aload_n (q := 555) O dL_law_554 rfl 0 rfl ?_
      refine J.iload_n (q := 556) O dL_law_555 rfl 3 rfl ?_
      refine J.iconst (q := 557) (v := (2 : Int32)) O dL_law_556 rfl rfl ?_
      refine J.iadd (q := 558) O dL_law_557 rfl ?_
      have hv349 := hv2
      refine J.xld (q := 559) O dL_law_558 rfl OX hv349 ?_
      refine J.aload_n (q := 560) O dL_law_559 rfl 0 rfl ?_
      refine J.iload_n (q := 561) O dL_law_560 rfl 3 rfl ?_
      refine J.iconst (q := 562) (v := (3 : Int32)) O dL_law_561 rfl rfl ?_
      refine J.iadd (q := 563) O dL_law_562 rfl ?_
      have hv350 := hv3
      refine J.xld (q := 564) O dL_law_563 rfl OX hv350 ?_
      refine J.aload_n (q := 565) O dL_law_564 rfl 0 rfl ?_
      refine J.iload_n (q := 566) O dL_law_565 rfl 3 rfl ?_
      refine J.iconst (q := 567) (v := (4 : Int32)) O dL_law_566 rfl rfl ?_
      refine J.iadd (q := 568) O dL_law_567 rfl ?_
      have hv351 := hv4
      refine J.xld (q := 569) O dL_law_568 rfl OX hv351 ?_
      refine J.if_eq (q := 572) (tgt := 576) O dL_law_569 rfl (by decide) (fun z352 => ?_) (fun z352 => ?_)
      · refine J.iconst (q := 577) (v := (0 : Int32)) O dL_law_576 rfl rfl ?_
        exact J.sub [0, 1, 2, 3] rfl (jl_b577 hG O hR OX hr18 hv0 hv1 hv2 hv3 hv4 hv5 H (if_pos z352).symm rfl rfl rfl)
      · refine J.iconst (q := 573) (v := (1 : Int32)) O dL_law_572 rfl rfl ?_
        refine J.goto (q := 577) O dL_law_573 (by decide) ?_
        exact J.sub [0, 1, 2, 3] rfl (jl_b577 hG O hR OX hr18 hv0 hv1 hv2 hv3 hv4 hv5 H (if_neg z352).symm rfl rfl rfl)
    | 9, _, z291 =>
      have z291 : ((xs x3.toNatClampNeg) &&& (63 : Int32)) = (9 : Int32) := z291.trans (by decide)
      have h := P_term H (xs ((x3 + (1 : Int32)).toNatClampNeg)) (xs ((x3 + (2 : Int32)).toNatClampNeg)) (xs ((x3 + (3 : Int32)).toNatClampNeg))
      refine J.tswIn (q := 627) O dL_law_33 (9 : Int32) z291 (by decide) (by decide) rfl (by decide) ?_
      refine J.aload_n (q := 628) O dL_law_627 rfl 1 rfl ?_
      refine J.aload_n (q := 629) O dL_law_628 rfl 0 rfl ?_
      refine J.iload_n (q := 630) O dL_law_629 rfl 3 rfl ?_
      refine J.iconst (q := 631) (v := (1 : Int32)) O dL_law_630 rfl rfl ?_
      refine J.iadd (q := 632) O dL_law_631 rfl ?_
      have hv353 := hv1
      refine J.xld (q := 633) O dL_law_632 rfl OX hv353 ?_
      refine J.aload_n (q := 634) O dL_law_633 rfl 0 rfl ?_
      refine J.iload_n (q := 635) O dL_law_634 rfl 3 rfl ?_
      refine J.iconst (q := 636) (v := (2 : Int32)) O dL_law_635 rfl rfl ?_
      refine J.iadd (q := 637) O dL_law_636 rfl ?_
      have hv354 := hv2
      refine J.xld (q := 638) O dL_law_637 rfl OX hv354 ?_
      refine J.aload_n (q := 639) O dL_law_638 rfl 0 rfl ?_
      refine J.iload_n (q := 640) O dL_law_639 rfl 3 rfl ?_
      refine J.iconst (q := 641) (v := (3 : Int32)) O dL_law_640 rfl rfl ?_
      refine J.iadd (q := 642) O dL_law_641 rfl ?_
      have hv355 := hv3
      refine J.xld (q := 643) O dL_law_642 rfl OX hv355 ?_
      refine J.callVI (q := 646) [.int (xs ((x3 + (1 : Int32)).toNatClampNeg)), .int (xs ((x3 + (2 : Int32)).toNatClampNeg)), .int (xs ((x3 + (3 : Int32)).toNatClampNeg))] [] [.int (xs ((x3 + (3 : Int32)).toNatClampNeg)), .int (xs ((x3 + (2 : Int32)).toNatClampNeg)), .int (xs ((x3 + (1 : Int32)).toNatClampNeg)), .ref (ad G 0)] rfl O dL_law_643 rfl (c_X11_term hG h) wd_4_9 mw_X11_term io_0 rfl (by decide) (Nat.le_of_ble_eq_true rfl) (fun v356 M356 h => ?_)
      refine J.aload_n (q := 647) O dL_law_646 rfl 2 rfl ?_
      refine J.aload_n (q := 648) O dL_law_647 rfl 0 rfl ?_
      refine J.iload_n (q := 649) O dL_law_648 rfl 3 rfl ?_
      refine J.iconst (q := 650) (v := (1 : Int32)) O dL_law_649 rfl rfl ?_
      refine J.iadd (q := 651) O dL_law_650 rfl ?_
      have hv357 := hv1
      refine J.xld (q := 652) O dL_law_651 rfl OX hv357 ?_
      refine J.aload_n (q := 653) O dL_law_652 rfl 0 rfl ?_
      refine J.iload_n (q := 654) O dL_law_653 rfl 3 rfl ?_
      refine J.iconst (q := 655) (v := (2 : Int32)) O dL_law_654 rfl rfl ?_
      refine J.iadd (q := 656) O dL_law_655 rfl ?_
      have hv358 := hv2
      refine J.xld (q := 657) O dL_law_656 rfl OX hv358 ?_
      refine J.aload_n (q := 658) O dL_law_657 rfl 0 rfl ?_
      refine J.iload_n (q := 659) O dL_law_658 rfl 3 rfl ?_
      refine J.iconst (q := 660) (v := (3 : Int32)) O dL_law_659 rfl rfl ?_
      refine J.iadd (q := 661) O dL_law_660 rfl ?_
      have hv359 := hv3
      refine J.xld (q := 662) O dL_law_661 rfl OX hv359 ?_
      refine J.callVI (q := 665) [.int (xs ((x3 + (1 : Int32)).toNatClampNeg)), .int (xs ((x3 + (2 : Int32)).toNatClampNeg)), .int (xs ((x3 + (3 : Int32)).toNatClampNeg))] [.int v356] [.int (xs ((x3 + (3 : Int32)).toNatClampNeg)), .int (xs ((x3 + (2 : Int32)).toNatClampNeg)), .int (xs ((x3 + (1 : Int32)).toNatClampNeg)), .ref (ad G 287), .int v356] rfl O dL_law_662 rfl (c_X12_term hG h) wd_8_34 mw_X12_term io_287 rfl (by decide) (Nat.le_of_ble_eq_true rfl) (fun v360 M360 h => ?_)
      refine J.icmp_eq (q := 668) (tgt := 2282) O dL_law_665 rfl (by decide) (fun z361 => ?_) (fun z361 => ?_)
      · exact J.sub [0, 1, 2, 3] rfl (jl_b2282 hG O hr18 h.2)
      · exact absurd h.1.symm z361
    | 10, _, z291 =>
      have z291 : ((xs x3.toNatClampNeg) &&& (63 : Int32)) = (10 : Int32) := z291.trans (by decide)
      refine J.tswIn (q := 670) O dL_law_33 (10 : Int32) z291 (by decide) (by decide) rfl (by decide) ?_
      refine J.aload_n (q := 671) O dL_law_670 rfl 1 rfl ?_
      refine J.aload_n (q := 672) O dL_law_671 rfl 0 rfl ?_
      refine J.iload_n (q := 673) O dL_law_672 rfl 3 rfl ?_
      refine J.iconst (q := 674) (v := (1 : Int32)) O dL_law_673 rfl rfl ?_
      refine J.iadd (q := 675) O dL_law_674 rfl ?_
      have hv362 := hv1
      refine J.xld (q := 676) O dL_law_675 rfl OX hv362 ?_
      refine J.aload_n (q := 677) O dL_law_676 rfl 0 rfl ?_
      refine J.iload_n (q := 678) O dL_law_677 rfl 3 rfl ?_
      refine J.iconst (q := 679) (v := (2 : Int32)) O dL_law_678 rfl rfl ?_
      refine J.iadd (q := 680) O dL_law_679 rfl ?_
      have hv363 := hv2
      refine J.xld (q := 681) O dL_law_680 rfl OX hv363 ?_
      refine J.aload_n (q := 682) O dL_law_681 rfl 0 rfl ?_
      refine J.iload_n (q := 683) O dL_law_682 rfl 3 rfl ?_
      refine J.iconst (q := 684) (v := (3 : Int32)) O dL_law_683 rfl rfl ?_
      refine J.iadd (q := 685) O dL_law_684 rfl ?_
      have hv364 := hv3
      refine J.xld (q := 686) O dL_law_685 rfl OX hv364 ?_
      refine J.aload_n (q := 687) O dL_law_686 rfl 0 rfl ?_
      refine J.iload_n (q := 688) O dL_law_687 rfl 3 rfl ?_
      refine J.iconst (q := 689) (v := (4 : Int32)) O dL_law_688 rfl rfl ?_
      refine J.iadd (q := 690) O dL_law_689 rfl ?_
      have hv365 := hv4
      refine J.xld (q := 691) O dL_law_690 rfl OX hv365 ?_
      refine J.if_eq (q := 694) (tgt := 698) O dL_law_691 rfl (by decide) (fun z366 => ?_) (fun z366 => ?_)
      · refine J.iconst (q := 699) (v := (0 : Int32)) O dL_law_698 rfl rfl ?_
        exact J.sub [0, 1, 2, 3] rfl (jl_b699 hG O hR OX hr18 hv0 hv1 hv2 hv3 hv4 hv5 H (if_pos z366).symm rfl rfl rfl)
      · refine J.iconst (q := 695) (v := (1 : Int32)) O dL_law_694 rfl rfl ?_
        refine J.goto (q := 699) O dL_law_695 (by decide) ?_
        exact J.sub [0, 1, 2, 3] rfl (jl_b699 hG O hR OX hr18 hv0 hv1 hv2 hv3 hv4 hv5 H (if_neg z366).symm rfl rfl rfl)
    | 11, _, z291 =>
      have z291 : ((xs x3.toNatClampNeg) &&& (63 : Int32)) = (11 : Int32) := z291.trans (by decide)
      refine J.tswIn (q := 739) O dL_law_33 (11 : Int32) z291 (by decide) (by decide) rfl (by decide) ?_
      refine J.aload_n (q := 740) O dL_law_739 rfl 1 rfl ?_
      refine J.aload_n (q := 741) O dL_law_740 rfl 0 rfl ?_
      refine J.iload_n (q := 742) O dL_law_741 rfl 3 rfl ?_
      refine J.iconst (q := 743) (v := (1 : Int32)) O dL_law_742 rfl rfl ?_
      refine J.iadd (q := 744) O dL_law_743 rfl ?_
      have hv367 := hv1
      refine J.xld (q := 745) O dL_law_744 rfl OX hv367 ?_
      refine J.aload_n (q := 746) O dL_law_745 rfl 0 rfl ?_
      refine J.iload_n (q := 747) O dL_law_746 rfl 3 rfl ?_
      refine J.iconst (q := 748) (v := (2 : Int32)) O dL_law_747 rfl rfl ?_
      refine J.iadd (q := 749) O dL_law_748 rfl ?_
      have hv368 := hv2
      refine J.xld (q := 750) O dL_law_749 rfl OX hv368 ?_
      refine J.aload_n (q := 751) O dL_law_750 rfl 0 rfl ?_
      refine J.iload_n (q := 752) O dL_law_751 rfl 3 rfl ?_
      refine J.iconst (q := 753) (v := (3 : Int32)) O dL_law_752 rfl rfl ?_
      refine J.iadd (q := 754) O dL_law_753 rfl ?_
      have hv369 := hv3
      refine J.xld (q := 755) O dL_law_754 rfl OX hv369 ?_
      refine J.if_eq (q := 758) (tgt := 762) O dL_law_755 rfl (by decide) (fun z370 => ?_) (fun z370 => ?_)
      · refine J.iconst (q := 763) (v := (0 : Int32)) O dL_law_762 rfl rfl ?_
        exact J.sub [0, 1, 2, 3] rfl (jl_b763 hG O hR OX hr18 hv0 hv1 hv2 hv3 hv4 hv5 H (if_pos z370).symm rfl rfl)
      · refine J.iconst (q := 759) (v := (1 : Int32)) O dL_law_758 rfl rfl ?_
        refine J.goto (q := 763) O dL_law_759 (by decide) ?_
        exact J.sub [0, 1, 2, 3] rfl (jl_b763 hG O hR OX hr18 hv0 hv1 hv2 hv3 hv4 hv5 H (if_neg z370).symm rfl rfl)
    | 12, _, z291 =>
      have z291 : ((xs x3.toNatClampNeg) &&& (63 : Int32)) = (12 : Int32) := z291.trans (by decide)
      have h := P_withdraw H (xs ((x3 + (1 : Int32)).toNatClampNeg))
      refine J.tswIn (q := 798) O dL_law_33 (12 : Int32) z291 (by decide) (by decide) rfl (by decide) ?_
      refine J.aload_n (q := 799) O dL_law_798 rfl 1 rfl ?_
      refine J.aload_n (q := 800) O dL_law_799 rfl 0 rfl ?_
      refine J.iload_n (q := 801) O dL_law_800 rfl 3 rfl ?_
      refine J.iconst (q := 802) (v := (1 : Int32)) O dL_law_801 rfl rfl ?_
      refine J.iadd (q := 803) O dL_law_802 rfl ?_
      have hv371 := hv1
      refine J.xld (q := 804) O dL_law_803 rfl OX hv371 ?_
      refine J.callVI (q := 807) [.int (xs ((x3 + (1 : Int32)).toNatClampNeg))] [] [.int (xs ((x3 + (1 : Int32)).toNatClampNeg)), .ref (ad G 0)] rfl O dL_law_804 rfl (c_X11_withdraw hG h) wd_4_51 mw_X11_withdraw io_0 rfl (by decide) (Nat.le_of_ble_eq_true rfl) (fun v372 M372 h => ?_)
      refine J.aload_n (q := 808) O dL_law_807 rfl 2 rfl ?_
      refine J.aload_n (q := 809) O dL_law_808 rfl 0 rfl ?_
      refine J.iload_n (q := 810) O dL_law_809 rfl 3 rfl ?_
      refine J.iconst (q := 811) (v := (1 : Int32)) O dL_law_810 rfl rfl ?_
      refine J.iadd (q := 812) O dL_law_811 rfl ?_
      have hv373 := hv1
      refine J.xld (q := 813) O dL_law_812 rfl OX hv373 ?_
      refine J.callVI (q := 816) [.int (xs ((x3 + (1 : Int32)).toNatClampNeg))] [.int v372] [.int (xs ((x3 + (1 : Int32)).toNatClampNeg)), .ref (ad G 287), .int v372] rfl O dL_law_813 rfl (c_X12_withdraw hG h) wd_8_62 mw_X12_withdraw io_287 rfl (by decide) (Nat.le_of_ble_eq_true rfl) (fun v374 M374 h => ?_)
      refine J.icmp_eq (q := 819) (tgt := 2282) O dL_law_816 rfl (by decide) (fun z375 => ?_) (fun z375 => ?_)
      · exact J.sub [0, 1, 2, 3] rfl (jl_b2282 hG O hr18 h.2)
      · exact absurd h.1.symm z375
    | 13, _, z291 =>
      have z291 : ((xs x3.toNatClampNeg) &&& (63 : Int32)) = (13 : Int32) := z291.trans (by decide)
      have h := P_state H (xs ((x3 + (1 : Int32)).toNatClampNeg)) (xs ((x3 + (2 : Int32)).toNatClampNeg)) (xs ((x3 + (3 : Int32)).toNatClampNeg))
      refine J.tswIn (q := 821) O dL_law_33 (13 : Int32) z291 (by decide) (by decide) rfl (by decide) ?_
      refine J.aload_n (q := 822) O dL_law_821 rfl 1 rfl ?_
      refine J.aload_n (q := 823) O dL_law_822 rfl 0 rfl ?_
      refine J.iload_n (q := 824) O dL_law_823 rfl 3 rfl ?_
      refine J.iconst (q := 825) (v := (1 : Int32)) O dL_law_824 rfl rfl ?_
      refine J.iadd (q := 826) O dL_law_825 rfl ?_
      have hv376 := hv1
      refine J.xld (q := 827) O dL_law_826 rfl OX hv376 ?_
      refine J.aload_n (q := 828) O dL_law_827 rfl 0 rfl ?_
      refine J.iload_n (q := 829) O dL_law_828 rfl 3 rfl ?_
      refine J.iconst (q := 830) (v := (2 : Int32)) O dL_law_829 rfl rfl ?_
      refine J.iadd (q := 831) O dL_law_830 rfl ?_
      have hv377 := hv2
      refine J.xld (q := 832) O dL_law_831 rfl OX hv377 ?_
      refine J.aload_n (q := 833) O dL_law_832 rfl 0 rfl ?_
      refine J.iload_n (q := 834) O dL_law_833 rfl 3 rfl ?_
      refine J.iconst (q := 835) (v := (3 : Int32)) O dL_law_834 rfl rfl ?_
      refine J.iadd (q := 836) O dL_law_835 rfl ?_
      have hv378 := hv3
      refine J.xld (q := 837) O dL_law_836 rfl OX hv378 ?_
      refine J.callVI (q := 840) [.int (xs ((x3 + (1 : Int32)).toNatClampNeg)), .int (xs ((x3 + (2 : Int32)).toNatClampNeg)), .int (xs ((x3 + (3 : Int32)).toNatClampNeg))] [] [.int (xs ((x3 + (3 : Int32)).toNatClampNeg)), .int (xs ((x3 + (2 : Int32)).toNatClampNeg)), .int (xs ((x3 + (1 : Int32)).toNatClampNeg)), .ref (ad G 0)] rfl O dL_law_837 rfl (c_X11_state hG h) wd_4_55 mw_X11_state io_0 rfl (by decide) (Nat.le_of_ble_eq_true rfl) (fun v379 M379 h => ?_)
      refine J.aload_n (q := 841) O dL_law_840 rfl 2 rfl ?_
      refine J.aload_n (q := 842) O dL_law_841 rfl 0 rfl ?_
      refine J.iload_n (q := 843) O dL_law_842 rfl 3 rfl ?_
      refine J.iconst (q := 844) (v := (1 : Int32)) O dL_law_843 rfl rfl ?_
      refine J.iadd (q := 845) O dL_law_844 rfl ?_
      have hv380 := hv1
      refine J.xld (q := 846) O dL_law_845 rfl OX hv380 ?_
      refine J.aload_n (q := 847) O dL_law_846 rfl 0 rfl ?_
      refine J.iload_n (q := 848) O dL_law_847 rfl 3 rfl ?_
      refine J.iconst (q := 849) (v := (2 : Int32)) O dL_law_848 rfl rfl ?_
      refine J.iadd (q := 850) O dL_law_849 rfl ?_
      have hv381 := hv2
      refine J.xld (q := 851) O dL_law_850 rfl OX hv381 ?_
      refine J.aload_n (q := 852) O dL_law_851 rfl 0 rfl ?_
      refine J.iload_n (q := 853) O dL_law_852 rfl 3 rfl ?_
      refine J.iconst (q := 854) (v := (3 : Int32)) O dL_law_853 rfl rfl ?_
      refine J.iadd (q := 855) O dL_law_854 rfl ?_
      have hv382 := hv3
      refine J.xld (q := 856) O dL_law_855 rfl OX hv382 ?_
      refine J.callVI (q := 859) [.int (xs ((x3 + (1 : Int32)).toNatClampNeg)), .int (xs ((x3 + (2 : Int32)).toNatClampNeg)), .int (xs ((x3 + (3 : Int32)).toNatClampNeg))] [.int v379] [.int (xs ((x3 + (3 : Int32)).toNatClampNeg)), .int (xs ((x3 + (2 : Int32)).toNatClampNeg)), .int (xs ((x3 + (1 : Int32)).toNatClampNeg)), .ref (ad G 287), .int v379] rfl O dL_law_856 rfl (c_X12_state hG h) wd_8_66 mw_X12_state io_287 rfl (by decide) (Nat.le_of_ble_eq_true rfl) (fun v383 M383 h => ?_)
      refine J.icmp_eq (q := 862) (tgt := 2282) O dL_law_859 rfl (by decide) (fun z384 => ?_) (fun z384 => ?_)
      · exact J.sub [0, 1, 2, 3] rfl (jl_b2282 hG O hr18 h.2)
      · exact absurd h.1.symm z384
    | 14, _, z291 =>
      have z291 : ((xs x3.toNatClampNeg) &&& (63 : Int32)) = (14 : Int32) := z291.trans (by decide)
      have h := P_matterOf H (xs ((x3 + (1 : Int32)).toNatClampNeg)) (xs ((x3 + (2 : Int32)).toNatClampNeg))
      refine J.tswIn (q := 864) O dL_law_33 (14 : Int32) z291 (by decide) (by decide) rfl (by decide) ?_
      refine J.aload_n (q := 865) O dL_law_864 rfl 1 rfl ?_
      refine J.aload_n (q := 866) O dL_law_865 rfl 0 rfl ?_
      refine J.iload_n (q := 867) O dL_law_866 rfl 3 rfl ?_
      refine J.iconst (q := 868) (v := (1 : Int32)) O dL_law_867 rfl rfl ?_
      refine J.iadd (q := 869) O dL_law_868 rfl ?_
      have hv385 := hv1
      refine J.xld (q := 870) O dL_law_869 rfl OX hv385 ?_
      refine J.aload_n (q := 871) O dL_law_870 rfl 0 rfl ?_
      refine J.iload_n (q := 872) O dL_law_871 rfl 3 rfl ?_
      refine J.iconst (q := 873) (v := (2 : Int32)) O dL_law_872 rfl rfl ?_
      refine J.iadd (q := 874) O dL_law_873 rfl ?_
      have hv386 := hv2
      refine J.xld (q := 875) O dL_law_874 rfl OX hv386 ?_
      refine J.callVI (q := 878) [.int (xs ((x3 + (1 : Int32)).toNatClampNeg)), .int (xs ((x3 + (2 : Int32)).toNatClampNeg))] [] [.int (xs ((x3 + (2 : Int32)).toNatClampNeg)), .int (xs ((x3 + (1 : Int32)).toNatClampNeg)), .ref (ad G 0)] rfl O dL_law_875 rfl (c_X11_matterOf hG h) wd_4_85 mw_X11_matterOf io_0 rfl (by decide) (Nat.le_of_ble_eq_true rfl) (fun v387 M387 h => ?_)
      refine J.aload_n (q := 879) O dL_law_878 rfl 2 rfl ?_
      refine J.aload_n (q := 880) O dL_law_879 rfl 0 rfl ?_
      refine J.iload_n (q := 881) O dL_law_880 rfl 3 rfl ?_
      refine J.iconst (q := 882) (v := (1 : Int32)) O dL_law_881 rfl rfl ?_
      refine J.iadd (q := 883) O dL_law_882 rfl ?_
      have hv388 := hv1
      refine J.xld (q := 884) O dL_law_883 rfl OX hv388 ?_
      refine J.aload_n (q := 885) O dL_law_884 rfl 0 rfl ?_
      refine J.iload_n (q := 886) O dL_law_885 rfl 3 rfl ?_
      refine J.iconst (q := 887) (v := (2 : Int32)) O dL_law_886 rfl rfl ?_
      refine J.iadd (q := 888) O dL_law_887 rfl ?_
      have hv389 := hv2
      refine J.xld (q := 889) O dL_law_888 rfl OX hv389 ?_
      refine J.callVI (q := 892) [.int (xs ((x3 + (1 : Int32)).toNatClampNeg)), .int (xs ((x3 + (2 : Int32)).toNatClampNeg))] [.int v387] [.int (xs ((x3 + (2 : Int32)).toNatClampNeg)), .int (xs ((x3 + (1 : Int32)).toNatClampNeg)), .ref (ad G 287), .int v387] rfl O dL_law_889 rfl (c_X12_matterOf hG h) wd_8_86 mw_X12_matterOf io_287 rfl (by decide) (Nat.le_of_ble_eq_true rfl) (fun v390 M390 h => ?_)
      refine J.icmp_eq (q := 895) (tgt := 2282) O dL_law_892 rfl (by decide) (fun z391 => ?_) (fun z391 => ?_)
      · exact J.sub [0, 1, 2, 3] rfl (jl_b2282 hG O hr18 h.2)
      · exact absurd h.1.symm z391
    | 15, _, z291 =>
      have z291 : ((xs x3.toNatClampNeg) &&& (63 : Int32)) = (15 : Int32) := z291.trans (by decide)
      have h := P_votes H (xs ((x3 + (1 : Int32)).toNatClampNeg)) (xs ((x3 + (2 : Int32)).toNatClampNeg))
      refine J.tswIn (q := 897) O dL_law_33 (15 : Int32) z291 (by decide) (by decide) rfl (by decide) ?_
      refine J.aload_n (q := 898) O dL_law_897 rfl 1 rfl ?_
      refine J.aload_n (q := 899) O dL_law_898 rfl 0 rfl ?_
      refine J.iload_n (q := 900) O dL_law_899 rfl 3 rfl ?_
      refine J.iconst (q := 901) (v := (1 : Int32)) O dL_law_900 rfl rfl ?_
      refine J.iadd (q := 902) O dL_law_901 rfl ?_
      have hv392 := hv1
      refine J.xld (q := 903) O dL_law_902 rfl OX hv392 ?_
      refine J.aload_n (q := 904) O dL_law_903 rfl 0 rfl ?_
      refine J.iload_n (q := 905) O dL_law_904 rfl 3 rfl ?_
      refine J.iconst (q := 906) (v := (2 : Int32)) O dL_law_905 rfl rfl ?_
      refine J.iadd (q := 907) O dL_law_906 rfl ?_
      have hv393 := hv2
      refine J.xld (q := 908) O dL_law_907 rfl OX hv393 ?_
      refine J.callVI (q := 911) [.int (xs ((x3 + (1 : Int32)).toNatClampNeg)), .int (xs ((x3 + (2 : Int32)).toNatClampNeg))] [] [.int (xs ((x3 + (2 : Int32)).toNatClampNeg)), .int (xs ((x3 + (1 : Int32)).toNatClampNeg)), .ref (ad G 0)] rfl O dL_law_908 rfl (c_X11_votes hG h) wd_4_99 mw_X11_votes io_0 rfl (by decide) (Nat.le_of_ble_eq_true rfl) (fun v394 M394 h => ?_)
      refine J.aload_n (q := 912) O dL_law_911 rfl 2 rfl ?_
      refine J.aload_n (q := 913) O dL_law_912 rfl 0 rfl ?_
      refine J.iload_n (q := 914) O dL_law_913 rfl 3 rfl ?_
      refine J.iconst (q := 915) (v := (1 : Int32)) O dL_law_914 rfl rfl ?_
      refine J.iadd (q := 916) O dL_law_915 rfl ?_
      have hv395 := hv1
      refine J.xld (q := 917) O dL_law_916 rfl OX hv395 ?_
      refine J.aload_n (q := 918) O dL_law_917 rfl 0 rfl ?_
      refine J.iload_n (q := 919) O dL_law_918 rfl 3 rfl ?_
      refine J.iconst (q := 920) (v := (2 : Int32)) O dL_law_919 rfl rfl ?_
      refine J.iadd (q := 921) O dL_law_920 rfl ?_
      have hv396 := hv2
      refine J.xld (q := 922) O dL_law_921 rfl OX hv396 ?_
      refine J.callVI (q := 925) [.int (xs ((x3 + (1 : Int32)).toNatClampNeg)), .int (xs ((x3 + (2 : Int32)).toNatClampNeg))] [.int v394] [.int (xs ((x3 + (2 : Int32)).toNatClampNeg)), .int (xs ((x3 + (1 : Int32)).toNatClampNeg)), .ref (ad G 287), .int v394] rfl O dL_law_922 rfl (c_X12_votes hG h) wd_8_94 mw_X12_votes io_287 rfl (by decide) (Nat.le_of_ble_eq_true rfl) (fun v397 M397 h => ?_)
      refine J.icmp_eq (q := 928) (tgt := 2282) O dL_law_925 rfl (by decide) (fun z398 => ?_) (fun z398 => ?_)
      · exact J.sub [0, 1, 2, 3] rfl (jl_b2282 hG O hr18 h.2)
      · exact absurd h.1.symm z398
    | 16, _, z291 =>
      have z291 : ((xs x3.toNatClampNeg) &&& (63 : Int32)) = (16 : Int32) := z291.trans (by decide)
      have h := P_elect H (xs ((x3 + (1 : Int32)).toNatClampNeg))
      refine J.tswIn (q := 930) O dL_law_33 (16 : Int32) z291 (by decide) (by decide) rfl (by decide) ?_
      refine J.aload_n (q := 931) O dL_law_930 rfl 1 rfl ?_
      refine J.aload_n (q := 932) O dL_law_931 rfl 0 rfl ?_
      refine J.iload_n (q := 933) O dL_law_932 rfl 3 rfl ?_
      refine J.iconst (q := 934) (v := (1 : Int32)) O dL_law_933 rfl rfl ?_
      refine J.iadd (q := 935) O dL_law_934 rfl ?_
      have hv399 := hv1
      refine J.xld (q := 936) O dL_law_935 rfl OX hv399 ?_
      refine J.callVI (q := 939) [.int (xs ((x3 + (1 : Int32)).toNatClampNeg))] [] [.int (xs ((x3 + (1 : Int32)).toNatClampNeg)), .ref (ad G 0)] rfl O dL_law_936 rfl (c_X11_elect hG h) wd_4_103 mw_X11_elect io_0 rfl (by decide) (Nat.le_of_ble_eq_true rfl) (fun v400 M400 h => ?_)
      refine J.aload_n (q := 940) O dL_law_939 rfl 2 rfl ?_
      refine J.aload_n (q := 941) O dL_law_940 rfl 0 rfl ?_
      refine J.iload_n (q := 942) O dL_law_941 rfl 3 rfl ?_
      refine J.iconst (q := 943) (v := (1 : Int32)) O dL_law_942 rfl rfl ?_
      refine J.iadd (q := 944) O dL_law_943 rfl ?_
      have hv401 := hv1
      refine J.xld (q := 945) O dL_law_944 rfl OX hv401 ?_
      refine J.callVI (q := 948) [.int (xs ((x3 + (1 : Int32)).toNatClampNeg))] [.int v400] [.int (xs ((x3 + (1 : Int32)).toNatClampNeg)), .ref (ad G 287), .int v400] rfl O dL_law_945 rfl (c_X12_elect hG h) wd_8_98 mw_X12_elect io_287 rfl (by decide) (Nat.le_of_ble_eq_true rfl) (fun v402 M402 h => ?_)
      refine J.icmp_eq (q := 951) (tgt := 2282) O dL_law_948 rfl (by decide) (fun z403 => ?_) (fun z403 => ?_)
      · exact J.sub [0, 1, 2, 3] rfl (jl_b2282 hG O hr18 h.2)
      · exact absurd h.1.symm z403
    | 17, _, z291 =>
      have z291 : ((xs x3.toNatClampNeg) &&& (63 : Int32)) = (17 : Int32) := z291.trans (by decide)
      have h := P_seat H (xs ((x3 + (1 : Int32)).toNatClampNeg)) (xs ((x3 + (2 : Int32)).toNatClampNeg))
      refine J.tswIn (q := 953) O dL_law_33 (17 : Int32) z291 (by decide) (by decide) rfl (by decide) ?_
      refine J.aload_n (q := 954) O dL_law_953 rfl 1 rfl ?_
      refine J.aload_n (q := 955) O dL_law_954 rfl 0 rfl ?_
      refine J.iload_n (q := 956) O dL_law_955 rfl 3 rfl ?_
      refine J.iconst (q := 957) (v := (1 : Int32)) O dL_law_956 rfl rfl ?_
      refine J.iadd (q := 958) O dL_law_957 rfl ?_
      have hv404 := hv1
      refine J.xld (q := 959) O dL_law_958 rfl OX hv404 ?_
      refine J.aload_n (q := 960) O dL_law_959 rfl 0 rfl ?_
      refine J.iload_n (q := 961) O dL_law_960 rfl 3 rfl ?_
      refine J.iconst (q := 962) (v := (2 : Int32)) O dL_law_961 rfl rfl ?_
      refine J.iadd (q := 963) O dL_law_962 rfl ?_
      have hv405 := hv2
      refine J.xld (q := 964) O dL_law_963 rfl OX hv405 ?_
      refine J.callVI (q := 967) [.int (xs ((x3 + (1 : Int32)).toNatClampNeg)), .int (xs ((x3 + (2 : Int32)).toNatClampNeg))] [] [.int (xs ((x3 + (2 : Int32)).toNatClampNeg)), .int (xs ((x3 + (1 : Int32)).toNatClampNeg)), .ref (ad G 0)] rfl O dL_law_964 rfl (c_X11_seat hG h) wd_4_115 mw_X11_seat io_0 rfl (by decide) (Nat.le_of_ble_eq_true rfl) (fun v406 M406 h => ?_)
      refine J.aload_n (q := 968) O dL_law_967 rfl 2 rfl ?_
      refine J.aload_n (q := 969) O dL_law_968 rfl 0 rfl ?_
      refine J.iload_n (q := 970) O dL_law_969 rfl 3 rfl ?_
      refine J.iconst (q := 971) (v := (1 : Int32)) O dL_law_970 rfl rfl ?_
      refine J.iadd (q := 972) O dL_law_971 rfl ?_
      have hv407 := hv1
      refine J.xld (q := 973) O dL_law_972 rfl OX hv407 ?_
      refine J.aload_n (q := 974) O dL_law_973 rfl 0 rfl ?_
      refine J.iload_n (q := 975) O dL_law_974 rfl 3 rfl ?_
      refine J.iconst (q := 976) (v := (2 : Int32)) O dL_law_975 rfl rfl ?_
      refine J.iadd (q := 977) O dL_law_976 rfl ?_
      have hv408 := hv2
      refine J.xld (q := 978) O dL_law_977 rfl OX hv408 ?_
      refine J.callVI (q := 981) [.int (xs ((x3 + (1 : Int32)).toNatClampNeg)), .int (xs ((x3 + (2 : Int32)).toNatClampNeg))] [.int v406] [.int (xs ((x3 + (2 : Int32)).toNatClampNeg)), .int (xs ((x3 + (1 : Int32)).toNatClampNeg)), .ref (ad G 287), .int v406] rfl O dL_law_978 rfl (c_X12_seat hG h) wd_8_102 mw_X12_seat io_287 rfl (by decide) (Nat.le_of_ble_eq_true rfl) (fun v409 M409 h => ?_)
      refine J.icmp_eq (q := 984) (tgt := 2282) O dL_law_981 rfl (by decide) (fun z410 => ?_) (fun z410 => ?_)
      · exact J.sub [0, 1, 2, 3] rfl (jl_b2282 hG O hr18 h.2)
      · exact absurd h.1.symm z410
    | 18, _, z291 =>
      have z291 : ((xs x3.toNatClampNeg) &&& (63 : Int32)) = (18 : Int32) := z291.trans (by decide)
      have h := P_sit H (xs ((x3 + (1 : Int32)).toNatClampNeg)) (xs ((x3 + (2 : Int32)).toNatClampNeg))
      refine J.tswIn (q := 986) O dL_law_33 (18 : Int32) z291 (by decide) (by decide) rfl (by decide) ?_
      refine J.aload_n (q := 987) O dL_law_986 rfl 1 rfl ?_
      refine J.aload_n (q := 988) O dL_law_987 rfl 0 rfl ?_
      refine J.iload_n (q := 989) O dL_law_988 rfl 3 rfl ?_
      refine J.iconst (q := 990) (v := (1 : Int32)) O dL_law_989 rfl rfl ?_
      refine J.iadd (q := 991) O dL_law_990 rfl ?_
      have hv411 := hv1
      refine J.xld (q := 992) O dL_law_991 rfl OX hv411 ?_
      refine J.aload_n (q := 993) O dL_law_992 rfl 0 rfl ?_
      refine J.iload_n (q := 994) O dL_law_993 rfl 3 rfl ?_
      refine J.iconst (q := 995) (v := (2 : Int32)) O dL_law_994 rfl rfl ?_
      refine J.iadd (q := 996) O dL_law_995 rfl ?_
      have hv412 := hv2
      refine J.xld (q := 997) O dL_law_996 rfl OX hv412 ?_
      refine J.callVI (q := 1000) [.int (xs ((x3 + (1 : Int32)).toNatClampNeg)), .int (xs ((x3 + (2 : Int32)).toNatClampNeg))] [] [.int (xs ((x3 + (2 : Int32)).toNatClampNeg)), .int (xs ((x3 + (1 : Int32)).toNatClampNeg)), .ref (ad G 0)] rfl O dL_law_997 rfl (c_X11_sit hG h) wd_4_123 mw_X11_sit io_0 rfl (by decide) (Nat.le_of_ble_eq_true rfl) (fun v413 M413 h => ?_)
      refine J.aload_n (q := 1001) O dL_law_1000 rfl 2 rfl ?_
      refine J.aload_n (q := 1002) O dL_law_1001 rfl 0 rfl ?_
      refine J.iload_n (q := 1003) O dL_law_1002 rfl 3 rfl ?_
      refine J.iconst (q := 1004) (v := (1 : Int32)) O dL_law_1003 rfl rfl ?_
      refine J.iadd (q := 1005) O dL_law_1004 rfl ?_
      have hv414 := hv1
      refine J.xld (q := 1006) O dL_law_1005 rfl OX hv414 ?_
      refine J.aload_n (q := 1007) O dL_law_1006 rfl 0 rfl ?_
      refine J.iload_n (q := 1008) O dL_law_1007 rfl 3 rfl ?_
      refine J.iconst (q := 1009) (v := (2 : Int32)) O dL_law_1008 rfl rfl ?_
      refine J.iadd (q := 1010) O dL_law_1009 rfl ?_
      have hv415 := hv2
      refine J.xld (q := 1011) O dL_law_1010 rfl OX hv415 ?_
      refine J.callVI (q := 1014) [.int (xs ((x3 + (1 : Int32)).toNatClampNeg)), .int (xs ((x3 + (2 : Int32)).toNatClampNeg))] [.int v413] [.int (xs ((x3 + (2 : Int32)).toNatClampNeg)), .int (xs ((x3 + (1 : Int32)).toNatClampNeg)), .ref (ad G 287), .int v413] rfl O dL_law_1011 rfl (c_X12_sit hG h) wd_8_110 mw_X12_sit io_287 rfl (by decide) (Nat.le_of_ble_eq_true rfl) (fun v416 M416 h => ?_)
      refine J.icmp_eq (q := 1017) (tgt := 2282) O dL_law_1014 rfl (by decide) (fun z417 => ?_) (fun z417 => ?_)
      · exact J.sub [0, 1, 2, 3] rfl (jl_b2282 hG O hr18 h.2)
      · exact absurd h.1.symm z417
    | 19, _, z291 =>
      have z291 : ((xs x3.toNatClampNeg) &&& (63 : Int32)) = (19 : Int32) := z291.trans (by decide)
      have h := P_session H (xs ((x3 + (1 : Int32)).toNatClampNeg)) (xs ((x3 + (2 : Int32)).toNatClampNeg))
      refine J.tswIn (q := 1019) O dL_law_33 (19 : Int32) z291 (by decide) (by decide) rfl (by decide) ?_
      refine J.aload_n (q := 1020) O dL_law_1019 rfl 1 rfl ?_
      refine J.aload_n (q := 1021) O dL_law_1020 rfl 0 rfl ?_
      refine J.iload_n (q := 1022) O dL_law_1021 rfl 3 rfl ?_
      refine J.iconst (q := 1023) (v := (1 : Int32)) O dL_law_1022 rfl rfl ?_
      refine J.iadd (q := 1024) O dL_law_1023 rfl ?_
      have hv418 := hv1
      refine J.xld (q := 1025) O dL_law_1024 rfl OX hv418 ?_
      refine J.aload_n (q := 1026) O dL_law_1025 rfl 0 rfl ?_
      refine J.iload_n (q := 1027) O dL_law_1026 rfl 3 rfl ?_
      refine J.iconst (q := 1028) (v := (2 : Int32)) O dL_law_1027 rfl rfl ?_
      refine J.iadd (q := 1029) O dL_law_1028 rfl ?_
      have hv419 := hv2
      refine J.xld (q := 1030) O dL_law_1029 rfl OX hv419 ?_
      refine J.callVI (q := 1033) [.int (xs ((x3 + (1 : Int32)).toNatClampNeg)), .int (xs ((x3 + (2 : Int32)).toNatClampNeg))] [] [.int (xs ((x3 + (2 : Int32)).toNatClampNeg)), .int (xs ((x3 + (1 : Int32)).toNatClampNeg)), .ref (ad G 0)] rfl O dL_law_1030 rfl (c_X11_session hG h) wd_4_131 mw_X11_session io_0 rfl (by decide) (Nat.le_of_ble_eq_true rfl) (fun v420 M420 h => ?_)
      refine J.aload_n (q := 1034) O dL_law_1033 rfl 2 rfl ?_
      refine J.aload_n (q := 1035) O dL_law_1034 rfl 0 rfl ?_
      refine J.iload_n (q := 1036) O dL_law_1035 rfl 3 rfl ?_
      refine J.iconst (q := 1037) (v := (1 : Int32)) O dL_law_1036 rfl rfl ?_
      refine J.iadd (q := 1038) O dL_law_1037 rfl ?_
      have hv421 := hv1
      refine J.xld (q := 1039) O dL_law_1038 rfl OX hv421 ?_
      refine J.aload_n (q := 1040) O dL_law_1039 rfl 0 rfl ?_
      refine J.iload_n (q := 1041) O dL_law_1040 rfl 3 rfl ?_
      refine J.iconst (q := 1042) (v := (2 : Int32)) O dL_law_1041 rfl rfl ?_
      refine J.iadd (q := 1043) O dL_law_1042 rfl ?_
      have hv422 := hv2
      refine J.xld (q := 1044) O dL_law_1043 rfl OX hv422 ?_
      refine J.callVI (q := 1047) [.int (xs ((x3 + (1 : Int32)).toNatClampNeg)), .int (xs ((x3 + (2 : Int32)).toNatClampNeg))] [.int v420] [.int (xs ((x3 + (2 : Int32)).toNatClampNeg)), .int (xs ((x3 + (1 : Int32)).toNatClampNeg)), .ref (ad G 287), .int v420] rfl O dL_law_1044 rfl (c_X12_session hG h) wd_8_114 mw_X12_session io_287 rfl (by decide) (Nat.le_of_ble_eq_true rfl) (fun v423 M423 h => ?_)
      refine J.icmp_eq (q := 1050) (tgt := 2282) O dL_law_1047 rfl (by decide) (fun z424 => ?_) (fun z424 => ?_)
      · exact J.sub [0, 1, 2, 3] rfl (jl_b2282 hG O hr18 h.2)
      · exact absurd h.1.symm z424
    | 20, _, z291 =>
      have z291 : ((xs x3.toNatClampNeg) &&& (63 : Int32)) = (20 : Int32) := z291.trans (by decide)
      have h := P_vote H (xs ((x3 + (1 : Int32)).toNatClampNeg)) (xs ((x3 + (2 : Int32)).toNatClampNeg)) (xs ((x3 + (3 : Int32)).toNatClampNeg))
      refine J.tswIn (q := 1052) O dL_law_33 (20 : Int32) z291 (by decide) (by decide) rfl (by decide) ?_
      refine J.aload_n (q := 1053) O dL_law_1052 rfl 1 rfl ?_
      refine J.aload_n (q := 1054) O dL_law_1053 rfl 0 rfl ?_
      refine J.iload_n (q := 1055) O dL_law_1054 rfl 3 rfl ?_
      refine J.iconst (q := 1056) (v := (1 : Int32)) O dL_law_1055 rfl rfl ?_
      refine J.iadd (q := 1057) O dL_law_1056 rfl ?_
      have hv425 := hv1
      refine J.xld (q := 1058) O dL_law_1057 rfl OX hv425 ?_
      refine J.aload_n (q := 1059) O dL_law_1058 rfl 0 rfl ?_
      refine J.iload_n (q := 1060) O dL_law_1059 rfl 3 rfl ?_
      refine J.iconst (q := 1061) (v := (2 : Int32)) O dL_law_1060 rfl rfl ?_
      refine J.iadd (q := 1062) O dL_law_1061 rfl ?_
      have hv426 := hv2
      refine J.xld (q := 1063) O dL_law_1062 rfl OX hv426 ?_
      refine J.aload_n (q := 1064) O dL_law_1063 rfl 0 rfl ?_
      refine J.iload_n (q := 1065) O dL_law_1064 rfl 3 rfl ?_
      refine J.iconst (q := 1066) (v := (3 : Int32)) O dL_law_1065 rfl rfl ?_
      refine J.iadd (q := 1067) O dL_law_1066 rfl ?_
      have hv427 := hv3
      refine J.xld (q := 1068) O dL_law_1067 rfl OX hv427 ?_
      refine J.callVI (q := 1071) [.int (xs ((x3 + (1 : Int32)).toNatClampNeg)), .int (xs ((x3 + (2 : Int32)).toNatClampNeg)), .int (xs ((x3 + (3 : Int32)).toNatClampNeg))] [] [.int (xs ((x3 + (3 : Int32)).toNatClampNeg)), .int (xs ((x3 + (2 : Int32)).toNatClampNeg)), .int (xs ((x3 + (1 : Int32)).toNatClampNeg)), .ref (ad G 0)] rfl O dL_law_1068 rfl (c_X11_vote hG h) wd_4_145 mw_X11_vote io_0 rfl (by decide) (Nat.le_of_ble_eq_true rfl) (fun v428 M428 h => ?_)
      refine J.aload_n (q := 1072) O dL_law_1071 rfl 2 rfl ?_
      refine J.aload_n (q := 1073) O dL_law_1072 rfl 0 rfl ?_
      refine J.iload_n (q := 1074) O dL_law_1073 rfl 3 rfl ?_
      refine J.iconst (q := 1075) (v := (1 : Int32)) O dL_law_1074 rfl rfl ?_
      refine J.iadd (q := 1076) O dL_law_1075 rfl ?_
      have hv429 := hv1
      refine J.xld (q := 1077) O dL_law_1076 rfl OX hv429 ?_
      refine J.aload_n (q := 1078) O dL_law_1077 rfl 0 rfl ?_
      refine J.iload_n (q := 1079) O dL_law_1078 rfl 3 rfl ?_
      refine J.iconst (q := 1080) (v := (2 : Int32)) O dL_law_1079 rfl rfl ?_
      refine J.iadd (q := 1081) O dL_law_1080 rfl ?_
      have hv430 := hv2
      refine J.xld (q := 1082) O dL_law_1081 rfl OX hv430 ?_
      refine J.aload_n (q := 1083) O dL_law_1082 rfl 0 rfl ?_
      refine J.iload_n (q := 1084) O dL_law_1083 rfl 3 rfl ?_
      refine J.iconst (q := 1085) (v := (3 : Int32)) O dL_law_1084 rfl rfl ?_
      refine J.iadd (q := 1086) O dL_law_1085 rfl ?_
      have hv431 := hv3
      refine J.xld (q := 1087) O dL_law_1086 rfl OX hv431 ?_
      refine J.callVI (q := 1090) [.int (xs ((x3 + (1 : Int32)).toNatClampNeg)), .int (xs ((x3 + (2 : Int32)).toNatClampNeg)), .int (xs ((x3 + (3 : Int32)).toNatClampNeg))] [.int v428] [.int (xs ((x3 + (3 : Int32)).toNatClampNeg)), .int (xs ((x3 + (2 : Int32)).toNatClampNeg)), .int (xs ((x3 + (1 : Int32)).toNatClampNeg)), .ref (ad G 287), .int v428] rfl O dL_law_1087 rfl (c_X12_vote hG h) wd_8_122 mw_X12_vote io_287 rfl (by decide) (Nat.le_of_ble_eq_true rfl) (fun v432 M432 h => ?_)
      refine J.icmp_eq (q := 1093) (tgt := 2282) O dL_law_1090 rfl (by decide) (fun z433 => ?_) (fun z433 => ?_)
      · exact J.sub [0, 1, 2, 3] rfl (jl_b2282 hG O hr18 h.2)
      · exact absurd h.1.symm z433
    | 21, _, z291 =>
      have z291 : ((xs x3.toNatClampNeg) &&& (63 : Int32)) = (21 : Int32) := z291.trans (by decide)
      have h := P_sessionOf H (xs ((x3 + (1 : Int32)).toNatClampNeg)) (xs ((x3 + (2 : Int32)).toNatClampNeg))
      refine J.tswIn (q := 1095) O dL_law_33 (21 : Int32) z291 (by decide) (by decide) rfl (by decide) ?_
      refine J.aload_n (q := 1096) O dL_law_1095 rfl 1 rfl ?_
      refine J.aload_n (q := 1097) O dL_law_1096 rfl 0 rfl ?_
      refine J.iload_n (q := 1098) O dL_law_1097 rfl 3 rfl ?_
      refine J.iconst (q := 1099) (v := (1 : Int32)) O dL_law_1098 rfl rfl ?_
      refine J.iadd (q := 1100) O dL_law_1099 rfl ?_
      have hv434 := hv1
      refine J.xld (q := 1101) O dL_law_1100 rfl OX hv434 ?_
      refine J.aload_n (q := 1102) O dL_law_1101 rfl 0 rfl ?_
      refine J.iload_n (q := 1103) O dL_law_1102 rfl 3 rfl ?_
      refine J.iconst (q := 1104) (v := (2 : Int32)) O dL_law_1103 rfl rfl ?_
      refine J.iadd (q := 1105) O dL_law_1104 rfl ?_
      have hv435 := hv2
      refine J.xld (q := 1106) O dL_law_1105 rfl OX hv435 ?_
      refine J.callVI (q := 1109) [.int (xs ((x3 + (1 : Int32)).toNatClampNeg)), .int (xs ((x3 + (2 : Int32)).toNatClampNeg))] [] [.int (xs ((x3 + (2 : Int32)).toNatClampNeg)), .int (xs ((x3 + (1 : Int32)).toNatClampNeg)), .ref (ad G 0)] rfl O dL_law_1106 rfl (c_X11_sessionOf hG h) wd_4_153 mw_X11_sessionOf io_0 rfl (by decide) (Nat.le_of_ble_eq_true rfl) (fun v436 M436 h => ?_)
      refine J.aload_n (q := 1110) O dL_law_1109 rfl 2 rfl ?_
      refine J.aload_n (q := 1111) O dL_law_1110 rfl 0 rfl ?_
      refine J.iload_n (q := 1112) O dL_law_1111 rfl 3 rfl ?_
      refine J.iconst (q := 1113) (v := (1 : Int32)) O dL_law_1112 rfl rfl ?_
      refine J.iadd (q := 1114) O dL_law_1113 rfl ?_
      have hv437 := hv1
      refine J.xld (q := 1115) O dL_law_1114 rfl OX hv437 ?_
      refine J.aload_n (q := 1116) O dL_law_1115 rfl 0 rfl ?_
      refine J.iload_n (q := 1117) O dL_law_1116 rfl 3 rfl ?_
      refine J.iconst (q := 1118) (v := (2 : Int32)) O dL_law_1117 rfl rfl ?_
      refine J.iadd (q := 1119) O dL_law_1118 rfl ?_
      have hv438 := hv2
      refine J.xld (q := 1120) O dL_law_1119 rfl OX hv438 ?_
      refine J.callVI (q := 1123) [.int (xs ((x3 + (1 : Int32)).toNatClampNeg)), .int (xs ((x3 + (2 : Int32)).toNatClampNeg))] [.int v436] [.int (xs ((x3 + (2 : Int32)).toNatClampNeg)), .int (xs ((x3 + (1 : Int32)).toNatClampNeg)), .ref (ad G 287), .int v436] rfl O dL_law_1120 rfl (c_X12_sessionOf hG h) wd_8_126 mw_X12_sessionOf io_287 rfl (by decide) (Nat.le_of_ble_eq_true rfl) (fun v439 M439 h => ?_)
      refine J.icmp_eq (q := 1126) (tgt := 2282) O dL_law_1123 rfl (by decide) (fun z440 => ?_) (fun z440 => ?_)
      · exact J.sub [0, 1, 2, 3] rfl (jl_b2282 hG O hr18 h.2)
      · exact absurd h.1.symm z440
    | 22, _, z291 =>
      have z291 : ((xs x3.toNatClampNeg) &&& (63 : Int32)) = (22 : Int32) := z291.trans (by decide)
      have h := P_voids H (xs ((x3 + (1 : Int32)).toNatClampNeg))
      refine J.tswIn (q := 1128) O dL_law_33 (22 : Int32) z291 (by decide) (by decide) rfl (by decide) ?_
      refine J.aload_n (q := 1129) O dL_law_1128 rfl 1 rfl ?_
      refine J.aload_n (q := 1130) O dL_law_1129 rfl 0 rfl ?_
      refine J.iload_n (q := 1131) O dL_law_1130 rfl 3 rfl ?_
      refine J.iconst (q := 1132) (v := (1 : Int32)) O dL_law_1131 rfl rfl ?_
      refine J.iadd (q := 1133) O dL_law_1132 rfl ?_
      have hv441 := hv1
      refine J.xld (q := 1134) O dL_law_1133 rfl OX hv441 ?_
      refine J.callVI (q := 1137) [.int (xs ((x3 + (1 : Int32)).toNatClampNeg))] [] [.int (xs ((x3 + (1 : Int32)).toNatClampNeg)), .ref (ad G 0)] rfl O dL_law_1134 rfl (c_X11_voids hG h) wd_4_157 mw_X11_voids io_0 rfl (by decide) (Nat.le_of_ble_eq_true rfl) (fun v442 M442 h => ?_)
      refine J.aload_n (q := 1138) O dL_law_1137 rfl 2 rfl ?_
      refine J.aload_n (q := 1139) O dL_law_1138 rfl 0 rfl ?_
      refine J.iload_n (q := 1140) O dL_law_1139 rfl 3 rfl ?_
      refine J.iconst (q := 1141) (v := (1 : Int32)) O dL_law_1140 rfl rfl ?_
      refine J.iadd (q := 1142) O dL_law_1141 rfl ?_
      have hv443 := hv1
      refine J.xld (q := 1143) O dL_law_1142 rfl OX hv443 ?_
      refine J.callVI (q := 1146) [.int (xs ((x3 + (1 : Int32)).toNatClampNeg))] [.int v442] [.int (xs ((x3 + (1 : Int32)).toNatClampNeg)), .ref (ad G 287), .int v442] rfl O dL_law_1143 rfl (c_X12_voids hG h) wd_8_134 mw_X12_voids io_287 rfl (by decide) (Nat.le_of_ble_eq_true rfl) (fun v444 M444 h => ?_)
      refine J.icmp_eq (q := 1149) (tgt := 2282) O dL_law_1146 rfl (by decide) (fun z445 => ?_) (fun z445 => ?_)
      · exact J.sub [0, 1, 2, 3] rfl (jl_b2282 hG O hr18 h.2)
      · exact absurd h.1.symm z445
    | 23, _, z291 =>
      have z291 : ((xs x3.toNatClampNeg) &&& (63 : Int32)) = (23 : Int32) := z291.trans (by decide)
      have h := P_set H (xs ((x3 + (1 : Int32)).toNatClampNeg)) (xs ((x3 + (2 : Int32)).toNatClampNeg))
      refine J.tswIn (q := 1151) O dL_law_33 (23 : Int32) z291 (by decide) (by decide) rfl (by decide) ?_
      refine J.aload_n (q := 1152) O dL_law_1151 rfl 1 rfl ?_
      refine J.aload_n (q := 1153) O dL_law_1152 rfl 0 rfl ?_
      refine J.iload_n (q := 1154) O dL_law_1153 rfl 3 rfl ?_
      refine J.iconst (q := 1155) (v := (1 : Int32)) O dL_law_1154 rfl rfl ?_
      refine J.iadd (q := 1156) O dL_law_1155 rfl ?_
      have hv446 := hv1
      refine J.xld (q := 1157) O dL_law_1156 rfl OX hv446 ?_
      refine J.aload_n (q := 1158) O dL_law_1157 rfl 0 rfl ?_
      refine J.iload_n (q := 1159) O dL_law_1158 rfl 3 rfl ?_
      refine J.iconst (q := 1160) (v := (2 : Int32)) O dL_law_1159 rfl rfl ?_
      refine J.iadd (q := 1161) O dL_law_1160 rfl ?_
      have hv447 := hv2
      refine J.xld (q := 1162) O dL_law_1161 rfl OX hv447 ?_
      refine J.callVI (q := 1165) [.int (xs ((x3 + (1 : Int32)).toNatClampNeg)), .int (xs ((x3 + (2 : Int32)).toNatClampNeg))] [] [.int (xs ((x3 + (2 : Int32)).toNatClampNeg)), .int (xs ((x3 + (1 : Int32)).toNatClampNeg)), .ref (ad G 0)] rfl O dL_law_1162 rfl (c_X11_set hG h) wd_4_161 mw_X11_set io_0 rfl (by decide) (Nat.le_of_ble_eq_true rfl) (fun v448 M448 h => ?_)
      refine J.aload_n (q := 1166) O dL_law_1165 rfl 2 rfl ?_
      refine J.aload_n (q := 1167) O dL_law_1166 rfl 0 rfl ?_
      refine J.iload_n (q := 1168) O dL_law_1167 rfl 3 rfl ?_
      refine J.iconst (q := 1169) (v := (1 : Int32)) O dL_law_1168 rfl rfl ?_
      refine J.iadd (q := 1170) O dL_law_1169 rfl ?_
      have hv449 := hv1
      refine J.xld (q := 1171) O dL_law_1170 rfl OX hv449 ?_
      refine J.aload_n (q := 1172) O dL_law_1171 rfl 0 rfl ?_
      refine J.iload_n (q := 1173) O dL_law_1172 rfl 3 rfl ?_
      refine J.iconst (q := 1174) (v := (2 : Int32)) O dL_law_1173 rfl rfl ?_
      refine J.iadd (q := 1175) O dL_law_1174 rfl ?_
      have hv450 := hv2
      refine J.xld (q := 1176) O dL_law_1175 rfl OX hv450 ?_
      refine J.callVI (q := 1179) [.int (xs ((x3 + (1 : Int32)).toNatClampNeg)), .int (xs ((x3 + (2 : Int32)).toNatClampNeg))] [.int v448] [.int (xs ((x3 + (2 : Int32)).toNatClampNeg)), .int (xs ((x3 + (1 : Int32)).toNatClampNeg)), .ref (ad G 287), .int v448] rfl O dL_law_1176 rfl (c_X12_set hG h) wd_8_138 mw_X12_set io_287 rfl (by decide) (Nat.le_of_ble_eq_true rfl) (fun v451 M451 h => ?_)
      refine J.icmp_eq (q := 1182) (tgt := 2282) O dL_law_1179 rfl (by decide) (fun z452 => ?_) (fun z452 => ?_)
      · exact J.sub [0, 1, 2, 3] rfl (jl_b2282 hG O hr18 h.2)
      · exact absurd h.1.symm z452
    | 24, _, z291 =>
      have z291 : ((xs x3.toNatClampNeg) &&& (63 : Int32)) = (24 : Int32) := z291.trans (by decide)
      have h := P_agree H (xs ((x3 + (1 : Int32)).toNatClampNeg)) (xs ((x3 + (2 : Int32)).toNatClampNeg)) (xs ((x3 + (3 : Int32)).toNatClampNeg)) (xs ((x3 + (4 : Int32)).toNatClampNeg))
      refine J.tswIn (q := 1184) O dL_law_33 (24 : Int32) z291 (by decide) (by decide) rfl (by decide) ?_
      refine J.aload_n (q := 1185) O dL_law_1184 rfl 1 rfl ?_
      refine J.aload_n (q := 1186) O dL_law_1185 rfl 0 rfl ?_
      refine J.iload_n (q := 1187) O dL_law_1186 rfl 3 rfl ?_
      refine J.iconst (q := 1188) (v := (1 : Int32)) O dL_law_1187 rfl rfl ?_
      refine J.iadd (q := 1189) O dL_law_1188 rfl ?_
      have hv453 := hv1
      refine J.xld (q := 1190) O dL_law_1189 rfl OX hv453 ?_
      refine J.aload_n (q := 1191) O dL_law_1190 rfl 0 rfl ?_
      refine J.iload_n (q := 1192) O dL_law_1191 rfl 3 rfl ?_
      refine J.iconst (q := 1193) (v := (2 : Int32)) O dL_law_1192 rfl rfl ?_
      refine J.iadd (q := 1194) O dL_law_1193 rfl ?_
      have hv454 := hv2
      refine J.xld (q := 1195) O dL_law_1194 rfl OX hv454 ?_
      refine J.aload_n (q := 1196) O dL_law_1195 rfl 0 rfl ?_
      refine J.iload_n (q := 1197) O dL_law_1196 rfl 3 rfl ?_
      refine J.iconst (q := 1198) (v := (3 : Int32)) O dL_law_1197 rfl rfl ?_
      refine J.iadd (q := 1199) O dL_law_1198 rfl ?_
      have hv455 := hv3
      refine J.xld (q := 1200) O dL_law_1199 rfl OX hv455 ?_
      refine J.aload_n (q := 1201) O dL_law_1200 rfl 0 rfl ?_
      refine J.iload_n (q := 1202) O dL_law_1201 rfl 3 rfl ?_
      refine J.iconst (q := 1203) (v := (4 : Int32)) O dL_law_1202 rfl rfl ?_
      refine J.iadd (q := 1204) O dL_law_1203 rfl ?_
      have hv456 := hv4
      refine J.xld (q := 1205) O dL_law_1204 rfl OX hv456 ?_
      refine J.callVI (q := 1208) [.int (xs ((x3 + (1 : Int32)).toNatClampNeg)), .int (xs ((x3 + (2 : Int32)).toNatClampNeg)), .int (xs ((x3 + (3 : Int32)).toNatClampNeg)), .int (xs ((x3 + (4 : Int32)).toNatClampNeg))] [] [.int (xs ((x3 + (4 : Int32)).toNatClampNeg)), .int (xs ((x3 + (3 : Int32)).toNatClampNeg)), .int (xs ((x3 + (2 : Int32)).toNatClampNeg)), .int (xs ((x3 + (1 : Int32)).toNatClampNeg)), .ref (ad G 0)] rfl O dL_law_1205 rfl (c_X11_agree hG h) wd_4_169 mw_X11_agree io_0 rfl (by decide) (Nat.le_of_ble_eq_true rfl) (fun v457 M457 h => ?_)
      refine J.aload_n (q := 1209) O dL_law_1208 rfl 2 rfl ?_
      refine J.aload_n (q := 1210) O dL_law_1209 rfl 0 rfl ?_
      refine J.iload_n (q := 1211) O dL_law_1210 rfl 3 rfl ?_
      refine J.iconst (q := 1212) (v := (1 : Int32)) O dL_law_1211 rfl rfl ?_
      refine J.iadd (q := 1213) O dL_law_1212 rfl ?_
      have hv458 := hv1
      refine J.xld (q := 1214) O dL_law_1213 rfl OX hv458 ?_
      refine J.aload_n (q := 1215) O dL_law_1214 rfl 0 rfl ?_
      refine J.iload_n (q := 1216) O dL_law_1215 rfl 3 rfl ?_
      refine J.iconst (q := 1217) (v := (2 : Int32)) O dL_law_1216 rfl rfl ?_
      refine J.iadd (q := 1218) O dL_law_1217 rfl ?_
      have hv459 := hv2
      refine J.xld (q := 1219) O dL_law_1218 rfl OX hv459 ?_
      refine J.aload_n (q := 1220) O dL_law_1219 rfl 0 rfl ?_
      refine J.iload_n (q := 1221) O dL_law_1220 rfl 3 rfl ?_
      refine J.iconst (q := 1222) (v := (3 : Int32)) O dL_law_1221 rfl rfl ?_
      refine J.iadd (q := 1223) O dL_law_1222 rfl ?_
      have hv460 := hv3
      refine J.xld (q := 1224) O dL_law_1223 rfl OX hv460 ?_
      refine J.aload_n (q := 1225) O dL_law_1224 rfl 0 rfl ?_
      refine J.iload_n (q := 1226) O dL_law_1225 rfl 3 rfl ?_
      refine J.iconst (q := 1227) (v := (4 : Int32)) O dL_law_1226 rfl rfl ?_
      refine J.iadd (q := 1228) O dL_law_1227 rfl ?_
      have hv461 := hv4
      refine J.xld (q := 1229) O dL_law_1228 rfl OX hv461 ?_
      refine J.callVI (q := 1232) [.int (xs ((x3 + (1 : Int32)).toNatClampNeg)), .int (xs ((x3 + (2 : Int32)).toNatClampNeg)), .int (xs ((x3 + (3 : Int32)).toNatClampNeg)), .int (xs ((x3 + (4 : Int32)).toNatClampNeg))] [.int v457] [.int (xs ((x3 + (4 : Int32)).toNatClampNeg)), .int (xs ((x3 + (3 : Int32)).toNatClampNeg)), .int (xs ((x3 + (2 : Int32)).toNatClampNeg)), .int (xs ((x3 + (1 : Int32)).toNatClampNeg)), .ref (ad G 287), .int v457] rfl O dL_law_1229 rfl (c_X12_agree hG h) wd_8_142 mw_X12_agree io_287 rfl (by decide) (Nat.le_of_ble_eq_true rfl) (fun v462 M462 h => ?_)
      refine J.icmp_eq (q := 1235) (tgt := 2282) O dL_law_1232 rfl (by decide) (fun z463 => ?_) (fun z463 => ?_)
      · exact J.sub [0, 1, 2, 3] rfl (jl_b2282 hG O hr18 h.2)
      · exact absurd h.1.symm z463
    | 25, _, z291 =>
      have z291 : ((xs x3.toNatClampNeg) &&& (63 : Int32)) = (25 : Int32) := z291.trans (by decide)
      have h := P_cancel H (xs ((x3 + (1 : Int32)).toNatClampNeg))
      refine J.tswIn (q := 1237) O dL_law_33 (25 : Int32) z291 (by decide) (by decide) rfl (by decide) ?_
      refine J.aload_n (q := 1238) O dL_law_1237 rfl 1 rfl ?_
      refine J.aload_n (q := 1239) O dL_law_1238 rfl 0 rfl ?_
      refine J.iload_n (q := 1240) O dL_law_1239 rfl 3 rfl ?_
      refine J.iconst (q := 1241) (v := (1 : Int32)) O dL_law_1240 rfl rfl ?_
      refine J.iadd (q := 1242) O dL_law_1241 rfl ?_
      have hv464 := hv1
      refine J.xld (q := 1243) O dL_law_1242 rfl OX hv464 ?_
      refine J.callVI (q := 1246) [.int (xs ((x3 + (1 : Int32)).toNatClampNeg))] [] [.int (xs ((x3 + (1 : Int32)).toNatClampNeg)), .ref (ad G 0)] rfl O dL_law_1243 rfl (c_X11_cancel hG h) wd_4_181 mw_X11_cancel io_0 rfl (by decide) (Nat.le_of_ble_eq_true rfl) (fun v465 M465 h => ?_)
      refine J.aload_n (q := 1247) O dL_law_1246 rfl 2 rfl ?_
      refine J.aload_n (q := 1248) O dL_law_1247 rfl 0 rfl ?_
      refine J.iload_n (q := 1249) O dL_law_1248 rfl 3 rfl ?_
      refine J.iconst (q := 1250) (v := (1 : Int32)) O dL_law_1249 rfl rfl ?_
      refine J.iadd (q := 1251) O dL_law_1250 rfl ?_
      have hv466 := hv1
      refine J.xld (q := 1252) O dL_law_1251 rfl OX hv466 ?_
      refine J.callVI (q := 1255) [.int (xs ((x3 + (1 : Int32)).toNatClampNeg))] [.int v465] [.int (xs ((x3 + (1 : Int32)).toNatClampNeg)), .ref (ad G 287), .int v465] rfl O dL_law_1252 rfl (c_X12_cancel hG h) wd_8_150 mw_X12_cancel io_287 rfl (by decide) (Nat.le_of_ble_eq_true rfl) (fun v467 M467 h => ?_)
      refine J.icmp_eq (q := 1258) (tgt := 2282) O dL_law_1255 rfl (by decide) (fun z468 => ?_) (fun z468 => ?_)
      · exact J.sub [0, 1, 2, 3] rfl (jl_b2282 hG O hr18 h.2)
      · exact absurd h.1.symm z468
    | 26, _, z291 =>
      have z291 : ((xs x3.toNatClampNeg) &&& (63 : Int32)) = (26 : Int32) := z291.trans (by decide)
      have h := P_agreementOf H (xs ((x3 + (1 : Int32)).toNatClampNeg)) (xs ((x3 + (2 : Int32)).toNatClampNeg))
      refine J.tswIn (q := 1260) O dL_law_33 (26 : Int32) z291 (by decide) (by decide) rfl (by decide) ?_
      refine J.aload_n (q := 1261) O dL_law_1260 rfl 1 rfl ?_
      refine J.aload_n (q := 1262) O dL_law_1261 rfl 0 rfl ?_
      refine J.iload_n (q := 1263) O dL_law_1262 rfl 3 rfl ?_
      refine J.iconst (q := 1264) (v := (1 : Int32)) O dL_law_1263 rfl rfl ?_
      refine J.iadd (q := 1265) O dL_law_1264 rfl ?_
      have hv469 := hv1
      refine J.xld (q := 1266) O dL_law_1265 rfl OX hv469 ?_
      refine J.aload_n (q := 1267) O dL_law_1266 rfl 0 rfl ?_
      refine J.iload_n (q := 1268) O dL_law_1267 rfl 3 rfl ?_
      refine J.iconst (q := 1269) (v := (2 : Int32)) O dL_law_1268 rfl rfl ?_
      refine J.iadd (q := 1270) O dL_law_1269 rfl ?_
      have hv470 := hv2
      refine J.xld (q := 1271) O dL_law_1270 rfl OX hv470 ?_
      refine J.callVI (q := 1274) [.int (xs ((x3 + (1 : Int32)).toNatClampNeg)), .int (xs ((x3 + (2 : Int32)).toNatClampNeg))] [] [.int (xs ((x3 + (2 : Int32)).toNatClampNeg)), .int (xs ((x3 + (1 : Int32)).toNatClampNeg)), .ref (ad G 0)] rfl O dL_law_1271 rfl (c_X11_agreementOf hG h) wd_4_194 mw_X11_agreementOf io_0 rfl (by decide) (Nat.le_of_ble_eq_true rfl) (fun v471 M471 h => ?_)
      refine J.aload_n (q := 1275) O dL_law_1274 rfl 2 rfl ?_
      refine J.aload_n (q := 1276) O dL_law_1275 rfl 0 rfl ?_
      refine J.iload_n (q := 1277) O dL_law_1276 rfl 3 rfl ?_
      refine J.iconst (q := 1278) (v := (1 : Int32)) O dL_law_1277 rfl rfl ?_
      refine J.iadd (q := 1279) O dL_law_1278 rfl ?_
      have hv472 := hv1
      refine J.xld (q := 1280) O dL_law_1279 rfl OX hv472 ?_
      refine J.aload_n (q := 1281) O dL_law_1280 rfl 0 rfl ?_
      refine J.iload_n (q := 1282) O dL_law_1281 rfl 3 rfl ?_
      refine J.iconst (q := 1283) (v := (2 : Int32)) O dL_law_1282 rfl rfl ?_
      refine J.iadd (q := 1284) O dL_law_1283 rfl ?_
      have hv473 := hv2
      refine J.xld (q := 1285) O dL_law_1284 rfl OX hv473 ?_
      refine J.callVI (q := 1288) [.int (xs ((x3 + (1 : Int32)).toNatClampNeg)), .int (xs ((x3 + (2 : Int32)).toNatClampNeg))] [.int v471] [.int (xs ((x3 + (2 : Int32)).toNatClampNeg)), .int (xs ((x3 + (1 : Int32)).toNatClampNeg)), .ref (ad G 287), .int v471] rfl O dL_law_1285 rfl (c_X12_agreementOf hG h) wd_8_158 mw_X12_agreementOf io_287 rfl (by decide) (Nat.le_of_ble_eq_true rfl) (fun v474 M474 h => ?_)
      refine J.icmp_eq (q := 1291) (tgt := 2282) O dL_law_1288 rfl (by decide) (fun z475 => ?_) (fun z475 => ?_)
      · exact J.sub [0, 1, 2, 3] rfl (jl_b2282 hG O hr18 h.2)
      · exact absurd h.1.symm z475
    | 27, _, z291 =>
      have z291 : ((xs x3.toNatClampNeg) &&& (63 : Int32)) = (27 : Int32) := z291.trans (by decide)
      have h := P_contract H (xs ((x3 + (1 : Int32)).toNatClampNeg)) (xs ((x3 + (2 : Int32)).toNatClampNeg)) (xs ((x3 + (3 : Int32)).toNatClampNeg))
      refine J.tswIn (q := 1293) O dL_law_33 (27 : Int32) z291 (by decide) (by decide) rfl (by decide) ?_
      refine J.aload_n (q := 1294) O dL_law_1293 rfl 1 rfl ?_
      refine J.aload_n (q := 1295) O dL_law_1294 rfl 0 rfl ?_
      refine J.iload_n (q := 1296) O dL_law_1295 rfl 3 rfl ?_
      refine J.iconst (q := 1297) (v := (1 : Int32)) O dL_law_1296 rfl rfl ?_
      refine J.iadd (q := 1298) O dL_law_1297 rfl ?_
      have hv476 := hv1
      refine J.xld (q := 1299) O dL_law_1298 rfl OX hv476 ?_
      refine J.aload_n (q := 1300) O dL_law_1299 rfl 0 rfl ?_
      refine J.iload_n (q := 1301) O dL_law_1300 rfl 3 rfl ?_
      refine J.iconst (q := 1302) (v := (2 : Int32)) O dL_law_1301 rfl rfl ?_
      refine J.iadd (q := 1303) O dL_law_1302 rfl ?_
      have hv477 := hv2
      refine J.xld (q := 1304) O dL_law_1303 rfl OX hv477 ?_
      refine J.aload_n (q := 1305) O dL_law_1304 rfl 0 rfl ?_
      refine J.iload_n (q := 1306) O dL_law_1305 rfl 3 rfl ?_
      refine J.iconst (q := 1307) (v := (3 : Int32)) O dL_law_1306 rfl rfl ?_
      refine J.iadd (q := 1308) O dL_law_1307 rfl ?_
      have hv478 := hv3
      refine J.xld (q := 1309) O dL_law_1308 rfl OX hv478 ?_
      refine J.callVI (q := 1312) [.int (xs ((x3 + (1 : Int32)).toNatClampNeg)), .int (xs ((x3 + (2 : Int32)).toNatClampNeg)), .int (xs ((x3 + (3 : Int32)).toNatClampNeg))] [] [.int (xs ((x3 + (3 : Int32)).toNatClampNeg)), .int (xs ((x3 + (2 : Int32)).toNatClampNeg)), .int (xs ((x3 + (1 : Int32)).toNatClampNeg)), .ref (ad G 0)] rfl O dL_law_1309 rfl (c_X11_contract hG h) wd_4_203 mw_X11_contract io_0 rfl (by decide) (Nat.le_of_ble_eq_true rfl) (fun v479 M479 h => ?_)
      refine J.aload_n (q := 1313) O dL_law_1312 rfl 2 rfl ?_
      refine J.aload_n (q := 1314) O dL_law_1313 rfl 0 rfl ?_
      refine J.iload_n (q := 1315) O dL_law_1314 rfl 3 rfl ?_
      refine J.iconst (q := 1316) (v := (1 : Int32)) O dL_law_1315 rfl rfl ?_
      refine J.iadd (q := 1317) O dL_law_1316 rfl ?_
      have hv480 := hv1
      refine J.xld (q := 1318) O dL_law_1317 rfl OX hv480 ?_
      refine J.aload_n (q := 1319) O dL_law_1318 rfl 0 rfl ?_
      refine J.iload_n (q := 1320) O dL_law_1319 rfl 3 rfl ?_
      refine J.iconst (q := 1321) (v := (2 : Int32)) O dL_law_1320 rfl rfl ?_
      refine J.iadd (q := 1322) O dL_law_1321 rfl ?_
      have hv481 := hv2
      refine J.xld (q := 1323) O dL_law_1322 rfl OX hv481 ?_
      refine J.aload_n (q := 1324) O dL_law_1323 rfl 0 rfl ?_
      refine J.iload_n (q := 1325) O dL_law_1324 rfl 3 rfl ?_
      refine J.iconst (q := 1326) (v := (3 : Int32)) O dL_law_1325 rfl rfl ?_
      refine J.iadd (q := 1327) O dL_law_1326 rfl ?_
      have hv482 := hv3
      refine J.xld (q := 1328) O dL_law_1327 rfl OX hv482 ?_
      refine J.callVI (q := 1331) [.int (xs ((x3 + (1 : Int32)).toNatClampNeg)), .int (xs ((x3 + (2 : Int32)).toNatClampNeg)), .int (xs ((x3 + (3 : Int32)).toNatClampNeg))] [.int v479] [.int (xs ((x3 + (3 : Int32)).toNatClampNeg)), .int (xs ((x3 + (2 : Int32)).toNatClampNeg)), .int (xs ((x3 + (1 : Int32)).toNatClampNeg)), .ref (ad G 287), .int v479] rfl O dL_law_1328 rfl (c_X12_contract hG h) wd_8_166 mw_X12_contract io_287 rfl (by decide) (Nat.le_of_ble_eq_true rfl) (fun v483 M483 h => ?_)
      refine J.icmp_eq (q := 1334) (tgt := 2282) O dL_law_1331 rfl (by decide) (fun z484 => ?_) (fun z484 => ?_)
      · exact J.sub [0, 1, 2, 3] rfl (jl_b2282 hG O hr18 h.2)
      · exact absurd h.1.symm z484
    | 28, _, z291 =>
      have z291 : ((xs x3.toNatClampNeg) &&& (63 : Int32)) = (28 : Int32) := z291.trans (by decide)
      refine J.tswIn (q := 1336) O dL_law_33 (28 : Int32) z291 (by decide) (by decide) rfl (by decide) ?_
      refine J.aload_n (q := 1337) O dL_law_1336 rfl 1 rfl ?_
      refine J.aload_n (q := 1338) O dL_law_1337 rfl 0 rfl ?_
      refine J.iload_n (q := 1339) O dL_law_1338 rfl 3 rfl ?_
      refine J.iconst (q := 1340) (v := (1 : Int32)) O dL_law_1339 rfl rfl ?_
      refine J.iadd (q := 1341) O dL_law_1340 rfl ?_
      have hv485 := hv1
      refine J.xld (q := 1342) O dL_law_1341 rfl OX hv485 ?_
      refine J.aload_n (q := 1343) O dL_law_1342 rfl 0 rfl ?_
      refine J.iload_n (q := 1344) O dL_law_1343 rfl 3 rfl ?_
      refine J.iconst (q := 1345) (v := (2 : Int32)) O dL_law_1344 rfl rfl ?_
      refine J.iadd (q := 1346) O dL_law_1345 rfl ?_
      have hv486 := hv2
      refine J.xld (q := 1347) O dL_law_1346 rfl OX hv486 ?_
      refine J.if_eq (q := 1350) (tgt := 1354) O dL_law_1347 rfl (by decide) (fun z487 => ?_) (fun z487 => ?_)
      · refine J.iconst (q := 1355) (v := (0 : Int32)) O dL_law_1354 rfl rfl ?_
        exact J.sub [0, 1, 2, 3] rfl (jl_b1355 hG O hR OX hr18 hv0 hv1 hv2 hv3 hv4 hv5 H (if_pos z487).symm rfl)
      · refine J.iconst (q := 1351) (v := (1 : Int32)) O dL_law_1350 rfl rfl ?_
        refine J.goto (q := 1355) O dL_law_1351 (by decide) ?_
        exact J.sub [0, 1, 2, 3] rfl (jl_b1355 hG O hR OX hr18 hv0 hv1 hv2 hv3 hv4 hv5 H (if_neg z487).symm rfl)
    | 29, _, z291 =>
      have z291 : ((xs x3.toNatClampNeg) &&& (63 : Int32)) = (29 : Int32) := z291.trans (by decide)
      have h := P_worth H (xs ((x3 + (1 : Int32)).toNatClampNeg)) (xs ((x3 + (2 : Int32)).toNatClampNeg)) (xs ((x3 + (3 : Int32)).toNatClampNeg)) (xs ((x3 + (4 : Int32)).toNatClampNeg))
      refine J.tswIn (q := 1385) O dL_law_33 (29 : Int32) z291 (by decide) (by decide) rfl (by decide) ?_
      refine J.aload_n (q := 1386) O dL_law_1385 rfl 1 rfl ?_
      refine J.aload_n (q := 1387) O dL_law_1386 rfl 0 rfl ?_
      refine J.iload_n (q := 1388) O dL_law_1387 rfl 3 rfl ?_
      refine J.iconst (q := 1389) (v := (1 : Int32)) O dL_law_1388 rfl rfl ?_
      refine J.iadd (q := 1390) O dL_law_1389 rfl ?_
      have hv488 := hv1
      refine J.xld (q := 1391) O dL_law_1390 rfl OX hv488 ?_
      refine J.aload_n (q := 1392) O dL_law_1391 rfl 0 rfl ?_
      refine J.iload_n (q := 1393) O dL_law_1392 rfl 3 rfl ?_
      refine J.iconst (q := 1394) (v := (2 : Int32)) O dL_law_1393 rfl rfl ?_
      refine J.iadd (q := 1395) O dL_law_1394 rfl ?_
      have hv489 := hv2
      refine J.xld (q := 1396) O dL_law_1395 rfl OX hv489 ?_
      refine J.aload_n (q := 1397) O dL_law_1396 rfl 0 rfl ?_
      refine J.iload_n (q := 1398) O dL_law_1397 rfl 3 rfl ?_
      refine J.iconst (q := 1399) (v := (3 : Int32)) O dL_law_1398 rfl rfl ?_
      refine J.iadd (q := 1400) O dL_law_1399 rfl ?_
      have hv490 := hv3
      refine J.xld (q := 1401) O dL_law_1400 rfl OX hv490 ?_
      refine J.aload_n (q := 1402) O dL_law_1401 rfl 0 rfl ?_
      refine J.iload_n (q := 1403) O dL_law_1402 rfl 3 rfl ?_
      refine J.iconst (q := 1404) (v := (4 : Int32)) O dL_law_1403 rfl rfl ?_
      refine J.iadd (q := 1405) O dL_law_1404 rfl ?_
      have hv491 := hv4
      refine J.xld (q := 1406) O dL_law_1405 rfl OX hv491 ?_
      refine J.callVI (q := 1409) [.int (xs ((x3 + (1 : Int32)).toNatClampNeg)), .int (xs ((x3 + (2 : Int32)).toNatClampNeg)), .int (xs ((x3 + (3 : Int32)).toNatClampNeg)), .int (xs ((x3 + (4 : Int32)).toNatClampNeg))] [] [.int (xs ((x3 + (4 : Int32)).toNatClampNeg)), .int (xs ((x3 + (3 : Int32)).toNatClampNeg)), .int (xs ((x3 + (2 : Int32)).toNatClampNeg)), .int (xs ((x3 + (1 : Int32)).toNatClampNeg)), .ref (ad G 0)] rfl O dL_law_1406 rfl (c_X11_worth hG h) wd_4_216 mw_X11_worth io_0 rfl (by decide) (Nat.le_of_ble_eq_true rfl) (fun v492 M492 h => ?_)
      refine J.aload_n (q := 1410) O dL_law_1409 rfl 2 rfl ?_
      refine J.aload_n (q := 1411) O dL_law_1410 rfl 0 rfl ?_
      refine J.iload_n (q := 1412) O dL_law_1411 rfl 3 rfl ?_
      refine J.iconst (q := 1413) (v := (1 : Int32)) O dL_law_1412 rfl rfl ?_
      refine J.iadd (q := 1414) O dL_law_1413 rfl ?_
      have hv493 := hv1
      refine J.xld (q := 1415) O dL_law_1414 rfl OX hv493 ?_
      refine J.aload_n (q := 1416) O dL_law_1415 rfl 0 rfl ?_
      refine J.iload_n (q := 1417) O dL_law_1416 rfl 3 rfl ?_
      refine J.iconst (q := 1418) (v := (2 : Int32)) O dL_law_1417 rfl rfl ?_
      refine J.iadd (q := 1419) O dL_law_1418 rfl ?_
      have hv494 := hv2
      refine J.xld (q := 1420) O dL_law_1419 rfl OX hv494 ?_
      refine J.aload_n (q := 1421) O dL_law_1420 rfl 0 rfl ?_
      refine J.iload_n (q := 1422) O dL_law_1421 rfl 3 rfl ?_
      refine J.iconst (q := 1423) (v := (3 : Int32)) O dL_law_1422 rfl rfl ?_
      refine J.iadd (q := 1424) O dL_law_1423 rfl ?_
      have hv495 := hv3
      refine J.xld (q := 1425) O dL_law_1424 rfl OX hv495 ?_
      refine J.aload_n (q := 1426) O dL_law_1425 rfl 0 rfl ?_
      refine J.iload_n (q := 1427) O dL_law_1426 rfl 3 rfl ?_
      refine J.iconst (q := 1428) (v := (4 : Int32)) O dL_law_1427 rfl rfl ?_
      refine J.iadd (q := 1429) O dL_law_1428 rfl ?_
      have hv496 := hv4
      refine J.xld (q := 1430) O dL_law_1429 rfl OX hv496 ?_
      refine J.callVI (q := 1433) [.int (xs ((x3 + (1 : Int32)).toNatClampNeg)), .int (xs ((x3 + (2 : Int32)).toNatClampNeg)), .int (xs ((x3 + (3 : Int32)).toNatClampNeg)), .int (xs ((x3 + (4 : Int32)).toNatClampNeg))] [.int v492] [.int (xs ((x3 + (4 : Int32)).toNatClampNeg)), .int (xs ((x3 + (3 : Int32)).toNatClampNeg)), .int (xs ((x3 + (2 : Int32)).toNatClampNeg)), .int (xs ((x3 + (1 : Int32)).toNatClampNeg)), .ref (ad G 287), .int v492] rfl O dL_law_1430 rfl (c_X12_worth hG h) wd_8_179 mw_X12_worth io_287 rfl (by decide) (Nat.le_of_ble_eq_true rfl) (fun v497 M497 h => ?_)
      refine J.icmp_eq (q := 1436) (tgt := 2282) O dL_law_1433 rfl (by decide) (fun z498 => ?_) (fun z498 => ?_)
      · exact J.sub [0, 1, 2, 3] rfl (jl_b2282 hG O hr18 h.2)
      · exact absurd h.1.symm z498
    | 30, _, z291 =>
      have z291 : ((xs x3.toNatClampNeg) &&& (63 : Int32)) = (30 : Int32) := z291.trans (by decide)
      refine J.tswIn (q := 1438) O dL_law_33 (30 : Int32) z291 (by decide) (by decide) rfl (by decide) ?_
      refine J.aload_n (q := 1439) O dL_law_1438 rfl 1 rfl ?_
      refine J.aload_n (q := 1440) O dL_law_1439 rfl 0 rfl ?_
      refine J.iload_n (q := 1441) O dL_law_1440 rfl 3 rfl ?_
      refine J.iconst (q := 1442) (v := (1 : Int32)) O dL_law_1441 rfl rfl ?_
      refine J.iadd (q := 1443) O dL_law_1442 rfl ?_
      have hv499 := hv1
      refine J.xld (q := 1444) O dL_law_1443 rfl OX hv499 ?_
      refine J.aload_n (q := 1445) O dL_law_1444 rfl 0 rfl ?_
      refine J.iload_n (q := 1446) O dL_law_1445 rfl 3 rfl ?_
      refine J.iconst (q := 1447) (v := (2 : Int32)) O dL_law_1446 rfl rfl ?_
      refine J.iadd (q := 1448) O dL_law_1447 rfl ?_
      have hv500 := hv2
      refine J.xld (q := 1449) O dL_law_1448 rfl OX hv500 ?_
      refine J.aload_n (q := 1450) O dL_law_1449 rfl 0 rfl ?_
      refine J.iload_n (q := 1451) O dL_law_1450 rfl 3 rfl ?_
      refine J.iconst (q := 1452) (v := (3 : Int32)) O dL_law_1451 rfl rfl ?_
      refine J.iadd (q := 1453) O dL_law_1452 rfl ?_
      have hv501 := hv3
      refine J.xld (q := 1454) O dL_law_1453 rfl OX hv501 ?_
      refine J.aload_n (q := 1455) O dL_law_1454 rfl 0 rfl ?_
      refine J.iload_n (q := 1456) O dL_law_1455 rfl 3 rfl ?_
      refine J.iconst (q := 1457) (v := (4 : Int32)) O dL_law_1456 rfl rfl ?_
      refine J.iadd (q := 1458) O dL_law_1457 rfl ?_
      have hv502 := hv4
      refine J.xld (q := 1459) O dL_law_1458 rfl OX hv502 ?_
      refine J.if_eq (q := 1462) (tgt := 1466) O dL_law_1459 rfl (by decide) (fun z503 => ?_) (fun z503 => ?_)
      · refine J.iconst (q := 1467) (v := (0 : Int32)) O dL_law_1466 rfl rfl ?_
        exact J.sub [0, 1, 2, 3] rfl (jl_b1467 hG O hR OX hr18 hv0 hv1 hv2 hv3 hv4 hv5 H (if_pos z503).symm rfl rfl rfl)
      · refine J.iconst (q := 1463) (v := (1 : Int32)) O dL_law_1462 rfl rfl ?_
        refine J.goto (q := 1467) O dL_law_1463 (by decide) ?_
        exact J.sub [0, 1, 2, 3] rfl (jl_b1467 hG O hR OX hr18 hv0 hv1 hv2 hv3 hv4 hv5 H (if_neg z503).symm rfl rfl rfl)
    | 31, _, z291 =>
      have z291 : ((xs x3.toNatClampNeg) &&& (63 : Int32)) = (31 : Int32) := z291.trans (by decide)
      have h := P_court H (xs ((x3 + (1 : Int32)).toNatClampNeg))
      refine J.tswIn (q := 1507) O dL_law_33 (31 : Int32) z291 (by decide) (by decide) rfl (by decide) ?_
      refine J.aload_n (q := 1508) O dL_law_1507 rfl 1 rfl ?_
      refine J.aload_n (q := 1509) O dL_law_1508 rfl 0 rfl ?_
      refine J.iload_n (q := 1510) O dL_law_1509 rfl 3 rfl ?_
      refine J.iconst (q := 1511) (v := (1 : Int32)) O dL_law_1510 rfl rfl ?_
      refine J.iadd (q := 1512) O dL_law_1511 rfl ?_
      have hv504 := hv1
      refine J.xld (q := 1513) O dL_law_1512 rfl OX hv504 ?_
      refine J.callVI (q := 1516) [.int (xs ((x3 + (1 : Int32)).toNatClampNeg))] [] [.int (xs ((x3 + (1 : Int32)).toNatClampNeg)), .ref (ad G 0)] rfl O dL_law_1513 rfl (c_X11_court hG h) wd_5_2 mw_X11_court io_0 rfl (by decide) (Nat.le_of_ble_eq_true rfl) (fun v505 M505 h => ?_)
      refine J.aload_n (q := 1517) O dL_law_1516 rfl 2 rfl ?_
      refine J.aload_n (q := 1518) O dL_law_1517 rfl 0 rfl ?_
      refine J.iload_n (q := 1519) O dL_law_1518 rfl 3 rfl ?_
      refine J.iconst (q := 1520) (v := (1 : Int32)) O dL_law_1519 rfl rfl ?_
      refine J.iadd (q := 1521) O dL_law_1520 rfl ?_
      have hv506 := hv1
      refine J.xld (q := 1522) O dL_law_1521 rfl OX hv506 ?_
      refine J.callVI (q := 1525) [.int (xs ((x3 + (1 : Int32)).toNatClampNeg))] [.int v505] [.int (xs ((x3 + (1 : Int32)).toNatClampNeg)), .ref (ad G 287), .int v505] rfl O dL_law_1522 rfl (c_X12_court hG h) wd_8_191 mw_X12_court io_287 rfl (by decide) (Nat.le_of_ble_eq_true rfl) (fun v507 M507 h => ?_)
      refine J.icmp_eq (q := 1528) (tgt := 2282) O dL_law_1525 rfl (by decide) (fun z508 => ?_) (fun z508 => ?_)
      · exact J.sub [0, 1, 2, 3] rfl (jl_b2282 hG O hr18 h.2)
      · exact absurd h.1.symm z508
    | 32, _, z291 =>
      have z291 : ((xs x3.toNatClampNeg) &&& (63 : Int32)) = (32 : Int32) := z291.trans (by decide)
      have h := P_deed H (xs ((x3 + (1 : Int32)).toNatClampNeg)) (xs ((x3 + (2 : Int32)).toNatClampNeg)) (xs ((x3 + (3 : Int32)).toNatClampNeg)) (xs ((x3 + (4 : Int32)).toNatClampNeg))
      refine J.tswIn (q := 1530) O dL_law_33 (32 : Int32) z291 (by decide) (by decide) rfl (by decide) ?_
      refine J.aload_n (q := 1531) O dL_law_1530 rfl 1 rfl ?_
      refine J.aload_n (q := 1532) O dL_law_1531 rfl 0 rfl ?_
      refine J.iload_n (q := 1533) O dL_law_1532 rfl 3 rfl ?_
      refine J.iconst (q := 1534) (v := (1 : Int32)) O dL_law_1533 rfl rfl ?_
      refine J.iadd (q := 1535) O dL_law_1534 rfl ?_
      have hv509 := hv1
      refine J.xld (q := 1536) O dL_law_1535 rfl OX hv509 ?_
      refine J.aload_n (q := 1537) O dL_law_1536 rfl 0 rfl ?_
      refine J.iload_n (q := 1538) O dL_law_1537 rfl 3 rfl ?_
      refine J.iconst (q := 1539) (v := (2 : Int32)) O dL_law_1538 rfl rfl ?_
      refine J.iadd (q := 1540) O dL_law_1539 rfl ?_
      have hv510 := hv2
      refine J.xld (q := 1541) O dL_law_1540 rfl OX hv510 ?_
      refine J.aload_n (q := 1542) O dL_law_1541 rfl 0 rfl ?_
      refine J.iload_n (q := 1543) O dL_law_1542 rfl 3 rfl ?_
      refine J.iconst (q := 1544) (v := (3 : Int32)) O dL_law_1543 rfl rfl ?_
      refine J.iadd (q := 1545) O dL_law_1544 rfl ?_
      have hv511 := hv3
      refine J.xld (q := 1546) O dL_law_1545 rfl OX hv511 ?_
      refine J.aload_n (q := 1547) O dL_law_1546 rfl 0 rfl ?_
      refine J.iload_n (q := 1548) O dL_law_1547 rfl 3 rfl ?_
      refine J.iconst (q := 1549) (v := (4 : Int32)) O dL_law_1548 rfl rfl ?_
      refine J.iadd (q := 1550) O dL_law_1549 rfl ?_
      have hv512 := hv4
      refine J.xld (q := 1551) O dL_law_1550 rfl OX hv512 ?_
      refine J.callVI (q := 1554) [.int (xs ((x3 + (1 : Int32)).toNatClampNeg)), .int (xs ((x3 + (2 : Int32)).toNatClampNeg)), .int (xs ((x3 + (3 : Int32)).toNatClampNeg)), .int (xs ((x3 + (4 : Int32)).toNatClampNeg))] [] [.int (xs ((x3 + (4 : Int32)).toNatClampNeg)), .int (xs ((x3 + (3 : Int32)).toNatClampNeg)), .int (xs ((x3 + (2 : Int32)).toNatClampNeg)), .int (xs ((x3 + (1 : Int32)).toNatClampNeg)), .ref (ad G 0)] rfl O dL_law_1551 rfl (c_X11_deed hG h) wd_5_7 mw_X11_deed io_0 rfl (by decide) (Nat.le_of_ble_eq_true rfl) (fun v513 M513 h => ?_)
      refine J.aload_n (q := 1555) O dL_law_1554 rfl 2 rfl ?_
      refine J.aload_n (q := 1556) O dL_law_1555 rfl 0 rfl ?_
      refine J.iload_n (q := 1557) O dL_law_1556 rfl 3 rfl ?_
      refine J.iconst (q := 1558) (v := (1 : Int32)) O dL_law_1557 rfl rfl ?_
      refine J.iadd (q := 1559) O dL_law_1558 rfl ?_
      have hv514 := hv1
      refine J.xld (q := 1560) O dL_law_1559 rfl OX hv514 ?_
      refine J.aload_n (q := 1561) O dL_law_1560 rfl 0 rfl ?_
      refine J.iload_n (q := 1562) O dL_law_1561 rfl 3 rfl ?_
      refine J.iconst (q := 1563) (v := (2 : Int32)) O dL_law_1562 rfl rfl ?_
      refine J.iadd (q := 1564) O dL_law_1563 rfl ?_
      have hv515 := hv2
      refine J.xld (q := 1565) O dL_law_1564 rfl OX hv515 ?_
      refine J.aload_n (q := 1566) O dL_law_1565 rfl 0 rfl ?_
      refine J.iload_n (q := 1567) O dL_law_1566 rfl 3 rfl ?_
      refine J.iconst (q := 1568) (v := (3 : Int32)) O dL_law_1567 rfl rfl ?_
      refine J.iadd (q := 1569) O dL_law_1568 rfl ?_
      have hv516 := hv3
      refine J.xld (q := 1570) O dL_law_1569 rfl OX hv516 ?_
      refine J.aload_n (q := 1571) O dL_law_1570 rfl 0 rfl ?_
      refine J.iload_n (q := 1572) O dL_law_1571 rfl 3 rfl ?_
      refine J.iconst (q := 1573) (v := (4 : Int32)) O dL_law_1572 rfl rfl ?_
      refine J.iadd (q := 1574) O dL_law_1573 rfl ?_
      have hv517 := hv4
      refine J.xld (q := 1575) O dL_law_1574 rfl OX hv517 ?_
      refine J.callVI (q := 1578) [.int (xs ((x3 + (1 : Int32)).toNatClampNeg)), .int (xs ((x3 + (2 : Int32)).toNatClampNeg)), .int (xs ((x3 + (3 : Int32)).toNatClampNeg)), .int (xs ((x3 + (4 : Int32)).toNatClampNeg))] [.int v513] [.int (xs ((x3 + (4 : Int32)).toNatClampNeg)), .int (xs ((x3 + (3 : Int32)).toNatClampNeg)), .int (xs ((x3 + (2 : Int32)).toNatClampNeg)), .int (xs ((x3 + (1 : Int32)).toNatClampNeg)), .ref (ad G 287), .int v513] rfl O dL_law_1575 rfl (c_X12_deed hG h) wd_8_195 mw_X12_deed io_287 rfl (by decide) (Nat.le_of_ble_eq_true rfl) (fun v518 M518 h => ?_)
      refine J.icmp_eq (q := 1581) (tgt := 2282) O dL_law_1578 rfl (by decide) (fun z519 => ?_) (fun z519 => ?_)
      · exact J.sub [0, 1, 2, 3] rfl (jl_b2282 hG O hr18 h.2)
      · exact absurd h.1.symm z519
    | 33, _, z291 =>
      have z291 : ((xs x3.toNatClampNeg) &&& (63 : Int32)) = (33 : Int32) := z291.trans (by decide)
      have h := P_deedOf H (xs ((x3 + (1 : Int32)).toNatClampNeg)) (xs ((x3 + (2 : Int32)).toNatClampNeg))
      refine J.tswIn (q := 1583) O dL_law_33 (33 : Int32) z291 (by decide) (by decide) rfl (by decide) ?_
      refine J.aload_n (q := 1584) O dL_law_1583 rfl 1 rfl ?_
      refine J.aload_n (q := 1585) O dL_law_1584 rfl 0 rfl ?_
      refine J.iload_n (q := 1586) O dL_law_1585 rfl 3 rfl ?_
      refine J.iconst (q := 1587) (v := (1 : Int32)) O dL_law_1586 rfl rfl ?_
      refine J.iadd (q := 1588) O dL_law_1587 rfl ?_
      have hv520 := hv1
      refine J.xld (q := 1589) O dL_law_1588 rfl OX hv520 ?_
      refine J.aload_n (q := 1590) O dL_law_1589 rfl 0 rfl ?_
      refine J.iload_n (q := 1591) O dL_law_1590 rfl 3 rfl ?_
      refine J.iconst (q := 1592) (v := (2 : Int32)) O dL_law_1591 rfl rfl ?_
      refine J.iadd (q := 1593) O dL_law_1592 rfl ?_
      have hv521 := hv2
      refine J.xld (q := 1594) O dL_law_1593 rfl OX hv521 ?_
      refine J.callVI (q := 1597) [.int (xs ((x3 + (1 : Int32)).toNatClampNeg)), .int (xs ((x3 + (2 : Int32)).toNatClampNeg))] [] [.int (xs ((x3 + (2 : Int32)).toNatClampNeg)), .int (xs ((x3 + (1 : Int32)).toNatClampNeg)), .ref (ad G 0)] rfl O dL_law_1594 rfl (c_X11_deedOf hG h) wd_5_15 mw_X11_deedOf io_0 rfl (by decide) (Nat.le_of_ble_eq_true rfl) (fun v522 M522 h => ?_)
      refine J.aload_n (q := 1598) O dL_law_1597 rfl 2 rfl ?_
      refine J.aload_n (q := 1599) O dL_law_1598 rfl 0 rfl ?_
      refine J.iload_n (q := 1600) O dL_law_1599 rfl 3 rfl ?_
      refine J.iconst (q := 1601) (v := (1 : Int32)) O dL_law_1600 rfl rfl ?_
      refine J.iadd (q := 1602) O dL_law_1601 rfl ?_
      have hv523 := hv1
      refine J.xld (q := 1603) O dL_law_1602 rfl OX hv523 ?_
      refine J.aload_n (q := 1604) O dL_law_1603 rfl 0 rfl ?_
      refine J.iload_n (q := 1605) O dL_law_1604 rfl 3 rfl ?_
      refine J.iconst (q := 1606) (v := (2 : Int32)) O dL_law_1605 rfl rfl ?_
      refine J.iadd (q := 1607) O dL_law_1606 rfl ?_
      have hv524 := hv2
      refine J.xld (q := 1608) O dL_law_1607 rfl OX hv524 ?_
      refine J.callVI (q := 1611) [.int (xs ((x3 + (1 : Int32)).toNatClampNeg)), .int (xs ((x3 + (2 : Int32)).toNatClampNeg))] [.int v522] [.int (xs ((x3 + (2 : Int32)).toNatClampNeg)), .int (xs ((x3 + (1 : Int32)).toNatClampNeg)), .ref (ad G 287), .int v522] rfl O dL_law_1608 rfl (c_X12_deedOf hG h) wd_8_199 mw_X12_deedOf io_287 rfl (by decide) (Nat.le_of_ble_eq_true rfl) (fun v525 M525 h => ?_)
      refine J.icmp_eq (q := 1614) (tgt := 2282) O dL_law_1611 rfl (by decide) (fun z526 => ?_) (fun z526 => ?_)
      · exact J.sub [0, 1, 2, 3] rfl (jl_b2282 hG O hr18 h.2)
      · exact absurd h.1.symm z526
    | 34, _, z291 =>
      have z291 : ((xs x3.toNatClampNeg) &&& (63 : Int32)) = (34 : Int32) := z291.trans (by decide)
      have h := P_hang H (xs ((x3 + (1 : Int32)).toNatClampNeg)) (xs ((x3 + (2 : Int32)).toNatClampNeg))
      refine J.tswIn (q := 1616) O dL_law_33 (34 : Int32) z291 (by decide) (by decide) rfl (by decide) ?_
      refine J.aload_n (q := 1617) O dL_law_1616 rfl 1 rfl ?_
      refine J.aload_n (q := 1618) O dL_law_1617 rfl 0 rfl ?_
      refine J.iload_n (q := 1619) O dL_law_1618 rfl 3 rfl ?_
      refine J.iconst (q := 1620) (v := (1 : Int32)) O dL_law_1619 rfl rfl ?_
      refine J.iadd (q := 1621) O dL_law_1620 rfl ?_
      have hv527 := hv1
      refine J.xld (q := 1622) O dL_law_1621 rfl OX hv527 ?_
      refine J.aload_n (q := 1623) O dL_law_1622 rfl 0 rfl ?_
      refine J.iload_n (q := 1624) O dL_law_1623 rfl 3 rfl ?_
      refine J.iconst (q := 1625) (v := (2 : Int32)) O dL_law_1624 rfl rfl ?_
      refine J.iadd (q := 1626) O dL_law_1625 rfl ?_
      have hv528 := hv2
      refine J.xld (q := 1627) O dL_law_1626 rfl OX hv528 ?_
      refine J.callVI (q := 1630) [.int (xs ((x3 + (1 : Int32)).toNatClampNeg)), .int (xs ((x3 + (2 : Int32)).toNatClampNeg))] [] [.int (xs ((x3 + (2 : Int32)).toNatClampNeg)), .int (xs ((x3 + (1 : Int32)).toNatClampNeg)), .ref (ad G 0)] rfl O dL_law_1627 rfl (c_X11_hang hG h) wd_5_46 mw_X11_hang io_0 rfl (by decide) (Nat.le_of_ble_eq_true rfl) (fun v529 M529 h => ?_)
      refine J.aload_n (q := 1631) O dL_law_1630 rfl 2 rfl ?_
      refine J.aload_n (q := 1632) O dL_law_1631 rfl 0 rfl ?_
      refine J.iload_n (q := 1633) O dL_law_1632 rfl 3 rfl ?_
      refine J.iconst (q := 1634) (v := (1 : Int32)) O dL_law_1633 rfl rfl ?_
      refine J.iadd (q := 1635) O dL_law_1634 rfl ?_
      have hv530 := hv1
      refine J.xld (q := 1636) O dL_law_1635 rfl OX hv530 ?_
      refine J.aload_n (q := 1637) O dL_law_1636 rfl 0 rfl ?_
      refine J.iload_n (q := 1638) O dL_law_1637 rfl 3 rfl ?_
      refine J.iconst (q := 1639) (v := (2 : Int32)) O dL_law_1638 rfl rfl ?_
      refine J.iadd (q := 1640) O dL_law_1639 rfl ?_
      have hv531 := hv2
      refine J.xld (q := 1641) O dL_law_1640 rfl OX hv531 ?_
      refine J.callVI (q := 1644) [.int (xs ((x3 + (1 : Int32)).toNatClampNeg)), .int (xs ((x3 + (2 : Int32)).toNatClampNeg))] [.int v529] [.int (xs ((x3 + (2 : Int32)).toNatClampNeg)), .int (xs ((x3 + (1 : Int32)).toNatClampNeg)), .ref (ad G 287), .int v529] rfl O dL_law_1641 rfl (c_X12_hang hG h) wd_8_215 mw_X12_hang io_287 rfl (by decide) (Nat.le_of_ble_eq_true rfl) (fun v532 M532 h => ?_)
      refine J.icmp_eq (q := 1647) (tgt := 2282) O dL_law_1644 rfl (by decide) (fun z533 => ?_) (fun z533 => ?_)
      · exact J.sub [0, 1, 2, 3] rfl (jl_b2282 hG O hr18 h.2)
      · exact absurd h.1.symm z533
    | 35, _, z291 =>
      have z291 : ((xs x3.toNatClampNeg) &&& (63 : Int32)) = (35 : Int32) := z291.trans (by decide)
      have h := P_need H (xs ((x3 + (1 : Int32)).toNatClampNeg)) (xs ((x3 + (2 : Int32)).toNatClampNeg))
      refine J.tswIn (q := 1649) O dL_law_33 (35 : Int32) z291 (by decide) (by decide) rfl (by decide) ?_
      refine J.aload_n (q := 1650) O dL_law_1649 rfl 1 rfl ?_
      refine J.aload_n (q := 1651) O dL_law_1650 rfl 0 rfl ?_
      refine J.iload_n (q := 1652) O dL_law_1651 rfl 3 rfl ?_
      refine J.iconst (q := 1653) (v := (1 : Int32)) O dL_law_1652 rfl rfl ?_
      refine J.iadd (q := 1654) O dL_law_1653 rfl ?_
      have hv534 := hv1
      refine J.xld (q := 1655) O dL_law_1654 rfl OX hv534 ?_
      refine J.aload_n (q := 1656) O dL_law_1655 rfl 0 rfl ?_
      refine J.iload_n (q := 1657) O dL_law_1656 rfl 3 rfl ?_
      refine J.iconst (q := 1658) (v := (2 : Int32)) O dL_law_1657 rfl rfl ?_
      refine J.iadd (q := 1659) O dL_law_1658 rfl ?_
      have hv535 := hv2
      refine J.xld (q := 1660) O dL_law_1659 rfl OX hv535 ?_
      refine J.callVI (q := 1663) [.int (xs ((x3 + (1 : Int32)).toNatClampNeg)), .int (xs ((x3 + (2 : Int32)).toNatClampNeg))] [] [.int (xs ((x3 + (2 : Int32)).toNatClampNeg)), .int (xs ((x3 + (1 : Int32)).toNatClampNeg)), .ref (ad G 0)] rfl O dL_law_1660 rfl (c_X11_need hG h) wd_5_54 mw_X11_need io_0 rfl (by decide) (Nat.le_of_ble_eq_true rfl) (fun v536 M536 h => ?_)
      refine J.aload_n (q := 1664) O dL_law_1663 rfl 2 rfl ?_
      refine J.aload_n (q := 1665) O dL_law_1664 rfl 0 rfl ?_
      refine J.iload_n (q := 1666) O dL_law_1665 rfl 3 rfl ?_
      refine J.iconst (q := 1667) (v := (1 : Int32)) O dL_law_1666 rfl rfl ?_
      refine J.iadd (q := 1668) O dL_law_1667 rfl ?_
      have hv537 := hv1
      refine J.xld (q := 1669) O dL_law_1668 rfl OX hv537 ?_
      refine J.aload_n (q := 1670) O dL_law_1669 rfl 0 rfl ?_
      refine J.iload_n (q := 1671) O dL_law_1670 rfl 3 rfl ?_
      refine J.iconst (q := 1672) (v := (2 : Int32)) O dL_law_1671 rfl rfl ?_
      refine J.iadd (q := 1673) O dL_law_1672 rfl ?_
      have hv538 := hv2
      refine J.xld (q := 1674) O dL_law_1673 rfl OX hv538 ?_
      refine J.callVI (q := 1677) [.int (xs ((x3 + (1 : Int32)).toNatClampNeg)), .int (xs ((x3 + (2 : Int32)).toNatClampNeg))] [.int v536] [.int (xs ((x3 + (2 : Int32)).toNatClampNeg)), .int (xs ((x3 + (1 : Int32)).toNatClampNeg)), .ref (ad G 287), .int v536] rfl O dL_law_1674 rfl (c_X12_need hG h) wd_8_219 mw_X12_need io_287 rfl (by decide) (Nat.le_of_ble_eq_true rfl) (fun v539 M539 h => ?_)
      refine J.icmp_eq (q := 1680) (tgt := 2282) O dL_law_1677 rfl (by decide) (fun z540 => ?_) (fun z540 => ?_)
      · exact J.sub [0, 1, 2, 3] rfl (jl_b2282 hG O hr18 h.2)
      · exact absurd h.1.symm z540
    | 36, _, z291 =>
      have z291 : ((xs x3.toNatClampNeg) &&& (63 : Int32)) = (36 : Int32) := z291.trans (by decide)
      refine J.tswIn (q := 1682) O dL_law_33 (36 : Int32) z291 (by decide) (by decide) rfl (by decide) ?_
      refine J.aload_n (q := 1683) O dL_law_1682 rfl 1 rfl ?_
      refine J.aload_n (q := 1684) O dL_law_1683 rfl 0 rfl ?_
      refine J.iload_n (q := 1685) O dL_law_1684 rfl 3 rfl ?_
      refine J.iconst (q := 1686) (v := (1 : Int32)) O dL_law_1685 rfl rfl ?_
      refine J.iadd (q := 1687) O dL_law_1686 rfl ?_
      have hv541 := hv1
      refine J.xld (q := 1688) O dL_law_1687 rfl OX hv541 ?_
      refine J.aload_n (q := 1689) O dL_law_1688 rfl 0 rfl ?_
      refine J.iload_n (q := 1690) O dL_law_1689 rfl 3 rfl ?_
      refine J.iconst (q := 1691) (v := (2 : Int32)) O dL_law_1690 rfl rfl ?_
      refine J.iadd (q := 1692) O dL_law_1691 rfl ?_
      have hv542 := hv2
      refine J.xld (q := 1693) O dL_law_1692 rfl OX hv542 ?_
      refine J.aload_n (q := 1694) O dL_law_1693 rfl 0 rfl ?_
      refine J.iload_n (q := 1695) O dL_law_1694 rfl 3 rfl ?_
      refine J.iconst (q := 1696) (v := (3 : Int32)) O dL_law_1695 rfl rfl ?_
      refine J.iadd (q := 1697) O dL_law_1696 rfl ?_
      have hv543 := hv3
      refine J.xld (q := 1698) O dL_law_1697 rfl OX hv543 ?_
      refine J.aload_n (q := 1699) O dL_law_1698 rfl 0 rfl ?_
      refine J.iload_n (q := 1700) O dL_law_1699 rfl 3 rfl ?_
      refine J.iconst (q := 1701) (v := (4 : Int32)) O dL_law_1700 rfl rfl ?_
      refine J.iadd (q := 1702) O dL_law_1701 rfl ?_
      have hv544 := hv4
      refine J.xld (q := 1703) O dL_law_1702 rfl OX hv544 ?_
      refine J.if_eq (q := 1706) (tgt := 1710) O dL_law_1703 rfl (by decide) (fun z545 => ?_) (fun z545 => ?_)
      · refine J.iconst (q := 1711) (v := (0 : Int32)) O dL_law_1710 rfl rfl ?_
        exact J.sub [0, 1, 2, 3] rfl (jl_b1711 hG O hR OX hr18 hv0 hv1 hv2 hv3 hv4 hv5 H (if_pos z545).symm rfl rfl rfl)
      · refine J.iconst (q := 1707) (v := (1 : Int32)) O dL_law_1706 rfl rfl ?_
        refine J.goto (q := 1711) O dL_law_1707 (by decide) ?_
        exact J.sub [0, 1, 2, 3] rfl (jl_b1711 hG O hR OX hr18 hv0 hv1 hv2 hv3 hv4 hv5 H (if_neg z545).symm rfl rfl rfl)
    | 37, _, z291 =>
      have z291 : ((xs x3.toNatClampNeg) &&& (63 : Int32)) = (37 : Int32) := z291.trans (by decide)
      have h := P_shifts H (xs ((x3 + (1 : Int32)).toNatClampNeg)) (xs ((x3 + (2 : Int32)).toNatClampNeg))
      refine J.tswIn (q := 1751) O dL_law_33 (37 : Int32) z291 (by decide) (by decide) rfl (by decide) ?_
      refine J.aload_n (q := 1752) O dL_law_1751 rfl 1 rfl ?_
      refine J.aload_n (q := 1753) O dL_law_1752 rfl 0 rfl ?_
      refine J.iload_n (q := 1754) O dL_law_1753 rfl 3 rfl ?_
      refine J.iconst (q := 1755) (v := (1 : Int32)) O dL_law_1754 rfl rfl ?_
      refine J.iadd (q := 1756) O dL_law_1755 rfl ?_
      have hv546 := hv1
      refine J.xld (q := 1757) O dL_law_1756 rfl OX hv546 ?_
      refine J.aload_n (q := 1758) O dL_law_1757 rfl 0 rfl ?_
      refine J.iload_n (q := 1759) O dL_law_1758 rfl 3 rfl ?_
      refine J.iconst (q := 1760) (v := (2 : Int32)) O dL_law_1759 rfl rfl ?_
      refine J.iadd (q := 1761) O dL_law_1760 rfl ?_
      have hv547 := hv2
      refine J.xld (q := 1762) O dL_law_1761 rfl OX hv547 ?_
      refine J.callVI (q := 1765) [.int (xs ((x3 + (1 : Int32)).toNatClampNeg)), .int (xs ((x3 + (2 : Int32)).toNatClampNeg))] [] [.int (xs ((x3 + (2 : Int32)).toNatClampNeg)), .int (xs ((x3 + (1 : Int32)).toNatClampNeg)), .ref (ad G 0)] rfl O dL_law_1762 rfl (c_X11_shifts hG h) wd_5_70 mw_X11_shifts io_0 rfl (by decide) (Nat.le_of_ble_eq_true rfl) (fun v548 M548 h => ?_)
      refine J.aload_n (q := 1766) O dL_law_1765 rfl 2 rfl ?_
      refine J.aload_n (q := 1767) O dL_law_1766 rfl 0 rfl ?_
      refine J.iload_n (q := 1768) O dL_law_1767 rfl 3 rfl ?_
      refine J.iconst (q := 1769) (v := (1 : Int32)) O dL_law_1768 rfl rfl ?_
      refine J.iadd (q := 1770) O dL_law_1769 rfl ?_
      have hv549 := hv1
      refine J.xld (q := 1771) O dL_law_1770 rfl OX hv549 ?_
      refine J.aload_n (q := 1772) O dL_law_1771 rfl 0 rfl ?_
      refine J.iload_n (q := 1773) O dL_law_1772 rfl 3 rfl ?_
      refine J.iconst (q := 1774) (v := (2 : Int32)) O dL_law_1773 rfl rfl ?_
      refine J.iadd (q := 1775) O dL_law_1774 rfl ?_
      have hv550 := hv2
      refine J.xld (q := 1776) O dL_law_1775 rfl OX hv550 ?_
      refine J.callVI (q := 1779) [.int (xs ((x3 + (1 : Int32)).toNatClampNeg)), .int (xs ((x3 + (2 : Int32)).toNatClampNeg))] [.int v548] [.int (xs ((x3 + (2 : Int32)).toNatClampNeg)), .int (xs ((x3 + (1 : Int32)).toNatClampNeg)), .ref (ad G 287), .int v548] rfl O dL_law_1776 rfl (c_X12_shifts hG h) wd_8_227 mw_X12_shifts io_287 rfl (by decide) (Nat.le_of_ble_eq_true rfl) (fun v551 M551 h => ?_)
      refine J.icmp_eq (q := 1782) (tgt := 2282) O dL_law_1779 rfl (by decide) (fun z552 => ?_) (fun z552 => ?_)
      · exact J.sub [0, 1, 2, 3] rfl (jl_b2282 hG O hr18 h.2)
      · exact absurd h.1.symm z552
    | 38, _, z291 =>
      have z291 : ((xs x3.toNatClampNeg) &&& (63 : Int32)) = (38 : Int32) := z291.trans (by decide)
      have h := P_shiftOf H (xs ((x3 + (1 : Int32)).toNatClampNeg)) (xs ((x3 + (2 : Int32)).toNatClampNeg)) (xs ((x3 + (3 : Int32)).toNatClampNeg)) (xs ((x3 + (4 : Int32)).toNatClampNeg))
      refine J.tswIn (q := 1784) O dL_law_33 (38 : Int32) z291 (by decide) (by decide) rfl (by decide) ?_
      refine J.aload_n (q := 1785) O dL_law_1784 rfl 1 rfl ?_
      refine J.aload_n (q := 1786) O dL_law_1785 rfl 0 rfl ?_
      refine J.iload_n (q := 1787) O dL_law_1786 rfl 3 rfl ?_
      refine J.iconst (q := 1788) (v := (1 : Int32)) O dL_law_1787 rfl rfl ?_
      refine J.iadd (q := 1789) O dL_law_1788 rfl ?_
      have hv553 := hv1
      refine J.xld (q := 1790) O dL_law_1789 rfl OX hv553 ?_
      refine J.aload_n (q := 1791) O dL_law_1790 rfl 0 rfl ?_
      refine J.iload_n (q := 1792) O dL_law_1791 rfl 3 rfl ?_
      refine J.iconst (q := 1793) (v := (2 : Int32)) O dL_law_1792 rfl rfl ?_
      refine J.iadd (q := 1794) O dL_law_1793 rfl ?_
      have hv554 := hv2
      refine J.xld (q := 1795) O dL_law_1794 rfl OX hv554 ?_
      refine J.aload_n (q := 1796) O dL_law_1795 rfl 0 rfl ?_
      refine J.iload_n (q := 1797) O dL_law_1796 rfl 3 rfl ?_
      refine J.iconst (q := 1798) (v := (3 : Int32)) O dL_law_1797 rfl rfl ?_
      refine J.iadd (q := 1799) O dL_law_1798 rfl ?_
      have hv555 := hv3
      refine J.xld (q := 1800) O dL_law_1799 rfl OX hv555 ?_
      refine J.aload_n (q := 1801) O dL_law_1800 rfl 0 rfl ?_
      refine J.iload_n (q := 1802) O dL_law_1801 rfl 3 rfl ?_
      refine J.iconst (q := 1803) (v := (4 : Int32)) O dL_law_1802 rfl rfl ?_
      refine J.iadd (q := 1804) O dL_law_1803 rfl ?_
      have hv556 := hv4
      refine J.xld (q := 1805) O dL_law_1804 rfl OX hv556 ?_
      refine J.callVI (q := 1808) [.int (xs ((x3 + (1 : Int32)).toNatClampNeg)), .int (xs ((x3 + (2 : Int32)).toNatClampNeg)), .int (xs ((x3 + (3 : Int32)).toNatClampNeg)), .int (xs ((x3 + (4 : Int32)).toNatClampNeg))] [] [.int (xs ((x3 + (4 : Int32)).toNatClampNeg)), .int (xs ((x3 + (3 : Int32)).toNatClampNeg)), .int (xs ((x3 + (2 : Int32)).toNatClampNeg)), .int (xs ((x3 + (1 : Int32)).toNatClampNeg)), .ref (ad G 0)] rfl O dL_law_1805 rfl (c_X11_shiftOf hG h) wd_5_147 mw_X11_shiftOf io_0 rfl (by decide) (Nat.le_of_ble_eq_true rfl) (fun v557 M557 h => ?_)
      refine J.aload_n (q := 1809) O dL_law_1808 rfl 2 rfl ?_
      refine J.aload_n (q := 1810) O dL_law_1809 rfl 0 rfl ?_
      refine J.iload_n (q := 1811) O dL_law_1810 rfl 3 rfl ?_
      refine J.iconst (q := 1812) (v := (1 : Int32)) O dL_law_1811 rfl rfl ?_
      refine J.iadd (q := 1813) O dL_law_1812 rfl ?_
      have hv558 := hv1
      refine J.xld (q := 1814) O dL_law_1813 rfl OX hv558 ?_
      refine J.aload_n (q := 1815) O dL_law_1814 rfl 0 rfl ?_
      refine J.iload_n (q := 1816) O dL_law_1815 rfl 3 rfl ?_
      refine J.iconst (q := 1817) (v := (2 : Int32)) O dL_law_1816 rfl rfl ?_
      refine J.iadd (q := 1818) O dL_law_1817 rfl ?_
      have hv559 := hv2
      refine J.xld (q := 1819) O dL_law_1818 rfl OX hv559 ?_
      refine J.aload_n (q := 1820) O dL_law_1819 rfl 0 rfl ?_
      refine J.iload_n (q := 1821) O dL_law_1820 rfl 3 rfl ?_
      refine J.iconst (q := 1822) (v := (3 : Int32)) O dL_law_1821 rfl rfl ?_
      refine J.iadd (q := 1823) O dL_law_1822 rfl ?_
      have hv560 := hv3
      refine J.xld (q := 1824) O dL_law_1823 rfl OX hv560 ?_
      refine J.aload_n (q := 1825) O dL_law_1824 rfl 0 rfl ?_
      refine J.iload_n (q := 1826) O dL_law_1825 rfl 3 rfl ?_
      refine J.iconst (q := 1827) (v := (4 : Int32)) O dL_law_1826 rfl rfl ?_
      refine J.iadd (q := 1828) O dL_law_1827 rfl ?_
      have hv561 := hv4
      refine J.xld (q := 1829) O dL_law_1828 rfl OX hv561 ?_
      refine J.callVI (q := 1832) [.int (xs ((x3 + (1 : Int32)).toNatClampNeg)), .int (xs ((x3 + (2 : Int32)).toNatClampNeg)), .int (xs ((x3 + (3 : Int32)).toNatClampNeg)), .int (xs ((x3 + (4 : Int32)).toNatClampNeg))] [.int v557] [.int (xs ((x3 + (4 : Int32)).toNatClampNeg)), .int (xs ((x3 + (3 : Int32)).toNatClampNeg)), .int (xs ((x3 + (2 : Int32)).toNatClampNeg)), .int (xs ((x3 + (1 : Int32)).toNatClampNeg)), .ref (ad G 287), .int v557] rfl O dL_law_1829 rfl (c_X12_shiftOf hG h) wd_9_26 mw_X12_shiftOf io_287 rfl (by decide) (Nat.le_of_ble_eq_true rfl) (fun v562 M562 h => ?_)
      refine J.icmp_eq (q := 1835) (tgt := 2282) O dL_law_1832 rfl (by decide) (fun z563 => ?_) (fun z563 => ?_)
      · exact J.sub [0, 1, 2, 3] rfl (jl_b2282 hG O hr18 h.2)
      · exact absurd h.1.symm z563
    | 39, _, z291 =>
      have z291 : ((xs x3.toNatClampNeg) &&& (63 : Int32)) = (39 : Int32) := z291.trans (by decide)
      have h := P_bars H (xs ((x3 + (1 : Int32)).toNatClampNeg))
      refine J.tswIn (q := 1837) O dL_law_33 (39 : Int32) z291 (by decide) (by decide) rfl (by decide) ?_
      refine J.aload_n (q := 1838) O dL_law_1837 rfl 1 rfl ?_
      refine J.aload_n (q := 1839) O dL_law_1838 rfl 0 rfl ?_
      refine J.iload_n (q := 1840) O dL_law_1839 rfl 3 rfl ?_
      refine J.iconst (q := 1841) (v := (1 : Int32)) O dL_law_1840 rfl rfl ?_
      refine J.iadd (q := 1842) O dL_law_1841 rfl ?_
      have hv564 := hv1
      refine J.xld (q := 1843) O dL_law_1842 rfl OX hv564 ?_
      refine J.callVI (q := 1846) [.int (xs ((x3 + (1 : Int32)).toNatClampNeg))] [] [.int (xs ((x3 + (1 : Int32)).toNatClampNeg)), .ref (ad G 0)] rfl O dL_law_1843 rfl (c_X11_bars hG h) wd_5_155 mw_X11_bars io_0 rfl (by decide) (Nat.le_of_ble_eq_true rfl) (fun v565 M565 h => ?_)
      refine J.aload_n (q := 1847) O dL_law_1846 rfl 2 rfl ?_
      refine J.aload_n (q := 1848) O dL_law_1847 rfl 0 rfl ?_
      refine J.iload_n (q := 1849) O dL_law_1848 rfl 3 rfl ?_
      refine J.iconst (q := 1850) (v := (1 : Int32)) O dL_law_1849 rfl rfl ?_
      refine J.iadd (q := 1851) O dL_law_1850 rfl ?_
      have hv566 := hv1
      refine J.xld (q := 1852) O dL_law_1851 rfl OX hv566 ?_
      refine J.callVI (q := 1855) [.int (xs ((x3 + (1 : Int32)).toNatClampNeg))] [.int v565] [.int (xs ((x3 + (1 : Int32)).toNatClampNeg)), .ref (ad G 287), .int v565] rfl O dL_law_1852 rfl (c_X12_bars hG h) wd_9_30 mw_X12_bars io_287 rfl (by decide) (Nat.le_of_ble_eq_true rfl) (fun v567 M567 h => ?_)
      refine J.icmp_eq (q := 1858) (tgt := 2282) O dL_law_1855 rfl (by decide) (fun z568 => ?_) (fun z568 => ?_)
      · exact J.sub [0, 1, 2, 3] rfl (jl_b2282 hG O hr18 h.2)
      · exact absurd h.1.symm z568
    | 40, _, z291 =>
      have z291 : ((xs x3.toNatClampNeg) &&& (63 : Int32)) = (40 : Int32) := z291.trans (by decide)
      have h := P_study H (xs ((x3 + (1 : Int32)).toNatClampNeg)) (xs ((x3 + (2 : Int32)).toNatClampNeg))
      refine J.tswIn (q := 1860) O dL_law_33 (40 : Int32) z291 (by decide) (by decide) rfl (by decide) ?_
      refine J.aload_n (q := 1861) O dL_law_1860 rfl 1 rfl ?_
      refine J.aload_n (q := 1862) O dL_law_1861 rfl 0 rfl ?_
      refine J.iload_n (q := 1863) O dL_law_1862 rfl 3 rfl ?_
      refine J.iconst (q := 1864) (v := (1 : Int32)) O dL_law_1863 rfl rfl ?_
      refine J.iadd (q := 1865) O dL_law_1864 rfl ?_
      have hv569 := hv1
      refine J.xld (q := 1866) O dL_law_1865 rfl OX hv569 ?_
      refine J.aload_n (q := 1867) O dL_law_1866 rfl 0 rfl ?_
      refine J.iload_n (q := 1868) O dL_law_1867 rfl 3 rfl ?_
      refine J.iconst (q := 1869) (v := (2 : Int32)) O dL_law_1868 rfl rfl ?_
      refine J.iadd (q := 1870) O dL_law_1869 rfl ?_
      have hv570 := hv2
      refine J.xld (q := 1871) O dL_law_1870 rfl OX hv570 ?_
      refine J.callVI (q := 1874) [.int (xs ((x3 + (1 : Int32)).toNatClampNeg)), .int (xs ((x3 + (2 : Int32)).toNatClampNeg))] [] [.int (xs ((x3 + (2 : Int32)).toNatClampNeg)), .int (xs ((x3 + (1 : Int32)).toNatClampNeg)), .ref (ad G 0)] rfl O dL_law_1871 rfl (c_X11_study hG h) wd_5_170 mw_X11_study io_0 rfl (by decide) (Nat.le_of_ble_eq_true rfl) (fun v571 M571 h => ?_)
      refine J.aload_n (q := 1875) O dL_law_1874 rfl 2 rfl ?_
      refine J.aload_n (q := 1876) O dL_law_1875 rfl 0 rfl ?_
      refine J.iload_n (q := 1877) O dL_law_1876 rfl 3 rfl ?_
      refine J.iconst (q := 1878) (v := (1 : Int32)) O dL_law_1877 rfl rfl ?_
      refine J.iadd (q := 1879) O dL_law_1878 rfl ?_
      have hv572 := hv1
      refine J.xld (q := 1880) O dL_law_1879 rfl OX hv572 ?_
      refine J.aload_n (q := 1881) O dL_law_1880 rfl 0 rfl ?_
      refine J.iload_n (q := 1882) O dL_law_1881 rfl 3 rfl ?_
      refine J.iconst (q := 1883) (v := (2 : Int32)) O dL_law_1882 rfl rfl ?_
      refine J.iadd (q := 1884) O dL_law_1883 rfl ?_
      have hv573 := hv2
      refine J.xld (q := 1885) O dL_law_1884 rfl OX hv573 ?_
      refine J.callVI (q := 1888) [.int (xs ((x3 + (1 : Int32)).toNatClampNeg)), .int (xs ((x3 + (2 : Int32)).toNatClampNeg))] [.int v571] [.int (xs ((x3 + (2 : Int32)).toNatClampNeg)), .int (xs ((x3 + (1 : Int32)).toNatClampNeg)), .ref (ad G 287), .int v571] rfl O dL_law_1885 rfl (c_X12_study hG h) wd_9_34 mw_X12_study io_287 rfl (by decide) (Nat.le_of_ble_eq_true rfl) (fun v574 M574 h => ?_)
      refine J.icmp_eq (q := 1891) (tgt := 2282) O dL_law_1888 rfl (by decide) (fun z575 => ?_) (fun z575 => ?_)
      · exact J.sub [0, 1, 2, 3] rfl (jl_b2282 hG O hr18 h.2)
      · exact absurd h.1.symm z575
    | 41, _, z291 =>
      have z291 : ((xs x3.toNatClampNeg) &&& (63 : Int32)) = (41 : Int32) := z291.trans (by decide)
      have h := P_time H (xs ((x3 + (1 : Int32)).toNatClampNeg)) (xs ((x3 + (2 : Int32)).toNatClampNeg))
      refine J.tswIn (q := 1893) O dL_law_33 (41 : Int32) z291 (by decide) (by decide) rfl (by decide) ?_
      refine J.aload_n (q := 1894) O dL_law_1893 rfl 1 rfl ?_
      refine J.aload_n (q := 1895) O dL_law_1894 rfl 0 rfl ?_
      refine J.iload_n (q := 1896) O dL_law_1895 rfl 3 rfl ?_
      refine J.iconst (q := 1897) (v := (1 : Int32)) O dL_law_1896 rfl rfl ?_
      refine J.iadd (q := 1898) O dL_law_1897 rfl ?_
      have hv576 := hv1
      refine J.xld (q := 1899) O dL_law_1898 rfl OX hv576 ?_
      refine J.aload_n (q := 1900) O dL_law_1899 rfl 0 rfl ?_
      refine J.iload_n (q := 1901) O dL_law_1900 rfl 3 rfl ?_
      refine J.iconst (q := 1902) (v := (2 : Int32)) O dL_law_1901 rfl rfl ?_
      refine J.iadd (q := 1903) O dL_law_1902 rfl ?_
      have hv577 := hv2
      refine J.xld (q := 1904) O dL_law_1903 rfl OX hv577 ?_
      refine J.callVI (q := 1907) [.int (xs ((x3 + (1 : Int32)).toNatClampNeg)), .int (xs ((x3 + (2 : Int32)).toNatClampNeg))] [] [.int (xs ((x3 + (2 : Int32)).toNatClampNeg)), .int (xs ((x3 + (1 : Int32)).toNatClampNeg)), .ref (ad G 0)] rfl O dL_law_1904 rfl (c_X11_time hG h) wd_5_178 mw_X11_time io_0 rfl (by decide) (Nat.le_of_ble_eq_true rfl) (fun v578 M578 h => ?_)
      refine J.aload_n (q := 1908) O dL_law_1907 rfl 2 rfl ?_
      refine J.aload_n (q := 1909) O dL_law_1908 rfl 0 rfl ?_
      refine J.iload_n (q := 1910) O dL_law_1909 rfl 3 rfl ?_
      refine J.iconst (q := 1911) (v := (1 : Int32)) O dL_law_1910 rfl rfl ?_
      refine J.iadd (q := 1912) O dL_law_1911 rfl ?_
      have hv579 := hv1
      refine J.xld (q := 1913) O dL_law_1912 rfl OX hv579 ?_
      refine J.aload_n (q := 1914) O dL_law_1913 rfl 0 rfl ?_
      refine J.iload_n (q := 1915) O dL_law_1914 rfl 3 rfl ?_
      refine J.iconst (q := 1916) (v := (2 : Int32)) O dL_law_1915 rfl rfl ?_
      refine J.iadd (q := 1917) O dL_law_1916 rfl ?_
      have hv580 := hv2
      refine J.xld (q := 1918) O dL_law_1917 rfl OX hv580 ?_
      refine J.callVI (q := 1921) [.int (xs ((x3 + (1 : Int32)).toNatClampNeg)), .int (xs ((x3 + (2 : Int32)).toNatClampNeg))] [.int v578] [.int (xs ((x3 + (2 : Int32)).toNatClampNeg)), .int (xs ((x3 + (1 : Int32)).toNatClampNeg)), .ref (ad G 287), .int v578] rfl O dL_law_1918 rfl (c_X12_time hG h) wd_9_41 mw_X12_time io_287 rfl (by decide) (Nat.le_of_ble_eq_true rfl) (fun v581 M581 h => ?_)
      refine J.icmp_eq (q := 1924) (tgt := 2282) O dL_law_1921 rfl (by decide) (fun z582 => ?_) (fun z582 => ?_)
      · exact J.sub [0, 1, 2, 3] rfl (jl_b2282 hG O hr18 h.2)
      · exact absurd h.1.symm z582
    | 42, _, z291 =>
      have z291 : ((xs x3.toNatClampNeg) &&& (63 : Int32)) = (42 : Int32) := z291.trans (by decide)
      have h := P_changed H (xs ((x3 + (1 : Int32)).toNatClampNeg)) (xs ((x3 + (2 : Int32)).toNatClampNeg)) (xs ((x3 + (3 : Int32)).toNatClampNeg))
      refine J.tswIn (q := 1926) O dL_law_33 (42 : Int32) z291 (by decide) (by decide) rfl (by decide) ?_
      refine J.aload_n (q := 1927) O dL_law_1926 rfl 1 rfl ?_
      refine J.aload_n (q := 1928) O dL_law_1927 rfl 0 rfl ?_
      refine J.iload_n (q := 1929) O dL_law_1928 rfl 3 rfl ?_
      refine J.iconst (q := 1930) (v := (1 : Int32)) O dL_law_1929 rfl rfl ?_
      refine J.iadd (q := 1931) O dL_law_1930 rfl ?_
      have hv583 := hv1
      refine J.xld (q := 1932) O dL_law_1931 rfl OX hv583 ?_
      refine J.aload_n (q := 1933) O dL_law_1932 rfl 0 rfl ?_
      refine J.iload_n (q := 1934) O dL_law_1933 rfl 3 rfl ?_
      refine J.iconst (q := 1935) (v := (2 : Int32)) O dL_law_1934 rfl rfl ?_
      refine J.iadd (q := 1936) O dL_law_1935 rfl ?_
      have hv584 := hv2
      refine J.xld (q := 1937) O dL_law_1936 rfl OX hv584 ?_
      refine J.aload_n (q := 1938) O dL_law_1937 rfl 0 rfl ?_
      refine J.iload_n (q := 1939) O dL_law_1938 rfl 3 rfl ?_
      refine J.iconst (q := 1940) (v := (3 : Int32)) O dL_law_1939 rfl rfl ?_
      refine J.iadd (q := 1941) O dL_law_1940 rfl ?_
      have hv585 := hv3
      refine J.xld (q := 1942) O dL_law_1941 rfl OX hv585 ?_
      refine J.callVI (q := 1945) [.int (xs ((x3 + (1 : Int32)).toNatClampNeg)), .int (xs ((x3 + (2 : Int32)).toNatClampNeg)), .int (xs ((x3 + (3 : Int32)).toNatClampNeg))] [] [.int (xs ((x3 + (3 : Int32)).toNatClampNeg)), .int (xs ((x3 + (2 : Int32)).toNatClampNeg)), .int (xs ((x3 + (1 : Int32)).toNatClampNeg)), .ref (ad G 0)] rfl O dL_law_1942 rfl (c_X11_changed hG h) wd_5_189 mw_X11_changed io_0 rfl (by decide) (Nat.le_of_ble_eq_true rfl) (fun v586 M586 h => ?_)
      refine J.aload_n (q := 1946) O dL_law_1945 rfl 2 rfl ?_
      refine J.aload_n (q := 1947) O dL_law_1946 rfl 0 rfl ?_
      refine J.iload_n (q := 1948) O dL_law_1947 rfl 3 rfl ?_
      refine J.iconst (q := 1949) (v := (1 : Int32)) O dL_law_1948 rfl rfl ?_
      refine J.iadd (q := 1950) O dL_law_1949 rfl ?_
      have hv587 := hv1
      refine J.xld (q := 1951) O dL_law_1950 rfl OX hv587 ?_
      refine J.aload_n (q := 1952) O dL_law_1951 rfl 0 rfl ?_
      refine J.iload_n (q := 1953) O dL_law_1952 rfl 3 rfl ?_
      refine J.iconst (q := 1954) (v := (2 : Int32)) O dL_law_1953 rfl rfl ?_
      refine J.iadd (q := 1955) O dL_law_1954 rfl ?_
      have hv588 := hv2
      refine J.xld (q := 1956) O dL_law_1955 rfl OX hv588 ?_
      refine J.aload_n (q := 1957) O dL_law_1956 rfl 0 rfl ?_
      refine J.iload_n (q := 1958) O dL_law_1957 rfl 3 rfl ?_
      refine J.iconst (q := 1959) (v := (3 : Int32)) O dL_law_1958 rfl rfl ?_
      refine J.iadd (q := 1960) O dL_law_1959 rfl ?_
      have hv589 := hv3
      refine J.xld (q := 1961) O dL_law_1960 rfl OX hv589 ?_
      refine J.callVI (q := 1964) [.int (xs ((x3 + (1 : Int32)).toNatClampNeg)), .int (xs ((x3 + (2 : Int32)).toNatClampNeg)), .int (xs ((x3 + (3 : Int32)).toNatClampNeg))] [.int v586] [.int (xs ((x3 + (3 : Int32)).toNatClampNeg)), .int (xs ((x3 + (2 : Int32)).toNatClampNeg)), .int (xs ((x3 + (1 : Int32)).toNatClampNeg)), .ref (ad G 287), .int v586] rfl O dL_law_1961 rfl (c_X12_changed hG h) wd_9_49 mw_X12_changed io_287 rfl (by decide) (Nat.le_of_ble_eq_true rfl) (fun v590 M590 h => ?_)
      refine J.icmp_eq (q := 1967) (tgt := 2282) O dL_law_1964 rfl (by decide) (fun z591 => ?_) (fun z591 => ?_)
      · exact J.sub [0, 1, 2, 3] rfl (jl_b2282 hG O hr18 h.2)
      · exact absurd h.1.symm z591
    | 43, _, z291 =>
      have z291 : ((xs x3.toNatClampNeg) &&& (63 : Int32)) = (43 : Int32) := z291.trans (by decide)
      have h := P_weight H (xs ((x3 + (1 : Int32)).toNatClampNeg)) (xs ((x3 + (2 : Int32)).toNatClampNeg))
      refine J.tswIn (q := 1969) O dL_law_33 (43 : Int32) z291 (by decide) (by decide) rfl (by decide) ?_
      refine J.aload_n (q := 1970) O dL_law_1969 rfl 1 rfl ?_
      refine J.aload_n (q := 1971) O dL_law_1970 rfl 0 rfl ?_
      refine J.iload_n (q := 1972) O dL_law_1971 rfl 3 rfl ?_
      refine J.iconst (q := 1973) (v := (1 : Int32)) O dL_law_1972 rfl rfl ?_
      refine J.iadd (q := 1974) O dL_law_1973 rfl ?_
      have hv592 := hv1
      refine J.xld (q := 1975) O dL_law_1974 rfl OX hv592 ?_
      refine J.aload_n (q := 1976) O dL_law_1975 rfl 0 rfl ?_
      refine J.iload_n (q := 1977) O dL_law_1976 rfl 3 rfl ?_
      refine J.iconst (q := 1978) (v := (2 : Int32)) O dL_law_1977 rfl rfl ?_
      refine J.iadd (q := 1979) O dL_law_1978 rfl ?_
      have hv593 := hv2
      refine J.xld (q := 1980) O dL_law_1979 rfl OX hv593 ?_
      refine J.callVI (q := 1983) [.int (xs ((x3 + (1 : Int32)).toNatClampNeg)), .int (xs ((x3 + (2 : Int32)).toNatClampNeg))] [] [.int (xs ((x3 + (2 : Int32)).toNatClampNeg)), .int (xs ((x3 + (1 : Int32)).toNatClampNeg)), .ref (ad G 0)] rfl O dL_law_1980 rfl (c_X11_weight hG h) wd_5_196 mw_X11_weight io_0 rfl (by decide) (Nat.le_of_ble_eq_true rfl) (fun v594 M594 h => ?_)
      refine J.aload_n (q := 1984) O dL_law_1983 rfl 2 rfl ?_
      refine J.aload_n (q := 1985) O dL_law_1984 rfl 0 rfl ?_
      refine J.iload_n (q := 1986) O dL_law_1985 rfl 3 rfl ?_
      refine J.iconst (q := 1987) (v := (1 : Int32)) O dL_law_1986 rfl rfl ?_
      refine J.iadd (q := 1988) O dL_law_1987 rfl ?_
      have hv595 := hv1
      refine J.xld (q := 1989) O dL_law_1988 rfl OX hv595 ?_
      refine J.aload_n (q := 1990) O dL_law_1989 rfl 0 rfl ?_
      refine J.iload_n (q := 1991) O dL_law_1990 rfl 3 rfl ?_
      refine J.iconst (q := 1992) (v := (2 : Int32)) O dL_law_1991 rfl rfl ?_
      refine J.iadd (q := 1993) O dL_law_1992 rfl ?_
      have hv596 := hv2
      refine J.xld (q := 1994) O dL_law_1993 rfl OX hv596 ?_
      refine J.callVI (q := 1997) [.int (xs ((x3 + (1 : Int32)).toNatClampNeg)), .int (xs ((x3 + (2 : Int32)).toNatClampNeg))] [.int v594] [.int (xs ((x3 + (2 : Int32)).toNatClampNeg)), .int (xs ((x3 + (1 : Int32)).toNatClampNeg)), .ref (ad G 287), .int v594] rfl O dL_law_1994 rfl (c_X12_weight hG h) wd_9_53 mw_X12_weight io_287 rfl (by decide) (Nat.le_of_ble_eq_true rfl) (fun v597 M597 h => ?_)
      refine J.icmp_eq (q := 2000) (tgt := 2282) O dL_law_1997 rfl (by decide) (fun z598 => ?_) (fun z598 => ?_)
      · exact J.sub [0, 1, 2, 3] rfl (jl_b2282 hG O hr18 h.2)
      · exact absurd h.1.symm z598
    | 44, _, z291 =>
      have z291 : ((xs x3.toNatClampNeg) &&& (63 : Int32)) = (44 : Int32) := z291.trans (by decide)
      have h := P_list H
      refine J.tswIn (q := 2002) O dL_law_33 (44 : Int32) z291 (by decide) (by decide) rfl (by decide) ?_
      refine J.aload_n (q := 2003) O dL_law_2002 rfl 1 rfl ?_
      refine J.callVI (q := 2006) [] [] [.ref (ad G 0)] rfl O dL_law_2003 rfl (c_X11_list hG h) wd_5_200 mw_X11_list io_0 rfl (by decide) (Nat.le_of_ble_eq_true rfl) (fun v599 M599 h => ?_)
      refine J.aload_n (q := 2007) O dL_law_2006 rfl 2 rfl ?_
      refine J.callVI (q := 2010) [] [.int v599] [.ref (ad G 287), .int v599] rfl O dL_law_2007 rfl (c_X12_list hG h) wd_9_57 mw_X12_list io_287 rfl (by decide) (Nat.le_of_ble_eq_true rfl) (fun v600 M600 h => ?_)
      refine J.icmp_eq (q := 2013) (tgt := 2282) O dL_law_2010 rfl (by decide) (fun z601 => ?_) (fun z601 => ?_)
      · exact J.sub [0, 1, 2, 3] rfl (jl_b2282 hG O hr18 h.2)
      · exact absurd h.1.symm z601
    | 45, _, z291 =>
      have z291 : ((xs x3.toNatClampNeg) &&& (63 : Int32)) = (45 : Int32) := z291.trans (by decide)
      have h := P_right H (xs ((x3 + (1 : Int32)).toNatClampNeg)) (xs ((x3 + (2 : Int32)).toNatClampNeg)) (xs ((x3 + (3 : Int32)).toNatClampNeg))
      refine J.tswIn (q := 2015) O dL_law_33 (45 : Int32) z291 (by decide) (by decide) rfl (by decide) ?_
      refine J.aload_n (q := 2016) O dL_law_2015 rfl 1 rfl ?_
      refine J.aload_n (q := 2017) O dL_law_2016 rfl 0 rfl ?_
      refine J.iload_n (q := 2018) O dL_law_2017 rfl 3 rfl ?_
      refine J.iconst (q := 2019) (v := (1 : Int32)) O dL_law_2018 rfl rfl ?_
      refine J.iadd (q := 2020) O dL_law_2019 rfl ?_
      have hv602 := hv1
      refine J.xld (q := 2021) O dL_law_2020 rfl OX hv602 ?_
      refine J.aload_n (q := 2022) O dL_law_2021 rfl 0 rfl ?_
      refine J.iload_n (q := 2023) O dL_law_2022 rfl 3 rfl ?_
      refine J.iconst (q := 2024) (v := (2 : Int32)) O dL_law_2023 rfl rfl ?_
      refine J.iadd (q := 2025) O dL_law_2024 rfl ?_
      have hv603 := hv2
      refine J.xld (q := 2026) O dL_law_2025 rfl OX hv603 ?_
      refine J.aload_n (q := 2027) O dL_law_2026 rfl 0 rfl ?_
      refine J.iload_n (q := 2028) O dL_law_2027 rfl 3 rfl ?_
      refine J.iconst (q := 2029) (v := (3 : Int32)) O dL_law_2028 rfl rfl ?_
      refine J.iadd (q := 2030) O dL_law_2029 rfl ?_
      have hv604 := hv3
      refine J.xld (q := 2031) O dL_law_2030 rfl OX hv604 ?_
      refine J.callVI (q := 2034) [.int (xs ((x3 + (1 : Int32)).toNatClampNeg)), .int (xs ((x3 + (2 : Int32)).toNatClampNeg)), .int (xs ((x3 + (3 : Int32)).toNatClampNeg))] [] [.int (xs ((x3 + (3 : Int32)).toNatClampNeg)), .int (xs ((x3 + (2 : Int32)).toNatClampNeg)), .int (xs ((x3 + (1 : Int32)).toNatClampNeg)), .ref (ad G 0)] rfl O dL_law_2031 rfl (c_X11_right hG h) wd_5_208 mw_X11_right io_0 rfl (by decide) (Nat.le_of_ble_eq_true rfl) (fun v605 M605 h => ?_)
      refine J.aload_n (q := 2035) O dL_law_2034 rfl 2 rfl ?_
      refine J.aload_n (q := 2036) O dL_law_2035 rfl 0 rfl ?_
      refine J.iload_n (q := 2037) O dL_law_2036 rfl 3 rfl ?_
      refine J.iconst (q := 2038) (v := (1 : Int32)) O dL_law_2037 rfl rfl ?_
      refine J.iadd (q := 2039) O dL_law_2038 rfl ?_
      have hv606 := hv1
      refine J.xld (q := 2040) O dL_law_2039 rfl OX hv606 ?_
      refine J.aload_n (q := 2041) O dL_law_2040 rfl 0 rfl ?_
      refine J.iload_n (q := 2042) O dL_law_2041 rfl 3 rfl ?_
      refine J.iconst (q := 2043) (v := (2 : Int32)) O dL_law_2042 rfl rfl ?_
      refine J.iadd (q := 2044) O dL_law_2043 rfl ?_
      have hv607 := hv2
      refine J.xld (q := 2045) O dL_law_2044 rfl OX hv607 ?_
      refine J.aload_n (q := 2046) O dL_law_2045 rfl 0 rfl ?_
      refine J.iload_n (q := 2047) O dL_law_2046 rfl 3 rfl ?_
      refine J.iconst (q := 2048) (v := (3 : Int32)) O dL_law_2047 rfl rfl ?_
      refine J.iadd (q := 2049) O dL_law_2048 rfl ?_
      have hv608 := hv3
      refine J.xld (q := 2050) O dL_law_2049 rfl OX hv608 ?_
      refine J.callVI (q := 2053) [.int (xs ((x3 + (1 : Int32)).toNatClampNeg)), .int (xs ((x3 + (2 : Int32)).toNatClampNeg)), .int (xs ((x3 + (3 : Int32)).toNatClampNeg))] [.int v605] [.int (xs ((x3 + (3 : Int32)).toNatClampNeg)), .int (xs ((x3 + (2 : Int32)).toNatClampNeg)), .int (xs ((x3 + (1 : Int32)).toNatClampNeg)), .ref (ad G 287), .int v605] rfl O dL_law_2050 rfl (c_X12_right hG h) wd_9_61 mw_X12_right io_287 rfl (by decide) (Nat.le_of_ble_eq_true rfl) (fun v609 M609 h => ?_)
      refine J.icmp_eq (q := 2056) (tgt := 2282) O dL_law_2053 rfl (by decide) (fun z610 => ?_) (fun z610 => ?_)
      · exact J.sub [0, 1, 2, 3] rfl (jl_b2282 hG O hr18 h.2)
      · exact absurd h.1.symm z610
    | 46, _, z291 =>
      have z291 : ((xs x3.toNatClampNeg) &&& (63 : Int32)) = (46 : Int32) := z291.trans (by decide)
      have h := P_points H (xs ((x3 + (1 : Int32)).toNatClampNeg))
      refine J.tswIn (q := 2058) O dL_law_33 (46 : Int32) z291 (by decide) (by decide) rfl (by decide) ?_
      refine J.aload_n (q := 2059) O dL_law_2058 rfl 1 rfl ?_
      refine J.aload_n (q := 2060) O dL_law_2059 rfl 0 rfl ?_
      refine J.iload_n (q := 2061) O dL_law_2060 rfl 3 rfl ?_
      refine J.iconst (q := 2062) (v := (1 : Int32)) O dL_law_2061 rfl rfl ?_
      refine J.iadd (q := 2063) O dL_law_2062 rfl ?_
      have hv611 := hv1
      refine J.xld (q := 2064) O dL_law_2063 rfl OX hv611 ?_
      refine J.callVI (q := 2067) [.int (xs ((x3 + (1 : Int32)).toNatClampNeg))] [] [.int (xs ((x3 + (1 : Int32)).toNatClampNeg)), .ref (ad G 0)] rfl O dL_law_2064 rfl (c_X11_points hG h) wd_5_220 mw_X11_points io_0 rfl (by decide) (Nat.le_of_ble_eq_true rfl) (fun v612 M612 h => ?_)
      refine J.aload_n (q := 2068) O dL_law_2067 rfl 2 rfl ?_
      refine J.aload_n (q := 2069) O dL_law_2068 rfl 0 rfl ?_
      refine J.iload_n (q := 2070) O dL_law_2069 rfl 3 rfl ?_
      refine J.iconst (q := 2071) (v := (1 : Int32)) O dL_law_2070 rfl rfl ?_
      refine J.iadd (q := 2072) O dL_law_2071 rfl ?_
      have hv613 := hv1
      refine J.xld (q := 2073) O dL_law_2072 rfl OX hv613 ?_
      refine J.callVI (q := 2076) [.int (xs ((x3 + (1 : Int32)).toNatClampNeg))] [.int v612] [.int (xs ((x3 + (1 : Int32)).toNatClampNeg)), .ref (ad G 287), .int v612] rfl O dL_law_2073 rfl (c_X12_points hG h) wd_9_65 mw_X12_points io_287 rfl (by decide) (Nat.le_of_ble_eq_true rfl) (fun v614 M614 h => ?_)
      refine J.icmp_eq (q := 2079) (tgt := 2282) O dL_law_2076 rfl (by decide) (fun z615 => ?_) (fun z615 => ?_)
      · exact J.sub [0, 1, 2, 3] rfl (jl_b2282 hG O hr18 h.2)
      · exact absurd h.1.symm z615
    | 47, _, z291 =>
      have z291 : ((xs x3.toNatClampNeg) &&& (63 : Int32)) = (47 : Int32) := z291.trans (by decide)
      have h := P_goes H (xs ((x3 + (1 : Int32)).toNatClampNeg)) (xs ((x3 + (2 : Int32)).toNatClampNeg)) (xs ((x3 + (3 : Int32)).toNatClampNeg))
      refine J.tswIn (q := 2081) O dL_law_33 (47 : Int32) z291 (by decide) (by decide) rfl (by decide) ?_
      refine J.aload_n (q := 2082) O dL_law_2081 rfl 1 rfl ?_
      refine J.aload_n (q := 2083) O dL_law_2082 rfl 0 rfl ?_
      refine J.iload_n (q := 2084) O dL_law_2083 rfl 3 rfl ?_
      refine J.iconst (q := 2085) (v := (1 : Int32)) O dL_law_2084 rfl rfl ?_
      refine J.iadd (q := 2086) O dL_law_2085 rfl ?_
      have hv616 := hv1
      refine J.xld (q := 2087) O dL_law_2086 rfl OX hv616 ?_
      refine J.aload_n (q := 2088) O dL_law_2087 rfl 0 rfl ?_
      refine J.iload_n (q := 2089) O dL_law_2088 rfl 3 rfl ?_
      refine J.iconst (q := 2090) (v := (2 : Int32)) O dL_law_2089 rfl rfl ?_
      refine J.iadd (q := 2091) O dL_law_2090 rfl ?_
      have hv617 := hv2
      refine J.xld (q := 2092) O dL_law_2091 rfl OX hv617 ?_
      refine J.aload_n (q := 2093) O dL_law_2092 rfl 0 rfl ?_
      refine J.iload_n (q := 2094) O dL_law_2093 rfl 3 rfl ?_
      refine J.iconst (q := 2095) (v := (3 : Int32)) O dL_law_2094 rfl rfl ?_
      refine J.iadd (q := 2096) O dL_law_2095 rfl ?_
      have hv618 := hv3
      refine J.xld (q := 2097) O dL_law_2096 rfl OX hv618 ?_
      refine J.callVI (q := 2100) [.int (xs ((x3 + (1 : Int32)).toNatClampNeg)), .int (xs ((x3 + (2 : Int32)).toNatClampNeg)), .int (xs ((x3 + (3 : Int32)).toNatClampNeg))] [] [.int (xs ((x3 + (3 : Int32)).toNatClampNeg)), .int (xs ((x3 + (2 : Int32)).toNatClampNeg)), .int (xs ((x3 + (1 : Int32)).toNatClampNeg)), .ref (ad G 0)] rfl O dL_law_2097 rfl (c_X11_goes hG h) wd_5_228 mw_X11_goes io_0 rfl (by decide) (Nat.le_of_ble_eq_true rfl) (fun v619 M619 h => ?_)
      refine J.aload_n (q := 2101) O dL_law_2100 rfl 2 rfl ?_
      refine J.aload_n (q := 2102) O dL_law_2101 rfl 0 rfl ?_
      refine J.iload_n (q := 2103) O dL_law_2102 rfl 3 rfl ?_
      refine J.iconst (q := 2104) (v := (1 : Int32)) O dL_law_2103 rfl rfl ?_
      refine J.iadd (q := 2105) O dL_law_2104 rfl ?_
      have hv620 := hv1
      refine J.xld (q := 2106) O dL_law_2105 rfl OX hv620 ?_
      refine J.aload_n (q := 2107) O dL_law_2106 rfl 0 rfl ?_
      refine J.iload_n (q := 2108) O dL_law_2107 rfl 3 rfl ?_
      refine J.iconst (q := 2109) (v := (2 : Int32)) O dL_law_2108 rfl rfl ?_
      refine J.iadd (q := 2110) O dL_law_2109 rfl ?_
      have hv621 := hv2
      refine J.xld (q := 2111) O dL_law_2110 rfl OX hv621 ?_
      refine J.aload_n (q := 2112) O dL_law_2111 rfl 0 rfl ?_
      refine J.iload_n (q := 2113) O dL_law_2112 rfl 3 rfl ?_
      refine J.iconst (q := 2114) (v := (3 : Int32)) O dL_law_2113 rfl rfl ?_
      refine J.iadd (q := 2115) O dL_law_2114 rfl ?_
      have hv622 := hv3
      refine J.xld (q := 2116) O dL_law_2115 rfl OX hv622 ?_
      refine J.callVI (q := 2119) [.int (xs ((x3 + (1 : Int32)).toNatClampNeg)), .int (xs ((x3 + (2 : Int32)).toNatClampNeg)), .int (xs ((x3 + (3 : Int32)).toNatClampNeg))] [.int v619] [.int (xs ((x3 + (3 : Int32)).toNatClampNeg)), .int (xs ((x3 + (2 : Int32)).toNatClampNeg)), .int (xs ((x3 + (1 : Int32)).toNatClampNeg)), .ref (ad G 287), .int v619] rfl O dL_law_2116 rfl (c_X12_goes hG h) wd_9_73 mw_X12_goes io_287 rfl (by decide) (Nat.le_of_ble_eq_true rfl) (fun v623 M623 h => ?_)
      refine J.icmp_eq (q := 2122) (tgt := 2282) O dL_law_2119 rfl (by decide) (fun z624 => ?_) (fun z624 => ?_)
      · exact J.sub [0, 1, 2, 3] rfl (jl_b2282 hG O hr18 h.2)
      · exact absurd h.1.symm z624
    | 48, _, z291 =>
      have z291 : ((xs x3.toNatClampNeg) &&& (63 : Int32)) = (48 : Int32) := z291.trans (by decide)
      have h := P_planned H (xs ((x3 + (1 : Int32)).toNatClampNeg)) (xs ((x3 + (2 : Int32)).toNatClampNeg)) (xs ((x3 + (3 : Int32)).toNatClampNeg))
      refine J.tswIn (q := 2124) O dL_law_33 (48 : Int32) z291 (by decide) (by decide) rfl (by decide) ?_
      refine J.aload_n (q := 2125) O dL_law_2124 rfl 1 rfl ?_
      refine J.aload_n (q := 2126) O dL_law_2125 rfl 0 rfl ?_
      refine J.iload_n (q := 2127) O dL_law_2126 rfl 3 rfl ?_
      refine J.iconst (q := 2128) (v := (1 : Int32)) O dL_law_2127 rfl rfl ?_
      refine J.iadd (q := 2129) O dL_law_2128 rfl ?_
      have hv625 := hv1
      refine J.xld (q := 2130) O dL_law_2129 rfl OX hv625 ?_
      refine J.aload_n (q := 2131) O dL_law_2130 rfl 0 rfl ?_
      refine J.iload_n (q := 2132) O dL_law_2131 rfl 3 rfl ?_
      refine J.iconst (q := 2133) (v := (2 : Int32)) O dL_law_2132 rfl rfl ?_
      refine J.iadd (q := 2134) O dL_law_2133 rfl ?_
      have hv626 := hv2
      refine J.xld (q := 2135) O dL_law_2134 rfl OX hv626 ?_
      refine J.aload_n (q := 2136) O dL_law_2135 rfl 0 rfl ?_
      refine J.iload_n (q := 2137) O dL_law_2136 rfl 3 rfl ?_
      refine J.iconst (q := 2138) (v := (3 : Int32)) O dL_law_2137 rfl rfl ?_
      refine J.iadd (q := 2139) O dL_law_2138 rfl ?_
      have hv627 := hv3
      refine J.xld (q := 2140) O dL_law_2139 rfl OX hv627 ?_
      refine J.callVI (q := 2143) [.int (xs ((x3 + (1 : Int32)).toNatClampNeg)), .int (xs ((x3 + (2 : Int32)).toNatClampNeg)), .int (xs ((x3 + (3 : Int32)).toNatClampNeg))] [] [.int (xs ((x3 + (3 : Int32)).toNatClampNeg)), .int (xs ((x3 + (2 : Int32)).toNatClampNeg)), .int (xs ((x3 + (1 : Int32)).toNatClampNeg)), .ref (ad G 0)] rfl O dL_law_2140 rfl (c_X11_planned hG h) wd_6_5 mw_X11_planned io_0 rfl (by decide) (Nat.le_of_ble_eq_true rfl) (fun v628 M628 h => ?_)
      refine J.aload_n (q := 2144) O dL_law_2143 rfl 2 rfl ?_
      refine J.aload_n (q := 2145) O dL_law_2144 rfl 0 rfl ?_
      refine J.iload_n (q := 2146) O dL_law_2145 rfl 3 rfl ?_
      refine J.iconst (q := 2147) (v := (1 : Int32)) O dL_law_2146 rfl rfl ?_
      refine J.iadd (q := 2148) O dL_law_2147 rfl ?_
      have hv629 := hv1
      refine J.xld (q := 2149) O dL_law_2148 rfl OX hv629 ?_
      refine J.aload_n (q := 2150) O dL_law_2149 rfl 0 rfl ?_
      refine J.iload_n (q := 2151) O dL_law_2150 rfl 3 rfl ?_
      refine J.iconst (q := 2152) (v := (2 : Int32)) O dL_law_2151 rfl rfl ?_
      refine J.iadd (q := 2153) O dL_law_2152 rfl ?_
      have hv630 := hv2
      refine J.xld (q := 2154) O dL_law_2153 rfl OX hv630 ?_
      refine J.aload_n (q := 2155) O dL_law_2154 rfl 0 rfl ?_
      refine J.iload_n (q := 2156) O dL_law_2155 rfl 3 rfl ?_
      refine J.iconst (q := 2157) (v := (3 : Int32)) O dL_law_2156 rfl rfl ?_
      refine J.iadd (q := 2158) O dL_law_2157 rfl ?_
      have hv631 := hv3
      refine J.xld (q := 2159) O dL_law_2158 rfl OX hv631 ?_
      refine J.callVI (q := 2162) [.int (xs ((x3 + (1 : Int32)).toNatClampNeg)), .int (xs ((x3 + (2 : Int32)).toNatClampNeg)), .int (xs ((x3 + (3 : Int32)).toNatClampNeg))] [.int v628] [.int (xs ((x3 + (3 : Int32)).toNatClampNeg)), .int (xs ((x3 + (2 : Int32)).toNatClampNeg)), .int (xs ((x3 + (1 : Int32)).toNatClampNeg)), .ref (ad G 287), .int v628] rfl O dL_law_2159 rfl (c_X12_planned hG h) wd_9_81 mw_X12_planned io_287 rfl (by decide) (Nat.le_of_ble_eq_true rfl) (fun v632 M632 h => ?_)
      refine J.icmp_eq (q := 2165) (tgt := 2282) O dL_law_2162 rfl (by decide) (fun z633 => ?_) (fun z633 => ?_)
      · exact J.sub [0, 1, 2, 3] rfl (jl_b2282 hG O hr18 h.2)
      · exact absurd h.1.symm z633
    | 49, _, z291 =>
      have z291 : ((xs x3.toNatClampNeg) &&& (63 : Int32)) = (49 : Int32) := z291.trans (by decide)
      have h := P_plan H
      refine J.tswIn (q := 2167) O dL_law_33 (49 : Int32) z291 (by decide) (by decide) rfl (by decide) ?_
      refine J.aload_n (q := 2168) O dL_law_2167 rfl 1 rfl ?_
      refine J.callVI (q := 2171) [] [] [.ref (ad G 0)] rfl O dL_law_2168 rfl (c_X11_plan hG h) wd_6_13 mw_X11_plan io_0 rfl (by decide) (Nat.le_of_ble_eq_true rfl) (fun v634 M634 h => ?_)
      refine J.aload_n (q := 2172) O dL_law_2171 rfl 2 rfl ?_
      refine J.callVI (q := 2175) [] [.int v634] [.ref (ad G 287), .int v634] rfl O dL_law_2172 rfl (c_X12_plan hG h) wd_9_85 mw_X12_plan io_287 rfl (by decide) (Nat.le_of_ble_eq_true rfl) (fun v635 M635 h => ?_)
      refine J.icmp_eq (q := 2178) (tgt := 2282) O dL_law_2175 rfl (by decide) (fun z636 => ?_) (fun z636 => ?_)
      · exact J.sub [0, 1, 2, 3] rfl (jl_b2282 hG O hr18 h.2)
      · exact absurd h.1.symm z636
    | 50, _, z291 =>
      have z291 : ((xs x3.toNatClampNeg) &&& (63 : Int32)) = (50 : Int32) := z291.trans (by decide)
      have h := P_placeOf H (xs ((x3 + (1 : Int32)).toNatClampNeg))
      refine J.tswIn (q := 2180) O dL_law_33 (50 : Int32) z291 (by decide) (by decide) rfl (by decide) ?_
      refine J.aload_n (q := 2181) O dL_law_2180 rfl 1 rfl ?_
      refine J.aload_n (q := 2182) O dL_law_2181 rfl 0 rfl ?_
      refine J.iload_n (q := 2183) O dL_law_2182 rfl 3 rfl ?_
      refine J.iconst (q := 2184) (v := (1 : Int32)) O dL_law_2183 rfl rfl ?_
      refine J.iadd (q := 2185) O dL_law_2184 rfl ?_
      have hv637 := hv1
      refine J.xld (q := 2186) O dL_law_2185 rfl OX hv637 ?_
      refine J.callVI (q := 2189) [.int (xs ((x3 + (1 : Int32)).toNatClampNeg))] [] [.int (xs ((x3 + (1 : Int32)).toNatClampNeg)), .ref (ad G 0)] rfl O dL_law_2186 rfl (c_X11_placeOf hG h) wd_6_42 mw_X11_placeOf io_0 rfl (by decide) (Nat.le_of_ble_eq_true rfl) (fun v638 M638 h => ?_)
      refine J.aload_n (q := 2190) O dL_law_2189 rfl 2 rfl ?_
      refine J.aload_n (q := 2191) O dL_law_2190 rfl 0 rfl ?_
      refine J.iload_n (q := 2192) O dL_law_2191 rfl 3 rfl ?_
      refine J.iconst (q := 2193) (v := (1 : Int32)) O dL_law_2192 rfl rfl ?_
      refine J.iadd (q := 2194) O dL_law_2193 rfl ?_
      have hv639 := hv1
      refine J.xld (q := 2195) O dL_law_2194 rfl OX hv639 ?_
      refine J.callVI (q := 2198) [.int (xs ((x3 + (1 : Int32)).toNatClampNeg))] [.int v638] [.int (xs ((x3 + (1 : Int32)).toNatClampNeg)), .ref (ad G 287), .int v638] rfl O dL_law_2195 rfl (c_X12_placeOf hG h) wd_9_97 mw_X12_placeOf io_287 rfl (by decide) (Nat.le_of_ble_eq_true rfl) (fun v640 M640 h => ?_)
      refine J.icmp_eq (q := 2201) (tgt := 2282) O dL_law_2198 rfl (by decide) (fun z641 => ?_) (fun z641 => ?_)
      · exact J.sub [0, 1, 2, 3] rfl (jl_b2282 hG O hr18 h.2)
      · exact absurd h.1.symm z641
    | 51, _, z291 =>
      have z291 : ((xs x3.toNatClampNeg) &&& (63 : Int32)) = (51 : Int32) := z291.trans (by decide)
      have h := P_put H (xs ((x3 + (1 : Int32)).toNatClampNeg))
      refine J.tswIn (q := 2203) O dL_law_33 (51 : Int32) z291 (by decide) (by decide) rfl (by decide) ?_
      refine J.aload_n (q := 2204) O dL_law_2203 rfl 1 rfl ?_
      refine J.aload_n (q := 2205) O dL_law_2204 rfl 0 rfl ?_
      refine J.iload_n (q := 2206) O dL_law_2205 rfl 3 rfl ?_
      refine J.iconst (q := 2207) (v := (1 : Int32)) O dL_law_2206 rfl rfl ?_
      refine J.iadd (q := 2208) O dL_law_2207 rfl ?_
      have hv642 := hv1
      refine J.xld (q := 2209) O dL_law_2208 rfl OX hv642 ?_
      refine J.callVI (q := 2212) [.int (xs ((x3 + (1 : Int32)).toNatClampNeg))] [] [.int (xs ((x3 + (1 : Int32)).toNatClampNeg)), .ref (ad G 0)] rfl O dL_law_2209 rfl (c_X11_put hG h) wd_6_46 mw_X11_put io_0 rfl (by decide) (Nat.le_of_ble_eq_true rfl) (fun v643 M643 h => ?_)
      refine J.aload_n (q := 2213) O dL_law_2212 rfl 2 rfl ?_
      refine J.aload_n (q := 2214) O dL_law_2213 rfl 0 rfl ?_
      refine J.iload_n (q := 2215) O dL_law_2214 rfl 3 rfl ?_
      refine J.iconst (q := 2216) (v := (1 : Int32)) O dL_law_2215 rfl rfl ?_
      refine J.iadd (q := 2217) O dL_law_2216 rfl ?_
      have hv644 := hv1
      refine J.xld (q := 2218) O dL_law_2217 rfl OX hv644 ?_
      refine J.callVI (q := 2221) [.int (xs ((x3 + (1 : Int32)).toNatClampNeg))] [.int v643] [.int (xs ((x3 + (1 : Int32)).toNatClampNeg)), .ref (ad G 287), .int v643] rfl O dL_law_2218 rfl (c_X12_put hG h) wd_9_101 mw_X12_put io_287 rfl (by decide) (Nat.le_of_ble_eq_true rfl) (fun v645 M645 h => ?_)
      refine J.icmp_eq (q := 2224) (tgt := 2282) O dL_law_2221 rfl (by decide) (fun z646 => ?_) (fun z646 => ?_)
      · exact J.sub [0, 1, 2, 3] rfl (jl_b2282 hG O hr18 h.2)
      · exact absurd h.1.symm z646
    | 52, _, z291 =>
      have z291 : ((xs x3.toNatClampNeg) &&& (63 : Int32)) = (52 : Int32) := z291.trans (by decide)
      have h := P_check H (xs ((x3 + (1 : Int32)).toNatClampNeg)) (xs ((x3 + (2 : Int32)).toNatClampNeg))
      refine J.tswIn (q := 2226) O dL_law_33 (52 : Int32) z291 (by decide) (by decide) rfl (by decide) ?_
      refine J.aload_n (q := 2227) O dL_law_2226 rfl 1 rfl ?_
      refine J.aload_n (q := 2228) O dL_law_2227 rfl 0 rfl ?_
      refine J.iload_n (q := 2229) O dL_law_2228 rfl 3 rfl ?_
      refine J.iconst (q := 2230) (v := (1 : Int32)) O dL_law_2229 rfl rfl ?_
      refine J.iadd (q := 2231) O dL_law_2230 rfl ?_
      have hv647 := hv1
      refine J.xld (q := 2232) O dL_law_2231 rfl OX hv647 ?_
      refine J.aload_n (q := 2233) O dL_law_2232 rfl 0 rfl ?_
      refine J.iload_n (q := 2234) O dL_law_2233 rfl 3 rfl ?_
      refine J.iconst (q := 2235) (v := (2 : Int32)) O dL_law_2234 rfl rfl ?_
      refine J.iadd (q := 2236) O dL_law_2235 rfl ?_
      have hv648 := hv2
      refine J.xld (q := 2237) O dL_law_2236 rfl OX hv648 ?_
      refine J.callVI (q := 2240) [.int (xs ((x3 + (1 : Int32)).toNatClampNeg)), .int (xs ((x3 + (2 : Int32)).toNatClampNeg))] [] [.int (xs ((x3 + (2 : Int32)).toNatClampNeg)), .int (xs ((x3 + (1 : Int32)).toNatClampNeg)), .ref (ad G 0)] rfl O dL_law_2237 rfl (c_X11_check hG h) wd_6_50 mw_X11_check io_0 rfl (by decide) (Nat.le_of_ble_eq_true rfl) (fun v649 M649 h => ?_)
      refine J.aload_n (q := 2241) O dL_law_2240 rfl 2 rfl ?_
      refine J.aload_n (q := 2242) O dL_law_2241 rfl 0 rfl ?_
      refine J.iload_n (q := 2243) O dL_law_2242 rfl 3 rfl ?_
      refine J.iconst (q := 2244) (v := (1 : Int32)) O dL_law_2243 rfl rfl ?_
      refine J.iadd (q := 2245) O dL_law_2244 rfl ?_
      have hv650 := hv1
      refine J.xld (q := 2246) O dL_law_2245 rfl OX hv650 ?_
      refine J.aload_n (q := 2247) O dL_law_2246 rfl 0 rfl ?_
      refine J.iload_n (q := 2248) O dL_law_2247 rfl 3 rfl ?_
      refine J.iconst (q := 2249) (v := (2 : Int32)) O dL_law_2248 rfl rfl ?_
      refine J.iadd (q := 2250) O dL_law_2249 rfl ?_
      have hv651 := hv2
      refine J.xld (q := 2251) O dL_law_2250 rfl OX hv651 ?_
      refine J.callVI (q := 2254) [.int (xs ((x3 + (1 : Int32)).toNatClampNeg)), .int (xs ((x3 + (2 : Int32)).toNatClampNeg))] [.int v649] [.int (xs ((x3 + (2 : Int32)).toNatClampNeg)), .int (xs ((x3 + (1 : Int32)).toNatClampNeg)), .ref (ad G 287), .int v649] rfl O dL_law_2251 rfl (c_X12_check hG h) wd_9_105 mw_X12_check io_287 rfl (by decide) (Nat.le_of_ble_eq_true rfl) (fun v652 M652 h => ?_)
      refine J.icmp_eq (q := 2257) (tgt := 2282) O dL_law_2254 rfl (by decide) (fun z653 => ?_) (fun z653 => ?_)
      · exact J.sub [0, 1, 2, 3] rfl (jl_b2282 hG O hr18 h.2)
      · exact absurd h.1.symm z653
    | 53, _, z291 =>
      have z291 : ((xs x3.toNatClampNeg) &&& (63 : Int32)) = (53 : Int32) := z291.trans (by decide)
      have h := P_count H (xs ((x3 + (1 : Int32)).toNatClampNeg))
      refine J.tswIn (q := 2259) O dL_law_33 (53 : Int32) z291 (by decide) (by decide) rfl (by decide) ?_
      refine J.aload_n (q := 2260) O dL_law_2259 rfl 1 rfl ?_
      refine J.aload_n (q := 2261) O dL_law_2260 rfl 0 rfl ?_
      refine J.iload_n (q := 2262) O dL_law_2261 rfl 3 rfl ?_
      refine J.iconst (q := 2263) (v := (1 : Int32)) O dL_law_2262 rfl rfl ?_
      refine J.iadd (q := 2264) O dL_law_2263 rfl ?_
      have hv654 := hv1
      refine J.xld (q := 2265) O dL_law_2264 rfl OX hv654 ?_
      refine J.callVI (q := 2268) [.int (xs ((x3 + (1 : Int32)).toNatClampNeg))] [] [.int (xs ((x3 + (1 : Int32)).toNatClampNeg)), .ref (ad G 0)] rfl O dL_law_2265 rfl (c_X11_count hG h) wd_6_54 mw_X11_count io_0 rfl (by decide) (Nat.le_of_ble_eq_true rfl) (fun v655 M655 h => ?_)
      refine J.aload_n (q := 2269) O dL_law_2268 rfl 2 rfl ?_
      refine J.aload_n (q := 2270) O dL_law_2269 rfl 0 rfl ?_
      refine J.iload_n (q := 2271) O dL_law_2270 rfl 3 rfl ?_
      refine J.iconst (q := 2272) (v := (1 : Int32)) O dL_law_2271 rfl rfl ?_
      refine J.iadd (q := 2273) O dL_law_2272 rfl ?_
      have hv656 := hv1
      refine J.xld (q := 2274) O dL_law_2273 rfl OX hv656 ?_
      refine J.callVI (q := 2277) [.int (xs ((x3 + (1 : Int32)).toNatClampNeg))] [.int v655] [.int (xs ((x3 + (1 : Int32)).toNatClampNeg)), .ref (ad G 287), .int v655] rfl O dL_law_2274 rfl (c_X12_count hG h) wd_9_109 mw_X12_count io_287 rfl (by decide) (Nat.le_of_ble_eq_true rfl) (fun v657 M657 h => ?_)
      refine J.icmp_eq (q := 2280) (tgt := 2282) O dL_law_2277 rfl (by decide) (fun z658 => ?_) (fun z658 => ?_)
      · exact J.sub [0, 1, 2, 3] rfl (jl_b2282 hG O hr18 h.2)
      · exact absurd h.1.symm z658
    | j + 54, hj, _ => exact absurd hj (by omega)
theorem law_lt {L k : Nat} (hL : L ≤ 3072) (hk : k ≤ 3072) : (nI L - (6 : Int32) < nI k) ↔ L < k + 6 := by
  by_cases h : 6 ≤ L
  · rw [show (6 : Int32) = nI 6 from rfl, nI_sb h (by omega), nI_lt_iff (by omega) (by omega)]
    omega
  · have h1 : nI L < nI 6 := (nI_lt_iff (by omega) (by omega)).mpr (by omega)
    have h2 := nI_pos' (n := L) (by omega)
    have h3 := nI_pos' (n := k) (by omega)
    have h4 : nI 6 = 6 := rfl
    rw [h4] at h1
    refine ⟨fun _ => by omega, fun _ => ?_⟩
    generalize nI L = x at *
    generalize nI k = y at *
    lia
theorem jl_law {b L : Nat} {xs : Nat → Int32} {X : CX} {G : GX} (hG : Gd G) (O : Ok X G cL_law 4 RL 200) (hR : RetZ X G cL_law (fun r _ => r = 1)) (OX : OkX X G b L xs) (hL : L ≤ 3072) : ∀ (d k : Nat), L - k < d → k ≤ L → ∀ {M : Mem}, Inv M → J X G M 18 [(0, .ref b), (1, .ref (ad G 0)), (2, .ref (ad G 287)), (3, .int (nI k))] [] := by
  intro d
  induction d with
  | zero => intro k hd; exact absurd hd (by omega)
  | succ d ih =>
    intro k hd hk M H
    refine J.iload_n (q := 19) O dL_law_18 rfl 3 rfl ?_
    refine J.aload_n (q := 20) O dL_law_19 rfl 0 rfl ?_
    refine J.xlen (q := 21) O dL_law_20 rfl OX ?_
    refine J.bipush (q := 23) (v := (6 : Int32)) O dL_law_21 rfl rfl ?_
    refine J.isub (q := 24) O dL_law_23 rfl ?_
    refine J.icmp_gt (q := 27) (tgt := 2288) O dL_law_24 rfl (by decide) (fun z289 => ?_) (fun z289 => ?_)
    · refine J.iconst (q := 2289) (v := (1 : Int32)) O dL_law_2288 rfl rfl ?_
      exact hR _ _ _ _ dL_law_2289 (Or.inr rfl) rfl
    · rw [law_lt hL (by omega)] at z289
      have hv : ∀ q, q < 6 → vp_in (nI (k + q)) L := fun q hq => vin_nI (by omega) (by omega)
      have he : ∀ q, nI k + nI q = nI (k + q) := fun q => nI_add k q
      refine jl_step hG O hR OX (fun M2 H2 => ?_) (hv 0 (by decide)) (show vp_in (nI k + nI 1) L by rw [he 1]; exact hv 1 (by decide)) (show vp_in (nI k + nI 2) L by rw [he 2]; exact hv 2 (by decide)) (show vp_in (nI k + nI 3) L by rw [he 3]; exact hv 3 (by decide)) (show vp_in (nI k + nI 4) L by rw [he 4]; exact hv 4 (by decide)) (show vp_in (nI k + nI 5) L by rw [he 5]; exact hv 5 (by decide)) H
      have := ih (k + 6) (by omega) (by omega) H2
      rw [← he 6] at this
      exact this
