def f_X11_refuse_b21 (K : Int32 → Mem → Prop) (x1 : Int32) (M : Mem) : Prop :=
  K x1 M
def f_X11_refuse (a1 : Int32) (M : Mem) (K : Int32 → Mem → Prop) : Prop :=
  ((0 ≤ a1) →
    f_X11_refuse_b21 K a1 M) ∧
  ((¬ 0 ≤ a1) →
    ((a1 < (-6 : Int32)) →
      f_X11_refuse_b21 K a1 M) ∧
    ((¬ a1 < (-6 : Int32)) →
      vp_in (-a1) 7 ∧
      vp_in (-a1) 7 ∧
      f_X11_refuse_b21 K a1 (mset M 126 ((-a1).toNatClampNeg) ((M 126 ((-a1).toNatClampNeg)) + (1 : Int32)))))
def f_X11_days (a1 : Int32) (M : Mem) (K : Int32 → Mem → Prop) : Prop :=
  (((1 : Int32) ≤ a1) →
    ((a1 ≤ ((1000 : Int32) - (M 1 0))) →
      K ((M 1 0) + a1) (mset M 1 0 ((M 1 0) + a1))) ∧
    ((¬ a1 ≤ ((1000 : Int32) - (M 1 0))) →
      f_X11_refuse (-6 : Int32) M (fun v3 M3 =>
        K v3 M3))) ∧
  ((¬ (1 : Int32) ≤ a1) →
    f_X11_refuse (-4 : Int32) M (fun v4 M4 =>
      K v4 M4))
def f_X0_fed (M : Mem) (K : Int32 → Mem → Prop) : Prop :=
  vp_in (M 15 0) 25 ∧
  K (M 42 ((M 15 0).toNatClampNeg)) M
def f_X0_feedText_b77 (K : Int32 → Mem → Prop) (M : Mem) : Prop :=
  vp_in (M 15 0) 25 ∧
  K (M 42 ((M 15 0).toNatClampNeg)) M
def f_X0_feedText_c3 (K : Int32 → Mem → Prop) (r3 : Int32 × Int64 × Int32 × Mem → Prop) (x1 : Int32) (x2 : Int64) (x4 : Int32) (M : Mem) : Prop :=
  ((x1 ≤ x4) →
    f_X0_feedText_b77 K M) ∧
  ((¬ x1 ≤ x4) →
    (((8 : Int32) ≤ x4) →
      f_X0_feedText_b77 K M) ∧
    ((¬ (8 : Int32) ≤ x4) →
      vp_in (M 15 0) 25 ∧
      (((60 : Int32) ≤ (M 42 ((M 15 0).toNatClampNeg))) →
        f_X0_feedText_b77 K M) ∧
      ((¬ (60 : Int32) ≤ (M 42 ((M 15 0).toNatClampNeg))) →
        vp_in (M 15 0) 25 ∧
        vp_in (M 15 0) 25 ∧
        vp_in (M 42 ((M 15 0).toNatClampNeg)) 60 ∧
        vp_in ((mset M (17 + 1 * ((M 15 0).toNatClampNeg)) ((M 42 ((M 15 0).toNatClampNeg)).toNatClampNeg) (vp_nar .byte ((x2 >>> (((8 : Int32) * x4).toInt64 &&& 63)).toInt32.toInt8.toInt32))) 15 0) 25 ∧
        vp_in ((mset M (17 + 1 * ((M 15 0).toNatClampNeg)) ((M 42 ((M 15 0).toNatClampNeg)).toNatClampNeg) (vp_nar .byte ((x2 >>> (((8 : Int32) * x4).toInt64 &&& 63)).toInt32.toInt8.toInt32))) 15 0) 25 ∧
        r3 (x1, x2, (x4 + (1 : Int32)), (mset (mset M (17 + 1 * ((M 15 0).toNatClampNeg)) ((M 42 ((M 15 0).toNatClampNeg)).toNatClampNeg) (vp_nar .byte ((x2 >>> (((8 : Int32) * x4).toInt64 &&& 63)).toInt32.toInt8.toInt32))) 42 (((mset M (17 + 1 * ((M 15 0).toNatClampNeg)) ((M 42 ((M 15 0).toNatClampNeg)).toNatClampNeg) (vp_nar .byte ((x2 >>> (((8 : Int32) * x4).toInt64 &&& 63)).toInt32.toInt8.toInt32))) 15 0).toNatClampNeg) (((mset M (17 + 1 * ((M 15 0).toNatClampNeg)) ((M 42 ((M 15 0).toNatClampNeg)).toNatClampNeg) (vp_nar .byte ((x2 >>> (((8 : Int32) * x4).toInt64 &&& 63)).toInt32.toInt8.toInt32))) 42 (((mset M (17 + 1 * ((M 15 0).toNatClampNeg)) ((M 42 ((M 15 0).toNatClampNeg)).toNatClampNeg) (vp_nar .byte ((x2 >>> (((8 : Int32) * x4).toInt64 &&& 63)).toInt32.toInt8.toInt32))) 15 0).toNatClampNeg)) + (1 : Int32)))))))
def f_X0_feedText (a1 : Int32) (a2 : Int64) (M : Mem) (K : Int32 → Mem → Prop) : Prop :=
  Lp (fun (r3 : Int32 × Int64 × Int32 × Mem → Prop) a => f_X0_feedText_c3 K r3 a.1 a.2.1 a.2.2.1 a.2.2.2) (a1, a2, (0 : Int32), M)
def f_X11_feed_b32 (K : Int32 → Mem → Prop) (M : Mem) : Prop :=
  f_X11_refuse (-6 : Int32) M (fun v1 M1 =>
    K v1 M1)
def f_X11_feed (a1 : Int32) (a2 : Int64) (M : Mem) (K : Int32 → Mem → Prop) : Prop :=
  (((1 : Int32) ≤ a1) →
    (((8 : Int32) < a1) →
      f_X11_feed_b32 K M) ∧
    ((¬ (8 : Int32) < a1) →
      f_X0_fed M (fun v4 M4 =>
        (((v4 + a1) ≤ (60 : Int32)) →
          f_X0_feedText a1 a2 M4 (fun v6 M6 =>
            K v6 M6)) ∧
        ((¬ (v4 + a1) ≤ (60 : Int32)) →
          f_X11_feed_b32 K M4)))) ∧
  ((¬ (1 : Int32) ≤ a1) →
    f_X11_refuse (-4 : Int32) M (fun v7 M7 =>
      K v7 M7))
def f_X11_outside_b21 (K : Int32 → Mem → Prop) (s0 : Int32) (M : Mem) : Prop :=
  K s0 M
def f_X11_outside (a1 : Int32) (a2 : Int32) (a3 : Int32) (M : Mem) (K : Int32 → Mem → Prop) : Prop :=
  ((a2 ≤ a1) →
    ((a1 ≤ a3) →
      f_X11_outside_b21 K (0 : Int32) M) ∧
    ((¬ a1 ≤ a3) →
      f_X11_outside_b21 K (-6 : Int32) M)) ∧
  ((¬ a2 ≤ a1) →
    f_X11_outside_b21 K (-4 : Int32) M)
def f_X11_fullAt_b11 (K : Int32 → Mem → Prop) (s0 : Int32) (M : Mem) : Prop :=
  K s0 M
def f_X11_fullAt (a1 : Int32) (a2 : Int32) (M : Mem) (K : Int32 → Mem → Prop) : Prop :=
  ((a1 < a2) →
    f_X11_fullAt_b11 K (0 : Int32) M) ∧
  ((¬ a1 < a2) →
    f_X11_fullAt_b11 K (-6 : Int32) M)
def f_X11_worse_b22 (K : Int32 → Mem → Prop) (s0 : Int32) (M : Mem) : Prop :=
  K s0 M
def f_X11_worse_b12 (K : Int32 → Mem → Prop) (M : Mem) : Prop :=
  f_X11_worse_b22 K (-4 : Int32) M
def f_X11_worse (a1 : Int32) (a2 : Int32) (M : Mem) (K : Int32 → Mem → Prop) : Prop :=
  ((a1 = (-4 : Int32)) →
    f_X11_worse_b12 K M) ∧
  ((¬ a1 = (-4 : Int32)) →
    ((¬ a2 = (-4 : Int32)) →
      f_X11_worse_b22 K (if a2 < a1 then a2 else a1) M) ∧
    ((a2 = (-4 : Int32)) →
      f_X11_worse_b12 K M))
def f_X7_openLevel (a1 : Int32) (M : Mem) (K : Mem → Prop) : Prop :=
  vp_in a1 6 ∧
  vp_in a1 6 ∧
  vp_in a1 6 ∧
  K (mset (mset (mset (mset M 45 6 a1) 48 a1.toNatClampNeg (0 : Int32)) 49 a1.toNatClampNeg (1 : Int32)) 50 a1.toNatClampNeg (0 : Int32))
def f_X7_begin (tx : Nat) (a2 : Int32) (a3 : Int32) (M : Mem) (K : Mem → Prop) : Prop :=
  arB tx 60 ∧
  f_X7_openLevel (0 : Int32) (mset (mset (mset (mset (mset M 45 1 (nI tx)) 45 2 (if (nI 60) < a2 then (nI 60) else a2)) 45 3 a3) 45 4 (-9 : Int32)) 45 5 (0 : Int32)) (fun M1 =>
    K M1)
def f_X7_sign_b37 (K : Int32 → Mem → Prop) (s0 : Int32) (M : Mem) : Prop :=
  K s0 M
def f_X7_sign_b20 (K : Int32 → Mem → Prop) (M : Mem) : Prop :=
  f_X7_sign_b37 K (-1 : Int32) M
def f_X7_sign (M : Mem) (K : Int32 → Mem → Prop) : Prop :=
  ((¬ (M 45 4) = (-9 : Int32)) →
    f_X7_sign_b20 K M) ∧
  (((M 45 4) = (-9 : Int32)) →
    (((M 45 3) < (M 45 2)) →
      arB ((M 45 1).toNatClampNeg) 60 ∧
      vp_in (M 45 3) 60 ∧
      f_X7_sign_b37 K ((M ((M 45 1).toNatClampNeg) ((M 45 3).toNatClampNeg)) &&& (255 : Int32)) M) ∧
    ((¬ (M 45 3) < (M 45 2)) →
      f_X7_sign_b20 K M))
def f_X7_fail (M : Mem) (K : Mem → Prop) : Prop :=
  ((¬ (M 45 4) = (-9 : Int32)) →
    K M) ∧
  (((M 45 4) = (-9 : Int32)) →
    K (mset M 45 4 (M 45 3)))
def f_X7_expect_b15 (K : Mem → Prop) (M : Mem) : Prop :=
  f_X7_fail M (fun M1 =>
    K M1)
def f_X7_expect (a1 : Int32) (a2 : Int32) (M : Mem) (K : Mem → Prop) : Prop :=
  f_X7_sign M (fun v2 M2 =>
    ((v2 < a1) →
      f_X7_expect_b15 K M2) ∧
    ((¬ v2 < a1) →
      ((v2 ≤ a2) →
        K (mset M2 45 3 ((M2 45 3) + (1 : Int32)))) ∧
      ((¬ v2 ≤ a2) →
        f_X7_expect_b15 K M2)))
def f_X7_readOpenings_b90 (r2 : Int32 × Mem → Prop) (K : Mem → Prop) (x1 : Int32) (M : Mem) : Prop :=
  r2 ((x1 + (1 : Int32)), M)
def f_X7_readOpenings_b25 (r2 : Int32 × Mem → Prop) (K : Mem → Prop) (x1 : Int32) (x2 : Int32) (M : Mem) : Prop :=
  (((M 45 5) < (5 : Int32)) →
    ((¬ x2 = (33 : Int32)) →
      f_X7_openLevel ((M 45 6) + (1 : Int32)) (mset (mset M 45 3 ((M 45 3) + (1 : Int32))) 45 5 ((M 45 5) + (1 : Int32))) (fun M5 =>
        f_X7_readOpenings_b90 r2 K x1 M5)) ∧
    ((x2 = (33 : Int32)) →
      vp_in (M 45 6) 6 ∧
      vp_in (M 45 6) 6 ∧
      f_X7_readOpenings_b90 r2 K x1 (mset (mset (mset M 45 3 ((M 45 3) + (1 : Int32))) 45 5 ((M 45 5) + (1 : Int32))) 50 ((M 45 6).toNatClampNeg) ((M 50 ((M 45 6).toNatClampNeg)) + (1 : Int32))))) ∧
  ((¬ (M 45 5) < (5 : Int32)) →
    f_X7_fail M (fun M8 =>
      K M8))
def f_X7_readOpenings_c2 (K : Mem → Prop) (r2 : Int32 × Mem → Prop) (x1 : Int32) (M : Mem) : Prop :=
  (((5 : Int32) < x1) →
    K M) ∧
  ((¬ (5 : Int32) < x1) →
    f_X7_sign M (fun v10 M10 =>
      ((v10 = (33 : Int32)) →
        f_X7_readOpenings_b25 r2 K x1 v10 M10) ∧
      ((¬ v10 = (33 : Int32)) →
        ((v10 = (40 : Int32)) →
          f_X7_readOpenings_b25 r2 K x1 v10 M10) ∧
        ((¬ v10 = (40 : Int32)) →
          K M10))))
def f_X7_readOpenings (M : Mem) (K : Mem → Prop) : Prop :=
  Lp (fun (r2 : Int32 × Mem → Prop) a => f_X7_readOpenings_c2 K r2 a.1 a.2) ((0 : Int32), M)
def f_X7_factOf (a1 : Int32) (M : Mem) (K : Int32 → Mem → Prop) : Prop :=
  ((a1 = (99 : Int32)) →
    K (4 : Int32) M) ∧
  ((¬ a1 = (99 : Int32)) →
    ((a1 = (109 : Int32)) →
      K (3 : Int32) M) ∧
    ((¬ a1 = (109 : Int32)) →
      ((a1 = (110 : Int32)) →
        K (0 : Int32) M) ∧
      ((¬ a1 = (110 : Int32)) →
        ((a1 = (115 : Int32)) →
          K (2 : Int32) M) ∧
        ((¬ a1 = (115 : Int32)) →
          ((a1 = (117 : Int32)) →
            K (5 : Int32) M) ∧
          ((¬ a1 = (117 : Int32)) →
            ((a1 = (119 : Int32)) →
              K (1 : Int32) M) ∧
            ((¬ a1 = (119 : Int32)) →
              K (-9 : Int32) M))))))
def f_X7_unit_b35 (K : Int32 → Mem → Prop) (M : Mem) : Prop :=
  f_X7_fail M (fun M2 =>
    K (0 : Int32) M2)
def f_X7_unit_b17 (K : Int32 → Mem → Prop) (x1 : Int32) (M : Mem) : Prop :=
  f_X7_factOf x1 M (fun v3 M3 =>
    ((v3 < 0) →
      f_X7_unit_b35 K M3) ∧
    ((¬ v3 < 0) →
      ((v3 < (nI 6)) →
        vp_in v3 6 ∧
        K (M3 46 v3.toNatClampNeg) (mset M3 45 3 ((M3 45 3) + (1 : Int32)))) ∧
      ((¬ v3 < (nI 6)) →
        f_X7_unit_b35 K M3)))
def f_X7_unit_b110 (K : Int32 → Mem → Prop) (x2 : Int32) (M : Mem) : Prop :=
  K x2 M
def f_X7_unit_c62 (K : Int32 → Mem → Prop) (r62 : Int32 × Int32 × Int32 × Mem → Prop) (x1 : Int32) (x2 : Int32) (x3 : Int32) (M : Mem) : Prop :=
  (((4 : Int32) ≤ x3) →
    f_X7_unit_b110 K x2 M) ∧
  ((¬ (4 : Int32) ≤ x3) →
    ((x1 < (48 : Int32)) →
      f_X7_unit_b110 K x2 M) ∧
    ((¬ x1 < (48 : Int32)) →
      (((57 : Int32) < x1) →
        f_X7_unit_b110 K x2 M) ∧
      ((¬ (57 : Int32) < x1) →
        f_X7_sign (mset M 45 3 ((M 45 3) + (1 : Int32))) (fun v10 M10 =>
          r62 (v10, ((((10 : Int32) * x2) + x1) - (48 : Int32)), (x3 + (1 : Int32)), M10)))))
def f_X7_unit (M : Mem) (K : Int32 → Mem → Prop) : Prop :=
  f_X7_sign M (fun v11 M11 =>
    ((v11 < (48 : Int32)) →
      f_X7_unit_b17 K v11 M11) ∧
    ((¬ v11 < (48 : Int32)) →
      ((v11 ≤ (57 : Int32)) →
        Lp (fun (r62 : Int32 × Int32 × Int32 × Mem → Prop) a => f_X7_unit_c62 K r62 a.1 a.2.1 a.2.2.1 a.2.2.2) (v11, (0 : Int32), (0 : Int32), M11)) ∧
      ((¬ v11 ≤ (57 : Int32)) →
        f_X7_unit_b17 K v11 M11)))
def f_X7_sum_b84 (r7 : Int32 × Int32 × Mem → Prop) (K : Int32 → Mem → Prop) (x2 : Int32) (s0 : Int32) (M : Mem) : Prop :=
  r7 (s0, (x2 + (1 : Int32)), M)
def f_X7_sum_b38 (r7 : Int32 × Int32 × Mem → Prop) (K : Int32 → Mem → Prop) (x1 : Int32) (x2 : Int32) (x3 : Int32) (M : Mem) : Prop :=
  f_X7_unit (mset M 45 3 ((M 45 3) + (1 : Int32))) (fun v1 M1 =>
    ((¬ x3 = (43 : Int32)) →
      ((¬ x3 = (45 : Int32)) →
        f_X7_sum_b84 r7 K x2 (x1 * v1) M1) ∧
      ((x3 = (45 : Int32)) →
        f_X7_sum_b84 r7 K x2 (x1 - v1) M1)) ∧
    ((x3 = (43 : Int32)) →
      f_X7_sum_b84 r7 K x2 (x1 + v1) M1))
def f_X7_sum_c7 (K : Int32 → Mem → Prop) (r7 : Int32 × Int32 × Mem → Prop) (x1 : Int32) (x2 : Int32) (M : Mem) : Prop :=
  (((60 : Int32) ≤ x2) →
    K x1 M) ∧
  ((¬ (60 : Int32) ≤ x2) →
    f_X7_sign M (fun v5 M5 =>
      ((v5 = (43 : Int32)) →
        f_X7_sum_b38 r7 K x1 x2 v5 M5) ∧
      ((¬ v5 = (43 : Int32)) →
        ((v5 = (45 : Int32)) →
          f_X7_sum_b38 r7 K x1 x2 v5 M5) ∧
        ((¬ v5 = (45 : Int32)) →
          ((v5 = (42 : Int32)) →
            f_X7_sum_b38 r7 K x1 x2 v5 M5) ∧
          ((¬ v5 = (42 : Int32)) →
            K x1 M5)))))
def f_X7_sum (M : Mem) (K : Int32 → Mem → Prop) : Prop :=
  f_X7_unit M (fun v9 M9 =>
    Lp (fun (r7 : Int32 × Int32 × Mem → Prop) a => f_X7_sum_c7 K r7 a.1 a.2.1 a.2.2) (v9, (0 : Int32), M9))
def f_X7_comparisonHolds_b71 (K : Int32 → Mem → Prop) (s0 : Int32) (M : Mem) : Prop :=
  bz s0 ∧ K s0 M
def f_X7_comparisonHolds (M : Mem) (K : Int32 → Mem → Prop) : Prop :=
  f_X7_sum M (fun v2 M2 =>
    f_X7_sign M2 (fun v3 M3 =>
      f_X7_expect (60 : Int32) (62 : Int32) M3 (fun M4 =>
        f_X7_sum M4 (fun v5 M5 =>
          ((¬ v3 = (60 : Int32)) →
            ((¬ v3 = (61 : Int32)) →
              ((v2 ≤ v5) →
                f_X7_comparisonHolds_b71 K (0 : Int32) M5) ∧
              ((¬ v2 ≤ v5) →
                f_X7_comparisonHolds_b71 K (1 : Int32) M5)) ∧
            ((v3 = (61 : Int32)) →
              ((¬ v2 = v5) →
                f_X7_comparisonHolds_b71 K (0 : Int32) M5) ∧
              ((v2 = v5) →
                f_X7_comparisonHolds_b71 K (1 : Int32) M5))) ∧
          ((v3 = (60 : Int32)) →
            ((v5 ≤ v2) →
              f_X7_comparisonHolds_b71 K (0 : Int32) M5) ∧
            ((¬ v5 ≤ v2) →
              f_X7_comparisonHolds_b71 K (1 : Int32) M5))))))
def f_X7_endPart_b51 (K : Mem → Prop) (s0 : Int32) (s1 : Int32) (M : Mem) : Prop :=
  vp_in s1 6 ∧
  bz s0 ∧
  vp_in (M 45 6) 6 ∧
  vp_in (M 45 6) 6 ∧
  K (mset (mset (mset M 49 s1.toNatClampNeg s0) 45 5 ((M 45 5) - (M 50 ((M 45 6).toNatClampNeg)))) 50 ((M 45 6).toNatClampNeg) (0 : Int32))
def f_X7_endPart_b50 (K : Mem → Prop) (s0 : Int32) (M : Mem) : Prop :=
  f_X7_endPart_b51 K (0 : Int32) s0 M
def f_X7_endPart_b20 (K : Mem → Prop) (x1 : Int32) (s0 : Int32) (M : Mem) : Prop :=
  vp_in (M 45 6) 6 ∧
  (((M 49 ((M 45 6).toNatClampNeg)) = 0) →
    f_X7_endPart_b50 K (M 45 6) M) ∧
  ((¬ (M 49 ((M 45 6).toNatClampNeg)) = 0) →
    ((x1 = s0) →
      f_X7_endPart_b50 K (M 45 6) M) ∧
    ((¬ x1 = s0) →
      f_X7_endPart_b51 K (1 : Int32) (M 45 6) M))
def f_X7_endPart (a1 : Int32) (M : Mem) (K : Mem → Prop) : Prop :=
  vp_in (M 45 6) 6 ∧
  ((¬ ((M 50 ((M 45 6).toNatClampNeg)) - (M 50 ((M 45 6).toNatClampNeg)) / (2 : Int32) * (2 : Int32)) = (1 : Int32)) →
    f_X7_endPart_b20 K a1 (0 : Int32) M) ∧
  ((((M 50 ((M 45 6).toNatClampNeg)) - (M 50 ((M 45 6).toNatClampNeg)) / (2 : Int32) * (2 : Int32)) = (1 : Int32)) →
    f_X7_endPart_b20 K a1 (1 : Int32) M)
def f_X7_readClosings_b52 (r2 : Int32 × Mem → Prop) (K : Mem → Prop) (x1 : Int32) (s0 : Int32) (M : Mem) : Prop :=
  f_X7_endPart s0 (mset (mset (mset M 45 3 ((M 45 3) + (1 : Int32))) 45 5 ((M 45 5) - (1 : Int32))) 45 6 ((M 45 6) - (1 : Int32))) (fun M3 =>
    r2 ((x1 + (1 : Int32)), M3))
def f_X7_readClosings_b47 (r2 : Int32 × Mem → Prop) (K : Mem → Prop) (x1 : Int32) (M : Mem) : Prop :=
  f_X7_readClosings_b52 r2 K x1 (1 : Int32) M
def f_X7_readClosings_c2 (K : Mem → Prop) (r2 : Int32 × Mem → Prop) (x1 : Int32) (M : Mem) : Prop :=
  (((5 : Int32) ≤ x1) →
    K M) ∧
  ((¬ (5 : Int32) ≤ x1) →
    (((M 45 6) ≤ 0) →
      K M) ∧
    ((¬ (M 45 6) ≤ 0) →
      f_X7_sign M (fun v6 M6 =>
        ((¬ v6 = (41 : Int32)) →
          K M6) ∧
        ((v6 = (41 : Int32)) →
          vp_in (M6 45 6) 6 ∧
          ((¬ (M6 48 ((M6 45 6).toNatClampNeg)) = 0) →
            f_X7_readClosings_b47 r2 K x1 M6) ∧
          (((M6 48 ((M6 45 6).toNatClampNeg)) = 0) →
            vp_in (M6 45 6) 6 ∧
            (((M6 49 ((M6 45 6).toNatClampNeg)) = 0) →
              f_X7_readClosings_b52 r2 K x1 (0 : Int32) M6) ∧
            ((¬ (M6 49 ((M6 45 6).toNatClampNeg)) = 0) →
              f_X7_readClosings_b47 r2 K x1 M6))))))
def f_X7_readClosings (M : Mem) (K : Mem → Prop) : Prop :=
  Lp (fun (r2 : Int32 × Mem → Prop) a => f_X7_readClosings_c2 K r2 a.1 a.2) ((0 : Int32), M)
def f_X7_joinsNext_b83 (K : Int32 → Mem → Prop) (M : Mem) : Prop :=
  K (1 : Int32) M
def f_X7_joinsNext_b72 (K : Int32 → Mem → Prop) (s0 : Int32) (s1 : Int32) (M : Mem) : Prop :=
  vp_in s1 6 ∧
  bz s0 ∧
  vp_in (M 45 6) 6 ∧
  f_X7_joinsNext_b83 K (mset (mset M 48 s1.toNatClampNeg s0) 49 ((M 45 6).toNatClampNeg) (1 : Int32))
def f_X7_joinsNext_b67 (K : Int32 → Mem → Prop) (s0 : Int32) (M : Mem) : Prop :=
  f_X7_joinsNext_b72 K (1 : Int32) s0 M
def f_X7_joinsNext_b19 (K : Int32 → Mem → Prop) (x1 : Int32) (M : Mem) : Prop :=
  ((¬ x1 = (124 : Int32)) →
    f_X7_joinsNext_b83 K (mset M 45 3 ((M 45 3) + (1 : Int32)))) ∧
  ((x1 = (124 : Int32)) →
    vp_in (M 45 6) 6 ∧
    ((¬ (M 48 ((M 45 6).toNatClampNeg)) = 0) →
      f_X7_joinsNext_b67 K (M 45 6) (mset M 45 3 ((M 45 3) + (1 : Int32)))) ∧
    (((M 48 ((M 45 6).toNatClampNeg)) = 0) →
      vp_in (M 45 6) 6 ∧
      (((M 49 ((M 45 6).toNatClampNeg)) = 0) →
        f_X7_joinsNext_b72 K (0 : Int32) (M 45 6) (mset M 45 3 ((M 45 3) + (1 : Int32)))) ∧
      ((¬ (M 49 ((M 45 6).toNatClampNeg)) = 0) →
        f_X7_joinsNext_b67 K (M 45 6) (mset M 45 3 ((M 45 3) + (1 : Int32))))))
def f_X7_joinsNext (M : Mem) (K : Int32 → Mem → Prop) : Prop :=
  f_X7_sign M (fun v14 M14 =>
    ((v14 = (38 : Int32)) →
      f_X7_joinsNext_b19 K v14 M14) ∧
    ((¬ v14 = (38 : Int32)) →
      ((v14 = (124 : Int32)) →
        f_X7_joinsNext_b19 K v14 M14) ∧
      ((¬ v14 = (124 : Int32)) →
        K (0 : Int32) M14)))
def f_X7_ruleHolds_b75 (K : Int32 → Mem → Prop) (s0 : Int32) (M : Mem) : Prop :=
  bz s0 ∧ K s0 M
def f_X7_ruleHolds_b70 (K : Int32 → Mem → Prop) (M : Mem) : Prop :=
  f_X7_ruleHolds_b75 K (1 : Int32) M
def f_X7_ruleHolds_b52 (K : Int32 → Mem → Prop) (M : Mem) : Prop :=
  ((¬ (M 48 0) = 0) →
    f_X7_ruleHolds_b70 K M) ∧
  (((M 48 0) = 0) →
    (((M 49 0) = 0) →
      f_X7_ruleHolds_b75 K (0 : Int32) M) ∧
    ((¬ (M 49 0) = 0) →
      f_X7_ruleHolds_b70 K M))
def f_X7_ruleHolds_b41 (K : Int32 → Mem → Prop) (M : Mem) : Prop :=
  (((M 45 6) ≤ 0) →
    f_X7_ruleHolds_b52 K M) ∧
  ((¬ (M 45 6) ≤ 0) →
    f_X7_fail M (fun M5 =>
      f_X7_ruleHolds_b52 K M5))
def f_X7_ruleHolds_c4 (K : Int32 → Mem → Prop) (r4 : Int32 × Int32 × Mem → Prop) (x1 : Int32) (x2 : Int32) (M : Mem) : Prop :=
  (((60 : Int32) < x2) →
    f_X7_ruleHolds_b41 K M) ∧
  ((¬ (60 : Int32) < x2) →
    ((x1 = 0) →
      f_X7_ruleHolds_b41 K M) ∧
    ((¬ x1 = 0) →
      f_X7_readOpenings M (fun M8 =>
        f_X7_comparisonHolds M8 (fun v9 M9 =>
          f_X7_endPart v9 M9 (fun M10 =>
            f_X7_readClosings M10 (fun M11 =>
              f_X7_joinsNext M11 (fun v12 M12 =>
                r4 (v12, (x2 + (1 : Int32)), M12))))))))
def f_X7_ruleHolds (M : Mem) (K : Int32 → Mem → Prop) : Prop :=
  Lp (fun (r4 : Int32 × Int32 × Mem → Prop) a => f_X7_ruleHolds_c4 K r4 a.1 a.2.1 a.2.2) ((1 : Int32), (0 : Int32), M)
def f_X7_faultOf_b51 (K : Int32 → Mem → Prop) (M : Mem) : Prop :=
  K (M 45 4) M
def f_X7_faultOf (tx : Nat) (a2 : Int32) (M : Mem) (K : Int32 → Mem → Prop) : Prop :=
  arB tx 60 ∧
  f_X7_begin tx a2 (0 : Int32) M (fun M1 =>
    f_X7_expect (65 : Int32) (72 : Int32) M1 (fun M2 =>
      f_X7_expect (48 : Int32) (52 : Int32) M2 (fun M3 =>
        f_X7_expect (58 : Int32) (58 : Int32) M3 (fun M4 =>
          f_X7_ruleHolds M4 (fun v5 M5 =>
            (((M5 45 2) ≤ (M5 45 3)) →
              f_X7_faultOf_b51 K M5) ∧
            ((¬ (M5 45 2) ≤ (M5 45 3)) →
              f_X7_fail M5 (fun M7 =>
                f_X7_faultOf_b51 K M7)))))))
def f_X0_faultOfText (M : Mem) (K : Int32 → Mem → Prop) : Prop :=
  vp_in (M 15 0) 25 ∧
  vp_in (M 15 0) 25 ∧
  f_X7_faultOf (17 + 1 * ((M 15 0).toNatClampNeg)) (M 42 ((M 15 0).toNatClampNeg)) M (fun v5 M5 =>
    K v5 M5)
def f_X0_dropText (M : Mem) (K : Mem → Prop) : Prop :=
  vp_in (M 15 0) 25 ∧
  K (mset M 42 ((M 15 0).toNatClampNeg) (0 : Int32))
def f_X0_takeText (a1 : Int32) (M : Mem) (K : Int32 → Mem → Prop) : Prop :=
  (((M 15 0) < (24 : Int32)) →
    vp_in (M 15 0) 24 ∧
    vp_in (M 15 0) 24 ∧
    vp_in ((M 15 0) + (1 : Int32)) 25 ∧
    K (((M 15 0) + (1 : Int32)) - (1 : Int32)) (mset (mset (mset (mset M 43 ((M 15 0).toNatClampNeg) a1) 44 ((M 15 0).toNatClampNeg) (1000000 : Int32)) 15 0 ((M 15 0) + (1 : Int32))) 42 (((M 15 0) + (1 : Int32)).toNatClampNeg) (0 : Int32))) ∧
  ((¬ (M 15 0) < (24 : Int32)) →
    K (-6 : Int32) M)
def f_X11_act (a1 : Int32) (M : Mem) (K : Int32 → Mem → Prop) : Prop :=
  f_X11_outside a1 (M 1 0) (1000 : Int32) M (fun v1 M1 =>
    f_X11_fullAt (M1 15 0) (24 : Int32) M1 (fun v2 M2 =>
      f_X11_worse v1 v2 M2 (fun v3 M3 =>
        ((v3 = 0) →
          f_X0_faultOfText M3 (fun v5 M5 =>
            ((v5 = (-9 : Int32)) →
              f_X0_takeText a1 M5 (fun v7 M7 =>
                K v7 M7)) ∧
            ((¬ v5 = (-9 : Int32)) →
              f_X0_dropText M5 (fun M8 =>
                K ((-20 : Int32) - v5) M8)))) ∧
        ((¬ v3 = 0) →
          f_X11_refuse v3 M3 (fun v9 M9 =>
            K v9 M9)))))
def f_X11_term_b18 (K : Int32 → Mem → Prop) (M : Mem) : Prop :=
  f_X11_refuse (-2 : Int32) M (fun v6 M6 =>
    K v6 M6)
def f_X11_term (a1 : Int32) (a2 : Int32) (a3 : Int32) (M : Mem) (K : Int32 → Mem → Prop) : Prop :=
  ((a1 < 0) →
    f_X11_term_b18 K M) ∧
  ((¬ a1 < 0) →
    (((5 : Int32) ≤ a1) →
      f_X11_term_b18 K M) ∧
    ((¬ (5 : Int32) ≤ a1) →
      ((a2 < 0) →
        f_X11_term_b18 K M) ∧
      ((¬ a2 < 0) →
        ((a2 ≤ (2 : Int32)) →
          vp_in a2 3 ∧
          f_X11_outside a3 (0 : Int32) (sv 0 a2.toNatClampNeg) M (fun v12 M12 =>
            ((v12 = 0) →
              vp_in a1 5 ∧
              vp_in a2 3 ∧
              vp_in a1 5 ∧
              vp_in a2 3 ∧
              K (M12 (119 + 1 * a1.toNatClampNeg) a2.toNatClampNeg) (mset M12 (119 + 1 * a1.toNatClampNeg) a2.toNatClampNeg a3)) ∧
            ((¬ v12 = 0) →
              f_X11_refuse v12 M12 (fun v18 M18 =>
                K v18 M18)))) ∧
        ((¬ a2 ≤ (2 : Int32)) →
          f_X11_term_b18 K M))))
def f_X11_isWhat_b15 (K : Int32 → Mem → Prop) (s0 : Int32) (M : Mem) : Prop :=
  bz s0 ∧ K s0 M
def f_X11_isWhat_b14 (K : Int32 → Mem → Prop) (M : Mem) : Prop :=
  f_X11_isWhat_b15 K (0 : Int32) M
def f_X11_isWhat (a1 : Int32) (M : Mem) (K : Int32 → Mem → Prop) : Prop :=
  ((a1 < 0) →
    f_X11_isWhat_b14 K M) ∧
  ((¬ a1 < 0) →
    (((8 : Int32) ≤ a1) →
      f_X11_isWhat_b14 K M) ∧
    ((¬ (8 : Int32) ≤ a1) →
      f_X11_isWhat_b15 K (1 : Int32) M))
def f_X11_wrongTopic (a1 : Int32) (a2 : Int32) (M : Mem) (K : Int32 → Mem → Prop) : Prop :=
  f_X11_outside a1 (1 : Int32) (63 : Int32) M (fun v1 M1 =>
    f_X11_outside a2 (0 : Int32) (9999 : Int32) M1 (fun v2 M2 =>
      f_X11_worse v1 v2 M2 (fun v3 M3 =>
        K v3 M3)))
def f_X9_hereIn_b38 (r4 : Int32 × Int32 × Int32 × Mem → Prop) (K : Int32 → Mem → Prop) (x1 : Int32) (x2 : Int32) (x3 : Int32) (M : Mem) : Prop :=
  r4 (x1, x2, (x3 + (1 : Int32)), M)
def f_X9_hereIn_c4 (K : Int32 → Mem → Prop) (r4 : Int32 × Int32 × Int32 × Mem → Prop) (x1 : Int32) (x2 : Int32) (x3 : Int32) (M : Mem) : Prop :=
  (((M 4 0) ≤ x3) →
    K x2 M) ∧
  ((¬ (M 4 0) ≤ x3) →
    vp_in x3 24 ∧
    (((M 6 x3.toNatClampNeg) = 0) →
      f_X9_hereIn_b38 r4 K x1 x2 x3 M) ∧
    ((¬ (M 6 x3.toNatClampNeg) = 0) →
      vp_in x3 24 ∧
      ((¬ ((x1 >>> ((M 5 x3.toNatClampNeg) &&& 31)) &&& (1 : Int32)) = (1 : Int32)) →
        f_X9_hereIn_b38 r4 K x1 x2 x3 M) ∧
      ((((x1 >>> ((M 5 x3.toNatClampNeg) &&& 31)) &&& (1 : Int32)) = (1 : Int32)) →
        f_X9_hereIn_b38 r4 K x1 (x2 + (1 : Int32)) x3 M)))
def f_X9_hereIn (a1 : Int32) (M : Mem) (K : Int32 → Mem → Prop) : Prop :=
  Lp (fun (r4 : Int32 × Int32 × Int32 × Mem → Prop) a => f_X9_hereIn_c4 K r4 a.1 a.2.1 a.2.2.1 a.2.2.2) (a1, (0 : Int32), (0 : Int32), M)
def f_J6_bitCount_0f7a4 (a1 : Int32) (M : Mem) (K : Int32 → Mem → Prop) : Prop :=
  K ((((((((a1 - ((a1.toUInt32 >>> ((1 : Int32).toUInt32 &&& Int32.toUInt32 31)).toInt32 &&& (1431655765 : Int32))) &&& (858993459 : Int32)) + (((a1 - ((a1.toUInt32 >>> ((1 : Int32).toUInt32 &&& Int32.toUInt32 31)).toInt32 &&& (1431655765 : Int32))).toUInt32 >>> ((2 : Int32).toUInt32 &&& Int32.toUInt32 31)).toInt32 &&& (858993459 : Int32))) + ((((a1 - ((a1.toUInt32 >>> ((1 : Int32).toUInt32 &&& Int32.toUInt32 31)).toInt32 &&& (1431655765 : Int32))) &&& (858993459 : Int32)) + (((a1 - ((a1.toUInt32 >>> ((1 : Int32).toUInt32 &&& Int32.toUInt32 31)).toInt32 &&& (1431655765 : Int32))).toUInt32 >>> ((2 : Int32).toUInt32 &&& Int32.toUInt32 31)).toInt32 &&& (858993459 : Int32))).toUInt32 >>> ((4 : Int32).toUInt32 &&& Int32.toUInt32 31)).toInt32) &&& (252645135 : Int32)) + ((((((a1 - ((a1.toUInt32 >>> ((1 : Int32).toUInt32 &&& Int32.toUInt32 31)).toInt32 &&& (1431655765 : Int32))) &&& (858993459 : Int32)) + (((a1 - ((a1.toUInt32 >>> ((1 : Int32).toUInt32 &&& Int32.toUInt32 31)).toInt32 &&& (1431655765 : Int32))).toUInt32 >>> ((2 : Int32).toUInt32 &&& Int32.toUInt32 31)).toInt32 &&& (858993459 : Int32))) + ((((a1 - ((a1.toUInt32 >>> ((1 : Int32).toUInt32 &&& Int32.toUInt32 31)).toInt32 &&& (1431655765 : Int32))) &&& (858993459 : Int32)) + (((a1 - ((a1.toUInt32 >>> ((1 : Int32).toUInt32 &&& Int32.toUInt32 31)).toInt32 &&& (1431655765 : Int32))).toUInt32 >>> ((2 : Int32).toUInt32 &&& Int32.toUInt32 31)).toInt32 &&& (858993459 : Int32))).toUInt32 >>> ((4 : Int32).toUInt32 &&& Int32.toUInt32 31)).toInt32) &&& (252645135 : Int32)).toUInt32 >>> ((8 : Int32).toUInt32 &&& Int32.toUInt32 31)).toInt32) + (((((((a1 - ((a1.toUInt32 >>> ((1 : Int32).toUInt32 &&& Int32.toUInt32 31)).toInt32 &&& (1431655765 : Int32))) &&& (858993459 : Int32)) + (((a1 - ((a1.toUInt32 >>> ((1 : Int32).toUInt32 &&& Int32.toUInt32 31)).toInt32 &&& (1431655765 : Int32))).toUInt32 >>> ((2 : Int32).toUInt32 &&& Int32.toUInt32 31)).toInt32 &&& (858993459 : Int32))) + ((((a1 - ((a1.toUInt32 >>> ((1 : Int32).toUInt32 &&& Int32.toUInt32 31)).toInt32 &&& (1431655765 : Int32))) &&& (858993459 : Int32)) + (((a1 - ((a1.toUInt32 >>> ((1 : Int32).toUInt32 &&& Int32.toUInt32 31)).toInt32 &&& (1431655765 : Int32))).toUInt32 >>> ((2 : Int32).toUInt32 &&& Int32.toUInt32 31)).toInt32 &&& (858993459 : Int32))).toUInt32 >>> ((4 : Int32).toUInt32 &&& Int32.toUInt32 31)).toInt32) &&& (252645135 : Int32)) + ((((((a1 - ((a1.toUInt32 >>> ((1 : Int32).toUInt32 &&& Int32.toUInt32 31)).toInt32 &&& (1431655765 : Int32))) &&& (858993459 : Int32)) + (((a1 - ((a1.toUInt32 >>> ((1 : Int32).toUInt32 &&& Int32.toUInt32 31)).toInt32 &&& (1431655765 : Int32))).toUInt32 >>> ((2 : Int32).toUInt32 &&& Int32.toUInt32 31)).toInt32 &&& (858993459 : Int32))) + ((((a1 - ((a1.toUInt32 >>> ((1 : Int32).toUInt32 &&& Int32.toUInt32 31)).toInt32 &&& (1431655765 : Int32))) &&& (858993459 : Int32)) + (((a1 - ((a1.toUInt32 >>> ((1 : Int32).toUInt32 &&& Int32.toUInt32 31)).toInt32 &&& (1431655765 : Int32))).toUInt32 >>> ((2 : Int32).toUInt32 &&& Int32.toUInt32 31)).toInt32 &&& (858993459 : Int32))).toUInt32 >>> ((4 : Int32).toUInt32 &&& Int32.toUInt32 31)).toInt32) &&& (252645135 : Int32)).toUInt32 >>> ((8 : Int32).toUInt32 &&& Int32.toUInt32 31)).toInt32).toUInt32 >>> ((16 : Int32).toUInt32 &&& Int32.toUInt32 31)).toInt32) &&& (63 : Int32)) M
def f_X11_tellFacts_b73 (K : Mem → Prop) (s0 : Int32) (s1 : Int32) (M : Mem) : Prop :=
  vp_in s1 6 ∧
  K (mset M 46 s1.toNatClampNeg s0)
def f_X11_tellFacts (a1 : Int32) (a2 : Int32) (a3 : Int32) (M : Mem) (K : Mem → Prop) : Prop :=
  f_X9_hereIn a1 M (fun v3 M3 =>
    f_X9_hereIn (63 : Int32) (mset M3 46 0 v3) (fun v4 M4 =>
      f_J6_bitCount_0f7a4 a1 (mset M4 46 1 v4) (fun v5 M5 =>
        ((a3 = 0) →
          f_X11_tellFacts_b73 K (0 : Int32) (5 : Int32) (mset (mset (mset M5 46 2 v5) 46 3 a2) 46 4 (M5 51 1))) ∧
        ((¬ a3 = 0) →
          f_X11_tellFacts_b73 K (1 : Int32) (5 : Int32) (mset (mset (mset M5 46 2 v5) 46 3 a2) 46 4 (M5 51 1))))))
def f_X7_holds (tx : Nat) (a2 : Int32) (M : Mem) (K : Int32 → Mem → Prop) : Prop :=
  arB tx 60 ∧
  f_X7_begin tx a2 (3 : Int32) M (fun M1 =>
    f_X7_ruleHolds M1 (fun v2 M2 =>
      bz v2 ∧ K v2 M2))
def f_X0_bearingOn_b83 (r5 : Int32 × Int32 × Int32 × Int32 × Mem → Prop) (K : Int32 → Mem → Prop) (x1 : Int32) (x2 : Int32) (x3 : Int32) (x4 : Int32) (M : Mem) : Prop :=
  r5 (x1, x2, x3, (x4 + (1 : Int32)), M)
def f_X0_bearingOn_c5 (K : Int32 → Mem → Prop) (r5 : Int32 × Int32 × Int32 × Int32 × Mem → Prop) (x1 : Int32) (x2 : Int32) (x3 : Int32) (x4 : Int32) (M : Mem) : Prop :=
  (((M 15 0) ≤ x4) →
    K x3 M) ∧
  ((¬ (M 15 0) ≤ x4) →
    vp_in x4 25 ∧
    ((¬ ((M (17 + 1 * x4.toNatClampNeg) 0) - (65 : Int32)) = x1) →
      f_X0_bearingOn_b83 r5 K x1 x2 x3 x4 M) ∧
    ((((M (17 + 1 * x4.toNatClampNeg) 0) - (65 : Int32)) = x1) →
      vp_in x4 24 ∧
      ((x2 < (M 43 x4.toNatClampNeg)) →
        f_X0_bearingOn_b83 r5 K x1 x2 x3 x4 M) ∧
      ((¬ x2 < (M 43 x4.toNatClampNeg)) →
        vp_in x4 24 ∧
        (((M 44 x4.toNatClampNeg) ≤ x2) →
          f_X0_bearingOn_b83 r5 K x1 x2 x3 x4 M) ∧
        ((¬ (M 44 x4.toNatClampNeg) ≤ x2) →
          vp_in x4 25 ∧
          vp_in x4 25 ∧
          f_X7_holds (17 + 1 * x4.toNatClampNeg) (M 42 x4.toNatClampNeg) M (fun v15 M15 =>
            ((v15 = 0) →
              f_X0_bearingOn_b83 r5 K x1 x2 x3 x4 M15) ∧
            ((¬ v15 = 0) →
              f_X0_bearingOn_b83 r5 K x1 x2 (x3 ||| ((1 : Int32) <<< (x4 &&& 31))) x4 M15))))))
def f_X0_bearingOn (a1 : Int32) (a2 : Int32) (M : Mem) (K : Int32 → Mem → Prop) : Prop :=
  Lp (fun (r5 : Int32 × Int32 × Int32 × Int32 × Mem → Prop) a => f_X0_bearingOn_c5 K r5 a.1 a.2.1 a.2.2.1 a.2.2.2.1 a.2.2.2.2) (a1, a2, (0 : Int32), (0 : Int32), M)
def f_X0_giverAmong_b45 (r5 : Int32 × Int32 × Int32 × Mem → Prop) (K : Int32 → Mem → Prop) (x1 : Int32) (x2 : Int32) (x3 : Int32) (M : Mem) : Prop :=
  r5 (x1, x2, (x3 + (1 : Int32)), M)
def f_X0_giverAmong_b43 (r5 : Int32 × Int32 × Int32 × Mem → Prop) (K : Int32 → Mem → Prop) (x1 : Int32) (x3 : Int32) (M : Mem) : Prop :=
  f_X0_giverAmong_b45 r5 K x1 x3 x3 M
def f_X0_giverAmong_c5 (K : Int32 → Mem → Prop) (r5 : Int32 × Int32 × Int32 × Mem → Prop) (x1 : Int32) (x2 : Int32) (x3 : Int32) (M : Mem) : Prop :=
  (((M 15 0) ≤ x3) →
    K x2 M) ∧
  ((¬ (M 15 0) ≤ x3) →
    ((¬ ((x1 >>> (x3 &&& 31)) &&& (1 : Int32)) = (1 : Int32)) →
      f_X0_giverAmong_b45 r5 K x1 x2 x3 M) ∧
    ((((x1 >>> (x3 &&& 31)) &&& (1 : Int32)) = (1 : Int32)) →
      ((x2 = (-9 : Int32)) →
        f_X0_giverAmong_b43 r5 K x1 x3 M) ∧
      ((¬ x2 = (-9 : Int32)) →
        vp_in x3 24 ∧
        vp_in x2 24 ∧
        (((M 43 x3.toNatClampNeg) < (M 43 x2.toNatClampNeg)) →
          f_X0_giverAmong_b45 r5 K x1 x2 x3 M) ∧
        ((¬ (M 43 x3.toNatClampNeg) < (M 43 x2.toNatClampNeg)) →
          f_X0_giverAmong_b43 r5 K x1 x3 M))))
def f_X0_giverAmong (a1 : Int32) (M : Mem) (K : Int32 → Mem → Prop) : Prop :=
  Lp (fun (r5 : Int32 × Int32 × Int32 × Mem → Prop) a => f_X0_giverAmong_c5 K r5 a.1 a.2.1 a.2.2.1 a.2.2.2) (a1, (-9 : Int32), (0 : Int32), M)
def f_X0_kindOf_b27 (K : Int32 → Mem → Prop) (s0 : Int32) (M : Mem) : Prop :=
  K s0 M
def f_X0_kindOf_b12 (K : Int32 → Mem → Prop) (M : Mem) : Prop :=
  f_X0_kindOf_b27 K (0 : Int32) M
def f_X0_kindOf (a1 : Int32) (M : Mem) (K : Int32 → Mem → Prop) : Prop :=
  ((a1 < 0) →
    f_X0_kindOf_b12 K M) ∧
  ((¬ a1 < 0) →
    ((a1 < (M 15 0)) →
      vp_in a1 25 ∧
      f_X0_kindOf_b27 K ((M (17 + 1 * a1.toNatClampNeg) 1) - (48 : Int32)) M) ∧
    ((¬ a1 < (M 15 0)) →
      f_X0_kindOf_b12 K M))
def f_X5_begin (t : Nat) (a1 : Int32) (a2 : Int32) (a3 : Int32) (a4 : Int32) (M : Mem) (K : Mem → Prop) : Prop :=
  isMat t ∧
  K (mset (mset (mset (mset (mset M t 2 a1) t 3 a2) t 4 a3) t 5 a4) t 6 ((mset (mset (mset (mset M t 2 a1) t 3 a2) t 4 a3) t 5 a4) 1 0))
def f_X5_takeTerms (t : Nat) (a1 : Int32) (a2 : Int32) (a3 : Int32) (a4 : Int32) (M : Mem) (K : Mem → Prop) : Prop :=
  isMat t ∧
  bz a4 ∧
  K (mset (mset (mset (mset M t 7 a1) t 8 a2) t 9 a3) t 10 a4)
def f_X11_open_b152 (K : Int32 → Mem → Prop) (s0 : Int32) (s1 : Int32) (s2 : Int32) (s3 : Int32) (s4 : Nat) (M : Mem) : Prop :=
  isMat s4 ∧
  f_X5_takeTerms s4 s3 s2 s1 s0 M (fun M6 =>
    K (((M6 0 5) + (1 : Int32)) - (1 : Int32)) (mset M6 0 5 ((M6 0 5) + (1 : Int32))))
def f_X11_open (a1 : Int32) (a2 : Int32) (a3 : Int32) (a4 : Int32) (M : Mem) (K : Int32 → Mem → Prop) : Prop :=
  f_X11_isWhat a1 M (fun v7 M7 =>
    ((¬ v7 = 0) →
      f_X11_wrongTopic a2 a3 M7 (fun v9 M9 =>
        f_X11_fullAt (M9 0 5) (40 : Int32) M9 (fun v10 M10 =>
          f_X11_worse v9 v10 M10 (fun v11 M11 =>
            ((v11 = 0) →
              f_X11_tellFacts a2 a3 a4 M11 (fun M13 =>
                f_X0_bearingOn a1 (M13 1 0) M13 (fun v14 M14 =>
                  f_X0_giverAmong v14 M14 (fun v15 M15 =>
                    f_X0_kindOf v15 M15 (fun v16 M16 =>
                      vp_in (M16 0 5) 40 ∧
                      f_X5_begin (127 + 4 * ((M16 0 5).toNatClampNeg)) a1 a2 a3 v15 M16 (fun M18 =>
                        vp_in (M18 0 5) 40 ∧
                        vp_in v16 5 ∧
                        vp_in v16 5 ∧
                        vp_in v16 5 ∧
                        ((¬ (M18 (119 + 1 * v16.toNatClampNeg) 2) = (1 : Int32)) →
                          f_X11_open_b152 K (0 : Int32) (M18 (119 + 1 * v16.toNatClampNeg) 1) (M18 (119 + 1 * v16.toNatClampNeg) 0) v16 (127 + 4 * ((M18 0 5).toNatClampNeg)) M18) ∧
                        (((M18 (119 + 1 * v16.toNatClampNeg) 2) = (1 : Int32)) →
                          f_X11_open_b152 K (1 : Int32) (M18 (119 + 1 * v16.toNatClampNeg) 1) (M18 (119 + 1 * v16.toNatClampNeg) 0) v16 (127 + 4 * ((M18 0 5).toNatClampNeg)) M18))))))) ∧
            ((¬ v11 = 0) →
              f_X11_refuse v11 M11 (fun v24 M24 =>
                K v24 M24)))))) ∧
    ((v7 = 0) →
      f_X11_refuse (-2 : Int32) M7 (fun v25 M25 =>
        K v25 M25)))
def f_X11_isMatter_b23 (K : Int32 → Mem → Prop) (s0 : Int32) (M : Mem) : Prop :=
  bz s0 ∧ K s0 M
def f_X11_isMatter_b22 (K : Int32 → Mem → Prop) (M : Mem) : Prop :=
  f_X11_isMatter_b23 K (0 : Int32) M
def f_X11_isMatter (a1 : Int32) (M : Mem) (K : Int32 → Mem → Prop) : Prop :=
  ((a1 < 0) →
    f_X11_isMatter_b22 K M) ∧
  ((¬ a1 < 0) →
    (((M 0 5) ≤ a1) →
      f_X11_isMatter_b22 K M) ∧
    ((¬ (M 0 5) ≤ a1) →
      (((40 : Int32) ≤ a1) →
        f_X11_isMatter_b22 K M) ∧
      ((¬ (40 : Int32) ≤ a1) →
        f_X11_isMatter_b23 K (1 : Int32) M)))
def f_X5_withdrawnBy_b32 (t : Nat) (r2 : Nat × Int32 × Int32 × Mem → Prop) (K : Int32 → Mem → Prop) (x0 : Nat) (x1 : Int32) (x2 : Int32) (M : Mem) : Prop :=
  isMat x0 ∧
  r2 (x0, x1, (x2 + (1 : Int32)), M)
def f_X5_withdrawnBy_c2 (t : Nat) (K : Int32 → Mem → Prop) (r2 : Nat × Int32 × Int32 × Mem → Prop) (x0 : Nat) (x1 : Int32) (x2 : Int32) (M : Mem) : Prop :=
  isMat x0 ∧
  (((M x0 11) ≤ x2) →
    K (0 : Int32) M) ∧
  ((¬ (M x0 11) ≤ x2) →
    vp_in x2 30 ∧
    ((¬ (M (x0 + 1) x2.toNatClampNeg) = (2 : Int32)) →
      f_X5_withdrawnBy_b32 t r2 K x0 x1 x2 M) ∧
    (((M (x0 + 1) x2.toNatClampNeg) = (2 : Int32)) →
      vp_in x2 30 ∧
      ((x1 < (M (x0 + 3) x2.toNatClampNeg)) →
        f_X5_withdrawnBy_b32 t r2 K x0 x1 x2 M) ∧
      ((¬ x1 < (M (x0 + 3) x2.toNatClampNeg)) →
        K (1 : Int32) M)))
def f_X5_withdrawnBy (t : Nat) (a1 : Int32) (M : Mem) (K : Int32 → Mem → Prop) : Prop :=
  isMat t ∧
  Lp (fun (r2 : Nat × Int32 × Int32 × Mem → Prop) a => f_X5_withdrawnBy_c2 t K r2 a.1 a.2.1 a.2.2.1 a.2.2.2) (t, a1, (0 : Int32), M)
def f_X5_paperDay_b94 (t : Nat) (r12 : Nat × Int32 × Int32 × Int32 × Int32 × Int32 × Mem → Prop) (K : Int32 → Mem → Prop) (x0 : Nat) (x1 : Int32) (x2 : Int32) (x3 : Int32) (x4 : Int32) (x5 : Int32) (M : Mem) : Prop :=
  isMat x0 ∧
  r12 (x0, x1, x2, x3, x4, (x5 + (-1 : Int32)), M)
def f_X5_paperDay_b53 (t : Nat) (r12 : Nat × Int32 × Int32 × Int32 × Int32 × Int32 × Mem → Prop) (K : Int32 → Mem → Prop) (x0 : Nat) (x1 : Int32) (x2 : Int32) (x3 : Int32) (x4 : Int32) (x5 : Int32) (M : Mem) : Prop :=
  isMat x0 ∧
  vp_in x5 30 ∧
  ((¬ (M (x0 + 1) x5.toNatClampNeg) = 0) →
    f_X5_paperDay_b94 t r12 K x0 x1 x2 x3 x4 x5 M) ∧
  (((M (x0 + 1) x5.toNatClampNeg) = 0) →
    vp_in x5 30 ∧
    ((¬ (M (x0 + 2) x5.toNatClampNeg) = x1) →
      f_X5_paperDay_b94 t r12 K x0 x1 x2 x3 x4 x5 M) ∧
    (((M (x0 + 2) x5.toNatClampNeg) = x1) →
      vp_in x5 30 ∧
      ((x2 < (M (x0 + 3) x5.toNatClampNeg)) →
        f_X5_paperDay_b94 t r12 K x0 x1 x2 x3 x4 x5 M) ∧
      ((¬ x2 < (M (x0 + 3) x5.toNatClampNeg)) →
        vp_in x5 30 ∧
        f_X5_paperDay_b94 t r12 K x0 x1 x2 x3 (M (x0 + 3) x5.toNatClampNeg) x5 M)))
def f_X5_paperDay_c12 (t : Nat) (K : Int32 → Mem → Prop) (r12 : Nat × Int32 × Int32 × Int32 × Int32 × Int32 × Mem → Prop) (x0 : Nat) (x1 : Int32) (x2 : Int32) (x3 : Int32) (x4 : Int32) (x5 : Int32) (M : Mem) : Prop :=
  isMat x0 ∧
  ((x5 < 0) →
    K x4 M) ∧
  ((¬ x5 < 0) →
    vp_in x5 30 ∧
    ((¬ (M (x0 + 1) x5.toNatClampNeg) = (1 : Int32)) →
      f_X5_paperDay_b53 t r12 K x0 x1 x2 x3 x4 x5 M) ∧
    (((M (x0 + 1) x5.toNatClampNeg) = (1 : Int32)) →
      vp_in x5 30 ∧
      ((¬ (M (x0 + 2) x5.toNatClampNeg) = x1) →
        f_X5_paperDay_b53 t r12 K x0 x1 x2 x3 x4 x5 M) ∧
      (((M (x0 + 2) x5.toNatClampNeg) = x1) →
        vp_in x5 30 ∧
        ((x3 < (M (x0 + 3) x5.toNatClampNeg)) →
          f_X5_paperDay_b53 t r12 K x0 x1 x2 x3 x4 x5 M) ∧
        ((¬ x3 < (M (x0 + 3) x5.toNatClampNeg)) →
          K x4 M))))
def f_X5_paperDay (t : Nat) (a1 : Int32) (a2 : Int32) (a3 : Int32) (M : Mem) (K : Int32 → Mem → Prop) : Prop :=
  isMat t ∧
  Lp (fun (r12 : Nat × Int32 × Int32 × Int32 × Int32 × Int32 × Mem → Prop) a => f_X5_paperDay_c12 t K r12 a.1 a.2.1 a.2.2.1 a.2.2.2.1 a.2.2.2.2.1 a.2.2.2.2.2.1 a.2.2.2.2.2.2) (t, a1, a2, a3, (-9 : Int32), ((M t 11) - (1 : Int32)), M)
def f_X5_isFull_b14 (t : Nat) (K : Int32 → Mem → Prop) (s0 : Int32) (M : Mem) : Prop :=
  bz s0 ∧ K s0 M
def f_X5_isFull (t : Nat) (M : Mem) (K : Int32 → Mem → Prop) : Prop :=
  isMat t ∧
  (((M t 11) < (30 : Int32)) →
    f_X5_isFull_b14 t K (0 : Int32) M) ∧
  ((¬ (M t 11) < (30 : Int32)) →
    f_X5_isFull_b14 t K (1 : Int32) M)
def f_X5_tell_b55 (t : Nat) (K : Int32 → Mem → Prop) (x0 : Nat) (M : Mem) : Prop :=
  isMat x0 ∧
  K (M x0 11) M
def f_X5_tell (t : Nat) (a1 : Int32) (a2 : Int32) (M : Mem) (K : Int32 → Mem → Prop) : Prop :=
  isMat t ∧
  (((30 : Int32) ≤ (M t 11)) →
    f_X5_tell_b55 t K t M) ∧
  ((¬ (30 : Int32) ≤ (M t 11)) →
    vp_in (M t 11) 30 ∧
    vp_in ((mset M (t + 1) ((M t 11).toNatClampNeg) a1) t 11) 30 ∧
    vp_in ((mset (mset M (t + 1) ((M t 11).toNatClampNeg) a1) (t + 2) (((mset M (t + 1) ((M t 11).toNatClampNeg) a1) t 11).toNatClampNeg) a2) t 11) 30 ∧
    f_X5_tell_b55 t K t (mset (mset (mset (mset M (t + 1) ((M t 11).toNatClampNeg) a1) (t + 2) (((mset M (t + 1) ((M t 11).toNatClampNeg) a1) t 11).toNatClampNeg) a2) (t + 3) (((mset (mset M (t + 1) ((M t 11).toNatClampNeg) a1) (t + 2) (((mset M (t + 1) ((M t 11).toNatClampNeg) a1) t 11).toNatClampNeg) a2) t 11).toNatClampNeg) ((mset (mset M (t + 1) ((M t 11).toNatClampNeg) a1) (t + 2) (((mset M (t + 1) ((M t 11).toNatClampNeg) a1) t 11).toNatClampNeg) a2) 1 0)) t 11 (((mset (mset (mset M (t + 1) ((M t 11).toNatClampNeg) a1) (t + 2) (((mset M (t + 1) ((M t 11).toNatClampNeg) a1) t 11).toNatClampNeg) a2) (t + 3) (((mset (mset M (t + 1) ((M t 11).toNatClampNeg) a1) (t + 2) (((mset M (t + 1) ((M t 11).toNatClampNeg) a1) t 11).toNatClampNeg) a2) t 11).toNatClampNeg) ((mset (mset M (t + 1) ((M t 11).toNatClampNeg) a1) (t + 2) (((mset M (t + 1) ((M t 11).toNatClampNeg) a1) t 11).toNatClampNeg) a2) 1 0)) t 11) + (1 : Int32))))
def f_X11_paper_b18 (K : Int32 → Mem → Prop) (M : Mem) : Prop :=
  f_X11_refuse (-1 : Int32) M (fun v2 M2 =>
    K v2 M2)
def f_X11_paper_b116 (K : Int32 → Mem → Prop) (x2 : Int32) (s0 : Int32) (s1 : Nat) (M : Mem) : Prop :=
  isMat s1 ∧
  f_X5_tell s1 s0 x2 M (fun v3 M3 =>
    K v3 M3)
def f_X11_paper_b90 (K : Int32 → Mem → Prop) (x2 : Int32) (x3 : Int32) (x4 : Nat) (M : Mem) : Prop :=
  isMat x4 ∧
  f_X5_isFull x4 M (fun v4 M4 =>
    ((v4 = 0) →
      ((x3 = 0) →
        f_X11_paper_b116 K x2 (1 : Int32) x4 M4) ∧
      ((¬ x3 = 0) →
        f_X11_paper_b116 K x2 (0 : Int32) x4 M4)) ∧
    ((¬ v4 = 0) →
      f_X11_refuse (-6 : Int32) M4 (fun v7 M7 =>
        K v7 M7)))
def f_X11_paper (a1 : Int32) (a2 : Int32) (a3 : Int32) (M : Mem) (K : Int32 → Mem → Prop) : Prop :=
  f_X11_isMatter a1 M (fun v8 M8 =>
    ((v8 = 0) →
      f_X11_paper_b18 K M8) ∧
    ((¬ v8 = 0) →
      ((a2 < 0) →
        f_X11_paper_b18 K M8) ∧
      ((¬ a2 < 0) →
        ((a2 < (8 : Int32)) →
          vp_in a1 40 ∧
          f_X5_withdrawnBy (127 + 4 * a1.toNatClampNeg) (M8 1 0) M8 (fun v13 M13 =>
            ((v13 = 0) →
              ((¬ a3 = 0) →
                f_X11_paper_b90 K a2 a3 (127 + 4 * a1.toNatClampNeg) M13) ∧
              ((a3 = 0) →
                f_X5_paperDay (127 + 4 * a1.toNatClampNeg) a2 (M13 1 0) (M13 1 0) M13 (fun v16 M16 =>
                  ((¬ v16 = (-9 : Int32)) →
                    f_X11_paper_b90 K a2 a3 (127 + 4 * a1.toNatClampNeg) M16) ∧
                  ((v16 = (-9 : Int32)) →
                    f_X11_refuse (-3 : Int32) M16 (fun v18 M18 =>
                      K v18 M18))))) ∧
            ((¬ v13 = 0) →
              f_X11_refuse (-3 : Int32) M13 (fun v19 M19 =>
                K v19 M19)))) ∧
        ((¬ a2 < (8 : Int32)) →
          f_X11_paper_b18 K M8))))
def f_X11_withdraw (a1 : Int32) (M : Mem) (K : Int32 → Mem → Prop) : Prop :=
  f_X11_isMatter a1 M (fun v2 M2 =>
    ((¬ v2 = 0) →
      vp_in a1 40 ∧
      f_X5_withdrawnBy (127 + 4 * a1.toNatClampNeg) (M2 1 0) M2 (fun v5 M5 =>
        ((v5 = 0) →
          f_X5_isFull (127 + 4 * a1.toNatClampNeg) M5 (fun v7 M7 =>
            ((v7 = 0) →
              f_X5_tell (127 + 4 * a1.toNatClampNeg) (2 : Int32) (0 : Int32) M7 (fun v9 M9 =>
                K (1 : Int32) M9)) ∧
            ((¬ v7 = 0) →
              f_X11_refuse (-6 : Int32) M7 (fun v10 M10 =>
                K v10 M10)))) ∧
        ((¬ v5 = 0) →
          f_X11_refuse (-3 : Int32) M5 (fun v11 M11 =>
            K v11 M11)))) ∧
    ((v2 = 0) →
      f_X11_refuse (-1 : Int32) M2 (fun v12 M12 =>
        K v12 M12)))
def f_X5_lastRuling_b61 (t : Nat) (r7 : Nat × Int32 × Int32 × Int32 × Mem → Prop) (K : Int32 → Mem → Prop) (x0 : Nat) (x1 : Int32) (x2 : Int32) (x3 : Int32) (M : Mem) : Prop :=
  isMat x0 ∧
  r7 (x0, x1, x2, (x3 + (-1 : Int32)), M)
def f_X5_lastRuling_b34 (t : Nat) (r7 : Nat × Int32 × Int32 × Int32 × Mem → Prop) (K : Int32 → Mem → Prop) (x0 : Nat) (x1 : Int32) (x2 : Int32) (x3 : Int32) (M : Mem) : Prop :=
  isMat x0 ∧
  vp_in x3 30 ∧
  ((¬ (M (x0 + 1) x3.toNatClampNeg) = (4 : Int32)) →
    f_X5_lastRuling_b61 t r7 K x0 x1 x2 x3 M) ∧
  (((M (x0 + 1) x3.toNatClampNeg) = (4 : Int32)) →
    vp_in x3 30 ∧
    ((x1 < (M (x0 + 3) x3.toNatClampNeg)) →
      f_X5_lastRuling_b61 t r7 K x0 x1 x2 x3 M) ∧
    ((¬ x1 < (M (x0 + 3) x3.toNatClampNeg)) →
      vp_in x3 30 ∧
      K (M (x0 + 2) x3.toNatClampNeg) M))
def f_X5_lastRuling_c7 (t : Nat) (K : Int32 → Mem → Prop) (r7 : Nat × Int32 × Int32 × Int32 × Mem → Prop) (x0 : Nat) (x1 : Int32) (x2 : Int32) (x3 : Int32) (M : Mem) : Prop :=
  isMat x0 ∧
  ((x3 < 0) →
    K (-9 : Int32) M) ∧
  ((¬ x3 < 0) →
    vp_in x3 30 ∧
    ((¬ (M (x0 + 1) x3.toNatClampNeg) = (5 : Int32)) →
      f_X5_lastRuling_b34 t r7 K x0 x1 x2 x3 M) ∧
    (((M (x0 + 1) x3.toNatClampNeg) = (5 : Int32)) →
      vp_in x3 30 ∧
      ((x2 < (M (x0 + 3) x3.toNatClampNeg)) →
        f_X5_lastRuling_b34 t r7 K x0 x1 x2 x3 M) ∧
      ((¬ x2 < (M (x0 + 3) x3.toNatClampNeg)) →
        K (-9 : Int32) M)))
def f_X5_lastRuling (t : Nat) (a1 : Int32) (a2 : Int32) (M : Mem) (K : Int32 → Mem → Prop) : Prop :=
  isMat t ∧
  Lp (fun (r7 : Nat × Int32 × Int32 × Int32 × Mem → Prop) a => f_X5_lastRuling_c7 t K r7 a.1 a.2.1 a.2.2.1 a.2.2.2.1 a.2.2.2.2) (t, a1, a2, ((M t 11) - (1 : Int32)), M)
def f_X2_isVoidBy_b27 (K : Int32 → Mem → Prop) (s0 : Int32) (M : Mem) : Prop :=
  bz s0 ∧ K s0 M
def f_X2_isVoidBy_b26 (K : Int32 → Mem → Prop) (M : Mem) : Prop :=
  f_X2_isVoidBy_b27 K (0 : Int32) M
def f_X2_isVoidBy (a1 : Int32) (a2 : Int32) (M : Mem) (K : Int32 → Mem → Prop) : Prop :=
  ((a1 < 0) →
    f_X2_isVoidBy_b26 K M) ∧
  ((¬ a1 < 0) →
    (((M 51 5) ≤ a1) →
      f_X2_isVoidBy_b26 K M) ∧
    ((¬ (M 51 5) ≤ a1) →
      vp_in a1 30 ∧
      ((a2 < (M 59 a1.toNatClampNeg)) →
        f_X2_isVoidBy_b26 K M) ∧
      ((¬ a2 < (M 59 a1.toNatClampNeg)) →
        f_X2_isVoidBy_b27 K (1 : Int32) M)))
def f_X5_lastAnswer_b59 (t : Nat) (r7 : Nat × Int32 × Int32 × Int32 × Mem → Prop) (K : Int32 → Mem → Prop) (x0 : Nat) (x1 : Int32) (x2 : Int32) (x3 : Int32) (M : Mem) : Prop :=
  isMat x0 ∧
  r7 (x0, x1, x2, (x3 + (-1 : Int32)), M)
def f_X5_lastAnswer_c7 (t : Nat) (K : Int32 → Mem → Prop) (r7 : Nat × Int32 × Int32 × Int32 × Mem → Prop) (x0 : Nat) (x1 : Int32) (x2 : Int32) (x3 : Int32) (M : Mem) : Prop :=
  isMat x0 ∧
  ((x3 < 0) →
    K (-9 : Int32) M) ∧
  ((¬ x3 < 0) →
    vp_in x3 30 ∧
    ((¬ (M (x0 + 1) x3.toNatClampNeg) = (3 : Int32)) →
      f_X5_lastAnswer_b59 t r7 K x0 x1 x2 x3 M) ∧
    (((M (x0 + 1) x3.toNatClampNeg) = (3 : Int32)) →
      vp_in x3 30 ∧
      ((x1 < (M (x0 + 3) x3.toNatClampNeg)) →
        f_X5_lastAnswer_b59 t r7 K x0 x1 x2 x3 M) ∧
      ((¬ x1 < (M (x0 + 3) x3.toNatClampNeg)) →
        vp_in x3 30 ∧
        f_X2_isVoidBy ((M (x0 + 2) x3.toNatClampNeg) / (2 : Int32)) x2 M (fun v11 M11 =>
          ((¬ v11 = 0) →
            f_X5_lastAnswer_b59 t r7 K x0 x1 x2 x3 M11) ∧
          ((v11 = 0) →
            vp_in x3 30 ∧
            K ((M11 (x0 + 2) x3.toNatClampNeg) - (M11 (x0 + 2) x3.toNatClampNeg) / (2 : Int32) * (2 : Int32)) M11)))))
def f_X5_lastAnswer (t : Nat) (a1 : Int32) (a2 : Int32) (M : Mem) (K : Int32 → Mem → Prop) : Prop :=
  isMat t ∧
  Lp (fun (r7 : Nat × Int32 × Int32 × Int32 × Mem → Prop) a => f_X5_lastAnswer_c7 t K r7 a.1 a.2.1 a.2.2.1 a.2.2.2.1 a.2.2.2.2) (t, a1, a2, ((M t 11) - (1 : Int32)), M)
def f_X5_wholeSince_b57 (t : Nat) (r8 : Nat × Int32 × Int32 × Int32 × Int32 × Mem → Prop) (K : Int32 → Mem → Prop) (x0 : Nat) (x1 : Int32) (x2 : Int32) (x3 : Int32) (x4 : Int32) (M : Mem) : Prop :=
  isMat x0 ∧
  r8 (x0, x1, x2, x3, (x4 + (1 : Int32)), M)
def f_X5_wholeSince_c8 (t : Nat) (K : Int32 → Mem → Prop) (r8 : Nat × Int32 × Int32 × Int32 × Int32 × Mem → Prop) (x0 : Nat) (x1 : Int32) (x2 : Int32) (x3 : Int32) (x4 : Int32) (M : Mem) : Prop :=
  isMat x0 ∧
  (((8 : Int32) ≤ x4) →
    K x3 M) ∧
  ((¬ (8 : Int32) ≤ x4) →
    ((¬ (((M x0 8) >>> (x4 &&& 31)) &&& (1 : Int32)) = 0) →
      f_X5_paperDay x0 x4 x1 x2 M (fun v3 M3 =>
        ((¬ v3 = (-9 : Int32)) →
          f_X5_wholeSince_b57 t r8 K x0 x1 x2 (if x3 < v3 then v3 else x3) x4 M3) ∧
        ((v3 = (-9 : Int32)) →
          K (-9 : Int32) M3))) ∧
    (((((M x0 8) >>> (x4 &&& 31)) &&& (1 : Int32)) = 0) →
      f_X5_wholeSince_b57 t r8 K x0 x1 x2 x3 x4 M))
def f_X5_wholeSince (t : Nat) (a1 : Int32) (a2 : Int32) (M : Mem) (K : Int32 → Mem → Prop) : Prop :=
  isMat t ∧
  Lp (fun (r8 : Nat × Int32 × Int32 × Int32 × Int32 × Mem → Prop) a => f_X5_wholeSince_c8 t K r8 a.1 a.2.1 a.2.2.1 a.2.2.2.1 a.2.2.2.2.1 a.2.2.2.2.2) (t, a1, a2, (M t 6), (0 : Int32), M)
def f_X3_workdaysBehind_b16 (K : Int32 → Mem → Prop) (M : Mem) : Prop :=
  K (0 : Int32) M
def f_X3_workdaysBehind (a1 : Int32) (a2 : Int32) (M : Mem) (K : Int32 → Mem → Prop) : Prop :=
  ((a1 < 0) →
    f_X3_workdaysBehind_b16 K M) ∧
  ((¬ a1 < 0) →
    (((1000 : Int32) < a2) →
      f_X3_workdaysBehind_b16 K M) ∧
    ((¬ (1000 : Int32) < a2) →
      ((a1 < a2) →
        vp_in a2 1001 ∧
        vp_in a1 1001 ∧
        K ((M 3 a2.toNatClampNeg) - (M 3 a1.toNatClampNeg)) M) ∧
      ((¬ a1 < a2) →
        f_X3_workdaysBehind_b16 K M)))
def f_X5_stateOn_b44 (t : Nat) (K : Int32 → Mem → Prop) (s0 : Int32) (M : Mem) : Prop :=
  K s0 M
def f_X5_stateOn_b71 (t : Nat) (K : Int32 → Mem → Prop) (s0 : Int32) (M : Mem) : Prop :=
  K s0 M
def f_X5_stateOn_b133 (t : Nat) (K : Int32 → Mem → Prop) (s0 : Int32) (M : Mem) : Prop :=
  K s0 M
def f_X5_stateOn (t : Nat) (a1 : Int32) (a2 : Int32) (M : Mem) (K : Int32 → Mem → Prop) : Prop :=
  isMat t ∧
  f_X5_withdrawnBy t a1 M (fun v1 M1 =>
    ((v1 = 0) →
      ((¬ (M1 t 7) = 0) →
        f_X5_lastRuling t a1 a2 M1 (fun v4 M4 =>
          ((v4 = (-9 : Int32)) →
            f_X5_lastAnswer t a1 a2 M4 (fun v6 M6 =>
              ((v6 = (-9 : Int32)) →
                f_X5_wholeSince t a1 a2 M6 (fun v8 M8 =>
                  ((¬ v8 = (-9 : Int32)) →
                    ((¬ (M8 t 7) = (1 : Int32)) →
                      f_X3_workdaysBehind v8 a1 M8 (fun v11 M11 =>
                        (((M11 t 9) < v11) →
                          (((M11 t 10) = 0) →
                            f_X5_stateOn_b133 t K (7 : Int32) M11) ∧
                          ((¬ (M11 t 10) = 0) →
                            f_X5_stateOn_b133 t K (6 : Int32) M11)) ∧
                        ((¬ (M11 t 9) < v11) →
                          K (3 : Int32) M11))) ∧
                    (((M8 t 7) = (1 : Int32)) →
                      K (6 : Int32) M8)) ∧
                  ((v8 = (-9 : Int32)) →
                    K (2 : Int32) M8))) ∧
              ((¬ v6 = (-9 : Int32)) →
                ((¬ v6 = (1 : Int32)) →
                  f_X5_stateOn_b71 t K (5 : Int32) M6) ∧
                ((v6 = (1 : Int32)) →
                  f_X5_stateOn_b71 t K (4 : Int32) M6)))) ∧
          ((¬ v4 = (-9 : Int32)) →
            ((¬ v4 = (1 : Int32)) →
              f_X5_stateOn_b44 t K (9 : Int32) M4) ∧
            ((v4 = (1 : Int32)) →
              f_X5_stateOn_b44 t K (8 : Int32) M4)))) ∧
      (((M1 t 7) = 0) →
        K (0 : Int32) M1)) ∧
    ((¬ v1 = 0) →
      K (1 : Int32) M1))
def f_X11_state_b22 (K : Int32 → Mem → Prop) (M : Mem) : Prop :=
  f_X11_refuse (-4 : Int32) M (fun v3 M3 =>
    K v3 M3)
def f_X11_state_b58 (K : Int32 → Mem → Prop) (M : Mem) : Prop :=
  f_X11_refuse (-3 : Int32) M (fun v4 M4 =>
    K v4 M4)
def f_X11_state (a1 : Int32) (a2 : Int32) (a3 : Int32) (M : Mem) (K : Int32 → Mem → Prop) : Prop :=
  f_X11_isMatter a1 M (fun v5 M5 =>
    ((¬ v5 = 0) →
      ((a2 < 0) →
        f_X11_state_b22 K M5) ∧
      ((¬ a2 < 0) →
        ((0 ≤ a3) →
          vp_in a1 40 ∧
          ((a2 < (M5 (127 + 4 * a1.toNatClampNeg) 6)) →
            f_X11_state_b58 K M5) ∧
          ((¬ a2 < (M5 (127 + 4 * a1.toNatClampNeg) 6)) →
            ((a3 < a2) →
              f_X11_state_b58 K M5) ∧
            ((¬ a3 < a2) →
              ((a3 ≤ (M5 1 0)) →
                vp_in a1 40 ∧
                f_X5_stateOn (127 + 4 * a1.toNatClampNeg) a2 a3 M5 (fun v14 M14 =>
                  K v14 M14)) ∧
              ((¬ a3 ≤ (M5 1 0)) →
                f_X11_state_b58 K M5)))) ∧
        ((¬ 0 ≤ a3) →
          f_X11_state_b22 K M5))) ∧
    ((v5 = 0) →
      f_X11_refuse (-1 : Int32) M5 (fun v15 M15 =>
        K v15 M15)))
def f_X5_lets_b45 (t : Nat) (K : Int32 → Mem → Prop) (s0 : Int32) (M : Mem) : Prop :=
  bz s0 ∧ K s0 M
def f_X5_lets_b57 (t : Nat) (K : Int32 → Mem → Prop) (s0 : Int32) (M : Mem) : Prop :=
  bz s0 ∧ K s0 M
def f_X5_lets_b79 (t : Nat) (K : Int32 → Mem → Prop) (s0 : Int32) (M : Mem) : Prop :=
  bz s0 ∧ K s0 M
def f_X5_lets_b74 (t : Nat) (K : Int32 → Mem → Prop) (M : Mem) : Prop :=
  f_X5_lets_b79 t K (1 : Int32) M
def f_X5_lets_b102 (t : Nat) (K : Int32 → Mem → Prop) (s0 : Int32) (M : Mem) : Prop :=
  bz s0 ∧ K s0 M
def f_X5_lets_b97 (t : Nat) (K : Int32 → Mem → Prop) (M : Mem) : Prop :=
  f_X5_lets_b102 t K (1 : Int32) M
def f_X5_lets_b135 (t : Nat) (K : Int32 → Mem → Prop) (s0 : Int32) (M : Mem) : Prop :=
  bz s0 ∧ K s0 M
def f_X5_lets_b130 (t : Nat) (K : Int32 → Mem → Prop) (M : Mem) : Prop :=
  f_X5_lets_b135 t K (1 : Int32) M
def f_X5_lets (t : Nat) (a1 : Int32) (M : Mem) (K : Int32 → Mem → Prop) : Prop :=
  isMat t ∧
  (((M t 7).toInt < 0 ∨ 3 < (M t 7).toInt) →
    ((a1 = (2 : Int32)) →
      f_X5_lets_b130 t K M) ∧
    ((¬ a1 = (2 : Int32)) →
      ((a1 = (3 : Int32)) →
        f_X5_lets_b130 t K M) ∧
      ((¬ a1 = (3 : Int32)) →
        ((a1 = (4 : Int32)) →
          f_X5_lets_b130 t K M) ∧
        ((¬ a1 = (4 : Int32)) →
          ((a1 = (6 : Int32)) →
            f_X5_lets_b130 t K M) ∧
          ((¬ a1 = (6 : Int32)) →
            ((¬ a1 = (8 : Int32)) →
              f_X5_lets_b135 t K (0 : Int32) M) ∧
            ((a1 = (8 : Int32)) →
              f_X5_lets_b130 t K M)))))) ∧
  (((M t 7) = (0 : Int32)) →
    ((¬ a1 = 0) →
      f_X5_lets_b45 t K (0 : Int32) M) ∧
    ((a1 = 0) →
      f_X5_lets_b45 t K (1 : Int32) M)) ∧
  (((M t 7) = (1 : Int32)) →
    ((¬ a1 = (6 : Int32)) →
      f_X5_lets_b57 t K (0 : Int32) M) ∧
    ((a1 = (6 : Int32)) →
      f_X5_lets_b57 t K (1 : Int32) M)) ∧
  (((M t 7) = (2 : Int32)) →
    ((a1 = (4 : Int32)) →
      f_X5_lets_b74 t K M) ∧
    ((¬ a1 = (4 : Int32)) →
      ((a1 = (5 : Int32)) →
        f_X5_lets_b74 t K M) ∧
      ((¬ a1 = (5 : Int32)) →
        ((¬ a1 = (6 : Int32)) →
          f_X5_lets_b79 t K (0 : Int32) M) ∧
        ((a1 = (6 : Int32)) →
          f_X5_lets_b74 t K M)))) ∧
  (((M t 7) = (3 : Int32)) →
    ((a1 = (4 : Int32)) →
      f_X5_lets_b97 t K M) ∧
    ((¬ a1 = (4 : Int32)) →
      ((a1 = (6 : Int32)) →
        f_X5_lets_b97 t K M) ∧
      ((¬ a1 = (6 : Int32)) →
        ((¬ a1 = (8 : Int32)) →
          f_X5_lets_b102 t K (0 : Int32) M) ∧
        ((a1 = (8 : Int32)) →
          f_X5_lets_b97 t K M))))
def f_X5_letsOn (t : Nat) (a1 : Int32) (M : Mem) (K : Int32 → Mem → Prop) : Prop :=
  isMat t ∧
  f_X5_stateOn t a1 (M 1 0) M (fun v1 M1 =>
    f_X5_lets t v1 M1 (fun v2 M2 =>
      bz v2 ∧ K v2 M2))
def f_X11_matterOf_b108 (K : Int32 → Mem → Prop) (s0 : Int32) (M : Mem) : Prop :=
  K s0 M
def f_X11_matterOf (a1 : Int32) (a2 : Int32) (M : Mem) (K : Int32 → Mem → Prop) : Prop :=
  f_X11_isMatter a1 M (fun v2 M2 =>
    ((¬ v2 = 0) →
      vp_in a1 40 ∧
      ((a2.toInt < 0 ∨ 5 < a2.toInt) →
        f_X11_refuse (-2 : Int32) M2 (fun v5 M5 =>
          K v5 M5)) ∧
      ((a2 = (0 : Int32)) →
        K (M2 (127 + 4 * a1.toNatClampNeg) 7) M2) ∧
      ((a2 = (1 : Int32)) →
        K (M2 (127 + 4 * a1.toNatClampNeg) 6) M2) ∧
      ((a2 = (2 : Int32)) →
        f_X5_wholeSince (127 + 4 * a1.toNatClampNeg) (M2 1 0) (M2 1 0) M2 (fun v7 M7 =>
          K v7 M7)) ∧
      ((a2 = (3 : Int32)) →
        f_X5_letsOn (127 + 4 * a1.toNatClampNeg) (M2 1 0) M2 (fun v8 M8 =>
          ((v8 = 0) →
            f_X11_matterOf_b108 K (0 : Int32) M8) ∧
          ((¬ v8 = 0) →
            f_X11_matterOf_b108 K (1 : Int32) M8))) ∧
      ((a2 = (4 : Int32)) →
        K (M2 (127 + 4 * a1.toNatClampNeg) 11) M2) ∧
      ((a2 = (5 : Int32)) →
        K (M2 (127 + 4 * a1.toNatClampNeg) 5) M2)) ∧
    ((v2 = 0) →
      f_X11_refuse (-1 : Int32) M2 (fun v10 M10 =>
        K v10 M10)))
def f_X11_isShop_b15 (K : Int32 → Mem → Prop) (s0 : Int32) (M : Mem) : Prop :=
  bz s0 ∧ K s0 M
def f_X11_isShop_b14 (K : Int32 → Mem → Prop) (M : Mem) : Prop :=
  f_X11_isShop_b15 K (0 : Int32) M
def f_X11_isShop (a1 : Int32) (M : Mem) (K : Int32 → Mem → Prop) : Prop :=
  ((a1 < 0) →
    f_X11_isShop_b14 K M) ∧
  ((¬ a1 < 0) →
    (((6 : Int32) ≤ a1) →
      f_X11_isShop_b14 K M) ∧
    ((¬ (6 : Int32) ≤ a1) →
      f_X11_isShop_b15 K (1 : Int32) M))
def f_X11_votes (a1 : Int32) (a2 : Int32) (M : Mem) (K : Int32 → Mem → Prop) : Prop :=
  f_X11_isShop a1 M (fun v3 M3 =>
    ((¬ v3 = 0) →
      f_X11_outside a2 (0 : Int32) (999 : Int32) M3 (fun v5 M5 =>
        ((v5 = 0) →
          vp_in a1 6 ∧
          vp_in a1 6 ∧
          K (M5 52 a1.toNatClampNeg) (mset M5 52 a1.toNatClampNeg a2)) ∧
        ((¬ v5 = 0) →
          f_X11_refuse v5 M5 (fun v9 M9 =>
            K v9 M9)))) ∧
    ((v3 = 0) →
      f_X11_refuse (-1 : Int32) M3 (fun v10 M10 =>
        K v10 M10)))
def f_X2_nextWinner_b59 (r5 : Int32 × Int32 × Mem → Prop) (K : Int32 → Mem → Prop) (x1 : Int32) (x2 : Int32) (M : Mem) : Prop :=
  r5 (x1, (x2 + (1 : Int32)), M)
def f_X2_nextWinner_b57 (r5 : Int32 × Int32 × Mem → Prop) (K : Int32 → Mem → Prop) (x2 : Int32) (M : Mem) : Prop :=
  f_X2_nextWinner_b59 r5 K x2 x2 M
def f_X2_nextWinner_c5 (K : Int32 → Mem → Prop) (r5 : Int32 × Int32 × Mem → Prop) (x1 : Int32) (x2 : Int32) (M : Mem) : Prop :=
  (((6 : Int32) ≤ x2) →
    K x1 M) ∧
  ((¬ (6 : Int32) ≤ x2) →
    vp_in x2 6 ∧
    (((M 52 x2.toNatClampNeg) ≤ 0) →
      f_X2_nextWinner_b59 r5 K x1 x2 M) ∧
    ((¬ (M 52 x2.toNatClampNeg) ≤ 0) →
      ((x1 < 0) →
        f_X2_nextWinner_b57 r5 K x2 M) ∧
      ((¬ x1 < 0) →
        vp_in x2 6 ∧
        vp_in x1 6 ∧
        vp_in x1 6 ∧
        vp_in x2 6 ∧
        ((((M 52 x2.toNatClampNeg) * ((M 55 x1.toNatClampNeg) + (1 : Int32))) ≤ ((M 52 x1.toNatClampNeg) * ((M 55 x2.toNatClampNeg) + (1 : Int32)))) →
          f_X2_nextWinner_b59 r5 K x1 x2 M) ∧
        ((¬ ((M 52 x2.toNatClampNeg) * ((M 55 x1.toNatClampNeg) + (1 : Int32))) ≤ ((M 52 x1.toNatClampNeg) * ((M 55 x2.toNatClampNeg) + (1 : Int32)))) →
          f_X2_nextWinner_b57 r5 K x2 M))))
def f_X2_nextWinner (M : Mem) (K : Int32 → Mem → Prop) : Prop :=
  Lp (fun (r5 : Int32 × Int32 × Mem → Prop) a => f_X2_nextWinner_c5 K r5 a.1 a.2.1 a.2.2) ((-9 : Int32), (0 : Int32), M)
def f_X2_fillSeats_b91 (K : Int32 → Mem → Prop) (M : Mem) : Prop :=
  K (M 51 1) M
def f_X2_fillSeats_c28 (K : Int32 → Mem → Prop) (r28 : Int32 × Int32 × Mem → Prop) (x1 : Int32) (x2 : Int32) (M : Mem) : Prop :=
  ((x1 ≤ x2) →
    f_X2_fillSeats_b91 K M) ∧
  ((¬ x1 ≤ x2) →
    (((9 : Int32) ≤ x2) →
      f_X2_fillSeats_b91 K M) ∧
    ((¬ (9 : Int32) ≤ x2) →
      f_X2_nextWinner M (fun v8 M8 =>
        ((0 ≤ v8) →
          vp_in v8 6 ∧
          vp_in v8 6 ∧
          vp_in x2 9 ∧
          vp_in x2 9 ∧
          r28 (x1, (x2 + (1 : Int32)), (mset (mset (mset (mset M8 55 v8.toNatClampNeg ((M8 55 v8.toNatClampNeg) + (1 : Int32))) 53 x2.toNatClampNeg v8) 54 x2.toNatClampNeg (-9 : Int32)) 51 1 (x2 + (1 : Int32))))) ∧
        ((¬ 0 ≤ v8) →
          K (M8 51 1) M8))))
def f_X2_fillSeats_c7 (K : Int32 → Mem → Prop) (r7 : Int32 × Int32 × Mem → Prop) (x1 : Int32) (x2 : Int32) (M : Mem) : Prop :=
  (((6 : Int32) ≤ x2) →
    Lp (fun (r28 : Int32 × Int32 × Mem → Prop) a => f_X2_fillSeats_c28 K r28 a.1 a.2.1 a.2.2) (x1, (0 : Int32), M)) ∧
  ((¬ (6 : Int32) ≤ x2) →
    vp_in x2 6 ∧
    r7 (x1, (x2 + (1 : Int32)), (mset M 55 x2.toNatClampNeg (0 : Int32))))
def f_X2_fillSeats (a1 : Int32) (M : Mem) (K : Int32 → Mem → Prop) : Prop :=
  Lp (fun (r7 : Int32 × Int32 × Mem → Prop) a => f_X2_fillSeats_c7 K r7 a.1 a.2.1 a.2.2) (a1, (0 : Int32), (mset M 51 1 (0 : Int32)))
def f_X11_elect (a1 : Int32) (M : Mem) (K : Int32 → Mem → Prop) : Prop :=
  f_X11_outside a1 (1 : Int32) (9 : Int32) M (fun v1 M1 =>
    ((v1 = 0) →
      f_X2_fillSeats a1 M1 (fun v3 M3 =>
        K v3 M3)) ∧
    ((¬ v1 = 0) →
      f_X11_refuse v1 M1 (fun v4 M4 =>
        K v4 M4)))
def f_X2_hasSeat_b23 (K : Int32 → Mem → Prop) (s0 : Int32) (M : Mem) : Prop :=
  bz s0 ∧ K s0 M
def f_X2_hasSeat_b22 (K : Int32 → Mem → Prop) (M : Mem) : Prop :=
  f_X2_hasSeat_b23 K (0 : Int32) M
def f_X2_hasSeat (a1 : Int32) (M : Mem) (K : Int32 → Mem → Prop) : Prop :=
  ((a1 < 0) →
    f_X2_hasSeat_b22 K M) ∧
  ((¬ a1 < 0) →
    (((M 51 1) ≤ a1) →
      f_X2_hasSeat_b22 K M) ∧
    ((¬ (M 51 1) ≤ a1) →
      (((9 : Int32) ≤ a1) →
        f_X2_hasSeat_b22 K M) ∧
      ((¬ (9 : Int32) ≤ a1) →
        f_X2_hasSeat_b23 K (1 : Int32) M)))
def f_X11_seat_b26 (K : Int32 → Mem → Prop) (M : Mem) : Prop :=
  f_X11_refuse (-2 : Int32) M (fun v3 M3 =>
    K v3 M3)
def f_X11_seat_b58 (K : Int32 → Mem → Prop) (s0 : Int32) (M : Mem) : Prop :=
  K s0 M
def f_X11_seat (a1 : Int32) (a2 : Int32) (M : Mem) (K : Int32 → Mem → Prop) : Prop :=
  f_X2_hasSeat a1 M (fun v4 M4 =>
    ((¬ v4 = 0) →
      ((a2 < 0) →
        f_X11_seat_b26 K M4) ∧
      ((¬ a2 < 0) →
        ((a2 ≤ (1 : Int32)) →
          ((¬ a2 = 0) →
            vp_in a1 9 ∧
            f_X11_seat_b58 K (M4 54 a1.toNatClampNeg) M4) ∧
          ((a2 = 0) →
            vp_in a1 9 ∧
            f_X11_seat_b58 K (M4 53 a1.toNatClampNeg) M4)) ∧
        ((¬ a2 ≤ (1 : Int32)) →
          f_X11_seat_b26 K M4))) ∧
    ((v4 = 0) →
      f_X11_refuse (-1 : Int32) M4 (fun v11 M11 =>
        K v11 M11)))
def f_X11_put (a1 : Int32) (M : Mem) (K : Int32 → Mem → Prop) : Prop :=
  (((M 0 14) < (40 : Int32)) →
    vp_in (M 0 14) 40 ∧
    K ((M 0 14) + (1 : Int32)) (mset (mset M 125 ((M 0 14).toNatClampNeg) a1) 0 14 ((M 0 14) + (1 : Int32)))) ∧
  ((¬ (M 0 14) < (40 : Int32)) →
    f_X11_refuse (-6 : Int32) M (fun v4 M4 =>
      K v4 M4))
def f_X11_check_b8 (K : Int32 → Mem → Prop) (M : Mem) : Prop :=
  f_X11_refuse (-4 : Int32) M (fun v4 M4 =>
    K v4 M4)
def f_X11_check_b31 (K : Int32 → Mem → Prop) (M : Mem) : Prop :=
  f_X11_refuse (-3 : Int32) M (fun v5 M5 =>
    K v5 M5)
def f_X11_check_b109 (K : Int32 → Mem → Prop) (x4 : Int32) (M : Mem) : Prop :=
  K x4 M
def f_X11_check_b118 (K : Int32 → Mem → Prop) (M : Mem) : Prop :=
  K (-9 : Int32) M
def f_X11_check_c51 (K : Int32 → Mem → Prop) (r51 : Int32 × Int32 × Int32 × Int32 × Mem → Prop) (x1 : Int32) (x2 : Int32) (x3 : Int32) (x4 : Int32) (M : Mem) : Prop :=
  ((x3 ≤ x4) →
    f_X11_check_b118 K M) ∧
  ((¬ x3 ≤ x4) →
    (((40 : Int32) ≤ x4) →
      f_X11_check_b118 K M) ∧
    ((¬ (40 : Int32) ≤ x4) →
      f_X11_isMatter x4 M (fun v8 M8 =>
        ((v8 = 0) →
          f_X11_check_b109 K x4 M8) ∧
        ((¬ v8 = 0) →
          vp_in x4 40 ∧
          ((x1 < (M8 (127 + 4 * x4.toNatClampNeg) 6)) →
            f_X11_check_b109 K x4 M8) ∧
          ((¬ x1 < (M8 (127 + 4 * x4.toNatClampNeg) 6)) →
            vp_in x4 40 ∧
            f_X5_stateOn (127 + 4 * x4.toNatClampNeg) x1 x2 M8 (fun v13 M13 =>
              vp_in x4 40 ∧
              ((v13 = (M13 125 x4.toNatClampNeg)) →
                r51 (x1, x2, x3, (x4 + (1 : Int32)), M13)) ∧
              ((¬ v13 = (M13 125 x4.toNatClampNeg)) →
                f_X11_check_b109 K x4 M13)))))))
def f_X11_check (a1 : Int32) (a2 : Int32) (M : Mem) (K : Int32 → Mem → Prop) : Prop :=
  ((a1 < 0) →
    f_X11_check_b8 K M) ∧
  ((¬ a1 < 0) →
    ((0 ≤ a2) →
      ((a2 < a1) →
        f_X11_check_b31 K M) ∧
      ((¬ a2 < a1) →
        ((a2 ≤ (M 1 0)) →
          Lp (fun (r51 : Int32 × Int32 × Int32 × Int32 × Mem → Prop) a => f_X11_check_c51 K r51 a.1 a.2.1 a.2.2.1 a.2.2.2.1 a.2.2.2.2) (a1, a2, (M 0 14), (0 : Int32), (mset M 0 14 (0 : Int32)))) ∧
        ((¬ a2 ≤ (M 1 0)) →
          f_X11_check_b31 K M))) ∧
    ((¬ 0 ≤ a2) →
      f_X11_check_b8 K M))
def f_X11_holds_b60 (K : Int32 → Mem → Prop) (s0 : Int32) (M : Mem) : Prop :=
  bz s0 ∧ K s0 M
def f_X11_holds_b59 (K : Int32 → Mem → Prop) (M : Mem) : Prop :=
  f_X11_holds_b60 K (0 : Int32) M
def f_X11_holds (a1 : Int32) (M : Mem) (K : Int32 → Mem → Prop) : Prop :=
  vp_in a1 30 ∧
  f_X11_isMatter (M 63 a1.toNatClampNeg) M (fun v7 M7 =>
    ((v7 = 0) →
      f_X11_holds_b59 K M7) ∧
    ((¬ v7 = 0) →
      vp_in (M 63 a1.toNatClampNeg) 40 ∧
      vp_in (M 63 a1.toNatClampNeg) 40 ∧
      vp_in a1 30 ∧
      f_X5_stateOn (127 + 4 * ((M 63 a1.toNatClampNeg).toNatClampNeg)) (M7 67 a1.toNatClampNeg) (M7 1 0) M7 (fun v12 M12 =>
        f_X5_lets (127 + 4 * ((M 63 a1.toNatClampNeg).toNatClampNeg)) v12 M12 (fun v13 M13 =>
          ((v13 = 0) →
            f_X11_holds_b59 K M13) ∧
          ((¬ v13 = 0) →
            f_X11_holds_b60 K (1 : Int32) M13)))))
def f_X11_countHolding_b26 (r4 : Int32 × Int32 × Mem → Prop) (K : Int32 → Mem → Prop) (x1 : Int32) (x2 : Int32) (M : Mem) : Prop :=
  r4 (x1, (x2 + (1 : Int32)), M)
def f_X11_countHolding_c4 (K : Int32 → Mem → Prop) (r4 : Int32 × Int32 × Mem → Prop) (x1 : Int32) (x2 : Int32) (M : Mem) : Prop :=
  (((M 62 0) ≤ x2) →
    K x1 M) ∧
  ((¬ (M 62 0) ≤ x2) →
    f_X11_holds x2 M (fun v2 M2 =>
      ((v2 = 0) →
        f_X11_countHolding_b26 r4 K x1 x2 M2) ∧
      ((¬ v2 = 0) →
        f_X11_countHolding_b26 r4 K (x1 + (1 : Int32)) x2 M2)))
def f_X11_countHolding (M : Mem) (K : Int32 → Mem → Prop) : Prop :=
  Lp (fun (r4 : Int32 × Int32 × Mem → Prop) a => f_X11_countHolding_c4 K r4 a.1 a.2.1 a.2.2) ((0 : Int32), (0 : Int32), M)
def f_X3_firstDayBeyond_c11 (K : Int32 → Mem → Prop) (r11 : Int32 × Int32 × Int32 × Mem → Prop) (x1 : Int32) (x2 : Int32) (x3 : Int32) (M : Mem) : Prop :=
  (((1000 : Int32) < x3) →
    K (1000000 : Int32) M) ∧
  ((¬ (1000 : Int32) < x3) →
    vp_in x3 1001 ∧
    vp_in x1 1001 ∧
    ((((M 3 x3.toNatClampNeg) - (M 3 x1.toNatClampNeg)) ≤ x2) →
      r11 (x1, x2, (x3 + (1 : Int32)), M)) ∧
    ((¬ ((M 3 x3.toNatClampNeg) - (M 3 x1.toNatClampNeg)) ≤ x2) →
      K x3 M))
def f_X3_firstDayBeyond (a1 : Int32) (a2 : Int32) (M : Mem) (K : Int32 → Mem → Prop) : Prop :=
  ((0 ≤ a1) →
    Lp (fun (r11 : Int32 × Int32 × Int32 × Mem → Prop) a => f_X3_firstDayBeyond_c11 K r11 a.1 a.2.1 a.2.2.1 a.2.2.2) (a1, a2, (a1 + (1 : Int32)), M)) ∧
  ((¬ 0 ≤ a1) →
    K (1000000 : Int32) M)
def f_X5_nextTurn_b34 (t : Nat) (r5 : Nat × Int32 × Int32 × Int32 × Mem → Prop) (K : Int32 → Mem → Prop) (x0 : Nat) (x1 : Int32) (x2 : Int32) (x3 : Int32) (M : Mem) : Prop :=
  isMat x0 ∧
  r5 (x0, x1, x2, (x3 + (1 : Int32)), M)
def f_X5_nextTurn_b78 (t : Nat) (K : Int32 → Mem → Prop) (s0 : Int32) (M : Mem) : Prop :=
  K s0 M
def f_X5_nextTurn_c5 (t : Nat) (K : Int32 → Mem → Prop) (r5 : Nat × Int32 × Int32 × Int32 × Mem → Prop) (x0 : Nat) (x1 : Int32) (x2 : Int32) (x3 : Int32) (M : Mem) : Prop :=
  isMat x0 ∧
  (((M x0 11) ≤ x3) →
    f_X5_wholeSince x0 x1 (M 1 0) M (fun v4 M4 =>
      f_X3_firstDayBeyond v4 (M4 x0 9) M4 (fun v5 M5 =>
        ((v5 ≤ x1) →
          f_X5_nextTurn_b78 t K x2 M5) ∧
        ((¬ v5 ≤ x1) →
          f_X5_nextTurn_b78 t K (if v5 < x2 then v5 else x2) M5)))) ∧
  ((¬ (M x0 11) ≤ x3) →
    vp_in x3 30 ∧
    (((M (x0 + 3) x3.toNatClampNeg) ≤ x1) →
      f_X5_nextTurn_b34 t r5 K x0 x1 x2 x3 M) ∧
    ((¬ (M (x0 + 3) x3.toNatClampNeg) ≤ x1) →
      vp_in x3 30 ∧
      f_X5_nextTurn_b34 t r5 K x0 x1 (if (M (x0 + 3) x3.toNatClampNeg) < x2 then (M (x0 + 3) x3.toNatClampNeg) else x2) x3 M))
def f_X5_nextTurn (t : Nat) (a1 : Int32) (M : Mem) (K : Int32 → Mem → Prop) : Prop :=
  isMat t ∧
  Lp (fun (r5 : Nat × Int32 × Int32 × Int32 × Mem → Prop) a => f_X5_nextTurn_c5 t K r5 a.1 a.2.1 a.2.2.1 a.2.2.2.1 a.2.2.2.2) (t, a1, (1000000 : Int32), (0 : Int32), M)
def f_X5_firstNotLetting_c5 (t : Nat) (K : Int32 → Mem → Prop) (r5 : Nat × Int32 × Int32 × Int32 × Mem → Prop) (x0 : Nat) (x2 : Int32) (x3 : Int32) (x4 : Int32) (M : Mem) : Prop :=
  isMat x0 ∧
  (((62 : Int32) < x4) →
    K (-9 : Int32) M) ∧
  ((¬ (62 : Int32) < x4) →
    ((x3 ≤ x2) →
      f_X5_stateOn x0 x3 (M 1 0) M (fun v3 M3 =>
        f_X5_lets x0 v3 M3 (fun v4 M4 =>
          ((¬ v4 = 0) →
            f_X5_nextTurn x0 x3 M4 (fun v6 M6 =>
              r5 (x0, x2, v6, (x4 + (1 : Int32)), M6))) ∧
          ((v4 = 0) →
            K x3 M4)))) ∧
    ((¬ x3 ≤ x2) →
      K (-9 : Int32) M))
def f_X5_firstNotLetting (t : Nat) (a1 : Int32) (a2 : Int32) (M : Mem) (K : Int32 → Mem → Prop) : Prop :=
  isMat t ∧
  Lp (fun (r5 : Nat × Int32 × Int32 × Int32 × Mem → Prop) a => f_X5_firstNotLetting_c5 t K r5 a.1 a.2.1 a.2.2.1 a.2.2.2.1 a.2.2.2.2) (t, a2, a1, (0 : Int32), M)
def f_X11_voidSince_b44 (K : Int32 → Mem → Prop) (s0 : Int32) (M : Mem) : Prop :=
  K s0 M
def f_X11_voidSince_b95 (K : Int32 → Mem → Prop) (x2 : Int32) (M : Mem) : Prop :=
  K x2 M
def f_X11_voidSince_b118 (K : Int32 → Mem → Prop) (s0 : Int32) (s1 : Int32) (s2 : Nat) (M : Mem) : Prop :=
  isMat s2 ∧
  f_X5_firstNotLetting s2 s1 s0 M (fun v8 M8 =>
    K v8 M8)
def f_X11_voidSince (a1 : Int32) (M : Mem) (K : Int32 → Mem → Prop) : Prop :=
  vp_in a1 60 ∧
  vp_in a1 60 ∧
  f_X11_isMatter (M 73 a1.toNatClampNeg) M (fun v11 M11 =>
    ((¬ v11 = 0) →
      vp_in a1 60 ∧
      vp_in (M11 73 a1.toNatClampNeg) 40 ∧
      vp_in a1 60 ∧
      ((¬ ((M11 75 a1.toNatClampNeg) &&& ((M11 (127 + 4 * ((M11 73 a1.toNatClampNeg).toNatClampNeg)) 3) ^^^ (-1 : Int32))) = 0) →
        f_X11_voidSince_b95 K (M 74 a1.toNatClampNeg) M11) ∧
      ((((M11 75 a1.toNatClampNeg) &&& ((M11 (127 + 4 * ((M11 73 a1.toNatClampNeg).toNatClampNeg)) 3) ^^^ (-1 : Int32))) = 0) →
        vp_in a1 60 ∧
        (((M11 76 a1.toNatClampNeg) ≤ (M11 (127 + 4 * ((M11 73 a1.toNatClampNeg).toNatClampNeg)) 4)) →
          ((¬ (M11 (127 + 4 * ((M11 73 a1.toNatClampNeg).toNatClampNeg)) 7) = (4 : Int32)) →
            f_X11_voidSince_b118 K (M 74 a1.toNatClampNeg) (M 74 a1.toNatClampNeg) (127 + 4 * ((M11 73 a1.toNatClampNeg).toNatClampNeg)) M11) ∧
          (((M11 (127 + 4 * ((M11 73 a1.toNatClampNeg).toNatClampNeg)) 7) = (4 : Int32)) →
            f_X11_voidSince_b118 K (M11 1 0) (M 74 a1.toNatClampNeg) (127 + 4 * ((M11 73 a1.toNatClampNeg).toNatClampNeg)) M11)) ∧
        ((¬ (M11 76 a1.toNatClampNeg) ≤ (M11 (127 + 4 * ((M11 73 a1.toNatClampNeg).toNatClampNeg)) 4)) →
          f_X11_voidSince_b95 K (M 74 a1.toNatClampNeg) M11))) ∧
    ((v11 = 0) →
      vp_in a1 60 ∧
      (((M11 77 a1.toNatClampNeg) = 0) →
        f_X11_voidSince_b44 K (-9 : Int32) M11) ∧
      ((¬ (M11 77 a1.toNatClampNeg) = 0) →
        f_X11_voidSince_b44 K (M 74 a1.toNatClampNeg) M11)))
def f_X11_countVoid_b28 (r4 : Int32 × Int32 × Mem → Prop) (K : Int32 → Mem → Prop) (x1 : Int32) (x2 : Int32) (M : Mem) : Prop :=
  r4 (x1, (x2 + (1 : Int32)), M)
def f_X11_countVoid_c4 (K : Int32 → Mem → Prop) (r4 : Int32 × Int32 × Mem → Prop) (x1 : Int32) (x2 : Int32) (M : Mem) : Prop :=
  (((M 72 0) ≤ x2) →
    K x1 M) ∧
  ((¬ (M 72 0) ≤ x2) →
    f_X11_voidSince x2 M (fun v2 M2 =>
      ((v2 = (-9 : Int32)) →
        f_X11_countVoid_b28 r4 K x1 x2 M2) ∧
      ((¬ v2 = (-9 : Int32)) →
        f_X11_countVoid_b28 r4 K (x1 + (1 : Int32)) x2 M2)))
def f_X11_countVoid (M : Mem) (K : Int32 → Mem → Prop) : Prop :=
  Lp (fun (r4 : Int32 × Int32 × Mem → Prop) a => f_X11_countVoid_c4 K r4 a.1 a.2.1 a.2.2) ((0 : Int32), (0 : Int32), M)
def f_X11_count_b22 (K : Int32 → Mem → Prop) (x1 : Int32) (M : Mem) : Prop :=
  ((x1.toInt < 0 ∨ 10 < x1.toInt) →
    K (-9 : Int32) M) ∧
  ((x1 = (0 : Int32)) →
    K (M 1 0) M) ∧
  ((x1 = (1 : Int32)) →
    f_X9_hereIn (63 : Int32) M (fun v3 M3 =>
      K v3 M3)) ∧
  ((x1 = (2 : Int32)) →
    K (M 15 0) M) ∧
  ((x1 = (3 : Int32)) →
    K (M 0 5) M) ∧
  ((x1 = (4 : Int32)) →
    K (M 51 1) M) ∧
  ((x1 = (5 : Int32)) →
    K (M 51 5) M) ∧
  ((x1 = (6 : Int32)) →
    f_X11_countHolding M (fun v4 M4 =>
      K v4 M4)) ∧
  ((x1 = (7 : Int32)) →
    K (M 72 0) M) ∧
  ((x1 = (8 : Int32)) →
    f_X11_countVoid M (fun v5 M5 =>
      K v5 M5)) ∧
  ((x1 = (9 : Int32)) →
    f_X0_fed M (fun v6 M6 =>
      K v6 M6)) ∧
  ((x1 = (10 : Int32)) →
    K (M 0 14) M)
def f_X11_count (a1 : Int32) (M : Mem) (K : Int32 → Mem → Prop) : Prop :=
  ((a1 < (11 : Int32)) →
    f_X11_count_b22 K a1 M) ∧
  ((¬ a1 < (11 : Int32)) →
    (((16 : Int32) < a1) →
      f_X11_count_b22 K a1 M) ∧
    ((¬ (16 : Int32) < a1) →
      vp_in (a1 - (10 : Int32)) 7 ∧
      K (M 126 ((a1 - (10 : Int32)).toNatClampNeg)) M))
def f_L_cell_b18 (L : Nat) (xs : Nat → Int32) (K : Int32 → Mem → Prop) (s0 : Int32) (M : Mem) : Prop :=
  K s0 M
def f_L_cell (L : Nat) (xs : Nat → Int32) (a2 : Int32) (M : Mem) (K : Int32 → Mem → Prop) : Prop :=
  (((nI L) ≤ a2) →
    f_L_cell_b18 L xs K ((790386105 : Int32) * (a2 + (1 : Int32))) M) ∧
  ((¬ (nI L) ≤ a2) →
    vp_in a2 L ∧
    f_L_cell_b18 L xs K (xs a2.toNatClampNeg) M)
def f_L_feed_c40 (tx : Nat) (r5 : Int32 × Int32 × Int32 × Mem → Prop) (K : Int32 → Mem → Prop) (r40 : Int32 × Int32 × Int64 × Int32 × Int32 × Mem → Prop) (x2 : Int32) (x4 : Int32) (x5 : Int64) (x7 : Int32) (x8 : Int32) (M : Mem) : Prop :=
  ((x8 < 0) →
    f_X11_feed x7 x5 M (fun v3 M3 =>
      r5 (x2, v3, (x4 + (8 : Int32)), M3))) ∧
  ((¬ x8 < 0) →
    vp_in (x4 + x8) 6 ∧
    r40 (x2, x4, ((x5 <<< ((8 : Int32).toInt64 &&& 63)) ||| (M tx ((x4 + x8).toNatClampNeg)).toInt64), x7, (x8 + (-1 : Int32)), M))
def f_L_feed_b32 (tx : Nat) (r5 : Int32 × Int32 × Int32 × Mem → Prop) (K : Int32 → Mem → Prop) (x2 : Int32) (x4 : Int32) (x5 : Int64) (s0 : Int32) (M : Mem) : Prop :=
  Lp (fun (r40 : Int32 × Int32 × Int64 × Int32 × Int32 × Mem → Prop) a => f_L_feed_c40 tx r5 K r40 a.1 a.2.1 a.2.2.1 a.2.2.2.1 a.2.2.2.2.1 a.2.2.2.2.2) (x2, x4, x5, s0, (s0 - (1 : Int32)), M)
def f_L_feed_c5 (tx : Nat) (K : Int32 → Mem → Prop) (r5 : Int32 × Int32 × Int32 × Mem → Prop) (x2 : Int32) (x3 : Int32) (x4 : Int32) (M : Mem) : Prop :=
  ((x2 ≤ x4) →
    K x3 M) ∧
  ((¬ x2 ≤ x4) →
    (((8 : Int32) ≤ (x2 - x4)) →
      f_L_feed_b32 tx r5 K x2 x4 (0 : Int64) (8 : Int32) M) ∧
    ((¬ (8 : Int32) ≤ (x2 - x4)) →
      f_L_feed_b32 tx r5 K x2 x4 (0 : Int64) (x2 - x4) M))
def f_L_feed (tx : Nat) (a3 : Int32) (M : Mem) (K : Int32 → Mem → Prop) : Prop :=
  Lp (fun (r5 : Int32 × Int32 × Int32 × Mem → Prop) a => f_L_feed_c5 tx K r5 a.1 a.2.1 a.2.2.1 a.2.2.2) (a3, (0 : Int32), (0 : Int32), M)
def f_L_lawa_b117 (L : Nat) (xs : Nat → Int32) (tx : Nat) (E : Int32 → Mem → Prop) (K : Int32 → Mem → Prop) (M : Mem) : Prop :=
  K (0 : Int32) M
def f_L_lawa_b53 (L : Nat) (xs : Nat → Int32) (tx : Nat) (E : Int32 → Mem → Prop) (K : Int32 → Mem → Prop) (x2 : Int32) (M : Mem) : Prop :=
  f_L_feed tx (6 : Int32) M (fun v1 M1 =>
    ((¬ v1 = (6 : Int32)) →
      f_L_lawa_b117 L xs tx E K M1) ∧
    ((v1 = (6 : Int32)) →
      f_X11_act (0 : Int32) M1 (fun v3 M3 =>
        ((¬ v3 = x2) →
          f_L_lawa_b117 L xs tx E K M3) ∧
        ((v3 = x2) →
          f_L_cell L xs x2 M3 (fun v5 M5 =>
            f_X11_term (x2 + (1 : Int32)) (0 : Int32) (v5 &&& (3 : Int32)) M5 (fun v6 M6 =>
              ((¬ v6 = 0) →
                f_L_lawa_b117 L xs tx E K M6) ∧
              ((v6 = 0) →
                f_L_cell L xs (4 : Int32) M6 (fun v8 M8 =>
                  f_X11_term (x2 + (1 : Int32)) (1 : Int32) ((v8.toUInt32 >>> (((4 : Int32) * x2).toUInt32 &&& Int32.toUInt32 31)).toInt32 &&& (7 : Int32)) M8 (fun v9 M9 =>
                    ((v9 = (5 : Int32)) →
                      E (x2 + (1 : Int32)) M9) ∧
                    ((¬ v9 = (5 : Int32)) →
                      f_L_lawa_b117 L xs tx E K M9))))))))))
def f_L_lawb_b202 (L : Nat) (xs : Nat → Int32) (E : Mem → Prop) (K : Int32 → Mem → Prop) (s0 : Int32) (s1 : Int32) (M : Mem) : Prop :=
  ((s1 = s0) →
    E M) ∧
  ((¬ s1 = s0) →
    K (0 : Int32) M)
def f_L_lawb_c129 (L : Nat) (xs : Nat → Int32) (E : Mem → Prop) (K : Int32 → Mem → Prop) (r129 : Int32 × Int32 × Mem → Prop) (x2 : Int32) (x3 : Int32) (M : Mem) : Prop :=
  (((6 : Int32) ≤ x3) →
    f_L_cell L xs (11 : Int32) M (fun v3 M3 =>
      f_X11_elect ((1 : Int32) + ((v3 &&& (2147483647 : Int32)) - (v3 &&& (2147483647 : Int32)) / (9 : Int32) * (9 : Int32))) M3 (fun v4 M4 =>
        ((x2 ≤ 0) →
          f_L_lawb_b202 L xs E K (0 : Int32) v4 M4) ∧
        ((¬ x2 ≤ 0) →
          f_L_lawb_b202 L xs E K ((1 : Int32) + ((v3 &&& (2147483647 : Int32)) - (v3 &&& (2147483647 : Int32)) / (9 : Int32) * (9 : Int32))) v4 M4)))) ∧
  ((¬ (6 : Int32) ≤ x3) →
    f_L_cell L xs ((5 : Int32) + x3) M (fun v6 M6 =>
      f_X11_votes x3 ((v6 &&& (2147483647 : Int32)) - (v6 &&& (2147483647 : Int32)) / (50 : Int32) * (50 : Int32)) M6 (fun v7 M7 =>
        ((v7 = 0) →
          r129 ((x2 + ((v6 &&& (2147483647 : Int32)) - (v6 &&& (2147483647 : Int32)) / (50 : Int32) * (50 : Int32))), (x3 + (1 : Int32)), M7)) ∧
        ((¬ v7 = 0) →
          K (0 : Int32) M7))))
def f_L_lawb_b125 (L : Nat) (xs : Nat → Int32) (E : Mem → Prop) (K : Int32 → Mem → Prop) (M : Mem) : Prop :=
  Lp (fun (r129 : Int32 × Int32 × Mem → Prop) a => f_L_lawb_c129 L xs E K r129 a.1 a.2.1 a.2.2) ((0 : Int32), (0 : Int32), M)
def f_L_lawc_b356 (L : Nat) (xs : Nat → Int32) (tx : Nat) (K : Int32 → Mem → Prop) (M : Mem) : Prop :=
  K (0 : Int32) M
def f_L_lawc_b358 (L : Nat) (xs : Nat → Int32) (tx : Nat) (r249 : Int32 × Mem → Prop) (r259 : Int32 × Int32 × Mem → Prop) (K : Int32 → Mem → Prop) (x5 : Int32) (x6 : Int32) (M : Mem) : Prop :=
  r259 (x5, (x6 + (1 : Int32)), M)
def f_L_lawc_b327 (L : Nat) (xs : Nat → Int32) (tx : Nat) (r249 : Int32 × Mem → Prop) (r259 : Int32 × Int32 × Mem → Prop) (K : Int32 → Mem → Prop) (x5 : Int32) (x6 : Int32) (x7 : Int32) (x8 : Int32) (M : Mem) : Prop :=
  f_X11_votes x5 x7 M (fun v10 M10 =>
    ((¬ v10 = 0) →
      f_L_lawc_b356 L xs tx K M10) ∧
    ((v10 = 0) →
      ((x5 = x6) →
        f_L_lawc_b358 L xs tx r249 r259 K x5 x6 M10) ∧
      ((¬ x5 = x6) →
        f_X11_votes x6 x8 M10 (fun v13 M13 =>
          ((v13 = 0) →
            f_L_lawc_b358 L xs tx r249 r259 K x5 x6 M13) ∧
          ((¬ v13 = 0) →
            f_L_lawc_b356 L xs tx K M13)))))
def f_L_lawc_b294 (L : Nat) (xs : Nat → Int32) (tx : Nat) (r249 : Int32 × Mem → Prop) (r259 : Int32 × Int32 × Mem → Prop) (K : Int32 → Mem → Prop) (x5 : Int32) (x6 : Int32) (x7 : Int32) (s0 : Int32) (M : Mem) : Prop :=
  vp_in x6 6 ∧
  (((M tx x6.toNatClampNeg) ≤ 0) →
    f_L_lawc_b327 L xs tx r249 r259 K x5 x6 x7 s0 M) ∧
  ((¬ (M tx x6.toNatClampNeg) ≤ 0) →
    vp_in x6 6 ∧
    vp_in x5 6 ∧
    (((x7 * (M tx x6.toNatClampNeg)) ≤ (s0 * ((M tx x5.toNatClampNeg) + (1 : Int32)))) →
      f_L_lawc_b327 L xs tx r249 r259 K x5 x6 x7 s0 M) ∧
    ((¬ (x7 * (M tx x6.toNatClampNeg)) ≤ (s0 * ((M tx x5.toNatClampNeg) + (1 : Int32)))) →
      K (0 : Int32) M))
def f_L_lawc_c259 (L : Nat) (xs : Nat → Int32) (tx : Nat) (r249 : Int32 × Mem → Prop) (K : Int32 → Mem → Prop) (r259 : Int32 × Int32 × Mem → Prop) (x5 : Int32) (x6 : Int32) (M : Mem) : Prop :=
  (((6 : Int32) ≤ x6) →
    r249 ((x5 + (1 : Int32)), M)) ∧
  ((¬ (6 : Int32) ≤ x6) →
    f_X11_votes x5 (0 : Int32) M (fun v21 M21 =>
      ((¬ x5 = x6) →
        f_X11_votes x6 (0 : Int32) M21 (fun v23 M23 =>
          f_L_lawc_b294 L xs tx r249 r259 K x5 x6 v21 v23 M23)) ∧
      ((x5 = x6) →
        f_L_lawc_b294 L xs tx r249 r259 K x5 x6 v21 v21 M21)))
def f_L_lawc_b584 (L : Nat) (xs : Nat → Int32) (tx : Nat) (r379 : Int32 × Int32 × Int32 × Mem → Prop) (K : Int32 → Mem → Prop) (x5 : Int32) (x6 : Int32) (x7 : Int32) (M : Mem) : Prop :=
  r379 (x5, x6, (x7 + (1 : Int32)), M)
def f_L_lawc_b460 (L : Nat) (xs : Nat → Int32) (tx : Nat) (r379 : Int32 × Int32 × Int32 × Mem → Prop) (K : Int32 → Mem → Prop) (x5 : Int32) (x6 : Int32) (x7 : Int32) (x8 : Int32) (M : Mem) : Prop :=
  f_X11_open ((x8 / (3 : Int32)) - (x8 / (3 : Int32)) / (5 : Int32) * (5 : Int32)) ((1 : Int32) + ((x8 / (15 : Int32)) - (x8 / (15 : Int32)) / (63 : Int32) * (63 : Int32))) ((x8 / (1000 : Int32)) - (x8 / (1000 : Int32)) / (9 : Int32) * (9 : Int32)) (0 : Int32) M (fun v24 M24 =>
    ((v24 = x6) →
      f_L_lawc_b584 L xs tx r379 K x5 (x6 + (1 : Int32)) x7 M24) ∧
    ((¬ v24 = x6) →
      K (0 : Int32) M24))
def f_L_lawc_b582 (L : Nat) (xs : Nat → Int32) (tx : Nat) (K : Int32 → Mem → Prop) (M : Mem) : Prop :=
  K (0 : Int32) M
def f_L_lawc_b558 (L : Nat) (xs : Nat → Int32) (tx : Nat) (r379 : Int32 × Int32 × Int32 × Mem → Prop) (K : Int32 → Mem → Prop) (x5 : Int32) (x6 : Int32) (x7 : Int32) (x10 : Int32) (s0 : Int32) (M : Mem) : Prop :=
  ((¬ x10 = (1 : Int32)) →
    (((1 : Int32) ≤ s0) →
      f_L_lawc_b584 L xs tx r379 K x5 x6 x7 M) ∧
    ((¬ (1 : Int32) ≤ s0) →
      f_L_lawc_b582 L xs tx K M)) ∧
  ((x10 = (1 : Int32)) →
    ((s0 = (-3 : Int32)) →
      f_L_lawc_b584 L xs tx r379 K x5 x6 x7 M) ∧
    ((¬ s0 = (-3 : Int32)) →
      f_L_lawc_b582 L xs tx K M))
def f_L_lawc_b447 (L : Nat) (xs : Nat → Int32) (tx : Nat) (r379 : Int32 × Int32 × Int32 × Mem → Prop) (K : Int32 → Mem → Prop) (x5 : Int32) (x6 : Int32) (x7 : Int32) (x8 : Int32) (M : Mem) : Prop :=
  (((x8 - x8 / (3 : Int32) * (3 : Int32)) = (1 : Int32)) →
    f_L_lawc_b460 L xs tx r379 K x5 x6 x7 x8 M) ∧
  ((¬ (x8 - x8 / (3 : Int32) * (3 : Int32)) = (1 : Int32)) →
    ((¬ x6 = 0) →
      ¬ x6 = 0 ∧
      f_X11_state ((x8 / (3 : Int32)) - (x8 / (3 : Int32)) / x6 * x6) x5 x5 M (fun v32 M32 =>
        ((¬ ((x8.toUInt32 >>> ((20 : Int32).toUInt32 &&& Int32.toUInt32 31)).toInt32 &&& (7 : Int32)) = 0) →
          f_X11_paper ((x8 / (3 : Int32)) - (x8 / (3 : Int32)) / x6 * x6) ((x8.toUInt32 >>> ((24 : Int32).toUInt32 &&& Int32.toUInt32 31)).toInt32 &&& (1 : Int32)) (1 : Int32) M32 (fun v34 M34 =>
            f_L_lawc_b558 L xs tx r379 K x5 x6 x7 v32 v34 M34)) ∧
        ((((x8.toUInt32 >>> ((20 : Int32).toUInt32 &&& Int32.toUInt32 31)).toInt32 &&& (7 : Int32)) = 0) →
          f_X11_withdraw ((x8 / (3 : Int32)) - (x8 / (3 : Int32)) / x6 * x6) M32 (fun v35 M35 =>
            f_L_lawc_b558 L xs tx r379 K x5 x6 x7 v32 v35 M35)))) ∧
    ((x6 = 0) →
      f_L_lawc_b460 L xs tx r379 K x5 x6 x7 x8 M))
def f_L_lawc_b654 (L : Nat) (xs : Nat → Int32) (tx : Nat) (r628 : Int32 × Int32 × Int32 × Int32 × Int32 × Int32 × Mem → Prop) (K : Int32 → Mem → Prop) (x5 : Int32) (x6 : Int32) (x7 : Int32) (x8 : Int32) (x10 : Int32) (s0 : Int32) (s1 : Int32) (M : Mem) : Prop :=
  r628 (x5, x6, x7, x8, (s1 + s0), (x10 + (1 : Int32)), M)
def f_L_lawc_b727 (L : Nat) (xs : Nat → Int32) (tx : Nat) (r682 : Int32 × Int32 × Int32 × Int32 × Int32 × Int32 × Int32 × Mem → Prop) (r691 : Int32 × Int32 × Int32 × Int32 × Int32 × Int32 × Int32 × Int32 × Mem → Prop) (K : Int32 → Mem → Prop) (x5 : Int32) (x6 : Int32) (x7 : Int32) (x8 : Int32) (x9 : Int32) (x10 : Int32) (x11 : Int32) (x12 : Int32) (s0 : Int32) (s1 : Int32) (M : Mem) : Prop :=
  f_X11_put (s1 + s0) M (fun v36 M36 =>
    ((v36 = (x12 + (1 : Int32))) →
      r691 (x5, x6, x7, x8, x9, x10, x11, (x12 + (1 : Int32)), M36)) ∧
    ((¬ v36 = (x12 + (1 : Int32))) →
      K (0 : Int32) M36))
def f_L_lawc_b726 (L : Nat) (xs : Nat → Int32) (tx : Nat) (r682 : Int32 × Int32 × Int32 × Int32 × Int32 × Int32 × Int32 × Mem → Prop) (r691 : Int32 × Int32 × Int32 × Int32 × Int32 × Int32 × Int32 × Int32 × Mem → Prop) (K : Int32 → Mem → Prop) (x5 : Int32) (x6 : Int32) (x7 : Int32) (x8 : Int32) (x9 : Int32) (x10 : Int32) (x11 : Int32) (x12 : Int32) (s0 : Int32) (M : Mem) : Prop :=
  f_L_lawc_b727 L xs tx r682 r691 K x5 x6 x7 x8 x9 x10 x11 x12 (0 : Int32) s0 M
def f_L_lawc_b786 (L : Nat) (xs : Nat → Int32) (tx : Nat) (K : Int32 → Mem → Prop) (M : Mem) : Prop :=
  K (0 : Int32) M
def f_L_lawc_b774 (L : Nat) (xs : Nat → Int32) (tx : Nat) (r682 : Int32 × Int32 × Int32 × Int32 × Int32 × Int32 × Int32 × Mem → Prop) (K : Int32 → Mem → Prop) (x5 : Int32) (x6 : Int32) (x7 : Int32) (x8 : Int32) (x9 : Int32) (x10 : Int32) (x11 : Int32) (s0 : Int32) (s1 : Int32) (M : Mem) : Prop :=
  ((¬ s1 = s0) →
    f_L_lawc_b786 L xs tx K M) ∧
  ((s1 = s0) →
    f_X11_count (10 : Int32) M (fun v39 M39 =>
      ((v39 = 0) →
        r682 (x5, x6, x7, x8, x9, x10, (x11 + (1 : Int32)), M39)) ∧
      ((¬ v39 = 0) →
        f_L_lawc_b786 L xs tx K M39)))
def f_L_lawc_b772 (L : Nat) (xs : Nat → Int32) (tx : Nat) (r682 : Int32 × Int32 × Int32 × Int32 × Int32 × Int32 × Int32 × Mem → Prop) (K : Int32 → Mem → Prop) (x5 : Int32) (x6 : Int32) (x7 : Int32) (x8 : Int32) (x9 : Int32) (x10 : Int32) (x11 : Int32) (s0 : Int32) (M : Mem) : Prop :=
  f_L_lawc_b774 L xs tx r682 K x5 x6 x7 x8 x9 x10 x11 (-9 : Int32) s0 M
def f_L_lawc_c691 (L : Nat) (xs : Nat → Int32) (tx : Nat) (r682 : Int32 × Int32 × Int32 × Int32 × Int32 × Int32 × Int32 × Mem → Prop) (K : Int32 → Mem → Prop) (r691 : Int32 × Int32 × Int32 × Int32 × Int32 × Int32 × Int32 × Int32 × Mem → Prop) (x5 : Int32) (x6 : Int32) (x7 : Int32) (x8 : Int32) (x9 : Int32) (x10 : Int32) (x11 : Int32) (x12 : Int32) (M : Mem) : Prop :=
  ((x9 ≤ x12) →
    f_X11_check x8 x7 M (fun v42 M42 =>
      ((¬ x11 = (1 : Int32)) →
        f_L_lawc_b772 L xs tx r682 K x5 x6 x7 x8 x9 x10 x11 v42 M42) ∧
      ((x11 = (1 : Int32)) →
        ((x9 ≤ x10) →
          f_L_lawc_b772 L xs tx r682 K x5 x6 x7 x8 x9 x10 x11 v42 M42) ∧
        ((¬ x9 ≤ x10) →
          f_L_lawc_b774 L xs tx r682 K x5 x6 x7 x8 x9 x10 x11 x10 v42 M42)))) ∧
  ((¬ x9 ≤ x12) →
    f_X11_state x12 x8 x7 M (fun v45 M45 =>
      ((¬ x11 = (1 : Int32)) →
        f_L_lawc_b726 L xs tx r682 r691 K x5 x6 x7 x8 x9 x10 x11 x12 v45 M45) ∧
      ((x11 = (1 : Int32)) →
        ((¬ x12 = x10) →
          f_L_lawc_b726 L xs tx r682 r691 K x5 x6 x7 x8 x9 x10 x11 x12 v45 M45) ∧
        ((x12 = x10) →
          f_L_lawc_b727 L xs tx r682 r691 K x5 x6 x7 x8 x9 x10 x11 x12 (1 : Int32) v45 M45))))
def f_L_lawc_b886 (L : Nat) (xs : Nat → Int32) (tx : Nat) (K : Int32 → Mem → Prop) (s0 : Int32) (M : Mem) : Prop :=
  bz s0 ∧ K s0 M
def f_L_lawc_b885 (L : Nat) (xs : Nat → Int32) (tx : Nat) (K : Int32 → Mem → Prop) (M : Mem) : Prop :=
  f_L_lawc_b886 L xs tx K (0 : Int32) M
def f_L_lawc_c797 (L : Nat) (xs : Nat → Int32) (tx : Nat) (K : Int32 → Mem → Prop) (r797 : Int32 × Int32 × Int32 × Int32 × Int32 × Int32 × Mem → Prop) (x5 : Int32) (x6 : Int32) (x7 : Int32) (x8 : Int32) (x9 : Int32) (x11 : Int32) (M : Mem) : Prop :=
  ((x9 ≤ x11) →
    f_X11_put (0 : Int32) M (fun v50 M50 =>
      ((¬ v50 = (1 : Int32)) →
        f_L_lawc_b885 L xs tx K M50) ∧
      ((v50 = (1 : Int32)) →
        f_X11_check (x5 + (1 : Int32)) (x5 + (1 : Int32)) M50 (fun v52 M52 =>
          ((¬ v52 = (-3 : Int32)) →
            f_L_lawc_b885 L xs tx K M52) ∧
          ((v52 = (-3 : Int32)) →
            f_X11_count (10 : Int32) M52 (fun v54 M54 =>
              ((¬ v54 = (1 : Int32)) →
                f_L_lawc_b885 L xs tx K M54) ∧
              ((v54 = (1 : Int32)) →
                f_X11_count (3 : Int32) M54 (fun v56 M56 =>
                  ((¬ v56 = x6) →
                    f_L_lawc_b885 L xs tx K M56) ∧
                  ((v56 = x6) →
                    f_L_lawc_b886 L xs tx K (1 : Int32) M56))))))))) ∧
  ((¬ x9 ≤ x11) →
    f_X11_state x11 x8 x7 M (fun v58 M58 =>
      f_X11_state x11 x8 x5 M58 (fun v59 M59 =>
        ((v58 = v59) →
          r797 (x5, x6, x7, x8, x9, (x11 + (1 : Int32)), M59)) ∧
        ((¬ v58 = v59) →
          K (0 : Int32) M59))))
def f_L_lawc_c682 (L : Nat) (xs : Nat → Int32) (tx : Nat) (K : Int32 → Mem → Prop) (r682 : Int32 × Int32 × Int32 × Int32 × Int32 × Int32 × Int32 × Mem → Prop) (x5 : Int32) (x6 : Int32) (x7 : Int32) (x8 : Int32) (x9 : Int32) (x10 : Int32) (x11 : Int32) (M : Mem) : Prop :=
  (((2 : Int32) ≤ x11) →
    Lp (fun (r797 : Int32 × Int32 × Int32 × Int32 × Int32 × Int32 × Mem → Prop) a => f_L_lawc_c797 L xs tx K r797 a.1 a.2.1 a.2.2.1 a.2.2.2.1 a.2.2.2.2.1 a.2.2.2.2.2.1 a.2.2.2.2.2.2) (x5, x6, x7, x8, x9, (0 : Int32), M)) ∧
  ((¬ (2 : Int32) ≤ x11) →
    Lp (fun (r691 : Int32 × Int32 × Int32 × Int32 × Int32 × Int32 × Int32 × Int32 × Mem → Prop) a => f_L_lawc_c691 L xs tx r682 K r691 a.1 a.2.1 a.2.2.1 a.2.2.2.1 a.2.2.2.2.1 a.2.2.2.2.2.1 a.2.2.2.2.2.2.1 a.2.2.2.2.2.2.2.1 a.2.2.2.2.2.2.2.2) (x5, x6, x7, x8, x9, x10, x11, (0 : Int32), M))
def f_L_lawc_c628 (L : Nat) (xs : Nat → Int32) (tx : Nat) (K : Int32 → Mem → Prop) (r628 : Int32 × Int32 × Int32 × Int32 × Int32 × Int32 × Mem → Prop) (x5 : Int32) (x6 : Int32) (x7 : Int32) (x8 : Int32) (x9 : Int32) (x10 : Int32) (M : Mem) : Prop :=
  ((x6 ≤ x10) →
    f_L_cell L xs (32 : Int32) M (fun v63 M63 =>
      ¬ (x9 + (2 : Int32)) = 0 ∧
      Lp (fun (r682 : Int32 × Int32 × Int32 × Int32 × Int32 × Int32 × Int32 × Mem → Prop) a => f_L_lawc_c682 L xs tx K r682 a.1 a.2.1 a.2.2.1 a.2.2.2.1 a.2.2.2.2.1 a.2.2.2.2.2.1 a.2.2.2.2.2.2.1 a.2.2.2.2.2.2.2) (x5, x6, x7, x8, x9, ((v63 &&& (2147483647 : Int32)) - (v63 &&& (2147483647 : Int32)) / (x9 + (2 : Int32)) * (x9 + (2 : Int32))), (0 : Int32), M63))) ∧
  ((¬ x6 ≤ x10) →
    f_X11_matterOf x10 (1 : Int32) M (fun v65 M65 =>
      ((x8 < v65) →
        f_L_lawc_b654 L xs tx r628 K x5 x6 x7 x8 x10 (0 : Int32) x9 M65) ∧
      ((¬ x8 < v65) →
        f_L_lawc_b654 L xs tx r628 K x5 x6 x7 x8 x10 (1 : Int32) x9 M65)))
def f_L_lawc_c379 (L : Nat) (xs : Nat → Int32) (tx : Nat) (K : Int32 → Mem → Prop) (r379 : Int32 × Int32 × Int32 × Mem → Prop) (x5 : Int32) (x6 : Int32) (x7 : Int32) (M : Mem) : Prop :=
  (((16 : Int32) ≤ x7) →
    f_L_cell L xs (30 : Int32) M (fun v68 M68 =>
      ¬ (x5 + (1 : Int32)) = 0 ∧
      f_L_cell L xs (31 : Int32) M68 (fun v70 M70 =>
        ¬ (((v68 &&& (2147483647 : Int32)) - (v68 &&& (2147483647 : Int32)) / (x5 + (1 : Int32)) * (x5 + (1 : Int32))) + (1 : Int32)) = 0 ∧
        Lp (fun (r628 : Int32 × Int32 × Int32 × Int32 × Int32 × Int32 × Mem → Prop) a => f_L_lawc_c628 L xs tx K r628 a.1 a.2.1 a.2.2.1 a.2.2.2.1 a.2.2.2.2.1 a.2.2.2.2.2.1 a.2.2.2.2.2.2) (x5, x6, ((v68 &&& (2147483647 : Int32)) - (v68 &&& (2147483647 : Int32)) / (x5 + (1 : Int32)) * (x5 + (1 : Int32))), ((v70 &&& (2147483647 : Int32)) - (v70 &&& (2147483647 : Int32)) / (((v68 &&& (2147483647 : Int32)) - (v68 &&& (2147483647 : Int32)) / (x5 + (1 : Int32)) * (x5 + (1 : Int32))) + (1 : Int32)) * (((v68 &&& (2147483647 : Int32)) - (v68 &&& (2147483647 : Int32)) / (x5 + (1 : Int32)) * (x5 + (1 : Int32))) + (1 : Int32))), (0 : Int32), (0 : Int32), M70)))) ∧
  ((¬ (16 : Int32) ≤ x7) →
    f_L_cell L xs ((12 : Int32) + x7) M (fun v72 M72 =>
      ((¬ ((v72 &&& (2147483647 : Int32)) - (v72 &&& (2147483647 : Int32)) / (3 : Int32) * (3 : Int32)) = 0) →
        f_L_lawc_b447 L xs tx r379 K x5 x6 x7 (v72 &&& (2147483647 : Int32)) M72) ∧
      ((((v72 &&& (2147483647 : Int32)) - (v72 &&& (2147483647 : Int32)) / (3 : Int32) * (3 : Int32)) = 0) →
        (((900 : Int32) ≤ x5) →
          f_L_lawc_b447 L xs tx r379 K x5 x6 x7 (v72 &&& (2147483647 : Int32)) M72) ∧
        ((¬ (900 : Int32) ≤ x5) →
          f_X11_count (0 : Int32) M72 (fun v75 M75 =>
            f_X11_days ((x5 + ((1 : Int32) + (((v72 &&& (2147483647 : Int32)) / (3 : Int32)) - ((v72 &&& (2147483647 : Int32)) / (3 : Int32)) / (4 : Int32) * (4 : Int32)))) - v75) M75 (fun v76 M76 =>
              ((v76 = (x5 + ((1 : Int32) + (((v72 &&& (2147483647 : Int32)) / (3 : Int32)) - ((v72 &&& (2147483647 : Int32)) / (3 : Int32)) / (4 : Int32) * (4 : Int32))))) →
                f_L_lawc_b584 L xs tx r379 K (x5 + ((1 : Int32) + (((v72 &&& (2147483647 : Int32)) / (3 : Int32)) - ((v72 &&& (2147483647 : Int32)) / (3 : Int32)) / (4 : Int32) * (4 : Int32)))) x6 x7 M76) ∧
              ((¬ v76 = (x5 + ((1 : Int32) + (((v72 &&& (2147483647 : Int32)) / (3 : Int32)) - ((v72 &&& (2147483647 : Int32)) / (3 : Int32)) / (4 : Int32) * (4 : Int32))))) →
                K (0 : Int32) M76)))))))
def f_L_lawc_c249 (L : Nat) (xs : Nat → Int32) (tx : Nat) (K : Int32 → Mem → Prop) (r249 : Int32 × Mem → Prop) (x5 : Int32) (M : Mem) : Prop :=
  (((6 : Int32) ≤ x5) →
    Lp (fun (r379 : Int32 × Int32 × Int32 × Mem → Prop) a => f_L_lawc_c379 L xs tx K r379 a.1 a.2.1 a.2.2.1 a.2.2.2) ((0 : Int32), (0 : Int32), (0 : Int32), M)) ∧
  ((¬ (6 : Int32) ≤ x5) →
    Lp (fun (r259 : Int32 × Int32 × Mem → Prop) a => f_L_lawc_c259 L xs tx r249 K r259 a.1 a.2.1 a.2.2) (x5, (0 : Int32), M))
def f_L_lawc_c216 (L : Nat) (xs : Nat → Int32) (tx : Nat) (K : Int32 → Mem → Prop) (r216 : Int32 × Mem → Prop) (x5 : Int32) (M : Mem) : Prop :=
  f_X11_count (4 : Int32) M (fun v79 M79 =>
    ((v79 ≤ x5) →
      Lp (fun (r249 : Int32 × Mem → Prop) a => f_L_lawc_c249 L xs tx K r249 a.1 a.2) ((0 : Int32), M79)) ∧
    ((¬ v79 ≤ x5) →
      f_X11_seat x5 (0 : Int32) M79 (fun v81 M81 =>
        vp_in v81 6 ∧
        vp_in v81 6 ∧
        r216 ((x5 + (1 : Int32)), (mset M81 tx v81.toNatClampNeg ((M81 tx v81.toNatClampNeg) + (1 : Int32)))))))
def f_L_lawc_b213 (L : Nat) (xs : Nat → Int32) (tx : Nat) (K : Int32 → Mem → Prop) (M : Mem) : Prop :=
  Lp (fun (r216 : Int32 × Mem → Prop) a => f_L_lawc_c216 L xs tx K r216 a.1 a.2) ((0 : Int32), M)
