def f_X11_refuse_b21 (K : Int32 → Mem → Prop) (x1 : Int32) (M : Mem) : Prop :=
  K x1 M
def f_X11_refuse (a1 : Int32) (M : Mem) (K : Int32 → Mem → Prop) : Prop :=
  ((0 ≤ a1) →
    f_X11_refuse_b21 K a1 M) ∧
  ((¬ 0 ≤ a1) →
    ((a1 < (-6 : Int32)) →
      f_X11_refuse_b21 K a1 M) ∧
    ((¬ a1 < (-6 : Int32)) →
      vp_in (-a1) 7 ∧
      vp_in (-a1) 7 ∧
      f_X11_refuse_b21 K a1 (mset M 126 ((-a1).toNatClampNeg) ((M 126 ((-a1).toNatClampNeg)) + (1 : Int32)))))
def f_X11_days (a1 : Int32) (M : Mem) (K : Int32 → Mem → Prop) : Prop :=
  (((1 : Int32) ≤ a1) →
    ((a1 ≤ ((1000 : Int32) - (M 1 0))) →
      K ((M 1 0) + a1) (mset M 1 0 ((M 1 0) + a1))) ∧
    ((¬ a1 ≤ ((1000 : Int32) - (M 1 0))) →
      f_X11_refuse (-6 : Int32) M (fun v3 M3 =>
        K v3 M3))) ∧
  ((¬ (1 : Int32) ≤ a1) →
    f_X11_refuse (-4 : Int32) M (fun v4 M4 =>
      K v4 M4))
def f_X11_outside_b21 (K : Int32 → Mem → Prop) (s0 : Int32) (M : Mem) : Prop :=
  K s0 M
def f_X11_outside (a1 : Int32) (a2 : Int32) (a3 : Int32) (M : Mem) (K : Int32 → Mem → Prop) : Prop :=
  ((a2 ≤ a1) →
    ((a1 ≤ a3) →
      f_X11_outside_b21 K (0 : Int32) M) ∧
    ((¬ a1 ≤ a3) →
      f_X11_outside_b21 K (-6 : Int32) M)) ∧
  ((¬ a2 ≤ a1) →
    f_X11_outside_b21 K (-4 : Int32) M)
def f_X3_tellFeast_b20 (K : Int32 → Mem → Prop) (M : Mem) : Prop :=
  K (0 : Int32) M
def f_X3_tellFeast_b62 (K : Int32 → Mem → Prop) (M : Mem) : Prop :=
  K (1 : Int32) M
def f_X3_tellFeast_c39 (K : Int32 → Mem → Prop) (r39 : Int32 × Mem → Prop) (x2 : Int32) (M : Mem) : Prop :=
  (((1000 : Int32) < x2) →
    f_X3_tellFeast_b62 K M) ∧
  ((¬ (1000 : Int32) < x2) →
    vp_in x2 1001 ∧
    vp_in x2 1001 ∧
    r39 ((x2 + (1 : Int32)), (mset M 3 x2.toNatClampNeg ((M 3 x2.toNatClampNeg) - (1 : Int32)))))
def f_X3_tellFeast (a1 : Int32) (M : Mem) (K : Int32 → Mem → Prop) : Prop :=
  ((a1 < 0) →
    f_X3_tellFeast_b20 K M) ∧
  ((¬ a1 < 0) →
    (((1000 : Int32) < a1) →
      f_X3_tellFeast_b20 K M) ∧
    ((¬ (1000 : Int32) < a1) →
      vp_in a1 1001 ∧
      (((M 2 a1.toNatClampNeg) = 0) →
        vp_in a1 1001 ∧
        (((5 : Int32) ≤ (a1 - a1 / (7 : Int32) * (7 : Int32))) →
          f_X3_tellFeast_b62 K (mset M 2 a1.toNatClampNeg (1 : Int32))) ∧
        ((¬ (5 : Int32) ≤ (a1 - a1 / (7 : Int32) * (7 : Int32))) →
          Lp (fun (r39 : Int32 × Mem → Prop) a => f_X3_tellFeast_c39 K r39 a.1 a.2) (a1, (mset M 2 a1.toNatClampNeg (1 : Int32))))) ∧
      ((¬ (M 2 a1.toNatClampNeg) = 0) →
        f_X3_tellFeast_b20 K M)))
def f_X11_feast_b35 (K : Int32 → Mem → Prop) (s0 : Int32) (M : Mem) : Prop :=
  K s0 M
def f_X11_feast (a1 : Int32) (M : Mem) (K : Int32 → Mem → Prop) : Prop :=
  f_X11_outside a1 (0 : Int32) (1000 : Int32) M (fun v1 M1 =>
    ((v1 = 0) →
      f_X3_tellFeast a1 M1 (fun v3 M3 =>
        ((v3 = 0) →
          f_X11_feast_b35 K (0 : Int32) M3) ∧
        ((¬ v3 = 0) →
          f_X11_feast_b35 K (1 : Int32) M3))) ∧
    ((¬ v1 = 0) →
      f_X11_refuse v1 M1 (fun v5 M5 =>
        K v5 M5)))
def f_X11_worse_b22 (K : Int32 → Mem → Prop) (s0 : Int32) (M : Mem) : Prop :=
  K s0 M
def f_X11_worse_b12 (K : Int32 → Mem → Prop) (M : Mem) : Prop :=
  f_X11_worse_b22 K (-4 : Int32) M
def f_X11_worse (a1 : Int32) (a2 : Int32) (M : Mem) (K : Int32 → Mem → Prop) : Prop :=
  ((a1 = (-4 : Int32)) →
    f_X11_worse_b12 K M) ∧
  ((¬ a1 = (-4 : Int32)) →
    ((¬ a2 = (-4 : Int32)) →
      f_X11_worse_b22 K (if a2 < a1 then a2 else a1) M) ∧
    ((a2 = (-4 : Int32)) →
      f_X11_worse_b12 K M))
def f_X3_workdaysBehind_b16 (K : Int32 → Mem → Prop) (M : Mem) : Prop :=
  K (0 : Int32) M
def f_X3_workdaysBehind (a1 : Int32) (a2 : Int32) (M : Mem) (K : Int32 → Mem → Prop) : Prop :=
  ((a1 < 0) →
    f_X3_workdaysBehind_b16 K M) ∧
  ((¬ a1 < 0) →
    (((1000 : Int32) < a2) →
      f_X3_workdaysBehind_b16 K M) ∧
    ((¬ (1000 : Int32) < a2) →
      ((a1 < a2) →
        vp_in a2 1001 ∧
        vp_in a1 1001 ∧
        K ((M 3 a2.toNatClampNeg) - (M 3 a1.toNatClampNeg)) M) ∧
      ((¬ a1 < a2) →
        f_X3_workdaysBehind_b16 K M)))
def f_X11_workdays (a1 : Int32) (a2 : Int32) (M : Mem) (K : Int32 → Mem → Prop) : Prop :=
  f_X11_outside a1 (0 : Int32) (1000 : Int32) M (fun v1 M1 =>
    f_X11_outside a2 (0 : Int32) (1000 : Int32) M1 (fun v2 M2 =>
      f_X11_worse v1 v2 M2 (fun v3 M3 =>
        ((v3 = 0) →
          f_X3_workdaysBehind a1 a2 M3 (fun v5 M5 =>
            K v5 M5)) ∧
        ((¬ v3 = 0) →
          f_X11_refuse v3 M3 (fun v6 M6 =>
            K v6 M6)))))
def f_X11_isShop_b15 (K : Int32 → Mem → Prop) (s0 : Int32) (M : Mem) : Prop :=
  bz s0 ∧ K s0 M
def f_X11_isShop_b14 (K : Int32 → Mem → Prop) (M : Mem) : Prop :=
  f_X11_isShop_b15 K (0 : Int32) M
def f_X11_isShop (a1 : Int32) (M : Mem) (K : Int32 → Mem → Prop) : Prop :=
  ((a1 < 0) →
    f_X11_isShop_b14 K M) ∧
  ((¬ a1 < 0) →
    (((6 : Int32) ≤ a1) →
      f_X11_isShop_b14 K M) ∧
    ((¬ (6 : Int32) ≤ a1) →
      f_X11_isShop_b15 K (1 : Int32) M))
def f_X11_fullAt_b11 (K : Int32 → Mem → Prop) (s0 : Int32) (M : Mem) : Prop :=
  K s0 M
def f_X11_fullAt (a1 : Int32) (a2 : Int32) (M : Mem) (K : Int32 → Mem → Prop) : Prop :=
  ((a1 < a2) →
    f_X11_fullAt_b11 K (0 : Int32) M) ∧
  ((¬ a1 < a2) →
    f_X11_fullAt_b11 K (-6 : Int32) M)
def f_X8_forget (M : Mem) (K : Mem → Prop) : Prop :=
  K (mset M 81 15 (0 : Int32))
def f_X9_add (a1 : Int32) (a2 : Int32) (a3 : Int32) (a4 : Int32) (a5 : Int32) (M : Mem) (K : Int32 → Mem → Prop) : Prop :=
  (((M 4 0) < (24 : Int32)) →
    vp_in (M 4 0) 24 ∧
    vp_in (M 4 0) 24 ∧
    vp_in (M 4 0) 24 ∧
    vp_in (M 4 0) 24 ∧
    vp_in (M 4 0) 24 ∧
    vp_in (M 4 0) 24 ∧
    vp_in (M 4 0) 24 ∧
    vp_in (M 4 0) 24 ∧
    K (((M 4 0) + (1 : Int32)) - (1 : Int32)) (mset (mset (mset (mset (mset (mset (mset (mset (mset M 5 ((M 4 0).toNatClampNeg) a1) 6 ((M 4 0).toNatClampNeg) (1 : Int32)) 7 ((M 4 0).toNatClampNeg) a2) 8 ((M 4 0).toNatClampNeg) a3) 9 ((M 4 0).toNatClampNeg) a4) 10 ((M 4 0).toNatClampNeg) a5) 11 ((M 4 0).toNatClampNeg) a4) 12 ((M 4 0).toNatClampNeg) a5) 4 0 ((M 4 0) + (1 : Int32)))) ∧
  ((¬ (M 4 0) < (24 : Int32)) →
    K (-6 : Int32) M)
def f_X11_person (a1 : Int32) (a2 : Int32) (a3 : Int32) (a4 : Int32) (a5 : Int32) (M : Mem) (K : Int32 → Mem → Prop) : Prop :=
  f_X11_isShop a1 M (fun v1 M1 =>
    ((¬ v1 = 0) →
      f_X11_outside a2 (-25000 : Int32) (-5000 : Int32) M1 (fun v3 M3 =>
        f_X11_outside a3 (-15000 : Int32) (M3 1 0) M3 (fun v4 M4 =>
          f_X11_worse v3 v4 M4 (fun v5 M5 =>
            f_X11_outside a4 (0 : Int32) (9 : Int32) M5 (fun v6 M6 =>
              f_X11_outside a5 (0 : Int32) (100 : Int32) M6 (fun v7 M7 =>
                f_X11_worse v6 v7 M7 (fun v8 M8 =>
                  f_X11_worse v5 v8 M8 (fun v9 M9 =>
                    f_X11_fullAt (M9 4 0) (24 : Int32) M9 (fun v10 M10 =>
                      f_X11_worse v9 v10 M10 (fun v11 M11 =>
                        ((v11 = 0) →
                          f_X8_forget M11 (fun M13 =>
                            f_X9_add a1 a2 a3 a4 a5 M13 (fun v14 M14 =>
                              K v14 M14))) ∧
                        ((¬ v11 = 0) →
                          f_X11_refuse v11 M11 (fun v15 M15 =>
                            K v15 M15)))))))))))) ∧
    ((v1 = 0) →
      f_X11_refuse (-1 : Int32) M1 (fun v16 M16 =>
        K v16 M16)))
def f_X9_has_b23 (K : Int32 → Mem → Prop) (s0 : Int32) (M : Mem) : Prop :=
  bz s0 ∧ K s0 M
def f_X9_has_b22 (K : Int32 → Mem → Prop) (M : Mem) : Prop :=
  f_X9_has_b23 K (0 : Int32) M
def f_X9_has (a1 : Int32) (M : Mem) (K : Int32 → Mem → Prop) : Prop :=
  ((a1 < 0) →
    f_X9_has_b22 K M) ∧
  ((¬ a1 < 0) →
    (((M 4 0) ≤ a1) →
      f_X9_has_b22 K M) ∧
    ((¬ (M 4 0) ≤ a1) →
      (((24 : Int32) ≤ a1) →
        f_X9_has_b22 K M) ∧
      ((¬ (24 : Int32) ≤ a1) →
        f_X9_has_b23 K (1 : Int32) M)))
def f_X11_leave (a1 : Int32) (M : Mem) (K : Int32 → Mem → Prop) : Prop :=
  f_X9_has a1 M (fun v3 M3 =>
    ((¬ v3 = 0) →
      vp_in a1 24 ∧
      ((¬ (M3 6 a1.toNatClampNeg) = 0) →
        vp_in a1 24 ∧
        f_X8_forget (mset M3 6 a1.toNatClampNeg (0 : Int32)) (fun M8 =>
          K (1 : Int32) M8)) ∧
      (((M3 6 a1.toNatClampNeg) = 0) →
        f_X11_refuse (-3 : Int32) M3 (fun v9 M9 =>
          K v9 M9))) ∧
    ((v3 = 0) →
      f_X11_refuse (-1 : Int32) M3 (fun v10 M10 =>
        K v10 M10)))
def f_X0_fed (M : Mem) (K : Int32 → Mem → Prop) : Prop :=
  vp_in (M 15 0) 25 ∧
  K (M 42 ((M 15 0).toNatClampNeg)) M
def f_X0_feedText_b77 (K : Int32 → Mem → Prop) (M : Mem) : Prop :=
  vp_in (M 15 0) 25 ∧
  K (M 42 ((M 15 0).toNatClampNeg)) M
def f_X0_feedText_c3 (K : Int32 → Mem → Prop) (r3 : Int32 × Int64 × Int32 × Mem → Prop) (x1 : Int32) (x2 : Int64) (x4 : Int32) (M : Mem) : Prop :=
  ((x1 ≤ x4) →
    f_X0_feedText_b77 K M) ∧
  ((¬ x1 ≤ x4) →
    (((8 : Int32) ≤ x4) →
      f_X0_feedText_b77 K M) ∧
    ((¬ (8 : Int32) ≤ x4) →
      vp_in (M 15 0) 25 ∧
      (((60 : Int32) ≤ (M 42 ((M 15 0).toNatClampNeg))) →
        f_X0_feedText_b77 K M) ∧
      ((¬ (60 : Int32) ≤ (M 42 ((M 15 0).toNatClampNeg))) →
        vp_in (M 15 0) 25 ∧
        vp_in (M 15 0) 25 ∧
        vp_in (M 42 ((M 15 0).toNatClampNeg)) 60 ∧
        vp_in ((mset M (17 + 1 * ((M 15 0).toNatClampNeg)) ((M 42 ((M 15 0).toNatClampNeg)).toNatClampNeg) (vp_nar .byte ((x2 >>> (((8 : Int32) * x4).toInt64 &&& 63)).toInt32.toInt8.toInt32))) 15 0) 25 ∧
        vp_in ((mset M (17 + 1 * ((M 15 0).toNatClampNeg)) ((M 42 ((M 15 0).toNatClampNeg)).toNatClampNeg) (vp_nar .byte ((x2 >>> (((8 : Int32) * x4).toInt64 &&& 63)).toInt32.toInt8.toInt32))) 15 0) 25 ∧
        r3 (x1, x2, (x4 + (1 : Int32)), (mset (mset M (17 + 1 * ((M 15 0).toNatClampNeg)) ((M 42 ((M 15 0).toNatClampNeg)).toNatClampNeg) (vp_nar .byte ((x2 >>> (((8 : Int32) * x4).toInt64 &&& 63)).toInt32.toInt8.toInt32))) 42 (((mset M (17 + 1 * ((M 15 0).toNatClampNeg)) ((M 42 ((M 15 0).toNatClampNeg)).toNatClampNeg) (vp_nar .byte ((x2 >>> (((8 : Int32) * x4).toInt64 &&& 63)).toInt32.toInt8.toInt32))) 15 0).toNatClampNeg) (((mset M (17 + 1 * ((M 15 0).toNatClampNeg)) ((M 42 ((M 15 0).toNatClampNeg)).toNatClampNeg) (vp_nar .byte ((x2 >>> (((8 : Int32) * x4).toInt64 &&& 63)).toInt32.toInt8.toInt32))) 42 (((mset M (17 + 1 * ((M 15 0).toNatClampNeg)) ((M 42 ((M 15 0).toNatClampNeg)).toNatClampNeg) (vp_nar .byte ((x2 >>> (((8 : Int32) * x4).toInt64 &&& 63)).toInt32.toInt8.toInt32))) 15 0).toNatClampNeg)) + (1 : Int32)))))))
def f_X0_feedText (a1 : Int32) (a2 : Int64) (M : Mem) (K : Int32 → Mem → Prop) : Prop :=
  Lp (fun (r3 : Int32 × Int64 × Int32 × Mem → Prop) a => f_X0_feedText_c3 K r3 a.1 a.2.1 a.2.2.1 a.2.2.2) (a1, a2, (0 : Int32), M)
def f_X11_feed_b32 (K : Int32 → Mem → Prop) (M : Mem) : Prop :=
  f_X11_refuse (-6 : Int32) M (fun v1 M1 =>
    K v1 M1)
def f_X11_feed (a1 : Int32) (a2 : Int64) (M : Mem) (K : Int32 → Mem → Prop) : Prop :=
  (((1 : Int32) ≤ a1) →
    (((8 : Int32) < a1) →
      f_X11_feed_b32 K M) ∧
    ((¬ (8 : Int32) < a1) →
      f_X0_fed M (fun v4 M4 =>
        (((v4 + a1) ≤ (60 : Int32)) →
          f_X0_feedText a1 a2 M4 (fun v6 M6 =>
            K v6 M6)) ∧
        ((¬ (v4 + a1) ≤ (60 : Int32)) →
          f_X11_feed_b32 K M4)))) ∧
  ((¬ (1 : Int32) ≤ a1) →
    f_X11_refuse (-4 : Int32) M (fun v7 M7 =>
      K v7 M7))
def f_X7_openLevel (a1 : Int32) (M : Mem) (K : Mem → Prop) : Prop :=
  vp_in a1 6 ∧
  vp_in a1 6 ∧
  vp_in a1 6 ∧
  K (mset (mset (mset (mset M 45 6 a1) 48 a1.toNatClampNeg (0 : Int32)) 49 a1.toNatClampNeg (1 : Int32)) 50 a1.toNatClampNeg (0 : Int32))
def f_X7_begin (tx : Nat) (a2 : Int32) (a3 : Int32) (M : Mem) (K : Mem → Prop) : Prop :=
  arB tx 60 ∧
  f_X7_openLevel (0 : Int32) (mset (mset (mset (mset (mset M 45 1 (nI tx)) 45 2 (if (nI 60) < a2 then (nI 60) else a2)) 45 3 a3) 45 4 (-9 : Int32)) 45 5 (0 : Int32)) (fun M1 =>
    K M1)
def f_X7_sign_b37 (K : Int32 → Mem → Prop) (s0 : Int32) (M : Mem) : Prop :=
  K s0 M
def f_X7_sign_b20 (K : Int32 → Mem → Prop) (M : Mem) : Prop :=
  f_X7_sign_b37 K (-1 : Int32) M
def f_X7_sign (M : Mem) (K : Int32 → Mem → Prop) : Prop :=
  ((¬ (M 45 4) = (-9 : Int32)) →
    f_X7_sign_b20 K M) ∧
  (((M 45 4) = (-9 : Int32)) →
    (((M 45 3) < (M 45 2)) →
      arB ((M 45 1).toNatClampNeg) 60 ∧
      vp_in (M 45 3) 60 ∧
      f_X7_sign_b37 K ((M ((M 45 1).toNatClampNeg) ((M 45 3).toNatClampNeg)) &&& (255 : Int32)) M) ∧
    ((¬ (M 45 3) < (M 45 2)) →
      f_X7_sign_b20 K M))
def f_X7_fail (M : Mem) (K : Mem → Prop) : Prop :=
  ((¬ (M 45 4) = (-9 : Int32)) →
    K M) ∧
  (((M 45 4) = (-9 : Int32)) →
    K (mset M 45 4 (M 45 3)))
def f_X7_expect_b15 (K : Mem → Prop) (M : Mem) : Prop :=
  f_X7_fail M (fun M1 =>
    K M1)
def f_X7_expect (a1 : Int32) (a2 : Int32) (M : Mem) (K : Mem → Prop) : Prop :=
  f_X7_sign M (fun v2 M2 =>
    ((v2 < a1) →
      f_X7_expect_b15 K M2) ∧
    ((¬ v2 < a1) →
      ((v2 ≤ a2) →
        K (mset M2 45 3 ((M2 45 3) + (1 : Int32)))) ∧
      ((¬ v2 ≤ a2) →
        f_X7_expect_b15 K M2)))
def f_X7_readOpenings_b90 (r2 : Int32 × Mem → Prop) (K : Mem → Prop) (x1 : Int32) (M : Mem) : Prop :=
  r2 ((x1 + (1 : Int32)), M)
def f_X7_readOpenings_b25 (r2 : Int32 × Mem → Prop) (K : Mem → Prop) (x1 : Int32) (x2 : Int32) (M : Mem) : Prop :=
  (((M 45 5) < (5 : Int32)) →
    ((¬ x2 = (33 : Int32)) →
      f_X7_openLevel ((M 45 6) + (1 : Int32)) (mset (mset M 45 3 ((M 45 3) + (1 : Int32))) 45 5 ((M 45 5) + (1 : Int32))) (fun M5 =>
        f_X7_readOpenings_b90 r2 K x1 M5)) ∧
    ((x2 = (33 : Int32)) →
      vp_in (M 45 6) 6 ∧
      vp_in (M 45 6) 6 ∧
      f_X7_readOpenings_b90 r2 K x1 (mset (mset (mset M 45 3 ((M 45 3) + (1 : Int32))) 45 5 ((M 45 5) + (1 : Int32))) 50 ((M 45 6).toNatClampNeg) ((M 50 ((M 45 6).toNatClampNeg)) + (1 : Int32))))) ∧
  ((¬ (M 45 5) < (5 : Int32)) →
    f_X7_fail M (fun M8 =>
      K M8))
def f_X7_readOpenings_c2 (K : Mem → Prop) (r2 : Int32 × Mem → Prop) (x1 : Int32) (M : Mem) : Prop :=
  (((5 : Int32) < x1) →
    K M) ∧
  ((¬ (5 : Int32) < x1) →
    f_X7_sign M (fun v10 M10 =>
      ((v10 = (33 : Int32)) →
        f_X7_readOpenings_b25 r2 K x1 v10 M10) ∧
      ((¬ v10 = (33 : Int32)) →
        ((v10 = (40 : Int32)) →
          f_X7_readOpenings_b25 r2 K x1 v10 M10) ∧
        ((¬ v10 = (40 : Int32)) →
          K M10))))
def f_X7_readOpenings (M : Mem) (K : Mem → Prop) : Prop :=
  Lp (fun (r2 : Int32 × Mem → Prop) a => f_X7_readOpenings_c2 K r2 a.1 a.2) ((0 : Int32), M)
def f_X7_factOf (a1 : Int32) (M : Mem) (K : Int32 → Mem → Prop) : Prop :=
  ((a1 = (99 : Int32)) →
    K (4 : Int32) M) ∧
  ((¬ a1 = (99 : Int32)) →
    ((a1 = (109 : Int32)) →
      K (3 : Int32) M) ∧
    ((¬ a1 = (109 : Int32)) →
      ((a1 = (110 : Int32)) →
        K (0 : Int32) M) ∧
      ((¬ a1 = (110 : Int32)) →
        ((a1 = (115 : Int32)) →
          K (2 : Int32) M) ∧
        ((¬ a1 = (115 : Int32)) →
          ((a1 = (117 : Int32)) →
            K (5 : Int32) M) ∧
          ((¬ a1 = (117 : Int32)) →
            ((a1 = (119 : Int32)) →
              K (1 : Int32) M) ∧
            ((¬ a1 = (119 : Int32)) →
              K (-9 : Int32) M))))))
def f_X7_unit_b35 (K : Int32 → Mem → Prop) (M : Mem) : Prop :=
  f_X7_fail M (fun M2 =>
    K (0 : Int32) M2)
def f_X7_unit_b17 (K : Int32 → Mem → Prop) (x1 : Int32) (M : Mem) : Prop :=
  f_X7_factOf x1 M (fun v3 M3 =>
    ((v3 < 0) →
      f_X7_unit_b35 K M3) ∧
    ((¬ v3 < 0) →
      ((v3 < (nI 6)) →
        vp_in v3 6 ∧
        K (M3 46 v3.toNatClampNeg) (mset M3 45 3 ((M3 45 3) + (1 : Int32)))) ∧
      ((¬ v3 < (nI 6)) →
        f_X7_unit_b35 K M3)))
def f_X7_unit_b110 (K : Int32 → Mem → Prop) (x2 : Int32) (M : Mem) : Prop :=
  K x2 M
def f_X7_unit_c62 (K : Int32 → Mem → Prop) (r62 : Int32 × Int32 × Int32 × Mem → Prop) (x1 : Int32) (x2 : Int32) (x3 : Int32) (M : Mem) : Prop :=
  (((4 : Int32) ≤ x3) →
    f_X7_unit_b110 K x2 M) ∧
  ((¬ (4 : Int32) ≤ x3) →
    ((x1 < (48 : Int32)) →
      f_X7_unit_b110 K x2 M) ∧
    ((¬ x1 < (48 : Int32)) →
      (((57 : Int32) < x1) →
        f_X7_unit_b110 K x2 M) ∧
      ((¬ (57 : Int32) < x1) →
        f_X7_sign (mset M 45 3 ((M 45 3) + (1 : Int32))) (fun v10 M10 =>
          r62 (v10, ((((10 : Int32) * x2) + x1) - (48 : Int32)), (x3 + (1 : Int32)), M10)))))
def f_X7_unit (M : Mem) (K : Int32 → Mem → Prop) : Prop :=
  f_X7_sign M (fun v11 M11 =>
    ((v11 < (48 : Int32)) →
      f_X7_unit_b17 K v11 M11) ∧
    ((¬ v11 < (48 : Int32)) →
      ((v11 ≤ (57 : Int32)) →
        Lp (fun (r62 : Int32 × Int32 × Int32 × Mem → Prop) a => f_X7_unit_c62 K r62 a.1 a.2.1 a.2.2.1 a.2.2.2) (v11, (0 : Int32), (0 : Int32), M11)) ∧
      ((¬ v11 ≤ (57 : Int32)) →
        f_X7_unit_b17 K v11 M11)))
def f_X7_sum_b84 (r7 : Int32 × Int32 × Mem → Prop) (K : Int32 → Mem → Prop) (x2 : Int32) (s0 : Int32) (M : Mem) : Prop :=
  r7 (s0, (x2 + (1 : Int32)), M)
def f_X7_sum_b38 (r7 : Int32 × Int32 × Mem → Prop) (K : Int32 → Mem → Prop) (x1 : Int32) (x2 : Int32) (x3 : Int32) (M : Mem) : Prop :=
  f_X7_unit (mset M 45 3 ((M 45 3) + (1 : Int32))) (fun v1 M1 =>
    ((¬ x3 = (43 : Int32)) →
      ((¬ x3 = (45 : Int32)) →
        f_X7_sum_b84 r7 K x2 (x1 * v1) M1) ∧
      ((x3 = (45 : Int32)) →
        f_X7_sum_b84 r7 K x2 (x1 - v1) M1)) ∧
    ((x3 = (43 : Int32)) →
      f_X7_sum_b84 r7 K x2 (x1 + v1) M1))
def f_X7_sum_c7 (K : Int32 → Mem → Prop) (r7 : Int32 × Int32 × Mem → Prop) (x1 : Int32) (x2 : Int32) (M : Mem) : Prop :=
  (((60 : Int32) ≤ x2) →
    K x1 M) ∧
  ((¬ (60 : Int32) ≤ x2) →
    f_X7_sign M (fun v5 M5 =>
      ((v5 = (43 : Int32)) →
        f_X7_sum_b38 r7 K x1 x2 v5 M5) ∧
      ((¬ v5 = (43 : Int32)) →
        ((v5 = (45 : Int32)) →
          f_X7_sum_b38 r7 K x1 x2 v5 M5) ∧
        ((¬ v5 = (45 : Int32)) →
          ((v5 = (42 : Int32)) →
            f_X7_sum_b38 r7 K x1 x2 v5 M5) ∧
          ((¬ v5 = (42 : Int32)) →
            K x1 M5)))))
def f_X7_sum (M : Mem) (K : Int32 → Mem → Prop) : Prop :=
  f_X7_unit M (fun v9 M9 =>
    Lp (fun (r7 : Int32 × Int32 × Mem → Prop) a => f_X7_sum_c7 K r7 a.1 a.2.1 a.2.2) (v9, (0 : Int32), M9))
def f_X7_comparisonHolds_b71 (K : Int32 → Mem → Prop) (s0 : Int32) (M : Mem) : Prop :=
  bz s0 ∧ K s0 M
def f_X7_comparisonHolds (M : Mem) (K : Int32 → Mem → Prop) : Prop :=
  f_X7_sum M (fun v2 M2 =>
    f_X7_sign M2 (fun v3 M3 =>
      f_X7_expect (60 : Int32) (62 : Int32) M3 (fun M4 =>
        f_X7_sum M4 (fun v5 M5 =>
          ((¬ v3 = (60 : Int32)) →
            ((¬ v3 = (61 : Int32)) →
              ((v2 ≤ v5) →
                f_X7_comparisonHolds_b71 K (0 : Int32) M5) ∧
              ((¬ v2 ≤ v5) →
                f_X7_comparisonHolds_b71 K (1 : Int32) M5)) ∧
            ((v3 = (61 : Int32)) →
              ((¬ v2 = v5) →
                f_X7_comparisonHolds_b71 K (0 : Int32) M5) ∧
              ((v2 = v5) →
                f_X7_comparisonHolds_b71 K (1 : Int32) M5))) ∧
          ((v3 = (60 : Int32)) →
            ((v5 ≤ v2) →
              f_X7_comparisonHolds_b71 K (0 : Int32) M5) ∧
            ((¬ v5 ≤ v2) →
              f_X7_comparisonHolds_b71 K (1 : Int32) M5))))))
def f_X7_endPart_b51 (K : Mem → Prop) (s0 : Int32) (s1 : Int32) (M : Mem) : Prop :=
  vp_in s1 6 ∧
  bz s0 ∧
  vp_in (M 45 6) 6 ∧
  vp_in (M 45 6) 6 ∧
  K (mset (mset (mset M 49 s1.toNatClampNeg s0) 45 5 ((M 45 5) - (M 50 ((M 45 6).toNatClampNeg)))) 50 ((M 45 6).toNatClampNeg) (0 : Int32))
def f_X7_endPart_b50 (K : Mem → Prop) (s0 : Int32) (M : Mem) : Prop :=
  f_X7_endPart_b51 K (0 : Int32) s0 M
def f_X7_endPart_b20 (K : Mem → Prop) (x1 : Int32) (s0 : Int32) (M : Mem) : Prop :=
  vp_in (M 45 6) 6 ∧
  (((M 49 ((M 45 6).toNatClampNeg)) = 0) →
    f_X7_endPart_b50 K (M 45 6) M) ∧
  ((¬ (M 49 ((M 45 6).toNatClampNeg)) = 0) →
    ((x1 = s0) →
      f_X7_endPart_b50 K (M 45 6) M) ∧
    ((¬ x1 = s0) →
      f_X7_endPart_b51 K (1 : Int32) (M 45 6) M))
def f_X7_endPart (a1 : Int32) (M : Mem) (K : Mem → Prop) : Prop :=
  vp_in (M 45 6) 6 ∧
  ((¬ ((M 50 ((M 45 6).toNatClampNeg)) - (M 50 ((M 45 6).toNatClampNeg)) / (2 : Int32) * (2 : Int32)) = (1 : Int32)) →
    f_X7_endPart_b20 K a1 (0 : Int32) M) ∧
  ((((M 50 ((M 45 6).toNatClampNeg)) - (M 50 ((M 45 6).toNatClampNeg)) / (2 : Int32) * (2 : Int32)) = (1 : Int32)) →
    f_X7_endPart_b20 K a1 (1 : Int32) M)
def f_X7_readClosings_b52 (r2 : Int32 × Mem → Prop) (K : Mem → Prop) (x1 : Int32) (s0 : Int32) (M : Mem) : Prop :=
  f_X7_endPart s0 (mset (mset (mset M 45 3 ((M 45 3) + (1 : Int32))) 45 5 ((M 45 5) - (1 : Int32))) 45 6 ((M 45 6) - (1 : Int32))) (fun M3 =>
    r2 ((x1 + (1 : Int32)), M3))
def f_X7_readClosings_b47 (r2 : Int32 × Mem → Prop) (K : Mem → Prop) (x1 : Int32) (M : Mem) : Prop :=
  f_X7_readClosings_b52 r2 K x1 (1 : Int32) M
def f_X7_readClosings_c2 (K : Mem → Prop) (r2 : Int32 × Mem → Prop) (x1 : Int32) (M : Mem) : Prop :=
  (((5 : Int32) ≤ x1) →
    K M) ∧
  ((¬ (5 : Int32) ≤ x1) →
    (((M 45 6) ≤ 0) →
      K M) ∧
    ((¬ (M 45 6) ≤ 0) →
      f_X7_sign M (fun v6 M6 =>
        ((¬ v6 = (41 : Int32)) →
          K M6) ∧
        ((v6 = (41 : Int32)) →
          vp_in (M6 45 6) 6 ∧
          ((¬ (M6 48 ((M6 45 6).toNatClampNeg)) = 0) →
            f_X7_readClosings_b47 r2 K x1 M6) ∧
          (((M6 48 ((M6 45 6).toNatClampNeg)) = 0) →
            vp_in (M6 45 6) 6 ∧
            (((M6 49 ((M6 45 6).toNatClampNeg)) = 0) →
              f_X7_readClosings_b52 r2 K x1 (0 : Int32) M6) ∧
            ((¬ (M6 49 ((M6 45 6).toNatClampNeg)) = 0) →
              f_X7_readClosings_b47 r2 K x1 M6))))))
def f_X7_readClosings (M : Mem) (K : Mem → Prop) : Prop :=
  Lp (fun (r2 : Int32 × Mem → Prop) a => f_X7_readClosings_c2 K r2 a.1 a.2) ((0 : Int32), M)
def f_X7_joinsNext_b83 (K : Int32 → Mem → Prop) (M : Mem) : Prop :=
  K (1 : Int32) M
def f_X7_joinsNext_b72 (K : Int32 → Mem → Prop) (s0 : Int32) (s1 : Int32) (M : Mem) : Prop :=
  vp_in s1 6 ∧
  bz s0 ∧
  vp_in (M 45 6) 6 ∧
  f_X7_joinsNext_b83 K (mset (mset M 48 s1.toNatClampNeg s0) 49 ((M 45 6).toNatClampNeg) (1 : Int32))
def f_X7_joinsNext_b67 (K : Int32 → Mem → Prop) (s0 : Int32) (M : Mem) : Prop :=
  f_X7_joinsNext_b72 K (1 : Int32) s0 M
def f_X7_joinsNext_b19 (K : Int32 → Mem → Prop) (x1 : Int32) (M : Mem) : Prop :=
  ((¬ x1 = (124 : Int32)) →
    f_X7_joinsNext_b83 K (mset M 45 3 ((M 45 3) + (1 : Int32)))) ∧
  ((x1 = (124 : Int32)) →
    vp_in (M 45 6) 6 ∧
    ((¬ (M 48 ((M 45 6).toNatClampNeg)) = 0) →
      f_X7_joinsNext_b67 K (M 45 6) (mset M 45 3 ((M 45 3) + (1 : Int32)))) ∧
    (((M 48 ((M 45 6).toNatClampNeg)) = 0) →
      vp_in (M 45 6) 6 ∧
      (((M 49 ((M 45 6).toNatClampNeg)) = 0) →
        f_X7_joinsNext_b72 K (0 : Int32) (M 45 6) (mset M 45 3 ((M 45 3) + (1 : Int32)))) ∧
      ((¬ (M 49 ((M 45 6).toNatClampNeg)) = 0) →
        f_X7_joinsNext_b67 K (M 45 6) (mset M 45 3 ((M 45 3) + (1 : Int32))))))
def f_X7_joinsNext (M : Mem) (K : Int32 → Mem → Prop) : Prop :=
  f_X7_sign M (fun v14 M14 =>
    ((v14 = (38 : Int32)) →
      f_X7_joinsNext_b19 K v14 M14) ∧
    ((¬ v14 = (38 : Int32)) →
      ((v14 = (124 : Int32)) →
        f_X7_joinsNext_b19 K v14 M14) ∧
      ((¬ v14 = (124 : Int32)) →
        K (0 : Int32) M14)))
def f_X7_ruleHolds_b75 (K : Int32 → Mem → Prop) (s0 : Int32) (M : Mem) : Prop :=
  bz s0 ∧ K s0 M
def f_X7_ruleHolds_b70 (K : Int32 → Mem → Prop) (M : Mem) : Prop :=
  f_X7_ruleHolds_b75 K (1 : Int32) M
def f_X7_ruleHolds_b52 (K : Int32 → Mem → Prop) (M : Mem) : Prop :=
  ((¬ (M 48 0) = 0) →
    f_X7_ruleHolds_b70 K M) ∧
  (((M 48 0) = 0) →
    (((M 49 0) = 0) →
      f_X7_ruleHolds_b75 K (0 : Int32) M) ∧
    ((¬ (M 49 0) = 0) →
      f_X7_ruleHolds_b70 K M))
def f_X7_ruleHolds_b41 (K : Int32 → Mem → Prop) (M : Mem) : Prop :=
  (((M 45 6) ≤ 0) →
    f_X7_ruleHolds_b52 K M) ∧
  ((¬ (M 45 6) ≤ 0) →
    f_X7_fail M (fun M5 =>
      f_X7_ruleHolds_b52 K M5))
def f_X7_ruleHolds_c4 (K : Int32 → Mem → Prop) (r4 : Int32 × Int32 × Mem → Prop) (x1 : Int32) (x2 : Int32) (M : Mem) : Prop :=
  (((60 : Int32) < x2) →
    f_X7_ruleHolds_b41 K M) ∧
  ((¬ (60 : Int32) < x2) →
    ((x1 = 0) →
      f_X7_ruleHolds_b41 K M) ∧
    ((¬ x1 = 0) →
      f_X7_readOpenings M (fun M8 =>
        f_X7_comparisonHolds M8 (fun v9 M9 =>
          f_X7_endPart v9 M9 (fun M10 =>
            f_X7_readClosings M10 (fun M11 =>
              f_X7_joinsNext M11 (fun v12 M12 =>
                r4 (v12, (x2 + (1 : Int32)), M12))))))))
def f_X7_ruleHolds (M : Mem) (K : Int32 → Mem → Prop) : Prop :=
  Lp (fun (r4 : Int32 × Int32 × Mem → Prop) a => f_X7_ruleHolds_c4 K r4 a.1 a.2.1 a.2.2) ((1 : Int32), (0 : Int32), M)
def f_X7_faultOf_b51 (K : Int32 → Mem → Prop) (M : Mem) : Prop :=
  K (M 45 4) M
def f_X7_faultOf (tx : Nat) (a2 : Int32) (M : Mem) (K : Int32 → Mem → Prop) : Prop :=
  arB tx 60 ∧
  f_X7_begin tx a2 (0 : Int32) M (fun M1 =>
    f_X7_expect (65 : Int32) (72 : Int32) M1 (fun M2 =>
      f_X7_expect (48 : Int32) (52 : Int32) M2 (fun M3 =>
        f_X7_expect (58 : Int32) (58 : Int32) M3 (fun M4 =>
          f_X7_ruleHolds M4 (fun v5 M5 =>
            (((M5 45 2) ≤ (M5 45 3)) →
              f_X7_faultOf_b51 K M5) ∧
            ((¬ (M5 45 2) ≤ (M5 45 3)) →
              f_X7_fail M5 (fun M7 =>
                f_X7_faultOf_b51 K M7)))))))
def f_X0_faultOfText (M : Mem) (K : Int32 → Mem → Prop) : Prop :=
  vp_in (M 15 0) 25 ∧
  vp_in (M 15 0) 25 ∧
  f_X7_faultOf (17 + 1 * ((M 15 0).toNatClampNeg)) (M 42 ((M 15 0).toNatClampNeg)) M (fun v5 M5 =>
    K v5 M5)
def f_X0_dropText (M : Mem) (K : Mem → Prop) : Prop :=
  vp_in (M 15 0) 25 ∧
  K (mset M 42 ((M 15 0).toNatClampNeg) (0 : Int32))
def f_X0_takeText (a1 : Int32) (M : Mem) (K : Int32 → Mem → Prop) : Prop :=
  (((M 15 0) < (24 : Int32)) →
    vp_in (M 15 0) 24 ∧
    vp_in (M 15 0) 24 ∧
    vp_in ((M 15 0) + (1 : Int32)) 25 ∧
    K (((M 15 0) + (1 : Int32)) - (1 : Int32)) (mset (mset (mset (mset M 43 ((M 15 0).toNatClampNeg) a1) 44 ((M 15 0).toNatClampNeg) (1000000 : Int32)) 15 0 ((M 15 0) + (1 : Int32))) 42 (((M 15 0) + (1 : Int32)).toNatClampNeg) (0 : Int32))) ∧
  ((¬ (M 15 0) < (24 : Int32)) →
    K (-6 : Int32) M)
def f_X11_act (a1 : Int32) (M : Mem) (K : Int32 → Mem → Prop) : Prop :=
  f_X11_outside a1 (M 1 0) (1000 : Int32) M (fun v1 M1 =>
    f_X11_fullAt (M1 15 0) (24 : Int32) M1 (fun v2 M2 =>
      f_X11_worse v1 v2 M2 (fun v3 M3 =>
        ((v3 = 0) →
          f_X0_faultOfText M3 (fun v5 M5 =>
            ((v5 = (-9 : Int32)) →
              f_X0_takeText a1 M5 (fun v7 M7 =>
                K v7 M7)) ∧
            ((¬ v5 = (-9 : Int32)) →
              f_X0_dropText M5 (fun M8 =>
                K ((-20 : Int32) - v5) M8)))) ∧
        ((¬ v3 = 0) →
          f_X11_refuse v3 M3 (fun v9 M9 =>
            K v9 M9)))))
def f_X11_strike_b15 (K : Int32 → Mem → Prop) (M : Mem) : Prop :=
  f_X11_refuse (-1 : Int32) M (fun v3 M3 =>
    K v3 M3)
def f_X11_strike (a1 : Int32) (a2 : Int32) (M : Mem) (K : Int32 → Mem → Prop) : Prop :=
  ((a1 < 0) →
    f_X11_strike_b15 K M) ∧
  ((¬ a1 < 0) →
    ((a1 < (M 15 0)) →
      vp_in a1 24 ∧
      (((M 44 a1.toNatClampNeg) = (1000000 : Int32)) →
        f_X11_outside a2 (M 1 0) (1000 : Int32) M (fun v8 M8 =>
          ((v8 = 0) →
            vp_in a1 24 ∧
            K (1 : Int32) (mset M8 44 a1.toNatClampNeg a2)) ∧
          ((¬ v8 = 0) →
            f_X11_refuse v8 M8 (fun v11 M11 =>
              K v11 M11)))) ∧
      ((¬ (M 44 a1.toNatClampNeg) = (1000000 : Int32)) →
        f_X11_refuse (-3 : Int32) M (fun v12 M12 =>
          K v12 M12))) ∧
    ((¬ a1 < (M 15 0)) →
      f_X11_strike_b15 K M))
def f_X11_isWhat_b15 (K : Int32 → Mem → Prop) (s0 : Int32) (M : Mem) : Prop :=
  bz s0 ∧ K s0 M
def f_X11_isWhat_b14 (K : Int32 → Mem → Prop) (M : Mem) : Prop :=
  f_X11_isWhat_b15 K (0 : Int32) M
def f_X11_isWhat (a1 : Int32) (M : Mem) (K : Int32 → Mem → Prop) : Prop :=
  ((a1 < 0) →
    f_X11_isWhat_b14 K M) ∧
  ((¬ a1 < 0) →
    (((8 : Int32) ≤ a1) →
      f_X11_isWhat_b14 K M) ∧
    ((¬ (8 : Int32) ≤ a1) →
      f_X11_isWhat_b15 K (1 : Int32) M))
def f_X11_wrongTopic (a1 : Int32) (a2 : Int32) (M : Mem) (K : Int32 → Mem → Prop) : Prop :=
  f_X11_outside a1 (1 : Int32) (63 : Int32) M (fun v1 M1 =>
    f_X11_outside a2 (0 : Int32) (9999 : Int32) M1 (fun v2 M2 =>
      f_X11_worse v1 v2 M2 (fun v3 M3 =>
        K v3 M3)))
def f_X9_hereIn_b38 (r4 : Int32 × Int32 × Int32 × Mem → Prop) (K : Int32 → Mem → Prop) (x1 : Int32) (x2 : Int32) (x3 : Int32) (M : Mem) : Prop :=
  r4 (x1, x2, (x3 + (1 : Int32)), M)
def f_X9_hereIn_c4 (K : Int32 → Mem → Prop) (r4 : Int32 × Int32 × Int32 × Mem → Prop) (x1 : Int32) (x2 : Int32) (x3 : Int32) (M : Mem) : Prop :=
  (((M 4 0) ≤ x3) →
    K x2 M) ∧
  ((¬ (M 4 0) ≤ x3) →
    vp_in x3 24 ∧
    (((M 6 x3.toNatClampNeg) = 0) →
      f_X9_hereIn_b38 r4 K x1 x2 x3 M) ∧
    ((¬ (M 6 x3.toNatClampNeg) = 0) →
      vp_in x3 24 ∧
      ((¬ ((x1 >>> ((M 5 x3.toNatClampNeg) &&& 31)) &&& (1 : Int32)) = (1 : Int32)) →
        f_X9_hereIn_b38 r4 K x1 x2 x3 M) ∧
      ((((x1 >>> ((M 5 x3.toNatClampNeg) &&& 31)) &&& (1 : Int32)) = (1 : Int32)) →
        f_X9_hereIn_b38 r4 K x1 (x2 + (1 : Int32)) x3 M)))
def f_X9_hereIn (a1 : Int32) (M : Mem) (K : Int32 → Mem → Prop) : Prop :=
  Lp (fun (r4 : Int32 × Int32 × Int32 × Mem → Prop) a => f_X9_hereIn_c4 K r4 a.1 a.2.1 a.2.2.1 a.2.2.2) (a1, (0 : Int32), (0 : Int32), M)
def f_J6_bitCount_0f7a4 (a1 : Int32) (M : Mem) (K : Int32 → Mem → Prop) : Prop :=
  K ((((((((a1 - ((a1.toUInt32 >>> ((1 : Int32).toUInt32 &&& Int32.toUInt32 31)).toInt32 &&& (1431655765 : Int32))) &&& (858993459 : Int32)) + (((a1 - ((a1.toUInt32 >>> ((1 : Int32).toUInt32 &&& Int32.toUInt32 31)).toInt32 &&& (1431655765 : Int32))).toUInt32 >>> ((2 : Int32).toUInt32 &&& Int32.toUInt32 31)).toInt32 &&& (858993459 : Int32))) + ((((a1 - ((a1.toUInt32 >>> ((1 : Int32).toUInt32 &&& Int32.toUInt32 31)).toInt32 &&& (1431655765 : Int32))) &&& (858993459 : Int32)) + (((a1 - ((a1.toUInt32 >>> ((1 : Int32).toUInt32 &&& Int32.toUInt32 31)).toInt32 &&& (1431655765 : Int32))).toUInt32 >>> ((2 : Int32).toUInt32 &&& Int32.toUInt32 31)).toInt32 &&& (858993459 : Int32))).toUInt32 >>> ((4 : Int32).toUInt32 &&& Int32.toUInt32 31)).toInt32) &&& (252645135 : Int32)) + ((((((a1 - ((a1.toUInt32 >>> ((1 : Int32).toUInt32 &&& Int32.toUInt32 31)).toInt32 &&& (1431655765 : Int32))) &&& (858993459 : Int32)) + (((a1 - ((a1.toUInt32 >>> ((1 : Int32).toUInt32 &&& Int32.toUInt32 31)).toInt32 &&& (1431655765 : Int32))).toUInt32 >>> ((2 : Int32).toUInt32 &&& Int32.toUInt32 31)).toInt32 &&& (858993459 : Int32))) + ((((a1 - ((a1.toUInt32 >>> ((1 : Int32).toUInt32 &&& Int32.toUInt32 31)).toInt32 &&& (1431655765 : Int32))) &&& (858993459 : Int32)) + (((a1 - ((a1.toUInt32 >>> ((1 : Int32).toUInt32 &&& Int32.toUInt32 31)).toInt32 &&& (1431655765 : Int32))).toUInt32 >>> ((2 : Int32).toUInt32 &&& Int32.toUInt32 31)).toInt32 &&& (858993459 : Int32))).toUInt32 >>> ((4 : Int32).toUInt32 &&& Int32.toUInt32 31)).toInt32) &&& (252645135 : Int32)).toUInt32 >>> ((8 : Int32).toUInt32 &&& Int32.toUInt32 31)).toInt32) + (((((((a1 - ((a1.toUInt32 >>> ((1 : Int32).toUInt32 &&& Int32.toUInt32 31)).toInt32 &&& (1431655765 : Int32))) &&& (858993459 : Int32)) + (((a1 - ((a1.toUInt32 >>> ((1 : Int32).toUInt32 &&& Int32.toUInt32 31)).toInt32 &&& (1431655765 : Int32))).toUInt32 >>> ((2 : Int32).toUInt32 &&& Int32.toUInt32 31)).toInt32 &&& (858993459 : Int32))) + ((((a1 - ((a1.toUInt32 >>> ((1 : Int32).toUInt32 &&& Int32.toUInt32 31)).toInt32 &&& (1431655765 : Int32))) &&& (858993459 : Int32)) + (((a1 - ((a1.toUInt32 >>> ((1 : Int32).toUInt32 &&& Int32.toUInt32 31)).toInt32 &&& (1431655765 : Int32))).toUInt32 >>> ((2 : Int32).toUInt32 &&& Int32.toUInt32 31)).toInt32 &&& (858993459 : Int32))).toUInt32 >>> ((4 : Int32).toUInt32 &&& Int32.toUInt32 31)).toInt32) &&& (252645135 : Int32)) + ((((((a1 - ((a1.toUInt32 >>> ((1 : Int32).toUInt32 &&& Int32.toUInt32 31)).toInt32 &&& (1431655765 : Int32))) &&& (858993459 : Int32)) + (((a1 - ((a1.toUInt32 >>> ((1 : Int32).toUInt32 &&& Int32.toUInt32 31)).toInt32 &&& (1431655765 : Int32))).toUInt32 >>> ((2 : Int32).toUInt32 &&& Int32.toUInt32 31)).toInt32 &&& (858993459 : Int32))) + ((((a1 - ((a1.toUInt32 >>> ((1 : Int32).toUInt32 &&& Int32.toUInt32 31)).toInt32 &&& (1431655765 : Int32))) &&& (858993459 : Int32)) + (((a1 - ((a1.toUInt32 >>> ((1 : Int32).toUInt32 &&& Int32.toUInt32 31)).toInt32 &&& (1431655765 : Int32))).toUInt32 >>> ((2 : Int32).toUInt32 &&& Int32.toUInt32 31)).toInt32 &&& (858993459 : Int32))).toUInt32 >>> ((4 : Int32).toUInt32 &&& Int32.toUInt32 31)).toInt32) &&& (252645135 : Int32)).toUInt32 >>> ((8 : Int32).toUInt32 &&& Int32.toUInt32 31)).toInt32).toUInt32 >>> ((16 : Int32).toUInt32 &&& Int32.toUInt32 31)).toInt32) &&& (63 : Int32)) M
def f_X11_tellFacts_b73 (K : Mem → Prop) (s0 : Int32) (s1 : Int32) (M : Mem) : Prop :=
  vp_in s1 6 ∧
  K (mset M 46 s1.toNatClampNeg s0)
def f_X11_tellFacts (a1 : Int32) (a2 : Int32) (a3 : Int32) (M : Mem) (K : Mem → Prop) : Prop :=
  f_X9_hereIn a1 M (fun v3 M3 =>
    f_X9_hereIn (63 : Int32) (mset M3 46 0 v3) (fun v4 M4 =>
      f_J6_bitCount_0f7a4 a1 (mset M4 46 1 v4) (fun v5 M5 =>
        ((a3 = 0) →
          f_X11_tellFacts_b73 K (0 : Int32) (5 : Int32) (mset (mset (mset M5 46 2 v5) 46 3 a2) 46 4 (M5 51 1))) ∧
        ((¬ a3 = 0) →
          f_X11_tellFacts_b73 K (1 : Int32) (5 : Int32) (mset (mset (mset M5 46 2 v5) 46 3 a2) 46 4 (M5 51 1))))))
def f_X7_holds (tx : Nat) (a2 : Int32) (M : Mem) (K : Int32 → Mem → Prop) : Prop :=
  arB tx 60 ∧
  f_X7_begin tx a2 (3 : Int32) M (fun M1 =>
    f_X7_ruleHolds M1 (fun v2 M2 =>
      bz v2 ∧ K v2 M2))
def f_X0_bearingOn_b83 (r5 : Int32 × Int32 × Int32 × Int32 × Mem → Prop) (K : Int32 → Mem → Prop) (x1 : Int32) (x2 : Int32) (x3 : Int32) (x4 : Int32) (M : Mem) : Prop :=
  r5 (x1, x2, x3, (x4 + (1 : Int32)), M)
def f_X0_bearingOn_c5 (K : Int32 → Mem → Prop) (r5 : Int32 × Int32 × Int32 × Int32 × Mem → Prop) (x1 : Int32) (x2 : Int32) (x3 : Int32) (x4 : Int32) (M : Mem) : Prop :=
  (((M 15 0) ≤ x4) →
    K x3 M) ∧
  ((¬ (M 15 0) ≤ x4) →
    vp_in x4 25 ∧
    ((¬ ((M (17 + 1 * x4.toNatClampNeg) 0) - (65 : Int32)) = x1) →
      f_X0_bearingOn_b83 r5 K x1 x2 x3 x4 M) ∧
    ((((M (17 + 1 * x4.toNatClampNeg) 0) - (65 : Int32)) = x1) →
      vp_in x4 24 ∧
      ((x2 < (M 43 x4.toNatClampNeg)) →
        f_X0_bearingOn_b83 r5 K x1 x2 x3 x4 M) ∧
      ((¬ x2 < (M 43 x4.toNatClampNeg)) →
        vp_in x4 24 ∧
        (((M 44 x4.toNatClampNeg) ≤ x2) →
          f_X0_bearingOn_b83 r5 K x1 x2 x3 x4 M) ∧
        ((¬ (M 44 x4.toNatClampNeg) ≤ x2) →
          vp_in x4 25 ∧
          vp_in x4 25 ∧
          f_X7_holds (17 + 1 * x4.toNatClampNeg) (M 42 x4.toNatClampNeg) M (fun v15 M15 =>
            ((v15 = 0) →
              f_X0_bearingOn_b83 r5 K x1 x2 x3 x4 M15) ∧
            ((¬ v15 = 0) →
              f_X0_bearingOn_b83 r5 K x1 x2 (x3 ||| ((1 : Int32) <<< (x4 &&& 31))) x4 M15))))))
def f_X0_bearingOn (a1 : Int32) (a2 : Int32) (M : Mem) (K : Int32 → Mem → Prop) : Prop :=
  Lp (fun (r5 : Int32 × Int32 × Int32 × Int32 × Mem → Prop) a => f_X0_bearingOn_c5 K r5 a.1 a.2.1 a.2.2.1 a.2.2.2.1 a.2.2.2.2) (a1, a2, (0 : Int32), (0 : Int32), M)
def f_X0_kindOf_b27 (K : Int32 → Mem → Prop) (s0 : Int32) (M : Mem) : Prop :=
  K s0 M
def f_X0_kindOf_b12 (K : Int32 → Mem → Prop) (M : Mem) : Prop :=
  f_X0_kindOf_b27 K (0 : Int32) M
def f_X0_kindOf (a1 : Int32) (M : Mem) (K : Int32 → Mem → Prop) : Prop :=
  ((a1 < 0) →
    f_X0_kindOf_b12 K M) ∧
  ((¬ a1 < 0) →
    ((a1 < (M 15 0)) →
      vp_in a1 25 ∧
      f_X0_kindOf_b27 K ((M (17 + 1 * a1.toNatClampNeg) 1) - (48 : Int32)) M) ∧
    ((¬ a1 < (M 15 0)) →
      f_X0_kindOf_b12 K M))
def f_X0_quarrelAmong_b64 (r6 : Int32 × Int32 × Int32 × Int32 × Mem → Prop) (K : Int32 → Mem → Prop) (x1 : Int32) (x2 : Int32) (x3 : Int32) (x4 : Int32) (M : Mem) : Prop :=
  r6 (x1, x2, x3, (x4 + (1 : Int32)), M)
def f_X0_quarrelAmong_b63 (K : Int32 → Mem → Prop) (s0 : Int32) (M : Mem) : Prop :=
  K s0 M
def f_X0_quarrelAmong_c6 (K : Int32 → Mem → Prop) (r6 : Int32 × Int32 × Int32 × Int32 × Mem → Prop) (x1 : Int32) (x2 : Int32) (x3 : Int32) (x4 : Int32) (M : Mem) : Prop :=
  (((M 15 0) ≤ x4) →
    K (-9 : Int32) M) ∧
  ((¬ (M 15 0) ≤ x4) →
    ((¬ ((x1 >>> (x4 &&& 31)) &&& (1 : Int32)) = 0) →
      ((¬ x3 = (-9 : Int32)) →
        f_X0_kindOf x4 M (fun v4 M4 =>
          f_X0_kindOf x3 M4 (fun v5 M5 =>
            ((v4 = v5) →
              f_X0_quarrelAmong_b64 r6 K x1 x2 x3 x4 M5) ∧
            ((¬ v4 = v5) →
              ((x2 = 0) →
                f_X0_quarrelAmong_b63 K x4 M5) ∧
              ((¬ x2 = 0) →
                f_X0_quarrelAmong_b63 K x3 M5))))) ∧
      ((x3 = (-9 : Int32)) →
        f_X0_quarrelAmong_b64 r6 K x1 x2 x4 x4 M)) ∧
    ((((x1 >>> (x4 &&& 31)) &&& (1 : Int32)) = 0) →
      f_X0_quarrelAmong_b64 r6 K x1 x2 x3 x4 M))
def f_X0_quarrelAmong (a1 : Int32) (a2 : Int32) (M : Mem) (K : Int32 → Mem → Prop) : Prop :=
  Lp (fun (r6 : Int32 × Int32 × Int32 × Int32 × Mem → Prop) a => f_X0_quarrelAmong_c6 K r6 a.1 a.2.1 a.2.2.1 a.2.2.2.1 a.2.2.2.2) (a1, a2, (-9 : Int32), (0 : Int32), M)
def f_X0_giverAmong_b45 (r5 : Int32 × Int32 × Int32 × Mem → Prop) (K : Int32 → Mem → Prop) (x1 : Int32) (x2 : Int32) (x3 : Int32) (M : Mem) : Prop :=
  r5 (x1, x2, (x3 + (1 : Int32)), M)
def f_X0_giverAmong_b43 (r5 : Int32 × Int32 × Int32 × Mem → Prop) (K : Int32 → Mem → Prop) (x1 : Int32) (x3 : Int32) (M : Mem) : Prop :=
  f_X0_giverAmong_b45 r5 K x1 x3 x3 M
def f_X0_giverAmong_c5 (K : Int32 → Mem → Prop) (r5 : Int32 × Int32 × Int32 × Mem → Prop) (x1 : Int32) (x2 : Int32) (x3 : Int32) (M : Mem) : Prop :=
  (((M 15 0) ≤ x3) →
    K x2 M) ∧
  ((¬ (M 15 0) ≤ x3) →
    ((¬ ((x1 >>> (x3 &&& 31)) &&& (1 : Int32)) = (1 : Int32)) →
      f_X0_giverAmong_b45 r5 K x1 x2 x3 M) ∧
    ((((x1 >>> (x3 &&& 31)) &&& (1 : Int32)) = (1 : Int32)) →
      ((x2 = (-9 : Int32)) →
        f_X0_giverAmong_b43 r5 K x1 x3 M) ∧
      ((¬ x2 = (-9 : Int32)) →
        vp_in x3 24 ∧
        vp_in x2 24 ∧
        (((M 43 x3.toNatClampNeg) < (M 43 x2.toNatClampNeg)) →
          f_X0_giverAmong_b45 r5 K x1 x2 x3 M) ∧
        ((¬ (M 43 x3.toNatClampNeg) < (M 43 x2.toNatClampNeg)) →
          f_X0_giverAmong_b43 r5 K x1 x3 M))))
def f_X0_giverAmong (a1 : Int32) (M : Mem) (K : Int32 → Mem → Prop) : Prop :=
  Lp (fun (r5 : Int32 × Int32 × Int32 × Mem → Prop) a => f_X0_giverAmong_c5 K r5 a.1 a.2.1 a.2.2.1 a.2.2.2) (a1, (-9 : Int32), (0 : Int32), M)
def f_X11_kind_b18 (K : Int32 → Mem → Prop) (M : Mem) : Prop :=
  f_X11_refuse (-2 : Int32) M (fun v1 M1 =>
    K v1 M1)
def f_X11_kind_b92 (K : Int32 → Mem → Prop) (s0 : Int32) (s1 : Int32) (M : Mem) : Prop :=
  f_X0_quarrelAmong s1 s0 M (fun v2 M2 =>
    K v2 M2)
def f_X11_kind_b127 (K : Int32 → Mem → Prop) (s0 : Int32) (M : Mem) : Prop :=
  K s0 M
def f_X11_kind (a1 : Int32) (a2 : Int32) (a3 : Int32) (a4 : Int32) (a5 : Int32) (M : Mem) (K : Int32 → Mem → Prop) : Prop :=
  f_X11_isWhat a1 M (fun v3 M3 =>
    ((v3 = 0) →
      f_X11_kind_b18 K M3) ∧
    ((¬ v3 = 0) →
      ((a5 < 0) →
        f_X11_kind_b18 K M3) ∧
      ((¬ a5 < 0) →
        ((a5 ≤ (3 : Int32)) →
          f_X11_wrongTopic a2 a3 M3 (fun v7 M7 =>
            ((v7 = 0) →
              f_X11_tellFacts a2 a3 a4 M7 (fun M9 =>
                f_X0_bearingOn a1 (M9 1 0) M9 (fun v10 M10 =>
                  ((a5 < (2 : Int32)) →
                    f_X0_giverAmong v10 M10 (fun v12 M12 =>
                      ((¬ a5 = (1 : Int32)) →
                        f_X0_kindOf v12 M12 (fun v14 M14 =>
                          f_X11_kind_b127 K v14 M14)) ∧
                      ((a5 = (1 : Int32)) →
                        f_X11_kind_b127 K v12 M12))) ∧
                  ((¬ a5 < (2 : Int32)) →
                    ((¬ a5 = (2 : Int32)) →
                      f_X11_kind_b92 K (0 : Int32) v10 M10) ∧
                    ((a5 = (2 : Int32)) →
                      f_X11_kind_b92 K (1 : Int32) v10 M10))))) ∧
            ((¬ v7 = 0) →
              f_X11_refuse v7 M7 (fun v16 M16 =>
                K v16 M16)))) ∧
        ((¬ a5 ≤ (3 : Int32)) →
          f_X11_kind_b18 K M3))))
def f_X11_term_b18 (K : Int32 → Mem → Prop) (M : Mem) : Prop :=
  f_X11_refuse (-2 : Int32) M (fun v6 M6 =>
    K v6 M6)
def f_X11_term (a1 : Int32) (a2 : Int32) (a3 : Int32) (M : Mem) (K : Int32 → Mem → Prop) : Prop :=
  ((a1 < 0) →
    f_X11_term_b18 K M) ∧
  ((¬ a1 < 0) →
    (((5 : Int32) ≤ a1) →
      f_X11_term_b18 K M) ∧
    ((¬ (5 : Int32) ≤ a1) →
      ((a2 < 0) →
        f_X11_term_b18 K M) ∧
      ((¬ a2 < 0) →
        ((a2 ≤ (2 : Int32)) →
          vp_in a2 3 ∧
          f_X11_outside a3 (0 : Int32) (sv 0 a2.toNatClampNeg) M (fun v12 M12 =>
            ((v12 = 0) →
              vp_in a1 5 ∧
              vp_in a2 3 ∧
              vp_in a1 5 ∧
              vp_in a2 3 ∧
              K (M12 (119 + 1 * a1.toNatClampNeg) a2.toNatClampNeg) (mset M12 (119 + 1 * a1.toNatClampNeg) a2.toNatClampNeg a3)) ∧
            ((¬ v12 = 0) →
              f_X11_refuse v12 M12 (fun v18 M18 =>
                K v18 M18)))) ∧
        ((¬ a2 ≤ (2 : Int32)) →
          f_X11_term_b18 K M))))
def f_X5_begin (t : Nat) (a1 : Int32) (a2 : Int32) (a3 : Int32) (a4 : Int32) (M : Mem) (K : Mem → Prop) : Prop :=
  isMat t ∧
  K (mset (mset (mset (mset (mset M t 2 a1) t 3 a2) t 4 a3) t 5 a4) t 6 ((mset (mset (mset (mset M t 2 a1) t 3 a2) t 4 a3) t 5 a4) 1 0))
def f_X5_takeTerms (t : Nat) (a1 : Int32) (a2 : Int32) (a3 : Int32) (a4 : Int32) (M : Mem) (K : Mem → Prop) : Prop :=
  isMat t ∧
  bz a4 ∧
  K (mset (mset (mset (mset M t 7 a1) t 8 a2) t 9 a3) t 10 a4)
def f_X11_open_b152 (K : Int32 → Mem → Prop) (s0 : Int32) (s1 : Int32) (s2 : Int32) (s3 : Int32) (s4 : Nat) (M : Mem) : Prop :=
  isMat s4 ∧
  f_X5_takeTerms s4 s3 s2 s1 s0 M (fun M6 =>
    K (((M6 0 5) + (1 : Int32)) - (1 : Int32)) (mset M6 0 5 ((M6 0 5) + (1 : Int32))))
def f_X11_open (a1 : Int32) (a2 : Int32) (a3 : Int32) (a4 : Int32) (M : Mem) (K : Int32 → Mem → Prop) : Prop :=
  f_X11_isWhat a1 M (fun v7 M7 =>
    ((¬ v7 = 0) →
      f_X11_wrongTopic a2 a3 M7 (fun v9 M9 =>
        f_X11_fullAt (M9 0 5) (40 : Int32) M9 (fun v10 M10 =>
          f_X11_worse v9 v10 M10 (fun v11 M11 =>
            ((v11 = 0) →
              f_X11_tellFacts a2 a3 a4 M11 (fun M13 =>
                f_X0_bearingOn a1 (M13 1 0) M13 (fun v14 M14 =>
                  f_X0_giverAmong v14 M14 (fun v15 M15 =>
                    f_X0_kindOf v15 M15 (fun v16 M16 =>
                      vp_in (M16 0 5) 40 ∧
                      f_X5_begin (127 + 4 * ((M16 0 5).toNatClampNeg)) a1 a2 a3 v15 M16 (fun M18 =>
                        vp_in (M18 0 5) 40 ∧
                        vp_in v16 5 ∧
                        vp_in v16 5 ∧
                        vp_in v16 5 ∧
                        ((¬ (M18 (119 + 1 * v16.toNatClampNeg) 2) = (1 : Int32)) →
                          f_X11_open_b152 K (0 : Int32) (M18 (119 + 1 * v16.toNatClampNeg) 1) (M18 (119 + 1 * v16.toNatClampNeg) 0) v16 (127 + 4 * ((M18 0 5).toNatClampNeg)) M18) ∧
                        (((M18 (119 + 1 * v16.toNatClampNeg) 2) = (1 : Int32)) →
                          f_X11_open_b152 K (1 : Int32) (M18 (119 + 1 * v16.toNatClampNeg) 1) (M18 (119 + 1 * v16.toNatClampNeg) 0) v16 (127 + 4 * ((M18 0 5).toNatClampNeg)) M18))))))) ∧
            ((¬ v11 = 0) →
              f_X11_refuse v11 M11 (fun v24 M24 =>
                K v24 M24)))))) ∧
    ((v7 = 0) →
      f_X11_refuse (-2 : Int32) M7 (fun v25 M25 =>
        K v25 M25)))
def f_X11_isMatter_b23 (K : Int32 → Mem → Prop) (s0 : Int32) (M : Mem) : Prop :=
  bz s0 ∧ K s0 M
def f_X11_isMatter_b22 (K : Int32 → Mem → Prop) (M : Mem) : Prop :=
  f_X11_isMatter_b23 K (0 : Int32) M
def f_X11_isMatter (a1 : Int32) (M : Mem) (K : Int32 → Mem → Prop) : Prop :=
  ((a1 < 0) →
    f_X11_isMatter_b22 K M) ∧
  ((¬ a1 < 0) →
    (((M 0 5) ≤ a1) →
      f_X11_isMatter_b22 K M) ∧
    ((¬ (M 0 5) ≤ a1) →
      (((40 : Int32) ≤ a1) →
        f_X11_isMatter_b22 K M) ∧
      ((¬ (40 : Int32) ≤ a1) →
        f_X11_isMatter_b23 K (1 : Int32) M)))
def f_X5_withdrawnBy_b32 (t : Nat) (r2 : Nat × Int32 × Int32 × Mem → Prop) (K : Int32 → Mem → Prop) (x0 : Nat) (x1 : Int32) (x2 : Int32) (M : Mem) : Prop :=
  isMat x0 ∧
  r2 (x0, x1, (x2 + (1 : Int32)), M)
def f_X5_withdrawnBy_c2 (t : Nat) (K : Int32 → Mem → Prop) (r2 : Nat × Int32 × Int32 × Mem → Prop) (x0 : Nat) (x1 : Int32) (x2 : Int32) (M : Mem) : Prop :=
  isMat x0 ∧
  (((M x0 11) ≤ x2) →
    K (0 : Int32) M) ∧
  ((¬ (M x0 11) ≤ x2) →
    vp_in x2 30 ∧
    ((¬ (M (x0 + 1) x2.toNatClampNeg) = (2 : Int32)) →
      f_X5_withdrawnBy_b32 t r2 K x0 x1 x2 M) ∧
    (((M (x0 + 1) x2.toNatClampNeg) = (2 : Int32)) →
      vp_in x2 30 ∧
      ((x1 < (M (x0 + 3) x2.toNatClampNeg)) →
        f_X5_withdrawnBy_b32 t r2 K x0 x1 x2 M) ∧
      ((¬ x1 < (M (x0 + 3) x2.toNatClampNeg)) →
        K (1 : Int32) M)))
def f_X5_withdrawnBy (t : Nat) (a1 : Int32) (M : Mem) (K : Int32 → Mem → Prop) : Prop :=
  isMat t ∧
  Lp (fun (r2 : Nat × Int32 × Int32 × Mem → Prop) a => f_X5_withdrawnBy_c2 t K r2 a.1 a.2.1 a.2.2.1 a.2.2.2) (t, a1, (0 : Int32), M)
def f_X5_paperDay_b94 (t : Nat) (r12 : Nat × Int32 × Int32 × Int32 × Int32 × Int32 × Mem → Prop) (K : Int32 → Mem → Prop) (x0 : Nat) (x1 : Int32) (x2 : Int32) (x3 : Int32) (x4 : Int32) (x5 : Int32) (M : Mem) : Prop :=
  isMat x0 ∧
  r12 (x0, x1, x2, x3, x4, (x5 + (-1 : Int32)), M)
def f_X5_paperDay_b53 (t : Nat) (r12 : Nat × Int32 × Int32 × Int32 × Int32 × Int32 × Mem → Prop) (K : Int32 → Mem → Prop) (x0 : Nat) (x1 : Int32) (x2 : Int32) (x3 : Int32) (x4 : Int32) (x5 : Int32) (M : Mem) : Prop :=
  isMat x0 ∧
  vp_in x5 30 ∧
  ((¬ (M (x0 + 1) x5.toNatClampNeg) = 0) →
    f_X5_paperDay_b94 t r12 K x0 x1 x2 x3 x4 x5 M) ∧
  (((M (x0 + 1) x5.toNatClampNeg) = 0) →
    vp_in x5 30 ∧
    ((¬ (M (x0 + 2) x5.toNatClampNeg) = x1) →
      f_X5_paperDay_b94 t r12 K x0 x1 x2 x3 x4 x5 M) ∧
    (((M (x0 + 2) x5.toNatClampNeg) = x1) →
      vp_in x5 30 ∧
      ((x2 < (M (x0 + 3) x5.toNatClampNeg)) →
        f_X5_paperDay_b94 t r12 K x0 x1 x2 x3 x4 x5 M) ∧
      ((¬ x2 < (M (x0 + 3) x5.toNatClampNeg)) →
        vp_in x5 30 ∧
        f_X5_paperDay_b94 t r12 K x0 x1 x2 x3 (M (x0 + 3) x5.toNatClampNeg) x5 M)))
def f_X5_paperDay_c12 (t : Nat) (K : Int32 → Mem → Prop) (r12 : Nat × Int32 × Int32 × Int32 × Int32 × Int32 × Mem → Prop) (x0 : Nat) (x1 : Int32) (x2 : Int32) (x3 : Int32) (x4 : Int32) (x5 : Int32) (M : Mem) : Prop :=
  isMat x0 ∧
  ((x5 < 0) →
    K x4 M) ∧
  ((¬ x5 < 0) →
    vp_in x5 30 ∧
    ((¬ (M (x0 + 1) x5.toNatClampNeg) = (1 : Int32)) →
      f_X5_paperDay_b53 t r12 K x0 x1 x2 x3 x4 x5 M) ∧
    (((M (x0 + 1) x5.toNatClampNeg) = (1 : Int32)) →
      vp_in x5 30 ∧
      ((¬ (M (x0 + 2) x5.toNatClampNeg) = x1) →
        f_X5_paperDay_b53 t r12 K x0 x1 x2 x3 x4 x5 M) ∧
      (((M (x0 + 2) x5.toNatClampNeg) = x1) →
        vp_in x5 30 ∧
        ((x3 < (M (x0 + 3) x5.toNatClampNeg)) →
          f_X5_paperDay_b53 t r12 K x0 x1 x2 x3 x4 x5 M) ∧
        ((¬ x3 < (M (x0 + 3) x5.toNatClampNeg)) →
          K x4 M))))
def f_X5_paperDay (t : Nat) (a1 : Int32) (a2 : Int32) (a3 : Int32) (M : Mem) (K : Int32 → Mem → Prop) : Prop :=
  isMat t ∧
  Lp (fun (r12 : Nat × Int32 × Int32 × Int32 × Int32 × Int32 × Mem → Prop) a => f_X5_paperDay_c12 t K r12 a.1 a.2.1 a.2.2.1 a.2.2.2.1 a.2.2.2.2.1 a.2.2.2.2.2.1 a.2.2.2.2.2.2) (t, a1, a2, a3, (-9 : Int32), ((M t 11) - (1 : Int32)), M)
def f_X5_isFull_b14 (t : Nat) (K : Int32 → Mem → Prop) (s0 : Int32) (M : Mem) : Prop :=
  bz s0 ∧ K s0 M
def f_X5_isFull (t : Nat) (M : Mem) (K : Int32 → Mem → Prop) : Prop :=
  isMat t ∧
  (((M t 11) < (30 : Int32)) →
    f_X5_isFull_b14 t K (0 : Int32) M) ∧
  ((¬ (M t 11) < (30 : Int32)) →
    f_X5_isFull_b14 t K (1 : Int32) M)
def f_X5_tell_b55 (t : Nat) (K : Int32 → Mem → Prop) (x0 : Nat) (M : Mem) : Prop :=
  isMat x0 ∧
  K (M x0 11) M
def f_X5_tell (t : Nat) (a1 : Int32) (a2 : Int32) (M : Mem) (K : Int32 → Mem → Prop) : Prop :=
  isMat t ∧
  (((30 : Int32) ≤ (M t 11)) →
    f_X5_tell_b55 t K t M) ∧
  ((¬ (30 : Int32) ≤ (M t 11)) →
    vp_in (M t 11) 30 ∧
    vp_in ((mset M (t + 1) ((M t 11).toNatClampNeg) a1) t 11) 30 ∧
    vp_in ((mset (mset M (t + 1) ((M t 11).toNatClampNeg) a1) (t + 2) (((mset M (t + 1) ((M t 11).toNatClampNeg) a1) t 11).toNatClampNeg) a2) t 11) 30 ∧
    f_X5_tell_b55 t K t (mset (mset (mset (mset M (t + 1) ((M t 11).toNatClampNeg) a1) (t + 2) (((mset M (t + 1) ((M t 11).toNatClampNeg) a1) t 11).toNatClampNeg) a2) (t + 3) (((mset (mset M (t + 1) ((M t 11).toNatClampNeg) a1) (t + 2) (((mset M (t + 1) ((M t 11).toNatClampNeg) a1) t 11).toNatClampNeg) a2) t 11).toNatClampNeg) ((mset (mset M (t + 1) ((M t 11).toNatClampNeg) a1) (t + 2) (((mset M (t + 1) ((M t 11).toNatClampNeg) a1) t 11).toNatClampNeg) a2) 1 0)) t 11 (((mset (mset (mset M (t + 1) ((M t 11).toNatClampNeg) a1) (t + 2) (((mset M (t + 1) ((M t 11).toNatClampNeg) a1) t 11).toNatClampNeg) a2) (t + 3) (((mset (mset M (t + 1) ((M t 11).toNatClampNeg) a1) (t + 2) (((mset M (t + 1) ((M t 11).toNatClampNeg) a1) t 11).toNatClampNeg) a2) t 11).toNatClampNeg) ((mset (mset M (t + 1) ((M t 11).toNatClampNeg) a1) (t + 2) (((mset M (t + 1) ((M t 11).toNatClampNeg) a1) t 11).toNatClampNeg) a2) 1 0)) t 11) + (1 : Int32))))
def f_X11_paper_b18 (K : Int32 → Mem → Prop) (M : Mem) : Prop :=
  f_X11_refuse (-1 : Int32) M (fun v2 M2 =>
    K v2 M2)
def f_X11_paper_b116 (K : Int32 → Mem → Prop) (x2 : Int32) (s0 : Int32) (s1 : Nat) (M : Mem) : Prop :=
  isMat s1 ∧
  f_X5_tell s1 s0 x2 M (fun v3 M3 =>
    K v3 M3)
def f_X11_paper_b90 (K : Int32 → Mem → Prop) (x2 : Int32) (x3 : Int32) (x4 : Nat) (M : Mem) : Prop :=
  isMat x4 ∧
  f_X5_isFull x4 M (fun v4 M4 =>
    ((v4 = 0) →
      ((x3 = 0) →
        f_X11_paper_b116 K x2 (1 : Int32) x4 M4) ∧
      ((¬ x3 = 0) →
        f_X11_paper_b116 K x2 (0 : Int32) x4 M4)) ∧
    ((¬ v4 = 0) →
      f_X11_refuse (-6 : Int32) M4 (fun v7 M7 =>
        K v7 M7)))
def f_X11_paper (a1 : Int32) (a2 : Int32) (a3 : Int32) (M : Mem) (K : Int32 → Mem → Prop) : Prop :=
  f_X11_isMatter a1 M (fun v8 M8 =>
    ((v8 = 0) →
      f_X11_paper_b18 K M8) ∧
    ((¬ v8 = 0) →
      ((a2 < 0) →
        f_X11_paper_b18 K M8) ∧
      ((¬ a2 < 0) →
        ((a2 < (8 : Int32)) →
          vp_in a1 40 ∧
          f_X5_withdrawnBy (127 + 4 * a1.toNatClampNeg) (M8 1 0) M8 (fun v13 M13 =>
            ((v13 = 0) →
              ((¬ a3 = 0) →
                f_X11_paper_b90 K a2 a3 (127 + 4 * a1.toNatClampNeg) M13) ∧
              ((a3 = 0) →
                f_X5_paperDay (127 + 4 * a1.toNatClampNeg) a2 (M13 1 0) (M13 1 0) M13 (fun v16 M16 =>
                  ((¬ v16 = (-9 : Int32)) →
                    f_X11_paper_b90 K a2 a3 (127 + 4 * a1.toNatClampNeg) M16) ∧
                  ((v16 = (-9 : Int32)) →
                    f_X11_refuse (-3 : Int32) M16 (fun v18 M18 =>
                      K v18 M18))))) ∧
            ((¬ v13 = 0) →
              f_X11_refuse (-3 : Int32) M13 (fun v19 M19 =>
                K v19 M19)))) ∧
        ((¬ a2 < (8 : Int32)) →
          f_X11_paper_b18 K M8))))
def f_X11_withdraw (a1 : Int32) (M : Mem) (K : Int32 → Mem → Prop) : Prop :=
  f_X11_isMatter a1 M (fun v2 M2 =>
    ((¬ v2 = 0) →
      vp_in a1 40 ∧
      f_X5_withdrawnBy (127 + 4 * a1.toNatClampNeg) (M2 1 0) M2 (fun v5 M5 =>
        ((v5 = 0) →
          f_X5_isFull (127 + 4 * a1.toNatClampNeg) M5 (fun v7 M7 =>
            ((v7 = 0) →
              f_X5_tell (127 + 4 * a1.toNatClampNeg) (2 : Int32) (0 : Int32) M7 (fun v9 M9 =>
                K (1 : Int32) M9)) ∧
            ((¬ v7 = 0) →
              f_X11_refuse (-6 : Int32) M7 (fun v10 M10 =>
                K v10 M10)))) ∧
        ((¬ v5 = 0) →
          f_X11_refuse (-3 : Int32) M5 (fun v11 M11 =>
            K v11 M11)))) ∧
    ((v2 = 0) →
      f_X11_refuse (-1 : Int32) M2 (fun v12 M12 =>
        K v12 M12)))
def f_X5_lastRuling_b61 (t : Nat) (r7 : Nat × Int32 × Int32 × Int32 × Mem → Prop) (K : Int32 → Mem → Prop) (x0 : Nat) (x1 : Int32) (x2 : Int32) (x3 : Int32) (M : Mem) : Prop :=
  isMat x0 ∧
  r7 (x0, x1, x2, (x3 + (-1 : Int32)), M)
def f_X5_lastRuling_b34 (t : Nat) (r7 : Nat × Int32 × Int32 × Int32 × Mem → Prop) (K : Int32 → Mem → Prop) (x0 : Nat) (x1 : Int32) (x2 : Int32) (x3 : Int32) (M : Mem) : Prop :=
  isMat x0 ∧
  vp_in x3 30 ∧
  ((¬ (M (x0 + 1) x3.toNatClampNeg) = (4 : Int32)) →
    f_X5_lastRuling_b61 t r7 K x0 x1 x2 x3 M) ∧
  (((M (x0 + 1) x3.toNatClampNeg) = (4 : Int32)) →
    vp_in x3 30 ∧
    ((x1 < (M (x0 + 3) x3.toNatClampNeg)) →
      f_X5_lastRuling_b61 t r7 K x0 x1 x2 x3 M) ∧
    ((¬ x1 < (M (x0 + 3) x3.toNatClampNeg)) →
      vp_in x3 30 ∧
      K (M (x0 + 2) x3.toNatClampNeg) M))
def f_X5_lastRuling_c7 (t : Nat) (K : Int32 → Mem → Prop) (r7 : Nat × Int32 × Int32 × Int32 × Mem → Prop) (x0 : Nat) (x1 : Int32) (x2 : Int32) (x3 : Int32) (M : Mem) : Prop :=
  isMat x0 ∧
  ((x3 < 0) →
    K (-9 : Int32) M) ∧
  ((¬ x3 < 0) →
    vp_in x3 30 ∧
    ((¬ (M (x0 + 1) x3.toNatClampNeg) = (5 : Int32)) →
      f_X5_lastRuling_b34 t r7 K x0 x1 x2 x3 M) ∧
    (((M (x0 + 1) x3.toNatClampNeg) = (5 : Int32)) →
      vp_in x3 30 ∧
      ((x2 < (M (x0 + 3) x3.toNatClampNeg)) →
        f_X5_lastRuling_b34 t r7 K x0 x1 x2 x3 M) ∧
      ((¬ x2 < (M (x0 + 3) x3.toNatClampNeg)) →
        K (-9 : Int32) M)))
def f_X5_lastRuling (t : Nat) (a1 : Int32) (a2 : Int32) (M : Mem) (K : Int32 → Mem → Prop) : Prop :=
  isMat t ∧
  Lp (fun (r7 : Nat × Int32 × Int32 × Int32 × Mem → Prop) a => f_X5_lastRuling_c7 t K r7 a.1 a.2.1 a.2.2.1 a.2.2.2.1 a.2.2.2.2) (t, a1, a2, ((M t 11) - (1 : Int32)), M)
def f_X2_isVoidBy_b27 (K : Int32 → Mem → Prop) (s0 : Int32) (M : Mem) : Prop :=
  bz s0 ∧ K s0 M
def f_X2_isVoidBy_b26 (K : Int32 → Mem → Prop) (M : Mem) : Prop :=
  f_X2_isVoidBy_b27 K (0 : Int32) M
def f_X2_isVoidBy (a1 : Int32) (a2 : Int32) (M : Mem) (K : Int32 → Mem → Prop) : Prop :=
  ((a1 < 0) →
    f_X2_isVoidBy_b26 K M) ∧
  ((¬ a1 < 0) →
    (((M 51 5) ≤ a1) →
      f_X2_isVoidBy_b26 K M) ∧
    ((¬ (M 51 5) ≤ a1) →
      vp_in a1 30 ∧
      ((a2 < (M 59 a1.toNatClampNeg)) →
        f_X2_isVoidBy_b26 K M) ∧
      ((¬ a2 < (M 59 a1.toNatClampNeg)) →
        f_X2_isVoidBy_b27 K (1 : Int32) M)))
def f_X5_lastAnswer_b59 (t : Nat) (r7 : Nat × Int32 × Int32 × Int32 × Mem → Prop) (K : Int32 → Mem → Prop) (x0 : Nat) (x1 : Int32) (x2 : Int32) (x3 : Int32) (M : Mem) : Prop :=
  isMat x0 ∧
  r7 (x0, x1, x2, (x3 + (-1 : Int32)), M)
def f_X5_lastAnswer_c7 (t : Nat) (K : Int32 → Mem → Prop) (r7 : Nat × Int32 × Int32 × Int32 × Mem → Prop) (x0 : Nat) (x1 : Int32) (x2 : Int32) (x3 : Int32) (M : Mem) : Prop :=
  isMat x0 ∧
  ((x3 < 0) →
    K (-9 : Int32) M) ∧
  ((¬ x3 < 0) →
    vp_in x3 30 ∧
    ((¬ (M (x0 + 1) x3.toNatClampNeg) = (3 : Int32)) →
      f_X5_lastAnswer_b59 t r7 K x0 x1 x2 x3 M) ∧
    (((M (x0 + 1) x3.toNatClampNeg) = (3 : Int32)) →
      vp_in x3 30 ∧
      ((x1 < (M (x0 + 3) x3.toNatClampNeg)) →
        f_X5_lastAnswer_b59 t r7 K x0 x1 x2 x3 M) ∧
      ((¬ x1 < (M (x0 + 3) x3.toNatClampNeg)) →
        vp_in x3 30 ∧
        f_X2_isVoidBy ((M (x0 + 2) x3.toNatClampNeg) / (2 : Int32)) x2 M (fun v11 M11 =>
          ((¬ v11 = 0) →
            f_X5_lastAnswer_b59 t r7 K x0 x1 x2 x3 M11) ∧
          ((v11 = 0) →
            vp_in x3 30 ∧
            K ((M11 (x0 + 2) x3.toNatClampNeg) - (M11 (x0 + 2) x3.toNatClampNeg) / (2 : Int32) * (2 : Int32)) M11)))))
def f_X5_lastAnswer (t : Nat) (a1 : Int32) (a2 : Int32) (M : Mem) (K : Int32 → Mem → Prop) : Prop :=
  isMat t ∧
  Lp (fun (r7 : Nat × Int32 × Int32 × Int32 × Mem → Prop) a => f_X5_lastAnswer_c7 t K r7 a.1 a.2.1 a.2.2.1 a.2.2.2.1 a.2.2.2.2) (t, a1, a2, ((M t 11) - (1 : Int32)), M)
def f_X5_wholeSince_b57 (t : Nat) (r8 : Nat × Int32 × Int32 × Int32 × Int32 × Mem → Prop) (K : Int32 → Mem → Prop) (x0 : Nat) (x1 : Int32) (x2 : Int32) (x3 : Int32) (x4 : Int32) (M : Mem) : Prop :=
  isMat x0 ∧
  r8 (x0, x1, x2, x3, (x4 + (1 : Int32)), M)
def f_X5_wholeSince_c8 (t : Nat) (K : Int32 → Mem → Prop) (r8 : Nat × Int32 × Int32 × Int32 × Int32 × Mem → Prop) (x0 : Nat) (x1 : Int32) (x2 : Int32) (x3 : Int32) (x4 : Int32) (M : Mem) : Prop :=
  isMat x0 ∧
  (((8 : Int32) ≤ x4) →
    K x3 M) ∧
  ((¬ (8 : Int32) ≤ x4) →
    ((¬ (((M x0 8) >>> (x4 &&& 31)) &&& (1 : Int32)) = 0) →
      f_X5_paperDay x0 x4 x1 x2 M (fun v3 M3 =>
        ((¬ v3 = (-9 : Int32)) →
          f_X5_wholeSince_b57 t r8 K x0 x1 x2 (if x3 < v3 then v3 else x3) x4 M3) ∧
        ((v3 = (-9 : Int32)) →
          K (-9 : Int32) M3))) ∧
    (((((M x0 8) >>> (x4 &&& 31)) &&& (1 : Int32)) = 0) →
      f_X5_wholeSince_b57 t r8 K x0 x1 x2 x3 x4 M))
def f_X5_wholeSince (t : Nat) (a1 : Int32) (a2 : Int32) (M : Mem) (K : Int32 → Mem → Prop) : Prop :=
  isMat t ∧
  Lp (fun (r8 : Nat × Int32 × Int32 × Int32 × Int32 × Mem → Prop) a => f_X5_wholeSince_c8 t K r8 a.1 a.2.1 a.2.2.1 a.2.2.2.1 a.2.2.2.2.1 a.2.2.2.2.2) (t, a1, a2, (M t 6), (0 : Int32), M)
def f_X5_stateOn_b44 (t : Nat) (K : Int32 → Mem → Prop) (s0 : Int32) (M : Mem) : Prop :=
  K s0 M
def f_X5_stateOn_b71 (t : Nat) (K : Int32 → Mem → Prop) (s0 : Int32) (M : Mem) : Prop :=
  K s0 M
def f_X5_stateOn_b133 (t : Nat) (K : Int32 → Mem → Prop) (s0 : Int32) (M : Mem) : Prop :=
  K s0 M
def f_X5_stateOn (t : Nat) (a1 : Int32) (a2 : Int32) (M : Mem) (K : Int32 → Mem → Prop) : Prop :=
  isMat t ∧
  f_X5_withdrawnBy t a1 M (fun v1 M1 =>
    ((v1 = 0) →
      ((¬ (M1 t 7) = 0) →
        f_X5_lastRuling t a1 a2 M1 (fun v4 M4 =>
          ((v4 = (-9 : Int32)) →
            f_X5_lastAnswer t a1 a2 M4 (fun v6 M6 =>
              ((v6 = (-9 : Int32)) →
                f_X5_wholeSince t a1 a2 M6 (fun v8 M8 =>
                  ((¬ v8 = (-9 : Int32)) →
                    ((¬ (M8 t 7) = (1 : Int32)) →
                      f_X3_workdaysBehind v8 a1 M8 (fun v11 M11 =>
                        (((M11 t 9) < v11) →
                          (((M11 t 10) = 0) →
                            f_X5_stateOn_b133 t K (7 : Int32) M11) ∧
                          ((¬ (M11 t 10) = 0) →
                            f_X5_stateOn_b133 t K (6 : Int32) M11)) ∧
                        ((¬ (M11 t 9) < v11) →
                          K (3 : Int32) M11))) ∧
                    (((M8 t 7) = (1 : Int32)) →
                      K (6 : Int32) M8)) ∧
                  ((v8 = (-9 : Int32)) →
                    K (2 : Int32) M8))) ∧
              ((¬ v6 = (-9 : Int32)) →
                ((¬ v6 = (1 : Int32)) →
                  f_X5_stateOn_b71 t K (5 : Int32) M6) ∧
                ((v6 = (1 : Int32)) →
                  f_X5_stateOn_b71 t K (4 : Int32) M6)))) ∧
          ((¬ v4 = (-9 : Int32)) →
            ((¬ v4 = (1 : Int32)) →
              f_X5_stateOn_b44 t K (9 : Int32) M4) ∧
            ((v4 = (1 : Int32)) →
              f_X5_stateOn_b44 t K (8 : Int32) M4)))) ∧
      (((M1 t 7) = 0) →
        K (0 : Int32) M1)) ∧
    ((¬ v1 = 0) →
      K (1 : Int32) M1))
def f_X11_state_b22 (K : Int32 → Mem → Prop) (M : Mem) : Prop :=
  f_X11_refuse (-4 : Int32) M (fun v3 M3 =>
    K v3 M3)
def f_X11_state_b58 (K : Int32 → Mem → Prop) (M : Mem) : Prop :=
  f_X11_refuse (-3 : Int32) M (fun v4 M4 =>
    K v4 M4)
def f_X11_state (a1 : Int32) (a2 : Int32) (a3 : Int32) (M : Mem) (K : Int32 → Mem → Prop) : Prop :=
  f_X11_isMatter a1 M (fun v5 M5 =>
    ((¬ v5 = 0) →
      ((a2 < 0) →
        f_X11_state_b22 K M5) ∧
      ((¬ a2 < 0) →
        ((0 ≤ a3) →
          vp_in a1 40 ∧
          ((a2 < (M5 (127 + 4 * a1.toNatClampNeg) 6)) →
            f_X11_state_b58 K M5) ∧
          ((¬ a2 < (M5 (127 + 4 * a1.toNatClampNeg) 6)) →
            ((a3 < a2) →
              f_X11_state_b58 K M5) ∧
            ((¬ a3 < a2) →
              ((a3 ≤ (M5 1 0)) →
                vp_in a1 40 ∧
                f_X5_stateOn (127 + 4 * a1.toNatClampNeg) a2 a3 M5 (fun v14 M14 =>
                  K v14 M14)) ∧
              ((¬ a3 ≤ (M5 1 0)) →
                f_X11_state_b58 K M5)))) ∧
        ((¬ 0 ≤ a3) →
          f_X11_state_b22 K M5))) ∧
    ((v5 = 0) →
      f_X11_refuse (-1 : Int32) M5 (fun v15 M15 =>
        K v15 M15)))
def f_X5_lets_b45 (t : Nat) (K : Int32 → Mem → Prop) (s0 : Int32) (M : Mem) : Prop :=
  bz s0 ∧ K s0 M
def f_X5_lets_b57 (t : Nat) (K : Int32 → Mem → Prop) (s0 : Int32) (M : Mem) : Prop :=
  bz s0 ∧ K s0 M
def f_X5_lets_b79 (t : Nat) (K : Int32 → Mem → Prop) (s0 : Int32) (M : Mem) : Prop :=
  bz s0 ∧ K s0 M
def f_X5_lets_b74 (t : Nat) (K : Int32 → Mem → Prop) (M : Mem) : Prop :=
  f_X5_lets_b79 t K (1 : Int32) M
def f_X5_lets_b102 (t : Nat) (K : Int32 → Mem → Prop) (s0 : Int32) (M : Mem) : Prop :=
  bz s0 ∧ K s0 M
def f_X5_lets_b97 (t : Nat) (K : Int32 → Mem → Prop) (M : Mem) : Prop :=
  f_X5_lets_b102 t K (1 : Int32) M
def f_X5_lets_b135 (t : Nat) (K : Int32 → Mem → Prop) (s0 : Int32) (M : Mem) : Prop :=
  bz s0 ∧ K s0 M
def f_X5_lets_b130 (t : Nat) (K : Int32 → Mem → Prop) (M : Mem) : Prop :=
  f_X5_lets_b135 t K (1 : Int32) M
def f_X5_lets (t : Nat) (a1 : Int32) (M : Mem) (K : Int32 → Mem → Prop) : Prop :=
  isMat t ∧
  (((M t 7).toInt < 0 ∨ 3 < (M t 7).toInt) →
    ((a1 = (2 : Int32)) →
      f_X5_lets_b130 t K M) ∧
    ((¬ a1 = (2 : Int32)) →
      ((a1 = (3 : Int32)) →
        f_X5_lets_b130 t K M) ∧
      ((¬ a1 = (3 : Int32)) →
        ((a1 = (4 : Int32)) →
          f_X5_lets_b130 t K M) ∧
        ((¬ a1 = (4 : Int32)) →
          ((a1 = (6 : Int32)) →
            f_X5_lets_b130 t K M) ∧
          ((¬ a1 = (6 : Int32)) →
            ((¬ a1 = (8 : Int32)) →
              f_X5_lets_b135 t K (0 : Int32) M) ∧
            ((a1 = (8 : Int32)) →
              f_X5_lets_b130 t K M)))))) ∧
  (((M t 7) = (0 : Int32)) →
    ((¬ a1 = 0) →
      f_X5_lets_b45 t K (0 : Int32) M) ∧
    ((a1 = 0) →
      f_X5_lets_b45 t K (1 : Int32) M)) ∧
  (((M t 7) = (1 : Int32)) →
    ((¬ a1 = (6 : Int32)) →
      f_X5_lets_b57 t K (0 : Int32) M) ∧
    ((a1 = (6 : Int32)) →
      f_X5_lets_b57 t K (1 : Int32) M)) ∧
  (((M t 7) = (2 : Int32)) →
    ((a1 = (4 : Int32)) →
      f_X5_lets_b74 t K M) ∧
    ((¬ a1 = (4 : Int32)) →
      ((a1 = (5 : Int32)) →
        f_X5_lets_b74 t K M) ∧
      ((¬ a1 = (5 : Int32)) →
        ((¬ a1 = (6 : Int32)) →
          f_X5_lets_b79 t K (0 : Int32) M) ∧
        ((a1 = (6 : Int32)) →
          f_X5_lets_b74 t K M)))) ∧
  (((M t 7) = (3 : Int32)) →
    ((a1 = (4 : Int32)) →
      f_X5_lets_b97 t K M) ∧
    ((¬ a1 = (4 : Int32)) →
      ((a1 = (6 : Int32)) →
        f_X5_lets_b97 t K M) ∧
      ((¬ a1 = (6 : Int32)) →
        ((¬ a1 = (8 : Int32)) →
          f_X5_lets_b102 t K (0 : Int32) M) ∧
        ((a1 = (8 : Int32)) →
          f_X5_lets_b97 t K M))))
def f_X5_letsOn (t : Nat) (a1 : Int32) (M : Mem) (K : Int32 → Mem → Prop) : Prop :=
  isMat t ∧
  f_X5_stateOn t a1 (M 1 0) M (fun v1 M1 =>
    f_X5_lets t v1 M1 (fun v2 M2 =>
      bz v2 ∧ K v2 M2))
def f_X11_matterOf_b108 (K : Int32 → Mem → Prop) (s0 : Int32) (M : Mem) : Prop :=
  K s0 M
def f_X11_matterOf (a1 : Int32) (a2 : Int32) (M : Mem) (K : Int32 → Mem → Prop) : Prop :=
  f_X11_isMatter a1 M (fun v2 M2 =>
    ((¬ v2 = 0) →
      vp_in a1 40 ∧
      ((a2.toInt < 0 ∨ 5 < a2.toInt) →
        f_X11_refuse (-2 : Int32) M2 (fun v5 M5 =>
          K v5 M5)) ∧
      ((a2 = (0 : Int32)) →
        K (M2 (127 + 4 * a1.toNatClampNeg) 7) M2) ∧
      ((a2 = (1 : Int32)) →
        K (M2 (127 + 4 * a1.toNatClampNeg) 6) M2) ∧
      ((a2 = (2 : Int32)) →
        f_X5_wholeSince (127 + 4 * a1.toNatClampNeg) (M2 1 0) (M2 1 0) M2 (fun v7 M7 =>
          K v7 M7)) ∧
      ((a2 = (3 : Int32)) →
        f_X5_letsOn (127 + 4 * a1.toNatClampNeg) (M2 1 0) M2 (fun v8 M8 =>
          ((v8 = 0) →
            f_X11_matterOf_b108 K (0 : Int32) M8) ∧
          ((¬ v8 = 0) →
            f_X11_matterOf_b108 K (1 : Int32) M8))) ∧
      ((a2 = (4 : Int32)) →
        K (M2 (127 + 4 * a1.toNatClampNeg) 11) M2) ∧
      ((a2 = (5 : Int32)) →
        K (M2 (127 + 4 * a1.toNatClampNeg) 5) M2)) ∧
    ((v2 = 0) →
      f_X11_refuse (-1 : Int32) M2 (fun v10 M10 =>
        K v10 M10)))
def f_X11_votes (a1 : Int32) (a2 : Int32) (M : Mem) (K : Int32 → Mem → Prop) : Prop :=
  f_X11_isShop a1 M (fun v3 M3 =>
    ((¬ v3 = 0) →
      f_X11_outside a2 (0 : Int32) (999 : Int32) M3 (fun v5 M5 =>
        ((v5 = 0) →
          vp_in a1 6 ∧
          vp_in a1 6 ∧
          K (M5 52 a1.toNatClampNeg) (mset M5 52 a1.toNatClampNeg a2)) ∧
        ((¬ v5 = 0) →
          f_X11_refuse v5 M5 (fun v9 M9 =>
            K v9 M9)))) ∧
    ((v3 = 0) →
      f_X11_refuse (-1 : Int32) M3 (fun v10 M10 =>
        K v10 M10)))
def f_X2_nextWinner_b59 (r5 : Int32 × Int32 × Mem → Prop) (K : Int32 → Mem → Prop) (x1 : Int32) (x2 : Int32) (M : Mem) : Prop :=
  r5 (x1, (x2 + (1 : Int32)), M)
def f_X2_nextWinner_b57 (r5 : Int32 × Int32 × Mem → Prop) (K : Int32 → Mem → Prop) (x2 : Int32) (M : Mem) : Prop :=
  f_X2_nextWinner_b59 r5 K x2 x2 M
def f_X2_nextWinner_c5 (K : Int32 → Mem → Prop) (r5 : Int32 × Int32 × Mem → Prop) (x1 : Int32) (x2 : Int32) (M : Mem) : Prop :=
  (((6 : Int32) ≤ x2) →
    K x1 M) ∧
  ((¬ (6 : Int32) ≤ x2) →
    vp_in x2 6 ∧
    (((M 52 x2.toNatClampNeg) ≤ 0) →
      f_X2_nextWinner_b59 r5 K x1 x2 M) ∧
    ((¬ (M 52 x2.toNatClampNeg) ≤ 0) →
      ((x1 < 0) →
        f_X2_nextWinner_b57 r5 K x2 M) ∧
      ((¬ x1 < 0) →
        vp_in x2 6 ∧
        vp_in x1 6 ∧
        vp_in x1 6 ∧
        vp_in x2 6 ∧
        ((((M 52 x2.toNatClampNeg) * ((M 55 x1.toNatClampNeg) + (1 : Int32))) ≤ ((M 52 x1.toNatClampNeg) * ((M 55 x2.toNatClampNeg) + (1 : Int32)))) →
          f_X2_nextWinner_b59 r5 K x1 x2 M) ∧
        ((¬ ((M 52 x2.toNatClampNeg) * ((M 55 x1.toNatClampNeg) + (1 : Int32))) ≤ ((M 52 x1.toNatClampNeg) * ((M 55 x2.toNatClampNeg) + (1 : Int32)))) →
          f_X2_nextWinner_b57 r5 K x2 M))))
def f_X2_nextWinner (M : Mem) (K : Int32 → Mem → Prop) : Prop :=
  Lp (fun (r5 : Int32 × Int32 × Mem → Prop) a => f_X2_nextWinner_c5 K r5 a.1 a.2.1 a.2.2) ((-9 : Int32), (0 : Int32), M)
def f_X2_fillSeats_b91 (K : Int32 → Mem → Prop) (M : Mem) : Prop :=
  K (M 51 1) M
def f_X2_fillSeats_c28 (K : Int32 → Mem → Prop) (r28 : Int32 × Int32 × Mem → Prop) (x1 : Int32) (x2 : Int32) (M : Mem) : Prop :=
  ((x1 ≤ x2) →
    f_X2_fillSeats_b91 K M) ∧
  ((¬ x1 ≤ x2) →
    (((9 : Int32) ≤ x2) →
      f_X2_fillSeats_b91 K M) ∧
    ((¬ (9 : Int32) ≤ x2) →
      f_X2_nextWinner M (fun v8 M8 =>
        ((0 ≤ v8) →
          vp_in v8 6 ∧
          vp_in v8 6 ∧
          vp_in x2 9 ∧
          vp_in x2 9 ∧
          r28 (x1, (x2 + (1 : Int32)), (mset (mset (mset (mset M8 55 v8.toNatClampNeg ((M8 55 v8.toNatClampNeg) + (1 : Int32))) 53 x2.toNatClampNeg v8) 54 x2.toNatClampNeg (-9 : Int32)) 51 1 (x2 + (1 : Int32))))) ∧
        ((¬ 0 ≤ v8) →
          K (M8 51 1) M8))))
def f_X2_fillSeats_c7 (K : Int32 → Mem → Prop) (r7 : Int32 × Int32 × Mem → Prop) (x1 : Int32) (x2 : Int32) (M : Mem) : Prop :=
  (((6 : Int32) ≤ x2) →
    Lp (fun (r28 : Int32 × Int32 × Mem → Prop) a => f_X2_fillSeats_c28 K r28 a.1 a.2.1 a.2.2) (x1, (0 : Int32), M)) ∧
  ((¬ (6 : Int32) ≤ x2) →
    vp_in x2 6 ∧
    r7 (x1, (x2 + (1 : Int32)), (mset M 55 x2.toNatClampNeg (0 : Int32))))
def f_X2_fillSeats (a1 : Int32) (M : Mem) (K : Int32 → Mem → Prop) : Prop :=
  Lp (fun (r7 : Int32 × Int32 × Mem → Prop) a => f_X2_fillSeats_c7 K r7 a.1 a.2.1 a.2.2) (a1, (0 : Int32), (mset M 51 1 (0 : Int32)))
def f_X11_elect (a1 : Int32) (M : Mem) (K : Int32 → Mem → Prop) : Prop :=
  f_X11_outside a1 (1 : Int32) (9 : Int32) M (fun v1 M1 =>
    ((v1 = 0) →
      f_X2_fillSeats a1 M1 (fun v3 M3 =>
        K v3 M3)) ∧
    ((¬ v1 = 0) →
      f_X11_refuse v1 M1 (fun v4 M4 =>
        K v4 M4)))
def f_X2_hasSeat_b23 (K : Int32 → Mem → Prop) (s0 : Int32) (M : Mem) : Prop :=
  bz s0 ∧ K s0 M
def f_X2_hasSeat_b22 (K : Int32 → Mem → Prop) (M : Mem) : Prop :=
  f_X2_hasSeat_b23 K (0 : Int32) M
def f_X2_hasSeat (a1 : Int32) (M : Mem) (K : Int32 → Mem → Prop) : Prop :=
  ((a1 < 0) →
    f_X2_hasSeat_b22 K M) ∧
  ((¬ a1 < 0) →
    (((M 51 1) ≤ a1) →
      f_X2_hasSeat_b22 K M) ∧
    ((¬ (M 51 1) ≤ a1) →
      (((9 : Int32) ≤ a1) →
        f_X2_hasSeat_b22 K M) ∧
      ((¬ (9 : Int32) ≤ a1) →
        f_X2_hasSeat_b23 K (1 : Int32) M)))
def f_X11_seat_b26 (K : Int32 → Mem → Prop) (M : Mem) : Prop :=
  f_X11_refuse (-2 : Int32) M (fun v3 M3 =>
    K v3 M3)
def f_X11_seat_b58 (K : Int32 → Mem → Prop) (s0 : Int32) (M : Mem) : Prop :=
  K s0 M
def f_X11_seat (a1 : Int32) (a2 : Int32) (M : Mem) (K : Int32 → Mem → Prop) : Prop :=
  f_X2_hasSeat a1 M (fun v4 M4 =>
    ((¬ v4 = 0) →
      ((a2 < 0) →
        f_X11_seat_b26 K M4) ∧
      ((¬ a2 < 0) →
        ((a2 ≤ (1 : Int32)) →
          ((¬ a2 = 0) →
            vp_in a1 9 ∧
            f_X11_seat_b58 K (M4 54 a1.toNatClampNeg) M4) ∧
          ((a2 = 0) →
            vp_in a1 9 ∧
            f_X11_seat_b58 K (M4 53 a1.toNatClampNeg) M4)) ∧
        ((¬ a2 ≤ (1 : Int32)) →
          f_X11_seat_b26 K M4))) ∧
    ((v4 = 0) →
      f_X11_refuse (-1 : Int32) M4 (fun v11 M11 =>
        K v11 M11)))
def f_X2_sitsElsewhere_b27 (r2 : Int32 × Int32 × Int32 × Mem → Prop) (K : Int32 → Mem → Prop) (x1 : Int32) (x2 : Int32) (x3 : Int32) (M : Mem) : Prop :=
  r2 (x1, x2, (x3 + (1 : Int32)), M)
def f_X2_sitsElsewhere_c2 (K : Int32 → Mem → Prop) (r2 : Int32 × Int32 × Int32 × Mem → Prop) (x1 : Int32) (x2 : Int32) (x3 : Int32) (M : Mem) : Prop :=
  (((M 51 1) ≤ x3) →
    K (0 : Int32) M) ∧
  ((¬ (M 51 1) ≤ x3) →
    ((x3 = x2) →
      f_X2_sitsElsewhere_b27 r2 K x1 x2 x3 M) ∧
    ((¬ x3 = x2) →
      vp_in x3 9 ∧
      ((¬ (M 54 x3.toNatClampNeg) = x1) →
        f_X2_sitsElsewhere_b27 r2 K x1 x2 x3 M) ∧
      (((M 54 x3.toNatClampNeg) = x1) →
        K (1 : Int32) M)))
def f_X2_sitsElsewhere (a1 : Int32) (a2 : Int32) (M : Mem) (K : Int32 → Mem → Prop) : Prop :=
  Lp (fun (r2 : Int32 × Int32 × Int32 × Mem → Prop) a => f_X2_sitsElsewhere_c2 K r2 a.1 a.2.1 a.2.2.1 a.2.2.2) (a1, a2, (0 : Int32), M)
def f_X11_sit_b22 (K : Int32 → Mem → Prop) (M : Mem) : Prop :=
  f_X11_refuse (-1 : Int32) M (fun v5 M5 =>
    K v5 M5)
def f_X11_sit_b73 (K : Int32 → Mem → Prop) (M : Mem) : Prop :=
  f_X11_refuse (-3 : Int32) M (fun v6 M6 =>
    K v6 M6)
def f_X11_sit (a1 : Int32) (a2 : Int32) (M : Mem) (K : Int32 → Mem → Prop) : Prop :=
  f_X2_hasSeat a1 M (fun v7 M7 =>
    ((v7 = 0) →
      f_X11_sit_b22 K M7) ∧
    ((¬ v7 = 0) →
      f_X9_has a2 M7 (fun v9 M9 =>
        ((¬ v9 = 0) →
          vp_in a2 24 ∧
          (((M9 6 a2.toNatClampNeg) = 0) →
            f_X11_sit_b73 K M9) ∧
          ((¬ (M9 6 a2.toNatClampNeg) = 0) →
            vp_in a2 24 ∧
            vp_in a1 9 ∧
            ((¬ (M9 5 a2.toNatClampNeg) = (M9 53 a1.toNatClampNeg)) →
              f_X11_sit_b73 K M9) ∧
            (((M9 5 a2.toNatClampNeg) = (M9 53 a1.toNatClampNeg)) →
              f_X2_sitsElsewhere a2 a1 M9 (fun v16 M16 =>
                ((v16 = 0) →
                  vp_in a1 9 ∧
                  K (1 : Int32) (mset M16 54 a1.toNatClampNeg a2)) ∧
                ((¬ v16 = 0) →
                  f_X11_sit_b73 K M16))))) ∧
        ((v9 = 0) →
          f_X11_sit_b22 K M9))))
def f_X11_canBePresent_b69 (K : Int32 → Mem → Prop) (M : Mem) : Prop :=
  K (0 : Int32) M
def f_X11_canBePresent_b71 (r16 : Int32 × Int32 × Mem → Prop) (K : Int32 → Mem → Prop) (x1 : Int32) (x2 : Int32) (M : Mem) : Prop :=
  r16 (x1, (x2 + (1 : Int32)), M)
def f_X11_canBePresent_c16 (K : Int32 → Mem → Prop) (r16 : Int32 × Int32 × Mem → Prop) (x1 : Int32) (x2 : Int32) (M : Mem) : Prop :=
  (((M 51 1) ≤ x2) →
    K (1 : Int32) M) ∧
  ((¬ (M 51 1) ≤ x2) →
    vp_in x2 9 ∧
    ((¬ ((x1 >>> (x2 &&& 31)) &&& (1 : Int32)) = (1 : Int32)) →
      f_X11_canBePresent_b71 r16 K x1 x2 M) ∧
    ((((x1 >>> (x2 &&& 31)) &&& (1 : Int32)) = (1 : Int32)) →
      f_X9_has (M 54 x2.toNatClampNeg) M (fun v6 M6 =>
        ((v6 = 0) →
          f_X11_canBePresent_b69 K M6) ∧
        ((¬ v6 = 0) →
          vp_in (M 54 x2.toNatClampNeg) 24 ∧
          ((¬ (M6 6 ((M 54 x2.toNatClampNeg).toNatClampNeg)) = 0) →
            f_X11_canBePresent_b71 r16 K x1 x2 M6) ∧
          (((M6 6 ((M 54 x2.toNatClampNeg).toNatClampNeg)) = 0) →
            f_X11_canBePresent_b69 K M6)))))
def f_X11_canBePresent (a1 : Int32) (M : Mem) (K : Int32 → Mem → Prop) : Prop :=
  (((a1 >>> ((M 51 1) &&& 31)) = 0) →
    Lp (fun (r16 : Int32 × Int32 × Mem → Prop) a => f_X11_canBePresent_c16 K r16 a.1 a.2.1 a.2.2) (a1, (0 : Int32), M)) ∧
  ((¬ (a1 >>> ((M 51 1) &&& 31)) = 0) →
    K (0 : Int32) M)
def f_X2_meet_b62 (K : Int32 → Mem → Prop) (s0 : Int32) (s1 : Int32) (M : Mem) : Prop :=
  vp_in s1 30 ∧
  bz s0 ∧
  vp_in (M 51 5) 30 ∧
  vp_in (M 51 5) 30 ∧
  K (((M 51 5) + (1 : Int32)) - (1 : Int32)) (mset (mset (mset (mset M 58 s1.toNatClampNeg s0) 59 ((M 51 5).toNatClampNeg) (1000000 : Int32)) 60 ((M 51 5).toNatClampNeg) (0 : Int32)) 51 5 ((M 51 5) + (1 : Int32)))
def f_X2_meet_b61 (K : Int32 → Mem → Prop) (s0 : Int32) (M : Mem) : Prop :=
  f_X2_meet_b62 K (0 : Int32) s0 M
def f_X2_meet (a1 : Int32) (a2 : Int32) (a3 : Int32) (M : Mem) (K : Int32 → Mem → Prop) : Prop :=
  (((M 51 5) < (30 : Int32)) →
    vp_in (M 51 5) 30 ∧
    vp_in (M 51 5) 30 ∧
    ((a3 = 0) →
      f_X2_meet_b61 K (M 51 5) (mset (mset M 56 ((M 51 5).toNatClampNeg) a1) 57 ((M 51 5).toNatClampNeg) a2)) ∧
    ((¬ a3 = 0) →
      f_J6_bitCount_0f7a4 a2 (mset (mset M 56 ((M 51 5).toNatClampNeg) a1) 57 ((M 51 5).toNatClampNeg) a2) (fun v15 M15 =>
        ((((2 : Int32) * v15) ≤ (M15 51 1)) →
          f_X2_meet_b61 K (M 51 5) M15) ∧
        ((¬ ((2 : Int32) * v15) ≤ (M15 51 1)) →
          f_X2_meet_b62 K (1 : Int32) (M 51 5) M15)))) ∧
  ((¬ (M 51 5) < (30 : Int32)) →
    K (-6 : Int32) M)
def f_X11_session_b8 (K : Int32 → Mem → Prop) (M : Mem) : Prop :=
  f_X11_refuse (-4 : Int32) M (fun v1 M1 =>
    K v1 M1)
def f_X11_session_b34 (K : Int32 → Mem → Prop) (M : Mem) : Prop :=
  f_X11_refuse (-3 : Int32) M (fun v2 M2 =>
    K v2 M2)
def f_X11_session_b95 (K : Int32 → Mem → Prop) (s0 : Int32) (s1 : Int32) (s2 : Int32) (M : Mem) : Prop :=
  f_X2_meet s2 s1 s0 M (fun v3 M3 =>
    K v3 M3)
def f_X11_session (a1 : Int32) (a2 : Int32) (M : Mem) (K : Int32 → Mem → Prop) : Prop :=
  ((a1 < 0) →
    f_X11_session_b8 K M) ∧
  ((¬ a1 < 0) →
    ((0 ≤ a2) →
      (((M 1 0) < a1) →
        f_X11_session_b34 K M) ∧
      ((¬ (M 1 0) < a1) →
        f_X11_canBePresent a2 M (fun v7 M7 =>
          ((¬ v7 = 0) →
            (((M7 51 5) < (30 : Int32)) →
              ((((M7 1 0) - a1) < (M7 124 0)) →
                f_X11_session_b95 K (0 : Int32) a2 (M7 1 0) M7) ∧
              ((¬ ((M7 1 0) - a1) < (M7 124 0)) →
                f_X11_session_b95 K (1 : Int32) a2 (M7 1 0) M7)) ∧
            ((¬ (M7 51 5) < (30 : Int32)) →
              f_X11_refuse (-6 : Int32) M7 (fun v11 M11 =>
                K v11 M11))) ∧
          ((v7 = 0) →
            f_X11_session_b34 K M7)))) ∧
    ((¬ 0 ≤ a2) →
      f_X11_session_b8 K M))
def f_X2_hasSession_b23 (K : Int32 → Mem → Prop) (s0 : Int32) (M : Mem) : Prop :=
  bz s0 ∧ K s0 M
def f_X2_hasSession_b22 (K : Int32 → Mem → Prop) (M : Mem) : Prop :=
  f_X2_hasSession_b23 K (0 : Int32) M
def f_X2_hasSession (a1 : Int32) (M : Mem) (K : Int32 → Mem → Prop) : Prop :=
  ((a1 < 0) →
    f_X2_hasSession_b22 K M) ∧
  ((¬ a1 < 0) →
    (((M 51 5) ≤ a1) →
      f_X2_hasSession_b22 K M) ∧
    ((¬ (M 51 5) ≤ a1) →
      (((30 : Int32) ≤ a1) →
        f_X2_hasSession_b22 K M) ∧
      ((¬ (30 : Int32) ≤ a1) →
        f_X2_hasSession_b23 K (1 : Int32) M)))
def f_X11_vote_b74 (K : Int32 → Mem → Prop) (M : Mem) : Prop :=
  f_X11_refuse (-3 : Int32) M (fun v6 M6 =>
    K v6 M6)
def f_X11_vote_b143 (K : Int32 → Mem → Prop) (M : Mem) : Prop :=
  f_X11_refuse (-3 : Int32) M (fun v7 M7 =>
    K v7 M7)
def f_X11_vote_b184 (K : Int32 → Mem → Prop) (x4 : Nat) (x5 : Int32) (s0 : Int32) (M : Mem) : Prop :=
  isMat x4 ∧
  f_X5_tell x4 (3 : Int32) (((2 : Int32) * x5) + s0) M (fun v8 M8 =>
    vp_in x5 30 ∧
    vp_in x5 30 ∧
    K s0 (mset M8 60 x5.toNatClampNeg ((M8 60 x5.toNatClampNeg) + (1 : Int32))))
def f_X11_vote_b126 (K : Int32 → Mem → Prop) (x2 : Int32) (x3 : Int32) (x4 : Nat) (x5 : Int32) (x7 : Int32) (M : Mem) : Prop :=
  isMat x4 ∧
  ((¬ ((x2 ||| x3) &&& (x7 ^^^ (-1 : Int32))) = 0) →
    f_X11_vote_b143 K M) ∧
  ((((x2 ||| x3) &&& (x7 ^^^ (-1 : Int32))) = 0) →
    (((x2 &&& x3) = 0) →
      f_X5_isFull x4 M (fun v13 M13 =>
        ((v13 = 0) →
          f_J6_bitCount_0f7a4 x2 M13 (fun v15 M15 =>
            f_J6_bitCount_0f7a4 x7 M15 (fun v16 M16 =>
              ((((2 : Int32) * v15) ≤ v16) →
                f_X11_vote_b184 K x4 x5 (0 : Int32) M16) ∧
              ((¬ ((2 : Int32) * v15) ≤ v16) →
                f_X11_vote_b184 K x4 x5 (1 : Int32) M16)))) ∧
        ((¬ v13 = 0) →
          f_X11_refuse (-6 : Int32) M13 (fun v18 M18 =>
            K v18 M18)))) ∧
    ((¬ (x2 &&& x3) = 0) →
      f_X11_vote_b143 K M))
def f_X11_vote (a1 : Int32) (a2 : Int32) (a3 : Int32) (M : Mem) (K : Int32 → Mem → Prop) : Prop :=
  f_X11_isMatter a1 M (fun v19 M19 =>
    ((¬ v19 = 0) →
      vp_in a1 40 ∧
      f_X2_hasSession ((M19 51 5) - (1 : Int32)) M19 (fun v22 M22 =>
        ((v22 = 0) →
          f_X11_vote_b74 K M22) ∧
        ((¬ v22 = 0) →
          vp_in ((M19 51 5) - (1 : Int32)) 30 ∧
          ((¬ (M22 56 (((M19 51 5) - (1 : Int32)).toNatClampNeg)) = (M22 1 0)) →
            f_X11_vote_b74 K M22) ∧
          (((M22 56 (((M19 51 5) - (1 : Int32)).toNatClampNeg)) = (M22 1 0)) →
            (((2 : Int32) ≤ (M22 (127 + 4 * a1.toNatClampNeg) 7)) →
              f_X5_stateOn (127 + 4 * a1.toNatClampNeg) (M22 1 0) (M22 1 0) M22 (fun v27 M27 =>
                vp_in ((M19 51 5) - (1 : Int32)) 30 ∧
                ((v27 = (2 : Int32)) →
                  f_X11_vote_b126 K a2 a3 (127 + 4 * a1.toNatClampNeg) ((M19 51 5) - (1 : Int32)) (M27 57 (((M19 51 5) - (1 : Int32)).toNatClampNeg)) M27) ∧
                ((¬ v27 = (2 : Int32)) →
                  ((¬ v27 = (3 : Int32)) →
                    f_X11_vote_b143 K M27) ∧
                  ((v27 = (3 : Int32)) →
                    f_X11_vote_b126 K a2 a3 (127 + 4 * a1.toNatClampNeg) ((M19 51 5) - (1 : Int32)) (M27 57 (((M19 51 5) - (1 : Int32)).toNatClampNeg)) M27)))) ∧
            ((¬ (2 : Int32) ≤ (M22 (127 + 4 * a1.toNatClampNeg) 7)) →
              f_X11_vote_b74 K M22))))) ∧
    ((v19 = 0) →
      f_X11_refuse (-1 : Int32) M19 (fun v31 M31 =>
        K v31 M31)))
def f_X11_sessionOf_b85 (K : Int32 → Mem → Prop) (s0 : Int32) (M : Mem) : Prop :=
  K s0 M
def f_X11_sessionOf_b105 (K : Int32 → Mem → Prop) (s0 : Int32) (M : Mem) : Prop :=
  K s0 M
def f_X11_sessionOf (a1 : Int32) (a2 : Int32) (M : Mem) (K : Int32 → Mem → Prop) : Prop :=
  f_X2_hasSession a1 M (fun v5 M5 =>
    ((¬ v5 = 0) →
      ((a2.toInt < 0 ∨ 3 < a2.toInt) →
        f_X11_refuse (-2 : Int32) M5 (fun v7 M7 =>
          K v7 M7)) ∧
      ((a2 = (0 : Int32)) →
        vp_in a1 30 ∧
        K (M5 56 a1.toNatClampNeg) M5) ∧
      ((a2 = (1 : Int32)) →
        vp_in a1 30 ∧
        K (M5 57 a1.toNatClampNeg) M5) ∧
      ((a2 = (2 : Int32)) →
        vp_in a1 30 ∧
        (((M5 58 a1.toNatClampNeg) = 0) →
          f_X11_sessionOf_b85 K (0 : Int32) M5) ∧
        ((¬ (M5 58 a1.toNatClampNeg) = 0) →
          f_X11_sessionOf_b85 K (1 : Int32) M5)) ∧
      ((a2 = (3 : Int32)) →
        vp_in a1 30 ∧
        (((M5 59 a1.toNatClampNeg) = (1000000 : Int32)) →
          f_X11_sessionOf_b105 K (0 : Int32) M5) ∧
        ((¬ (M5 59 a1.toNatClampNeg) = (1000000 : Int32)) →
          f_X11_sessionOf_b105 K (1 : Int32) M5))) ∧
    ((v5 = 0) →
      f_X11_refuse (-1 : Int32) M5 (fun v15 M15 =>
        K v15 M15)))
def f_X11_voids_b43 (K : Int32 → Mem → Prop) (M : Mem) : Prop :=
  f_X11_refuse (-3 : Int32) M (fun v5 M5 =>
    K v5 M5)
def f_X11_voids (a1 : Int32) (M : Mem) (K : Int32 → Mem → Prop) : Prop :=
  f_X2_hasSession a1 M (fun v6 M6 =>
    ((¬ v6 = 0) →
      vp_in a1 30 ∧
      ((¬ (M6 58 a1.toNatClampNeg) = 0) →
        f_X11_voids_b43 K M6) ∧
      (((M6 58 a1.toNatClampNeg) = 0) →
        vp_in a1 30 ∧
        (((M6 59 a1.toNatClampNeg) = (1000000 : Int32)) →
          vp_in a1 30 ∧
          vp_in a1 30 ∧
          K (M6 60 a1.toNatClampNeg) (mset M6 59 a1.toNatClampNeg (M6 1 0))) ∧
        ((¬ (M6 59 a1.toNatClampNeg) = (1000000 : Int32)) →
          f_X11_voids_b43 K M6))) ∧
    ((v6 = 0) →
      f_X11_refuse (-1 : Int32) M6 (fun v14 M14 =>
        K v14 M14)))
def f_X11_set_b9 (K : Int32 → Mem → Prop) (M : Mem) : Prop :=
  f_X11_refuse (-2 : Int32) M (fun v5 M5 =>
    K v5 M5)
def f_X11_set (a1 : Int32) (a2 : Int32) (M : Mem) (K : Int32 → Mem → Prop) : Prop :=
  ((a1 < 0) →
    f_X11_set_b9 K M) ∧
  ((¬ a1 < 0) →
    ((a1 ≤ (4 : Int32)) →
      vp_in a1 5 ∧
      vp_in a1 5 ∧
      f_X11_outside a2 (sv 1 a1.toNatClampNeg) (sv 2 a1.toNatClampNeg) M (fun v10 M10 =>
        ((v10 = 0) →
          vp_in a1 5 ∧
          vp_in a1 5 ∧
          K (M10 124 a1.toNatClampNeg) (mset M10 124 a1.toNatClampNeg a2)) ∧
        ((¬ v10 = 0) →
          f_X11_refuse v10 M10 (fun v14 M14 =>
            K v14 M14)))) ∧
    ((¬ a1 ≤ (4 : Int32)) →
      f_X11_set_b9 K M))
def f_X1_isOf_c2 (K : Int32 → Mem → Prop) (r2 : Int32 × Int32 × Mem → Prop) (x1 : Int32) (x2 : Int32) (M : Mem) : Prop :=
  (((M 62 0) ≤ x2) →
    K (0 : Int32) M) ∧
  ((¬ (M 62 0) ≤ x2) →
    vp_in x2 30 ∧
    ((¬ (M 63 x2.toNatClampNeg) = x1) →
      r2 (x1, (x2 + (1 : Int32)), M)) ∧
    (((M 63 x2.toNatClampNeg) = x1) →
      K (1 : Int32) M))
def f_X1_isOf (a1 : Int32) (M : Mem) (K : Int32 → Mem → Prop) : Prop :=
  Lp (fun (r2 : Int32 × Int32 × Mem → Prop) a => f_X1_isOf_c2 K r2 a.1 a.2.1 a.2.2) (a1, (0 : Int32), M)
def f_X1_add (a1 : Int32) (a2 : Int32) (a3 : Int32) (a4 : Int32) (a5 : Int32) (M : Mem) (K : Int32 → Mem → Prop) : Prop :=
  (((M 62 0) < (30 : Int32)) →
    vp_in (M 62 0) 30 ∧
    vp_in (M 62 0) 30 ∧
    vp_in (M 62 0) 30 ∧
    vp_in (M 62 0) 30 ∧
    vp_in (M 62 0) 30 ∧
    vp_in (M 62 0) 30 ∧
    K (((M 62 0) + (1 : Int32)) - (1 : Int32)) (mset (mset (mset (mset (mset (mset (mset M 63 ((M 62 0).toNatClampNeg) a1) 64 ((M 62 0).toNatClampNeg) a2) 65 ((M 62 0).toNatClampNeg) a3) 66 ((M 62 0).toNatClampNeg) a4) 67 ((M 62 0).toNatClampNeg) a5) 68 ((M 62 0).toNatClampNeg) (0 : Int32)) 62 0 ((M 62 0) + (1 : Int32)))) ∧
  ((¬ (M 62 0) < (30 : Int32)) →
    K (-6 : Int32) M)
def f_X11_agree_b57 (K : Int32 → Mem → Prop) (M : Mem) : Prop :=
  f_X11_refuse (-3 : Int32) M (fun v3 M3 =>
    K v3 M3)
def f_X11_agree_b164 (K : Int32 → Mem → Prop) (s0 : Int32) (s1 : Int32) (s2 : Int32) (s3 : Int32) (M : Mem) : Prop :=
  f_X1_add s3 s2 s1 s0 (M 1 0) M (fun v4 M4 =>
    K v4 M4)
def f_X11_agree_b113 (K : Int32 → Mem → Prop) (x1 : Int32) (x2 : Int32) (x3 : Int32) (x4 : Int32) (x5 : Int32) (M : Mem) : Prop :=
  f_X11_fullAt (M 62 0) (30 : Int32) M (fun v5 M5 =>
    f_X11_worse x5 v5 M5 (fun v6 M6 =>
      ((v6 = 0) →
        ((¬ x4 = (-1 : Int32)) →
          f_X11_agree_b164 K x4 x3 x2 x1 M6) ∧
        ((x4 = (-1 : Int32)) →
          f_X11_agree_b164 K (1000000 : Int32) x3 x2 x1 M6)) ∧
      ((¬ v6 = 0) →
        f_X11_refuse v6 M6 (fun v9 M9 =>
          K v9 M9))))
def f_X11_agree (a1 : Int32) (a2 : Int32) (a3 : Int32) (a4 : Int32) (M : Mem) (K : Int32 → Mem → Prop) : Prop :=
  f_X11_isMatter a1 M (fun v10 M10 =>
    ((¬ v10 = 0) →
      vp_in a1 40 ∧
      ((¬ (M10 (127 + 4 * a1.toNatClampNeg) 7) = (3 : Int32)) →
        f_X11_agree_b57 K M10) ∧
      (((M10 (127 + 4 * a1.toNatClampNeg) 7) = (3 : Int32)) →
        vp_in a1 40 ∧
        f_X5_letsOn (127 + 4 * a1.toNatClampNeg) (M10 1 0) M10 (fun v15 M15 =>
          ((v15 = 0) →
            f_X11_agree_b57 K M15) ∧
          ((¬ v15 = 0) →
            f_X1_isOf a1 M15 (fun v17 M17 =>
              ((v17 = 0) →
                f_X11_outside a2 (0 : Int32) (9999 : Int32) M17 (fun v19 M19 =>
                  f_X11_outside a3 (M19 1 0) (1000 : Int32) M19 (fun v20 M20 =>
                    f_X11_worse v19 v20 M20 (fun v21 M21 =>
                      ((a4 = (-1 : Int32)) →
                        f_X11_agree_b113 K a1 a2 a3 a4 v21 M21) ∧
                      ((¬ a4 = (-1 : Int32)) →
                        f_X11_outside a4 a3 (1000 : Int32) M21 (fun v23 M23 =>
                          f_X11_worse v21 v23 M23 (fun v24 M24 =>
                            f_X11_agree_b113 K a1 a2 a3 a4 v24 M24))))))) ∧
              ((¬ v17 = 0) →
                f_X11_agree_b57 K M17)))))) ∧
    ((v10 = 0) →
      f_X11_refuse (-1 : Int32) M10 (fun v25 M25 =>
        K v25 M25)))
def f_X1_has_b23 (K : Int32 → Mem → Prop) (s0 : Int32) (M : Mem) : Prop :=
  bz s0 ∧ K s0 M
def f_X1_has_b22 (K : Int32 → Mem → Prop) (M : Mem) : Prop :=
  f_X1_has_b23 K (0 : Int32) M
def f_X1_has (a1 : Int32) (M : Mem) (K : Int32 → Mem → Prop) : Prop :=
  ((a1 < 0) →
    f_X1_has_b22 K M) ∧
  ((¬ a1 < 0) →
    (((M 62 0) ≤ a1) →
      f_X1_has_b22 K M) ∧
    ((¬ (M 62 0) ≤ a1) →
      (((30 : Int32) ≤ a1) →
        f_X1_has_b22 K M) ∧
      ((¬ (30 : Int32) ≤ a1) →
        f_X1_has_b23 K (1 : Int32) M)))
def f_X1_endBy (a1 : Int32) (a2 : Int32) (M : Mem) (K : Int32 → Mem → Prop) : Prop :=
  vp_in a1 30 ∧
  vp_in a1 30 ∧
  vp_in a1 30 ∧
  vp_in a1 30 ∧
  K ((mset (mset M 68 a1.toNatClampNeg (1 : Int32)) 66 a1.toNatClampNeg (if a2 < (M 66 a1.toNatClampNeg) then a2 else (M 66 a1.toNatClampNeg))) 66 a1.toNatClampNeg) (mset (mset M 68 a1.toNatClampNeg (1 : Int32)) 66 a1.toNatClampNeg (if a2 < (M 66 a1.toNatClampNeg) then a2 else (M 66 a1.toNatClampNeg)))
def f_X11_cancel (a1 : Int32) (M : Mem) (K : Int32 → Mem → Prop) : Prop :=
  f_X1_has a1 M (fun v2 M2 =>
    ((¬ v2 = 0) →
      vp_in a1 30 ∧
      (((M2 68 a1.toNatClampNeg) = 0) →
        f_X1_endBy a1 ((M2 1 0) + (M2 124 1)) M2 (fun v6 M6 =>
          K v6 M6)) ∧
      ((¬ (M2 68 a1.toNatClampNeg) = 0) →
        f_X11_refuse (-3 : Int32) M2 (fun v7 M7 =>
          K v7 M7))) ∧
    ((v2 = 0) →
      f_X11_refuse (-1 : Int32) M2 (fun v8 M8 =>
        K v8 M8)))
def f_X11_holds_b60 (K : Int32 → Mem → Prop) (s0 : Int32) (M : Mem) : Prop :=
  bz s0 ∧ K s0 M
def f_X11_holds_b59 (K : Int32 → Mem → Prop) (M : Mem) : Prop :=
  f_X11_holds_b60 K (0 : Int32) M
def f_X11_holds (a1 : Int32) (M : Mem) (K : Int32 → Mem → Prop) : Prop :=
  vp_in a1 30 ∧
  f_X11_isMatter (M 63 a1.toNatClampNeg) M (fun v7 M7 =>
    ((v7 = 0) →
      f_X11_holds_b59 K M7) ∧
    ((¬ v7 = 0) →
      vp_in (M 63 a1.toNatClampNeg) 40 ∧
      vp_in (M 63 a1.toNatClampNeg) 40 ∧
      vp_in a1 30 ∧
      f_X5_stateOn (127 + 4 * ((M 63 a1.toNatClampNeg).toNatClampNeg)) (M7 67 a1.toNatClampNeg) (M7 1 0) M7 (fun v12 M12 =>
        f_X5_lets (127 + 4 * ((M 63 a1.toNatClampNeg).toNatClampNeg)) v12 M12 (fun v13 M13 =>
          ((v13 = 0) →
            f_X11_holds_b59 K M13) ∧
          ((¬ v13 = 0) →
            f_X11_holds_b60 K (1 : Int32) M13)))))
def f_X11_agreementOf_b105 (K : Int32 → Mem → Prop) (s0 : Int32) (M : Mem) : Prop :=
  K s0 M
def f_X11_agreementOf (a1 : Int32) (a2 : Int32) (M : Mem) (K : Int32 → Mem → Prop) : Prop :=
  f_X1_has a1 M (fun v5 M5 =>
    ((¬ v5 = 0) →
      ((a2.toInt < 0 ∨ 4 < a2.toInt) →
        f_X11_refuse (-2 : Int32) M5 (fun v7 M7 =>
          K v7 M7)) ∧
      ((a2 = (0 : Int32)) →
        vp_in a1 30 ∧
        K (M5 63 a1.toNatClampNeg) M5) ∧
      ((a2 = (1 : Int32)) →
        vp_in a1 30 ∧
        K (M5 64 a1.toNatClampNeg) M5) ∧
      ((a2 = (2 : Int32)) →
        vp_in a1 30 ∧
        K (M5 65 a1.toNatClampNeg) M5) ∧
      ((a2 = (3 : Int32)) →
        vp_in a1 30 ∧
        K (M5 66 a1.toNatClampNeg) M5) ∧
      ((a2 = (4 : Int32)) →
        f_X11_holds a1 M5 (fun v13 M13 =>
          ((v13 = 0) →
            f_X11_agreementOf_b105 K (0 : Int32) M13) ∧
          ((¬ v13 = 0) →
            f_X11_agreementOf_b105 K (1 : Int32) M13)))) ∧
    ((v5 = 0) →
      f_X11_refuse (-1 : Int32) M5 (fun v15 M15 =>
        K v15 M15)))
def f_X11_refuseFar (a1 : Int32) (M : Mem) (K : Int32 → Mem → Prop) : Prop :=
  f_X11_refuse a1 M (fun v1 M1 =>
    K ((1000000000 : Int32) - v1) M1)
def f_X11_contract_b16 (K : Int32 → Mem → Prop) (M : Mem) : Prop :=
  f_X11_refuseFar (-2 : Int32) M (fun v4 M4 =>
    K v4 M4)
def f_X11_contract (a1 : Int32) (a2 : Int32) (a3 : Int32) (M : Mem) (K : Int32 → Mem → Prop) : Prop :=
  f_X11_isWhat a1 M (fun v5 M5 =>
    ((v5 = 0) →
      f_X11_contract_b16 K M5) ∧
    ((¬ v5 = 0) →
      ((a3 < 0) →
        f_X11_contract_b16 K M5) ∧
      ((¬ a3 < 0) →
        ((a3 ≤ (2 : Int32)) →
          f_X11_outside a2 (-1 : Int32) (9999 : Int32) M5 (fun v9 M9 =>
            ((v9 = 0) →
              vp_in a1 8 ∧
              vp_in a1 8 ∧
              vp_in a1 8 ∧
              K (M9 69 a1.toNatClampNeg) (mset (mset M9 69 a1.toNatClampNeg a2) 70 a1.toNatClampNeg a3)) ∧
            ((¬ v9 = 0) →
              f_X11_refuseFar v9 M9 (fun v14 M14 =>
                K v14 M14)))) ∧
        ((¬ a3 ≤ (2 : Int32)) →
          f_X11_contract_b16 K M5))))
def f_X11_after_b52 (K : Int32 → Mem → Prop) (s0 : Int32) (M : Mem) : Prop :=
  K s0 M
def f_X11_after_b32 (K : Int32 → Mem → Prop) (x1 : Int32) (x2 : Int32) (s0 : Int32) (M : Mem) : Prop :=
  vp_in x1 8 ∧
  bz x2 ∧
  ((s0 = 0) →
    f_X11_after_b52 K (0 : Int32) (mset M 71 x1.toNatClampNeg x2)) ∧
  ((¬ s0 = 0) →
    f_X11_after_b52 K (1 : Int32) (mset M 71 x1.toNatClampNeg x2))
def f_X11_after (a1 : Int32) (a2 : Int32) (M : Mem) (K : Int32 → Mem → Prop) : Prop :=
  f_X11_isWhat a1 M (fun v7 M7 =>
    ((¬ v7 = 0) →
      vp_in a1 8 ∧
      (((M7 71 a1.toNatClampNeg) = a2) →
        f_X11_after_b32 K a1 a2 (0 : Int32) M7) ∧
      ((¬ (M7 71 a1.toNatClampNeg) = a2) →
        f_X11_after_b32 K a1 a2 (1 : Int32) M7)) ∧
    ((v7 = 0) →
      f_X11_refuse (-2 : Int32) M7 (fun v11 M11 =>
        K v11 M11)))
def f_X11_concerns_b57 (K : Int32 → Mem → Prop) (s0 : Int32) (M : Mem) : Prop :=
  bz s0 ∧ K s0 M
def f_X11_concerns_b56 (K : Int32 → Mem → Prop) (M : Mem) : Prop :=
  f_X11_concerns_b57 K (0 : Int32) M
def f_X11_concerns (a1 : Int32) (a2 : Int32) (a3 : Int32) (M : Mem) (K : Int32 → Mem → Prop) : Prop :=
  vp_in a1 30 ∧
  f_X11_isMatter (M 63 a1.toNatClampNeg) M (fun v6 M6 =>
    ((v6 = 0) →
      f_X11_concerns_b56 K M6) ∧
    ((¬ v6 = 0) →
      vp_in (M 63 a1.toNatClampNeg) 40 ∧
      ((¬ (M6 (127 + 4 * ((M 63 a1.toNatClampNeg).toNatClampNeg)) 2) = a3) →
        f_X11_concerns_b56 K M6) ∧
      (((M6 (127 + 4 * ((M 63 a1.toNatClampNeg).toNatClampNeg)) 2) = a3) →
        vp_in (M 63 a1.toNatClampNeg) 40 ∧
        ((¬ (((M6 (127 + 4 * ((M 63 a1.toNatClampNeg).toNatClampNeg)) 3) >>> (a2 &&& 31)) &&& (1 : Int32)) = (1 : Int32)) →
          f_X11_concerns_b56 K M6) ∧
        (((((M6 (127 + 4 * ((M 63 a1.toNatClampNeg).toNatClampNeg)) 3) >>> (a2 &&& 31)) &&& (1 : Int32)) = (1 : Int32)) →
          f_X11_concerns_b57 K (1 : Int32) M6))))
def f_X11_agreementInForce_b104 (r7 : Int32 × Int32 × Int32 × Int32 × Int32 × Mem → Prop) (K : Int32 → Mem → Prop) (x1 : Int32) (x2 : Int32) (x3 : Int32) (x4 : Int32) (x5 : Int32) (M : Mem) : Prop :=
  r7 (x1, x2, x3, x4, (x5 + (1 : Int32)), M)
def f_X11_agreementInForce_b100 (r7 : Int32 × Int32 × Int32 × Int32 × Int32 × Mem → Prop) (K : Int32 → Mem → Prop) (x1 : Int32) (x2 : Int32) (x3 : Int32) (x5 : Int32) (M : Mem) : Prop :=
  f_X11_agreementInForce_b104 r7 K x1 x2 x3 x5 x5 M
def f_X11_agreementInForce_c7 (K : Int32 → Mem → Prop) (r7 : Int32 × Int32 × Int32 × Int32 × Int32 × Mem → Prop) (x1 : Int32) (x2 : Int32) (x3 : Int32) (x4 : Int32) (x5 : Int32) (M : Mem) : Prop :=
  (((M 62 0) ≤ x5) →
    K x4 M) ∧
  ((¬ (M 62 0) ≤ x5) →
    vp_in x5 30 ∧
    ((x3 < (M 65 x5.toNatClampNeg)) →
      f_X11_agreementInForce_b104 r7 K x1 x2 x3 x4 x5 M) ∧
    ((¬ x3 < (M 65 x5.toNatClampNeg)) →
      vp_in x5 30 ∧
      (((M 66 x5.toNatClampNeg) < x3) →
        f_X11_agreementInForce_b104 r7 K x1 x2 x3 x4 x5 M) ∧
      ((¬ (M 66 x5.toNatClampNeg) < x3) →
        f_X11_concerns x5 x1 x2 M (fun v10 M10 =>
          ((v10 = 0) →
            f_X11_agreementInForce_b104 r7 K x1 x2 x3 x4 x5 M10) ∧
          ((¬ v10 = 0) →
            f_X11_holds x5 M10 (fun v12 M12 =>
              ((¬ v12 = 0) →
                ((x4 = (-9 : Int32)) →
                  f_X11_agreementInForce_b100 r7 K x1 x2 x3 x5 M12) ∧
                ((¬ x4 = (-9 : Int32)) →
                  vp_in x5 30 ∧
                  vp_in x4 30 ∧
                  (((M12 65 x5.toNatClampNeg) < (M12 65 x4.toNatClampNeg)) →
                    f_X11_agreementInForce_b104 r7 K x1 x2 x3 x4 x5 M12) ∧
                  ((¬ (M12 65 x5.toNatClampNeg) < (M12 65 x4.toNatClampNeg)) →
                    f_X11_agreementInForce_b100 r7 K x1 x2 x3 x5 M12))) ∧
              ((v12 = 0) →
                f_X11_agreementInForce_b104 r7 K x1 x2 x3 x4 x5 M12)))))))
def f_X11_agreementInForce (a1 : Int32) (a2 : Int32) (a3 : Int32) (M : Mem) (K : Int32 → Mem → Prop) : Prop :=
  Lp (fun (r7 : Int32 × Int32 × Int32 × Int32 × Int32 × Mem → Prop) a => f_X11_agreementInForce_c7 K r7 a.1 a.2.1 a.2.2.1 a.2.2.2.1 a.2.2.2.2.1 a.2.2.2.2.2) (a1, a2, a3, (-9 : Int32), (0 : Int32), M)
def f_X11_agreementEndedLast_b125 (r7 : Int32 × Int32 × Int32 × Int32 × Int32 × Mem → Prop) (K : Int32 → Mem → Prop) (x1 : Int32) (x2 : Int32) (x3 : Int32) (x4 : Int32) (x5 : Int32) (M : Mem) : Prop :=
  r7 (x1, x2, x3, x4, (x5 + (1 : Int32)), M)
def f_X11_agreementEndedLast_b121 (r7 : Int32 × Int32 × Int32 × Int32 × Int32 × Mem → Prop) (K : Int32 → Mem → Prop) (x1 : Int32) (x2 : Int32) (x3 : Int32) (x5 : Int32) (M : Mem) : Prop :=
  f_X11_agreementEndedLast_b125 r7 K x1 x2 x3 x5 x5 M
def f_X11_agreementEndedLast_b47 (r7 : Int32 × Int32 × Int32 × Int32 × Int32 × Mem → Prop) (K : Int32 → Mem → Prop) (x1 : Int32) (x2 : Int32) (x3 : Int32) (x4 : Int32) (x5 : Int32) (s0 : Int32) (M : Mem) : Prop :=
  ((s0 = 0) →
    f_X11_agreementEndedLast_b125 r7 K x1 x2 x3 x4 x5 M) ∧
  ((¬ s0 = 0) →
    vp_in x5 30 ∧
    ((x3 ≤ (M 66 x5.toNatClampNeg)) →
      f_X11_agreementEndedLast_b125 r7 K x1 x2 x3 x4 x5 M) ∧
    ((¬ x3 ≤ (M 66 x5.toNatClampNeg)) →
      f_X11_concerns x5 x1 x2 M (fun v9 M9 =>
        ((v9 = 0) →
          f_X11_agreementEndedLast_b125 r7 K x1 x2 x3 x4 x5 M9) ∧
        ((¬ v9 = 0) →
          f_X11_holds x5 M9 (fun v11 M11 =>
            ((¬ v11 = 0) →
              ((x4 = (-9 : Int32)) →
                f_X11_agreementEndedLast_b121 r7 K x1 x2 x3 x5 M11) ∧
              ((¬ x4 = (-9 : Int32)) →
                vp_in x5 30 ∧
                vp_in x4 30 ∧
                (((M11 66 x5.toNatClampNeg) < (M11 66 x4.toNatClampNeg)) →
                  f_X11_agreementEndedLast_b125 r7 K x1 x2 x3 x4 x5 M11) ∧
                ((¬ (M11 66 x5.toNatClampNeg) < (M11 66 x4.toNatClampNeg)) →
                  f_X11_agreementEndedLast_b121 r7 K x1 x2 x3 x5 M11))) ∧
            ((v11 = 0) →
              f_X11_agreementEndedLast_b125 r7 K x1 x2 x3 x4 x5 M11))))))
def f_X11_agreementEndedLast_c7 (K : Int32 → Mem → Prop) (r7 : Int32 × Int32 × Int32 × Int32 × Int32 × Mem → Prop) (x1 : Int32) (x2 : Int32) (x3 : Int32) (x4 : Int32) (x5 : Int32) (M : Mem) : Prop :=
  (((M 62 0) ≤ x5) →
    K x4 M) ∧
  ((¬ (M 62 0) ≤ x5) →
    vp_in x5 30 ∧
    vp_in x5 30 ∧
    (((M 66 x5.toNatClampNeg) < (M 65 x5.toNatClampNeg)) →
      f_X11_agreementEndedLast_b47 r7 K x1 x2 x3 x4 x5 (0 : Int32) M) ∧
    ((¬ (M 66 x5.toNatClampNeg) < (M 65 x5.toNatClampNeg)) →
      f_X11_agreementEndedLast_b47 r7 K x1 x2 x3 x4 x5 (1 : Int32) M))
def f_X11_agreementEndedLast (a1 : Int32) (a2 : Int32) (a3 : Int32) (M : Mem) (K : Int32 → Mem → Prop) : Prop :=
  Lp (fun (r7 : Int32 × Int32 × Int32 × Int32 × Int32 × Mem → Prop) a => f_X11_agreementEndedLast_c7 K r7 a.1 a.2.1 a.2.2.1 a.2.2.2.1 a.2.2.2.2.1 a.2.2.2.2.2) (a1, a2, a3, (-9 : Int32), (0 : Int32), M)
def f_X1_worthBy_b26 (K : Int32 → Mem → Prop) (s0 : Int32) (M : Mem) : Prop :=
  K s0 M
def f_X1_worthBy_b42 (K : Int32 → Mem → Prop) (x2 : Int32) (M : Mem) : Prop :=
  vp_in x2 30 ∧
  K (M 64 x2.toNatClampNeg) M
def f_X1_worthBy_b72 (K : Int32 → Mem → Prop) (s0 : Int32) (M : Mem) : Prop :=
  K s0 M
def f_X1_worthBy (a1 : Int32) (a2 : Int32) (M : Mem) (K : Int32 → Mem → Prop) : Prop :=
  vp_in a1 8 ∧
  f_X1_has a2 M (fun v8 M8 =>
    ((¬ v8 = 0) →
      (((M 69 a1.toNatClampNeg) = (-1 : Int32)) →
        f_X1_worthBy_b42 K a2 M8) ∧
      ((¬ (M 69 a1.toNatClampNeg) = (-1 : Int32)) →
        vp_in a1 8 ∧
        ((¬ (M8 70 a1.toNatClampNeg) = (2 : Int32)) →
          vp_in a1 8 ∧
          ((¬ (M8 70 a1.toNatClampNeg) = 0) →
            vp_in a2 30 ∧
            f_X1_worthBy_b72 K (if (M 69 a1.toNatClampNeg) < (M8 64 a2.toNatClampNeg) then (M8 64 a2.toNatClampNeg) else (M 69 a1.toNatClampNeg)) M8) ∧
          (((M8 70 a1.toNatClampNeg) = 0) →
            f_X1_worthBy_b72 K (M 69 a1.toNatClampNeg) M8)) ∧
        (((M8 70 a1.toNatClampNeg) = (2 : Int32)) →
          f_X1_worthBy_b42 K a2 M8))) ∧
    ((v8 = 0) →
      ((¬ (M 69 a1.toNatClampNeg) = (-1 : Int32)) →
        f_X1_worthBy_b26 K (M 69 a1.toNatClampNeg) M8) ∧
      (((M 69 a1.toNatClampNeg) = (-1 : Int32)) →
        f_X1_worthBy_b26 K (-9 : Int32) M8)))
def f_X11_worth_b31 (K : Int32 → Mem → Prop) (M : Mem) : Prop :=
  f_X11_refuse (-2 : Int32) M (fun v2 M2 =>
    K v2 M2)
def f_X11_worth_b118 (K : Int32 → Mem → Prop) (s0 : Int32) (M : Mem) : Prop :=
  K s0 M
def f_X11_worth_b97 (K : Int32 → Mem → Prop) (x2 : Int32) (x4 : Int32) (x6 : Int32) (M : Mem) : Prop :=
  ((¬ x4 = (1 : Int32)) →
    f_X1_worthBy x2 x6 M (fun v4 M4 =>
      f_X11_worth_b118 K v4 M4)) ∧
  ((x4 = (1 : Int32)) →
    f_X11_worth_b118 K x6 M)
def f_X11_worth (a1 : Int32) (a2 : Int32) (a3 : Int32) (a4 : Int32) (M : Mem) (K : Int32 → Mem → Prop) : Prop :=
  f_X11_isShop a1 M (fun v5 M5 =>
    ((¬ v5 = 0) →
      f_X11_isWhat a2 M5 (fun v7 M7 =>
        ((v7 = 0) →
          f_X11_worth_b31 K M7) ∧
        ((¬ v7 = 0) →
          ((a4 < 0) →
            f_X11_worth_b31 K M7) ∧
          ((¬ a4 < 0) →
            ((a4 ≤ (1 : Int32)) →
              f_X11_outside a3 (0 : Int32) (1000 : Int32) M7 (fun v11 M11 =>
                ((v11 = 0) →
                  f_X11_agreementInForce a1 a2 a3 M11 (fun v13 M13 =>
                    ((¬ v13 = (-9 : Int32)) →
                      f_X11_worth_b97 K a2 a4 v13 M13) ∧
                    ((v13 = (-9 : Int32)) →
                      vp_in a2 8 ∧
                      (((M13 71 a2.toNatClampNeg) = 0) →
                        f_X11_worth_b97 K a2 a4 v13 M13) ∧
                      ((¬ (M13 71 a2.toNatClampNeg) = 0) →
                        f_X11_agreementEndedLast a1 a2 a3 M13 (fun v17 M17 =>
                          f_X11_worth_b97 K a2 a4 v17 M17))))) ∧
                ((¬ v11 = 0) →
                  f_X11_refuse v11 M11 (fun v18 M18 =>
                    K v18 M18)))) ∧
            ((¬ a4 ≤ (1 : Int32)) →
              f_X11_worth_b31 K M7))))) ∧
    ((v5 = 0) →
      f_X11_refuse (-1 : Int32) M5 (fun v19 M19 =>
        K v19 M19)))
def f_X11_board_b65 (K : Int32 → Mem → Prop) (M : Mem) : Prop :=
  f_X11_refuse (-3 : Int32) M (fun v2 M2 =>
    K v2 M2)
def f_X11_board_b141 (K : Int32 → Mem → Prop) (x5 : Nat) (s0 : Int32) (M : Mem) : Prop :=
  isMat x5 ∧
  f_X5_tell x5 (4 : Int32) s0 M (fun v3 M3 =>
    K s0 M3)
def f_X11_board_b131 (K : Int32 → Mem → Prop) (x5 : Nat) (s0 : Int32) (s1 : Int32) (M : Mem) : Prop :=
  isMat x5 ∧
  (((s1 + s0) < (3 : Int32)) →
    f_X11_board_b141 K x5 (0 : Int32) M) ∧
  ((¬ (s1 + s0) < (3 : Int32)) →
    f_X11_board_b141 K x5 (1 : Int32) M)
def f_X11_board_b72 (K : Int32 → Mem → Prop) (x2 : Int32) (x3 : Int32) (x4 : Int32) (x5 : Nat) (M : Mem) : Prop :=
  isMat x5 ∧
  f_X11_outside x2 (0 : Int32) (2 : Int32) M (fun v5 M5 =>
    f_X11_outside x3 (0 : Int32) (2 : Int32) M5 (fun v6 M6 =>
      f_X11_worse v5 v6 M6 (fun v7 M7 =>
        f_X11_fullAt (M7 x5 11) (30 : Int32) M7 (fun v8 M8 =>
          f_X11_worse v7 v8 M8 (fun v9 M9 =>
            ((v9 = 0) →
              ((x4 = 0) →
                f_X11_board_b131 K x5 (0 : Int32) (x2 + x3) M9) ∧
              ((¬ x4 = 0) →
                f_X11_board_b131 K x5 (1 : Int32) (x2 + x3) M9)) ∧
            ((¬ v9 = 0) →
              f_X11_refuse v9 M9 (fun v12 M12 =>
                K v12 M12)))))))
def f_X11_board (a1 : Int32) (a2 : Int32) (a3 : Int32) (a4 : Int32) (M : Mem) (K : Int32 → Mem → Prop) : Prop :=
  f_X11_isMatter a1 M (fun v13 M13 =>
    ((¬ v13 = 0) →
      vp_in a1 40 ∧
      f_X5_stateOn (127 + 4 * a1.toNatClampNeg) (M13 1 0) (M13 1 0) M13 (fun v16 M16 =>
        (((M16 (127 + 4 * a1.toNatClampNeg) 7) < (3 : Int32)) →
          f_X11_board_b65 K M16) ∧
        ((¬ (M16 (127 + 4 * a1.toNatClampNeg) 7) < (3 : Int32)) →
          ((v16 = (5 : Int32)) →
            f_X11_board_b72 K a2 a3 a4 (127 + 4 * a1.toNatClampNeg) M16) ∧
          ((¬ v16 = (5 : Int32)) →
            ((v16 = (7 : Int32)) →
              f_X11_board_b72 K a2 a3 a4 (127 + 4 * a1.toNatClampNeg) M16) ∧
            ((¬ v16 = (7 : Int32)) →
              f_X11_board_b65 K M16))))) ∧
    ((v13 = 0) →
      f_X11_refuse (-1 : Int32) M13 (fun v20 M20 =>
        K v20 M20)))
def f_X11_court (a1 : Int32) (M : Mem) (K : Int32 → Mem → Prop) : Prop :=
  f_X11_isMatter a1 M (fun v2 M2 =>
    ((¬ v2 = 0) →
      vp_in a1 40 ∧
      f_X5_lastRuling (127 + 4 * a1.toNatClampNeg) (M2 1 0) (M2 1 0) M2 (fun v5 M5 =>
        ((¬ v5 = (-9 : Int32)) →
          f_X5_isFull (127 + 4 * a1.toNatClampNeg) M5 (fun v7 M7 =>
            ((v7 = 0) →
              f_X5_tell (127 + 4 * a1.toNatClampNeg) (5 : Int32) (0 : Int32) M7 (fun v9 M9 =>
                K (1 : Int32) M9)) ∧
            ((¬ v7 = 0) →
              f_X11_refuse (-6 : Int32) M7 (fun v10 M10 =>
                K v10 M10)))) ∧
        ((v5 = (-9 : Int32)) →
          f_X11_refuse (-3 : Int32) M5 (fun v11 M11 =>
            K v11 M11)))) ∧
    ((v2 = 0) →
      f_X11_refuse (-1 : Int32) M2 (fun v12 M12 =>
        K v12 M12)))
def f_X4_add (a1 : Int32) (a2 : Int32) (a3 : Int32) (a4 : Int32) (a5 : Int32) (M : Mem) (K : Int32 → Mem → Prop) : Prop :=
  (((M 72 0) < (60 : Int32)) →
    vp_in (M 72 0) 60 ∧
    vp_in (M 72 0) 60 ∧
    vp_in (M 72 0) 60 ∧
    vp_in (M 72 0) 60 ∧
    vp_in (M 72 0) 60 ∧
    bz a5 ∧
    K (((M 72 0) + (1 : Int32)) - (1 : Int32)) (mset (mset (mset (mset (mset (mset M 73 ((M 72 0).toNatClampNeg) a1) 74 ((M 72 0).toNatClampNeg) a2) 75 ((M 72 0).toNatClampNeg) a3) 76 ((M 72 0).toNatClampNeg) a4) 77 ((M 72 0).toNatClampNeg) a5) 72 0 ((M 72 0) + (1 : Int32)))) ∧
  ((¬ (M 72 0) < (60 : Int32)) →
    K (-6 : Int32) M)
def f_X11_deed_b141 (K : Int32 → Mem → Prop) (x1 : Int32) (x3 : Int32) (x4 : Int32) (s0 : Int32) (M : Mem) : Prop :=
  f_X4_add x1 (M 1 0) x3 x4 s0 M (fun v2 M2 =>
    K v2 M2)
def f_X11_deed_b61 (K : Int32 → Mem → Prop) (x1 : Int32) (x2 : Int32) (x3 : Int32) (x4 : Int32) (M : Mem) : Prop :=
  f_X11_wrongTopic x3 x4 M (fun v3 M3 =>
    f_X11_fullAt (M3 72 0) (60 : Int32) M3 (fun v4 M4 =>
      f_X11_worse v3 v4 M4 (fun v5 M5 =>
        ((v5 = 0) →
          f_X11_tellFacts x3 x4 (0 : Int32) M5 (fun M7 =>
            f_X0_bearingOn x2 (M7 1 0) M7 (fun v8 M8 =>
              f_X0_giverAmong v8 M8 (fun v9 M9 =>
                f_X0_kindOf v9 M9 (fun v10 M10 =>
                  ((v10 ≤ 0) →
                    f_X11_deed_b141 K x1 x3 x4 (0 : Int32) M10) ∧
                  ((¬ v10 ≤ 0) →
                    f_X11_deed_b141 K x1 x3 x4 (1 : Int32) M10)))))) ∧
        ((¬ v5 = 0) →
          f_X11_refuse v5 M5 (fun v12 M12 =>
            K v12 M12)))))
def f_X11_deed_b19 (K : Int32 → Mem → Prop) (x1 : Int32) (x2 : Int32) (x3 : Int32) (x4 : Int32) (M : Mem) : Prop :=
  f_X11_isWhat x2 M (fun v13 M13 =>
    ((¬ v13 = 0) →
      f_X11_isMatter x1 M13 (fun v15 M15 =>
        ((v15 = 0) →
          f_X11_deed_b61 K x1 x2 x3 x4 M15) ∧
        ((¬ v15 = 0) →
          vp_in x1 40 ∧
          (((M15 (127 + 4 * x1.toNatClampNeg) 2) = x2) →
            f_X11_deed_b61 K x1 x2 x3 x4 M15) ∧
          ((¬ (M15 (127 + 4 * x1.toNatClampNeg) 2) = x2) →
            f_X11_refuse (-3 : Int32) M15 (fun v19 M19 =>
              K v19 M19))))) ∧
    ((v13 = 0) →
      f_X11_refuse (-2 : Int32) M13 (fun v20 M20 =>
        K v20 M20)))
def f_X11_deed (a1 : Int32) (a2 : Int32) (a3 : Int32) (a4 : Int32) (M : Mem) (K : Int32 → Mem → Prop) : Prop :=
  ((a1 = (-1 : Int32)) →
    f_X11_deed_b19 K a1 a2 a3 a4 M) ∧
  ((¬ a1 = (-1 : Int32)) →
    f_X11_isMatter a1 M (fun v22 M22 =>
      ((¬ v22 = 0) →
        f_X11_deed_b19 K a1 a2 a3 a4 M22) ∧
      ((v22 = 0) →
        f_X11_refuse (-1 : Int32) M22 (fun v24 M24 =>
          K v24 M24))))
def f_X4_has_b23 (K : Int32 → Mem → Prop) (s0 : Int32) (M : Mem) : Prop :=
  bz s0 ∧ K s0 M
def f_X4_has_b22 (K : Int32 → Mem → Prop) (M : Mem) : Prop :=
  f_X4_has_b23 K (0 : Int32) M
def f_X4_has (a1 : Int32) (M : Mem) (K : Int32 → Mem → Prop) : Prop :=
  ((a1 < 0) →
    f_X4_has_b22 K M) ∧
  ((¬ a1 < 0) →
    (((M 72 0) ≤ a1) →
      f_X4_has_b22 K M) ∧
    ((¬ (M 72 0) ≤ a1) →
      (((60 : Int32) ≤ a1) →
        f_X4_has_b22 K M) ∧
      ((¬ (60 : Int32) ≤ a1) →
        f_X4_has_b23 K (1 : Int32) M)))
def f_X3_firstDayBeyond_c11 (K : Int32 → Mem → Prop) (r11 : Int32 × Int32 × Int32 × Mem → Prop) (x1 : Int32) (x2 : Int32) (x3 : Int32) (M : Mem) : Prop :=
  (((1000 : Int32) < x3) →
    K (1000000 : Int32) M) ∧
  ((¬ (1000 : Int32) < x3) →
    vp_in x3 1001 ∧
    vp_in x1 1001 ∧
    ((((M 3 x3.toNatClampNeg) - (M 3 x1.toNatClampNeg)) ≤ x2) →
      r11 (x1, x2, (x3 + (1 : Int32)), M)) ∧
    ((¬ ((M 3 x3.toNatClampNeg) - (M 3 x1.toNatClampNeg)) ≤ x2) →
      K x3 M))
def f_X3_firstDayBeyond (a1 : Int32) (a2 : Int32) (M : Mem) (K : Int32 → Mem → Prop) : Prop :=
  ((0 ≤ a1) →
    Lp (fun (r11 : Int32 × Int32 × Int32 × Mem → Prop) a => f_X3_firstDayBeyond_c11 K r11 a.1 a.2.1 a.2.2.1 a.2.2.2) (a1, a2, (a1 + (1 : Int32)), M)) ∧
  ((¬ 0 ≤ a1) →
    K (1000000 : Int32) M)
def f_X5_nextTurn_b34 (t : Nat) (r5 : Nat × Int32 × Int32 × Int32 × Mem → Prop) (K : Int32 → Mem → Prop) (x0 : Nat) (x1 : Int32) (x2 : Int32) (x3 : Int32) (M : Mem) : Prop :=
  isMat x0 ∧
  r5 (x0, x1, x2, (x3 + (1 : Int32)), M)
def f_X5_nextTurn_b78 (t : Nat) (K : Int32 → Mem → Prop) (s0 : Int32) (M : Mem) : Prop :=
  K s0 M
def f_X5_nextTurn_c5 (t : Nat) (K : Int32 → Mem → Prop) (r5 : Nat × Int32 × Int32 × Int32 × Mem → Prop) (x0 : Nat) (x1 : Int32) (x2 : Int32) (x3 : Int32) (M : Mem) : Prop :=
  isMat x0 ∧
  (((M x0 11) ≤ x3) →
    f_X5_wholeSince x0 x1 (M 1 0) M (fun v4 M4 =>
      f_X3_firstDayBeyond v4 (M4 x0 9) M4 (fun v5 M5 =>
        ((v5 ≤ x1) →
          f_X5_nextTurn_b78 t K x2 M5) ∧
        ((¬ v5 ≤ x1) →
          f_X5_nextTurn_b78 t K (if v5 < x2 then v5 else x2) M5)))) ∧
  ((¬ (M x0 11) ≤ x3) →
    vp_in x3 30 ∧
    (((M (x0 + 3) x3.toNatClampNeg) ≤ x1) →
      f_X5_nextTurn_b34 t r5 K x0 x1 x2 x3 M) ∧
    ((¬ (M (x0 + 3) x3.toNatClampNeg) ≤ x1) →
      vp_in x3 30 ∧
      f_X5_nextTurn_b34 t r5 K x0 x1 (if (M (x0 + 3) x3.toNatClampNeg) < x2 then (M (x0 + 3) x3.toNatClampNeg) else x2) x3 M))
def f_X5_nextTurn (t : Nat) (a1 : Int32) (M : Mem) (K : Int32 → Mem → Prop) : Prop :=
  isMat t ∧
  Lp (fun (r5 : Nat × Int32 × Int32 × Int32 × Mem → Prop) a => f_X5_nextTurn_c5 t K r5 a.1 a.2.1 a.2.2.1 a.2.2.2.1 a.2.2.2.2) (t, a1, (1000000 : Int32), (0 : Int32), M)
def f_X5_firstNotLetting_c5 (t : Nat) (K : Int32 → Mem → Prop) (r5 : Nat × Int32 × Int32 × Int32 × Mem → Prop) (x0 : Nat) (x2 : Int32) (x3 : Int32) (x4 : Int32) (M : Mem) : Prop :=
  isMat x0 ∧
  (((62 : Int32) < x4) →
    K (-9 : Int32) M) ∧
  ((¬ (62 : Int32) < x4) →
    ((x3 ≤ x2) →
      f_X5_stateOn x0 x3 (M 1 0) M (fun v3 M3 =>
        f_X5_lets x0 v3 M3 (fun v4 M4 =>
          ((¬ v4 = 0) →
            f_X5_nextTurn x0 x3 M4 (fun v6 M6 =>
              r5 (x0, x2, v6, (x4 + (1 : Int32)), M6))) ∧
          ((v4 = 0) →
            K x3 M4)))) ∧
    ((¬ x3 ≤ x2) →
      K (-9 : Int32) M))
def f_X5_firstNotLetting (t : Nat) (a1 : Int32) (a2 : Int32) (M : Mem) (K : Int32 → Mem → Prop) : Prop :=
  isMat t ∧
  Lp (fun (r5 : Nat × Int32 × Int32 × Int32 × Mem → Prop) a => f_X5_firstNotLetting_c5 t K r5 a.1 a.2.1 a.2.2.1 a.2.2.2.1 a.2.2.2.2) (t, a2, a1, (0 : Int32), M)
def f_X11_voidSince_b44 (K : Int32 → Mem → Prop) (s0 : Int32) (M : Mem) : Prop :=
  K s0 M
def f_X11_voidSince_b95 (K : Int32 → Mem → Prop) (x2 : Int32) (M : Mem) : Prop :=
  K x2 M
def f_X11_voidSince_b118 (K : Int32 → Mem → Prop) (s0 : Int32) (s1 : Int32) (s2 : Nat) (M : Mem) : Prop :=
  isMat s2 ∧
  f_X5_firstNotLetting s2 s1 s0 M (fun v8 M8 =>
    K v8 M8)
def f_X11_voidSince (a1 : Int32) (M : Mem) (K : Int32 → Mem → Prop) : Prop :=
  vp_in a1 60 ∧
  vp_in a1 60 ∧
  f_X11_isMatter (M 73 a1.toNatClampNeg) M (fun v11 M11 =>
    ((¬ v11 = 0) →
      vp_in a1 60 ∧
      vp_in (M11 73 a1.toNatClampNeg) 40 ∧
      vp_in a1 60 ∧
      ((¬ ((M11 75 a1.toNatClampNeg) &&& ((M11 (127 + 4 * ((M11 73 a1.toNatClampNeg).toNatClampNeg)) 3) ^^^ (-1 : Int32))) = 0) →
        f_X11_voidSince_b95 K (M 74 a1.toNatClampNeg) M11) ∧
      ((((M11 75 a1.toNatClampNeg) &&& ((M11 (127 + 4 * ((M11 73 a1.toNatClampNeg).toNatClampNeg)) 3) ^^^ (-1 : Int32))) = 0) →
        vp_in a1 60 ∧
        (((M11 76 a1.toNatClampNeg) ≤ (M11 (127 + 4 * ((M11 73 a1.toNatClampNeg).toNatClampNeg)) 4)) →
          ((¬ (M11 (127 + 4 * ((M11 73 a1.toNatClampNeg).toNatClampNeg)) 7) = (4 : Int32)) →
            f_X11_voidSince_b118 K (M 74 a1.toNatClampNeg) (M 74 a1.toNatClampNeg) (127 + 4 * ((M11 73 a1.toNatClampNeg).toNatClampNeg)) M11) ∧
          (((M11 (127 + 4 * ((M11 73 a1.toNatClampNeg).toNatClampNeg)) 7) = (4 : Int32)) →
            f_X11_voidSince_b118 K (M11 1 0) (M 74 a1.toNatClampNeg) (127 + 4 * ((M11 73 a1.toNatClampNeg).toNatClampNeg)) M11)) ∧
        ((¬ (M11 76 a1.toNatClampNeg) ≤ (M11 (127 + 4 * ((M11 73 a1.toNatClampNeg).toNatClampNeg)) 4)) →
          f_X11_voidSince_b95 K (M 74 a1.toNatClampNeg) M11))) ∧
    ((v11 = 0) →
      vp_in a1 60 ∧
      (((M11 77 a1.toNatClampNeg) = 0) →
        f_X11_voidSince_b44 K (-9 : Int32) M11) ∧
      ((¬ (M11 77 a1.toNatClampNeg) = 0) →
        f_X11_voidSince_b44 K (M 74 a1.toNatClampNeg) M11)))
def f_X4_hungSince_b46 (r5 : Int32 × Int32 × Int32 × Int32 × Mem → Prop) (K : Int32 → Mem → Prop) (x1 : Int32) (x2 : Int32) (x3 : Int32) (x4 : Int32) (M : Mem) : Prop :=
  r5 (x1, x2, x3, (x4 + (1 : Int32)), M)
def f_X4_hungSince_c5 (K : Int32 → Mem → Prop) (r5 : Int32 × Int32 × Int32 × Int32 × Mem → Prop) (x1 : Int32) (x2 : Int32) (x3 : Int32) (x4 : Int32) (M : Mem) : Prop :=
  (((M 72 6) ≤ x4) →
    K x3 M) ∧
  ((¬ (M 72 6) ≤ x4) →
    vp_in x4 100 ∧
    ((¬ (M 78 x4.toNatClampNeg) = x1) →
      f_X4_hungSince_b46 r5 K x1 x2 x3 x4 M) ∧
    (((M 78 x4.toNatClampNeg) = x1) →
      vp_in x4 100 ∧
      (((M 80 x4.toNatClampNeg) < x2) →
        f_X4_hungSince_b46 r5 K x1 x2 x3 x4 M) ∧
      ((¬ (M 80 x4.toNatClampNeg) < x2) →
        vp_in x4 100 ∧
        f_X4_hungSince_b46 r5 K x1 x2 (x3 + (M 79 x4.toNatClampNeg)) x4 M)))
def f_X4_hungSince (a1 : Int32) (a2 : Int32) (M : Mem) (K : Int32 → Mem → Prop) : Prop :=
  Lp (fun (r5 : Int32 × Int32 × Int32 × Int32 × Mem → Prop) a => f_X4_hungSince_c5 K r5 a.1 a.2.1 a.2.2.1 a.2.2.2.1 a.2.2.2.2) (a1, a2, (0 : Int32), (0 : Int32), M)
def f_X11_deedOf_b113 (K : Int32 → Mem → Prop) (s0 : Int32) (M : Mem) : Prop :=
  K s0 M
def f_X11_deedOf (a1 : Int32) (a2 : Int32) (M : Mem) (K : Int32 → Mem → Prop) : Prop :=
  f_X4_has a1 M (fun v3 M3 =>
    ((¬ v3 = 0) →
      ((a2.toInt < 0 ∨ 4 < a2.toInt) →
        f_X11_refuseFar (-2 : Int32) M3 (fun v5 M5 =>
          K v5 M5)) ∧
      ((a2 = (0 : Int32)) →
        vp_in a1 60 ∧
        K (M3 73 a1.toNatClampNeg) M3) ∧
      ((a2 = (1 : Int32)) →
        vp_in a1 60 ∧
        K (M3 74 a1.toNatClampNeg) M3) ∧
      ((a2 = (2 : Int32)) →
        f_X11_voidSince a1 M3 (fun v9 M9 =>
          K v9 M9)) ∧
      ((a2 = (3 : Int32)) →
        f_X4_hungSince a1 (0 : Int32) M3 (fun v10 M10 =>
          K v10 M10)) ∧
      ((a2 = (4 : Int32)) →
        f_X11_voidSince a1 M3 (fun v11 M11 =>
          ((¬ v11 = (-9 : Int32)) →
            f_X4_hungSince a1 v11 M11 (fun v13 M13 =>
              f_X11_deedOf_b113 K v13 M13)) ∧
          ((v11 = (-9 : Int32)) →
            f_X11_deedOf_b113 K (0 : Int32) M11)))) ∧
    ((v3 = 0) →
      f_X11_refuseFar (-1 : Int32) M3 (fun v14 M14 =>
        K v14 M14)))
def f_X4_hangOn_b85 (r58 : Int32 × Int32 × Int32 × Mem → Prop) (K : Int32 → Mem → Prop) (x1 : Int32) (x5 : Int32) (s0 : Int32) (s1 : Int32) (M : Mem) : Prop :=
  r58 (x1, (s1 + s0), (x5 + (1 : Int32)), M)
def f_X4_hangOn_c58 (K : Int32 → Mem → Prop) (r58 : Int32 × Int32 × Int32 × Mem → Prop) (x1 : Int32) (x4 : Int32) (x5 : Int32) (M : Mem) : Prop :=
  (((M 72 6) ≤ x5) →
    K x4 M) ∧
  ((¬ (M 72 6) ≤ x5) →
    vp_in x5 100 ∧
    ((¬ (M 78 x5.toNatClampNeg) = x1) →
      f_X4_hangOn_b85 r58 K x1 x5 (0 : Int32) x4 M) ∧
    (((M 78 x5.toNatClampNeg) = x1) →
      f_X4_hangOn_b85 r58 K x1 x5 (1 : Int32) x4 M))
def f_X4_hangOn (a1 : Int32) (a2 : Int32) (a3 : Int32) (M : Mem) (K : Int32 → Mem → Prop) : Prop :=
  (((M 72 6) < (100 : Int32)) →
    vp_in (M 72 6) 100 ∧
    vp_in (M 72 6) 100 ∧
    vp_in (M 72 6) 100 ∧
    Lp (fun (r58 : Int32 × Int32 × Int32 × Mem → Prop) a => f_X4_hangOn_c58 K r58 a.1 a.2.1 a.2.2.1 a.2.2.2) (a1, (0 : Int32), (0 : Int32), (mset (mset (mset (mset M 78 ((M 72 6).toNatClampNeg) a1) 79 ((M 72 6).toNatClampNeg) a2) 80 ((M 72 6).toNatClampNeg) a3) 72 6 ((M 72 6) + (1 : Int32))))) ∧
  ((¬ (M 72 6) < (100 : Int32)) →
    K (-6 : Int32) M)
def f_X11_hang (a1 : Int32) (a2 : Int32) (M : Mem) (K : Int32 → Mem → Prop) : Prop :=
  f_X4_has a1 M (fun v1 M1 =>
    ((¬ v1 = 0) →
      f_X11_outside a2 (1 : Int32) (9999 : Int32) M1 (fun v3 M3 =>
        f_X11_fullAt (M3 72 6) (100 : Int32) M3 (fun v4 M4 =>
          f_X11_worse v3 v4 M4 (fun v5 M5 =>
            ((v5 = 0) →
              f_X4_hangOn a1 a2 (M5 1 0) M5 (fun v7 M7 =>
                K v7 M7)) ∧
            ((¬ v5 = 0) →
              f_X11_refuse v5 M5 (fun v8 M8 =>
                K v8 M8)))))) ∧
    ((v1 = 0) →
      f_X11_refuse (-1 : Int32) M1 (fun v9 M9 =>
        K v9 M9)))
def f_X11_need_b9 (K : Int32 → Mem → Prop) (M : Mem) : Prop :=
  f_X11_refuse (-2 : Int32) M (fun v3 M3 =>
    K v3 M3)
def f_X11_need (a1 : Int32) (a2 : Int32) (M : Mem) (K : Int32 → Mem → Prop) : Prop :=
  ((a1 < 0) →
    f_X11_need_b9 K M) ∧
  ((¬ a1 < 0) →
    ((a1 ≤ (2 : Int32)) →
      f_X11_outside a2 (0 : Int32) (2 : Int32) M (fun v6 M6 =>
        ((v6 = 0) →
          vp_in a1 3 ∧
          vp_in a1 3 ∧
          f_X8_forget (mset M6 82 a1.toNatClampNeg a2) (fun M10 =>
            K (M6 82 a1.toNatClampNeg) M10)) ∧
        ((¬ v6 = 0) →
          f_X11_refuse v6 M6 (fun v11 M11 =>
            K v11 M11)))) ∧
    ((¬ a1 ≤ (2 : Int32)) →
      f_X11_need_b9 K M))
def f_X9_wishesAgainst_b23 (K : Int32 → Mem → Prop) (s0 : Int32) (M : Mem) : Prop :=
  bz s0 ∧ K s0 M
def f_X9_wishesAgainst (a1 : Int32) (a2 : Int32) (a3 : Int32) (M : Mem) (K : Int32 → Mem → Prop) : Prop :=
  vp_in a1 24 ∧
  ((¬ (((M 13 a1.toNatClampNeg) >>> ((((3 : Int32) * a2) + a3) &&& 31)) &&& (1 : Int32)) = (1 : Int32)) →
    f_X9_wishesAgainst_b23 K (0 : Int32) M) ∧
  (((((M 13 a1.toNatClampNeg) >>> ((((3 : Int32) * a2) + a3) &&& 31)) &&& (1 : Int32)) = (1 : Int32)) →
    f_X9_wishesAgainst_b23 K (1 : Int32) M)
def f_X9_turnWish (a1 : Int32) (a2 : Int32) (a3 : Int32) (M : Mem) (K : Mem → Prop) : Prop :=
  vp_in a1 24 ∧
  vp_in a1 24 ∧
  K (mset M 13 a1.toNatClampNeg ((M 13 a1.toNatClampNeg) ^^^ ((1 : Int32) <<< ((((3 : Int32) * a2) + a3) &&& 31))))
def f_X11_wish_b26 (K : Int32 → Mem → Prop) (M : Mem) : Prop :=
  f_X11_refuse (-2 : Int32) M (fun v1 M1 =>
    K v1 M1)
def f_X11_wish_b42 (K : Int32 → Mem → Prop) (M : Mem) : Prop :=
  f_X11_refuse (-3 : Int32) M (fun v2 M2 =>
    K v2 M2)
def f_X11_wish (a1 : Int32) (a2 : Int32) (a3 : Int32) (a4 : Int32) (M : Mem) (K : Int32 → Mem → Prop) : Prop :=
  f_X9_has a1 M (fun v3 M3 =>
    ((¬ v3 = 0) →
      ((a3 < 0) →
        f_X11_wish_b26 K M3) ∧
      ((¬ a3 < 0) →
        ((a3 ≤ (2 : Int32)) →
          ((a2 < 0) →
            f_X11_wish_b42 K M3) ∧
          ((¬ a2 < 0) →
            ((a2 < (4 : Int32)) →
              f_X9_wishesAgainst a1 a2 a3 M3 (fun v9 M9 =>
                ((¬ v9 = a4) →
                  f_X9_turnWish a1 a2 a3 M9 (fun M11 =>
                    f_X8_forget M11 (fun M12 =>
                      K (1 : Int32) M12))) ∧
                ((v9 = a4) →
                  K (0 : Int32) M9))) ∧
            ((¬ a2 < (4 : Int32)) →
              f_X11_wish_b42 K M3))) ∧
        ((¬ a3 ≤ (2 : Int32)) →
          f_X11_wish_b26 K M3))) ∧
    ((v3 = 0) →
      f_X11_refuse (-1 : Int32) M3 (fun v13 M13 =>
        K v13 M13)))
def f_X8_findTeam_b51 (r5 : Int32 × Int32 × Int32 × Mem → Prop) (K : Int32 → Mem → Prop) (x2 : Int32) (x3 : Int32) (x4 : Int32) (M : Mem) : Prop :=
  r5 (x2, x3, (x4 + (1 : Int32)), M)
def f_X8_findTeam_b67 (K : Int32 → Mem → Prop) (s0 : Int32) (M : Mem) : Prop :=
  bz s0 ∧ K s0 M
def f_X8_findTeam_b57 (K : Int32 → Mem → Prop) (x3 : Int32) (M : Mem) : Prop :=
  ((¬ x3 = (4 : Int32)) →
    f_X8_findTeam_b67 K (0 : Int32) M) ∧
  ((x3 = (4 : Int32)) →
    f_X8_findTeam_b67 K (1 : Int32) M)
def f_X8_findTeam_c5 (K : Int32 → Mem → Prop) (r5 : Int32 × Int32 × Int32 × Mem → Prop) (x2 : Int32) (x3 : Int32) (x4 : Int32) (M : Mem) : Prop :=
  (((M 4 0) ≤ x4) →
    f_X8_findTeam_b57 K x3 M) ∧
  ((¬ (M 4 0) ≤ x4) →
    (((4 : Int32) ≤ x3) →
      f_X8_findTeam_b57 K x3 M) ∧
    ((¬ (4 : Int32) ≤ x3) →
      vp_in x4 24 ∧
      (((M 6 x4.toNatClampNeg) = 0) →
        f_X8_findTeam_b51 r5 K x2 x3 x4 M) ∧
      ((¬ (M 6 x4.toNatClampNeg) = 0) →
        vp_in x4 24 ∧
        ((¬ (M 5 x4.toNatClampNeg) = x2) →
          f_X8_findTeam_b51 r5 K x2 x3 x4 M) ∧
        (((M 5 x4.toNatClampNeg) = x2) →
          vp_in x3 4 ∧
          f_X8_findTeam_b51 r5 K x2 (x3 + (1 : Int32)) x4 (mset M 83 x3.toNatClampNeg x4)))))
def f_X8_findTeam (a2 : Int32) (M : Mem) (K : Int32 → Mem → Prop) : Prop :=
  Lp (fun (r5 : Int32 × Int32 × Int32 × Mem → Prop) a => f_X8_findTeam_c5 K r5 a.1 a.2.1 a.2.2.1 a.2.2.2) (a2, (0 : Int32), (0 : Int32), M)
def f_X8_shiftIn (a1 : Int32) (a2 : Int32) (M : Mem) (K : Int32 → Mem → Prop) : Prop :=
  K ((a1 >>> (((2 : Int32) * ((3 : Int32) - a2)) &&& 31)) &&& (3 : Int32)) M
def f_X8_meetsNeed_b34 (r2 : Int32 × Int32 × Mem → Prop) (r12 : Int32 × Int32 × Int32 × Int32 × Mem → Prop) (K : Int32 → Mem → Prop) (x1 : Int32) (x2 : Int32) (x4 : Int32) (s0 : Int32) (s1 : Int32) (M : Mem) : Prop :=
  r12 (x1, x2, (s1 + s0), (x4 + (1 : Int32)), M)
def f_X8_meetsNeed_c12 (r2 : Int32 × Int32 × Mem → Prop) (K : Int32 → Mem → Prop) (r12 : Int32 × Int32 × Int32 × Int32 × Mem → Prop) (x1 : Int32) (x2 : Int32) (x3 : Int32) (x4 : Int32) (M : Mem) : Prop :=
  (((4 : Int32) ≤ x4) →
    vp_in x2 3 ∧
    ((x3 = (M 82 x2.toNatClampNeg)) →
      r2 (x1, (x2 + (1 : Int32)), M)) ∧
    ((¬ x3 = (M 82 x2.toNatClampNeg)) →
      K (0 : Int32) M)) ∧
  ((¬ (4 : Int32) ≤ x4) →
    f_X8_shiftIn x1 x4 M (fun v5 M5 =>
      ((¬ v5 = x2) →
        f_X8_meetsNeed_b34 r2 r12 K x1 x2 x4 (0 : Int32) x3 M5) ∧
      ((v5 = x2) →
        f_X8_meetsNeed_b34 r2 r12 K x1 x2 x4 (1 : Int32) x3 M5)))
def f_X8_meetsNeed_c2 (K : Int32 → Mem → Prop) (r2 : Int32 × Int32 × Mem → Prop) (x1 : Int32) (x2 : Int32) (M : Mem) : Prop :=
  (((3 : Int32) ≤ x2) →
    K (1 : Int32) M) ∧
  ((¬ (3 : Int32) ≤ x2) →
    Lp (fun (r12 : Int32 × Int32 × Int32 × Int32 × Mem → Prop) a => f_X8_meetsNeed_c12 r2 K r12 a.1 a.2.1 a.2.2.1 a.2.2.2.1 a.2.2.2.2) (x1, x2, (0 : Int32), (0 : Int32), M))
def f_X8_meetsNeed (a1 : Int32) (M : Mem) (K : Int32 → Mem → Prop) : Prop :=
  Lp (fun (r2 : Int32 × Int32 × Mem → Prop) a => f_X8_meetsNeed_c2 K r2 a.1 a.2.1 a.2.2) (a1, (0 : Int32), M)
def f_X8_markShifts_b71 (r16 : Int32 × Int32 × Int32 × Mem → Prop) (K : Mem → Prop) (x1 : Int32) (x2 : Int32) (x3 : Int32) (M : Mem) : Prop :=
  r16 (x1, x2, (x3 + (1 : Int32)), M)
def f_X8_markShifts_c16 (K : Mem → Prop) (r16 : Int32 × Int32 × Int32 × Mem → Prop) (x1 : Int32) (x2 : Int32) (x3 : Int32) (M : Mem) : Prop :=
  (((4 : Int32) ≤ x3) →
    K M) ∧
  ((¬ (4 : Int32) ≤ x3) →
    f_X8_shiftIn x2 x3 M (fun v8 M8 =>
      ((¬ v8 = (2 : Int32)) →
        ((v8 = (3 : Int32)) →
          f_X8_markShifts_b71 r16 K x1 x2 x3 M8) ∧
        ((¬ v8 = (3 : Int32)) →
          vp_in x1 24 ∧
          vp_in x1 24 ∧
          f_X8_markShifts_b71 r16 K x1 x2 x3 (mset M8 86 x1.toNatClampNeg ((M8 86 x1.toNatClampNeg) ||| ((1 : Int32) <<< (((3 : Int32) * x3) &&& 31)))))) ∧
      ((v8 = (2 : Int32)) →
        vp_in x1 24 ∧
        vp_in x1 24 ∧
        f_X8_markShifts_b71 r16 K x1 x2 x3 (mset M8 85 x1.toNatClampNeg ((M8 85 x1.toNatClampNeg) ||| ((1 : Int32) <<< (((3 : Int32) * x3) &&& 31)))))))
def f_X8_markShifts (a1 : Int32) (a2 : Int32) (M : Mem) (K : Mem → Prop) : Prop :=
  vp_in a1 24 ∧
  vp_in a1 24 ∧
  Lp (fun (r16 : Int32 × Int32 × Int32 × Mem → Prop) a => f_X8_markShifts_c16 K r16 a.1 a.2.1 a.2.2.1 a.2.2.2) (a1, a2, (0 : Int32), (mset (mset M 85 a1.toNatClampNeg (0 : Int32)) 86 a1.toNatClampNeg (0 : Int32)))
def f_X8_listArrangements_b60 (r7 : Int32 × Mem → Prop) (K : Mem → Prop) (x1 : Int32) (M : Mem) : Prop :=
  r7 ((x1 + (1 : Int32)), M)
def f_X8_listArrangements_c7 (K : Mem → Prop) (r7 : Int32 × Mem → Prop) (x1 : Int32) (M : Mem) : Prop :=
  (((256 : Int32) ≤ x1) →
    K M) ∧
  ((¬ (256 : Int32) ≤ x1) →
    (((24 : Int32) ≤ (M 81 4)) →
      K M) ∧
    ((¬ (24 : Int32) ≤ (M 81 4)) →
      f_X8_meetsNeed x1 M (fun v4 M4 =>
        ((v4 = 0) →
          f_X8_listArrangements_b60 r7 K x1 M4) ∧
        ((¬ v4 = 0) →
          vp_in (M4 81 4) 24 ∧
          f_X8_markShifts (M4 81 4) x1 (mset M4 84 ((M4 81 4).toNatClampNeg) x1) (fun M7 =>
            f_X8_listArrangements_b60 r7 K x1 (mset M7 81 4 ((M7 81 4) + (1 : Int32))))))))
def f_X8_listArrangements (M : Mem) (K : Mem → Prop) : Prop :=
  Lp (fun (r7 : Int32 × Mem → Prop) a => f_X8_listArrangements_c7 K r7 a.1 a.2) ((0 : Int32), (mset M 81 4 (0 : Int32)))
def f_X8_brokenOn_b50 (r6 : Int32 × Int32 × Int32 × Int32 × Mem → Prop) (K : Int32 → Mem → Prop) (x2 : Int32) (x3 : Int32) (x5 : Int32) (s0 : Int32) (s1 : Int32) (M : Mem) : Prop :=
  r6 (x2, x3, (s1 + s0), (x5 + (1 : Int32)), M)
def f_X8_brokenOn_b49 (r6 : Int32 × Int32 × Int32 × Int32 × Mem → Prop) (K : Int32 → Mem → Prop) (x2 : Int32) (x3 : Int32) (x5 : Int32) (s0 : Int32) (M : Mem) : Prop :=
  f_X8_brokenOn_b50 r6 K x2 x3 x5 (0 : Int32) s0 M
def f_X8_brokenOn_c6 (K : Int32 → Mem → Prop) (r6 : Int32 × Int32 × Int32 × Int32 × Mem → Prop) (x2 : Int32) (x3 : Int32) (x4 : Int32) (x5 : Int32) (M : Mem) : Prop :=
  (((4 : Int32) ≤ x5) →
    K x4 M) ∧
  ((¬ (4 : Int32) ≤ x5) →
    f_X8_shiftIn x3 x5 M (fun v3 M3 =>
      ((v3 = (3 : Int32)) →
        f_X8_brokenOn_b49 r6 K x2 x3 x5 x4 M3) ∧
      ((¬ v3 = (3 : Int32)) →
        vp_in x5 4 ∧
        f_X9_wishesAgainst (M3 83 x5.toNatClampNeg) x2 v3 M3 (fun v6 M6 =>
          ((v6 = 0) →
            f_X8_brokenOn_b49 r6 K x2 x3 x5 x4 M6) ∧
          ((¬ v6 = 0) →
            f_X8_brokenOn_b50 r6 K x2 x3 x5 (1 : Int32) x4 M6)))))
def f_X8_brokenOn (a2 : Int32) (a3 : Int32) (M : Mem) (K : Int32 → Mem → Prop) : Prop :=
  Lp (fun (r6 : Int32 × Int32 × Int32 × Int32 × Mem → Prop) a => f_X8_brokenOn_c6 K r6 a.1 a.2.1 a.2.2.1 a.2.2.2.1 a.2.2.2.2) (a2, a3, (0 : Int32), (0 : Int32), M)
def f_X8_countBroken_c18 (r9 : Int32 × Mem → Prop) (K : Mem → Prop) (r18 : Int32 × Int32 × Int32 × Mem → Prop) (x2 : Int32) (x3 : Int32) (x4 : Int32) (M : Mem) : Prop :=
  (((M 81 4) ≤ x4) →
    vp_in (x2 + (1 : Int32)) 5 ∧
    vp_in x2 5 ∧
    r9 ((x2 + (-1 : Int32)), (mset M 92 x2.toNatClampNeg ((M 92 ((x2 + (1 : Int32)).toNatClampNeg)) + x3)))) ∧
  ((¬ (M 81 4) ≤ x4) →
    vp_in x2 4 ∧
    vp_in x4 24 ∧
    f_X8_brokenOn x2 (M 84 x4.toNatClampNeg) M (fun v13 M13 =>
      vp_in x4 24 ∧
      vp_in x2 4 ∧
      vp_in x4 24 ∧
      r18 (x2, (if ((mset M13 (88 + 1 * x2.toNatClampNeg) x4.toNatClampNeg v13) (88 + 1 * x2.toNatClampNeg) x4.toNatClampNeg) < x3 then ((mset M13 (88 + 1 * x2.toNatClampNeg) x4.toNatClampNeg v13) (88 + 1 * x2.toNatClampNeg) x4.toNatClampNeg) else x3), (x4 + (1 : Int32)), (mset M13 (88 + 1 * x2.toNatClampNeg) x4.toNatClampNeg v13))))
def f_X8_countBroken_c9 (K : Mem → Prop) (r9 : Int32 × Mem → Prop) (x2 : Int32) (M : Mem) : Prop :=
  ((x2 < 0) →
    K M) ∧
  ((¬ x2 < 0) →
    Lp (fun (r18 : Int32 × Int32 × Int32 × Mem → Prop) a => f_X8_countBroken_c18 r9 K r18 a.1 a.2.1 a.2.2.1 a.2.2.2) (x2, (4 : Int32), (0 : Int32), M))
def f_X8_countBroken (M : Mem) (K : Mem → Prop) : Prop :=
  Lp (fun (r9 : Int32 × Mem → Prop) a => f_X8_countBroken_c9 K r9 a.1 a.2) ((3 : Int32), (mset M 92 4 (0 : Int32)))
def f_X8_keepChosen_c7 (K : Mem → Prop) (r7 : Int32 × Mem → Prop) (x2 : Int32) (M : Mem) : Prop :=
  (((4 : Int32) ≤ x2) →
    K M) ∧
  ((¬ (4 : Int32) ≤ x2) →
    vp_in x2 4 ∧
    vp_in x2 4 ∧
    r7 ((x2 + (1 : Int32)), (mset M 94 x2.toNatClampNeg (M 93 x2.toNatClampNeg))))
def f_X8_keepChosen (a1 : Int32) (M : Mem) (K : Mem → Prop) : Prop :=
  Lp (fun (r7 : Int32 × Mem → Prop) a => f_X8_keepChosen_c7 K r7 a.1 a.2) ((0 : Int32), (mset M 81 12 a1))
def f_X8_isSeen_b77 (K : Int32 → Mem → Prop) (x1 : Int64) (x3 : Int32) (x4 : Int32) (M : Mem) : Prop :=
  vp_in x4 1024 ∧
  vp_in x4 1024 ∧
  K (0 : Int32) (mset (mset (mset M 95 (2 * x4.toNatClampNeg) (loL x1)) 95 (2 * x4.toNatClampNeg + 1) (hiL x1)) 96 x4.toNatClampNeg x3)
def f_X8_isSeen_b51 (r18 : Int64 × Int32 × Int32 × Int32 × Mem → Prop) (K : Int32 → Mem → Prop) (x1 : Int64) (x3 : Int32) (x4 : Int32) (x5 : Int32) (M : Mem) : Prop :=
  vp_in x4 1024 ∧
  (((lg_cmp (jnL (M 95 (2 * x4.toNatClampNeg)) (M 95 (2 * x4.toNatClampNeg + 1))) x1) = 0) →
    f_X8_isSeen_b77 K x1 x3 x4 M) ∧
  ((¬ (lg_cmp (jnL (M 95 (2 * x4.toNatClampNeg)) (M 95 (2 * x4.toNatClampNeg + 1))) x1) = 0) →
    vp_in x4 1024 ∧
    ((¬ (lg_cmp (jnL (M 95 (2 * x4.toNatClampNeg)) (M 95 (2 * x4.toNatClampNeg + 1))) (-1 : Int64)) = 0) →
      r18 (x1, x3, ((x4 + (1 : Int32)) &&& (1023 : Int32)), (x5 + (1 : Int32)), M)) ∧
    (((lg_cmp (jnL (M 95 (2 * x4.toNatClampNeg)) (M 95 (2 * x4.toNatClampNeg + 1))) (-1 : Int64)) = 0) →
      f_X8_isSeen_b77 K x1 x3 x4 M))
def f_X8_isSeen_c18 (K : Int32 → Mem → Prop) (r18 : Int64 × Int32 × Int32 × Int32 × Mem → Prop) (x1 : Int64) (x3 : Int32) (x4 : Int32) (x5 : Int32) (M : Mem) : Prop :=
  (((1024 : Int32) ≤ x5) →
    K (0 : Int32) M) ∧
  ((¬ (1024 : Int32) ≤ x5) →
    vp_in x4 1024 ∧
    ((¬ (lg_cmp (jnL (M 95 (2 * x4.toNatClampNeg)) (M 95 (2 * x4.toNatClampNeg + 1))) x1) = 0) →
      f_X8_isSeen_b51 r18 K x1 x3 x4 x5 M) ∧
    (((lg_cmp (jnL (M 95 (2 * x4.toNatClampNeg)) (M 95 (2 * x4.toNatClampNeg + 1))) x1) = 0) →
      vp_in x4 1024 ∧
      ((x3 < (M 96 x4.toNatClampNeg)) →
        f_X8_isSeen_b51 r18 K x1 x3 x4 x5 M) ∧
      ((¬ x3 < (M 96 x4.toNatClampNeg)) →
        K (1 : Int32) M)))
def f_X8_isSeen (a1 : Int64) (a2 : Int32) (M : Mem) (K : Int32 → Mem → Prop) : Prop :=
  Lp (fun (r18 : Int64 × Int32 × Int32 × Int32 × Mem → Prop) a => f_X8_isSeen_c18 K r18 a.1 a.2.1 a.2.2.1 a.2.2.2.1 a.2.2.2.2) (a1, a2, ((((a1 * (-7046029254386353131 : Int64)).toUInt64 >>> ((40 : Int32).toInt64.toUInt64 &&& Int64.toUInt64 63)).toInt64 &&& (1023 : Int64)).toInt32), (0 : Int32), M)
def f_X8_countedBy_b51 (K : Int32 → Mem → Prop) (s0 : Int32) (M : Mem) : Prop :=
  K s0 M
def f_X8_countedBy_b19 (K : Int32 → Mem → Prop) (x1 : Int32) (s0 : Int32) (M : Mem) : Prop :=
  ((((M 81 2) &&& (2 : Int32)) = 0) →
    f_X8_countedBy_b51 K s0 M) ∧
  ((¬ ((M 81 2) &&& (2 : Int32)) = 0) →
    vp_in x1 24 ∧
    vp_in x1 24 ∧
    f_X8_countedBy_b51 K (s0 ||| (((M 85 x1.toNatClampNeg) ||| (M 86 x1.toNatClampNeg)) <<< ((12 : Int32) &&& 31))) M)
def f_X8_countedBy (a1 : Int32) (M : Mem) (K : Int32 → Mem → Prop) : Prop :=
  ((((M 81 2) &&& (4 : Int32)) = 0) →
    f_X8_countedBy_b19 K a1 (0 : Int32) M) ∧
  ((¬ ((M 81 2) &&& (4 : Int32)) = 0) →
    vp_in a1 24 ∧
    f_X8_countedBy_b19 K a1 (M 85 a1.toNatClampNeg) M)
def f_X8_hasTooMany_c2 (K : Int32 → Mem → Prop) (r2 : Int32 × Int32 × Mem → Prop) (x1 : Int32) (x2 : Int32) (M : Mem) : Prop :=
  (((4 : Int32) ≤ x2) →
    K (0 : Int32) M) ∧
  ((¬ (4 : Int32) ≤ x2) →
    ((((x1 >>> (((12 : Int32) + ((3 : Int32) * x2)) &&& 31)) &&& (7 : Int32)) ≤ (M 81 3)) →
      r2 (x1, (x2 + (1 : Int32)), M)) ∧
    ((¬ ((x1 >>> (((12 : Int32) + ((3 : Int32) * x2)) &&& 31)) &&& (7 : Int32)) ≤ (M 81 3)) →
      K (1 : Int32) M))
def f_X8_hasTooMany (a1 : Int32) (M : Mem) (K : Int32 → Mem → Prop) : Prop :=
  Lp (fun (r2 : Int32 × Int32 × Mem → Prop) a => f_X8_hasTooMany_c2 K r2 a.1 a.2.1 a.2.2) (a1, (0 : Int32), M)
def f_X8_isUnfair_b61 (K : Int32 → Mem → Prop) (s0 : Int32) (M : Mem) : Prop :=
  bz s0 ∧ K s0 M
def f_X8_isUnfair_c10 (K : Int32 → Mem → Prop) (r10 : Int32 × Int32 × Int32 × Int32 × Int32 × Mem → Prop) (x0 : Int32) (x1 : Int32) (x2 : Int32) (x3 : Int32) (x4 : Int32) (M : Mem) : Prop :=
  (((4 : Int32) ≤ x4) →
    (((x3 - x2) < ((2 : Int32) + x1)) →
      f_X8_isUnfair_b61 K (0 : Int32) M) ∧
    ((¬ (x3 - x2) < ((2 : Int32) + x1)) →
      f_X8_isUnfair_b61 K (1 : Int32) M)) ∧
  ((¬ (4 : Int32) ≤ x4) →
    r10 (x0, x1, (if ((x0 >>> (((3 : Int32) * x4) &&& 31)) &&& (7 : Int32)) < x2 then ((x0 >>> (((3 : Int32) * x4) &&& 31)) &&& (7 : Int32)) else x2), (if x3 < ((x0 >>> (((3 : Int32) * x4) &&& 31)) &&& (7 : Int32)) then ((x0 >>> (((3 : Int32) * x4) &&& 31)) &&& (7 : Int32)) else x3), (x4 + (1 : Int32)), M))
def f_X8_isUnfair (a1 : Int32) (a2 : Int32) (M : Mem) (K : Int32 → Mem → Prop) : Prop :=
  Lp (fun (r10 : Int32 × Int32 × Int32 × Int32 × Int32 × Mem → Prop) a => f_X8_isUnfair_c10 K r10 a.1 a.2.1 a.2.2.1 a.2.2.2.1 a.2.2.2.2.1 a.2.2.2.2.2) (a1, a2, (a1 &&& (7 : Int32)), (a1 &&& (7 : Int32)), (1 : Int32), M)
def f_X8_searchOn_b113 (rec : Int32 → Int32 → Int32 → Int32 → Mem → (Mem → Prop) → Prop) (r3 : Int32 × Int32 × Int32 × Int32 × Int32 × Mem → Prop) (K : Mem → Prop) (x1 : Int32) (x2 : Int32) (x3 : Int32) (x4 : Int32) (x5 : Int32) (M : Mem) : Prop :=
  r3 (x1, x2, x3, x4, (x5 + (1 : Int32)), M)
def f_X8_searchOn_b88 (rec : Int32 → Int32 → Int32 → Int32 → Mem → (Mem → Prop) → Prop) (r3 : Int32 × Int32 × Int32 × Int32 × Int32 × Mem → Prop) (K : Mem → Prop) (x1 : Int32) (x2 : Int32) (x3 : Int32) (x4 : Int32) (x5 : Int32) (x6 : Int32) (s0 : Int32) (M : Mem) : Prop :=
  vp_in x1 4 ∧
  vp_in x5 24 ∧
  rec (x1 + (1 : Int32)) x6 s0 (x4 + (M (88 + 1 * x1.toNatClampNeg) x5.toNatClampNeg)) M (fun M8 =>
    f_X8_searchOn_b113 rec r3 K x1 x2 x3 x4 x5 M8)
def f_X8_searchOn_c3 (rec : Int32 → Int32 → Int32 → Int32 → Mem → (Mem → Prop) → Prop) (K : Mem → Prop) (r3 : Int32 × Int32 × Int32 × Int32 × Int32 × Mem → Prop) (x1 : Int32) (x2 : Int32) (x3 : Int32) (x4 : Int32) (x5 : Int32) (M : Mem) : Prop :=
  (((M 81 4) ≤ x5) →
    K M) ∧
  ((¬ (M 81 4) ≤ x5) →
    vp_in x5 24 ∧
    (((x3 &&& (M 86 x5.toNatClampNeg)) = 0) →
      f_X8_countedBy x5 M (fun v12 M12 =>
        f_X8_hasTooMany (x2 + v12) M12 (fun v13 M13 =>
          ((¬ v13 = 0) →
            f_X8_searchOn_b113 rec r3 K x1 x2 x3 x4 x5 M13) ∧
          ((v13 = 0) →
            f_X8_isUnfair (x2 + v12) ((3 : Int32) - x1) M13 (fun v15 M15 =>
              ((v15 = 0) →
                vp_in x1 4 ∧
                ((((M15 81 2) &&& (1 : Int32)) = 0) →
                  f_X8_searchOn_b88 rec r3 K x1 x2 x3 x4 x5 (x2 + v12) (0 : Int32) (mset M15 93 x1.toNatClampNeg x5)) ∧
                ((¬ ((M15 81 2) &&& (1 : Int32)) = 0) →
                  vp_in x5 24 ∧
                  f_X8_searchOn_b88 rec r3 K x1 x2 x3 x4 x5 (x2 + v12) (M15 85 x5.toNatClampNeg) (mset M15 93 x1.toNatClampNeg x5))) ∧
              ((¬ v15 = 0) →
                f_X8_searchOn_b113 rec r3 K x1 x2 x3 x4 x5 M15)))))) ∧
    ((¬ (x3 &&& (M 86 x5.toNatClampNeg)) = 0) →
      f_X8_searchOn_b113 rec r3 K x1 x2 x3 x4 x5 M))
def f_X8_searchOn (rec : Int32 → Int32 → Int32 → Int32 → Mem → (Mem → Prop) → Prop) (a1 : Int32) (a2 : Int32) (a3 : Int32) (a4 : Int32) (M : Mem) (K : Mem → Prop) : Prop :=
  Lp (fun (r3 : Int32 × Int32 × Int32 × Int32 × Int32 × Mem → Prop) a => f_X8_searchOn_c3 rec K r3 a.1 a.2.1 a.2.2.1 a.2.2.2.1 a.2.2.2.2.1 a.2.2.2.2.2) (a1, a2, a3, a4, (0 : Int32), M)
def f_X8_searchFrom_b31 (rec : Int32 → Int32 → Int32 → Int32 → Mem → (Mem → Prop) → Prop) (K : Mem → Prop) (x1 : Int32) (x2 : Int32) (x3 : Int32) (x4 : Int32) (M : Mem) : Prop :=
  ((¬ x1 = (4 : Int32)) →
    f_X8_isSeen ((((x3.toInt64 <<< ((24 : Int32).toInt64 &&& 63)) ||| x2.toInt64) * (4 : Int64)) + x1.toInt64) x4 M (fun v3 M3 =>
      ((¬ v3 = 0) →
        K M3) ∧
      ((v3 = 0) →
        f_X8_searchOn rec x1 x2 x3 x4 M3 (fun M5 =>
          K M5)))) ∧
  ((x1 = (4 : Int32)) →
    f_X8_keepChosen x4 M (fun M6 =>
      K M6))
def f_X8_searchFrom (rec : Int32 → Int32 → Int32 → Int32 → Mem → (Mem → Prop) → Prop) (a1 : Int32) (a2 : Int32) (a3 : Int32) (a4 : Int32) (M : Mem) (K : Mem → Prop) : Prop :=
  (((4 : Int32) < a1) →
    K M) ∧
  ((¬ (4 : Int32) < a1) →
    (((M 81 12) = (-9 : Int32)) →
      f_X8_searchFrom_b31 rec K a1 a2 a3 a4 M) ∧
    ((¬ (M 81 12) = (-9 : Int32)) →
      vp_in a1 5 ∧
      (((a4 + (M 92 a1.toNatClampNeg)) < (M 81 12)) →
        f_X8_searchFrom_b31 rec K a1 a2 a3 a4 M) ∧
      ((¬ (a4 + (M 92 a1.toNatClampNeg)) < (M 81 12)) →
        K M)))
def fr_rs : Nat → Int32 → Int32 → Int32 → Int32 → Mem → (Mem → Prop) → Prop
  | 0 => fun _ _ _ _ _ _ => False
  | n + 1 => f_X8_searchFrom (fr_rs n)
def f_X8_search_c8 (K : Mem → Prop) (r8 : Int32 × Mem → Prop) (x1 : Int32) (M : Mem) : Prop :=
  (((1024 : Int32) ≤ x1) →
    fr_rs 8 (0 : Int32) (0 : Int32) (0 : Int32) (0 : Int32) M (fun M3 =>
      K M3)) ∧
  ((¬ (1024 : Int32) ≤ x1) →
    vp_in x1 1024 ∧
    r8 ((x1 + (1 : Int32)), (mset (mset M 95 (2 * x1.toNatClampNeg) (loL (-1 : Int64))) 95 (2 * x1.toNatClampNeg + 1) (hiL (-1 : Int64)))))
def f_X8_search (M : Mem) (K : Mem → Prop) : Prop :=
  Lp (fun (r8 : Int32 × Mem → Prop) a => f_X8_search_c8 K r8 a.1 a.2) ((0 : Int32), (mset M 81 12 (-9 : Int32)))
def f_X8_fewestBroken_b76 (K : Int32 → Mem → Prop) (x2 : Int32) (M : Mem) : Prop :=
  K (M 81 12) (mset (mset M 81 15 (1 : Int32)) 81 16 x2)
def f_X8_fewestBroken_b37 (K : Int32 → Mem → Prop) (x2 : Int32) (x3 : Int32) (x4 : Int32) (M : Mem) : Prop :=
  f_X8_findTeam x2 (mset (mset (mset M 81 12 (-9 : Int32)) 81 2 x3) 81 3 x4) (fun v1 M1 =>
    ((v1 = 0) →
      f_X8_fewestBroken_b76 K x2 M1) ∧
    ((¬ v1 = 0) →
      f_X8_listArrangements M1 (fun M3 =>
        f_X8_countBroken M3 (fun M4 =>
          f_X8_search M4 (fun M5 =>
            f_X8_fewestBroken_b76 K x2 M5)))))
def f_X8_fewestBroken (a2 : Int32) (a3 : Int32) (a4 : Int32) (M : Mem) (K : Int32 → Mem → Prop) : Prop :=
  (((M 81 15) = 0) →
    f_X8_fewestBroken_b37 K a2 a3 a4 M) ∧
  ((¬ (M 81 15) = 0) →
    ((¬ (M 81 16) = a2) →
      f_X8_fewestBroken_b37 K a2 a3 a4 M) ∧
    (((M 81 16) = a2) →
      ((¬ (M 81 2) = a3) →
        f_X8_fewestBroken_b37 K a2 a3 a4 M) ∧
      (((M 81 2) = a3) →
        ((¬ (M 81 3) = a4) →
          f_X8_fewestBroken_b37 K a2 a3 a4 M) ∧
        (((M 81 3) = a4) →
          K (M 81 12) M))))
def f_X11_bestShifts (a1 : Int32) (a2 : Int32) (M : Mem) (K : Int32 → Mem → Prop) : Prop :=
  f_X8_fewestBroken a1 a2 (M 124 4) M (fun v1 M1 =>
    K v1 M1)
def f_X11_shifts_b23 (K : Int32 → Mem → Prop) (M : Mem) : Prop :=
  f_X11_refuse (-2 : Int32) M (fun v1 M1 =>
    K v1 M1)
def f_X11_shifts (a1 : Int32) (a2 : Int32) (M : Mem) (K : Int32 → Mem → Prop) : Prop :=
  f_X11_isShop a1 M (fun v2 M2 =>
    ((¬ v2 = 0) →
      ((a2 < 0) →
        f_X11_shifts_b23 K M2) ∧
      ((¬ a2 < 0) →
        ((a2 ≤ (7 : Int32)) →
          f_X11_bestShifts a1 a2 M2 (fun v6 M6 =>
            K v6 M6)) ∧
        ((¬ a2 ≤ (7 : Int32)) →
          f_X11_shifts_b23 K M2))) ∧
    ((v2 = 0) →
      f_X11_refuse (-1 : Int32) M2 (fun v7 M7 =>
        K v7 M7)))
def f_X8_bestShift_b51 (r2 : Int32 × Int32 × Int32 × Mem → Prop) (K : Int32 → Mem → Prop) (x1 : Int32) (x2 : Int32) (x3 : Int32) (M : Mem) : Prop :=
  r2 (x1, x2, (x3 + (1 : Int32)), M)
def f_X8_bestShift_c2 (K : Int32 → Mem → Prop) (r2 : Int32 × Int32 × Int32 × Mem → Prop) (x1 : Int32) (x2 : Int32) (x3 : Int32) (M : Mem) : Prop :=
  (((4 : Int32) ≤ x3) →
    K (-9 : Int32) M) ∧
  ((¬ (4 : Int32) ≤ x3) →
    vp_in x3 4 ∧
    ((¬ (M 83 x3.toNatClampNeg) = x1) →
      f_X8_bestShift_b51 r2 K x1 x2 x3 M) ∧
    (((M 83 x3.toNatClampNeg) = x1) →
      ((x2 < 0) →
        f_X8_bestShift_b51 r2 K x1 x2 x3 M) ∧
      ((¬ x2 < 0) →
        (((4 : Int32) ≤ x2) →
          f_X8_bestShift_b51 r2 K x1 x2 x3 M) ∧
        ((¬ (4 : Int32) ≤ x2) →
          (((M 81 12) = (-9 : Int32)) →
            f_X8_bestShift_b51 r2 K x1 x2 x3 M) ∧
          ((¬ (M 81 12) = (-9 : Int32)) →
            vp_in x2 4 ∧
            vp_in (M 94 x2.toNatClampNeg) 24 ∧
            f_X8_shiftIn (M 84 ((M 94 x2.toNatClampNeg).toNatClampNeg)) x3 M (fun v12 M12 =>
              K v12 M12))))))
def f_X8_bestShift (a1 : Int32) (a2 : Int32) (M : Mem) (K : Int32 → Mem → Prop) : Prop :=
  Lp (fun (r2 : Int32 × Int32 × Int32 × Mem → Prop) a => f_X8_bestShift_c2 K r2 a.1 a.2.1 a.2.2.1 a.2.2.2) (a1, a2, (0 : Int32), M)
def f_X11_shiftOf_b18 (K : Int32 → Mem → Prop) (M : Mem) : Prop :=
  f_X11_refuse (-1 : Int32) M (fun v1 M1 =>
    K v1 M1)
def f_X11_shiftOf_b34 (K : Int32 → Mem → Prop) (M : Mem) : Prop :=
  f_X11_refuse (-2 : Int32) M (fun v2 M2 =>
    K v2 M2)
def f_X11_shiftOf_b52 (K : Int32 → Mem → Prop) (M : Mem) : Prop :=
  f_X11_refuse (-3 : Int32) M (fun v3 M3 =>
    K v3 M3)
def f_X11_shiftOf_b85 (K : Int32 → Mem → Prop) (s0 : Int32) (M : Mem) : Prop :=
  K s0 M
def f_X11_shiftOf (a1 : Int32) (a2 : Int32) (a3 : Int32) (a4 : Int32) (M : Mem) (K : Int32 → Mem → Prop) : Prop :=
  f_X11_isShop a1 M (fun v4 M4 =>
    ((v4 = 0) →
      f_X11_shiftOf_b18 K M4) ∧
    ((¬ v4 = 0) →
      f_X9_has a3 M4 (fun v6 M6 =>
        ((¬ v6 = 0) →
          ((a2 < 0) →
            f_X11_shiftOf_b34 K M6) ∧
          ((¬ a2 < 0) →
            ((a2 ≤ (7 : Int32)) →
              ((a4 < 0) →
                f_X11_shiftOf_b52 K M6) ∧
              ((¬ a4 < 0) →
                ((a4 < (4 : Int32)) →
                  f_X11_bestShifts a1 a2 M6 (fun v12 M12 =>
                    ((¬ v12 = (-9 : Int32)) →
                      f_X8_bestShift a3 a4 M12 (fun v14 M14 =>
                        f_X11_shiftOf_b85 K v14 M14)) ∧
                    ((v12 = (-9 : Int32)) →
                      f_X11_shiftOf_b85 K (-9 : Int32) M12))) ∧
                ((¬ a4 < (4 : Int32)) →
                  f_X11_shiftOf_b52 K M6))) ∧
            ((¬ a2 ≤ (7 : Int32)) →
              f_X11_shiftOf_b34 K M6))) ∧
        ((v6 = 0) →
          f_X11_shiftOf_b18 K M6))))
def f_X8_countNoneBroken_c16 (r2 : Int32 × Mem → Prop) (K : Mem → Prop) (r16 : Int32 × Int32 × Mem → Prop) (x1 : Int32) (x2 : Int32) (M : Mem) : Prop :=
  (((M 81 4) ≤ x2) →
    r2 ((x1 + (1 : Int32)), M)) ∧
  ((¬ (M 81 4) ≤ x2) →
    vp_in x1 4 ∧
    vp_in x2 24 ∧
    r16 (x1, (x2 + (1 : Int32)), (mset M (88 + 1 * x1.toNatClampNeg) x2.toNatClampNeg (0 : Int32))))
def f_X8_countNoneBroken_c2 (K : Mem → Prop) (r2 : Int32 × Mem → Prop) (x1 : Int32) (M : Mem) : Prop :=
  (((4 : Int32) ≤ x1) →
    K (mset M 92 4 (0 : Int32))) ∧
  ((¬ (4 : Int32) ≤ x1) →
    vp_in x1 5 ∧
    Lp (fun (r16 : Int32 × Int32 × Mem → Prop) a => f_X8_countNoneBroken_c16 r2 K r16 a.1 a.2.1 a.2.2) (x1, (0 : Int32), (mset M 92 x1.toNatClampNeg (0 : Int32))))
def f_X8_countNoneBroken (M : Mem) (K : Mem → Prop) : Prop :=
  Lp (fun (r2 : Int32 × Mem → Prop) a => f_X8_countNoneBroken_c2 K r2 a.1 a.2) ((0 : Int32), M)
def f_X8_canBe_b40 (K : Int32 → Mem → Prop) (s0 : Int32) (M : Mem) : Prop :=
  bz s0 ∧ K s0 M
def f_X8_canBe (a1 : Int32) (a2 : Int32) (M : Mem) (K : Int32 → Mem → Prop) : Prop :=
  f_X8_forget M (fun M2 =>
    f_X8_listArrangements (mset (mset M2 81 2 a1) 81 3 a2) (fun M3 =>
      f_X8_countNoneBroken M3 (fun M4 =>
        f_X8_search M4 (fun M5 =>
          (((M5 81 12) = (-9 : Int32)) →
            f_X8_canBe_b40 K (0 : Int32) M5) ∧
          ((¬ (M5 81 12) = (-9 : Int32)) →
            f_X8_canBe_b40 K (1 : Int32) M5)))))
def f_X11_bars_c53 (K : Int32 → Mem → Prop) (r53 : Int32 × Mem → Prop) (x2 : Int32) (M : Mem) : Prop :=
  (((nI 8) ≤ x2) →
    K (7 : Int32) M) ∧
  ((¬ (nI 8) ≤ x2) →
    vp_in x2 8 ∧
    f_X8_canBe (sv 3 x2.toNatClampNeg) (M 124 4) M (fun v5 M5 =>
      ((¬ v5 = 0) →
        r53 ((x2 + (1 : Int32)), M5)) ∧
      ((v5 = 0) →
        vp_in x2 8 ∧
        K (sv 3 x2.toNatClampNeg) M5)))
def f_X11_bars (a1 : Int32) (M : Mem) (K : Int32 → Mem → Prop) : Prop :=
  f_X11_isShop a1 M (fun v8 M8 =>
    ((¬ v8 = 0) →
      f_X9_hereIn ((1 : Int32) <<< (a1 &&& 31)) M8 (fun v10 M10 =>
        (((4 : Int32) ≤ v10) →
          f_X8_canBe (7 : Int32) (M10 124 4) M10 (fun v12 M12 =>
            ((v12 = 0) →
              Lp (fun (r53 : Int32 × Mem → Prop) a => f_X11_bars_c53 K r53 a.1 a.2) ((0 : Int32), M12)) ∧
            ((¬ v12 = 0) →
              K (-9 : Int32) M12))) ∧
        ((¬ (4 : Int32) ≤ v10) →
          K (-8 : Int32) M10))) ∧
    ((v8 = 0) →
      f_X11_refuse (-1 : Int32) M8 (fun v14 M14 =>
        K v14 M14)))
def f_X10_add (a1 : Int32) (a2 : Int32) (a3 : Int32) (M : Mem) (K : Int32 → Mem → Prop) : Prop :=
  vp_in a1 5 ∧
  (((M 98 a1.toNatClampNeg) < (12 : Int32)) →
    vp_in a1 5 ∧
    vp_in a1 5 ∧
    vp_in (M 98 a1.toNatClampNeg) 12 ∧
    vp_in a1 5 ∧
    vp_in a1 5 ∧
    vp_in ((mset M (100 + 1 * a1.toNatClampNeg) ((M 98 a1.toNatClampNeg).toNatClampNeg) a2) 98 a1.toNatClampNeg) 12 ∧
    vp_in a1 5 ∧
    vp_in a1 5 ∧
    vp_in a1 5 ∧
    K ((mset (mset (mset M (100 + 1 * a1.toNatClampNeg) ((M 98 a1.toNatClampNeg).toNatClampNeg) a2) (106 + 1 * a1.toNatClampNeg) (((mset M (100 + 1 * a1.toNatClampNeg) ((M 98 a1.toNatClampNeg).toNatClampNeg) a2) 98 a1.toNatClampNeg).toNatClampNeg) a3) 98 a1.toNatClampNeg (((mset (mset M (100 + 1 * a1.toNatClampNeg) ((M 98 a1.toNatClampNeg).toNatClampNeg) a2) (106 + 1 * a1.toNatClampNeg) (((mset M (100 + 1 * a1.toNatClampNeg) ((M 98 a1.toNatClampNeg).toNatClampNeg) a2) 98 a1.toNatClampNeg).toNatClampNeg) a3) 98 a1.toNatClampNeg) + (1 : Int32))) 98 a1.toNatClampNeg) (mset (mset (mset M (100 + 1 * a1.toNatClampNeg) ((M 98 a1.toNatClampNeg).toNatClampNeg) a2) (106 + 1 * a1.toNatClampNeg) (((mset M (100 + 1 * a1.toNatClampNeg) ((M 98 a1.toNatClampNeg).toNatClampNeg) a2) 98 a1.toNatClampNeg).toNatClampNeg) a3) 98 a1.toNatClampNeg (((mset (mset M (100 + 1 * a1.toNatClampNeg) ((M 98 a1.toNatClampNeg).toNatClampNeg) a2) (106 + 1 * a1.toNatClampNeg) (((mset M (100 + 1 * a1.toNatClampNeg) ((M 98 a1.toNatClampNeg).toNatClampNeg) a2) 98 a1.toNatClampNeg).toNatClampNeg) a3) 98 a1.toNatClampNeg) + (1 : Int32)))) ∧
  ((¬ (M 98 a1.toNatClampNeg) < (12 : Int32)) →
    K (-6 : Int32) M)
def f_X11_study_b9 (K : Int32 → Mem → Prop) (M : Mem) : Prop :=
  f_X11_refuse (-1 : Int32) M (fun v2 M2 =>
    K v2 M2)
def f_X11_study (a1 : Int32) (a2 : Int32) (M : Mem) (K : Int32 → Mem → Prop) : Prop :=
  ((a1 < 0) →
    f_X11_study_b9 K M) ∧
  ((¬ a1 < 0) →
    ((a1 < (5 : Int32)) →
      f_X11_outside a2 (1 : Int32) (999 : Int32) M (fun v5 M5 =>
        vp_in a1 5 ∧
        f_X11_fullAt (M5 98 a1.toNatClampNeg) (12 : Int32) M5 (fun v7 M7 =>
          f_X11_worse v5 v7 M7 (fun v8 M8 =>
            ((v8 = 0) →
              f_X10_add a1 a2 (M8 1 0) M8 (fun v10 M10 =>
                K v10 M10)) ∧
            ((¬ v8 = 0) →
              f_X11_refuse v8 M8 (fun v11 M11 =>
                K v11 M11)))))) ∧
    ((¬ a1 < (5 : Int32)) →
      f_X11_study_b9 K M))
def f_X10_timeOn_b88 (r15 : Int32 × Int32 × Int32 × Int32 × Int32 × Int32 × Int32 × Mem → Prop) (K : Int32 → Mem → Prop) (x1 : Int32) (x2 : Int32) (x3 : Int32) (x4 : Int32) (x5 : Int32) (x6 : Int32) (x7 : Int32) (M : Mem) : Prop :=
  r15 (x1, x2, x3, x4, x5, x6, (x7 + (1 : Int32)), M)
def f_X10_timeOn_b116 (K : Int32 → Mem → Prop) (s0 : Int32) (M : Mem) : Prop :=
  K s0 M
def f_X10_timeOn_c15 (K : Int32 → Mem → Prop) (r15 : Int32 × Int32 × Int32 × Int32 × Int32 × Int32 × Int32 × Mem → Prop) (x1 : Int32) (x2 : Int32) (x3 : Int32) (x4 : Int32) (x5 : Int32) (x6 : Int32) (x7 : Int32) (M : Mem) : Prop :=
  vp_in x1 5 ∧
  (((M 98 x1.toNatClampNeg) ≤ x7) →
    (((3 : Int32) ≤ x3) →
      ¬ (x3 - (2 : Int32)) = 0 ∧
      f_X10_timeOn_b116 K (((x4 - x5) - x6) / (x3 - (2 : Int32))) M) ∧
    ((¬ (3 : Int32) ≤ x3) →
      f_X10_timeOn_b116 K (-9 : Int32) M)) ∧
  ((¬ (M 98 x1.toNatClampNeg) ≤ x7) →
    vp_in x1 5 ∧
    vp_in x7 12 ∧
    ((x2 < (M (106 + 1 * x1.toNatClampNeg) x7.toNatClampNeg)) →
      f_X10_timeOn_b88 r15 K x1 x2 x3 x4 x5 x6 x7 M) ∧
    ((¬ x2 < (M (106 + 1 * x1.toNatClampNeg) x7.toNatClampNeg)) →
      vp_in x1 5 ∧
      vp_in x7 12 ∧
      vp_in x1 5 ∧
      vp_in x7 12 ∧
      vp_in x1 5 ∧
      vp_in x7 12 ∧
      f_X10_timeOn_b88 r15 K x1 x2 (x3 + (1 : Int32)) (x4 + (M (100 + 1 * x1.toNatClampNeg) x7.toNatClampNeg)) (if (M (100 + 1 * x1.toNatClampNeg) x7.toNatClampNeg) < x5 then (M (100 + 1 * x1.toNatClampNeg) x7.toNatClampNeg) else x5) (if x6 < (M (100 + 1 * x1.toNatClampNeg) x7.toNatClampNeg) then (M (100 + 1 * x1.toNatClampNeg) x7.toNatClampNeg) else x6) x7 M))
def f_X10_timeOn (a1 : Int32) (a2 : Int32) (M : Mem) (K : Int32 → Mem → Prop) : Prop :=
  Lp (fun (r15 : Int32 × Int32 × Int32 × Int32 × Int32 × Int32 × Int32 × Mem → Prop) a => f_X10_timeOn_c15 K r15 a.1 a.2.1 a.2.2.1 a.2.2.2.1 a.2.2.2.2.1 a.2.2.2.2.2.1 a.2.2.2.2.2.2.1 a.2.2.2.2.2.2.2) (a1, a2, (0 : Int32), (0 : Int32), (1000000 : Int32), (0 : Int32), (0 : Int32), M)
def f_X11_time_b9 (K : Int32 → Mem → Prop) (M : Mem) : Prop :=
  f_X11_refuse (-1 : Int32) M (fun v1 M1 =>
    K v1 M1)
def f_X11_time (a1 : Int32) (a2 : Int32) (M : Mem) (K : Int32 → Mem → Prop) : Prop :=
  ((a1 < 0) →
    f_X11_time_b9 K M) ∧
  ((¬ a1 < 0) →
    ((a1 < (5 : Int32)) →
      f_X11_outside a2 (0 : Int32) (1000 : Int32) M (fun v4 M4 =>
        ((v4 = 0) →
          f_X10_timeOn a1 a2 M4 (fun v6 M6 =>
            K v6 M6)) ∧
        ((¬ v4 = 0) →
          f_X11_refuse v4 M4 (fun v7 M7 =>
            K v7 M7)))) ∧
    ((¬ a1 < (5 : Int32)) →
      f_X11_time_b9 K M))
def f_X11_changed_b9 (K : Int32 → Mem → Prop) (M : Mem) : Prop :=
  f_X11_refuse (-1 : Int32) M (fun v1 M1 =>
    K v1 M1)
def f_X11_changed_b85 (K : Int32 → Mem → Prop) (s0 : Int32) (M : Mem) : Prop :=
  K s0 M
def f_X11_changed_b84 (K : Int32 → Mem → Prop) (M : Mem) : Prop :=
  f_X11_changed_b85 K (0 : Int32) M
def f_X11_changed (a1 : Int32) (a2 : Int32) (a3 : Int32) (M : Mem) (K : Int32 → Mem → Prop) : Prop :=
  ((a1 < 0) →
    f_X11_changed_b9 K M) ∧
  ((¬ a1 < 0) →
    ((a1 < (5 : Int32)) →
      f_X11_outside a2 (1 : Int32) (999 : Int32) M (fun v4 M4 =>
        f_X11_outside a3 (0 : Int32) (1000 : Int32) M4 (fun v5 M5 =>
          f_X11_worse v4 v5 M5 (fun v6 M6 =>
            ((v6 = 0) →
              f_X10_timeOn a1 a3 M6 (fun v8 M8 =>
                ((v8 = (-9 : Int32)) →
                  f_X11_changed_b84 K M8) ∧
                ((¬ v8 = (-9 : Int32)) →
                  ((((10 : Int32) * (if 0 ≤ (v8 - a2) then (v8 - a2) else 0 - (v8 - a2))) ≤ a2) →
                    f_X11_changed_b84 K M8) ∧
                  ((¬ ((10 : Int32) * (if 0 ≤ (v8 - a2) then (v8 - a2) else 0 - (v8 - a2))) ≤ a2) →
                    f_X11_changed_b85 K (1 : Int32) M8)))) ∧
            ((¬ v6 = 0) →
              f_X11_refuse v6 M6 (fun v11 M11 =>
                K v11 M11)))))) ∧
    ((¬ a1 < (5 : Int32)) →
      f_X11_changed_b9 K M))
def f_X11_weight_b9 (K : Int32 → Mem → Prop) (M : Mem) : Prop :=
  f_X11_refuse (-2 : Int32) M (fun v3 M3 =>
    K v3 M3)
def f_X11_weight (a1 : Int32) (a2 : Int32) (M : Mem) (K : Int32 → Mem → Prop) : Prop :=
  ((a1 < 0) →
    f_X11_weight_b9 K M) ∧
  ((¬ a1 < 0) →
    ((a1 ≤ (3 : Int32)) →
      f_X11_outside a2 (0 : Int32) (9 : Int32) M (fun v6 M6 =>
        ((v6 = 0) →
          vp_in a1 4 ∧
          vp_in a1 4 ∧
          K (M6 14 a1.toNatClampNeg) (mset M6 14 a1.toNatClampNeg a2)) ∧
        ((¬ v6 = 0) →
          f_X11_refuse v6 M6 (fun v10 M10 =>
            K v10 M10)))) ∧
    ((¬ a1 ≤ (3 : Int32)) →
      f_X11_weight_b9 K M))
def f_X9_tellList_c7 (K : Mem → Prop) (r7 : Int32 × Mem → Prop) (x2 : Int32) (M : Mem) : Prop :=
  (((M 4 0) ≤ x2) →
    K M) ∧
  ((¬ (M 4 0) ≤ x2) →
    vp_in x2 24 ∧
    vp_in x2 24 ∧
    vp_in x2 24 ∧
    vp_in x2 24 ∧
    r7 ((x2 + (1 : Int32)), (mset (mset M 11 x2.toNatClampNeg (M 9 x2.toNatClampNeg)) 12 x2.toNatClampNeg (M 10 x2.toNatClampNeg))))
def f_X9_tellList (a1 : Int32) (M : Mem) (K : Mem → Prop) : Prop :=
  Lp (fun (r7 : Int32 × Mem → Prop) a => f_X9_tellList_c7 K r7 a.1 a.2) ((0 : Int32), (mset M 4 11 a1))
def f_X11_list (M : Mem) (K : Int32 → Mem → Prop) : Prop :=
  f_X9_tellList (M 1 0) M (fun M1 =>
    K (1 : Int32) M1)
def f_X9_rightChildren_b26 (K : Int32 → Mem → Prop) (x4 : Int32) (M : Mem) : Prop :=
  K x4 M
def f_X9_rightChildren (a1 : Int32) (a2 : Int32) (a3 : Int32) (M : Mem) (K : Int32 → Mem → Prop) : Prop :=
  vp_in a1 24 ∧
  vp_in a1 24 ∧
  ((a3 = 0) →
    f_X9_rightChildren_b26 K (M 9 a1.toNatClampNeg) (mset M 9 a1.toNatClampNeg a2)) ∧
  ((¬ a3 = 0) →
    vp_in a1 24 ∧
    f_X9_rightChildren_b26 K (M 9 a1.toNatClampNeg) (mset (mset M 9 a1.toNatClampNeg a2) 11 a1.toNatClampNeg a2))
def f_X9_rightHurt_b26 (K : Int32 → Mem → Prop) (x4 : Int32) (M : Mem) : Prop :=
  K x4 M
def f_X9_rightHurt (a1 : Int32) (a2 : Int32) (a3 : Int32) (M : Mem) (K : Int32 → Mem → Prop) : Prop :=
  vp_in a1 24 ∧
  vp_in a1 24 ∧
  ((a3 = 0) →
    f_X9_rightHurt_b26 K (M 10 a1.toNatClampNeg) (mset M 10 a1.toNatClampNeg a2)) ∧
  ((¬ a3 = 0) →
    vp_in a1 24 ∧
    f_X9_rightHurt_b26 K (M 10 a1.toNatClampNeg) (mset (mset M 10 a1.toNatClampNeg a2) 12 a1.toNatClampNeg a2))
def f_X11_right_b26 (K : Int32 → Mem → Prop) (M : Mem) : Prop :=
  f_X11_refuse (-2 : Int32) M (fun v1 M1 =>
    K v1 M1)
def f_X11_right_b123 (K : Int32 → Mem → Prop) (s0 : Int32) (M : Mem) : Prop :=
  K s0 M
def f_X11_right_b92 (K : Int32 → Mem → Prop) (x1 : Int32) (x2 : Int32) (x3 : Int32) (s0 : Int32) (M : Mem) : Prop :=
  ((¬ x2 = 0) →
    f_X9_rightHurt x1 x3 s0 M (fun v3 M3 =>
      f_X11_right_b123 K v3 M3)) ∧
  ((x2 = 0) →
    f_X9_rightChildren x1 x3 s0 M (fun v4 M4 =>
      f_X11_right_b123 K v4 M4))
def f_X11_right_b46 (K : Int32 → Mem → Prop) (x1 : Int32) (x2 : Int32) (x3 : Int32) (s0 : Int32) (s1 : Int32) (s2 : Int32) (M : Mem) : Prop :=
  f_X11_outside s2 s1 s0 M (fun v5 M5 =>
    ((v5 = 0) →
      (((M5 124 2) < ((M5 1 0) - (M5 4 11))) →
        f_X11_right_b92 K x1 x2 x3 (0 : Int32) M5) ∧
      ((¬ (M5 124 2) < ((M5 1 0) - (M5 4 11))) →
        f_X11_right_b92 K x1 x2 x3 (1 : Int32) M5)) ∧
    ((¬ v5 = 0) →
      f_X11_refuse v5 M5 (fun v8 M8 =>
        K v8 M8)))
def f_X11_right (a1 : Int32) (a2 : Int32) (a3 : Int32) (M : Mem) (K : Int32 → Mem → Prop) : Prop :=
  f_X9_has a1 M (fun v9 M9 =>
    ((¬ v9 = 0) →
      ((a2 < 0) →
        f_X11_right_b26 K M9) ∧
      ((¬ a2 < 0) →
        ((a2 ≤ (1 : Int32)) →
          ((¬ a2 = 0) →
            f_X11_right_b46 K a1 a2 a3 (100 : Int32) (0 : Int32) a3 M9) ∧
          ((a2 = 0) →
            f_X11_right_b46 K a1 a2 a3 (9 : Int32) (0 : Int32) a3 M9)) ∧
        ((¬ a2 ≤ (1 : Int32)) →
          f_X11_right_b26 K M9))) ∧
    ((v9 = 0) →
      f_X11_refuse (-1 : Int32) M9 (fun v14 M14 =>
        K v14 M14)))
def f_X9_pointsOf_b100 (K : Int32 → Mem → Prop) (s0 : Int32) (s1 : Int32) (M : Mem) : Prop :=
  K (s1 + (s0 * (M 14 3))) M
def f_X9_pointsOf_b73 (K : Int32 → Mem → Prop) (x1 : Int32) (x3 : Int32) (s0 : Int32) (s1 : Int32) (M : Mem) : Prop :=
  ((x3 = 0) →
    vp_in x1 24 ∧
    f_X9_pointsOf_b100 K (M 10 x1.toNatClampNeg) (s1 + (s0 * (M 14 2))) M) ∧
  ((¬ x3 = 0) →
    vp_in x1 24 ∧
    f_X9_pointsOf_b100 K (M 12 x1.toNatClampNeg) (s1 + (s0 * (M 14 2))) M)
def f_X9_pointsOf_b14 (K : Int32 → Mem → Prop) (x1 : Int32) (x2 : Int32) (s0 : Int32) (M : Mem) : Prop :=
  vp_in x1 24 ∧
  vp_in x1 24 ∧
  ((s0 = 0) →
    vp_in x1 24 ∧
    f_X9_pointsOf_b73 K x1 s0 (M 9 x1.toNatClampNeg) ((((x2 - (M 7 x1.toNatClampNeg)) / (365 : Int32)) * (M 14 0)) + (((x2 - (M 8 x1.toNatClampNeg)) / (365 : Int32)) * (M 14 1))) M) ∧
  ((¬ s0 = 0) →
    vp_in x1 24 ∧
    f_X9_pointsOf_b73 K x1 s0 (M 11 x1.toNatClampNeg) ((((x2 - (M 7 x1.toNatClampNeg)) / (365 : Int32)) * (M 14 0)) + (((x2 - (M 8 x1.toNatClampNeg)) / (365 : Int32)) * (M 14 1))) M)
def f_X9_pointsOf (a1 : Int32) (a2 : Int32) (M : Mem) (K : Int32 → Mem → Prop) : Prop :=
  (((M 4 11) = (-9 : Int32)) →
    f_X9_pointsOf_b14 K a1 a2 (0 : Int32) M) ∧
  ((¬ (M 4 11) = (-9 : Int32)) →
    f_X9_pointsOf_b14 K a1 a2 (1 : Int32) M)
def f_X11_points (a1 : Int32) (M : Mem) (K : Int32 → Mem → Prop) : Prop :=
  f_X9_has a1 M (fun v1 M1 =>
    ((¬ v1 = 0) →
      f_X9_pointsOf a1 (M1 1 0) M1 (fun v3 M3 =>
        K v3 M3)) ∧
    ((v1 = 0) →
      f_X11_refuse (-1 : Int32) M1 (fun v4 M4 =>
        K v4 M4)))
def f_X9_goesAhead_b30 (K : Int32 → Mem → Prop) (s0 : Int32) (M : Mem) : Prop :=
  bz s0 ∧ K s0 M
def f_X9_goesAhead_b79 (K : Int32 → Mem → Prop) (s0 : Int32) (M : Mem) : Prop :=
  bz s0 ∧ K s0 M
def f_X9_goesAhead (a1 : Int32) (a2 : Int32) (a3 : Int32) (M : Mem) (K : Int32 → Mem → Prop) : Prop :=
  f_X9_pointsOf a1 a3 M (fun v7 M7 =>
    f_X9_pointsOf a2 a3 M7 (fun v8 M8 =>
      (((v7 - v8) = 0) →
        vp_in a1 24 ∧
        vp_in a2 24 ∧
        (((M8 8 a1.toNatClampNeg) = (M8 8 a2.toNatClampNeg)) →
          ((a1 ≤ a2) →
            f_X9_goesAhead_b79 K (0 : Int32) M8) ∧
          ((¬ a1 ≤ a2) →
            f_X9_goesAhead_b79 K (1 : Int32) M8)) ∧
        ((¬ (M8 8 a1.toNatClampNeg) = (M8 8 a2.toNatClampNeg)) →
          vp_in a1 24 ∧
          vp_in a2 24 ∧
          (((M8 8 a1.toNatClampNeg) ≤ (M8 8 a2.toNatClampNeg)) →
            f_X9_goesAhead_b79 K (0 : Int32) M8) ∧
          ((¬ (M8 8 a1.toNatClampNeg) ≤ (M8 8 a2.toNatClampNeg)) →
            f_X9_goesAhead_b79 K (1 : Int32) M8))) ∧
      ((¬ (v7 - v8) = 0) →
        ((0 ≤ (v7 - v8)) →
          f_X9_goesAhead_b30 K (0 : Int32) M8) ∧
        ((¬ 0 ≤ (v7 - v8)) →
          f_X9_goesAhead_b30 K (1 : Int32) M8))))
def f_X9_countAhead_b60 (r5 : Int32 × Int32 × Int32 × Int32 × Mem → Prop) (K : Int32 → Mem → Prop) (x1 : Int32) (x2 : Int32) (x3 : Int32) (x4 : Int32) (M : Mem) : Prop :=
  r5 (x1, x2, x3, (x4 + (1 : Int32)), M)
def f_X9_countAhead_c5 (K : Int32 → Mem → Prop) (r5 : Int32 × Int32 × Int32 × Int32 × Mem → Prop) (x1 : Int32) (x2 : Int32) (x3 : Int32) (x4 : Int32) (M : Mem) : Prop :=
  (((M 4 0) ≤ x4) →
    K x3 M) ∧
  ((¬ (M 4 0) ≤ x4) →
    ((x4 = x1) →
      f_X9_countAhead_b60 r5 K x1 x2 x3 x4 M) ∧
    ((¬ x4 = x1) →
      vp_in x4 24 ∧
      (((M 6 x4.toNatClampNeg) = 0) →
        f_X9_countAhead_b60 r5 K x1 x2 x3 x4 M) ∧
      ((¬ (M 6 x4.toNatClampNeg) = 0) →
        vp_in x4 24 ∧
        vp_in x1 24 ∧
        ((¬ (M 5 x4.toNatClampNeg) = (M 5 x1.toNatClampNeg)) →
          f_X9_countAhead_b60 r5 K x1 x2 x3 x4 M) ∧
        (((M 5 x4.toNatClampNeg) = (M 5 x1.toNatClampNeg)) →
          f_X9_goesAhead x4 x1 x2 M (fun v11 M11 =>
            ((v11 = 0) →
              f_X9_countAhead_b60 r5 K x1 x2 x3 x4 M11) ∧
            ((¬ v11 = 0) →
              f_X9_countAhead_b60 r5 K x1 x2 (x3 + (1 : Int32)) x4 M11))))))
def f_X9_countAhead (a1 : Int32) (a2 : Int32) (M : Mem) (K : Int32 → Mem → Prop) : Prop :=
  Lp (fun (r5 : Int32 × Int32 × Int32 × Int32 × Mem → Prop) a => f_X9_countAhead_c5 K r5 a.1 a.2.1 a.2.2.1 a.2.2.2.1 a.2.2.2.2) (a1, a2, (0 : Int32), (0 : Int32), M)
def f_X9_goingAt_b47 (r3 : Int32 × Int32 × Int32 × Int32 × Mem → Prop) (K : Int32 → Mem → Prop) (x1 : Int32) (x2 : Int32) (x3 : Int32) (x4 : Int32) (M : Mem) : Prop :=
  r3 (x1, x2, x3, (x4 + (1 : Int32)), M)
def f_X9_goingAt_c3 (K : Int32 → Mem → Prop) (r3 : Int32 × Int32 × Int32 × Int32 × Mem → Prop) (x1 : Int32) (x2 : Int32) (x3 : Int32) (x4 : Int32) (M : Mem) : Prop :=
  (((M 4 0) ≤ x4) →
    K (-9 : Int32) M) ∧
  ((¬ (M 4 0) ≤ x4) →
    vp_in x4 24 ∧
    (((M 6 x4.toNatClampNeg) = 0) →
      f_X9_goingAt_b47 r3 K x1 x2 x3 x4 M) ∧
    ((¬ (M 6 x4.toNatClampNeg) = 0) →
      vp_in x4 24 ∧
      ((¬ (M 5 x4.toNatClampNeg) = x1) →
        f_X9_goingAt_b47 r3 K x1 x2 x3 x4 M) ∧
      (((M 5 x4.toNatClampNeg) = x1) →
        f_X9_countAhead x4 x3 M (fun v8 M8 =>
          ((¬ v8 = x2) →
            f_X9_goingAt_b47 r3 K x1 x2 x3 x4 M8) ∧
          ((v8 = x2) →
            K x4 M8)))))
def f_X9_goingAt (a1 : Int32) (a2 : Int32) (a3 : Int32) (M : Mem) (K : Int32 → Mem → Prop) : Prop :=
  Lp (fun (r3 : Int32 × Int32 × Int32 × Int32 × Mem → Prop) a => f_X9_goingAt_c3 K r3 a.1 a.2.1 a.2.2.1 a.2.2.2.1 a.2.2.2.2) (a1, a2, a3, (0 : Int32), M)
def f_X11_goes_b64 (K : Int32 → Mem → Prop) (s0 : Int32) (M : Mem) : Prop :=
  K s0 M
def f_X11_goes_b43 (K : Int32 → Mem → Prop) (M : Mem) : Prop :=
  f_X11_goes_b64 K (-9 : Int32) M
def f_X11_goes (a1 : Int32) (a2 : Int32) (a3 : Int32) (M : Mem) (K : Int32 → Mem → Prop) : Prop :=
  f_X11_isShop a1 M (fun v1 M1 =>
    ((¬ v1 = 0) →
      f_X11_outside a2 (0 : Int32) (24 : Int32) M1 (fun v3 M3 =>
        ((v3 = 0) →
          ((a3 < 0) →
            f_X11_goes_b43 K M3) ∧
          ((¬ a3 < 0) →
            ((a3 < a2) →
              f_X9_goingAt a1 a3 (M3 1 0) M3 (fun v7 M7 =>
                f_X11_goes_b64 K v7 M7)) ∧
            ((¬ a3 < a2) →
              f_X11_goes_b43 K M3))) ∧
        ((¬ v3 = 0) →
          f_X11_refuse v3 M3 (fun v8 M8 =>
            K v8 M8)))) ∧
    ((v1 = 0) →
      f_X11_refuse (-1 : Int32) M1 (fun v9 M9 =>
        K v9 M9)))
def f_X6_add (a1 : Int32) (a2 : Int32) (a3 : Int32) (M : Mem) (K : Int32 → Mem → Prop) : Prop :=
  (((M 111 0) < (7 : Int32)) →
    vp_in (M 111 0) 7 ∧
    vp_in (M 111 0) 7 ∧
    vp_in (M 111 0) 7 ∧
    K (((M 111 0) + (1 : Int32)) - (1 : Int32)) (mset (mset (mset (mset (mset M 112 ((M 111 0).toNatClampNeg) a1) 113 ((M 111 0).toNatClampNeg) a2) 114 ((M 111 0).toNatClampNeg) a3) 111 0 ((M 111 0) + (1 : Int32))) 111 8 (-9 : Int32))) ∧
  ((¬ (M 111 0) < (7 : Int32)) →
    K (-6 : Int32) M)
def f_X11_planned_b13 (K : Int32 → Mem → Prop) (M : Mem) : Prop :=
  f_X11_refuse (-4 : Int32) M (fun v1 M1 =>
    K v1 M1)
def f_X11_planned_b62 (K : Int32 → Mem → Prop) (M : Mem) : Prop :=
  f_X11_refuse (-6 : Int32) M (fun v2 M2 =>
    K v2 M2)
def f_X11_planned (a1 : Int32) (a2 : Int32) (a3 : Int32) (M : Mem) (K : Int32 → Mem → Prop) : Prop :=
  ((a1 < (1 : Int32)) →
    f_X11_planned_b13 K M) ∧
  ((¬ a1 < (1 : Int32)) →
    ((a2 < 0) →
      f_X11_planned_b13 K M) ∧
    ((¬ a2 < 0) →
      ((0 ≤ a3) →
        (((a3 >>> ((M 111 0) &&& 31)) = 0) →
          (((3 : Int32) < a1) →
            f_X11_planned_b62 K M) ∧
          ((¬ (3 : Int32) < a1) →
            (((7 : Int32) ≤ a2) →
              f_X11_planned_b62 K M) ∧
            ((¬ (7 : Int32) ≤ a2) →
              (((M 111 0) < (7 : Int32)) →
                f_X6_add a1 a2 a3 M (fun v10 M10 =>
                  K v10 M10)) ∧
              ((¬ (M 111 0) < (7 : Int32)) →
                f_X11_planned_b62 K M)))) ∧
        ((¬ (a3 >>> ((M 111 0) &&& 31)) = 0) →
          f_X11_refuse (-3 : Int32) M (fun v11 M11 =>
            K v11 M11))) ∧
      ((¬ 0 ≤ a3) →
        f_X11_planned_b13 K M)))
def f_X6_firstPlace_b36 (r4 : Int32 × Int32 × Int32 × Mem → Prop) (K : Int32 → Mem → Prop) (x1 : Int32) (x2 : Int32) (x3 : Int32) (M : Mem) : Prop :=
  r4 (x1, x2, (x3 + (1 : Int32)), M)
def f_X6_firstPlace_c4 (K : Int32 → Mem → Prop) (r4 : Int32 × Int32 × Int32 × Mem → Prop) (x1 : Int32) (x2 : Int32) (x3 : Int32) (M : Mem) : Prop :=
  ((x1 ≤ x3) →
    K x2 M) ∧
  ((¬ x1 ≤ x3) →
    vp_in x1 7 ∧
    ((¬ (((M 114 x1.toNatClampNeg) >>> (x3 &&& 31)) &&& (1 : Int32)) = (1 : Int32)) →
      f_X6_firstPlace_b36 r4 K x1 x2 x3 M) ∧
    (((((M 114 x1.toNatClampNeg) >>> (x3 &&& 31)) &&& (1 : Int32)) = (1 : Int32)) →
      vp_in x3 7 ∧
      f_X6_firstPlace_b36 r4 K x1 (if x2 < ((M 115 x3.toNatClampNeg) + (1 : Int32)) then ((M 115 x3.toNatClampNeg) + (1 : Int32)) else x2) x3 M))
def f_X6_firstPlace (a1 : Int32) (M : Mem) (K : Int32 → Mem → Prop) : Prop :=
  Lp (fun (r4 : Int32 × Int32 × Int32 × Mem → Prop) a => f_X6_firstPlace_c4 K r4 a.1 a.2.1 a.2.2.1 a.2.2.2) (a1, (0 : Int32), (0 : Int32), M)
def f_X6_leastLateFrom_b53 (r4 : Int32 × Int32 × Mem → Prop) (K : Int32 → Mem → Prop) (x2 : Int32) (x3 : Int32) (x4 : Int32) (M : Mem) : Prop :=
  vp_in x3 7 ∧
  vp_in x3 7 ∧
  r4 ((x2 + (if (0 : Int32) < (x4 - (M 113 x3.toNatClampNeg)) then (x4 - (M 113 x3.toNatClampNeg)) else (0 : Int32))), (x3 + (1 : Int32)), (mset M 115 x3.toNatClampNeg x4))
def f_X6_leastLateFrom_c19 (r4 : Int32 × Int32 × Mem → Prop) (K : Int32 → Mem → Prop) (r19 : Int32 × Int32 × Int32 × Mem → Prop) (x2 : Int32) (x3 : Int32) (x4 : Int32) (M : Mem) : Prop :=
  (((7 : Int32) ≤ x4) →
    f_X6_leastLateFrom_b53 r4 K x2 x3 x4 M) ∧
  ((¬ (7 : Int32) ≤ x4) →
    vp_in x4 7 ∧
    vp_in x3 7 ∧
    ((((M 116 x4.toNatClampNeg) + (M 112 x3.toNatClampNeg)) ≤ (M 111 8)) →
      f_X6_leastLateFrom_b53 r4 K x2 x3 x4 M) ∧
    ((¬ ((M 116 x4.toNatClampNeg) + (M 112 x3.toNatClampNeg)) ≤ (M 111 8)) →
      r19 (x2, x3, (x4 + (1 : Int32)), M)))
def f_X6_leastLateFrom_c4 (K : Int32 → Mem → Prop) (r4 : Int32 × Int32 × Mem → Prop) (x2 : Int32) (x3 : Int32) (M : Mem) : Prop :=
  (((M 111 0) ≤ x3) →
    K x2 M) ∧
  ((¬ (M 111 0) ≤ x3) →
    f_X6_firstPlace x3 M (fun v12 M12 =>
      Lp (fun (r19 : Int32 × Int32 × Int32 × Mem → Prop) a => f_X6_leastLateFrom_c19 r4 K r19 a.1 a.2.1 a.2.2.1 a.2.2.2) (x2, x3, v12, M12)))
def f_X6_leastLateFrom (a1 : Int32) (M : Mem) (K : Int32 → Mem → Prop) : Prop :=
  Lp (fun (r4 : Int32 × Int32 × Mem → Prop) a => f_X6_leastLateFrom_c4 K r4 a.1 a.2.1 a.2.2) ((0 : Int32), a1, M)
def f_X6_keepPlaces_c7 (K : Mem → Prop) (r7 : Int32 × Mem → Prop) (x2 : Int32) (M : Mem) : Prop :=
  (((M 111 0) ≤ x2) →
    K M) ∧
  ((¬ (M 111 0) ≤ x2) →
    vp_in x2 7 ∧
    vp_in x2 7 ∧
    r7 ((x2 + (1 : Int32)), (mset M 117 x2.toNatClampNeg (M 115 x2.toNatClampNeg))))
def f_X6_keepPlaces (a1 : Int32) (M : Mem) (K : Mem → Prop) : Prop :=
  Lp (fun (r7 : Int32 × Mem → Prop) a => f_X6_keepPlaces_c7 K r7 a.1 a.2) ((0 : Int32), (mset M 111 7 a1))
def f_X6_settleOn_b93 (rec : Int32 → Int32 → Mem → (Mem → Prop) → Prop) (r6 : Int32 × Int32 × Int32 × Mem → Prop) (K : Mem → Prop) (x1 : Int32) (x2 : Int32) (x3 : Int32) (M : Mem) : Prop :=
  r6 (x1, x2, (x3 + (1 : Int32)), M)
def f_X6_settleOn_c6 (rec : Int32 → Int32 → Mem → (Mem → Prop) → Prop) (K : Mem → Prop) (r6 : Int32 × Int32 × Int32 × Mem → Prop) (x1 : Int32) (x2 : Int32) (x3 : Int32) (M : Mem) : Prop :=
  (((7 : Int32) ≤ x3) →
    K M) ∧
  ((¬ (7 : Int32) ≤ x3) →
    vp_in x3 7 ∧
    vp_in x1 7 ∧
    ((((M 116 x3.toNatClampNeg) + (M 112 x1.toNatClampNeg)) ≤ (M 111 8)) →
      vp_in x3 7 ∧
      vp_in x1 7 ∧
      vp_in x3 7 ∧
      vp_in x1 7 ∧
      vp_in x1 7 ∧
      rec (x1 + (1 : Int32)) (x2 + (if (0 : Int32) < (x3 - (M 113 x1.toNatClampNeg)) then (x3 - (M 113 x1.toNatClampNeg)) else (0 : Int32))) (mset (mset M 116 x3.toNatClampNeg ((M 116 x3.toNatClampNeg) + (M 112 x1.toNatClampNeg))) 115 x1.toNatClampNeg x3) (fun M20 =>
        vp_in x3 7 ∧
        vp_in x1 7 ∧
        vp_in x3 7 ∧
        f_X6_settleOn_b93 rec r6 K x1 x2 x3 (mset M20 116 x3.toNatClampNeg ((M20 116 x3.toNatClampNeg) - (M20 112 x1.toNatClampNeg))))) ∧
    ((¬ ((M 116 x3.toNatClampNeg) + (M 112 x1.toNatClampNeg)) ≤ (M 111 8)) →
      f_X6_settleOn_b93 rec r6 K x1 x2 x3 M))
def f_X6_settleOn (rec : Int32 → Int32 → Mem → (Mem → Prop) → Prop) (a1 : Int32) (a2 : Int32) (M : Mem) (K : Mem → Prop) : Prop :=
  f_X6_firstPlace a1 M (fun v24 M24 =>
    Lp (fun (r6 : Int32 × Int32 × Int32 × Mem → Prop) a => f_X6_settleOn_c6 rec K r6 a.1 a.2.1 a.2.2.1 a.2.2.2) (a1, a2, v24, M24))
def f_X6_settleFrom_b32 (rec : Int32 → Int32 → Mem → (Mem → Prop) → Prop) (K : Mem → Prop) (x1 : Int32) (x2 : Int32) (M : Mem) : Prop :=
  ((¬ x1 = (M 111 0)) →
    f_X6_settleOn rec x1 x2 M (fun M2 =>
      K M2)) ∧
  ((x1 = (M 111 0)) →
    f_X6_keepPlaces x2 M (fun M3 =>
      K M3))
def f_X6_settleFrom (rec : Int32 → Int32 → Mem → (Mem → Prop) → Prop) (a1 : Int32) (a2 : Int32) (M : Mem) (K : Mem → Prop) : Prop :=
  (((M 111 0) < a1) →
    K M) ∧
  ((¬ (M 111 0) < a1) →
    (((M 111 7) = (-9 : Int32)) →
      f_X6_settleFrom_b32 rec K a1 a2 M) ∧
    ((¬ (M 111 7) = (-9 : Int32)) →
      f_X6_leastLateFrom a1 M (fun v6 M6 =>
        (((a2 + v6) < (M6 111 7)) →
          f_X6_settleFrom_b32 rec K a1 a2 M6) ∧
        ((¬ (a2 + v6) < (M6 111 7)) →
          K M6))))
def fr_pl : Nat → Int32 → Int32 → Mem → (Mem → Prop) → Prop
  | 0 => fun _ _ _ _ => False
  | n + 1 => f_X6_settleFrom (fr_pl n)
def f_X6_leastLate_b46 (K : Int32 → Mem → Prop) (M : Mem) : Prop :=
  K (M 111 7) M
def f_X6_leastLate_c21 (K : Int32 → Mem → Prop) (r21 : Int32 × Mem → Prop) (x2 : Int32) (M : Mem) : Prop :=
  (((7 : Int32) ≤ x2) →
    fr_pl 12 (0 : Int32) (0 : Int32) M (fun M3 =>
      f_X6_leastLate_b46 K M3)) ∧
  ((¬ (7 : Int32) ≤ x2) →
    vp_in x2 7 ∧
    r21 ((x2 + (1 : Int32)), (mset M 116 x2.toNatClampNeg (0 : Int32))))
def f_X6_leastLate (a1 : Int32) (M : Mem) (K : Int32 → Mem → Prop) : Prop :=
  (((M 111 8) = a1) →
    f_X6_leastLate_b46 K M) ∧
  ((¬ (M 111 8) = a1) →
    Lp (fun (r21 : Int32 × Mem → Prop) a => f_X6_leastLate_c21 K r21 a.1 a.2) ((0 : Int32), (mset (mset M 111 8 a1) 111 7 (-9 : Int32))))
def f_X11_plan (M : Mem) (K : Int32 → Mem → Prop) : Prop :=
  f_X6_leastLate (M 124 3) M (fun v1 M1 =>
    K v1 M1)
def f_X11_placeOf_b15 (K : Int32 → Mem → Prop) (M : Mem) : Prop :=
  f_X11_refuse (-1 : Int32) M (fun v2 M2 =>
    K v2 M2)
def f_X11_placeOf_b53 (K : Int32 → Mem → Prop) (s0 : Int32) (M : Mem) : Prop :=
  K s0 M
def f_X11_placeOf (a1 : Int32) (M : Mem) (K : Int32 → Mem → Prop) : Prop :=
  ((a1 < 0) →
    f_X11_placeOf_b15 K M) ∧
  ((¬ a1 < 0) →
    ((a1 < (M 111 0)) →
      f_X6_leastLate (M 124 3) M (fun v5 M5 =>
        ((¬ v5 = (-9 : Int32)) →
          vp_in a1 7 ∧
          f_X11_placeOf_b53 K (M5 117 a1.toNatClampNeg) M5) ∧
        ((v5 = (-9 : Int32)) →
          f_X11_placeOf_b53 K (-9 : Int32) M5))) ∧
    ((¬ a1 < (M 111 0)) →
      f_X11_placeOf_b15 K M))
def f_X11_put (a1 : Int32) (M : Mem) (K : Int32 → Mem → Prop) : Prop :=
  (((M 0 14) < (40 : Int32)) →
    vp_in (M 0 14) 40 ∧
    K ((M 0 14) + (1 : Int32)) (mset (mset M 125 ((M 0 14).toNatClampNeg) a1) 0 14 ((M 0 14) + (1 : Int32)))) ∧
  ((¬ (M 0 14) < (40 : Int32)) →
    f_X11_refuse (-6 : Int32) M (fun v4 M4 =>
      K v4 M4))
def f_X11_check_b8 (K : Int32 → Mem → Prop) (M : Mem) : Prop :=
  f_X11_refuse (-4 : Int32) M (fun v4 M4 =>
    K v4 M4)
def f_X11_check_b31 (K : Int32 → Mem → Prop) (M : Mem) : Prop :=
  f_X11_refuse (-3 : Int32) M (fun v5 M5 =>
    K v5 M5)
def f_X11_check_b109 (K : Int32 → Mem → Prop) (x4 : Int32) (M : Mem) : Prop :=
  K x4 M
def f_X11_check_b118 (K : Int32 → Mem → Prop) (M : Mem) : Prop :=
  K (-9 : Int32) M
def f_X11_check_c51 (K : Int32 → Mem → Prop) (r51 : Int32 × Int32 × Int32 × Int32 × Mem → Prop) (x1 : Int32) (x2 : Int32) (x3 : Int32) (x4 : Int32) (M : Mem) : Prop :=
  ((x3 ≤ x4) →
    f_X11_check_b118 K M) ∧
  ((¬ x3 ≤ x4) →
    (((40 : Int32) ≤ x4) →
      f_X11_check_b118 K M) ∧
    ((¬ (40 : Int32) ≤ x4) →
      f_X11_isMatter x4 M (fun v8 M8 =>
        ((v8 = 0) →
          f_X11_check_b109 K x4 M8) ∧
        ((¬ v8 = 0) →
          vp_in x4 40 ∧
          ((x1 < (M8 (127 + 4 * x4.toNatClampNeg) 6)) →
            f_X11_check_b109 K x4 M8) ∧
          ((¬ x1 < (M8 (127 + 4 * x4.toNatClampNeg) 6)) →
            vp_in x4 40 ∧
            f_X5_stateOn (127 + 4 * x4.toNatClampNeg) x1 x2 M8 (fun v13 M13 =>
              vp_in x4 40 ∧
              ((v13 = (M13 125 x4.toNatClampNeg)) →
                r51 (x1, x2, x3, (x4 + (1 : Int32)), M13)) ∧
              ((¬ v13 = (M13 125 x4.toNatClampNeg)) →
                f_X11_check_b109 K x4 M13)))))))
def f_X11_check (a1 : Int32) (a2 : Int32) (M : Mem) (K : Int32 → Mem → Prop) : Prop :=
  ((a1 < 0) →
    f_X11_check_b8 K M) ∧
  ((¬ a1 < 0) →
    ((0 ≤ a2) →
      ((a2 < a1) →
        f_X11_check_b31 K M) ∧
      ((¬ a2 < a1) →
        ((a2 ≤ (M 1 0)) →
          Lp (fun (r51 : Int32 × Int32 × Int32 × Int32 × Mem → Prop) a => f_X11_check_c51 K r51 a.1 a.2.1 a.2.2.1 a.2.2.2.1 a.2.2.2.2) (a1, a2, (M 0 14), (0 : Int32), (mset M 0 14 (0 : Int32)))) ∧
        ((¬ a2 ≤ (M 1 0)) →
          f_X11_check_b31 K M))) ∧
    ((¬ 0 ≤ a2) →
      f_X11_check_b8 K M))
def f_X11_countHolding_b26 (r4 : Int32 × Int32 × Mem → Prop) (K : Int32 → Mem → Prop) (x1 : Int32) (x2 : Int32) (M : Mem) : Prop :=
  r4 (x1, (x2 + (1 : Int32)), M)
def f_X11_countHolding_c4 (K : Int32 → Mem → Prop) (r4 : Int32 × Int32 × Mem → Prop) (x1 : Int32) (x2 : Int32) (M : Mem) : Prop :=
  (((M 62 0) ≤ x2) →
    K x1 M) ∧
  ((¬ (M 62 0) ≤ x2) →
    f_X11_holds x2 M (fun v2 M2 =>
      ((v2 = 0) →
        f_X11_countHolding_b26 r4 K x1 x2 M2) ∧
      ((¬ v2 = 0) →
        f_X11_countHolding_b26 r4 K (x1 + (1 : Int32)) x2 M2)))
def f_X11_countHolding (M : Mem) (K : Int32 → Mem → Prop) : Prop :=
  Lp (fun (r4 : Int32 × Int32 × Mem → Prop) a => f_X11_countHolding_c4 K r4 a.1 a.2.1 a.2.2) ((0 : Int32), (0 : Int32), M)
def f_X11_countVoid_b28 (r4 : Int32 × Int32 × Mem → Prop) (K : Int32 → Mem → Prop) (x1 : Int32) (x2 : Int32) (M : Mem) : Prop :=
  r4 (x1, (x2 + (1 : Int32)), M)
def f_X11_countVoid_c4 (K : Int32 → Mem → Prop) (r4 : Int32 × Int32 × Mem → Prop) (x1 : Int32) (x2 : Int32) (M : Mem) : Prop :=
  (((M 72 0) ≤ x2) →
    K x1 M) ∧
  ((¬ (M 72 0) ≤ x2) →
    f_X11_voidSince x2 M (fun v2 M2 =>
      ((v2 = (-9 : Int32)) →
        f_X11_countVoid_b28 r4 K x1 x2 M2) ∧
      ((¬ v2 = (-9 : Int32)) →
        f_X11_countVoid_b28 r4 K (x1 + (1 : Int32)) x2 M2)))
def f_X11_countVoid (M : Mem) (K : Int32 → Mem → Prop) : Prop :=
  Lp (fun (r4 : Int32 × Int32 × Mem → Prop) a => f_X11_countVoid_c4 K r4 a.1 a.2.1 a.2.2) ((0 : Int32), (0 : Int32), M)
def f_X11_count_b22 (K : Int32 → Mem → Prop) (x1 : Int32) (M : Mem) : Prop :=
  ((x1.toInt < 0 ∨ 10 < x1.toInt) →
    K (-9 : Int32) M) ∧
  ((x1 = (0 : Int32)) →
    K (M 1 0) M) ∧
  ((x1 = (1 : Int32)) →
    f_X9_hereIn (63 : Int32) M (fun v3 M3 =>
      K v3 M3)) ∧
  ((x1 = (2 : Int32)) →
    K (M 15 0) M) ∧
  ((x1 = (3 : Int32)) →
    K (M 0 5) M) ∧
  ((x1 = (4 : Int32)) →
    K (M 51 1) M) ∧
  ((x1 = (5 : Int32)) →
    K (M 51 5) M) ∧
  ((x1 = (6 : Int32)) →
    f_X11_countHolding M (fun v4 M4 =>
      K v4 M4)) ∧
  ((x1 = (7 : Int32)) →
    K (M 72 0) M) ∧
  ((x1 = (8 : Int32)) →
    f_X11_countVoid M (fun v5 M5 =>
      K v5 M5)) ∧
  ((x1 = (9 : Int32)) →
    f_X0_fed M (fun v6 M6 =>
      K v6 M6)) ∧
  ((x1 = (10 : Int32)) →
    K (M 0 14) M)
def f_X11_count (a1 : Int32) (M : Mem) (K : Int32 → Mem → Prop) : Prop :=
  ((a1 < (11 : Int32)) →
    f_X11_count_b22 K a1 M) ∧
  ((¬ a1 < (11 : Int32)) →
    (((16 : Int32) < a1) →
      f_X11_count_b22 K a1 M) ∧
    ((¬ (16 : Int32) < a1) →
      vp_in (a1 - (10 : Int32)) 7 ∧
      K (M 126 ((a1 - (10 : Int32)).toNatClampNeg)) M))
def f_X12_in_b15 (K : Int32 → Mem → Prop) (s0 : Int32) (M : Mem) : Prop :=
  bz s0 ∧ K s0 M
def f_X12_in_b14 (K : Int32 → Mem → Prop) (M : Mem) : Prop :=
  f_X12_in_b15 K (0 : Int32) M
def f_X12_in (a1 : Int32) (a2 : Int32) (a3 : Int32) (M : Mem) (K : Int32 → Mem → Prop) : Prop :=
  ((a1 < a2) →
    f_X12_in_b14 K M) ∧
  ((¬ a1 < a2) →
    ((a3 < a1) →
      f_X12_in_b14 K M) ∧
    ((¬ a3 < a1) →
      f_X12_in_b15 K (1 : Int32) M))
def f_X12_refuse (a1 : Int32) (M : Mem) (K : Int32 → Mem → Prop) : Prop :=
  vp_in (-a1) 7 ∧
  vp_in (-a1) 7 ∧
  K a1 (mset M 295 ((-a1).toNatClampNeg) ((M 295 ((-a1).toNatClampNeg)) + (1 : Int32)))
def f_X12_refuseFar (a1 : Int32) (M : Mem) (K : Int32 → Mem → Prop) : Prop :=
  vp_in (-a1) 7 ∧
  vp_in (-a1) 7 ∧
  K ((1000000000 : Int32) - a1) (mset M 295 ((-a1).toNatClampNeg) ((M 295 ((-a1).toNatClampNeg)) + (1 : Int32)))
def f_X12_ones_c4 (K : Int32 → Mem → Prop) (r4 : Int32 × Int32 × Mem → Prop) (x1 : Int32) (x2 : Int32) (M : Mem) : Prop :=
  ((x2 ≤ 0) →
    K x1 M) ∧
  ((¬ x2 ≤ 0) →
    r4 ((x1 + (x2 - x2 / (2 : Int32) * (2 : Int32))), (x2 / (2 : Int32)), M))
def f_X12_ones (a1 : Int32) (M : Mem) (K : Int32 → Mem → Prop) : Prop :=
  Lp (fun (r4 : Int32 × Int32 × Mem → Prop) a => f_X12_ones_c4 K r4 a.1 a.2.1 a.2.2) ((0 : Int32), a1, M)
def f_X12_isShop (a1 : Int32) (M : Mem) (K : Int32 → Mem → Prop) : Prop :=
  f_X12_in a1 (0 : Int32) (5 : Int32) M (fun v1 M1 =>
    bz v1 ∧ K v1 M1)
def f_X12_isWhat (a1 : Int32) (M : Mem) (K : Int32 → Mem → Prop) : Prop :=
  f_X12_in a1 (0 : Int32) (7 : Int32) M (fun v1 M1 =>
    bz v1 ∧ K v1 M1)
def f_X12_isPerson (a1 : Int32) (M : Mem) (K : Int32 → Mem → Prop) : Prop :=
  f_X12_in a1 (0 : Int32) ((M 287 2) - (1 : Int32)) M (fun v1 M1 =>
    bz v1 ∧ K v1 M1)
def f_X12_days (a1 : Int32) (M : Mem) (K : Int32 → Mem → Prop) : Prop :=
  (((1 : Int32) ≤ a1) →
    ((a1 ≤ ((1000 : Int32) - (M 287 0))) →
      K ((M 287 0) + a1) (mset M 287 0 ((M 287 0) + a1))) ∧
    ((¬ a1 ≤ ((1000 : Int32) - (M 287 0))) →
      f_X12_refuse (-6 : Int32) M (fun v3 M3 =>
        K v3 M3))) ∧
  ((¬ (1 : Int32) ≤ a1) →
    f_X12_refuse (-4 : Int32) M (fun v4 M4 =>
      K v4 M4))
def f_X12_feast_b48 (K : Int32 → Mem → Prop) (s0 : Int32) (M : Mem) : Prop :=
  K s0 M
def f_X12_feast (a1 : Int32) (M : Mem) (K : Int32 → Mem → Prop) : Prop :=
  ((0 ≤ a1) →
    ((a1 ≤ (1000 : Int32)) →
      vp_in a1 1001 ∧
      vp_in a1 1001 ∧
      (((M 288 a1.toNatClampNeg) = 0) →
        f_X12_feast_b48 K (1 : Int32) (mset M 288 a1.toNatClampNeg (1 : Int32))) ∧
      ((¬ (M 288 a1.toNatClampNeg) = 0) →
        f_X12_feast_b48 K (0 : Int32) (mset M 288 a1.toNatClampNeg (1 : Int32)))) ∧
    ((¬ a1 ≤ (1000 : Int32)) →
      f_X12_refuse (-6 : Int32) M (fun v8 M8 =>
        K v8 M8))) ∧
  ((¬ 0 ≤ a1) →
    f_X12_refuse (-4 : Int32) M (fun v9 M9 =>
      K v9 M9))
def f_X12_workdaysIn_b38 (r7 : Int32 × Int32 × Int32 × Mem → Prop) (K : Int32 → Mem → Prop) (x2 : Int32) (x4 : Int32) (s0 : Int32) (s1 : Int32) (M : Mem) : Prop :=
  r7 (x2, (s1 + s0), (x4 + (1 : Int32)), M)
def f_X12_workdaysIn_b37 (r7 : Int32 × Int32 × Int32 × Mem → Prop) (K : Int32 → Mem → Prop) (x2 : Int32) (x4 : Int32) (s0 : Int32) (M : Mem) : Prop :=
  f_X12_workdaysIn_b38 r7 K x2 x4 (0 : Int32) s0 M
def f_X12_workdaysIn_c7 (K : Int32 → Mem → Prop) (r7 : Int32 × Int32 × Int32 × Mem → Prop) (x2 : Int32) (x3 : Int32) (x4 : Int32) (M : Mem) : Prop :=
  ((x2 < x4) →
    K x3 M) ∧
  ((¬ x2 < x4) →
    (((5 : Int32) ≤ (x4 - x4 / (7 : Int32) * (7 : Int32))) →
      f_X12_workdaysIn_b37 r7 K x2 x4 x3 M) ∧
    ((¬ (5 : Int32) ≤ (x4 - x4 / (7 : Int32) * (7 : Int32))) →
      vp_in x4 1001 ∧
      ((¬ (M 288 x4.toNatClampNeg) = 0) →
        f_X12_workdaysIn_b37 r7 K x2 x4 x3 M) ∧
      (((M 288 x4.toNatClampNeg) = 0) →
        f_X12_workdaysIn_b38 r7 K x2 x4 (1 : Int32) x3 M)))
def f_X12_workdaysIn (a1 : Int32) (a2 : Int32) (M : Mem) (K : Int32 → Mem → Prop) : Prop :=
  Lp (fun (r7 : Int32 × Int32 × Int32 × Mem → Prop) a => f_X12_workdaysIn_c7 K r7 a.1 a.2.1 a.2.2.1 a.2.2.2) (a2, (0 : Int32), (a1 + (1 : Int32)), M)
def f_X12_workdays_b8 (K : Int32 → Mem → Prop) (M : Mem) : Prop :=
  f_X12_refuse (-4 : Int32) M (fun v1 M1 =>
    K v1 M1)
def f_X12_workdays_b44 (K : Int32 → Mem → Prop) (s0 : Int32) (M : Mem) : Prop :=
  K s0 M
def f_X12_workdays_b29 (K : Int32 → Mem → Prop) (M : Mem) : Prop :=
  f_X12_refuse (-6 : Int32) M (fun v2 M2 =>
    f_X12_workdays_b44 K v2 M2)
def f_X12_workdays (a1 : Int32) (a2 : Int32) (M : Mem) (K : Int32 → Mem → Prop) : Prop :=
  ((a1 < 0) →
    f_X12_workdays_b8 K M) ∧
  ((¬ a1 < 0) →
    ((0 ≤ a2) →
      (((1000 : Int32) < a1) →
        f_X12_workdays_b29 K M) ∧
      ((¬ (1000 : Int32) < a1) →
        ((a2 ≤ (1000 : Int32)) →
          f_X12_workdaysIn a1 a2 M (fun v7 M7 =>
            f_X12_workdays_b44 K v7 M7)) ∧
        ((¬ a2 ≤ (1000 : Int32)) →
          f_X12_workdays_b29 K M))) ∧
    ((¬ 0 ≤ a2) →
      f_X12_workdays_b8 K M))
def f_X12_person_b37 (K : Int32 → Mem → Prop) (M : Mem) : Prop :=
  f_X12_refuse (-4 : Int32) M (fun v8 M8 =>
    K v8 M8)
def f_X12_person_b82 (K : Int32 → Mem → Prop) (M : Mem) : Prop :=
  f_X12_refuse (-6 : Int32) M (fun v9 M9 =>
    K v9 M9)
def f_X12_person (a1 : Int32) (a2 : Int32) (a3 : Int32) (a4 : Int32) (a5 : Int32) (M : Mem) (K : Int32 → Mem → Prop) : Prop :=
  f_X12_isShop a1 M (fun v10 M10 =>
    ((¬ v10 = 0) →
      ((a2 < (-25000 : Int32)) →
        f_X12_person_b37 K M10) ∧
      ((¬ a2 < (-25000 : Int32)) →
        ((a3 < (-15000 : Int32)) →
          f_X12_person_b37 K M10) ∧
        ((¬ a3 < (-15000 : Int32)) →
          ((a4 < 0) →
            f_X12_person_b37 K M10) ∧
          ((¬ a4 < 0) →
            ((0 ≤ a5) →
              (((-5000 : Int32) < a2) →
                f_X12_person_b82 K M10) ∧
              ((¬ (-5000 : Int32) < a2) →
                (((M10 287 0) < a3) →
                  f_X12_person_b82 K M10) ∧
                ((¬ (M10 287 0) < a3) →
                  (((9 : Int32) < a4) →
                    f_X12_person_b82 K M10) ∧
                  ((¬ (9 : Int32) < a4) →
                    (((100 : Int32) < a5) →
                      f_X12_person_b82 K M10) ∧
                    ((¬ (100 : Int32) < a5) →
                      ((¬ (M10 287 2) = (24 : Int32)) →
                        vp_in (M10 287 2) 24 ∧
                        vp_in (M10 287 2) 24 ∧
                        vp_in (M10 287 2) 24 ∧
                        vp_in ((2 : Int32) * (M10 287 2)) 48 ∧
                        vp_in (((2 : Int32) * (M10 287 2)) + (1 : Int32)) 48 ∧
                        vp_in ((2 : Int32) * (M10 287 2)) 48 ∧
                        vp_in (((2 : Int32) * (M10 287 2)) + (1 : Int32)) 48 ∧
                        K (((M10 287 2) + (1 : Int32)) - (1 : Int32)) (mset (mset (mset (mset (mset (mset (mset (mset (mset M10 287 89 (-1 : Int32)) 289 ((M10 287 2).toNatClampNeg) a1) 290 ((M10 287 2).toNatClampNeg) a2) 291 ((M10 287 2).toNatClampNeg) a3) 292 (((2 : Int32) * (M10 287 2)).toNatClampNeg) a4) 292 ((((2 : Int32) * (M10 287 2)) + (1 : Int32)).toNatClampNeg) a5) 293 (((2 : Int32) * (M10 287 2)).toNatClampNeg) a4) 293 ((((2 : Int32) * (M10 287 2)) + (1 : Int32)).toNatClampNeg) a5) 287 2 ((M10 287 2) + (1 : Int32)))) ∧
                      (((M10 287 2) = (24 : Int32)) →
                        f_X12_person_b82 K M10)))))) ∧
            ((¬ 0 ≤ a5) →
              f_X12_person_b37 K M10))))) ∧
    ((v10 = 0) →
      f_X12_refuse (-1 : Int32) M10 (fun v28 M28 =>
        K v28 M28)))
def f_X12_leave (a1 : Int32) (M : Mem) (K : Int32 → Mem → Prop) : Prop :=
  f_X12_isPerson a1 M (fun v3 M3 =>
    ((¬ v3 = 0) →
      vp_in a1 24 ∧
      (((M3 294 a1.toNatClampNeg) = 0) →
        vp_in a1 24 ∧
        K (1 : Int32) (mset (mset M3 287 89 (-1 : Int32)) 294 a1.toNatClampNeg (1 : Int32))) ∧
      ((¬ (M3 294 a1.toNatClampNeg) = 0) →
        f_X12_refuse (-3 : Int32) M3 (fun v8 M8 =>
          K v8 M8))) ∧
    ((v3 = 0) →
      f_X12_refuse (-1 : Int32) M3 (fun v9 M9 =>
        K v9 M9)))
def f_X12_feed_b29 (K : Int32 → Mem → Prop) (M : Mem) : Prop :=
  f_X12_refuse (-6 : Int32) M (fun v2 M2 =>
    K v2 M2)
def f_X12_feed_c39 (K : Int32 → Mem → Prop) (r39 : Int32 × Int64 × Int32 × Mem → Prop) (x1 : Int32) (x2 : Int64) (x4 : Int32) (M : Mem) : Prop :=
  ((x1 ≤ x4) →
    K (M 287 11) M) ∧
  ((¬ x1 ≤ x4) →
    vp_in (M 287 11) 60 ∧
    r39 (x1, x2, (x4 + (1 : Int32)), (mset (mset M 296 ((M 287 11).toNatClampNeg) (((x2 >>> (((8 : Int32) * x4).toInt64 &&& 63)) &&& (255 : Int64)).toInt32)) 287 11 ((M 287 11) + (1 : Int32)))))
def f_X12_feed (a1 : Int32) (a2 : Int64) (M : Mem) (K : Int32 → Mem → Prop) : Prop :=
  (((1 : Int32) ≤ a1) →
    (((8 : Int32) < a1) →
      f_X12_feed_b29 K M) ∧
    ((¬ (8 : Int32) < a1) →
      ((((M 287 11) + a1) ≤ (60 : Int32)) →
        Lp (fun (r39 : Int32 × Int64 × Int32 × Mem → Prop) a => f_X12_feed_c39 K r39 a.1 a.2.1 a.2.2.1 a.2.2.2) (a1, a2, (0 : Int32), M)) ∧
      ((¬ ((M 287 11) + a1) ≤ (60 : Int32)) →
        f_X12_feed_b29 K M))) ∧
  ((¬ (1 : Int32) ≤ a1) →
    f_X12_refuse (-4 : Int32) M (fun v8 M8 =>
      K v8 M8))
def f_X12_byteHere_b48 (K : Int32 → Mem → Prop) (s0 : Int32) (M : Mem) : Prop :=
  K s0 M
def f_X12_byteHere (M : Mem) (K : Int32 → Mem → Prop) : Prop :=
  (((M 287 20) < (M 287 19)) →
    (((M 287 17) = 0) →
      vp_in (M 287 20) 60 ∧
      f_X12_byteHere_b48 K (M 296 ((M 287 20).toNatClampNeg)) M) ∧
    ((¬ (M 287 17) = 0) →
      vp_in ((M 287 18) + (M 287 20)) 1440 ∧
      f_X12_byteHere_b48 K (M 297 (((M 287 18) + (M 287 20)).toNatClampNeg)) M)) ∧
  ((¬ (M 287 20) < (M 287 19)) →
    f_X12_byteHere_b48 K (-1 : Int32) M)
def f_X12_factOf (a1 : Int32) (M : Mem) (K : Int32 → Mem → Prop) : Prop :=
  ((a1 = (99 : Int32)) →
    K (4 : Int32) M) ∧
  ((¬ a1 = (99 : Int32)) →
    ((a1 = (109 : Int32)) →
      K (3 : Int32) M) ∧
    ((¬ a1 = (109 : Int32)) →
      ((a1 = (110 : Int32)) →
        K (0 : Int32) M) ∧
      ((¬ a1 = (110 : Int32)) →
        ((a1 = (115 : Int32)) →
          K (2 : Int32) M) ∧
        ((¬ a1 = (115 : Int32)) →
          ((a1 = (117 : Int32)) →
            K (5 : Int32) M) ∧
          ((¬ a1 = (117 : Int32)) →
            ((a1 = (119 : Int32)) →
              K (1 : Int32) M) ∧
            ((¬ a1 = (119 : Int32)) →
              K (-1 : Int32) M))))))
def f_X12_readUnit_b102 (K : Int32 → Mem → Prop) (x2 : Int32) (M : Mem) : Prop :=
  K x2 M
def f_X12_readUnit_c54 (K : Int32 → Mem → Prop) (r54 : Int32 × Int32 × Mem → Prop) (x2 : Int32) (x3 : Int32) (M : Mem) : Prop :=
  (((4 : Int32) ≤ x3) →
    f_X12_readUnit_b102 K x2 M) ∧
  ((¬ (4 : Int32) ≤ x3) →
    f_X12_byteHere M (fun v3 M3 =>
      f_X12_in v3 (48 : Int32) (57 : Int32) M3 (fun v4 M4 =>
        ((v4 = 0) →
          f_X12_readUnit_b102 K x2 M4) ∧
        ((¬ v4 = 0) →
          f_X12_byteHere M4 (fun v6 M6 =>
            r54 (((((10 : Int32) * x2) + v6) - (48 : Int32)), (x3 + (1 : Int32)), (mset M6 287 20 ((M6 287 20) + (1 : Int32)))))))))
def f_X12_readUnit (M : Mem) (K : Int32 → Mem → Prop) : Prop :=
  f_X12_byteHere M (fun v7 M7 =>
    f_X12_factOf v7 M7 (fun v8 M8 =>
      ((v8 < 0) →
        f_X12_in v7 (48 : Int32) (57 : Int32) M8 (fun v10 M10 =>
          ((¬ v10 = 0) →
            Lp (fun (r54 : Int32 × Int32 × Mem → Prop) a => f_X12_readUnit_c54 K r54 a.1 a.2.1 a.2.2) ((0 : Int32), (0 : Int32), M10)) ∧
          ((v10 = 0) →
            K (0 : Int32) (mset M10 287 21 (1 : Int32))))) ∧
      ((¬ v8 < 0) →
        f_X12_factOf v7 (mset M8 287 20 ((M8 287 20) + (1 : Int32))) (fun v12 M12 =>
          vp_in v12 6 ∧
          K (M12 301 v12.toNatClampNeg) M12))))
def f_X12_readSum_b115 (r18 : Int32 × Int32 × Mem → Prop) (K : Int32 → Mem → Prop) (x1 : Int32) (x2 : Int32) (M : Mem) : Prop :=
  r18 (x1, x2, M)
def f_X12_readSum_b114 (r18 : Int32 × Int32 × Mem → Prop) (K : Int32 → Mem → Prop) (x1 : Int32) (s0 : Int32) (M : Mem) : Prop :=
  f_X12_readSum_b115 r18 K x1 s0 M
def f_X12_readSum_b101 (r18 : Int32 × Int32 × Mem → Prop) (K : Int32 → Mem → Prop) (s0 : Int32) (M : Mem) : Prop :=
  ((¬ (M 287 21) = 0) →
    f_X12_readSum_b114 r18 K s0 (0 : Int32) M) ∧
  (((M 287 21) = 0) →
    f_X12_readSum_b114 r18 K s0 (1 : Int32) M)
def f_X12_readSum_b50 (r18 : Int32 × Int32 × Mem → Prop) (K : Int32 → Mem → Prop) (x1 : Int32) (x3 : Int32) (s0 : Int32) (M : Mem) : Prop :=
  ((s0 = 0) →
    f_X12_readSum_b115 r18 K x1 s0 M) ∧
  ((¬ s0 = 0) →
    f_X12_readUnit (mset M 287 20 ((M 287 20) + (1 : Int32))) (fun v3 M3 =>
      ((¬ x3 = (43 : Int32)) →
        ((¬ x3 = (45 : Int32)) →
          f_X12_readSum_b101 r18 K (x1 * v3) M3) ∧
        ((x3 = (45 : Int32)) →
          f_X12_readSum_b101 r18 K (x1 - v3) M3)) ∧
      ((x3 = (43 : Int32)) →
        f_X12_readSum_b101 r18 K (x1 + v3) M3)))
def f_X12_readSum_b45 (r18 : Int32 × Int32 × Mem → Prop) (K : Int32 → Mem → Prop) (x1 : Int32) (x3 : Int32) (M : Mem) : Prop :=
  f_X12_readSum_b50 r18 K x1 x3 (1 : Int32) M
def f_X12_readSum_c18 (K : Int32 → Mem → Prop) (r18 : Int32 × Int32 × Mem → Prop) (x1 : Int32) (x2 : Int32) (M : Mem) : Prop :=
  ((x2 = 0) →
    K x1 M) ∧
  ((¬ x2 = 0) →
    f_X12_byteHere M (fun v7 M7 =>
      ((v7 = (43 : Int32)) →
        f_X12_readSum_b45 r18 K x1 v7 M7) ∧
      ((¬ v7 = (43 : Int32)) →
        ((v7 = (45 : Int32)) →
          f_X12_readSum_b45 r18 K x1 v7 M7) ∧
        ((¬ v7 = (45 : Int32)) →
          ((¬ v7 = (42 : Int32)) →
            f_X12_readSum_b50 r18 K x1 v7 (0 : Int32) M7) ∧
          ((v7 = (42 : Int32)) →
            f_X12_readSum_b45 r18 K x1 v7 M7)))))
def f_X12_readSum_b17 (K : Int32 → Mem → Prop) (x1 : Int32) (s0 : Int32) (M : Mem) : Prop :=
  Lp (fun (r18 : Int32 × Int32 × Mem → Prop) a => f_X12_readSum_c18 K r18 a.1 a.2.1 a.2.2) (x1, s0, M)
def f_X12_readSum (M : Mem) (K : Int32 → Mem → Prop) : Prop :=
  f_X12_readUnit M (fun v11 M11 =>
    ((¬ (M11 287 21) = 0) →
      f_X12_readSum_b17 K v11 (0 : Int32) M11) ∧
    (((M11 287 21) = 0) →
      f_X12_readSum_b17 K v11 (1 : Int32) M11))
def f_X12_readTest_b35 (K : Int32 → Mem → Prop) (M : Mem) : Prop :=
  K (0 : Int32) (mset M 287 21 (1 : Int32))
def f_X12_readTest_b105 (K : Int32 → Mem → Prop) (s0 : Int32) (M : Mem) : Prop :=
  bz s0 ∧ K s0 M
def f_X12_readTest_b42 (K : Int32 → Mem → Prop) (x1 : Int32) (x2 : Int32) (M : Mem) : Prop :=
  f_X12_readSum (mset M 287 20 ((M 287 20) + (1 : Int32))) (fun v2 M2 =>
    ((¬ x2 = (60 : Int32)) →
      ((¬ x2 = (61 : Int32)) →
        ((x1 ≤ v2) →
          f_X12_readTest_b105 K (0 : Int32) M2) ∧
        ((¬ x1 ≤ v2) →
          f_X12_readTest_b105 K (1 : Int32) M2)) ∧
      ((x2 = (61 : Int32)) →
        ((¬ x1 = v2) →
          f_X12_readTest_b105 K (0 : Int32) M2) ∧
        ((x1 = v2) →
          f_X12_readTest_b105 K (1 : Int32) M2))) ∧
    ((x2 = (60 : Int32)) →
      ((v2 ≤ x1) →
        f_X12_readTest_b105 K (0 : Int32) M2) ∧
      ((¬ v2 ≤ x1) →
        f_X12_readTest_b105 K (1 : Int32) M2)))
def f_X12_readTest (M : Mem) (K : Int32 → Mem → Prop) : Prop :=
  f_X12_readSum M (fun v8 M8 =>
    f_X12_byteHere M8 (fun v9 M9 =>
      ((¬ (M9 287 21) = 0) →
        f_X12_readTest_b35 K M9) ∧
      (((M9 287 21) = 0) →
        ((v9 = (60 : Int32)) →
          f_X12_readTest_b42 K v8 v9 M9) ∧
        ((¬ v9 = (60 : Int32)) →
          ((v9 = (61 : Int32)) →
            f_X12_readTest_b42 K v8 v9 M9) ∧
          ((¬ v9 = (61 : Int32)) →
            ((v9 = (62 : Int32)) →
              f_X12_readTest_b42 K v8 v9 M9) ∧
            ((¬ v9 = (62 : Int32)) →
              f_X12_readTest_b35 K M9))))))
def f_X12_topSign_b22 (K : Int32 → Mem → Prop) (s0 : Int32) (M : Mem) : Prop :=
  K s0 M
def f_X12_topSign (M : Mem) (K : Int32 → Mem → Prop) : Prop :=
  ((¬ (M 287 25) = 0) →
    vp_in ((M 287 25) - (1 : Int32)) 80 ∧
    f_X12_topSign_b22 K (M 302 (((M 287 25) - (1 : Int32)).toNatClampNeg)) M) ∧
  (((M 287 25) = 0) →
    f_X12_topSign_b22 K (0 : Int32) M)
def f_X12_partEnds_b38 (r0 : Mem → Prop) (K : Mem → Prop) (s0 : Int32) (s1 : Int32) (M : Mem) : Prop :=
  vp_in s1 80 ∧
  bz s0 ∧
  r0 ((mset (mset (mset M 303 s1.toNatClampNeg s0) 287 25 ((M 287 25) - (1 : Int32))) 287 22 ((M 287 22) - (1 : Int32))))
def f_X12_partEnds_b122 (r62 : Mem → Prop) (K : Mem → Prop) (s0 : Int32) (s1 : Int32) (M : Mem) : Prop :=
  vp_in s1 80 ∧
  bz s0 ∧
  r62 ((mset (mset M 303 s1.toNatClampNeg s0) 287 25 ((M 287 25) - (1 : Int32))))
def f_X12_partEnds_b121 (r62 : Mem → Prop) (K : Mem → Prop) (s0 : Int32) (M : Mem) : Prop :=
  f_X12_partEnds_b122 r62 K (0 : Int32) s0 M
def f_X12_partEnds_c62 (K : Mem → Prop) (r62 : Mem → Prop) (M : Mem) : Prop :=
  f_X12_topSign M (fun v12 M12 =>
    ((¬ v12 = (38 : Int32)) →
      K M12) ∧
    ((v12 = (38 : Int32)) →
      vp_in (((M12 287 27) - (1 : Int32)) - (1 : Int32)) 80 ∧
      (((M12 303 ((((M12 287 27) - (1 : Int32)) - (1 : Int32)).toNatClampNeg)) = 0) →
        f_X12_partEnds_b121 r62 K (((M12 287 27) - (1 : Int32)) - (1 : Int32)) (mset M12 287 27 ((M12 287 27) - (1 : Int32)))) ∧
      ((¬ (M12 303 ((((M12 287 27) - (1 : Int32)) - (1 : Int32)).toNatClampNeg)) = 0) →
        vp_in ((M12 287 27) - (1 : Int32)) 80 ∧
        (((M12 303 (((M12 287 27) - (1 : Int32)).toNatClampNeg)) = 0) →
          f_X12_partEnds_b121 r62 K (((M12 287 27) - (1 : Int32)) - (1 : Int32)) (mset M12 287 27 ((M12 287 27) - (1 : Int32)))) ∧
        ((¬ (M12 303 (((M12 287 27) - (1 : Int32)).toNatClampNeg)) = 0) →
          f_X12_partEnds_b122 r62 K (1 : Int32) (((M12 287 27) - (1 : Int32)) - (1 : Int32)) (mset M12 287 27 ((M12 287 27) - (1 : Int32)))))))
def f_X12_partEnds_c0 (K : Mem → Prop) (r0 : Mem → Prop) (M : Mem) : Prop :=
  f_X12_topSign M (fun v18 M18 =>
    ((¬ v18 = (33 : Int32)) →
      Lp (fun (r62 : Mem → Prop) a => f_X12_partEnds_c62 K r62 a) (M18)) ∧
    ((v18 = (33 : Int32)) →
      vp_in ((M18 287 27) - (1 : Int32)) 80 ∧
      ((¬ (M18 303 (((M18 287 27) - (1 : Int32)).toNatClampNeg)) = 0) →
        f_X12_partEnds_b38 r0 K (0 : Int32) ((M18 287 27) - (1 : Int32)) M18) ∧
      (((M18 303 (((M18 287 27) - (1 : Int32)).toNatClampNeg)) = 0) →
        f_X12_partEnds_b38 r0 K (1 : Int32) ((M18 287 27) - (1 : Int32)) M18)))
def f_X12_partEnds (M : Mem) (K : Mem → Prop) : Prop :=
  Lp (fun (r0 : Mem → Prop) a => f_X12_partEnds_c0 K r0 a) (M)
def f_X12_orsEnd_b60 (r0 : Mem → Prop) (K : Mem → Prop) (s0 : Int32) (s1 : Int32) (M : Mem) : Prop :=
  vp_in s1 80 ∧
  bz s0 ∧
  r0 ((mset (mset M 303 s1.toNatClampNeg s0) 287 25 ((M 287 25) - (1 : Int32))))
def f_X12_orsEnd_b55 (r0 : Mem → Prop) (K : Mem → Prop) (s0 : Int32) (M : Mem) : Prop :=
  f_X12_orsEnd_b60 r0 K (1 : Int32) s0 M
def f_X12_orsEnd_c0 (K : Mem → Prop) (r0 : Mem → Prop) (M : Mem) : Prop :=
  f_X12_topSign M (fun v7 M7 =>
    ((¬ v7 = (124 : Int32)) →
      K M7) ∧
    ((v7 = (124 : Int32)) →
      vp_in (((M7 287 27) - (1 : Int32)) - (1 : Int32)) 80 ∧
      ((¬ (M7 303 ((((M7 287 27) - (1 : Int32)) - (1 : Int32)).toNatClampNeg)) = 0) →
        f_X12_orsEnd_b55 r0 K (((M7 287 27) - (1 : Int32)) - (1 : Int32)) (mset M7 287 27 ((M7 287 27) - (1 : Int32)))) ∧
      (((M7 303 ((((M7 287 27) - (1 : Int32)) - (1 : Int32)).toNatClampNeg)) = 0) →
        vp_in ((M7 287 27) - (1 : Int32)) 80 ∧
        (((M7 303 (((M7 287 27) - (1 : Int32)).toNatClampNeg)) = 0) →
          f_X12_orsEnd_b60 r0 K (0 : Int32) (((M7 287 27) - (1 : Int32)) - (1 : Int32)) (mset M7 287 27 ((M7 287 27) - (1 : Int32)))) ∧
        ((¬ (M7 303 (((M7 287 27) - (1 : Int32)).toNatClampNeg)) = 0) →
          f_X12_orsEnd_b55 r0 K (((M7 287 27) - (1 : Int32)) - (1 : Int32)) (mset M7 287 27 ((M7 287 27) - (1 : Int32)))))))
def f_X12_orsEnd (M : Mem) (K : Mem → Prop) : Prop :=
  Lp (fun (r0 : Mem → Prop) a => f_X12_orsEnd_c0 K r0 a) (M)
def f_X12_opens (a1 : Int32) (M : Mem) (K : Mem → Prop) : Prop :=
  ((¬ (M 287 22) = (5 : Int32)) →
    vp_in (M 287 25) 80 ∧
    K (mset (mset (mset (mset M 287 22 ((M 287 22) + (1 : Int32))) 302 ((M 287 25).toNatClampNeg) a1) 287 25 ((M 287 25) + (1 : Int32))) 287 20 ((M 287 20) + (1 : Int32)))) ∧
  (((M 287 22) = (5 : Int32)) →
    K (mset M 287 21 (1 : Int32)))
def f_X12_readRule_b237 (r17 : Int32 × Mem → Prop) (K : Int32 → Mem → Prop) (x1 : Int32) (M : Mem) : Prop :=
  r17 (x1, M)
def f_X12_readRule_b60 (r17 : Int32 × Mem → Prop) (K : Int32 → Mem → Prop) (x1 : Int32) (x2 : Int32) (M : Mem) : Prop :=
  f_X12_opens x2 M (fun M6 =>
    f_X12_readRule_b237 r17 K x1 M6)
def f_X12_readRule_b133 (r17 : Int32 × Mem → Prop) (K : Int32 → Mem → Prop) (x2 : Int32) (M : Mem) : Prop :=
  vp_in (M 287 25) 80 ∧
  f_X12_readRule_b237 r17 K (1 : Int32) (mset (mset (mset M 302 ((M 287 25).toNatClampNeg) x2) 287 25 ((M 287 25) + (1 : Int32))) 287 20 ((M 287 20) + (1 : Int32)))
def f_X12_readRule_b123 (r17 : Int32 × Mem → Prop) (K : Int32 → Mem → Prop) (x2 : Int32) (M : Mem) : Prop :=
  ((¬ x2 = (124 : Int32)) →
    f_X12_readRule_b133 r17 K x2 M) ∧
  ((x2 = (124 : Int32)) →
    f_X12_orsEnd M (fun M9 =>
      f_X12_readRule_b133 r17 K x2 M9))
def f_X12_readRule_b193 (r17 : Int32 × Mem → Prop) (K : Int32 → Mem → Prop) (x1 : Int32) (s0 : Int32) (M : Mem) : Prop :=
  bz s0 ∧
  ((¬ s0 = 0) →
    f_X12_readRule_b237 r17 K x1 (mset M 287 21 s0)) ∧
  ((s0 = 0) →
    f_X12_partEnds (mset (mset (mset (mset M 287 21 s0) 287 25 ((M 287 25) - (1 : Int32))) 287 22 ((M 287 22) - (1 : Int32))) 287 20 ((M 287 20) + (1 : Int32))) (fun M12 =>
      f_X12_readRule_b237 r17 K x1 M12))
def f_X12_readRule_b188 (r17 : Int32 × Mem → Prop) (K : Int32 → Mem → Prop) (x1 : Int32) (M : Mem) : Prop :=
  f_X12_readRule_b193 r17 K x1 (1 : Int32) M
def f_X12_readRule_b68 (r17 : Int32 × Mem → Prop) (K : Int32 → Mem → Prop) (x1 : Int32) (x2 : Int32) (M : Mem) : Prop :=
  ((x1 = 0) →
    ((x2 = (38 : Int32)) →
      f_X12_readRule_b123 r17 K x2 M) ∧
    ((¬ x2 = (38 : Int32)) →
      ((¬ x2 = (124 : Int32)) →
        f_X12_orsEnd M (fun M16 =>
          ((¬ x2 = (41 : Int32)) →
            f_X12_readRule_b188 r17 K x1 M16) ∧
          ((x2 = (41 : Int32)) →
            f_X12_topSign M16 (fun v18 M18 =>
              ((v18 = (40 : Int32)) →
                f_X12_readRule_b193 r17 K x1 (0 : Int32) M18) ∧
              ((¬ v18 = (40 : Int32)) →
                f_X12_readRule_b188 r17 K x1 M18))))) ∧
      ((x2 = (124 : Int32)) →
        f_X12_readRule_b123 r17 K x2 M))) ∧
  ((¬ x1 = 0) →
    f_X12_readTest M (fun v20 M20 =>
      vp_in (M 287 27) 80 ∧
      bz v20 ∧
      ((¬ (M20 287 21) = 0) →
        f_X12_readRule_b237 r17 K (0 : Int32) (mset (mset M20 303 ((M 287 27).toNatClampNeg) v20) 287 27 ((M20 287 27) + (1 : Int32)))) ∧
      (((M20 287 21) = 0) →
        f_X12_partEnds (mset (mset M20 303 ((M 287 27).toNatClampNeg) v20) 287 27 ((M20 287 27) + (1 : Int32))) (fun M24 =>
          f_X12_readRule_b237 r17 K (0 : Int32) M24))))
def f_X12_readRule_b39 (r17 : Int32 × Mem → Prop) (K : Int32 → Mem → Prop) (x1 : Int32) (M : Mem) : Prop :=
  f_X12_byteHere M (fun v25 M25 =>
    ((x1 = 0) →
      f_X12_readRule_b68 r17 K x1 v25 M25) ∧
    ((¬ x1 = 0) →
      ((v25 = (33 : Int32)) →
        f_X12_readRule_b60 r17 K x1 v25 M25) ∧
      ((¬ v25 = (33 : Int32)) →
        ((¬ v25 = (40 : Int32)) →
          f_X12_readRule_b68 r17 K x1 v25 M25) ∧
        ((v25 = (40 : Int32)) →
          f_X12_readRule_b60 r17 K x1 v25 M25))))
def f_X12_readRule_b288 (K : Int32 → Mem → Prop) (s0 : Int32) (M : Mem) : Prop :=
  bz s0 ∧ K s0 M
def f_X12_readRule_b287 (K : Int32 → Mem → Prop) (M : Mem) : Prop :=
  f_X12_readRule_b288 K (0 : Int32) M
def f_X12_readRule_b267 (K : Int32 → Mem → Prop) (M : Mem) : Prop :=
  ((¬ (M 287 21) = 0) →
    f_X12_readRule_b287 K M) ∧
  (((M 287 21) = 0) →
    (((M 303 0) = 0) →
      f_X12_readRule_b287 K M) ∧
    ((¬ (M 303 0) = 0) →
      f_X12_readRule_b288 K (1 : Int32) M))
def f_X12_readRule_b264 (K : Int32 → Mem → Prop) (s0 : Int32) (M : Mem) : Prop :=
  bz s0 ∧
  f_X12_readRule_b267 K (mset M 287 21 s0)
def f_X12_readRule_b240 (K : Int32 → Mem → Prop) (M : Mem) : Prop :=
  ((¬ (M 287 21) = 0) →
    f_X12_readRule_b267 K M) ∧
  (((M 287 21) = 0) →
    f_X12_orsEnd M (fun M34 =>
      (((M34 287 25) ≤ 0) →
        f_X12_readRule_b264 K (0 : Int32) M34) ∧
      ((¬ (M34 287 25) ≤ 0) →
        f_X12_readRule_b264 K (1 : Int32) M34)))
def f_X12_readRule_c17 (K : Int32 → Mem → Prop) (r17 : Int32 × Mem → Prop) (x1 : Int32) (M : Mem) : Prop :=
  ((¬ (M 287 21) = 0) →
    f_X12_readRule_b240 K M) ∧
  (((M 287 21) = 0) →
    ((¬ x1 = 0) →
      f_X12_readRule_b39 r17 K x1 M) ∧
    ((x1 = 0) →
      (((M 287 19) ≤ (M 287 20)) →
        f_X12_readRule_b240 K M) ∧
      ((¬ (M 287 19) ≤ (M 287 20)) →
        f_X12_readRule_b39 r17 K x1 M)))
def f_X12_readRule (M : Mem) (K : Int32 → Mem → Prop) : Prop :=
  Lp (fun (r17 : Int32 × Mem → Prop) a => f_X12_readRule_c17 K r17 a.1 a.2) ((1 : Int32), (mset (mset (mset M 287 25 (0 : Int32)) 287 27 (0 : Int32)) 287 22 (0 : Int32)))
def f_X12_act_b31 (K : Int32 → Mem → Prop) (M : Mem) : Prop :=
  f_X12_refuse (-6 : Int32) M (fun v6 M6 =>
    K v6 M6)
def f_X12_act_c149 (K : Int32 → Mem → Prop) (r149 : Int32 × Int32 × Mem → Prop) (x1 : Int32) (x3 : Int32) (M : Mem) : Prop :=
  (((M 287 19) ≤ x3) →
    vp_in (M 287 12) 24 ∧
    vp_in (M 287 12) 24 ∧
    vp_in (M 287 12) 24 ∧
    K (((M 287 12) + (1 : Int32)) - (1 : Int32)) (mset (mset (mset (mset M 298 ((M 287 12).toNatClampNeg) (M 287 19)) 299 ((M 287 12).toNatClampNeg) x1) 300 ((M 287 12).toNatClampNeg) (1000000 : Int32)) 287 12 ((M 287 12) + (1 : Int32)))) ∧
  ((¬ (M 287 19) ≤ x3) →
    vp_in x3 60 ∧
    vp_in (((60 : Int32) * (M 287 12)) + x3) 1440 ∧
    r149 (x1, (x3 + (1 : Int32)), (mset M 297 ((((60 : Int32) * (M 287 12)) + x3).toNatClampNeg) (M 296 x3.toNatClampNeg))))
def f_X12_act (a1 : Int32) (M : Mem) (K : Int32 → Mem → Prop) : Prop :=
  (((M 287 0) ≤ a1) →
    (((1000 : Int32) < a1) →
      f_X12_act_b31 K M) ∧
    ((¬ (1000 : Int32) < a1) →
      ((¬ (M 287 12) = (24 : Int32)) →
        f_X12_byteHere (mset (mset (mset (mset (mset M 287 17 (0 : Int32)) 287 19 (M 287 11)) 287 11 (0 : Int32)) 287 21 (0 : Int32)) 287 20 (0 : Int32)) (fun v16 M16 =>
          f_X12_in v16 (65 : Int32) (72 : Int32) M16 (fun v17 M17 =>
            ((¬ v17 = 0) →
              f_X12_byteHere (mset M17 287 20 (1 : Int32)) (fun v19 M19 =>
                f_X12_in v19 (48 : Int32) (52 : Int32) M19 (fun v20 M20 =>
                  ((¬ v20 = 0) →
                    f_X12_byteHere (mset M20 287 20 (2 : Int32)) (fun v22 M22 =>
                      ((v22 = (58 : Int32)) →
                        f_X12_readRule (mset M22 287 20 (3 : Int32)) (fun v24 M24 =>
                          (((M24 287 21) = 0) →
                            Lp (fun (r149 : Int32 × Int32 × Mem → Prop) a => f_X12_act_c149 K r149 a.1 a.2.1 a.2.2) (a1, (0 : Int32), M24)) ∧
                          ((¬ (M24 287 21) = 0) →
                            K ((-20 : Int32) - (M24 287 20)) M24))) ∧
                      ((¬ v22 = (58 : Int32)) →
                        K (-22 : Int32) M22))) ∧
                  ((v20 = 0) →
                    K (-21 : Int32) M20)))) ∧
            ((v17 = 0) →
              K (-20 : Int32) M17)))) ∧
      (((M 287 12) = (24 : Int32)) →
        f_X12_act_b31 K M))) ∧
  ((¬ (M 287 0) ≤ a1) →
    f_X12_refuse (-4 : Int32) M (fun v26 M26 =>
      K v26 M26))
def f_X12_strike (a1 : Int32) (a2 : Int32) (M : Mem) (K : Int32 → Mem → Prop) : Prop :=
  f_X12_in a1 (0 : Int32) ((M 287 12) - (1 : Int32)) M (fun v3 M3 =>
    ((¬ v3 = 0) →
      vp_in a1 24 ∧
      (((1000000 : Int32) ≤ (M3 300 a1.toNatClampNeg)) →
        (((M3 287 0) ≤ a2) →
          ((a2 ≤ (1000 : Int32)) →
            vp_in a1 24 ∧
            K (1 : Int32) (mset M3 300 a1.toNatClampNeg a2)) ∧
          ((¬ a2 ≤ (1000 : Int32)) →
            f_X12_refuse (-6 : Int32) M3 (fun v10 M10 =>
              K v10 M10))) ∧
        ((¬ (M3 287 0) ≤ a2) →
          f_X12_refuse (-4 : Int32) M3 (fun v11 M11 =>
            K v11 M11))) ∧
      ((¬ (1000000 : Int32) ≤ (M3 300 a1.toNatClampNeg)) →
        f_X12_refuse (-3 : Int32) M3 (fun v12 M12 =>
          K v12 M12))) ∧
    ((v3 = 0) →
      f_X12_refuse (-1 : Int32) M3 (fun v13 M13 =>
        K v13 M13)))
def f_X12_findFacts_b87 (r17 : Int32 × Int32 × Int32 × Int32 × Mem → Prop) (K : Mem → Prop) (x1 : Int32) (x2 : Int32) (x3 : Int32) (x4 : Int32) (s0 : Int32) (s1 : Int32) (s2 : Int32) (M : Mem) : Prop :=
  vp_in s2 6 ∧
  r17 (x1, x2, x3, (x4 + (1 : Int32)), (mset M 301 s2.toNatClampNeg (s1 + s0)))
def f_X12_findFacts_b86 (r17 : Int32 × Int32 × Int32 × Int32 × Mem → Prop) (K : Mem → Prop) (x1 : Int32) (x2 : Int32) (x3 : Int32) (x4 : Int32) (s0 : Int32) (s1 : Int32) (M : Mem) : Prop :=
  f_X12_findFacts_b87 r17 K x1 x2 x3 x4 (0 : Int32) s0 s1 M
def f_X12_findFacts_b48 (r17 : Int32 × Int32 × Int32 × Int32 × Mem → Prop) (K : Mem → Prop) (x1 : Int32) (x2 : Int32) (x3 : Int32) (x4 : Int32) (s0 : Int32) (s1 : Int32) (s2 : Int32) (M : Mem) : Prop :=
  vp_in s2 6 ∧
  vp_in x4 24 ∧
  ((¬ (M 294 x4.toNatClampNeg) = 0) →
    f_X12_findFacts_b86 r17 K x1 x2 x3 x4 ((mset M 301 s2.toNatClampNeg (s1 + s0)) 301 0) (0 : Int32) (mset M 301 s2.toNatClampNeg (s1 + s0))) ∧
  (((M 294 x4.toNatClampNeg) = 0) →
    vp_in x4 24 ∧
    ((¬ ((x1 >>> ((M 289 x4.toNatClampNeg) &&& 31)) &&& (1 : Int32)) = (1 : Int32)) →
      f_X12_findFacts_b86 r17 K x1 x2 x3 x4 ((mset M 301 s2.toNatClampNeg (s1 + s0)) 301 0) (0 : Int32) (mset M 301 s2.toNatClampNeg (s1 + s0))) ∧
    ((((x1 >>> ((M 289 x4.toNatClampNeg) &&& 31)) &&& (1 : Int32)) = (1 : Int32)) →
      f_X12_findFacts_b87 r17 K x1 x2 x3 x4 (1 : Int32) ((mset M 301 s2.toNatClampNeg (s1 + s0)) 301 0) (0 : Int32) (mset M 301 s2.toNatClampNeg (s1 + s0))))
def f_X12_findFacts_b136 (K : Mem → Prop) (s0 : Int32) (s1 : Int32) (M : Mem) : Prop :=
  vp_in s1 6 ∧
  K (mset M 301 s1.toNatClampNeg s0)
def f_X12_findFacts_c17 (K : Mem → Prop) (r17 : Int32 × Int32 × Int32 × Int32 × Mem → Prop) (x1 : Int32) (x2 : Int32) (x3 : Int32) (x4 : Int32) (M : Mem) : Prop :=
  (((M 287 2) ≤ x4) →
    f_X12_ones x1 M (fun v15 M15 =>
      ((x3 = 0) →
        f_X12_findFacts_b136 K (0 : Int32) (5 : Int32) (mset (mset (mset M15 301 2 v15) 301 3 x2) 301 4 (M15 287 48))) ∧
      ((¬ x3 = 0) →
        f_X12_findFacts_b136 K (1 : Int32) (5 : Int32) (mset (mset (mset M15 301 2 v15) 301 3 x2) 301 4 (M15 287 48))))) ∧
  ((¬ (M 287 2) ≤ x4) →
    vp_in x4 24 ∧
    (((M 294 x4.toNatClampNeg) = 0) →
      f_X12_findFacts_b48 r17 K x1 x2 x3 x4 (1 : Int32) (M 301 1) (1 : Int32) M) ∧
    ((¬ (M 294 x4.toNatClampNeg) = 0) →
      f_X12_findFacts_b48 r17 K x1 x2 x3 x4 (0 : Int32) (M 301 1) (1 : Int32) M))
def f_X12_findFacts (a1 : Int32) (a2 : Int32) (a3 : Int32) (M : Mem) (K : Mem → Prop) : Prop :=
  Lp (fun (r17 : Int32 × Int32 × Int32 × Int32 × Mem → Prop) a => f_X12_findFacts_c17 K r17 a.1 a.2.1 a.2.2.1 a.2.2.2.1 a.2.2.2.2) (a1, a2, a3, (0 : Int32), (mset (mset M 301 0 (0 : Int32)) 301 1 (0 : Int32)))
def f_X12_kindIn (a1 : Int32) (M : Mem) (K : Int32 → Mem → Prop) : Prop :=
  vp_in (((60 : Int32) * a1) + (1 : Int32)) 1440 ∧
  K ((M 297 ((((60 : Int32) * a1) + (1 : Int32)).toNatClampNeg)) - (48 : Int32)) M
def f_X12_givingAct_b163 (r14 : Int32 × Int32 × Int32 × Mem → Prop) (K : Int32 → Mem → Prop) (x1 : Int32) (x5 : Int32) (x6 : Int32) (M : Mem) : Prop :=
  r14 (x1, x5, (x6 + (1 : Int32)), M)
def f_X12_givingAct_b161 (r14 : Int32 × Int32 × Int32 × Mem → Prop) (K : Int32 → Mem → Prop) (x1 : Int32) (x6 : Int32) (s0 : Int32) (M : Mem) : Prop :=
  f_X12_givingAct_b163 r14 K x1 s0 x6 M
def f_X12_givingAct_b154 (r14 : Int32 × Int32 × Int32 × Mem → Prop) (K : Int32 → Mem → Prop) (x1 : Int32) (x6 : Int32) (M : Mem) : Prop :=
  f_X12_givingAct_b161 r14 K x1 x6 x6 M
def f_X12_givingAct_b159 (r14 : Int32 × Int32 × Int32 × Mem → Prop) (K : Int32 → Mem → Prop) (x1 : Int32) (x5 : Int32) (x6 : Int32) (M : Mem) : Prop :=
  f_X12_givingAct_b161 r14 K x1 x6 x5 M
def f_X12_givingAct_c14 (K : Int32 → Mem → Prop) (r14 : Int32 × Int32 × Int32 × Mem → Prop) (x1 : Int32) (x5 : Int32) (x6 : Int32) (M : Mem) : Prop :=
  (((M 287 12) ≤ x6) →
    K x5 M) ∧
  ((¬ (M 287 12) ≤ x6) →
    vp_in x6 24 ∧
    vp_in ((60 : Int32) * x6) 1440 ∧
    ((¬ ((M 297 (((60 : Int32) * x6).toNatClampNeg)) - (65 : Int32)) = x1) →
      f_X12_givingAct_b163 r14 K x1 x5 x6 (mset M 304 x6.toNatClampNeg (0 : Int32))) ∧
    ((((M 297 (((60 : Int32) * x6).toNatClampNeg)) - (65 : Int32)) = x1) →
      vp_in x6 24 ∧
      (((M 287 0) < (M 299 x6.toNatClampNeg)) →
        f_X12_givingAct_b163 r14 K x1 x5 x6 (mset M 304 x6.toNatClampNeg (0 : Int32))) ∧
      ((¬ (M 287 0) < (M 299 x6.toNatClampNeg)) →
        vp_in x6 24 ∧
        (((M 300 x6.toNatClampNeg) ≤ (M 287 0)) →
          f_X12_givingAct_b163 r14 K x1 x5 x6 (mset M 304 x6.toNatClampNeg (0 : Int32))) ∧
        ((¬ (M 300 x6.toNatClampNeg) ≤ (M 287 0)) →
          vp_in x6 24 ∧
          f_X12_readRule (mset (mset (mset (mset (mset (mset M 304 x6.toNatClampNeg (0 : Int32)) 287 17 (1 : Int32)) 287 18 ((60 : Int32) * x6)) 287 19 (M 298 x6.toNatClampNeg)) 287 20 (3 : Int32)) 287 21 (0 : Int32)) (fun v20 M20 =>
            vp_in x6 24 ∧
            bz v20 ∧
            vp_in x6 24 ∧
            ((((mset M20 304 x6.toNatClampNeg v20) 304 x6.toNatClampNeg) = 0) →
              f_X12_givingAct_b159 r14 K x1 x5 x6 (mset M20 304 x6.toNatClampNeg v20)) ∧
            ((¬ ((mset M20 304 x6.toNatClampNeg v20) 304 x6.toNatClampNeg) = 0) →
              ((x5 < 0) →
                f_X12_givingAct_b154 r14 K x1 x6 (mset M20 304 x6.toNatClampNeg v20)) ∧
              ((¬ x5 < 0) →
                vp_in x6 24 ∧
                vp_in x5 24 ∧
                (((M20 299 x6.toNatClampNeg) < (M20 299 x5.toNatClampNeg)) →
                  f_X12_givingAct_b159 r14 K x1 x5 x6 (mset M20 304 x6.toNatClampNeg v20)) ∧
                ((¬ (M20 299 x6.toNatClampNeg) < (M20 299 x5.toNatClampNeg)) →
                  f_X12_givingAct_b154 r14 K x1 x6 (mset M20 304 x6.toNatClampNeg v20)))))))))
def f_X12_givingAct (a1 : Int32) (a2 : Int32) (a3 : Int32) (a4 : Int32) (M : Mem) (K : Int32 → Mem → Prop) : Prop :=
  f_X12_findFacts a2 a3 a4 M (fun M29 =>
    Lp (fun (r14 : Int32 × Int32 × Int32 × Mem → Prop) a => f_X12_givingAct_c14 K r14 a.1 a.2.1 a.2.2.1 a.2.2.2) (a1, (-1 : Int32), (0 : Int32), M29))
def f_X12_quarrel_b60 (K : Int32 → Mem → Prop) (s0 : Int32) (M : Mem) : Prop :=
  K s0 M
def f_X12_quarrel_b61 (r2 : Int32 × Int32 × Mem → Prop) (r12 : Int32 × Int32 × Int32 × Mem → Prop) (K : Int32 → Mem → Prop) (x1 : Int32) (x2 : Int32) (x3 : Int32) (M : Mem) : Prop :=
  r12 (x1, x2, (x3 + (1 : Int32)), M)
def f_X12_quarrel_c12 (r2 : Int32 × Int32 × Mem → Prop) (K : Int32 → Mem → Prop) (r12 : Int32 × Int32 × Int32 × Mem → Prop) (x1 : Int32) (x2 : Int32) (x3 : Int32) (M : Mem) : Prop :=
  (((M 287 12) ≤ x3) →
    r2 (x1, (x2 + (1 : Int32)), M)) ∧
  ((¬ (M 287 12) ≤ x3) →
    vp_in x2 24 ∧
    (((M 304 x2.toNatClampNeg) = 0) →
      f_X12_quarrel_b61 r2 r12 K x1 x2 x3 M) ∧
    ((¬ (M 304 x2.toNatClampNeg) = 0) →
      vp_in x3 24 ∧
      (((M 304 x3.toNatClampNeg) = 0) →
        f_X12_quarrel_b61 r2 r12 K x1 x2 x3 M) ∧
      ((¬ (M 304 x3.toNatClampNeg) = 0) →
        f_X12_kindIn x2 M (fun v8 M8 =>
          f_X12_kindIn x3 M8 (fun v9 M9 =>
            ((v8 = v9) →
              f_X12_quarrel_b61 r2 r12 K x1 x2 x3 M9) ∧
            ((¬ v8 = v9) →
              ((x1 = 0) →
                f_X12_quarrel_b60 K x2 M9) ∧
              ((¬ x1 = 0) →
                f_X12_quarrel_b60 K x3 M9)))))))
def f_X12_quarrel_c2 (K : Int32 → Mem → Prop) (r2 : Int32 × Int32 × Mem → Prop) (x1 : Int32) (x2 : Int32) (M : Mem) : Prop :=
  (((M 287 12) ≤ x2) →
    K (-9 : Int32) M) ∧
  ((¬ (M 287 12) ≤ x2) →
    Lp (fun (r12 : Int32 × Int32 × Int32 × Mem → Prop) a => f_X12_quarrel_c12 r2 K r12 a.1 a.2.1 a.2.2.1 a.2.2.2) (x1, x2, (0 : Int32), M))
def f_X12_quarrel (a1 : Int32) (M : Mem) (K : Int32 → Mem → Prop) : Prop :=
  Lp (fun (r2 : Int32 × Int32 × Mem → Prop) a => f_X12_quarrel_c2 K r2 a.1 a.2.1 a.2.2) (a1, (0 : Int32), M)
def f_X12_wrongSums_b33 (K : Int32 → Mem → Prop) (s0 : Int32) (M : Mem) : Prop :=
  K s0 M
def f_X12_wrongSums_b9 (K : Int32 → Mem → Prop) (M : Mem) : Prop :=
  f_X12_wrongSums_b33 K (-4 : Int32) M
def f_X12_wrongSums_b27 (K : Int32 → Mem → Prop) (M : Mem) : Prop :=
  f_X12_wrongSums_b33 K (-6 : Int32) M
def f_X12_wrongSums (a1 : Int32) (a2 : Int32) (M : Mem) (K : Int32 → Mem → Prop) : Prop :=
  ((a1 < (1 : Int32)) →
    f_X12_wrongSums_b9 K M) ∧
  ((¬ a1 < (1 : Int32)) →
    ((0 ≤ a2) →
      (((63 : Int32) < a1) →
        f_X12_wrongSums_b27 K M) ∧
      ((¬ (63 : Int32) < a1) →
        ((a2 ≤ (9999 : Int32)) →
          f_X12_wrongSums_b33 K (0 : Int32) M) ∧
        ((¬ a2 ≤ (9999 : Int32)) →
          f_X12_wrongSums_b27 K M))) ∧
    ((¬ 0 ≤ a2) →
      f_X12_wrongSums_b9 K M))
def f_X12_kind_b17 (K : Int32 → Mem → Prop) (M : Mem) : Prop :=
  f_X12_refuse (-2 : Int32) M (fun v1 M1 =>
    K v1 M1)
def f_X12_kind_b112 (K : Int32 → Mem → Prop) (s0 : Int32) (M : Mem) : Prop :=
  K s0 M
def f_X12_kind_b109 (K : Int32 → Mem → Prop) (s0 : Int32) (M : Mem) : Prop :=
  f_X12_quarrel s0 M (fun v2 M2 =>
    f_X12_kind_b112 K v2 M2)
def f_X12_kind (a1 : Int32) (a2 : Int32) (a3 : Int32) (a4 : Int32) (a5 : Int32) (M : Mem) (K : Int32 → Mem → Prop) : Prop :=
  f_X12_isWhat a1 M (fun v3 M3 =>
    ((v3 = 0) →
      f_X12_kind_b17 K M3) ∧
    ((¬ v3 = 0) →
      f_X12_in a5 (0 : Int32) (3 : Int32) M3 (fun v5 M5 =>
        ((¬ v5 = 0) →
          f_X12_wrongSums a2 a3 M5 (fun v7 M7 =>
            ((0 ≤ v7) →
              f_X12_givingAct a1 a2 a3 a4 M7 (fun v9 M9 =>
                ((¬ a5 = 0) →
                  ((¬ a5 = (1 : Int32)) →
                    ((¬ a5 = (3 : Int32)) →
                      f_X12_kind_b109 K (0 : Int32) M9) ∧
                    ((a5 = (3 : Int32)) →
                      f_X12_kind_b109 K (1 : Int32) M9)) ∧
                  ((a5 = (1 : Int32)) →
                    ((0 ≤ v9) →
                      f_X12_kind_b112 K v9 M9) ∧
                    ((¬ 0 ≤ v9) →
                      f_X12_kind_b112 K (-9 : Int32) M9))) ∧
                ((a5 = 0) →
                  ((0 ≤ v9) →
                    f_X12_kindIn v9 M9 (fun v15 M15 =>
                      f_X12_kind_b112 K v15 M15)) ∧
                  ((¬ 0 ≤ v9) →
                    f_X12_kind_b112 K (0 : Int32) M9)))) ∧
            ((¬ 0 ≤ v7) →
              f_X12_wrongSums a2 a3 M7 (fun v16 M16 =>
                f_X12_refuse v16 M16 (fun v17 M17 =>
                  K v17 M17))))) ∧
        ((v5 = 0) →
          f_X12_kind_b17 K M5))))
def f_X12_term_b18 (K : Int32 → Mem → Prop) (M : Mem) : Prop :=
  f_X12_refuse (-2 : Int32) M (fun v10 M10 =>
    K v10 M10)
def f_X12_term_b164 (K : Int32 → Mem → Prop) (x4 : Int32) (s0 : Int32) (s1 : Int32) (M : Mem) : Prop :=
  vp_in s1 5 ∧
  K x4 (mset M 307 s1.toNatClampNeg s0)
def f_X12_term_b143 (K : Int32 → Mem → Prop) (x1 : Int32) (x2 : Int32) (x3 : Int32) (x4 : Int32) (s0 : Int32) (s1 : Int32) (M : Mem) : Prop :=
  vp_in s1 5 ∧
  ((¬ x2 = (2 : Int32)) →
    vp_in x1 5 ∧
    f_X12_term_b164 K x4 (M 307 x1.toNatClampNeg) x1 (mset M 306 s1.toNatClampNeg s0)) ∧
  ((x2 = (2 : Int32)) →
    f_X12_term_b164 K x4 x3 x1 (mset M 306 s1.toNatClampNeg s0))
def f_X12_term_b122 (K : Int32 → Mem → Prop) (x1 : Int32) (x2 : Int32) (x3 : Int32) (x4 : Int32) (s0 : Int32) (s1 : Int32) (M : Mem) : Prop :=
  vp_in s1 5 ∧
  ((¬ x2 = (1 : Int32)) →
    vp_in x1 5 ∧
    f_X12_term_b143 K x1 x2 x3 x4 (M 306 x1.toNatClampNeg) x1 (mset M 305 s1.toNatClampNeg s0)) ∧
  ((x2 = (1 : Int32)) →
    f_X12_term_b143 K x1 x2 x3 x4 x3 x1 (mset M 305 s1.toNatClampNeg s0))
def f_X12_term_b101 (K : Int32 → Mem → Prop) (x1 : Int32) (x2 : Int32) (x3 : Int32) (s0 : Int32) (M : Mem) : Prop :=
  ((¬ x2 = 0) →
    vp_in x1 5 ∧
    f_X12_term_b122 K x1 x2 x3 s0 (M 305 x1.toNatClampNeg) x1 M) ∧
  ((x2 = 0) →
    f_X12_term_b122 K x1 x2 x3 s0 x3 x1 M)
def f_X12_term_b58 (K : Int32 → Mem → Prop) (x1 : Int32) (x2 : Int32) (x3 : Int32) (s0 : Int32) (s1 : Int32) (M : Mem) : Prop :=
  ((s1 ≤ s0) →
    ((¬ x2 = 0) →
      ((¬ x2 = (1 : Int32)) →
        vp_in x1 5 ∧
        f_X12_term_b101 K x1 x2 x3 (M 307 x1.toNatClampNeg) M) ∧
      ((x2 = (1 : Int32)) →
        vp_in x1 5 ∧
        f_X12_term_b101 K x1 x2 x3 (M 306 x1.toNatClampNeg) M)) ∧
    ((x2 = 0) →
      vp_in x1 5 ∧
      f_X12_term_b101 K x1 x2 x3 (M 305 x1.toNatClampNeg) M)) ∧
  ((¬ s1 ≤ s0) →
    f_X12_refuse (-6 : Int32) M (fun v26 M26 =>
      K v26 M26))
def f_X12_term (a1 : Int32) (a2 : Int32) (a3 : Int32) (M : Mem) (K : Int32 → Mem → Prop) : Prop :=
  f_X12_in a1 (0 : Int32) (4 : Int32) M (fun v27 M27 =>
    ((v27 = 0) →
      f_X12_term_b18 K M27) ∧
    ((¬ v27 = 0) →
      f_X12_in a2 (0 : Int32) (2 : Int32) M27 (fun v29 M29 =>
        ((¬ v29 = 0) →
          ((0 ≤ a3) →
            ((¬ a2 = 0) →
              ((¬ a2 = (1 : Int32)) →
                f_X12_term_b58 K a1 a2 a3 (1 : Int32) a3 M29) ∧
              ((a2 = (1 : Int32)) →
                f_X12_term_b58 K a1 a2 a3 (30 : Int32) a3 M29)) ∧
            ((a2 = 0) →
              f_X12_term_b58 K a1 a2 a3 (255 : Int32) a3 M29)) ∧
          ((¬ 0 ≤ a3) →
            f_X12_refuse (-4 : Int32) M29 (fun v34 M34 =>
              K v34 M34))) ∧
        ((v29 = 0) →
          f_X12_term_b18 K M29))))
def f_X12_open_b137 (K : Int32 → Mem → Prop) (x6 : Int32) (s0 : Int32) (s1 : Int32) (M : Mem) : Prop :=
  vp_in s1 40 ∧
  vp_in (M 287 32) 40 ∧
  vp_in x6 5 ∧
  vp_in (M 287 32) 40 ∧
  vp_in x6 5 ∧
  vp_in (M 287 32) 40 ∧
  vp_in x6 5 ∧
  vp_in (M 287 32) 40 ∧
  K (((M 287 32) + (1 : Int32)) - (1 : Int32)) (mset (mset (mset (mset (mset (mset M 312 s1.toNatClampNeg s0) 313 ((M 287 32).toNatClampNeg) (M 287 0)) 314 ((M 287 32).toNatClampNeg) (M 305 x6.toNatClampNeg)) 315 ((M 287 32).toNatClampNeg) (M 306 x6.toNatClampNeg)) 316 ((M 287 32).toNatClampNeg) (M 307 x6.toNatClampNeg)) 287 32 ((M 287 32) + (1 : Int32)))
def f_X12_open_b74 (K : Int32 → Mem → Prop) (x1 : Int32) (x2 : Int32) (x3 : Int32) (x5 : Int32) (s0 : Int32) (M : Mem) : Prop :=
  vp_in (M 287 32) 40 ∧
  vp_in (M 287 32) 40 ∧
  vp_in (M 287 32) 40 ∧
  vp_in (M 287 32) 40 ∧
  ((0 ≤ x5) →
    f_X12_open_b137 K s0 x5 (M 287 32) (mset (mset (mset (mset M 308 ((M 287 32).toNatClampNeg) x1) 309 ((M 287 32).toNatClampNeg) x2) 310 ((M 287 32).toNatClampNeg) x3) 311 ((M 287 32).toNatClampNeg) s0)) ∧
  ((¬ 0 ≤ x5) →
    f_X12_open_b137 K s0 (-9 : Int32) (M 287 32) (mset (mset (mset (mset M 308 ((M 287 32).toNatClampNeg) x1) 309 ((M 287 32).toNatClampNeg) x2) 310 ((M 287 32).toNatClampNeg) x3) 311 ((M 287 32).toNatClampNeg) s0))
def f_X12_open (a1 : Int32) (a2 : Int32) (a3 : Int32) (a4 : Int32) (M : Mem) (K : Int32 → Mem → Prop) : Prop :=
  f_X12_isWhat a1 M (fun v26 M26 =>
    ((¬ v26 = 0) →
      f_X12_wrongSums a2 a3 M26 (fun v28 M28 =>
        ((0 ≤ v28) →
          ((¬ (M28 287 32) = (40 : Int32)) →
            f_X12_givingAct a1 a2 a3 a4 M28 (fun v31 M31 =>
              ((0 ≤ v31) →
                f_X12_kindIn v31 M31 (fun v33 M33 =>
                  f_X12_open_b74 K a1 a2 a3 v31 v33 M33)) ∧
              ((¬ 0 ≤ v31) →
                f_X12_open_b74 K a1 a2 a3 v31 (0 : Int32) M31))) ∧
          (((M28 287 32) = (40 : Int32)) →
            f_X12_refuse (-6 : Int32) M28 (fun v34 M34 =>
              K v34 M34))) ∧
        ((¬ 0 ≤ v28) →
          f_X12_wrongSums a2 a3 M28 (fun v35 M35 =>
            f_X12_refuse v35 M35 (fun v36 M36 =>
              K v36 M36))))) ∧
    ((v26 = 0) →
      f_X12_refuse (-2 : Int32) M26 (fun v37 M37 =>
        K v37 M37)))
def f_X12_isMatter (a1 : Int32) (M : Mem) (K : Int32 → Mem → Prop) : Prop :=
  f_X12_in a1 (0 : Int32) ((M 287 32) - (1 : Int32)) M (fun v1 M1 =>
    bz v1 ∧ K v1 M1)
def f_X12_tell (a1 : Int32) (a2 : Int32) (a3 : Int32) (a4 : Int32) (M : Mem) (K : Mem → Prop) : Prop :=
  vp_in a1 40 ∧
  vp_in (((30 : Int32) * a1) + (M 317 a1.toNatClampNeg)) 1200 ∧
  vp_in (((30 : Int32) * a1) + (M 317 a1.toNatClampNeg)) 1200 ∧
  vp_in (((30 : Int32) * a1) + (M 317 a1.toNatClampNeg)) 1200 ∧
  vp_in (((30 : Int32) * a1) + (M 317 a1.toNatClampNeg)) 1200 ∧
  vp_in a1 40 ∧
  vp_in a1 40 ∧
  K (mset (mset (mset (mset (mset M 318 ((((30 : Int32) * a1) + (M 317 a1.toNatClampNeg)).toNatClampNeg) a2) 319 ((((30 : Int32) * a1) + (M 317 a1.toNatClampNeg)).toNatClampNeg) (M 287 0)) 320 ((((30 : Int32) * a1) + (M 317 a1.toNatClampNeg)).toNatClampNeg) a3) 321 ((((30 : Int32) * a1) + (M 317 a1.toNatClampNeg)).toNatClampNeg) a4) 317 a1.toNatClampNeg ((M 317 a1.toNatClampNeg) + (1 : Int32)))
def f_X12_isWithdrawn_b55 (r8 : Int32 × Int32 × Int32 × Int32 × Mem → Prop) (K : Int32 → Mem → Prop) (x1 : Int32) (x2 : Int32) (x4 : Int32) (s0 : Int32) (M : Mem) : Prop :=
  r8 (x1, x2, s0, (x4 + (1 : Int32)), M)
def f_X12_isWithdrawn_b50 (r8 : Int32 × Int32 × Int32 × Int32 × Mem → Prop) (K : Int32 → Mem → Prop) (x1 : Int32) (x2 : Int32) (x4 : Int32) (M : Mem) : Prop :=
  f_X12_isWithdrawn_b55 r8 K x1 x2 x4 (1 : Int32) M
def f_X12_isWithdrawn_b54 (r8 : Int32 × Int32 × Int32 × Int32 × Mem → Prop) (K : Int32 → Mem → Prop) (x1 : Int32) (x2 : Int32) (x4 : Int32) (M : Mem) : Prop :=
  f_X12_isWithdrawn_b55 r8 K x1 x2 x4 (0 : Int32) M
def f_X12_isWithdrawn_c8 (K : Int32 → Mem → Prop) (r8 : Int32 × Int32 × Int32 × Int32 × Mem → Prop) (x1 : Int32) (x2 : Int32) (x3 : Int32) (x4 : Int32) (M : Mem) : Prop :=
  vp_in x1 40 ∧
  (((((30 : Int32) * x1) + (M 317 x1.toNatClampNeg)) ≤ x4) →
    bz x3 ∧ K x3 M) ∧
  ((¬ (((30 : Int32) * x1) + (M 317 x1.toNatClampNeg)) ≤ x4) →
    ((¬ x3 = 0) →
      f_X12_isWithdrawn_b50 r8 K x1 x2 x4 M) ∧
    ((x3 = 0) →
      vp_in x4 1200 ∧
      ((¬ (M 318 x4.toNatClampNeg) = (2 : Int32)) →
        f_X12_isWithdrawn_b54 r8 K x1 x2 x4 M) ∧
      (((M 318 x4.toNatClampNeg) = (2 : Int32)) →
        vp_in x4 1200 ∧
        ((x2 < (M 319 x4.toNatClampNeg)) →
          f_X12_isWithdrawn_b54 r8 K x1 x2 x4 M) ∧
        ((¬ x2 < (M 319 x4.toNatClampNeg)) →
          f_X12_isWithdrawn_b50 r8 K x1 x2 x4 M))))
def f_X12_isWithdrawn (a1 : Int32) (a2 : Int32) (M : Mem) (K : Int32 → Mem → Prop) : Prop :=
  Lp (fun (r8 : Int32 × Int32 × Int32 × Int32 × Mem → Prop) a => f_X12_isWithdrawn_c8 K r8 a.1 a.2.1 a.2.2.1 a.2.2.2.1 a.2.2.2.2) (a1, a2, (0 : Int32), ((30 : Int32) * a1), M)
def f_X12_givenOn_b108 (r9 : Int32 × Int32 × Int32 × Int32 × Int32 × Int32 × Mem → Prop) (K : Int32 → Mem → Prop) (x1 : Int32) (x2 : Int32) (x3 : Int32) (x4 : Int32) (x5 : Int32) (x6 : Int32) (M : Mem) : Prop :=
  r9 (x1, x2, x3, x4, x5, (x6 + (1 : Int32)), M)
def f_X12_givenOn_b71 (r9 : Int32 × Int32 × Int32 × Int32 × Int32 × Int32 × Mem → Prop) (K : Int32 → Mem → Prop) (x1 : Int32) (x2 : Int32) (x3 : Int32) (x4 : Int32) (x5 : Int32) (x6 : Int32) (M : Mem) : Prop :=
  vp_in x6 1200 ∧
  ((¬ (M 320 x6.toNatClampNeg) = x2) →
    f_X12_givenOn_b108 r9 K x1 x2 x3 x4 x5 x6 M) ∧
  (((M 320 x6.toNatClampNeg) = x2) →
    vp_in x6 1200 ∧
    ((¬ (M 318 x6.toNatClampNeg) = (1 : Int32)) →
      f_X12_givenOn_b108 r9 K x1 x2 x3 x4 x5 x6 M) ∧
    (((M 318 x6.toNatClampNeg) = (1 : Int32)) →
      vp_in x6 1200 ∧
      ((x4 < (M 319 x6.toNatClampNeg)) →
        f_X12_givenOn_b108 r9 K x1 x2 x3 x4 x5 x6 M) ∧
      ((¬ x4 < (M 319 x6.toNatClampNeg)) →
        f_X12_givenOn_b108 r9 K x1 x2 x3 x4 (-1 : Int32) x6 M)))
def f_X12_givenOn_c9 (K : Int32 → Mem → Prop) (r9 : Int32 × Int32 × Int32 × Int32 × Int32 × Int32 × Mem → Prop) (x1 : Int32) (x2 : Int32) (x3 : Int32) (x4 : Int32) (x5 : Int32) (x6 : Int32) (M : Mem) : Prop :=
  vp_in x1 40 ∧
  (((((30 : Int32) * x1) + (M 317 x1.toNatClampNeg)) ≤ x6) →
    K x5 M) ∧
  ((¬ (((30 : Int32) * x1) + (M 317 x1.toNatClampNeg)) ≤ x6) →
    vp_in x6 1200 ∧
    ((¬ (M 320 x6.toNatClampNeg) = x2) →
      f_X12_givenOn_b71 r9 K x1 x2 x3 x4 x5 x6 M) ∧
    (((M 320 x6.toNatClampNeg) = x2) →
      vp_in x6 1200 ∧
      ((¬ (M 318 x6.toNatClampNeg) = 0) →
        f_X12_givenOn_b71 r9 K x1 x2 x3 x4 x5 x6 M) ∧
      (((M 318 x6.toNatClampNeg) = 0) →
        vp_in x6 1200 ∧
        ((x3 < (M 319 x6.toNatClampNeg)) →
          f_X12_givenOn_b71 r9 K x1 x2 x3 x4 x5 x6 M) ∧
        ((¬ x3 < (M 319 x6.toNatClampNeg)) →
          ((0 ≤ x5) →
            f_X12_givenOn_b71 r9 K x1 x2 x3 x4 x5 x6 M) ∧
          ((¬ 0 ≤ x5) →
            vp_in x6 1200 ∧
            f_X12_givenOn_b71 r9 K x1 x2 x3 x4 (M 319 x6.toNatClampNeg) x6 M)))))
def f_X12_givenOn (a1 : Int32) (a2 : Int32) (a3 : Int32) (a4 : Int32) (M : Mem) (K : Int32 → Mem → Prop) : Prop :=
  Lp (fun (r9 : Int32 × Int32 × Int32 × Int32 × Int32 × Int32 × Mem → Prop) a => f_X12_givenOn_c9 K r9 a.1 a.2.1 a.2.2.1 a.2.2.2.1 a.2.2.2.2.1 a.2.2.2.2.2.1 a.2.2.2.2.2.2) (a1, a2, a3, a4, (-1 : Int32), ((30 : Int32) * a1), M)
def f_X12_wholeSince_b74 (r11 : Int32 × Int32 × Int32 × Int32 × Int32 × Mem → Prop) (K : Int32 → Mem → Prop) (x1 : Int32) (x2 : Int32) (x3 : Int32) (x4 : Int32) (x5 : Int32) (M : Mem) : Prop :=
  r11 (x1, x2, x3, x4, (x5 + (1 : Int32)), M)
def f_X12_wholeSince_b72 (r11 : Int32 × Int32 × Int32 × Int32 × Int32 × Mem → Prop) (K : Int32 → Mem → Prop) (x1 : Int32) (x2 : Int32) (x3 : Int32) (x5 : Int32) (s0 : Int32) (M : Mem) : Prop :=
  f_X12_wholeSince_b74 r11 K x1 x2 x3 s0 x5 M
def f_X12_wholeSince_b54 (r11 : Int32 × Int32 × Int32 × Int32 × Int32 × Mem → Prop) (K : Int32 → Mem → Prop) (x1 : Int32) (x2 : Int32) (x3 : Int32) (x5 : Int32) (M : Mem) : Prop :=
  f_X12_wholeSince_b72 r11 K x1 x2 x3 x5 (-1 : Int32) M
def f_X12_wholeSince_c11 (K : Int32 → Mem → Prop) (r11 : Int32 × Int32 × Int32 × Int32 × Int32 × Mem → Prop) (x1 : Int32) (x2 : Int32) (x3 : Int32) (x4 : Int32) (x5 : Int32) (M : Mem) : Prop :=
  (((8 : Int32) ≤ x5) →
    K x4 M) ∧
  ((¬ (8 : Int32) ≤ x5) →
    vp_in x1 40 ∧
    ((¬ (((M 314 x1.toNatClampNeg) >>> (x5 &&& 31)) &&& (1 : Int32)) = (1 : Int32)) →
      f_X12_wholeSince_b74 r11 K x1 x2 x3 x4 x5 M) ∧
    (((((M 314 x1.toNatClampNeg) >>> (x5 &&& 31)) &&& (1 : Int32)) = (1 : Int32)) →
      f_X12_givenOn x1 x5 x2 x3 M (fun v6 M6 =>
        ((v6 < 0) →
          f_X12_wholeSince_b54 r11 K x1 x2 x3 x5 M6) ∧
        ((¬ v6 < 0) →
          ((0 ≤ x4) →
            ((v6 ≤ x4) →
              f_X12_wholeSince_b72 r11 K x1 x2 x3 x5 x4 M6) ∧
            ((¬ v6 ≤ x4) →
              f_X12_wholeSince_b72 r11 K x1 x2 x3 x5 v6 M6)) ∧
          ((¬ 0 ≤ x4) →
            f_X12_wholeSince_b54 r11 K x1 x2 x3 x5 M6)))))
def f_X12_wholeSince (a1 : Int32) (a2 : Int32) (a3 : Int32) (M : Mem) (K : Int32 → Mem → Prop) : Prop :=
  vp_in a1 40 ∧
  Lp (fun (r11 : Int32 × Int32 × Int32 × Int32 × Int32 × Mem → Prop) a => f_X12_wholeSince_c11 K r11 a.1 a.2.1 a.2.2.1 a.2.2.2.1 a.2.2.2.2.1 a.2.2.2.2.2) (a1, a2, a3, (M 313 a1.toNatClampNeg), (0 : Int32), M)
def f_X12_ruling_b85 (r9 : Int32 × Int32 × Int32 × Int32 × Int32 × Mem → Prop) (K : Int32 → Mem → Prop) (x1 : Int32) (x2 : Int32) (x3 : Int32) (x5 : Int32) (s0 : Int32) (M : Mem) : Prop :=
  r9 (x1, x2, x3, s0, (x5 + (1 : Int32)), M)
def f_X12_ruling_b83 (r9 : Int32 × Int32 × Int32 × Int32 × Int32 × Mem → Prop) (K : Int32 → Mem → Prop) (x1 : Int32) (x2 : Int32) (x3 : Int32) (x4 : Int32) (x5 : Int32) (M : Mem) : Prop :=
  f_X12_ruling_b85 r9 K x1 x2 x3 x5 x4 M
def f_X12_ruling_b57 (r9 : Int32 × Int32 × Int32 × Int32 × Int32 × Mem → Prop) (K : Int32 → Mem → Prop) (x1 : Int32) (x2 : Int32) (x3 : Int32) (x4 : Int32) (x5 : Int32) (M : Mem) : Prop :=
  vp_in x5 1200 ∧
  ((¬ (M 318 x5.toNatClampNeg) = (5 : Int32)) →
    f_X12_ruling_b83 r9 K x1 x2 x3 x4 x5 M) ∧
  (((M 318 x5.toNatClampNeg) = (5 : Int32)) →
    vp_in x5 1200 ∧
    ((x3 < (M 319 x5.toNatClampNeg)) →
      f_X12_ruling_b83 r9 K x1 x2 x3 x4 x5 M) ∧
    ((¬ x3 < (M 319 x5.toNatClampNeg)) →
      f_X12_ruling_b85 r9 K x1 x2 x3 x5 (-1 : Int32) M))
def f_X12_ruling_c9 (K : Int32 → Mem → Prop) (r9 : Int32 × Int32 × Int32 × Int32 × Int32 × Mem → Prop) (x1 : Int32) (x2 : Int32) (x3 : Int32) (x4 : Int32) (x5 : Int32) (M : Mem) : Prop :=
  vp_in x1 40 ∧
  (((((30 : Int32) * x1) + (M 317 x1.toNatClampNeg)) ≤ x5) →
    K x4 M) ∧
  ((¬ (((30 : Int32) * x1) + (M 317 x1.toNatClampNeg)) ≤ x5) →
    vp_in x5 1200 ∧
    ((¬ (M 318 x5.toNatClampNeg) = (4 : Int32)) →
      f_X12_ruling_b57 r9 K x1 x2 x3 x4 x5 M) ∧
    (((M 318 x5.toNatClampNeg) = (4 : Int32)) →
      vp_in x5 1200 ∧
      ((x2 < (M 319 x5.toNatClampNeg)) →
        f_X12_ruling_b57 r9 K x1 x2 x3 x4 x5 M) ∧
      ((¬ x2 < (M 319 x5.toNatClampNeg)) →
        vp_in x5 1200 ∧
        f_X12_ruling_b85 r9 K x1 x2 x3 x5 (M 320 x5.toNatClampNeg) M)))
def f_X12_ruling (a1 : Int32) (a2 : Int32) (a3 : Int32) (M : Mem) (K : Int32 → Mem → Prop) : Prop :=
  Lp (fun (r9 : Int32 × Int32 × Int32 × Int32 × Int32 × Mem → Prop) a => f_X12_ruling_c9 K r9 a.1 a.2.1 a.2.2.1 a.2.2.2.1 a.2.2.2.2.1 a.2.2.2.2.2) (a1, a2, a3, (-1 : Int32), ((30 : Int32) * a1), M)
def f_X12_answer_b75 (r9 : Int32 × Int32 × Int32 × Int32 × Int32 × Mem → Prop) (K : Int32 → Mem → Prop) (x1 : Int32) (x2 : Int32) (x3 : Int32) (x5 : Int32) (s0 : Int32) (M : Mem) : Prop :=
  r9 (x1, x2, x3, s0, (x5 + (1 : Int32)), M)
def f_X12_answer_b73 (r9 : Int32 × Int32 × Int32 × Int32 × Int32 × Mem → Prop) (K : Int32 → Mem → Prop) (x1 : Int32) (x2 : Int32) (x3 : Int32) (x4 : Int32) (x5 : Int32) (M : Mem) : Prop :=
  f_X12_answer_b75 r9 K x1 x2 x3 x5 x4 M
def f_X12_answer_c9 (K : Int32 → Mem → Prop) (r9 : Int32 × Int32 × Int32 × Int32 × Int32 × Mem → Prop) (x1 : Int32) (x2 : Int32) (x3 : Int32) (x4 : Int32) (x5 : Int32) (M : Mem) : Prop :=
  vp_in x1 40 ∧
  (((((30 : Int32) * x1) + (M 317 x1.toNatClampNeg)) ≤ x5) →
    K x4 M) ∧
  ((¬ (((30 : Int32) * x1) + (M 317 x1.toNatClampNeg)) ≤ x5) →
    vp_in x5 1200 ∧
    ((¬ (M 318 x5.toNatClampNeg) = (3 : Int32)) →
      f_X12_answer_b73 r9 K x1 x2 x3 x4 x5 M) ∧
    (((M 318 x5.toNatClampNeg) = (3 : Int32)) →
      vp_in x5 1200 ∧
      ((x2 < (M 319 x5.toNatClampNeg)) →
        f_X12_answer_b73 r9 K x1 x2 x3 x4 x5 M) ∧
      ((¬ x2 < (M 319 x5.toNatClampNeg)) →
        vp_in x5 1200 ∧
        vp_in (M 321 x5.toNatClampNeg) 30 ∧
        (((M 329 ((M 321 x5.toNatClampNeg).toNatClampNeg)) ≤ x3) →
          f_X12_answer_b73 r9 K x1 x2 x3 x4 x5 M) ∧
        ((¬ (M 329 ((M 321 x5.toNatClampNeg).toNatClampNeg)) ≤ x3) →
          vp_in x5 1200 ∧
          f_X12_answer_b75 r9 K x1 x2 x3 x5 (M 320 x5.toNatClampNeg) M))))
def f_X12_answer (a1 : Int32) (a2 : Int32) (a3 : Int32) (M : Mem) (K : Int32 → Mem → Prop) : Prop :=
  Lp (fun (r9 : Int32 × Int32 × Int32 × Int32 × Int32 × Mem → Prop) a => f_X12_answer_c9 K r9 a.1 a.2.1 a.2.2.1 a.2.2.2.1 a.2.2.2.2.1 a.2.2.2.2.2) (a1, a2, a3, (-1 : Int32), ((30 : Int32) * a1), M)
def f_X12_stateOf_b129 (K : Int32 → Mem → Prop) (s0 : Int32) (M : Mem) : Prop :=
  K s0 M
def f_X12_stateOf (a1 : Int32) (a2 : Int32) (a3 : Int32) (M : Mem) (K : Int32 → Mem → Prop) : Prop :=
  f_X12_isWithdrawn a1 a2 M (fun v5 M5 =>
    ((v5 = 0) →
      vp_in a1 40 ∧
      ((¬ (M5 311 a1.toNatClampNeg) = 0) →
        f_X12_ruling a1 a2 a3 M5 (fun v9 M9 =>
          ((v9 < 0) →
            f_X12_answer a1 a2 a3 M9 (fun v11 M11 =>
              ((v11 < 0) →
                f_X12_wholeSince a1 a2 a3 M11 (fun v13 M13 =>
                  ((0 ≤ v13) →
                    vp_in a1 40 ∧
                    ((¬ (M13 311 a1.toNatClampNeg) = (1 : Int32)) →
                      f_X12_workdaysIn v13 a2 M13 (fun v17 M17 =>
                        vp_in a1 40 ∧
                        (((M17 315 a1.toNatClampNeg) < v17) →
                          vp_in a1 40 ∧
                          ((¬ (M17 316 a1.toNatClampNeg) = (1 : Int32)) →
                            f_X12_stateOf_b129 K (7 : Int32) M17) ∧
                          (((M17 316 a1.toNatClampNeg) = (1 : Int32)) →
                            f_X12_stateOf_b129 K (6 : Int32) M17)) ∧
                        ((¬ (M17 315 a1.toNatClampNeg) < v17) →
                          f_X12_stateOf_b129 K (3 : Int32) M17))) ∧
                    (((M13 311 a1.toNatClampNeg) = (1 : Int32)) →
                      K (6 : Int32) M13)) ∧
                  ((¬ 0 ≤ v13) →
                    K (2 : Int32) M13))) ∧
              ((¬ v11 < 0) →
                f_X12_answer a1 a2 a3 M11 (fun v22 M22 =>
                  K ((5 : Int32) - v22) M22)))) ∧
          ((¬ v9 < 0) →
            f_X12_ruling a1 a2 a3 M9 (fun v23 M23 =>
              K ((9 : Int32) - v23) M23)))) ∧
      (((M5 311 a1.toNatClampNeg) = 0) →
        K (0 : Int32) M5)) ∧
    ((¬ v5 = 0) →
      K (1 : Int32) M5))
def f_X12_lets_b57 (K : Int32 → Mem → Prop) (s0 : Int32) (M : Mem) : Prop :=
  bz s0 ∧ K s0 M
def f_X12_lets_b69 (K : Int32 → Mem → Prop) (s0 : Int32) (M : Mem) : Prop :=
  bz s0 ∧ K s0 M
def f_X12_lets_b100 (K : Int32 → Mem → Prop) (s0 : Int32) (M : Mem) : Prop :=
  bz s0 ∧ K s0 M
def f_X12_lets_b95 (K : Int32 → Mem → Prop) (M : Mem) : Prop :=
  f_X12_lets_b100 K (1 : Int32) M
def f_X12_lets_b133 (K : Int32 → Mem → Prop) (s0 : Int32) (M : Mem) : Prop :=
  bz s0 ∧ K s0 M
def f_X12_lets_b128 (K : Int32 → Mem → Prop) (M : Mem) : Prop :=
  f_X12_lets_b133 K (1 : Int32) M
def f_X12_lets (a1 : Int32) (a2 : Int32) (M : Mem) (K : Int32 → Mem → Prop) : Prop :=
  f_X12_stateOf a1 a2 (M 287 0) M (fun v6 M6 =>
    vp_in a1 40 ∧
    (((M6 311 a1.toNatClampNeg).toInt < 0 ∨ 3 < (M6 311 a1.toNatClampNeg).toInt) →
      ((v6 = (2 : Int32)) →
        f_X12_lets_b128 K M6) ∧
      ((¬ v6 = (2 : Int32)) →
        ((v6 = (3 : Int32)) →
          f_X12_lets_b128 K M6) ∧
        ((¬ v6 = (3 : Int32)) →
          ((v6 = (4 : Int32)) →
            f_X12_lets_b128 K M6) ∧
          ((¬ v6 = (4 : Int32)) →
            ((v6 = (6 : Int32)) →
              f_X12_lets_b128 K M6) ∧
            ((¬ v6 = (6 : Int32)) →
              ((¬ v6 = (8 : Int32)) →
                f_X12_lets_b133 K (0 : Int32) M6) ∧
              ((v6 = (8 : Int32)) →
                f_X12_lets_b128 K M6)))))) ∧
    (((M6 311 a1.toNatClampNeg) = (0 : Int32)) →
      ((¬ v6 = 0) →
        f_X12_lets_b57 K (0 : Int32) M6) ∧
      ((v6 = 0) →
        f_X12_lets_b57 K (1 : Int32) M6)) ∧
    (((M6 311 a1.toNatClampNeg) = (1 : Int32)) →
      ((¬ v6 = (6 : Int32)) →
        f_X12_lets_b69 K (0 : Int32) M6) ∧
      ((v6 = (6 : Int32)) →
        f_X12_lets_b69 K (1 : Int32) M6)) ∧
    (((M6 311 a1.toNatClampNeg) = (2 : Int32)) →
      f_X12_in v6 (4 : Int32) (6 : Int32) M6 (fun v16 M16 =>
        bz v16 ∧ K v16 M16)) ∧
    (((M6 311 a1.toNatClampNeg) = (3 : Int32)) →
      ((v6 = (4 : Int32)) →
        f_X12_lets_b95 K M6) ∧
      ((¬ v6 = (4 : Int32)) →
        ((v6 = (6 : Int32)) →
          f_X12_lets_b95 K M6) ∧
        ((¬ v6 = (6 : Int32)) →
          ((¬ v6 = (8 : Int32)) →
            f_X12_lets_b100 K (0 : Int32) M6) ∧
          ((v6 = (8 : Int32)) →
            f_X12_lets_b95 K M6)))))
def f_X12_paper_b18 (K : Int32 → Mem → Prop) (M : Mem) : Prop :=
  f_X12_refuse (-1 : Int32) M (fun v3 M3 =>
    K v3 M3)
def f_X12_paper_b57 (K : Int32 → Mem → Prop) (M : Mem) : Prop :=
  f_X12_refuse (-3 : Int32) M (fun v4 M4 =>
    K v4 M4)
def f_X12_paper_b93 (K : Int32 → Mem → Prop) (x1 : Int32) (x2 : Int32) (s0 : Int32) (s1 : Int32) (M : Mem) : Prop :=
  f_X12_tell s1 s0 x2 (0 : Int32) M (fun M5 =>
    vp_in x1 40 ∧
    K (M5 317 x1.toNatClampNeg) M5)
def f_X12_paper_b64 (K : Int32 → Mem → Prop) (x1 : Int32) (x2 : Int32) (x3 : Int32) (M : Mem) : Prop :=
  vp_in x1 40 ∧
  ((¬ (M 317 x1.toNatClampNeg) = (30 : Int32)) →
    ((x3 = 0) →
      f_X12_paper_b93 K x1 x2 (1 : Int32) x1 M) ∧
    ((¬ x3 = 0) →
      f_X12_paper_b93 K x1 x2 (0 : Int32) x1 M)) ∧
  (((M 317 x1.toNatClampNeg) = (30 : Int32)) →
    f_X12_refuse (-6 : Int32) M (fun v10 M10 =>
      K v10 M10))
def f_X12_paper (a1 : Int32) (a2 : Int32) (a3 : Int32) (M : Mem) (K : Int32 → Mem → Prop) : Prop :=
  f_X12_isMatter a1 M (fun v11 M11 =>
    ((v11 = 0) →
      f_X12_paper_b18 K M11) ∧
    ((¬ v11 = 0) →
      f_X12_in a2 (0 : Int32) (7 : Int32) M11 (fun v13 M13 =>
        ((¬ v13 = 0) →
          f_X12_isWithdrawn a1 (M13 287 0) M13 (fun v15 M15 =>
            ((¬ v15 = 0) →
              f_X12_paper_b57 K M15) ∧
            ((v15 = 0) →
              ((¬ a3 = 0) →
                f_X12_paper_b64 K a1 a2 a3 M15) ∧
              ((a3 = 0) →
                f_X12_givenOn a1 a2 (M15 287 0) (M15 287 0) M15 (fun v18 M18 =>
                  ((0 ≤ v18) →
                    f_X12_paper_b64 K a1 a2 a3 M18) ∧
                  ((¬ 0 ≤ v18) →
                    f_X12_paper_b57 K M18)))))) ∧
        ((v13 = 0) →
          f_X12_paper_b18 K M13))))
def f_X12_withdraw (a1 : Int32) (M : Mem) (K : Int32 → Mem → Prop) : Prop :=
  f_X12_isMatter a1 M (fun v2 M2 =>
    ((¬ v2 = 0) →
      f_X12_isWithdrawn a1 (M2 287 0) M2 (fun v4 M4 =>
        ((v4 = 0) →
          vp_in a1 40 ∧
          ((¬ (M4 317 a1.toNatClampNeg) = (30 : Int32)) →
            f_X12_tell a1 (2 : Int32) (-1 : Int32) (0 : Int32) M4 (fun M8 =>
              K (1 : Int32) M8)) ∧
          (((M4 317 a1.toNatClampNeg) = (30 : Int32)) →
            f_X12_refuse (-6 : Int32) M4 (fun v9 M9 =>
              K v9 M9))) ∧
        ((¬ v4 = 0) →
          f_X12_refuse (-3 : Int32) M4 (fun v10 M10 =>
            K v10 M10)))) ∧
    ((v2 = 0) →
      f_X12_refuse (-1 : Int32) M2 (fun v11 M11 =>
        K v11 M11)))
def f_X12_state_b22 (K : Int32 → Mem → Prop) (M : Mem) : Prop :=
  f_X12_refuse (-4 : Int32) M (fun v2 M2 =>
    K v2 M2)
def f_X12_state_b52 (K : Int32 → Mem → Prop) (M : Mem) : Prop :=
  f_X12_refuse (-3 : Int32) M (fun v3 M3 =>
    K v3 M3)
def f_X12_state (a1 : Int32) (a2 : Int32) (a3 : Int32) (M : Mem) (K : Int32 → Mem → Prop) : Prop :=
  f_X12_isMatter a1 M (fun v4 M4 =>
    ((¬ v4 = 0) →
      ((a2 < 0) →
        f_X12_state_b22 K M4) ∧
      ((¬ a2 < 0) →
        ((0 ≤ a3) →
          vp_in a1 40 ∧
          ((a2 < (M4 313 a1.toNatClampNeg)) →
            f_X12_state_b52 K M4) ∧
          ((¬ a2 < (M4 313 a1.toNatClampNeg)) →
            ((a3 < a2) →
              f_X12_state_b52 K M4) ∧
            ((¬ a3 < a2) →
              ((a3 ≤ (M4 287 0)) →
                f_X12_stateOf a1 a2 a3 M4 (fun v12 M12 =>
                  K v12 M12)) ∧
              ((¬ a3 ≤ (M4 287 0)) →
                f_X12_state_b52 K M4)))) ∧
        ((¬ 0 ≤ a3) →
          f_X12_state_b22 K M4))) ∧
    ((v4 = 0) →
      f_X12_refuse (-1 : Int32) M4 (fun v13 M13 =>
        K v13 M13)))
def f_X12_matterOf_b102 (K : Int32 → Mem → Prop) (s0 : Int32) (M : Mem) : Prop :=
  K s0 M
def f_X12_matterOf_b120 (K : Int32 → Mem → Prop) (s0 : Int32) (M : Mem) : Prop :=
  K s0 M
def f_X12_matterOf (a1 : Int32) (a2 : Int32) (M : Mem) (K : Int32 → Mem → Prop) : Prop :=
  f_X12_isMatter a1 M (fun v5 M5 =>
    ((¬ v5 = 0) →
      f_X12_in a2 (0 : Int32) (5 : Int32) M5 (fun v7 M7 =>
        ((¬ v7 = 0) →
          ((a2.toInt < 0 ∨ 4 < a2.toInt) →
            vp_in a1 40 ∧
            K (M7 312 a1.toNatClampNeg) M7) ∧
          ((a2 = (0 : Int32)) →
            vp_in a1 40 ∧
            K (M7 311 a1.toNatClampNeg) M7) ∧
          ((a2 = (1 : Int32)) →
            vp_in a1 40 ∧
            K (M7 313 a1.toNatClampNeg) M7) ∧
          ((a2 = (2 : Int32)) →
            f_X12_wholeSince a1 (M7 287 0) (M7 287 0) M7 (fun v13 M13 =>
              ((0 ≤ v13) →
                f_X12_matterOf_b102 K v13 M13) ∧
              ((¬ 0 ≤ v13) →
                f_X12_matterOf_b102 K (-9 : Int32) M13))) ∧
          ((a2 = (3 : Int32)) →
            f_X12_lets a1 (M7 287 0) M7 (fun v15 M15 =>
              ((v15 = 0) →
                f_X12_matterOf_b120 K (0 : Int32) M15) ∧
              ((¬ v15 = 0) →
                f_X12_matterOf_b120 K (1 : Int32) M15))) ∧
          ((a2 = (4 : Int32)) →
            vp_in a1 40 ∧
            K (M7 317 a1.toNatClampNeg) M7)) ∧
        ((v7 = 0) →
          f_X12_refuse (-2 : Int32) M7 (fun v18 M18 =>
            K v18 M18)))) ∧
    ((v5 = 0) →
      f_X12_refuse (-1 : Int32) M5 (fun v19 M19 =>
        K v19 M19)))
def f_X12_votes (a1 : Int32) (a2 : Int32) (M : Mem) (K : Int32 → Mem → Prop) : Prop :=
  f_X12_isShop a1 M (fun v3 M3 =>
    ((¬ v3 = 0) →
      ((0 ≤ a2) →
        ((a2 ≤ (999 : Int32)) →
          vp_in a1 6 ∧
          vp_in a1 6 ∧
          K (M3 322 a1.toNatClampNeg) (mset M3 322 a1.toNatClampNeg a2)) ∧
        ((¬ a2 ≤ (999 : Int32)) →
          f_X12_refuse (-6 : Int32) M3 (fun v9 M9 =>
            K v9 M9))) ∧
      ((¬ 0 ≤ a2) →
        f_X12_refuse (-4 : Int32) M3 (fun v10 M10 =>
          K v10 M10))) ∧
    ((v3 = 0) →
      f_X12_refuse (-1 : Int32) M3 (fun v11 M11 =>
        K v11 M11)))
def f_X12_elect_b58 (r34 : Int32 × Int32 × Int32 × Mem → Prop) (K : Int32 → Mem → Prop) (x1 : Int32) (x3 : Int32) (s0 : Int32) (M : Mem) : Prop :=
  r34 (x1, s0, (x3 + (1 : Int32)), M)
def f_X12_elect_b53 (r34 : Int32 × Int32 × Int32 × Mem → Prop) (K : Int32 → Mem → Prop) (x1 : Int32) (x3 : Int32) (M : Mem) : Prop :=
  f_X12_elect_b58 r34 K x1 x3 (1 : Int32) M
def f_X12_elect_b126 (r65 : Int32 × Int32 × Mem → Prop) (r85 : Int32 × Int32 × Int32 × Int32 × Int32 × Mem → Prop) (r98 : Int32 × Int32 × Int32 × Int32 × Int32 × Int32 × Int32 × Mem → Prop) (K : Int32 → Mem → Prop) (x1 : Int32) (x2 : Int32) (x3 : Int32) (x4 : Int32) (x5 : Int32) (x7 : Int32) (s0 : Int32) (s1 : Int32) (M : Mem) : Prop :=
  r98 (x1, x2, x3, x4, x5, (s1 + s0), (x7 + (1 : Int32)), M)
def f_X12_elect_b203 (r65 : Int32 × Int32 × Mem → Prop) (r85 : Int32 × Int32 × Int32 × Int32 × Int32 × Mem → Prop) (K : Int32 → Mem → Prop) (x1 : Int32) (x2 : Int32) (x4 : Int32) (x5 : Int32) (s0 : Int32) (M : Mem) : Prop :=
  r85 (x1, x2, s0, x4, (x5 + (1 : Int32)), M)
def f_X12_elect_b190 (r65 : Int32 × Int32 × Mem → Prop) (r85 : Int32 × Int32 × Int32 × Int32 × Int32 × Mem → Prop) (K : Int32 → Mem → Prop) (x1 : Int32) (x2 : Int32) (x3 : Int32) (x5 : Int32) (x7 : Int32) (s0 : Int32) (M : Mem) : Prop :=
  ((x7 = 0) →
    f_X12_elect_b203 r65 r85 K x1 x2 s0 x5 x3 M) ∧
  ((¬ x7 = 0) →
    f_X12_elect_b203 r65 r85 K x1 x2 s0 x5 x5 M)
def f_X12_elect_b176 (r65 : Int32 × Int32 × Mem → Prop) (r85 : Int32 × Int32 × Int32 × Int32 × Int32 × Mem → Prop) (K : Int32 → Mem → Prop) (x1 : Int32) (x2 : Int32) (x3 : Int32) (x4 : Int32) (x5 : Int32) (x6 : Int32) (s0 : Int32) (M : Mem) : Prop :=
  ((s0 = 0) →
    f_X12_elect_b190 r65 r85 K x1 x2 x3 x5 s0 x4 M) ∧
  ((¬ s0 = 0) →
    f_X12_elect_b190 r65 r85 K x1 x2 x3 x5 s0 x6 M)
def f_X12_elect_b171 (r65 : Int32 × Int32 × Mem → Prop) (r85 : Int32 × Int32 × Int32 × Int32 × Int32 × Mem → Prop) (K : Int32 → Mem → Prop) (x1 : Int32) (x2 : Int32) (x3 : Int32) (x4 : Int32) (x5 : Int32) (x6 : Int32) (M : Mem) : Prop :=
  f_X12_elect_b176 r65 r85 K x1 x2 x3 x4 x5 x6 (1 : Int32) M
def f_X12_elect_b175 (r65 : Int32 × Int32 × Mem → Prop) (r85 : Int32 × Int32 × Int32 × Int32 × Int32 × Mem → Prop) (K : Int32 → Mem → Prop) (x1 : Int32) (x2 : Int32) (x3 : Int32) (x4 : Int32) (x5 : Int32) (x6 : Int32) (M : Mem) : Prop :=
  f_X12_elect_b176 r65 r85 K x1 x2 x3 x4 x5 x6 (0 : Int32) M
def f_X12_elect_c98 (r65 : Int32 × Int32 × Mem → Prop) (r85 : Int32 × Int32 × Int32 × Int32 × Int32 × Mem → Prop) (K : Int32 → Mem → Prop) (r98 : Int32 × Int32 × Int32 × Int32 × Int32 × Int32 × Int32 × Mem → Prop) (x1 : Int32) (x2 : Int32) (x3 : Int32) (x4 : Int32) (x5 : Int32) (x6 : Int32) (x7 : Int32) (M : Mem) : Prop :=
  (((M 287 48) ≤ x7) →
    vp_in x5 6 ∧
    (((M 322 x5.toNatClampNeg) ≤ 0) →
      f_X12_elect_b175 r65 r85 K x1 x2 x3 x4 x5 x6 M) ∧
    ((¬ (M 322 x5.toNatClampNeg) ≤ 0) →
      ((x3 < 0) →
        f_X12_elect_b171 r65 r85 K x1 x2 x3 x4 x5 x6 M) ∧
      ((¬ x3 < 0) →
        vp_in x5 6 ∧
        vp_in x3 6 ∧
        ((((M 322 x5.toNatClampNeg) * x4) ≤ ((M 322 x3.toNatClampNeg) * x6)) →
          f_X12_elect_b175 r65 r85 K x1 x2 x3 x4 x5 x6 M) ∧
        ((¬ ((M 322 x5.toNatClampNeg) * x4) ≤ ((M 322 x3.toNatClampNeg) * x6)) →
          f_X12_elect_b171 r65 r85 K x1 x2 x3 x4 x5 x6 M)))) ∧
  ((¬ (M 287 48) ≤ x7) →
    vp_in x7 9 ∧
    ((¬ (M 323 x7.toNatClampNeg) = x5) →
      f_X12_elect_b126 r65 r85 r98 K x1 x2 x3 x4 x5 x7 (0 : Int32) x6 M) ∧
    (((M 323 x7.toNatClampNeg) = x5) →
      f_X12_elect_b126 r65 r85 r98 K x1 x2 x3 x4 x5 x7 (1 : Int32) x6 M))
def f_X12_elect_c85 (r65 : Int32 × Int32 × Mem → Prop) (K : Int32 → Mem → Prop) (r85 : Int32 × Int32 × Int32 × Int32 × Int32 × Mem → Prop) (x1 : Int32) (x2 : Int32) (x3 : Int32) (x4 : Int32) (x5 : Int32) (M : Mem) : Prop :=
  (((6 : Int32) ≤ x5) →
    vp_in (M 287 48) 9 ∧
    vp_in (M 287 48) 9 ∧
    r65 (x1, x2, (mset (mset (mset M 323 ((M 287 48).toNatClampNeg) x3) 324 ((M 287 48).toNatClampNeg) (-9 : Int32)) 287 48 ((M 287 48) + (1 : Int32))))) ∧
  ((¬ (6 : Int32) ≤ x5) →
    Lp (fun (r98 : Int32 × Int32 × Int32 × Int32 × Int32 × Int32 × Int32 × Mem → Prop) a => f_X12_elect_c98 r65 r85 K r98 a.1 a.2.1 a.2.2.1 a.2.2.2.1 a.2.2.2.2.1 a.2.2.2.2.2.1 a.2.2.2.2.2.2.1 a.2.2.2.2.2.2.2) (x1, x2, x3, x4, x5, (1 : Int32), (0 : Int32), M))
def f_X12_elect_b244 (K : Int32 → Mem → Prop) (M : Mem) : Prop :=
  K (M 287 48) M
def f_X12_elect_c65 (K : Int32 → Mem → Prop) (r65 : Int32 × Int32 × Mem → Prop) (x1 : Int32) (x2 : Int32) (M : Mem) : Prop :=
  ((x2 = 0) →
    f_X12_elect_b244 K M) ∧
  ((¬ x2 = 0) →
    ((x1 ≤ (M 287 48)) →
      f_X12_elect_b244 K M) ∧
    ((¬ x1 ≤ (M 287 48)) →
      Lp (fun (r85 : Int32 × Int32 × Int32 × Int32 × Int32 × Mem → Prop) a => f_X12_elect_c85 r65 K r85 a.1 a.2.1 a.2.2.1 a.2.2.2.1 a.2.2.2.2.1 a.2.2.2.2.2) (x1, x2, (-1 : Int32), (0 : Int32), (0 : Int32), M)))
def f_X12_elect_c34 (K : Int32 → Mem → Prop) (r34 : Int32 × Int32 × Int32 × Mem → Prop) (x1 : Int32) (x2 : Int32) (x3 : Int32) (M : Mem) : Prop :=
  (((6 : Int32) ≤ x3) →
    Lp (fun (r65 : Int32 × Int32 × Mem → Prop) a => f_X12_elect_c65 K r65 a.1 a.2.1 a.2.2) (x1, x2, M)) ∧
  ((¬ (6 : Int32) ≤ x3) →
    ((¬ x2 = 0) →
      f_X12_elect_b53 r34 K x1 x3 M) ∧
    ((x2 = 0) →
      vp_in x3 6 ∧
      (((M 322 x3.toNatClampNeg) ≤ 0) →
        f_X12_elect_b58 r34 K x1 x3 (0 : Int32) M) ∧
      ((¬ (M 322 x3.toNatClampNeg) ≤ 0) →
        f_X12_elect_b53 r34 K x1 x3 M)))
def f_X12_elect (a1 : Int32) (M : Mem) (K : Int32 → Mem → Prop) : Prop :=
  (((1 : Int32) ≤ a1) →
    ((a1 ≤ (9 : Int32)) →
      Lp (fun (r34 : Int32 × Int32 × Int32 × Mem → Prop) a => f_X12_elect_c34 K r34 a.1 a.2.1 a.2.2.1 a.2.2.2) (a1, (0 : Int32), (0 : Int32), (mset M 287 48 (0 : Int32)))) ∧
    ((¬ a1 ≤ (9 : Int32)) →
      f_X12_refuse (-6 : Int32) M (fun v30 M30 =>
        K v30 M30))) ∧
  ((¬ (1 : Int32) ≤ a1) →
    f_X12_refuse (-4 : Int32) M (fun v31 M31 =>
      K v31 M31))
def f_X12_isSeat (a1 : Int32) (M : Mem) (K : Int32 → Mem → Prop) : Prop :=
  f_X12_in a1 (0 : Int32) ((M 287 48) - (1 : Int32)) M (fun v1 M1 =>
    bz v1 ∧ K v1 M1)
def f_X12_seat_b49 (K : Int32 → Mem → Prop) (s0 : Int32) (M : Mem) : Prop :=
  K s0 M
def f_X12_seat (a1 : Int32) (a2 : Int32) (M : Mem) (K : Int32 → Mem → Prop) : Prop :=
  f_X12_isSeat a1 M (fun v3 M3 =>
    ((¬ v3 = 0) →
      f_X12_in a2 (0 : Int32) (1 : Int32) M3 (fun v5 M5 =>
        ((¬ v5 = 0) →
          ((¬ a2 = 0) →
            vp_in a1 9 ∧
            f_X12_seat_b49 K (M5 324 a1.toNatClampNeg) M5) ∧
          ((a2 = 0) →
            vp_in a1 9 ∧
            f_X12_seat_b49 K (M5 323 a1.toNatClampNeg) M5)) ∧
        ((v5 = 0) →
          f_X12_refuse (-2 : Int32) M5 (fun v10 M10 =>
            K v10 M10)))) ∧
    ((v3 = 0) →
      f_X12_refuse (-1 : Int32) M3 (fun v11 M11 =>
        K v11 M11)))
def f_X12_sit_b16 (K : Int32 → Mem → Prop) (M : Mem) : Prop :=
  f_X12_refuse (-1 : Int32) M (fun v6 M6 =>
    K v6 M6)
def f_X12_sit_b62 (r27 : Int32 × Int32 × Int32 × Int32 × Mem → Prop) (K : Int32 → Mem → Prop) (x1 : Int32) (x2 : Int32) (x4 : Int32) (s0 : Int32) (M : Mem) : Prop :=
  r27 (x1, x2, s0, (x4 + (1 : Int32)), M)
def f_X12_sit_b57 (r27 : Int32 × Int32 × Int32 × Int32 × Mem → Prop) (K : Int32 → Mem → Prop) (x1 : Int32) (x2 : Int32) (x4 : Int32) (M : Mem) : Prop :=
  f_X12_sit_b62 r27 K x1 x2 x4 (1 : Int32) M
def f_X12_sit_b61 (r27 : Int32 × Int32 × Int32 × Int32 × Mem → Prop) (K : Int32 → Mem → Prop) (x1 : Int32) (x2 : Int32) (x4 : Int32) (M : Mem) : Prop :=
  f_X12_sit_b62 r27 K x1 x2 x4 (0 : Int32) M
def f_X12_sit_b97 (K : Int32 → Mem → Prop) (M : Mem) : Prop :=
  f_X12_refuse (-3 : Int32) M (fun v7 M7 =>
    K v7 M7)
def f_X12_sit_c27 (K : Int32 → Mem → Prop) (r27 : Int32 × Int32 × Int32 × Int32 × Mem → Prop) (x1 : Int32) (x2 : Int32) (x3 : Int32) (x4 : Int32) (M : Mem) : Prop :=
  (((M 287 48) ≤ x4) →
    vp_in x2 24 ∧
    ((¬ (M 294 x2.toNatClampNeg) = 0) →
      f_X12_sit_b97 K M) ∧
    (((M 294 x2.toNatClampNeg) = 0) →
      vp_in x2 24 ∧
      vp_in x1 9 ∧
      ((¬ (M 289 x2.toNatClampNeg) = (M 323 x1.toNatClampNeg)) →
        f_X12_sit_b97 K M) ∧
      (((M 289 x2.toNatClampNeg) = (M 323 x1.toNatClampNeg)) →
        ((x3 = 0) →
          vp_in x1 9 ∧
          K (1 : Int32) (mset M 324 x1.toNatClampNeg x2)) ∧
        ((¬ x3 = 0) →
          f_X12_sit_b97 K M)))) ∧
  ((¬ (M 287 48) ≤ x4) →
    ((¬ x3 = 0) →
      f_X12_sit_b57 r27 K x1 x2 x4 M) ∧
    ((x3 = 0) →
      ((x4 = x1) →
        f_X12_sit_b61 r27 K x1 x2 x4 M) ∧
      ((¬ x4 = x1) →
        vp_in x4 9 ∧
        ((¬ (M 324 x4.toNatClampNeg) = x2) →
          f_X12_sit_b61 r27 K x1 x2 x4 M) ∧
        (((M 324 x4.toNatClampNeg) = x2) →
          f_X12_sit_b57 r27 K x1 x2 x4 M))))
def f_X12_sit (a1 : Int32) (a2 : Int32) (M : Mem) (K : Int32 → Mem → Prop) : Prop :=
  f_X12_isSeat a1 M (fun v20 M20 =>
    ((v20 = 0) →
      f_X12_sit_b16 K M20) ∧
    ((¬ v20 = 0) →
      f_X12_isPerson a2 M20 (fun v22 M22 =>
        ((¬ v22 = 0) →
          Lp (fun (r27 : Int32 × Int32 × Int32 × Int32 × Mem → Prop) a => f_X12_sit_c27 K r27 a.1 a.2.1 a.2.2.1 a.2.2.2.1 a.2.2.2.2) (a1, a2, (0 : Int32), (0 : Int32), M22)) ∧
        ((v22 = 0) →
          f_X12_sit_b16 K M22))))
def f_X12_allSit_b66 (r18 : Int32 × Int32 × Int32 × Mem → Prop) (K : Int32 → Mem → Prop) (x1 : Int32) (x3 : Int32) (s0 : Int32) (M : Mem) : Prop :=
  r18 (x1, s0, (x3 + (1 : Int32)), M)
def f_X12_allSit_b61 (r18 : Int32 × Int32 × Int32 × Mem → Prop) (K : Int32 → Mem → Prop) (x1 : Int32) (x3 : Int32) (M : Mem) : Prop :=
  f_X12_allSit_b66 r18 K x1 x3 (1 : Int32) M
def f_X12_allSit_b65 (r18 : Int32 × Int32 × Int32 × Mem → Prop) (K : Int32 → Mem → Prop) (x1 : Int32) (x3 : Int32) (M : Mem) : Prop :=
  f_X12_allSit_b66 r18 K x1 x3 (0 : Int32) M
def f_X12_allSit_c18 (K : Int32 → Mem → Prop) (r18 : Int32 × Int32 × Int32 × Mem → Prop) (x1 : Int32) (x2 : Int32) (x3 : Int32) (M : Mem) : Prop :=
  (((M 287 48) ≤ x3) →
    bz x2 ∧ K x2 M) ∧
  ((¬ (M 287 48) ≤ x3) →
    ((x2 = 0) →
      f_X12_allSit_b65 r18 K x1 x3 M) ∧
    ((¬ x2 = 0) →
      ((((x1 >>> (x3 &&& 31)) &&& (1 : Int32)) = 0) →
        f_X12_allSit_b61 r18 K x1 x3 M) ∧
      ((¬ ((x1 >>> (x3 &&& 31)) &&& (1 : Int32)) = 0) →
        vp_in x3 9 ∧
        (((M 324 x3.toNatClampNeg) < 0) →
          f_X12_allSit_b65 r18 K x1 x3 M) ∧
        ((¬ (M 324 x3.toNatClampNeg) < 0) →
          vp_in x3 9 ∧
          vp_in (M 324 x3.toNatClampNeg) 24 ∧
          ((¬ (M 294 ((M 324 x3.toNatClampNeg).toNatClampNeg)) = 0) →
            f_X12_allSit_b65 r18 K x1 x3 M) ∧
          (((M 294 ((M 324 x3.toNatClampNeg).toNatClampNeg)) = 0) →
            f_X12_allSit_b61 r18 K x1 x3 M)))))
def f_X12_allSit_b15 (K : Int32 → Mem → Prop) (x1 : Int32) (s0 : Int32) (M : Mem) : Prop :=
  Lp (fun (r18 : Int32 × Int32 × Int32 × Mem → Prop) a => f_X12_allSit_c18 K r18 a.1 a.2.1 a.2.2.1 a.2.2.2) (x1, s0, (0 : Int32), M)
def f_X12_allSit (a1 : Int32) (M : Mem) (K : Int32 → Mem → Prop) : Prop :=
  ((((1 : Int32) <<< ((M 287 48) &&& 31)) ≤ a1) →
    f_X12_allSit_b15 K a1 (0 : Int32) M) ∧
  ((¬ ((1 : Int32) <<< ((M 287 48) &&& 31)) ≤ a1) →
    f_X12_allSit_b15 K a1 (1 : Int32) M)
def f_X12_session_b8 (K : Int32 → Mem → Prop) (M : Mem) : Prop :=
  f_X12_refuse (-4 : Int32) M (fun v6 M6 =>
    K v6 M6)
def f_X12_session_b31 (K : Int32 → Mem → Prop) (M : Mem) : Prop :=
  f_X12_refuse (-3 : Int32) M (fun v7 M7 =>
    K v7 M7)
def f_X12_session_b118 (K : Int32 → Mem → Prop) (s0 : Int32) (s1 : Int32) (M : Mem) : Prop :=
  vp_in s1 30 ∧
  bz s0 ∧
  vp_in (M 287 52) 30 ∧
  K (((M 287 52) + (1 : Int32)) - (1 : Int32)) (mset (mset (mset M 328 s1.toNatClampNeg s0) 329 ((M 287 52).toNatClampNeg) (1000000 : Int32)) 287 52 ((M 287 52) + (1 : Int32)))
def f_X12_session_b117 (K : Int32 → Mem → Prop) (s0 : Int32) (M : Mem) : Prop :=
  f_X12_session_b118 K (0 : Int32) s0 M
def f_X12_session (a1 : Int32) (a2 : Int32) (M : Mem) (K : Int32 → Mem → Prop) : Prop :=
  ((a1 < 0) →
    f_X12_session_b8 K M) ∧
  ((¬ a1 < 0) →
    ((0 ≤ a2) →
      (((M 287 0) < a1) →
        f_X12_session_b31 K M) ∧
      ((¬ (M 287 0) < a1) →
        f_X12_allSit a2 M (fun v14 M14 =>
          ((¬ v14 = 0) →
            ((¬ (M14 287 52) = (30 : Int32)) →
              vp_in (M14 287 52) 30 ∧
              vp_in (M14 287 52) 30 ∧
              ((((M14 287 0) - a1) < (M14 325 0)) →
                f_X12_session_b117 K (M14 287 52) (mset (mset M14 326 ((M14 287 52).toNatClampNeg) (M14 287 0)) 327 ((M14 287 52).toNatClampNeg) a2)) ∧
              ((¬ ((M14 287 0) - a1) < (M14 325 0)) →
                f_X12_ones a2 (mset (mset M14 326 ((M14 287 52).toNatClampNeg) (M14 287 0)) 327 ((M14 287 52).toNatClampNeg) a2) (fun v20 M20 =>
                  ((((2 : Int32) * v20) ≤ (M20 287 48)) →
                    f_X12_session_b117 K (M14 287 52) M20) ∧
                  ((¬ ((2 : Int32) * v20) ≤ (M20 287 48)) →
                    f_X12_session_b118 K (1 : Int32) (M14 287 52) M20)))) ∧
            (((M14 287 52) = (30 : Int32)) →
              f_X12_refuse (-6 : Int32) M14 (fun v22 M22 =>
                K v22 M22))) ∧
          ((v14 = 0) →
            f_X12_session_b31 K M14)))) ∧
    ((¬ 0 ≤ a2) →
      f_X12_session_b8 K M))
def f_X12_vote_b70 (K : Int32 → Mem → Prop) (M : Mem) : Prop :=
  f_X12_refuse (-3 : Int32) M (fun v5 M5 =>
    K v5 M5)
def f_X12_vote_b122 (K : Int32 → Mem → Prop) (M : Mem) : Prop :=
  f_X12_refuse (-3 : Int32) M (fun v6 M6 =>
    K v6 M6)
def f_X12_vote_b166 (K : Int32 → Mem → Prop) (x1 : Int32) (s0 : Int32) (M : Mem) : Prop :=
  f_X12_tell x1 (3 : Int32) s0 ((M 287 52) - (1 : Int32)) M (fun M7 =>
    K s0 M7)
def f_X12_vote (a1 : Int32) (a2 : Int32) (a3 : Int32) (M : Mem) (K : Int32 → Mem → Prop) : Prop :=
  f_X12_isMatter a1 M (fun v8 M8 =>
    ((¬ v8 = 0) →
      (((M8 287 52) = 0) →
        f_X12_vote_b70 K M8) ∧
      ((¬ (M8 287 52) = 0) →
        vp_in ((M8 287 52) - (1 : Int32)) 30 ∧
        ((¬ (M8 326 (((M8 287 52) - (1 : Int32)).toNatClampNeg)) = (M8 287 0)) →
          f_X12_vote_b70 K M8) ∧
        (((M8 326 (((M8 287 52) - (1 : Int32)).toNatClampNeg)) = (M8 287 0)) →
          vp_in a1 40 ∧
          (((M8 311 a1.toNatClampNeg) < (2 : Int32)) →
            f_X12_vote_b70 K M8) ∧
          ((¬ (M8 311 a1.toNatClampNeg) < (2 : Int32)) →
            f_X12_stateOf a1 (M8 287 0) (M8 287 0) M8 (fun v15 M15 =>
              f_X12_in v15 (2 : Int32) (3 : Int32) M15 (fun v16 M16 =>
                ((¬ v16 = 0) →
                  vp_in ((M16 287 52) - (1 : Int32)) 30 ∧
                  ((a2 < 0) →
                    f_X12_vote_b122 K M16) ∧
                  ((¬ a2 < 0) →
                    ((a3 < 0) →
                      f_X12_vote_b122 K M16) ∧
                    ((¬ a3 < 0) →
                      ((¬ (a2 &&& ((M16 327 (((M16 287 52) - (1 : Int32)).toNatClampNeg)) ^^^ (-1 : Int32))) = 0) →
                        f_X12_vote_b122 K M16) ∧
                      (((a2 &&& ((M16 327 (((M16 287 52) - (1 : Int32)).toNatClampNeg)) ^^^ (-1 : Int32))) = 0) →
                        ((¬ (a3 &&& ((M16 327 (((M16 287 52) - (1 : Int32)).toNatClampNeg)) ^^^ (-1 : Int32))) = 0) →
                          f_X12_vote_b122 K M16) ∧
                        (((a3 &&& ((M16 327 (((M16 287 52) - (1 : Int32)).toNatClampNeg)) ^^^ (-1 : Int32))) = 0) →
                          (((a2 &&& a3) = 0) →
                            vp_in a1 40 ∧
                            ((¬ (M16 317 a1.toNatClampNeg) = (30 : Int32)) →
                              f_X12_ones a2 M16 (fun v26 M26 =>
                                f_X12_ones (M16 327 (((M16 287 52) - (1 : Int32)).toNatClampNeg)) M26 (fun v27 M27 =>
                                  ((((2 : Int32) * v26) ≤ v27) →
                                    f_X12_vote_b166 K a1 (0 : Int32) M27) ∧
                                  ((¬ ((2 : Int32) * v26) ≤ v27) →
                                    f_X12_vote_b166 K a1 (1 : Int32) M27)))) ∧
                            (((M16 317 a1.toNatClampNeg) = (30 : Int32)) →
                              f_X12_refuse (-6 : Int32) M16 (fun v29 M29 =>
                                K v29 M29))) ∧
                          ((¬ (a2 &&& a3) = 0) →
                            f_X12_vote_b122 K M16)))))) ∧
                ((v16 = 0) →
                  f_X12_vote_b70 K M16))))))) ∧
    ((v8 = 0) →
      f_X12_refuse (-1 : Int32) M8 (fun v30 M30 =>
        K v30 M30)))
def f_X12_isSession (a1 : Int32) (M : Mem) (K : Int32 → Mem → Prop) : Prop :=
  f_X12_in a1 (0 : Int32) ((M 287 52) - (1 : Int32)) M (fun v1 M1 =>
    bz v1 ∧ K v1 M1)
def f_X12_sessionOf_b96 (K : Int32 → Mem → Prop) (s0 : Int32) (M : Mem) : Prop :=
  K s0 M
def f_X12_sessionOf (a1 : Int32) (a2 : Int32) (M : Mem) (K : Int32 → Mem → Prop) : Prop :=
  f_X12_isSession a1 M (fun v5 M5 =>
    ((¬ v5 = 0) →
      f_X12_in a2 (0 : Int32) (3 : Int32) M5 (fun v7 M7 =>
        ((¬ v7 = 0) →
          ((¬ a2 = 0) →
            ((¬ a2 = (1 : Int32)) →
              ((¬ a2 = (2 : Int32)) →
                vp_in a1 30 ∧
                (((1000000 : Int32) ≤ (M7 329 a1.toNatClampNeg)) →
                  f_X12_sessionOf_b96 K (0 : Int32) M7) ∧
                ((¬ (1000000 : Int32) ≤ (M7 329 a1.toNatClampNeg)) →
                  f_X12_sessionOf_b96 K (1 : Int32) M7)) ∧
              ((a2 = (2 : Int32)) →
                vp_in a1 30 ∧
                (((M7 328 a1.toNatClampNeg) = 0) →
                  f_X12_sessionOf_b96 K (0 : Int32) M7) ∧
                ((¬ (M7 328 a1.toNatClampNeg) = 0) →
                  f_X12_sessionOf_b96 K (1 : Int32) M7))) ∧
            ((a2 = (1 : Int32)) →
              vp_in a1 30 ∧
              f_X12_sessionOf_b96 K (M7 327 a1.toNatClampNeg) M7)) ∧
          ((a2 = 0) →
            vp_in a1 30 ∧
            f_X12_sessionOf_b96 K (M7 326 a1.toNatClampNeg) M7)) ∧
        ((v7 = 0) →
          f_X12_refuse (-2 : Int32) M7 (fun v18 M18 =>
            K v18 M18)))) ∧
    ((v5 = 0) →
      f_X12_refuse (-1 : Int32) M5 (fun v19 M19 =>
        K v19 M19)))
def f_X12_voids_b35 (K : Int32 → Mem → Prop) (M : Mem) : Prop :=
  f_X12_refuse (-3 : Int32) M (fun v7 M7 =>
    K v7 M7)
def f_X12_voids_b114 (r56 : Int32 × Int32 × Int32 × Mem → Prop) (r70 : Int32 × Int32 × Int32 × Int32 × Mem → Prop) (K : Int32 → Mem → Prop) (x1 : Int32) (x3 : Int32) (x4 : Int32) (s0 : Int32) (s1 : Int32) (M : Mem) : Prop :=
  r70 (x1, (s1 + s0), x3, (x4 + (1 : Int32)), M)
def f_X12_voids_b113 (r56 : Int32 × Int32 × Int32 × Mem → Prop) (r70 : Int32 × Int32 × Int32 × Int32 × Mem → Prop) (K : Int32 → Mem → Prop) (x1 : Int32) (x3 : Int32) (x4 : Int32) (s0 : Int32) (M : Mem) : Prop :=
  f_X12_voids_b114 r56 r70 K x1 x3 x4 (0 : Int32) s0 M
def f_X12_voids_c70 (r56 : Int32 × Int32 × Int32 × Mem → Prop) (K : Int32 → Mem → Prop) (r70 : Int32 × Int32 × Int32 × Int32 × Mem → Prop) (x1 : Int32) (x2 : Int32) (x3 : Int32) (x4 : Int32) (M : Mem) : Prop :=
  vp_in x3 40 ∧
  (((((30 : Int32) * x3) + (M 317 x3.toNatClampNeg)) ≤ x4) →
    r56 (x1, x2, (x3 + (1 : Int32)), M)) ∧
  ((¬ (((30 : Int32) * x3) + (M 317 x3.toNatClampNeg)) ≤ x4) →
    vp_in x4 1200 ∧
    ((¬ (M 318 x4.toNatClampNeg) = (3 : Int32)) →
      f_X12_voids_b113 r56 r70 K x1 x3 x4 x2 M) ∧
    (((M 318 x4.toNatClampNeg) = (3 : Int32)) →
      vp_in x4 1200 ∧
      ((¬ (M 321 x4.toNatClampNeg) = x1) →
        f_X12_voids_b113 r56 r70 K x1 x3 x4 x2 M) ∧
      (((M 321 x4.toNatClampNeg) = x1) →
        f_X12_voids_b114 r56 r70 K x1 x3 x4 (1 : Int32) x2 M)))
def f_X12_voids_c56 (K : Int32 → Mem → Prop) (r56 : Int32 × Int32 × Int32 × Mem → Prop) (x1 : Int32) (x2 : Int32) (x3 : Int32) (M : Mem) : Prop :=
  (((M 287 32) ≤ x3) →
    K x2 M) ∧
  ((¬ (M 287 32) ≤ x3) →
    Lp (fun (r70 : Int32 × Int32 × Int32 × Int32 × Mem → Prop) a => f_X12_voids_c70 r56 K r70 a.1 a.2.1 a.2.2.1 a.2.2.2.1 a.2.2.2.2) (x1, x2, x3, ((30 : Int32) * x3), M))
def f_X12_voids (a1 : Int32) (M : Mem) (K : Int32 → Mem → Prop) : Prop :=
  f_X12_isSession a1 M (fun v15 M15 =>
    ((¬ v15 = 0) →
      vp_in a1 30 ∧
      ((¬ (M15 328 a1.toNatClampNeg) = 0) →
        f_X12_voids_b35 K M15) ∧
      (((M15 328 a1.toNatClampNeg) = 0) →
        vp_in a1 30 ∧
        (((1000000 : Int32) ≤ (M15 329 a1.toNatClampNeg)) →
          vp_in a1 30 ∧
          Lp (fun (r56 : Int32 × Int32 × Int32 × Mem → Prop) a => f_X12_voids_c56 K r56 a.1 a.2.1 a.2.2.1 a.2.2.2) (a1, (0 : Int32), (0 : Int32), (mset M15 329 a1.toNatClampNeg (M15 287 0)))) ∧
        ((¬ (1000000 : Int32) ≤ (M15 329 a1.toNatClampNeg)) →
          f_X12_voids_b35 K M15))) ∧
    ((v15 = 0) →
      f_X12_refuse (-1 : Int32) M15 (fun v22 M22 =>
        K v22 M22)))
def f_X12_set_b80 (K : Int32 → Mem → Prop) (x1 : Int32) (x2 : Int32) (s0 : Int32) (s1 : Int32) (M : Mem) : Prop :=
  ((s1 ≤ s0) →
    vp_in x1 5 ∧
    vp_in x1 5 ∧
    K (M 325 x1.toNatClampNeg) (mset (mset M 325 x1.toNatClampNeg x2) 287 89 (-1 : Int32))) ∧
  ((¬ s1 ≤ s0) →
    f_X12_refuse (-6 : Int32) M (fun v6 M6 =>
      K v6 M6))
def f_X12_set_b27 (K : Int32 → Mem → Prop) (x1 : Int32) (x2 : Int32) (s0 : Int32) (s1 : Int32) (M : Mem) : Prop :=
  ((s0 ≤ s1) →
    ((¬ x1 = 0) →
      ((¬ x1 = (1 : Int32)) →
        ((¬ x1 = (2 : Int32)) →
          ((¬ x1 = (3 : Int32)) →
            f_X12_set_b80 K x1 x2 (4 : Int32) x2 M) ∧
          ((x1 = (3 : Int32)) →
            f_X12_set_b80 K x1 x2 (9 : Int32) x2 M)) ∧
        ((x1 = (2 : Int32)) →
          f_X12_set_b80 K x1 x2 (1000 : Int32) x2 M)) ∧
      ((x1 = (1 : Int32)) →
        f_X12_set_b80 K x1 x2 (200 : Int32) x2 M)) ∧
    ((x1 = 0) →
      f_X12_set_b80 K x1 x2 (20 : Int32) x2 M)) ∧
  ((¬ s0 ≤ s1) →
    f_X12_refuse (-4 : Int32) M (fun v12 M12 =>
      K v12 M12))
def f_X12_set (a1 : Int32) (a2 : Int32) (M : Mem) (K : Int32 → Mem → Prop) : Prop :=
  f_X12_in a1 (0 : Int32) (4 : Int32) M (fun v13 M13 =>
    ((¬ v13 = 0) →
      ((¬ a1 = (3 : Int32)) →
        f_X12_set_b27 K a1 a2 (0 : Int32) a2 M13) ∧
      ((a1 = (3 : Int32)) →
        f_X12_set_b27 K a1 a2 (3 : Int32) a2 M13)) ∧
    ((v13 = 0) →
      f_X12_refuse (-2 : Int32) M13 (fun v16 M16 =>
        K v16 M16)))
def f_X12_agrees_b33 (K : Int32 → Mem → Prop) (s0 : Int32) (M : Mem) : Prop :=
  bz s0 ∧ K s0 M
def f_X12_agrees_b28 (K : Int32 → Mem → Prop) (M : Mem) : Prop :=
  f_X12_agrees_b33 K (1 : Int32) M
def f_X12_agrees (a1 : Int32) (a2 : Int32) (M : Mem) (K : Int32 → Mem → Prop) : Prop :=
  f_X12_stateOf a1 a2 (M 287 0) M (fun v2 M2 =>
    ((v2 = (4 : Int32)) →
      f_X12_agrees_b28 K M2) ∧
    ((¬ v2 = (4 : Int32)) →
      ((v2 = (6 : Int32)) →
        f_X12_agrees_b28 K M2) ∧
      ((¬ v2 = (6 : Int32)) →
        ((¬ v2 = (8 : Int32)) →
          f_X12_agrees_b33 K (0 : Int32) M2) ∧
        ((v2 = (8 : Int32)) →
          f_X12_agrees_b28 K M2))))
def f_X12_agree_b50 (r20 : Int32 × Int32 × Int32 × Int32 × Int32 × Int32 × Mem → Prop) (K : Int32 → Mem → Prop) (x1 : Int32) (x2 : Int32) (x3 : Int32) (x4 : Int32) (x6 : Int32) (s0 : Int32) (M : Mem) : Prop :=
  r20 (x1, x2, x3, x4, s0, (x6 + (1 : Int32)), M)
def f_X12_agree_b45 (r20 : Int32 × Int32 × Int32 × Int32 × Int32 × Int32 × Mem → Prop) (K : Int32 → Mem → Prop) (x1 : Int32) (x2 : Int32) (x3 : Int32) (x4 : Int32) (x6 : Int32) (M : Mem) : Prop :=
  f_X12_agree_b50 r20 K x1 x2 x3 x4 x6 (1 : Int32) M
def f_X12_agree_b85 (K : Int32 → Mem → Prop) (M : Mem) : Prop :=
  f_X12_refuse (-3 : Int32) M (fun v8 M8 =>
    K v8 M8)
def f_X12_agree_b116 (K : Int32 → Mem → Prop) (M : Mem) : Prop :=
  f_X12_refuse (-4 : Int32) M (fun v9 M9 =>
    K v9 M9)
def f_X12_agree_b154 (K : Int32 → Mem → Prop) (M : Mem) : Prop :=
  f_X12_refuse (-6 : Int32) M (fun v10 M10 =>
    K v10 M10)
def f_X12_agree_b213 (K : Int32 → Mem → Prop) (s0 : Int32) (s1 : Int32) (M : Mem) : Prop :=
  vp_in s1 30 ∧
  vp_in (M 287 57) 30 ∧
  K (((M 287 57) + (1 : Int32)) - (1 : Int32)) (mset (mset (mset M 333 s1.toNatClampNeg s0) 334 ((M 287 57).toNatClampNeg) (M 287 0)) 287 57 ((M 287 57) + (1 : Int32)))
def f_X12_agree_b123 (K : Int32 → Mem → Prop) (x1 : Int32) (x2 : Int32) (x3 : Int32) (x4 : Int32) (M : Mem) : Prop :=
  (((9999 : Int32) < x2) →
    f_X12_agree_b154 K M) ∧
  ((¬ (9999 : Int32) < x2) →
    (((1000 : Int32) < x3) →
      f_X12_agree_b154 K M) ∧
    ((¬ (1000 : Int32) < x3) →
      (((1000 : Int32) < x4) →
        f_X12_agree_b154 K M) ∧
      ((¬ (1000 : Int32) < x4) →
        ((¬ (M 287 57) = (30 : Int32)) →
          vp_in (M 287 57) 30 ∧
          vp_in (M 287 57) 30 ∧
          vp_in (M 287 57) 30 ∧
          ((¬ x4 = (-1 : Int32)) →
            f_X12_agree_b213 K x4 (M 287 57) (mset (mset (mset M 330 ((M 287 57).toNatClampNeg) x1) 331 ((M 287 57).toNatClampNeg) x2) 332 ((M 287 57).toNatClampNeg) x3)) ∧
          ((x4 = (-1 : Int32)) →
            f_X12_agree_b213 K (1000000 : Int32) (M 287 57) (mset (mset (mset M 330 ((M 287 57).toNatClampNeg) x1) 331 ((M 287 57).toNatClampNeg) x2) 332 ((M 287 57).toNatClampNeg) x3))) ∧
        (((M 287 57) = (30 : Int32)) →
          f_X12_agree_b154 K M))))
def f_X12_agree_c20 (K : Int32 → Mem → Prop) (r20 : Int32 × Int32 × Int32 × Int32 × Int32 × Int32 × Mem → Prop) (x1 : Int32) (x2 : Int32) (x3 : Int32) (x4 : Int32) (x5 : Int32) (x6 : Int32) (M : Mem) : Prop :=
  (((M 287 57) ≤ x6) →
    vp_in x1 40 ∧
    ((¬ (M 311 x1.toNatClampNeg) = (3 : Int32)) →
      f_X12_agree_b85 K M) ∧
    (((M 311 x1.toNatClampNeg) = (3 : Int32)) →
      f_X12_agrees x1 (M 287 0) M (fun v24 M24 =>
        ((v24 = 0) →
          f_X12_agree_b85 K M24) ∧
        ((¬ v24 = 0) →
          ((x5 = 0) →
            ((x2 < 0) →
              f_X12_agree_b116 K M24) ∧
            ((¬ x2 < 0) →
              ((x3 < (M24 287 0)) →
                f_X12_agree_b116 K M24) ∧
              ((¬ x3 < (M24 287 0)) →
                ((x4 = (-1 : Int32)) →
                  f_X12_agree_b123 K x1 x2 x3 x4 M24) ∧
                ((¬ x4 = (-1 : Int32)) →
                  ((x3 ≤ x4) →
                    f_X12_agree_b123 K x1 x2 x3 x4 M24) ∧
                  ((¬ x3 ≤ x4) →
                    f_X12_agree_b116 K M24))))) ∧
          ((¬ x5 = 0) →
            f_X12_agree_b85 K M24))))) ∧
  ((¬ (M 287 57) ≤ x6) →
    ((¬ x5 = 0) →
      f_X12_agree_b45 r20 K x1 x2 x3 x4 x6 M) ∧
    ((x5 = 0) →
      vp_in x6 30 ∧
      ((¬ (M 330 x6.toNatClampNeg) = x1) →
        f_X12_agree_b50 r20 K x1 x2 x3 x4 x6 (0 : Int32) M) ∧
      (((M 330 x6.toNatClampNeg) = x1) →
        f_X12_agree_b45 r20 K x1 x2 x3 x4 x6 M)))
def f_X12_agree (a1 : Int32) (a2 : Int32) (a3 : Int32) (a4 : Int32) (M : Mem) (K : Int32 → Mem → Prop) : Prop :=
  f_X12_isMatter a1 M (fun v34 M34 =>
    ((¬ v34 = 0) →
      Lp (fun (r20 : Int32 × Int32 × Int32 × Int32 × Int32 × Int32 × Mem → Prop) a => f_X12_agree_c20 K r20 a.1 a.2.1 a.2.2.1 a.2.2.2.1 a.2.2.2.2.1 a.2.2.2.2.2.1 a.2.2.2.2.2.2) (a1, a2, a3, a4, (0 : Int32), (0 : Int32), M34)) ∧
    ((v34 = 0) →
      f_X12_refuse (-1 : Int32) M34 (fun v36 M36 =>
        K v36 M36)))
def f_X12_holdsNow (a1 : Int32) (M : Mem) (K : Int32 → Mem → Prop) : Prop :=
  vp_in a1 30 ∧
  vp_in a1 30 ∧
  f_X12_agrees (M 330 a1.toNatClampNeg) (M 334 a1.toNatClampNeg) M (fun v5 M5 =>
    bz v5 ∧ K v5 M5)
def f_X12_isAgreement (a1 : Int32) (M : Mem) (K : Int32 → Mem → Prop) : Prop :=
  f_X12_in a1 (0 : Int32) ((M 287 57) - (1 : Int32)) M (fun v1 M1 =>
    bz v1 ∧ K v1 M1)
def f_X12_cancel_b82 (K : Int32 → Mem → Prop) (x1 : Int32) (s0 : Int32) (s1 : Int32) (M : Mem) : Prop :=
  vp_in s1 30 ∧
  vp_in x1 30 ∧
  K ((mset M 333 s1.toNatClampNeg s0) 333 x1.toNatClampNeg) (mset M 333 s1.toNatClampNeg s0)
def f_X12_cancel (a1 : Int32) (M : Mem) (K : Int32 → Mem → Prop) : Prop :=
  f_X12_isAgreement a1 M (fun v9 M9 =>
    ((¬ v9 = 0) →
      vp_in a1 30 ∧
      (((M9 335 a1.toNatClampNeg) = 0) →
        vp_in a1 30 ∧
        vp_in a1 30 ∧
        ((((M9 287 0) + (M9 325 1)) ≤ (M9 333 a1.toNatClampNeg)) →
          f_X12_cancel_b82 K a1 ((M9 287 0) + (M9 325 1)) a1 (mset M9 335 a1.toNatClampNeg (1 : Int32))) ∧
        ((¬ ((M9 287 0) + (M9 325 1)) ≤ (M9 333 a1.toNatClampNeg)) →
          vp_in a1 30 ∧
          f_X12_cancel_b82 K a1 (M9 333 a1.toNatClampNeg) a1 (mset M9 335 a1.toNatClampNeg (1 : Int32)))) ∧
      ((¬ (M9 335 a1.toNatClampNeg) = 0) →
        f_X12_refuse (-3 : Int32) M9 (fun v17 M17 =>
          K v17 M17))) ∧
    ((v9 = 0) →
      f_X12_refuse (-1 : Int32) M9 (fun v18 M18 =>
        K v18 M18)))
def f_X12_agreementOf_b98 (K : Int32 → Mem → Prop) (s0 : Int32) (M : Mem) : Prop :=
  K s0 M
def f_X12_agreementOf (a1 : Int32) (a2 : Int32) (M : Mem) (K : Int32 → Mem → Prop) : Prop :=
  f_X12_isAgreement a1 M (fun v5 M5 =>
    ((¬ v5 = 0) →
      f_X12_in a2 (0 : Int32) (4 : Int32) M5 (fun v7 M7 =>
        ((¬ v7 = 0) →
          ((¬ a2 = 0) →
            ((¬ a2 = (1 : Int32)) →
              ((¬ a2 = (2 : Int32)) →
                ((¬ a2 = (3 : Int32)) →
                  f_X12_holdsNow a1 M7 (fun v13 M13 =>
                    ((v13 = 0) →
                      f_X12_agreementOf_b98 K (0 : Int32) M13) ∧
                    ((¬ v13 = 0) →
                      f_X12_agreementOf_b98 K (1 : Int32) M13))) ∧
                ((a2 = (3 : Int32)) →
                  vp_in a1 30 ∧
                  f_X12_agreementOf_b98 K (M7 333 a1.toNatClampNeg) M7)) ∧
              ((a2 = (2 : Int32)) →
                vp_in a1 30 ∧
                f_X12_agreementOf_b98 K (M7 332 a1.toNatClampNeg) M7)) ∧
            ((a2 = (1 : Int32)) →
              vp_in a1 30 ∧
              f_X12_agreementOf_b98 K (M7 331 a1.toNatClampNeg) M7)) ∧
          ((a2 = 0) →
            vp_in a1 30 ∧
            f_X12_agreementOf_b98 K (M7 330 a1.toNatClampNeg) M7)) ∧
        ((v7 = 0) →
          f_X12_refuse (-2 : Int32) M7 (fun v19 M19 =>
            K v19 M19)))) ∧
    ((v5 = 0) →
      f_X12_refuse (-1 : Int32) M5 (fun v20 M20 =>
        K v20 M20)))
def f_X12_contract_b16 (K : Int32 → Mem → Prop) (M : Mem) : Prop :=
  f_X12_refuseFar (-2 : Int32) M (fun v4 M4 =>
    K v4 M4)
def f_X12_contract (a1 : Int32) (a2 : Int32) (a3 : Int32) (M : Mem) (K : Int32 → Mem → Prop) : Prop :=
  f_X12_isWhat a1 M (fun v5 M5 =>
    ((v5 = 0) →
      f_X12_contract_b16 K M5) ∧
    ((¬ v5 = 0) →
      f_X12_in a3 (0 : Int32) (2 : Int32) M5 (fun v7 M7 =>
        ((¬ v7 = 0) →
          (((-1 : Int32) ≤ a2) →
            ((a2 ≤ (9999 : Int32)) →
              vp_in a1 8 ∧
              vp_in a1 8 ∧
              vp_in a1 8 ∧
              K (M7 336 a1.toNatClampNeg) (mset (mset M7 336 a1.toNatClampNeg a2) 337 a1.toNatClampNeg a3)) ∧
            ((¬ a2 ≤ (9999 : Int32)) →
              f_X12_refuseFar (-6 : Int32) M7 (fun v14 M14 =>
                K v14 M14))) ∧
          ((¬ (-1 : Int32) ≤ a2) →
            f_X12_refuseFar (-4 : Int32) M7 (fun v15 M15 =>
              K v15 M15))) ∧
        ((v7 = 0) →
          f_X12_contract_b16 K M7))))
def f_X12_after_b38 (K : Int32 → Mem → Prop) (s0 : Int32) (M : Mem) : Prop :=
  K s0 M
def f_X12_after (a1 : Int32) (a2 : Int32) (M : Mem) (K : Int32 → Mem → Prop) : Prop :=
  f_X12_isWhat a1 M (fun v4 M4 =>
    ((¬ v4 = 0) →
      vp_in a1 8 ∧
      vp_in a1 8 ∧
      bz a2 ∧
      ((¬ (M4 338 a1.toNatClampNeg) = a2) →
        f_X12_after_b38 K (1 : Int32) (mset M4 338 a1.toNatClampNeg a2)) ∧
      (((M4 338 a1.toNatClampNeg) = a2) →
        f_X12_after_b38 K (0 : Int32) (mset M4 338 a1.toNatClampNeg a2))) ∧
    ((v4 = 0) →
      f_X12_refuse (-2 : Int32) M4 (fun v10 M10 =>
        K v10 M10)))
def f_X12_agreementFor_b198 (r9 : Int32 × Int32 × Int32 × Int32 × Int32 × Int32 × Mem → Prop) (K : Int32 → Mem → Prop) (x1 : Int32) (x2 : Int32) (x3 : Int32) (x4 : Int32) (x5 : Int32) (x6 : Int32) (M : Mem) : Prop :=
  r9 (x1, x2, x3, x4, x5, (x6 + (1 : Int32)), M)
def f_X12_agreementFor_b196 (r9 : Int32 × Int32 × Int32 × Int32 × Int32 × Int32 × Mem → Prop) (K : Int32 → Mem → Prop) (x1 : Int32) (x2 : Int32) (x3 : Int32) (x4 : Int32) (x6 : Int32) (s0 : Int32) (M : Mem) : Prop :=
  f_X12_agreementFor_b198 r9 K x1 x2 x3 x4 s0 x6 M
def f_X12_agreementFor_b189 (r9 : Int32 × Int32 × Int32 × Int32 × Int32 × Int32 × Mem → Prop) (K : Int32 → Mem → Prop) (x1 : Int32) (x2 : Int32) (x3 : Int32) (x4 : Int32) (x6 : Int32) (M : Mem) : Prop :=
  f_X12_agreementFor_b196 r9 K x1 x2 x3 x4 x6 x6 M
def f_X12_agreementFor_b194 (r9 : Int32 × Int32 × Int32 × Int32 × Int32 × Int32 × Mem → Prop) (K : Int32 → Mem → Prop) (x1 : Int32) (x2 : Int32) (x3 : Int32) (x4 : Int32) (x5 : Int32) (x6 : Int32) (M : Mem) : Prop :=
  f_X12_agreementFor_b196 r9 K x1 x2 x3 x4 x6 x5 M
def f_X12_agreementFor_b160 (r9 : Int32 × Int32 × Int32 × Int32 × Int32 × Int32 × Mem → Prop) (K : Int32 → Mem → Prop) (x1 : Int32) (x2 : Int32) (x3 : Int32) (x4 : Int32) (x5 : Int32) (x6 : Int32) (s0 : Int32) (M : Mem) : Prop :=
  ((s0 = 0) →
    f_X12_agreementFor_b194 r9 K x1 x2 x3 x4 x5 x6 M) ∧
  ((¬ s0 = 0) →
    ((x5 < 0) →
      f_X12_agreementFor_b189 r9 K x1 x2 x3 x4 x6 M) ∧
    ((¬ x5 < 0) →
      vp_in x6 30 ∧
      vp_in x5 30 ∧
      (((M 333 x6.toNatClampNeg) < (M 333 x5.toNatClampNeg)) →
        f_X12_agreementFor_b194 r9 K x1 x2 x3 x4 x5 x6 M) ∧
      ((¬ (M 333 x6.toNatClampNeg) < (M 333 x5.toNatClampNeg)) →
        f_X12_agreementFor_b189 r9 K x1 x2 x3 x4 x6 M)))
def f_X12_agreementFor_b159 (r9 : Int32 × Int32 × Int32 × Int32 × Int32 × Int32 × Mem → Prop) (K : Int32 → Mem → Prop) (x1 : Int32) (x2 : Int32) (x3 : Int32) (x4 : Int32) (x5 : Int32) (x6 : Int32) (M : Mem) : Prop :=
  f_X12_agreementFor_b160 r9 K x1 x2 x3 x4 x5 x6 (0 : Int32) M
def f_X12_agreementFor_b125 (r9 : Int32 × Int32 × Int32 × Int32 × Int32 × Int32 × Mem → Prop) (K : Int32 → Mem → Prop) (x1 : Int32) (x2 : Int32) (x3 : Int32) (x5 : Int32) (x6 : Int32) (s0 : Int32) (M : Mem) : Prop :=
  vp_in x6 30 ∧
  vp_in x6 30 ∧
  (((M 333 x6.toNatClampNeg) < (M 332 x6.toNatClampNeg)) →
    f_X12_agreementFor_b159 r9 K x1 x2 x3 s0 x5 x6 M) ∧
  ((¬ (M 333 x6.toNatClampNeg) < (M 332 x6.toNatClampNeg)) →
    vp_in x6 30 ∧
    ((x3 ≤ (M 333 x6.toNatClampNeg)) →
      f_X12_agreementFor_b159 r9 K x1 x2 x3 s0 x5 x6 M) ∧
    ((¬ x3 ≤ (M 333 x6.toNatClampNeg)) →
      f_X12_agreementFor_b160 r9 K x1 x2 x3 s0 x5 x6 (1 : Int32) M))
def f_X12_agreementFor_b118 (r9 : Int32 × Int32 × Int32 × Int32 × Int32 × Int32 × Mem → Prop) (K : Int32 → Mem → Prop) (x1 : Int32) (x2 : Int32) (x3 : Int32) (x5 : Int32) (x6 : Int32) (M : Mem) : Prop :=
  f_X12_agreementFor_b125 r9 K x1 x2 x3 x5 x6 x6 M
def f_X12_agreementFor_b123 (r9 : Int32 × Int32 × Int32 × Int32 × Int32 × Int32 × Mem → Prop) (K : Int32 → Mem → Prop) (x1 : Int32) (x2 : Int32) (x3 : Int32) (x4 : Int32) (x5 : Int32) (x6 : Int32) (M : Mem) : Prop :=
  f_X12_agreementFor_b125 r9 K x1 x2 x3 x5 x6 x4 M
def f_X12_agreementFor_b89 (r9 : Int32 × Int32 × Int32 × Int32 × Int32 × Int32 × Mem → Prop) (K : Int32 → Mem → Prop) (x1 : Int32) (x2 : Int32) (x3 : Int32) (x4 : Int32) (x5 : Int32) (x6 : Int32) (s0 : Int32) (M : Mem) : Prop :=
  ((s0 = 0) →
    f_X12_agreementFor_b123 r9 K x1 x2 x3 x4 x5 x6 M) ∧
  ((¬ s0 = 0) →
    ((x4 < 0) →
      f_X12_agreementFor_b118 r9 K x1 x2 x3 x5 x6 M) ∧
    ((¬ x4 < 0) →
      vp_in x6 30 ∧
      vp_in x4 30 ∧
      (((M 332 x6.toNatClampNeg) < (M 332 x4.toNatClampNeg)) →
        f_X12_agreementFor_b123 r9 K x1 x2 x3 x4 x5 x6 M) ∧
      ((¬ (M 332 x6.toNatClampNeg) < (M 332 x4.toNatClampNeg)) →
        f_X12_agreementFor_b118 r9 K x1 x2 x3 x5 x6 M)))
def f_X12_agreementFor_b88 (r9 : Int32 × Int32 × Int32 × Int32 × Int32 × Int32 × Mem → Prop) (K : Int32 → Mem → Prop) (x1 : Int32) (x2 : Int32) (x3 : Int32) (x4 : Int32) (x5 : Int32) (x6 : Int32) (M : Mem) : Prop :=
  f_X12_agreementFor_b89 r9 K x1 x2 x3 x4 x5 x6 (0 : Int32) M
def f_X12_agreementFor_b229 (K : Int32 → Mem → Prop) (s0 : Int32) (M : Mem) : Prop :=
  K s0 M
def f_X12_agreementFor_c9 (K : Int32 → Mem → Prop) (r9 : Int32 × Int32 × Int32 × Int32 × Int32 × Int32 × Mem → Prop) (x1 : Int32) (x2 : Int32) (x3 : Int32) (x4 : Int32) (x5 : Int32) (x6 : Int32) (M : Mem) : Prop :=
  (((M 287 57) ≤ x6) →
    ((x4 < 0) →
      vp_in x2 8 ∧
      (((M 338 x2.toNatClampNeg) = 0) →
        f_X12_agreementFor_b229 K (-1 : Int32) M) ∧
      ((¬ (M 338 x2.toNatClampNeg) = 0) →
        f_X12_agreementFor_b229 K x5 M)) ∧
    ((¬ x4 < 0) →
      f_X12_agreementFor_b229 K x4 M)) ∧
  ((¬ (M 287 57) ≤ x6) →
    vp_in x6 30 ∧
    vp_in (M 330 x6.toNatClampNeg) 40 ∧
    ((¬ (M 308 ((M 330 x6.toNatClampNeg).toNatClampNeg)) = x2) →
      f_X12_agreementFor_b198 r9 K x1 x2 x3 x4 x5 x6 M) ∧
    (((M 308 ((M 330 x6.toNatClampNeg).toNatClampNeg)) = x2) →
      vp_in (M 330 x6.toNatClampNeg) 40 ∧
      ((¬ (((M 309 ((M 330 x6.toNatClampNeg).toNatClampNeg)) >>> (x1 &&& 31)) &&& (1 : Int32)) = (1 : Int32)) →
        f_X12_agreementFor_b198 r9 K x1 x2 x3 x4 x5 x6 M) ∧
      (((((M 309 ((M 330 x6.toNatClampNeg).toNatClampNeg)) >>> (x1 &&& 31)) &&& (1 : Int32)) = (1 : Int32)) →
        f_X12_holdsNow x6 M (fun v38 M38 =>
          ((v38 = 0) →
            f_X12_agreementFor_b198 r9 K x1 x2 x3 x4 x5 x6 M38) ∧
          ((¬ v38 = 0) →
            vp_in x6 30 ∧
            ((x3 < (M38 332 x6.toNatClampNeg)) →
              f_X12_agreementFor_b88 r9 K x1 x2 x3 x4 x5 x6 M38) ∧
            ((¬ x3 < (M38 332 x6.toNatClampNeg)) →
              vp_in x6 30 ∧
              (((M38 333 x6.toNatClampNeg) < x3) →
                f_X12_agreementFor_b88 r9 K x1 x2 x3 x4 x5 x6 M38) ∧
              ((¬ (M38 333 x6.toNatClampNeg) < x3) →
                f_X12_agreementFor_b89 r9 K x1 x2 x3 x4 x5 x6 (1 : Int32) M38)))))))
def f_X12_agreementFor (a1 : Int32) (a2 : Int32) (a3 : Int32) (M : Mem) (K : Int32 → Mem → Prop) : Prop :=
  Lp (fun (r9 : Int32 × Int32 × Int32 × Int32 × Int32 × Int32 × Mem → Prop) a => f_X12_agreementFor_c9 K r9 a.1 a.2.1 a.2.2.1 a.2.2.2.1 a.2.2.2.2.1 a.2.2.2.2.2.1 a.2.2.2.2.2.2) (a1, a2, a3, (-1 : Int32), (-1 : Int32), (0 : Int32), M)
def f_X12_worth_b30 (K : Int32 → Mem → Prop) (M : Mem) : Prop :=
  f_X12_refuse (-2 : Int32) M (fun v7 M7 =>
    K v7 M7)
def f_X12_worth_b89 (K : Int32 → Mem → Prop) (s0 : Int32) (M : Mem) : Prop :=
  K s0 M
def f_X12_worth_b120 (K : Int32 → Mem → Prop) (s0 : Int32) (M : Mem) : Prop :=
  K s0 M
def f_X12_worth_b135 (K : Int32 → Mem → Prop) (x6 : Int32) (M : Mem) : Prop :=
  K x6 M
def f_X12_worth_b172 (K : Int32 → Mem → Prop) (s0 : Int32) (M : Mem) : Prop :=
  K s0 M
def f_X12_worth_b160 (K : Int32 → Mem → Prop) (x5 : Int32) (M : Mem) : Prop :=
  vp_in x5 30 ∧
  f_X12_worth_b172 K (M 331 x5.toNatClampNeg) M
def f_X12_worth (a1 : Int32) (a2 : Int32) (a3 : Int32) (a4 : Int32) (M : Mem) (K : Int32 → Mem → Prop) : Prop :=
  f_X12_isShop a1 M (fun v9 M9 =>
    ((¬ v9 = 0) →
      f_X12_isWhat a2 M9 (fun v11 M11 =>
        ((v11 = 0) →
          f_X12_worth_b30 K M11) ∧
        ((¬ v11 = 0) →
          f_X12_in a4 (0 : Int32) (1 : Int32) M11 (fun v13 M13 =>
            ((¬ v13 = 0) →
              ((0 ≤ a3) →
                ((a3 ≤ (1000 : Int32)) →
                  f_X12_agreementFor a1 a2 a3 M13 (fun v17 M17 =>
                    ((¬ a4 = (1 : Int32)) →
                      vp_in a2 8 ∧
                      ((0 ≤ (M17 336 a2.toNatClampNeg)) →
                        ((v17 < 0) →
                          f_X12_worth_b135 K (M17 336 a2.toNatClampNeg) M17) ∧
                        ((¬ v17 < 0) →
                          vp_in a2 8 ∧
                          ((¬ (M17 337 a2.toNatClampNeg) = 0) →
                            vp_in a2 8 ∧
                            (((M17 337 a2.toNatClampNeg) = (2 : Int32)) →
                              f_X12_worth_b160 K v17 M17) ∧
                            ((¬ (M17 337 a2.toNatClampNeg) = (2 : Int32)) →
                              vp_in v17 30 ∧
                              (((M17 331 v17.toNatClampNeg) ≤ (M17 336 a2.toNatClampNeg)) →
                                f_X12_worth_b172 K (M17 336 a2.toNatClampNeg) M17) ∧
                              ((¬ (M17 331 v17.toNatClampNeg) ≤ (M17 336 a2.toNatClampNeg)) →
                                f_X12_worth_b160 K v17 M17))) ∧
                          (((M17 337 a2.toNatClampNeg) = 0) →
                            f_X12_worth_b135 K (M17 336 a2.toNatClampNeg) M17))) ∧
                      ((¬ 0 ≤ (M17 336 a2.toNatClampNeg)) →
                        ((0 ≤ v17) →
                          vp_in v17 30 ∧
                          f_X12_worth_b120 K (M17 331 v17.toNatClampNeg) M17) ∧
                        ((¬ 0 ≤ v17) →
                          f_X12_worth_b120 K (-9 : Int32) M17))) ∧
                    ((a4 = (1 : Int32)) →
                      ((0 ≤ v17) →
                        f_X12_worth_b89 K v17 M17) ∧
                      ((¬ 0 ≤ v17) →
                        f_X12_worth_b89 K (-9 : Int32) M17)))) ∧
                ((¬ a3 ≤ (1000 : Int32)) →
                  f_X12_refuse (-6 : Int32) M13 (fun v31 M31 =>
                    K v31 M31))) ∧
              ((¬ 0 ≤ a3) →
                f_X12_refuse (-4 : Int32) M13 (fun v32 M32 =>
                  K v32 M32))) ∧
            ((v13 = 0) →
              f_X12_worth_b30 K M13))))) ∧
    ((v9 = 0) →
      f_X12_refuse (-1 : Int32) M9 (fun v33 M33 =>
        K v33 M33)))
def f_X12_board_b52 (K : Int32 → Mem → Prop) (M : Mem) : Prop :=
  f_X12_refuse (-3 : Int32) M (fun v3 M3 =>
    K v3 M3)
def f_X12_board_b67 (K : Int32 → Mem → Prop) (M : Mem) : Prop :=
  f_X12_refuse (-4 : Int32) M (fun v4 M4 =>
    K v4 M4)
def f_X12_board_b95 (K : Int32 → Mem → Prop) (M : Mem) : Prop :=
  f_X12_refuse (-6 : Int32) M (fun v5 M5 =>
    K v5 M5)
def f_X12_board_b125 (K : Int32 → Mem → Prop) (x1 : Int32) (s0 : Int32) (M : Mem) : Prop :=
  f_X12_tell x1 (4 : Int32) s0 (0 : Int32) M (fun M6 =>
    K s0 M6)
def f_X12_board_b115 (K : Int32 → Mem → Prop) (x1 : Int32) (s0 : Int32) (s1 : Int32) (M : Mem) : Prop :=
  (((s1 + s0) < (3 : Int32)) →
    f_X12_board_b125 K x1 (0 : Int32) M) ∧
  ((¬ (s1 + s0) < (3 : Int32)) →
    f_X12_board_b125 K x1 (1 : Int32) M)
def f_X12_board_b59 (K : Int32 → Mem → Prop) (x1 : Int32) (x2 : Int32) (x3 : Int32) (x4 : Int32) (M : Mem) : Prop :=
  ((x2 < 0) →
    f_X12_board_b67 K M) ∧
  ((¬ x2 < 0) →
    ((0 ≤ x3) →
      (((2 : Int32) < x2) →
        f_X12_board_b95 K M) ∧
      ((¬ (2 : Int32) < x2) →
        (((2 : Int32) < x3) →
          f_X12_board_b95 K M) ∧
        ((¬ (2 : Int32) < x3) →
          vp_in x1 40 ∧
          ((¬ (M 317 x1.toNatClampNeg) = (30 : Int32)) →
            ((x4 = 0) →
              f_X12_board_b115 K x1 (0 : Int32) (x2 + x3) M) ∧
            ((¬ x4 = 0) →
              f_X12_board_b115 K x1 (1 : Int32) (x2 + x3) M)) ∧
          (((M 317 x1.toNatClampNeg) = (30 : Int32)) →
            f_X12_board_b95 K M)))) ∧
    ((¬ 0 ≤ x3) →
      f_X12_board_b67 K M))
def f_X12_board (a1 : Int32) (a2 : Int32) (a3 : Int32) (a4 : Int32) (M : Mem) (K : Int32 → Mem → Prop) : Prop :=
  f_X12_isMatter a1 M (fun v15 M15 =>
    ((¬ v15 = 0) →
      f_X12_stateOf a1 (M15 287 0) (M15 287 0) M15 (fun v17 M17 =>
        vp_in a1 40 ∧
        (((M17 311 a1.toNatClampNeg) < (3 : Int32)) →
          f_X12_board_b52 K M17) ∧
        ((¬ (M17 311 a1.toNatClampNeg) < (3 : Int32)) →
          ((v17 = (5 : Int32)) →
            f_X12_board_b59 K a1 a2 a3 a4 M17) ∧
          ((¬ v17 = (5 : Int32)) →
            ((v17 = (7 : Int32)) →
              f_X12_board_b59 K a1 a2 a3 a4 M17) ∧
            ((¬ v17 = (7 : Int32)) →
              f_X12_board_b52 K M17))))) ∧
    ((v15 = 0) →
      f_X12_refuse (-1 : Int32) M15 (fun v22 M22 =>
        K v22 M22)))
def f_X12_court (a1 : Int32) (M : Mem) (K : Int32 → Mem → Prop) : Prop :=
  f_X12_isMatter a1 M (fun v2 M2 =>
    ((¬ v2 = 0) →
      f_X12_ruling a1 (M2 287 0) (M2 287 0) M2 (fun v4 M4 =>
        ((0 ≤ v4) →
          vp_in a1 40 ∧
          ((¬ (M4 317 a1.toNatClampNeg) = (30 : Int32)) →
            f_X12_tell a1 (5 : Int32) (-1 : Int32) (0 : Int32) M4 (fun M8 =>
              K (1 : Int32) M8)) ∧
          (((M4 317 a1.toNatClampNeg) = (30 : Int32)) →
            f_X12_refuse (-6 : Int32) M4 (fun v9 M9 =>
              K v9 M9))) ∧
        ((¬ 0 ≤ v4) →
          f_X12_refuse (-3 : Int32) M4 (fun v10 M10 =>
            K v10 M10)))) ∧
    ((v2 = 0) →
      f_X12_refuse (-1 : Int32) M2 (fun v11 M11 =>
        K v11 M11)))
def f_X12_deed_b168 (K : Int32 → Mem → Prop) (s0 : Int32) (s1 : Int32) (M : Mem) : Prop :=
  vp_in s1 60 ∧
  K (((M 287 67) + (1 : Int32)) - (1 : Int32)) (mset (mset M 343 s1.toNatClampNeg s0) 287 67 ((M 287 67) + (1 : Int32)))
def f_X12_deed_b54 (K : Int32 → Mem → Prop) (x1 : Int32) (x2 : Int32) (x3 : Int32) (x4 : Int32) (M : Mem) : Prop :=
  f_X12_wrongSums x3 x4 M (fun v8 M8 =>
    ((0 ≤ v8) →
      ((¬ (M8 287 67) = (60 : Int32)) →
        f_X12_givingAct x2 x3 x4 (0 : Int32) M8 (fun v11 M11 =>
          vp_in (M11 287 67) 60 ∧
          vp_in (M11 287 67) 60 ∧
          vp_in (M11 287 67) 60 ∧
          vp_in (M11 287 67) 60 ∧
          ((0 ≤ v11) →
            f_X12_kindIn v11 (mset (mset (mset (mset M11 339 ((M11 287 67).toNatClampNeg) x1) 340 ((M11 287 67).toNatClampNeg) (M11 287 0)) 341 ((M11 287 67).toNatClampNeg) x3) 342 ((M11 287 67).toNatClampNeg) x4) (fun v17 M17 =>
              f_X12_deed_b168 K v17 (M11 287 67) M17)) ∧
          ((¬ 0 ≤ v11) →
            f_X12_deed_b168 K (0 : Int32) (M11 287 67) (mset (mset (mset (mset M11 339 ((M11 287 67).toNatClampNeg) x1) 340 ((M11 287 67).toNatClampNeg) (M11 287 0)) 341 ((M11 287 67).toNatClampNeg) x3) 342 ((M11 287 67).toNatClampNeg) x4)))) ∧
      (((M8 287 67) = (60 : Int32)) →
        f_X12_refuse (-6 : Int32) M8 (fun v18 M18 =>
          K v18 M18))) ∧
    ((¬ 0 ≤ v8) →
      f_X12_wrongSums x3 x4 M8 (fun v19 M19 =>
        f_X12_refuse v19 M19 (fun v20 M20 =>
          K v20 M20))))
def f_X12_deed_b19 (K : Int32 → Mem → Prop) (x1 : Int32) (x2 : Int32) (x3 : Int32) (x4 : Int32) (M : Mem) : Prop :=
  f_X12_isWhat x2 M (fun v21 M21 =>
    ((¬ v21 = 0) →
      ((x1 < 0) →
        f_X12_deed_b54 K x1 x2 x3 x4 M21) ∧
      ((¬ x1 < 0) →
        vp_in x1 40 ∧
        (((M21 308 x1.toNatClampNeg) = x2) →
          f_X12_deed_b54 K x1 x2 x3 x4 M21) ∧
        ((¬ (M21 308 x1.toNatClampNeg) = x2) →
          f_X12_refuse (-3 : Int32) M21 (fun v26 M26 =>
            K v26 M26)))) ∧
    ((v21 = 0) →
      f_X12_refuse (-2 : Int32) M21 (fun v27 M27 =>
        K v27 M27)))
def f_X12_deed (a1 : Int32) (a2 : Int32) (a3 : Int32) (a4 : Int32) (M : Mem) (K : Int32 → Mem → Prop) : Prop :=
  ((a1 = (-1 : Int32)) →
    f_X12_deed_b19 K a1 a2 a3 a4 M) ∧
  ((¬ a1 = (-1 : Int32)) →
    f_X12_isMatter a1 M (fun v29 M29 =>
      ((¬ v29 = 0) →
        f_X12_deed_b19 K a1 a2 a3 a4 M29) ∧
      ((v29 = 0) →
        f_X12_refuse (-1 : Int32) M29 (fun v31 M31 =>
          K v31 M31))))
def f_X12_voidSince_b31 (K : Int32 → Mem → Prop) (s0 : Int32) (M : Mem) : Prop :=
  K s0 M
def f_X12_voidSince_b65 (K : Int32 → Mem → Prop) (x1 : Int32) (M : Mem) : Prop :=
  vp_in x1 60 ∧
  K (M 340 x1.toNatClampNeg) M
def f_X12_voidSince_c104 (K : Int32 → Mem → Prop) (r104 : Int32 × Int32 × Int32 × Mem → Prop) (x2 : Int32) (x3 : Int32) (x4 : Int32) (M : Mem) : Prop :=
  ((x3 < x4) →
    K (-9 : Int32) M) ∧
  ((¬ x3 < x4) →
    f_X12_lets x2 x4 M (fun v14 M14 =>
      ((¬ v14 = 0) →
        r104 (x2, x3, (x4 + (1 : Int32)), M14)) ∧
      ((v14 = 0) →
        K x4 M14)))
def f_X12_voidSince_b95 (K : Int32 → Mem → Prop) (x1 : Int32) (x2 : Int32) (s0 : Int32) (M : Mem) : Prop :=
  vp_in x1 60 ∧
  Lp (fun (r104 : Int32 × Int32 × Int32 × Mem → Prop) a => f_X12_voidSince_c104 K r104 a.1 a.2.1 a.2.2.1 a.2.2.2) (x2, s0, (M 340 x1.toNatClampNeg), M)
def f_X12_voidSince (a1 : Int32) (M : Mem) (K : Int32 → Mem → Prop) : Prop :=
  vp_in a1 60 ∧
  ((0 ≤ (M 339 a1.toNatClampNeg)) →
    vp_in a1 60 ∧
    vp_in (M 339 a1.toNatClampNeg) 40 ∧
    ((¬ ((M 341 a1.toNatClampNeg) &&& ((M 309 ((M 339 a1.toNatClampNeg).toNatClampNeg)) ^^^ (-1 : Int32))) = 0) →
      f_X12_voidSince_b65 K a1 M) ∧
    ((((M 341 a1.toNatClampNeg) &&& ((M 309 ((M 339 a1.toNatClampNeg).toNatClampNeg)) ^^^ (-1 : Int32))) = 0) →
      vp_in a1 60 ∧
      vp_in (M 339 a1.toNatClampNeg) 40 ∧
      (((M 342 a1.toNatClampNeg) ≤ (M 310 ((M 339 a1.toNatClampNeg).toNatClampNeg))) →
        vp_in (M 339 a1.toNatClampNeg) 40 ∧
        ((¬ (M 311 ((M 339 a1.toNatClampNeg).toNatClampNeg)) = (4 : Int32)) →
          vp_in a1 60 ∧
          f_X12_voidSince_b95 K a1 (M 339 a1.toNatClampNeg) (M 340 a1.toNatClampNeg) M) ∧
        (((M 311 ((M 339 a1.toNatClampNeg).toNatClampNeg)) = (4 : Int32)) →
          f_X12_voidSince_b95 K a1 (M 339 a1.toNatClampNeg) (M 287 0) M)) ∧
      ((¬ (M 342 a1.toNatClampNeg) ≤ (M 310 ((M 339 a1.toNatClampNeg).toNatClampNeg))) →
        f_X12_voidSince_b65 K a1 M))) ∧
  ((¬ 0 ≤ (M 339 a1.toNatClampNeg)) →
    vp_in a1 60 ∧
    (((M 343 a1.toNatClampNeg) ≤ 0) →
      f_X12_voidSince_b31 K (-9 : Int32) M) ∧
    ((¬ (M 343 a1.toNatClampNeg) ≤ 0) →
      vp_in a1 60 ∧
      f_X12_voidSince_b31 K (M 340 a1.toNatClampNeg) M))
def f_X12_hung_b48 (r5 : Int32 × Int32 × Int32 × Int32 × Mem → Prop) (K : Int32 → Mem → Prop) (x1 : Int32) (x2 : Int32) (x4 : Int32) (s0 : Int32) (s1 : Int32) (M : Mem) : Prop :=
  r5 (x1, x2, (s1 + s0), (x4 + (1 : Int32)), M)
def f_X12_hung_b47 (r5 : Int32 × Int32 × Int32 × Int32 × Mem → Prop) (K : Int32 → Mem → Prop) (x1 : Int32) (x2 : Int32) (x4 : Int32) (s0 : Int32) (M : Mem) : Prop :=
  f_X12_hung_b48 r5 K x1 x2 x4 (0 : Int32) s0 M
def f_X12_hung_c5 (K : Int32 → Mem → Prop) (r5 : Int32 × Int32 × Int32 × Int32 × Mem → Prop) (x1 : Int32) (x2 : Int32) (x3 : Int32) (x4 : Int32) (M : Mem) : Prop :=
  (((M 287 73) ≤ x4) →
    K x3 M) ∧
  ((¬ (M 287 73) ≤ x4) →
    vp_in x4 100 ∧
    ((¬ (M 344 x4.toNatClampNeg) = x1) →
      f_X12_hung_b47 r5 K x1 x2 x4 x3 M) ∧
    (((M 344 x4.toNatClampNeg) = x1) →
      vp_in x4 100 ∧
      (((M 345 x4.toNatClampNeg) < x2) →
        f_X12_hung_b47 r5 K x1 x2 x4 x3 M) ∧
      ((¬ (M 345 x4.toNatClampNeg) < x2) →
        vp_in x4 100 ∧
        f_X12_hung_b48 r5 K x1 x2 x4 (M 346 x4.toNatClampNeg) x3 M)))
def f_X12_hung (a1 : Int32) (a2 : Int32) (M : Mem) (K : Int32 → Mem → Prop) : Prop :=
  Lp (fun (r5 : Int32 × Int32 × Int32 × Int32 × Mem → Prop) a => f_X12_hung_c5 K r5 a.1 a.2.1 a.2.2.1 a.2.2.2.1 a.2.2.2.2) (a1, a2, (0 : Int32), (0 : Int32), M)
def f_X12_isDeed (a1 : Int32) (M : Mem) (K : Int32 → Mem → Prop) : Prop :=
  f_X12_in a1 (0 : Int32) ((M 287 67) - (1 : Int32)) M (fun v1 M1 =>
    bz v1 ∧ K v1 M1)
def f_X12_deedOf_b100 (K : Int32 → Mem → Prop) (s0 : Int32) (M : Mem) : Prop :=
  K s0 M
def f_X12_deedOf (a1 : Int32) (a2 : Int32) (M : Mem) (K : Int32 → Mem → Prop) : Prop :=
  f_X12_isDeed a1 M (fun v3 M3 =>
    ((¬ v3 = 0) →
      f_X12_in a2 (0 : Int32) (4 : Int32) M3 (fun v5 M5 =>
        ((¬ v5 = 0) →
          f_X12_voidSince a1 M5 (fun v7 M7 =>
            ((¬ a2 = 0) →
              ((¬ a2 = (1 : Int32)) →
                ((¬ a2 = (2 : Int32)) →
                  ((¬ a2 = (3 : Int32)) →
                    ((0 ≤ v7) →
                      f_X12_hung a1 v7 M7 (fun v13 M13 =>
                        f_X12_deedOf_b100 K v13 M13)) ∧
                    ((¬ 0 ≤ v7) →
                      f_X12_deedOf_b100 K (0 : Int32) M7)) ∧
                  ((a2 = (3 : Int32)) →
                    f_X12_hung a1 (0 : Int32) M7 (fun v14 M14 =>
                      f_X12_deedOf_b100 K v14 M14))) ∧
                ((a2 = (2 : Int32)) →
                  f_X12_deedOf_b100 K v7 M7)) ∧
              ((a2 = (1 : Int32)) →
                vp_in a1 60 ∧
                f_X12_deedOf_b100 K (M7 340 a1.toNatClampNeg) M7)) ∧
            ((a2 = 0) →
              vp_in a1 60 ∧
              f_X12_deedOf_b100 K (M7 339 a1.toNatClampNeg) M7))) ∧
        ((v5 = 0) →
          f_X12_refuseFar (-2 : Int32) M5 (fun v17 M17 =>
            K v17 M17)))) ∧
    ((v3 = 0) →
      f_X12_refuseFar (-1 : Int32) M3 (fun v18 M18 =>
        K v18 M18)))
def f_X12_hang_b42 (K : Int32 → Mem → Prop) (M : Mem) : Prop :=
  f_X12_refuse (-6 : Int32) M (fun v5 M5 =>
    K v5 M5)
def f_X12_hang_b123 (r97 : Int32 × Int32 × Int32 × Mem → Prop) (K : Int32 → Mem → Prop) (x1 : Int32) (x4 : Int32) (s0 : Int32) (s1 : Int32) (M : Mem) : Prop :=
  r97 (x1, (s1 + s0), (x4 + (1 : Int32)), M)
def f_X12_hang_c97 (K : Int32 → Mem → Prop) (r97 : Int32 × Int32 × Int32 × Mem → Prop) (x1 : Int32) (x3 : Int32) (x4 : Int32) (M : Mem) : Prop :=
  (((M 287 73) ≤ x4) →
    K x3 M) ∧
  ((¬ (M 287 73) ≤ x4) →
    vp_in x4 100 ∧
    ((¬ (M 344 x4.toNatClampNeg) = x1) →
      f_X12_hang_b123 r97 K x1 x4 (0 : Int32) x3 M) ∧
    (((M 344 x4.toNatClampNeg) = x1) →
      f_X12_hang_b123 r97 K x1 x4 (1 : Int32) x3 M))
def f_X12_hang (a1 : Int32) (a2 : Int32) (M : Mem) (K : Int32 → Mem → Prop) : Prop :=
  f_X12_isDeed a1 M (fun v9 M9 =>
    ((¬ v9 = 0) →
      (((1 : Int32) ≤ a2) →
        (((9999 : Int32) < a2) →
          f_X12_hang_b42 K M9) ∧
        ((¬ (9999 : Int32) < a2) →
          ((¬ (M9 287 73) = (100 : Int32)) →
            vp_in (M9 287 73) 100 ∧
            vp_in (M9 287 73) 100 ∧
            vp_in (M9 287 73) 100 ∧
            Lp (fun (r97 : Int32 × Int32 × Int32 × Mem → Prop) a => f_X12_hang_c97 K r97 a.1 a.2.1 a.2.2.1 a.2.2.2) (a1, (0 : Int32), (0 : Int32), (mset (mset (mset (mset M9 344 ((M9 287 73).toNatClampNeg) a1) 345 ((M9 287 73).toNatClampNeg) (M9 287 0)) 346 ((M9 287 73).toNatClampNeg) a2) 287 73 ((M9 287 73) + (1 : Int32))))) ∧
          (((M9 287 73) = (100 : Int32)) →
            f_X12_hang_b42 K M9))) ∧
      ((¬ (1 : Int32) ≤ a2) →
        f_X12_refuse (-4 : Int32) M9 (fun v17 M17 =>
          K v17 M17))) ∧
    ((v9 = 0) →
      f_X12_refuse (-1 : Int32) M9 (fun v18 M18 =>
        K v18 M18)))
def f_X12_need (a1 : Int32) (a2 : Int32) (M : Mem) (K : Int32 → Mem → Prop) : Prop :=
  f_X12_in a1 (0 : Int32) (2 : Int32) M (fun v3 M3 =>
    ((¬ v3 = 0) →
      ((0 ≤ a2) →
        ((a2 ≤ (2 : Int32)) →
          vp_in a1 3 ∧
          vp_in a1 3 ∧
          K (M3 347 a1.toNatClampNeg) (mset (mset M3 347 a1.toNatClampNeg a2) 287 89 (-1 : Int32))) ∧
        ((¬ a2 ≤ (2 : Int32)) →
          f_X12_refuse (-6 : Int32) M3 (fun v9 M9 =>
            K v9 M9))) ∧
      ((¬ 0 ≤ a2) →
        f_X12_refuse (-4 : Int32) M3 (fun v10 M10 =>
          K v10 M10))) ∧
    ((v3 = 0) →
      f_X12_refuse (-2 : Int32) M3 (fun v11 M11 =>
        K v11 M11)))
def f_X12_wish_b93 (K : Int32 → Mem → Prop) (s0 : Int32) (M : Mem) : Prop :=
  K s0 M
def f_X12_wish (a1 : Int32) (a2 : Int32) (a3 : Int32) (a4 : Int32) (M : Mem) (K : Int32 → Mem → Prop) : Prop :=
  f_X12_isPerson a1 M (fun v4 M4 =>
    ((¬ v4 = 0) →
      f_X12_in a3 (0 : Int32) (2 : Int32) M4 (fun v6 M6 =>
        ((¬ v6 = 0) →
          f_X12_in a2 (0 : Int32) (3 : Int32) M6 (fun v8 M8 =>
            ((¬ v8 = 0) →
              vp_in ((((12 : Int32) * a1) + ((3 : Int32) * a2)) + a3) 288 ∧
              vp_in ((((12 : Int32) * a1) + ((3 : Int32) * a2)) + a3) 288 ∧
              bz a4 ∧
              ((¬ (M8 348 (((((12 : Int32) * a1) + ((3 : Int32) * a2)) + a3).toNatClampNeg)) = a4) →
                f_X12_wish_b93 K (1 : Int32) (mset (mset M8 348 (((((12 : Int32) * a1) + ((3 : Int32) * a2)) + a3).toNatClampNeg) a4) 287 89 (-1 : Int32))) ∧
              (((M8 348 (((((12 : Int32) * a1) + ((3 : Int32) * a2)) + a3).toNatClampNeg)) = a4) →
                f_X12_wish_b93 K (0 : Int32) (mset (mset M8 348 (((((12 : Int32) * a1) + ((3 : Int32) * a2)) + a3).toNatClampNeg) a4) 287 89 (-1 : Int32)))) ∧
            ((v8 = 0) →
              f_X12_refuse (-3 : Int32) M8 (fun v14 M14 =>
                K v14 M14)))) ∧
        ((v6 = 0) →
          f_X12_refuse (-2 : Int32) M6 (fun v15 M15 =>
            K v15 M15)))) ∧
    ((v4 = 0) →
      f_X12_refuse (-1 : Int32) M4 (fun v16 M16 =>
        K v16 M16)))
def f_X12_findFour_b62 (r7 : Int32 × Int32 × Mem → Prop) (K : Mem → Prop) (x1 : Int32) (x2 : Int32) (M : Mem) : Prop :=
  r7 (x1, (x2 + (1 : Int32)), M)
def f_X12_findFour_c7 (K : Mem → Prop) (r7 : Int32 × Int32 × Mem → Prop) (x1 : Int32) (x2 : Int32) (M : Mem) : Prop :=
  (((M 287 2) ≤ x2) →
    K M) ∧
  ((¬ (M 287 2) ≤ x2) →
    (((4 : Int32) ≤ (M 287 80)) →
      K M) ∧
    ((¬ (4 : Int32) ≤ (M 287 80)) →
      vp_in x2 24 ∧
      ((¬ (M 289 x2.toNatClampNeg) = x1) →
        f_X12_findFour_b62 r7 K x1 x2 M) ∧
      (((M 289 x2.toNatClampNeg) = x1) →
        vp_in x2 24 ∧
        ((¬ (M 294 x2.toNatClampNeg) = 0) →
          f_X12_findFour_b62 r7 K x1 x2 M) ∧
        (((M 294 x2.toNatClampNeg) = 0) →
          vp_in (M 287 80) 4 ∧
          f_X12_findFour_b62 r7 K x1 x2 (mset (mset M 349 ((M 287 80).toNatClampNeg) x2) 287 80 ((M 287 80) + (1 : Int32)))))))
def f_X12_findFour (a1 : Int32) (M : Mem) (K : Mem → Prop) : Prop :=
  Lp (fun (r7 : Int32 × Int32 × Mem → Prop) a => f_X12_findFour_c7 K r7 a.1 a.2.1 a.2.2) (a1, (0 : Int32), (mset M 287 80 (0 : Int32)))
def f_X12_shiftIn (a1 : Int32) (a2 : Int32) (M : Mem) (K : Int32 → Mem → Prop) : Prop :=
  K ((a1 >>> (((6 : Int32) - ((2 : Int32) * a2)) &&& 31)) &&& (3 : Int32)) M
def f_X12_isNeeded_b38 (r4 : Int32 × Int32 × Int32 × Mem → Prop) (r15 : Int32 × Int32 × Int32 × Int32 × Int32 × Mem → Prop) (K : Int32 → Mem → Prop) (x1 : Int32) (x2 : Int32) (x3 : Int32) (x5 : Int32) (s0 : Int32) (s1 : Int32) (M : Mem) : Prop :=
  r15 (x1, x2, x3, (s1 + s0), (x5 + (1 : Int32)), M)
def f_X12_isNeeded_b67 (r4 : Int32 × Int32 × Int32 × Mem → Prop) (K : Int32 → Mem → Prop) (x1 : Int32) (x3 : Int32) (s0 : Int32) (M : Mem) : Prop :=
  r4 (x1, s0, (x3 + (1 : Int32)), M)
def f_X12_isNeeded_b66 (r4 : Int32 × Int32 × Int32 × Mem → Prop) (K : Int32 → Mem → Prop) (x1 : Int32) (x3 : Int32) (M : Mem) : Prop :=
  f_X12_isNeeded_b67 r4 K x1 x3 (0 : Int32) M
def f_X12_isNeeded_c15 (r4 : Int32 × Int32 × Int32 × Mem → Prop) (K : Int32 → Mem → Prop) (r15 : Int32 × Int32 × Int32 × Int32 × Int32 × Mem → Prop) (x1 : Int32) (x2 : Int32) (x3 : Int32) (x4 : Int32) (x5 : Int32) (M : Mem) : Prop :=
  (((4 : Int32) ≤ x5) →
    ((x2 = 0) →
      f_X12_isNeeded_b66 r4 K x1 x3 M) ∧
    ((¬ x2 = 0) →
      vp_in x3 3 ∧
      ((¬ x4 = (M 347 x3.toNatClampNeg)) →
        f_X12_isNeeded_b66 r4 K x1 x3 M) ∧
      ((x4 = (M 347 x3.toNatClampNeg)) →
        f_X12_isNeeded_b67 r4 K x1 x3 (1 : Int32) M))) ∧
  ((¬ (4 : Int32) ≤ x5) →
    f_X12_shiftIn x1 x5 M (fun v6 M6 =>
      ((¬ v6 = x3) →
        f_X12_isNeeded_b38 r4 r15 K x1 x2 x3 x5 (0 : Int32) x4 M6) ∧
      ((v6 = x3) →
        f_X12_isNeeded_b38 r4 r15 K x1 x2 x3 x5 (1 : Int32) x4 M6)))
def f_X12_isNeeded_c4 (K : Int32 → Mem → Prop) (r4 : Int32 × Int32 × Int32 × Mem → Prop) (x1 : Int32) (x2 : Int32) (x3 : Int32) (M : Mem) : Prop :=
  (((3 : Int32) ≤ x3) →
    bz x2 ∧ K x2 M) ∧
  ((¬ (3 : Int32) ≤ x3) →
    Lp (fun (r15 : Int32 × Int32 × Int32 × Int32 × Int32 × Mem → Prop) a => f_X12_isNeeded_c15 r4 K r15 a.1 a.2.1 a.2.2.1 a.2.2.2.1 a.2.2.2.2.1 a.2.2.2.2.2) (x1, x2, x3, (0 : Int32), (0 : Int32), M))
def f_X12_isNeeded (a1 : Int32) (M : Mem) (K : Int32 → Mem → Prop) : Prop :=
  Lp (fun (r4 : Int32 × Int32 × Int32 × Mem → Prop) a => f_X12_isNeeded_c4 K r4 a.1 a.2.1 a.2.2.1 a.2.2.2) (a1, (1 : Int32), (0 : Int32), M)
def f_X12_findNeeded_b73 (r7 : Int32 × Mem → Prop) (r44 : Int32 × Int32 × Mem → Prop) (K : Mem → Prop) (x1 : Int32) (x2 : Int32) (s0 : Int32) (s1 : Int32) (s2 : Int32) (M : Mem) : Prop :=
  vp_in s2 256 ∧
  r44 (x1, (x2 + (1 : Int32)), (mset M 354 s2.toNatClampNeg (s1 ||| (s0 <<< (((4 : Int32) * x2) &&& 31)))))
def f_X12_findNeeded_b95 (r7 : Int32 × Mem → Prop) (K : Mem → Prop) (x1 : Int32) (M : Mem) : Prop :=
  r7 ((x1 + (1 : Int32)), M)
def f_X12_findNeeded_c44 (r7 : Int32 × Mem → Prop) (K : Mem → Prop) (r44 : Int32 × Int32 × Mem → Prop) (x1 : Int32) (x2 : Int32) (M : Mem) : Prop :=
  (((4 : Int32) ≤ x2) →
    f_X12_findNeeded_b95 r7 K x1 (mset M 287 86 ((M 287 86) + (1 : Int32)))) ∧
  ((¬ (4 : Int32) ≤ x2) →
    vp_in (M 287 86) 256 ∧
    f_X12_shiftIn x1 x2 M (fun v8 M8 =>
      (((3 : Int32) ≤ v8) →
        f_X12_findNeeded_b73 r7 r44 K x1 x2 (0 : Int32) (M 354 ((M 287 86).toNatClampNeg)) (M 287 86) M8) ∧
      ((¬ (3 : Int32) ≤ v8) →
        f_X12_findNeeded_b73 r7 r44 K x1 x2 (1 : Int32) (M 354 ((M 287 86).toNatClampNeg)) (M 287 86) M8)))
def f_X12_findNeeded_c7 (K : Mem → Prop) (r7 : Int32 × Mem → Prop) (x1 : Int32) (M : Mem) : Prop :=
  (((256 : Int32) ≤ x1) →
    K M) ∧
  ((¬ (256 : Int32) ≤ x1) →
    f_X12_isNeeded x1 M (fun v11 M11 =>
      ((v11 = 0) →
        f_X12_findNeeded_b95 r7 K x1 M11) ∧
      ((¬ v11 = 0) →
        vp_in (M11 287 86) 256 ∧
        vp_in (M11 287 86) 256 ∧
        Lp (fun (r44 : Int32 × Int32 × Mem → Prop) a => f_X12_findNeeded_c44 r7 K r44 a.1 a.2.1 a.2.2) (x1, (0 : Int32), (mset (mset M11 353 ((M11 287 86).toNatClampNeg) x1) 354 ((M11 287 86).toNatClampNeg) (0 : Int32))))))
def f_X12_findNeeded (M : Mem) (K : Mem → Prop) : Prop :=
  Lp (fun (r7 : Int32 × Mem → Prop) a => f_X12_findNeeded_c7 K r7 a.1 a.2) ((0 : Int32), (mset M 287 86 (0 : Int32)))
def f_X12_mayStand_b105 (K : Int32 → Mem → Prop) (M : Mem) : Prop :=
  K (0 : Int32) M
def f_X12_mayStand_b107 (r18 : Int32 × Int32 × Int32 × Int32 × Int32 × Mem → Prop) (K : Int32 → Mem → Prop) (x1 : Int32) (x2 : Int32) (x3 : Int32) (x4 : Int32) (x5 : Int32) (M : Mem) : Prop :=
  r18 (x1, x2, x3, x4, (x5 + (1 : Int32)), M)
def f_X12_mayStand_b79 (r18 : Int32 × Int32 × Int32 × Int32 × Int32 × Mem → Prop) (K : Int32 → Mem → Prop) (x1 : Int32) (x2 : Int32) (x3 : Int32) (x4 : Int32) (x5 : Int32) (M : Mem) : Prop :=
  ((¬ (x3 &&& (2 : Int32)) = (2 : Int32)) →
    f_X12_mayStand_b107 r18 K x1 x2 x3 x4 x5 M) ∧
  (((x3 &&& (2 : Int32)) = (2 : Int32)) →
    ((((x4 >>> (((4 : Int32) * x5) &&& 31)) &&& (15 : Int32)) ≤ (M 325 4)) →
      f_X12_mayStand_b107 r18 K x1 x2 x3 x4 x5 M) ∧
    ((¬ ((x4 >>> (((4 : Int32) * x5) &&& 31)) &&& (15 : Int32)) ≤ (M 325 4)) →
      f_X12_mayStand_b105 K M))
def f_X12_mayStand_b65 (r18 : Int32 × Int32 × Int32 × Int32 × Int32 × Mem → Prop) (K : Int32 → Mem → Prop) (x1 : Int32) (x2 : Int32) (x3 : Int32) (x4 : Int32) (x5 : Int32) (s0 : Int32) (M : Mem) : Prop :=
  ((¬ (x3 &&& (1 : Int32)) = (1 : Int32)) →
    f_X12_mayStand_b79 r18 K x1 x2 x3 x4 x5 M) ∧
  (((x3 &&& (1 : Int32)) = (1 : Int32)) →
    ((¬ s0 = 0) →
      f_X12_mayStand_b105 K M) ∧
    ((s0 = 0) →
      f_X12_mayStand_b79 r18 K x1 x2 x3 x4 x5 M))
def f_X12_mayStand_b64 (r18 : Int32 × Int32 × Int32 × Int32 × Int32 × Mem → Prop) (K : Int32 → Mem → Prop) (x1 : Int32) (x2 : Int32) (x3 : Int32) (x4 : Int32) (x5 : Int32) (M : Mem) : Prop :=
  f_X12_mayStand_b65 r18 K x1 x2 x3 x4 x5 (0 : Int32) M
def f_X12_mayStand_c18 (K : Int32 → Mem → Prop) (r18 : Int32 × Int32 × Int32 × Int32 × Int32 × Mem → Prop) (x1 : Int32) (x2 : Int32) (x3 : Int32) (x4 : Int32) (x5 : Int32) (M : Mem) : Prop :=
  (((4 : Int32) ≤ x5) →
    K (1 : Int32) M) ∧
  ((¬ (4 : Int32) ≤ x5) →
    ((x1 ≤ 0) →
      f_X12_mayStand_b64 r18 K x1 x2 x3 x4 x5 M) ∧
    ((¬ x1 ≤ 0) →
      vp_in (x1 - (1 : Int32)) 4 ∧
      f_X12_shiftIn (M 350 ((x1 - (1 : Int32)).toNatClampNeg)) x5 M (fun v12 M12 =>
        ((¬ v12 = (2 : Int32)) →
          f_X12_mayStand_b64 r18 K x1 x2 x3 x4 x5 M12) ∧
        ((v12 = (2 : Int32)) →
          vp_in x2 256 ∧
          f_X12_shiftIn (M12 353 x2.toNatClampNeg) x5 M12 (fun v15 M15 =>
            (((2 : Int32) ≤ v15) →
              f_X12_mayStand_b64 r18 K x1 x2 x3 x4 x5 M15) ∧
            ((¬ (2 : Int32) ≤ v15) →
              f_X12_mayStand_b65 r18 K x1 x2 x3 x4 x5 (1 : Int32) M15))))))
def f_X12_mayStand (a1 : Int32) (a2 : Int32) (a3 : Int32) (M : Mem) (K : Int32 → Mem → Prop) : Prop :=
  vp_in a1 5 ∧
  vp_in a2 256 ∧
  Lp (fun (r18 : Int32 × Int32 × Int32 × Int32 × Int32 × Mem → Prop) a => f_X12_mayStand_c18 K r18 a.1 a.2.1 a.2.2.1 a.2.2.2.1 a.2.2.2.2.1 a.2.2.2.2.2) (a1, a2, a3, ((M 356 a1.toNatClampNeg) + (M 354 a2.toNatClampNeg)), (0 : Int32), M)
def f_X12_isFair_b46 (r7 : Int32 × Int32 × Int32 × Mem → Prop) (r18 : Int32 × Int32 × Int32 × Int32 × Int32 × Mem → Prop) (K : Int32 → Mem → Prop) (x1 : Int32) (x2 : Int32) (x3 : Int32) (x5 : Int32) (s0 : Int32) (s1 : Int32) (M : Mem) : Prop :=
  r18 (x1, x2, x3, (s1 + s0), (x5 + (1 : Int32)), M)
def f_X12_isFair_b80 (r7 : Int32 × Int32 × Int32 × Mem → Prop) (K : Int32 → Mem → Prop) (x1 : Int32) (x3 : Int32) (s0 : Int32) (M : Mem) : Prop :=
  r7 (x1, s0, (x3 + (1 : Int32)), M)
def f_X12_isFair_b67 (r7 : Int32 × Int32 × Int32 × Mem → Prop) (K : Int32 → Mem → Prop) (x2 : Int32) (x3 : Int32) (x4 : Int32) (s0 : Int32) (M : Mem) : Prop :=
  ((x4 ≤ x2) →
    f_X12_isFair_b80 r7 K s0 x3 x2 M) ∧
  ((¬ x4 ≤ x2) →
    f_X12_isFair_b80 r7 K s0 x3 x4 M)
def f_X12_isFair_c18 (r7 : Int32 × Int32 × Int32 × Mem → Prop) (K : Int32 → Mem → Prop) (r18 : Int32 × Int32 × Int32 × Int32 × Int32 × Mem → Prop) (x1 : Int32) (x2 : Int32) (x3 : Int32) (x4 : Int32) (x5 : Int32) (M : Mem) : Prop :=
  (((4 : Int32) ≤ x5) →
    ((x1 ≤ x4) →
      f_X12_isFair_b67 r7 K x2 x3 x4 x1 M) ∧
    ((¬ x1 ≤ x4) →
      f_X12_isFair_b67 r7 K x2 x3 x4 x4 M)) ∧
  ((¬ (4 : Int32) ≤ x5) →
    vp_in x5 4 ∧
    f_X12_shiftIn (M 350 x5.toNatClampNeg) x3 M (fun v6 M6 =>
      ((¬ v6 = (2 : Int32)) →
        f_X12_isFair_b46 r7 r18 K x1 x2 x3 x5 (0 : Int32) x4 M6) ∧
      ((v6 = (2 : Int32)) →
        f_X12_isFair_b46 r7 r18 K x1 x2 x3 x5 (1 : Int32) x4 M6)))
def f_X12_isFair_b99 (K : Int32 → Mem → Prop) (s0 : Int32) (M : Mem) : Prop :=
  bz s0 ∧ K s0 M
def f_X12_isFair_c7 (K : Int32 → Mem → Prop) (r7 : Int32 × Int32 × Int32 × Mem → Prop) (x1 : Int32) (x2 : Int32) (x3 : Int32) (M : Mem) : Prop :=
  (((4 : Int32) ≤ x3) →
    (((2 : Int32) ≤ (x2 - x1)) →
      f_X12_isFair_b99 K (0 : Int32) M) ∧
    ((¬ (2 : Int32) ≤ (x2 - x1)) →
      f_X12_isFair_b99 K (1 : Int32) M)) ∧
  ((¬ (4 : Int32) ≤ x3) →
    Lp (fun (r18 : Int32 × Int32 × Int32 × Int32 × Int32 × Mem → Prop) a => f_X12_isFair_c18 r7 K r18 a.1 a.2.1 a.2.2.1 a.2.2.2.1 a.2.2.2.2.1 a.2.2.2.2.2) (x1, x2, x3, (0 : Int32), (0 : Int32), M))
def f_X12_isFair (M : Mem) (K : Int32 → Mem → Prop) : Prop :=
  Lp (fun (r7 : Int32 × Int32 × Int32 × Mem → Prop) a => f_X12_isFair_c7 K r7 a.1 a.2.1 a.2.2.1 a.2.2.2) ((9 : Int32), (0 : Int32), (0 : Int32), M)
def f_X12_brokenBy_b56 (r5 : Int32 × Int32 × Int32 × Int32 × Mem → Prop) (K : Int32 → Mem → Prop) (x1 : Int32) (x2 : Int32) (x4 : Int32) (s0 : Int32) (s1 : Int32) (M : Mem) : Prop :=
  r5 (x1, x2, (s1 + s0), (x4 + (1 : Int32)), M)
def f_X12_brokenBy_b55 (r5 : Int32 × Int32 × Int32 × Int32 × Mem → Prop) (K : Int32 → Mem → Prop) (x1 : Int32) (x2 : Int32) (x4 : Int32) (s0 : Int32) (M : Mem) : Prop :=
  f_X12_brokenBy_b56 r5 K x1 x2 x4 (0 : Int32) s0 M
def f_X12_brokenBy_c5 (K : Int32 → Mem → Prop) (r5 : Int32 × Int32 × Int32 × Int32 × Mem → Prop) (x1 : Int32) (x2 : Int32) (x3 : Int32) (x4 : Int32) (M : Mem) : Prop :=
  (((4 : Int32) ≤ x4) →
    K x3 M) ∧
  ((¬ (4 : Int32) ≤ x4) →
    f_X12_shiftIn x2 x4 M (fun v4 M4 =>
      (((3 : Int32) ≤ v4) →
        f_X12_brokenBy_b55 r5 K x1 x2 x4 x3 M4) ∧
      ((¬ (3 : Int32) ≤ v4) →
        vp_in x4 4 ∧
        vp_in ((((12 : Int32) * (M4 349 x4.toNatClampNeg)) + ((3 : Int32) * x1)) + v4) 288 ∧
        (((M4 348 (((((12 : Int32) * (M4 349 x4.toNatClampNeg)) + ((3 : Int32) * x1)) + v4).toNatClampNeg)) = 0) →
          f_X12_brokenBy_b55 r5 K x1 x2 x4 x3 M4) ∧
        ((¬ (M4 348 (((((12 : Int32) * (M4 349 x4.toNatClampNeg)) + ((3 : Int32) * x1)) + v4).toNatClampNeg)) = 0) →
          f_X12_brokenBy_b56 r5 K x1 x2 x4 (1 : Int32) x3 M4))))
def f_X12_brokenBy (a1 : Int32) (a2 : Int32) (M : Mem) (K : Int32 → Mem → Prop) : Prop :=
  Lp (fun (r5 : Int32 × Int32 × Int32 × Int32 × Mem → Prop) a => f_X12_brokenBy_c5 K r5 a.1 a.2.1 a.2.2.1 a.2.2.2.1 a.2.2.2.2) (a1, a2, (0 : Int32), (0 : Int32), M)
def f_X12_seekShifts_b269 (r45 : Int32 × Int32 × Int32 × Mem → Prop) (K : Int32 → Mem → Prop) (x2 : Int32) (x3 : Int32) (x4 : Int32) (M : Mem) : Prop :=
  r45 (x2, x3, x4, M)
def f_X12_seekShifts_c243 (r45 : Int32 × Int32 × Int32 × Mem → Prop) (K : Int32 → Mem → Prop) (r243 : Int32 × Int32 × Int32 × Int32 × Mem → Prop) (x2 : Int32) (x3 : Int32) (x4 : Int32) (x6 : Int32) (M : Mem) : Prop :=
  (((4 : Int32) ≤ x6) →
    f_X12_seekShifts_b269 r45 K x2 x3 x4 M) ∧
  ((¬ (4 : Int32) ≤ x6) →
    vp_in x6 4 ∧
    vp_in x6 4 ∧
    r243 (x2, x3, x4, (x6 + (1 : Int32)), (mset M 352 x6.toNatClampNeg (M 350 x6.toNatClampNeg))))
def f_X12_seekShifts_b233 (r45 : Int32 × Int32 × Int32 × Mem → Prop) (K : Int32 → Mem → Prop) (x2 : Int32) (x4 : Int32) (M : Mem) : Prop :=
  Lp (fun (r243 : Int32 × Int32 × Int32 × Int32 × Mem → Prop) a => f_X12_seekShifts_c243 r45 K r243 a.1 a.2.1 a.2.2.1 a.2.2.2.1 a.2.2.2.2) (x2, (M 351 4), x4, (0 : Int32), M)
def f_X12_seekShifts_b200 (r45 : Int32 × Int32 × Int32 × Mem → Prop) (K : Int32 → Mem → Prop) (x2 : Int32) (x3 : Int32) (x4 : Int32) (M : Mem) : Prop :=
  (((3 : Int32) ≤ x4) →
    (((x2 &&& (4 : Int32)) = 0) →
      f_X12_seekShifts_b233 r45 K x2 x4 M) ∧
    ((¬ (x2 &&& (4 : Int32)) = 0) →
      f_X12_isFair M (fun v20 M20 =>
        ((v20 = 0) →
          f_X12_seekShifts_b269 r45 K x2 x3 x4 M20) ∧
        ((¬ v20 = 0) →
          f_X12_seekShifts_b233 r45 K x2 x4 M20)))) ∧
  ((¬ (3 : Int32) ≤ x4) →
    vp_in (x4 + (1 : Int32)) 4 ∧
    f_X12_seekShifts_b269 r45 K x2 x3 (x4 + (1 : Int32)) (mset M 355 ((x4 + (1 : Int32)).toNatClampNeg) (-1 : Int32)))
def f_X12_seekShifts_b88 (r45 : Int32 × Int32 × Int32 × Mem → Prop) (K : Int32 → Mem → Prop) (x2 : Int32) (x3 : Int32) (x4 : Int32) (x5 : Int32) (M : Mem) : Prop :=
  vp_in x4 4 ∧
  ((¬ x5 = (M 287 86)) →
    vp_in x5 256 ∧
    vp_in x4 4 ∧
    vp_in x4 5 ∧
    vp_in x5 256 ∧
    f_X12_brokenBy x4 (M 353 x5.toNatClampNeg) (mset (mset M 355 x4.toNatClampNeg x5) 350 x4.toNatClampNeg (M 353 x5.toNatClampNeg)) (fun v29 M29 =>
      vp_in (x4 + (1 : Int32)) 5 ∧
      vp_in x4 5 ∧
      vp_in x5 256 ∧
      vp_in (x4 + (1 : Int32)) 5 ∧
      ((x3 < 0) →
        f_X12_seekShifts_b200 r45 K x2 x3 x4 (mset (mset M29 351 ((x4 + (1 : Int32)).toNatClampNeg) ((M 351 x4.toNatClampNeg) + v29)) 356 ((x4 + (1 : Int32)).toNatClampNeg) ((M29 356 x4.toNatClampNeg) + (M29 354 x5.toNatClampNeg)))) ∧
      ((¬ x3 < 0) →
        vp_in (x4 + (1 : Int32)) 5 ∧
        ((((mset M29 351 ((x4 + (1 : Int32)).toNatClampNeg) ((M 351 x4.toNatClampNeg) + v29)) 351 ((x4 + (1 : Int32)).toNatClampNeg)) < x3) →
          f_X12_seekShifts_b200 r45 K x2 x3 x4 (mset (mset M29 351 ((x4 + (1 : Int32)).toNatClampNeg) ((M 351 x4.toNatClampNeg) + v29)) 356 ((x4 + (1 : Int32)).toNatClampNeg) ((M29 356 x4.toNatClampNeg) + (M29 354 x5.toNatClampNeg)))) ∧
        ((¬ ((mset M29 351 ((x4 + (1 : Int32)).toNatClampNeg) ((M 351 x4.toNatClampNeg) + v29)) 351 ((x4 + (1 : Int32)).toNatClampNeg)) < x3) →
          r45 (x2, x3, x4, (mset (mset M29 351 ((x4 + (1 : Int32)).toNatClampNeg) ((M 351 x4.toNatClampNeg) + v29)) 356 ((x4 + (1 : Int32)).toNatClampNeg) ((M29 356 x4.toNatClampNeg) + (M29 354 x5.toNatClampNeg)))))))) ∧
  ((x5 = (M 287 86)) →
    r45 (x2, x3, (x4 + (-1 : Int32)), (mset M 355 x4.toNatClampNeg x5)))
def f_X12_seekShifts_c61 (r45 : Int32 × Int32 × Int32 × Mem → Prop) (K : Int32 → Mem → Prop) (r61 : Int32 × Int32 × Int32 × Int32 × Mem → Prop) (x2 : Int32) (x3 : Int32) (x4 : Int32) (x5 : Int32) (M : Mem) : Prop :=
  (((M 287 86) ≤ x5) →
    f_X12_seekShifts_b88 r45 K x2 x3 x4 x5 M) ∧
  ((¬ (M 287 86) ≤ x5) →
    f_X12_mayStand x4 x5 x2 M (fun v38 M38 =>
      ((¬ v38 = 0) →
        f_X12_seekShifts_b88 r45 K x2 x3 x4 x5 M38) ∧
      ((v38 = 0) →
        r61 (x2, x3, x4, (x5 + (1 : Int32)), M38))))
def f_X12_seekShifts_c45 (K : Int32 → Mem → Prop) (r45 : Int32 × Int32 × Int32 × Mem → Prop) (x2 : Int32) (x3 : Int32) (x4 : Int32) (M : Mem) : Prop :=
  ((x4 < 0) →
    K x3 M) ∧
  ((¬ x4 < 0) →
    vp_in x4 4 ∧
    Lp (fun (r61 : Int32 × Int32 × Int32 × Int32 × Mem → Prop) a => f_X12_seekShifts_c61 r45 K r61 a.1 a.2.1 a.2.2.1 a.2.2.2.1 a.2.2.2.2) (x2, x3, x4, ((M 355 x4.toNatClampNeg) + (1 : Int32)), M))
def f_X12_seekShifts (a1 : Int32) (a2 : Int32) (M : Mem) (K : Int32 → Mem → Prop) : Prop :=
  f_X12_findFour a1 M (fun M42 =>
    (((4 : Int32) ≤ (M42 287 80)) →
      f_X12_findNeeded M42 (fun M44 =>
        Lp (fun (r45 : Int32 × Int32 × Int32 × Mem → Prop) a => f_X12_seekShifts_c45 K r45 a.1 a.2.1 a.2.2.1 a.2.2.2) (a2, (-1 : Int32), (0 : Int32), (mset (mset (mset M44 355 0 (-1 : Int32)) 351 0 (0 : Int32)) 356 0 (0 : Int32))))) ∧
    ((¬ (4 : Int32) ≤ (M42 287 80)) →
      K (-1 : Int32) M42))
def f_X12_findShifts_b26 (K : Int32 → Mem → Prop) (x1 : Int32) (x2 : Int32) (M : Mem) : Prop :=
  f_X12_seekShifts x1 x2 M (fun v1 M1 =>
    K v1 (mset (mset (mset M1 287 91 v1) 287 89 x1) 287 90 x2))
def f_X12_findShifts (a1 : Int32) (a2 : Int32) (M : Mem) (K : Int32 → Mem → Prop) : Prop :=
  ((¬ (M 287 89) = a1) →
    f_X12_findShifts_b26 K a1 a2 M) ∧
  (((M 287 89) = a1) →
    ((¬ (M 287 90) = a2) →
      f_X12_findShifts_b26 K a1 a2 M) ∧
    (((M 287 90) = a2) →
      f_X12_findFour a1 M (fun M4 =>
        K (M4 287 91) M4)))
def f_X12_shifts_b47 (K : Int32 → Mem → Prop) (s0 : Int32) (M : Mem) : Prop :=
  K s0 M
def f_X12_shifts (a1 : Int32) (a2 : Int32) (M : Mem) (K : Int32 → Mem → Prop) : Prop :=
  f_X12_isShop a1 M (fun v1 M1 =>
    ((¬ v1 = 0) →
      f_X12_in a2 (0 : Int32) (7 : Int32) M1 (fun v3 M3 =>
        ((¬ v3 = 0) →
          f_X12_findShifts a1 a2 M3 (fun v5 M5 =>
            ((0 ≤ v5) →
              f_X12_shifts_b47 K v5 M5) ∧
            ((¬ 0 ≤ v5) →
              f_X12_shifts_b47 K (-9 : Int32) M5))) ∧
        ((v3 = 0) →
          f_X12_refuse (-2 : Int32) M3 (fun v7 M7 =>
            K v7 M7)))) ∧
    ((v1 = 0) →
      f_X12_refuse (-1 : Int32) M1 (fun v8 M8 =>
        K v8 M8)))
def f_X12_shiftOf_b15 (K : Int32 → Mem → Prop) (M : Mem) : Prop :=
  f_X12_refuse (-1 : Int32) M (fun v3 M3 =>
    K v3 M3)
def f_X12_shiftOf_b109 (r70 : Int32 × Int32 × Int32 × Int32 × Int32 × Mem → Prop) (K : Int32 → Mem → Prop) (x3 : Int32) (x4 : Int32) (x5 : Int32) (x7 : Int32) (s0 : Int32) (M : Mem) : Prop :=
  r70 (x3, x4, x5, s0, (x7 + (1 : Int32)), M)
def f_X12_shiftOf_b117 (K : Int32 → Mem → Prop) (x6 : Int32) (M : Mem) : Prop :=
  K x6 M
def f_X12_shiftOf_c70 (K : Int32 → Mem → Prop) (r70 : Int32 × Int32 × Int32 × Int32 × Int32 × Mem → Prop) (x3 : Int32) (x4 : Int32) (x5 : Int32) (x6 : Int32) (x7 : Int32) (M : Mem) : Prop :=
  (((4 : Int32) ≤ x7) →
    f_X12_shiftOf_b117 K x6 M) ∧
  ((¬ (4 : Int32) ≤ x7) →
    ((x5 < 0) →
      f_X12_shiftOf_b117 K x6 M) ∧
    ((¬ x5 < 0) →
      vp_in x7 4 ∧
      ((¬ (M 349 x7.toNatClampNeg) = x3) →
        f_X12_shiftOf_b109 r70 K x3 x4 x5 x7 x6 M) ∧
      (((M 349 x7.toNatClampNeg) = x3) →
        vp_in x4 4 ∧
        f_X12_shiftIn (M 352 x4.toNatClampNeg) x7 M (fun v9 M9 =>
          f_X12_shiftOf_b109 r70 K x3 x4 x5 x7 v9 M9))))
def f_X12_shiftOf (a1 : Int32) (a2 : Int32) (a3 : Int32) (a4 : Int32) (M : Mem) (K : Int32 → Mem → Prop) : Prop :=
  f_X12_isShop a1 M (fun v10 M10 =>
    ((v10 = 0) →
      f_X12_shiftOf_b15 K M10) ∧
    ((¬ v10 = 0) →
      f_X12_isPerson a3 M10 (fun v12 M12 =>
        ((¬ v12 = 0) →
          f_X12_in a2 (0 : Int32) (7 : Int32) M12 (fun v14 M14 =>
            ((¬ v14 = 0) →
              f_X12_in a4 (0 : Int32) (3 : Int32) M14 (fun v16 M16 =>
                ((¬ v16 = 0) →
                  f_X12_findShifts a1 a2 M16 (fun v18 M18 =>
                    Lp (fun (r70 : Int32 × Int32 × Int32 × Int32 × Int32 × Mem → Prop) a => f_X12_shiftOf_c70 K r70 a.1 a.2.1 a.2.2.1 a.2.2.2.1 a.2.2.2.2.1 a.2.2.2.2.2) (a3, a4, v18, (-9 : Int32), (0 : Int32), M18))) ∧
                ((v16 = 0) →
                  f_X12_refuse (-3 : Int32) M16 (fun v19 M19 =>
                    K v19 M19)))) ∧
            ((v14 = 0) →
              f_X12_refuse (-2 : Int32) M14 (fun v20 M20 =>
                K v20 M20)))) ∧
        ((v12 = 0) →
          f_X12_shiftOf_b15 K M12))))
def f_X12_bars_b77 (r48 : Int32 × Int32 × Int32 × Mem → Prop) (K : Int32 → Mem → Prop) (x1 : Int32) (x3 : Int32) (s0 : Int32) (M : Mem) : Prop :=
  r48 (x1, s0, (x3 + (-1 : Int32)), M)
def f_X12_bars_b76 (r48 : Int32 × Int32 × Int32 × Mem → Prop) (K : Int32 → Mem → Prop) (x1 : Int32) (x2 : Int32) (x3 : Int32) (M : Mem) : Prop :=
  f_X12_bars_b77 r48 K x1 x3 x2 M
def f_X12_bars_c48 (K : Int32 → Mem → Prop) (r48 : Int32 × Int32 × Int32 × Mem → Prop) (x1 : Int32) (x2 : Int32) (x3 : Int32) (M : Mem) : Prop :=
  ((x3 < 0) →
    K x2 M) ∧
  ((¬ x3 < 0) →
    f_X12_ones x3 M (fun v2 M2 =>
      f_X12_ones x2 M2 (fun v3 M3 =>
        ((v3 < v2) →
          f_X12_bars_b76 r48 K x1 x2 x3 M3) ∧
        ((¬ v3 < v2) →
          f_X12_findShifts x1 x3 M3 (fun v5 M5 =>
            ((0 ≤ v5) →
              f_X12_bars_b76 r48 K x1 x2 x3 M5) ∧
            ((¬ 0 ≤ v5) →
              f_X12_bars_b77 r48 K x1 x3 x3 M5))))))
def f_X12_bars (a1 : Int32) (M : Mem) (K : Int32 → Mem → Prop) : Prop :=
  f_X12_isShop a1 M (fun v7 M7 =>
    ((¬ v7 = 0) →
      f_X12_findFour a1 M7 (fun M9 =>
        (((4 : Int32) ≤ (M9 287 80)) →
          f_X12_findShifts a1 (7 : Int32) M9 (fun v11 M11 =>
            ((v11 < 0) →
              Lp (fun (r48 : Int32 × Int32 × Int32 × Mem → Prop) a => f_X12_bars_c48 K r48 a.1 a.2.1 a.2.2.1 a.2.2.2) (a1, (7 : Int32), (6 : Int32), M11)) ∧
            ((¬ v11 < 0) →
              K (-9 : Int32) M11))) ∧
        ((¬ (4 : Int32) ≤ (M9 287 80)) →
          K (-8 : Int32) M9))) ∧
    ((v7 = 0) →
      f_X12_refuse (-1 : Int32) M7 (fun v13 M13 =>
        K v13 M13)))
def f_X12_isPiece (a1 : Int32) (M : Mem) (K : Int32 → Mem → Prop) : Prop :=
  f_X12_in a1 (0 : Int32) (4 : Int32) M (fun v1 M1 =>
    bz v1 ∧ K v1 M1)
def f_X12_study_b43 (K : Int32 → Mem → Prop) (M : Mem) : Prop :=
  f_X12_refuse (-6 : Int32) M (fun v9 M9 =>
    K v9 M9)
def f_X12_study (a1 : Int32) (a2 : Int32) (M : Mem) (K : Int32 → Mem → Prop) : Prop :=
  f_X12_isPiece a1 M (fun v10 M10 =>
    ((¬ v10 = 0) →
      (((1 : Int32) ≤ a2) →
        (((999 : Int32) < a2) →
          f_X12_study_b43 K M10) ∧
        ((¬ (999 : Int32) < a2) →
          vp_in a1 5 ∧
          ((¬ (M10 357 a1.toNatClampNeg) = (12 : Int32)) →
            vp_in a1 5 ∧
            vp_in (((12 : Int32) * a1) + (M10 357 a1.toNatClampNeg)) 60 ∧
            vp_in a1 5 ∧
            vp_in (((12 : Int32) * a1) + (M10 357 a1.toNatClampNeg)) 60 ∧
            vp_in a1 5 ∧
            vp_in a1 5 ∧
            vp_in a1 5 ∧
            K ((mset (mset (mset M10 358 ((((12 : Int32) * a1) + (M10 357 a1.toNatClampNeg)).toNatClampNeg) (M10 287 0)) 359 ((((12 : Int32) * a1) + (M10 357 a1.toNatClampNeg)).toNatClampNeg) a2) 357 a1.toNatClampNeg ((M10 357 a1.toNatClampNeg) + (1 : Int32))) 357 a1.toNatClampNeg) (mset (mset (mset M10 358 ((((12 : Int32) * a1) + (M10 357 a1.toNatClampNeg)).toNatClampNeg) (M10 287 0)) 359 ((((12 : Int32) * a1) + (M10 357 a1.toNatClampNeg)).toNatClampNeg) a2) 357 a1.toNatClampNeg ((M10 357 a1.toNatClampNeg) + (1 : Int32)))) ∧
          (((M10 357 a1.toNatClampNeg) = (12 : Int32)) →
            f_X12_study_b43 K M10))) ∧
      ((¬ (1 : Int32) ≤ a2) →
        f_X12_refuse (-4 : Int32) M10 (fun v23 M23 =>
          K v23 M23))) ∧
    ((v10 = 0) →
      f_X12_refuse (-1 : Int32) M10 (fun v24 M24 =>
        K v24 M24)))
def f_X12_timeOf_b113 (r19 : Int32 × Int32 × Int32 × Int32 × Int32 × Int32 × Int32 × Mem → Prop) (K : Int32 → Mem → Prop) (x1 : Int32) (x2 : Int32) (x3 : Int32) (x4 : Int32) (x5 : Int32) (x6 : Int32) (x7 : Int32) (M : Mem) : Prop :=
  r19 (x1, x2, x3, x4, x5, x6, (x7 + (1 : Int32)), M)
def f_X12_timeOf_b111 (r19 : Int32 × Int32 × Int32 × Int32 × Int32 × Int32 × Int32 × Mem → Prop) (K : Int32 → Mem → Prop) (x1 : Int32) (x2 : Int32) (x3 : Int32) (x4 : Int32) (x5 : Int32) (x7 : Int32) (s0 : Int32) (M : Mem) : Prop :=
  f_X12_timeOf_b113 r19 K x1 x2 x3 x4 x5 s0 x7 M
def f_X12_timeOf_b85 (r19 : Int32 × Int32 × Int32 × Int32 × Int32 × Int32 × Int32 × Mem → Prop) (K : Int32 → Mem → Prop) (x1 : Int32) (x2 : Int32) (x3 : Int32) (x4 : Int32) (x6 : Int32) (x7 : Int32) (s0 : Int32) (M : Mem) : Prop :=
  vp_in x7 60 ∧
  (((M 359 x7.toNatClampNeg) ≤ x6) →
    f_X12_timeOf_b111 r19 K x1 x2 x3 x4 s0 x7 x6 M) ∧
  ((¬ (M 359 x7.toNatClampNeg) ≤ x6) →
    vp_in x7 60 ∧
    f_X12_timeOf_b111 r19 K x1 x2 x3 x4 s0 x7 (M 359 x7.toNatClampNeg) M)
def f_X12_timeOf_b141 (K : Int32 → Mem → Prop) (s0 : Int32) (M : Mem) : Prop :=
  K s0 M
def f_X12_timeOf_c19 (K : Int32 → Mem → Prop) (r19 : Int32 × Int32 × Int32 × Int32 × Int32 × Int32 × Int32 × Mem → Prop) (x1 : Int32) (x2 : Int32) (x3 : Int32) (x4 : Int32) (x5 : Int32) (x6 : Int32) (x7 : Int32) (M : Mem) : Prop :=
  vp_in x1 5 ∧
  (((((12 : Int32) * x1) + (M 357 x1.toNatClampNeg)) ≤ x7) →
    (((3 : Int32) ≤ x3) →
      ¬ (x3 - (2 : Int32)) = 0 ∧
      f_X12_timeOf_b141 K (((x4 - x5) - x6) / (x3 - (2 : Int32))) M) ∧
    ((¬ (3 : Int32) ≤ x3) →
      f_X12_timeOf_b141 K (-9 : Int32) M)) ∧
  ((¬ (((12 : Int32) * x1) + (M 357 x1.toNatClampNeg)) ≤ x7) →
    vp_in x7 60 ∧
    ((x2 < (M 358 x7.toNatClampNeg)) →
      f_X12_timeOf_b113 r19 K x1 x2 x3 x4 x5 x6 x7 M) ∧
    ((¬ x2 < (M 358 x7.toNatClampNeg)) →
      vp_in x7 60 ∧
      vp_in x7 60 ∧
      ((x5 ≤ (M 359 x7.toNatClampNeg)) →
        f_X12_timeOf_b85 r19 K x1 x2 (x3 + (1 : Int32)) (x4 + (M 359 x7.toNatClampNeg)) x6 x7 x5 M) ∧
      ((¬ x5 ≤ (M 359 x7.toNatClampNeg)) →
        vp_in x7 60 ∧
        f_X12_timeOf_b85 r19 K x1 x2 (x3 + (1 : Int32)) (x4 + (M 359 x7.toNatClampNeg)) x6 x7 (M 359 x7.toNatClampNeg) M)))
def f_X12_timeOf (a1 : Int32) (a2 : Int32) (M : Mem) (K : Int32 → Mem → Prop) : Prop :=
  Lp (fun (r19 : Int32 × Int32 × Int32 × Int32 × Int32 × Int32 × Int32 × Mem → Prop) a => f_X12_timeOf_c19 K r19 a.1 a.2.1 a.2.2.1 a.2.2.2.1 a.2.2.2.2.1 a.2.2.2.2.2.1 a.2.2.2.2.2.2.1 a.2.2.2.2.2.2.2) (a1, a2, (0 : Int32), (0 : Int32), (1000 : Int32), (0 : Int32), ((12 : Int32) * a1), M)
def f_X12_time_b48 (K : Int32 → Mem → Prop) (s0 : Int32) (M : Mem) : Prop :=
  K s0 M
def f_X12_time (a1 : Int32) (a2 : Int32) (M : Mem) (K : Int32 → Mem → Prop) : Prop :=
  f_X12_isPiece a1 M (fun v1 M1 =>
    ((¬ v1 = 0) →
      ((0 ≤ a2) →
        ((a2 ≤ (1000 : Int32)) →
          f_X12_timeOf a1 a2 M1 (fun v5 M5 =>
            f_X12_time_b48 K v5 M5)) ∧
        ((¬ a2 ≤ (1000 : Int32)) →
          f_X12_refuse (-6 : Int32) M1 (fun v6 M6 =>
            f_X12_time_b48 K v6 M6))) ∧
      ((¬ 0 ≤ a2) →
        f_X12_refuse (-4 : Int32) M1 (fun v7 M7 =>
          f_X12_time_b48 K v7 M7))) ∧
    ((v1 = 0) →
      f_X12_refuse (-1 : Int32) M1 (fun v8 M8 =>
        K v8 M8)))
def f_X12_changed_b22 (K : Int32 → Mem → Prop) (M : Mem) : Prop :=
  f_X12_refuse (-4 : Int32) M (fun v1 M1 =>
    K v1 M1)
def f_X12_changed_b43 (K : Int32 → Mem → Prop) (M : Mem) : Prop :=
  f_X12_refuse (-6 : Int32) M (fun v2 M2 =>
    K v2 M2)
def f_X12_changed_b96 (K : Int32 → Mem → Prop) (s0 : Int32) (M : Mem) : Prop :=
  K s0 M
def f_X12_changed_b95 (K : Int32 → Mem → Prop) (M : Mem) : Prop :=
  f_X12_changed_b96 K (0 : Int32) M
def f_X12_changed_b75 (K : Int32 → Mem → Prop) (x2 : Int32) (x4 : Int32) (s0 : Int32) (M : Mem) : Prop :=
  ((x4 < 0) →
    f_X12_changed_b95 K M) ∧
  ((¬ x4 < 0) →
    ((((10 : Int32) * s0) ≤ x2) →
      f_X12_changed_b95 K M) ∧
    ((¬ ((10 : Int32) * s0) ≤ x2) →
      f_X12_changed_b96 K (1 : Int32) M))
def f_X12_changed (a1 : Int32) (a2 : Int32) (a3 : Int32) (M : Mem) (K : Int32 → Mem → Prop) : Prop :=
  f_X12_isPiece a1 M (fun v5 M5 =>
    ((¬ v5 = 0) →
      ((a2 < (1 : Int32)) →
        f_X12_changed_b22 K M5) ∧
      ((¬ a2 < (1 : Int32)) →
        ((0 ≤ a3) →
          (((999 : Int32) < a2) →
            f_X12_changed_b43 K M5) ∧
          ((¬ (999 : Int32) < a2) →
            ((a3 ≤ (1000 : Int32)) →
              f_X12_timeOf a1 a3 M5 (fun v11 M11 =>
                ((v11 ≤ a2) →
                  f_X12_changed_b75 K a2 v11 (a2 - v11) M11) ∧
                ((¬ v11 ≤ a2) →
                  f_X12_changed_b75 K a2 v11 (v11 - a2) M11))) ∧
            ((¬ a3 ≤ (1000 : Int32)) →
              f_X12_changed_b43 K M5))) ∧
        ((¬ 0 ≤ a3) →
          f_X12_changed_b22 K M5))) ∧
    ((v5 = 0) →
      f_X12_refuse (-1 : Int32) M5 (fun v13 M13 =>
        K v13 M13)))
def f_X12_weight (a1 : Int32) (a2 : Int32) (M : Mem) (K : Int32 → Mem → Prop) : Prop :=
  f_X12_in a1 (0 : Int32) (3 : Int32) M (fun v3 M3 =>
    ((¬ v3 = 0) →
      ((0 ≤ a2) →
        ((a2 ≤ (9 : Int32)) →
          vp_in a1 4 ∧
          vp_in a1 4 ∧
          K (M3 360 a1.toNatClampNeg) (mset M3 360 a1.toNatClampNeg a2)) ∧
        ((¬ a2 ≤ (9 : Int32)) →
          f_X12_refuse (-6 : Int32) M3 (fun v9 M9 =>
            K v9 M9))) ∧
      ((¬ 0 ≤ a2) →
        f_X12_refuse (-4 : Int32) M3 (fun v10 M10 =>
          K v10 M10))) ∧
    ((v3 = 0) →
      f_X12_refuse (-2 : Int32) M3 (fun v11 M11 =>
        K v11 M11)))
def f_X12_list_c10 (K : Int32 → Mem → Prop) (r10 : Int32 × Mem → Prop) (x1 : Int32) (M : Mem) : Prop :=
  (((48 : Int32) ≤ x1) →
    K (1 : Int32) M) ∧
  ((¬ (48 : Int32) ≤ x1) →
    vp_in x1 48 ∧
    vp_in x1 48 ∧
    r10 ((x1 + (1 : Int32)), (mset M 293 x1.toNatClampNeg (M 292 x1.toNatClampNeg))))
def f_X12_list (M : Mem) (K : Int32 → Mem → Prop) : Prop :=
  Lp (fun (r10 : Int32 × Mem → Prop) a => f_X12_list_c10 K r10 a.1 a.2) ((0 : Int32), (mset M 287 96 (M 287 0)))
def f_X12_right_b134 (K : Int32 → Mem → Prop) (x4 : Int32) (s0 : Int32) (s1 : Int32) (M : Mem) : Prop :=
  vp_in s1 48 ∧
  K x4 (mset M 293 s1.toNatClampNeg s0)
def f_X12_right_b120 (K : Int32 → Mem → Prop) (x3 : Int32) (x4 : Int32) (s0 : Int32) (M : Mem) : Prop :=
  f_X12_right_b134 K x4 x3 s0 M
def f_X12_right_b53 (K : Int32 → Mem → Prop) (x1 : Int32) (x2 : Int32) (x3 : Int32) (s0 : Int32) (s1 : Int32) (M : Mem) : Prop :=
  ((s1 ≤ s0) →
    vp_in (((2 : Int32) * x1) + x2) 48 ∧
    vp_in (((2 : Int32) * x1) + x2) 48 ∧
    (((M 287 96) < 0) →
      f_X12_right_b120 K x3 (M 292 ((((2 : Int32) * x1) + x2).toNatClampNeg)) (((2 : Int32) * x1) + x2) (mset M 292 ((((2 : Int32) * x1) + x2).toNatClampNeg) x3)) ∧
    ((¬ (M 287 96) < 0) →
      (((M 325 2) < ((M 287 0) - (M 287 96))) →
        vp_in (((2 : Int32) * x1) + x2) 48 ∧
        f_X12_right_b134 K (M 292 ((((2 : Int32) * x1) + x2).toNatClampNeg)) (M 293 ((((2 : Int32) * x1) + x2).toNatClampNeg)) (((2 : Int32) * x1) + x2) (mset M 292 ((((2 : Int32) * x1) + x2).toNatClampNeg) x3)) ∧
      ((¬ (M 325 2) < ((M 287 0) - (M 287 96))) →
        f_X12_right_b120 K x3 (M 292 ((((2 : Int32) * x1) + x2).toNatClampNeg)) (((2 : Int32) * x1) + x2) (mset M 292 ((((2 : Int32) * x1) + x2).toNatClampNeg) x3)))) ∧
  ((¬ s1 ≤ s0) →
    f_X12_refuse (-6 : Int32) M (fun v12 M12 =>
      K v12 M12))
def f_X12_right (a1 : Int32) (a2 : Int32) (a3 : Int32) (M : Mem) (K : Int32 → Mem → Prop) : Prop :=
  f_X12_isPerson a1 M (fun v13 M13 =>
    ((¬ v13 = 0) →
      f_X12_in a2 (0 : Int32) (1 : Int32) M13 (fun v15 M15 =>
        ((¬ v15 = 0) →
          ((0 ≤ a3) →
            ((¬ a2 = 0) →
              f_X12_right_b53 K a1 a2 a3 (100 : Int32) a3 M15) ∧
            ((a2 = 0) →
              f_X12_right_b53 K a1 a2 a3 (9 : Int32) a3 M15)) ∧
          ((¬ 0 ≤ a3) →
            f_X12_refuse (-4 : Int32) M15 (fun v19 M19 =>
              K v19 M19))) ∧
        ((v15 = 0) →
          f_X12_refuse (-2 : Int32) M15 (fun v20 M20 =>
            K v20 M20)))) ∧
    ((v13 = 0) →
      f_X12_refuse (-1 : Int32) M13 (fun v21 M21 =>
        K v21 M21)))
def f_X12_pointsOf (a1 : Int32) (M : Mem) (K : Int32 → Mem → Prop) : Prop :=
  vp_in a1 24 ∧
  vp_in a1 24 ∧
  vp_in ((2 : Int32) * a1) 48 ∧
  vp_in (((2 : Int32) * a1) + (1 : Int32)) 48 ∧
  K (((((M 360 0) * (((M 287 0) - (M 290 a1.toNatClampNeg)) / (365 : Int32))) + ((M 360 1) * (((M 287 0) - (M 291 a1.toNatClampNeg)) / (365 : Int32)))) + ((M 360 2) * (M 293 (((2 : Int32) * a1).toNatClampNeg)))) + ((M 360 3) * (M 293 ((((2 : Int32) * a1) + (1 : Int32)).toNatClampNeg)))) M
def f_X12_points_b21 (K : Int32 → Mem → Prop) (s0 : Int32) (M : Mem) : Prop :=
  K s0 M
def f_X12_points (a1 : Int32) (M : Mem) (K : Int32 → Mem → Prop) : Prop :=
  f_X12_isPerson a1 M (fun v1 M1 =>
    ((v1 = 0) →
      f_X12_refuse (-1 : Int32) M1 (fun v3 M3 =>
        f_X12_points_b21 K v3 M3)) ∧
    ((¬ v1 = 0) →
      f_X12_pointsOf a1 M1 (fun v4 M4 =>
        f_X12_points_b21 K v4 M4)))
def f_X12_goesAhead_b31 (K : Int32 → Mem → Prop) (s0 : Int32) (M : Mem) : Prop :=
  bz s0 ∧ K s0 M
def f_X12_goesAhead_b80 (K : Int32 → Mem → Prop) (s0 : Int32) (M : Mem) : Prop :=
  bz s0 ∧ K s0 M
def f_X12_goesAhead (a1 : Int32) (a2 : Int32) (M : Mem) (K : Int32 → Mem → Prop) : Prop :=
  f_X12_pointsOf a1 M (fun v7 M7 =>
    f_X12_pointsOf a2 M7 (fun v8 M8 =>
      ((v7 = v8) →
        vp_in a1 24 ∧
        vp_in a2 24 ∧
        (((M8 291 a1.toNatClampNeg) = (M8 291 a2.toNatClampNeg)) →
          ((a1 ≤ a2) →
            f_X12_goesAhead_b80 K (0 : Int32) M8) ∧
          ((¬ a1 ≤ a2) →
            f_X12_goesAhead_b80 K (1 : Int32) M8)) ∧
        ((¬ (M8 291 a1.toNatClampNeg) = (M8 291 a2.toNatClampNeg)) →
          vp_in a1 24 ∧
          vp_in a2 24 ∧
          (((M8 291 a1.toNatClampNeg) ≤ (M8 291 a2.toNatClampNeg)) →
            f_X12_goesAhead_b80 K (0 : Int32) M8) ∧
          ((¬ (M8 291 a1.toNatClampNeg) ≤ (M8 291 a2.toNatClampNeg)) →
            f_X12_goesAhead_b80 K (1 : Int32) M8))) ∧
      ((¬ v7 = v8) →
        f_X12_pointsOf a1 M8 (fun v17 M17 =>
          f_X12_pointsOf a2 M17 (fun v18 M18 =>
            ((v18 ≤ v17) →
              f_X12_goesAhead_b31 K (0 : Int32) M18) ∧
            ((¬ v18 ≤ v17) →
              f_X12_goesAhead_b31 K (1 : Int32) M18))))))
def f_X12_goes_b110 (r40 : Int32 × Int32 × Int32 × Int32 × Mem → Prop) (r55 : Int32 × Int32 × Int32 × Int32 × Int32 × Int32 × Mem → Prop) (K : Int32 → Mem → Prop) (x1 : Int32) (x2 : Int32) (x3 : Int32) (x4 : Int32) (x6 : Int32) (s0 : Int32) (s1 : Int32) (M : Mem) : Prop :=
  r55 (x1, x2, x3, x4, (s1 + s0), (x6 + (1 : Int32)), M)
def f_X12_goes_b109 (r40 : Int32 × Int32 × Int32 × Int32 × Mem → Prop) (r55 : Int32 × Int32 × Int32 × Int32 × Int32 × Int32 × Mem → Prop) (K : Int32 → Mem → Prop) (x1 : Int32) (x2 : Int32) (x3 : Int32) (x4 : Int32) (x6 : Int32) (s0 : Int32) (M : Mem) : Prop :=
  f_X12_goes_b110 r40 r55 K x1 x2 x3 x4 x6 (0 : Int32) s0 M
def f_X12_goes_b154 (r40 : Int32 × Int32 × Int32 × Int32 × Mem → Prop) (K : Int32 → Mem → Prop) (x1 : Int32) (x2 : Int32) (x3 : Int32) (x4 : Int32) (M : Mem) : Prop :=
  r40 (x1, x2, x3, (x4 + (1 : Int32)), M)
def f_X12_goes_c55 (r40 : Int32 × Int32 × Int32 × Int32 × Mem → Prop) (K : Int32 → Mem → Prop) (r55 : Int32 × Int32 × Int32 × Int32 × Int32 × Int32 × Mem → Prop) (x1 : Int32) (x2 : Int32) (x3 : Int32) (x4 : Int32) (x5 : Int32) (x6 : Int32) (M : Mem) : Prop :=
  (((M 287 2) ≤ x6) →
    vp_in x4 24 ∧
    ((¬ (M 289 x4.toNatClampNeg) = x1) →
      f_X12_goes_b154 r40 K x1 x2 x3 x4 M) ∧
    (((M 289 x4.toNatClampNeg) = x1) →
      vp_in x4 24 ∧
      ((¬ (M 294 x4.toNatClampNeg) = 0) →
        f_X12_goes_b154 r40 K x1 x2 x3 x4 M) ∧
      (((M 294 x4.toNatClampNeg) = 0) →
        ((¬ x5 = x3) →
          f_X12_goes_b154 r40 K x1 x2 x3 x4 M) ∧
        ((x5 = x3) →
          ((x2 ≤ x3) →
            f_X12_goes_b154 r40 K x1 x2 x3 x4 M) ∧
          ((¬ x2 ≤ x3) →
            K x4 M))))) ∧
  ((¬ (M 287 2) ≤ x6) →
    ((x6 = x4) →
      f_X12_goes_b109 r40 r55 K x1 x2 x3 x4 x6 x5 M) ∧
    ((¬ x6 = x4) →
      vp_in x6 24 ∧
      ((¬ (M 289 x6.toNatClampNeg) = x1) →
        f_X12_goes_b109 r40 r55 K x1 x2 x3 x4 x6 x5 M) ∧
      (((M 289 x6.toNatClampNeg) = x1) →
        vp_in x6 24 ∧
        ((¬ (M 294 x6.toNatClampNeg) = 0) →
          f_X12_goes_b109 r40 r55 K x1 x2 x3 x4 x6 x5 M) ∧
        (((M 294 x6.toNatClampNeg) = 0) →
          f_X12_goesAhead x6 x4 M (fun v17 M17 =>
            ((v17 = 0) →
              f_X12_goes_b109 r40 r55 K x1 x2 x3 x4 x6 x5 M17) ∧
            ((¬ v17 = 0) →
              f_X12_goes_b110 r40 r55 K x1 x2 x3 x4 x6 (1 : Int32) x5 M17))))))
def f_X12_goes_c40 (K : Int32 → Mem → Prop) (r40 : Int32 × Int32 × Int32 × Int32 × Mem → Prop) (x1 : Int32) (x2 : Int32) (x3 : Int32) (x4 : Int32) (M : Mem) : Prop :=
  (((M 287 2) ≤ x4) →
    K (-9 : Int32) M) ∧
  ((¬ (M 287 2) ≤ x4) →
    Lp (fun (r55 : Int32 × Int32 × Int32 × Int32 × Int32 × Int32 × Mem → Prop) a => f_X12_goes_c55 r40 K r55 a.1 a.2.1 a.2.2.1 a.2.2.2.1 a.2.2.2.2.1 a.2.2.2.2.2.1 a.2.2.2.2.2.2) (x1, x2, x3, x4, (0 : Int32), (0 : Int32), M))
def f_X12_goes (a1 : Int32) (a2 : Int32) (a3 : Int32) (M : Mem) (K : Int32 → Mem → Prop) : Prop :=
  f_X12_isShop a1 M (fun v20 M20 =>
    ((¬ v20 = 0) →
      ((0 ≤ a2) →
        ((a2 ≤ (24 : Int32)) →
          Lp (fun (r40 : Int32 × Int32 × Int32 × Int32 × Mem → Prop) a => f_X12_goes_c40 K r40 a.1 a.2.1 a.2.2.1 a.2.2.2.1 a.2.2.2.2) (a1, a2, a3, (0 : Int32), M20)) ∧
        ((¬ a2 ≤ (24 : Int32)) →
          f_X12_refuse (-6 : Int32) M20 (fun v24 M24 =>
            K v24 M24))) ∧
      ((¬ 0 ≤ a2) →
        f_X12_refuse (-4 : Int32) M20 (fun v25 M25 =>
          K v25 M25))) ∧
    ((v20 = 0) →
      f_X12_refuse (-1 : Int32) M20 (fun v26 M26 =>
        K v26 M26)))
def f_X12_planned_b13 (K : Int32 → Mem → Prop) (M : Mem) : Prop :=
  f_X12_refuse (-4 : Int32) M (fun v4 M4 =>
    K v4 M4)
def f_X12_planned_b57 (K : Int32 → Mem → Prop) (M : Mem) : Prop :=
  f_X12_refuse (-6 : Int32) M (fun v5 M5 =>
    K v5 M5)
def f_X12_planned (a1 : Int32) (a2 : Int32) (a3 : Int32) (M : Mem) (K : Int32 → Mem → Prop) : Prop :=
  ((a1 < (1 : Int32)) →
    f_X12_planned_b13 K M) ∧
  ((¬ a1 < (1 : Int32)) →
    ((a2 < 0) →
      f_X12_planned_b13 K M) ∧
    ((¬ a2 < 0) →
      ((0 ≤ a3) →
        ((a3 < ((1 : Int32) <<< ((M 287 97) &&& 31))) →
          (((3 : Int32) < a1) →
            f_X12_planned_b57 K M) ∧
          ((¬ (3 : Int32) < a1) →
            (((6 : Int32) < a2) →
              f_X12_planned_b57 K M) ∧
            ((¬ (6 : Int32) < a2) →
              ((¬ (M 287 97) = (7 : Int32)) →
                vp_in (M 287 97) 7 ∧
                vp_in (M 287 97) 7 ∧
                vp_in (M 287 97) 7 ∧
                K (((M 287 97) + (1 : Int32)) - (1 : Int32)) (mset (mset (mset (mset M 361 ((M 287 97).toNatClampNeg) a1) 362 ((M 287 97).toNatClampNeg) a2) 363 ((M 287 97).toNatClampNeg) a3) 287 97 ((M 287 97) + (1 : Int32)))) ∧
              (((M 287 97) = (7 : Int32)) →
                f_X12_planned_b57 K M)))) ∧
        ((¬ a3 < ((1 : Int32) <<< ((M 287 97) &&& 31))) →
          f_X12_refuse (-3 : Int32) M (fun v16 M16 =>
            K v16 M16))) ∧
      ((¬ 0 ≤ a3) →
        f_X12_planned_b13 K M)))
def f_X12_mayBeAt_b71 (r31 : Int32 × Int32 × Int32 × Int32 × Mem → Prop) (K : Int32 → Mem → Prop) (x1 : Int32) (x2 : Int32) (x4 : Int32) (s0 : Int32) (M : Mem) : Prop :=
  r31 (x1, x2, s0, (x4 + (1 : Int32)), M)
def f_X12_mayBeAt_b66 (r31 : Int32 × Int32 × Int32 × Int32 × Mem → Prop) (K : Int32 → Mem → Prop) (x1 : Int32) (x2 : Int32) (x4 : Int32) (M : Mem) : Prop :=
  f_X12_mayBeAt_b71 r31 K x1 x2 x4 (1 : Int32) M
def f_X12_mayBeAt_b70 (r31 : Int32 × Int32 × Int32 × Int32 × Mem → Prop) (K : Int32 → Mem → Prop) (x1 : Int32) (x2 : Int32) (x4 : Int32) (M : Mem) : Prop :=
  f_X12_mayBeAt_b71 r31 K x1 x2 x4 (0 : Int32) M
def f_X12_mayBeAt_c31 (K : Int32 → Mem → Prop) (r31 : Int32 × Int32 × Int32 × Int32 × Mem → Prop) (x1 : Int32) (x2 : Int32) (x3 : Int32) (x4 : Int32) (M : Mem) : Prop :=
  ((x1 ≤ x4) →
    bz x3 ∧ K x3 M) ∧
  ((¬ x1 ≤ x4) →
    ((x3 = 0) →
      f_X12_mayBeAt_b70 r31 K x1 x2 x4 M) ∧
    ((¬ x3 = 0) →
      vp_in x1 7 ∧
      (((((M 363 x1.toNatClampNeg) >>> (x4 &&& 31)) &&& (1 : Int32)) = 0) →
        f_X12_mayBeAt_b66 r31 K x1 x2 x4 M) ∧
      ((¬ (((M 363 x1.toNatClampNeg) >>> (x4 &&& 31)) &&& (1 : Int32)) = 0) →
        vp_in x4 7 ∧
        ((x2 ≤ (M 364 x4.toNatClampNeg)) →
          f_X12_mayBeAt_b70 r31 K x1 x2 x4 M) ∧
        ((¬ x2 ≤ (M 364 x4.toNatClampNeg)) →
          f_X12_mayBeAt_b66 r31 K x1 x2 x4 M))))
def f_X12_mayBeAt_b27 (K : Int32 → Mem → Prop) (x1 : Int32) (x2 : Int32) (s0 : Int32) (M : Mem) : Prop :=
  Lp (fun (r31 : Int32 × Int32 × Int32 × Int32 × Mem → Prop) a => f_X12_mayBeAt_c31 K r31 a.1 a.2.1 a.2.2.1 a.2.2.2.1 a.2.2.2.2) (x1, x2, s0, (0 : Int32), M)
def f_X12_mayBeAt (a1 : Int32) (a2 : Int32) (M : Mem) (K : Int32 → Mem → Prop) : Prop :=
  vp_in a2 7 ∧
  vp_in a1 7 ∧
  (((M 325 3) < ((M 367 a2.toNatClampNeg) + (M 361 a1.toNatClampNeg))) →
    f_X12_mayBeAt_b27 K a1 a2 (0 : Int32) M) ∧
  ((¬ (M 325 3) < ((M 367 a2.toNatClampNeg) + (M 361 a1.toNatClampNeg))) →
    f_X12_mayBeAt_b27 K a1 a2 (1 : Int32) M)
def f_X12_findPlan_c60 (r39 : Int32 × Int32 × Mem → Prop) (K : Int32 → Mem → Prop) (r60 : Int32 × Int32 × Int32 × Mem → Prop) (x1 : Int32) (x2 : Int32) (x3 : Int32) (M : Mem) : Prop :=
  (((M 287 97) ≤ x3) →
    r39 (x1, (x2 + (-1 : Int32)), M)) ∧
  ((¬ (M 287 97) ≤ x3) →
    vp_in x3 7 ∧
    vp_in x3 7 ∧
    r60 (x1, x2, (x3 + (1 : Int32)), (mset M 365 x3.toNatClampNeg (M 364 x3.toNatClampNeg))))
def f_X12_findPlan_b254 (r39 : Int32 × Int32 × Mem → Prop) (K : Int32 → Mem → Prop) (x1 : Int32) (x2 : Int32) (M : Mem) : Prop :=
  r39 (x1, x2, M)
def f_X12_findPlan_b238 (r39 : Int32 × Int32 × Mem → Prop) (K : Int32 → Mem → Prop) (x1 : Int32) (x2 : Int32) (M : Mem) : Prop :=
  (((7 : Int32) ≤ (x2 + (1 : Int32))) →
    f_X12_findPlan_b254 r39 K x1 (x2 + (1 : Int32)) M) ∧
  ((¬ (7 : Int32) ≤ (x2 + (1 : Int32))) →
    vp_in (x2 + (1 : Int32)) 7 ∧
    f_X12_findPlan_b254 r39 K x1 (x2 + (1 : Int32)) (mset M 364 ((x2 + (1 : Int32)).toNatClampNeg) (-1 : Int32)))
def f_X12_findPlan_b220 (r39 : Int32 × Int32 × Mem → Prop) (K : Int32 → Mem → Prop) (x1 : Int32) (x2 : Int32) (s0 : Int32) (s1 : Int32) (s2 : Int32) (M : Mem) : Prop :=
  vp_in s2 8 ∧
  ((x1 < 0) →
    f_X12_findPlan_b238 r39 K x1 x2 (mset M 366 s2.toNatClampNeg (s1 + s0))) ∧
  ((¬ x1 < 0) →
    vp_in (x2 + (1 : Int32)) 8 ∧
    ((x1 ≤ ((mset M 366 s2.toNatClampNeg (s1 + s0)) 366 ((x2 + (1 : Int32)).toNatClampNeg))) →
      f_X12_findPlan_b254 r39 K x1 x2 (mset M 366 s2.toNatClampNeg (s1 + s0))) ∧
    ((¬ x1 ≤ ((mset M 366 s2.toNatClampNeg (s1 + s0)) 366 ((x2 + (1 : Int32)).toNatClampNeg))) →
      f_X12_findPlan_b238 r39 K x1 x2 (mset M 366 s2.toNatClampNeg (s1 + s0))))
def f_X12_findPlan_b151 (r39 : Int32 × Int32 × Mem → Prop) (K : Int32 → Mem → Prop) (x1 : Int32) (x2 : Int32) (x3 : Int32) (M : Mem) : Prop :=
  ((¬ x3 = (7 : Int32)) →
    vp_in x2 7 ∧
    vp_in x3 7 ∧
    vp_in x2 7 ∧
    vp_in x3 7 ∧
    vp_in x2 8 ∧
    vp_in x2 7 ∧
    ((x3 ≤ (M 362 x2.toNatClampNeg)) →
      f_X12_findPlan_b220 r39 K x1 x2 (0 : Int32) (M 366 x2.toNatClampNeg) (x2 + (1 : Int32)) (mset (mset M 364 x2.toNatClampNeg x3) 367 x3.toNatClampNeg ((M 367 x3.toNatClampNeg) + (M 361 x2.toNatClampNeg)))) ∧
    ((¬ x3 ≤ (M 362 x2.toNatClampNeg)) →
      vp_in x2 7 ∧
      f_X12_findPlan_b220 r39 K x1 x2 (x3 - (M 362 x2.toNatClampNeg)) (M 366 x2.toNatClampNeg) (x2 + (1 : Int32)) (mset (mset M 364 x2.toNatClampNeg x3) 367 x3.toNatClampNeg ((M 367 x3.toNatClampNeg) + (M 361 x2.toNatClampNeg))))) ∧
  ((x3 = (7 : Int32)) →
    r39 (x1, (x2 + (-1 : Int32)), M))
def f_X12_findPlan_c130 (r39 : Int32 × Int32 × Mem → Prop) (K : Int32 → Mem → Prop) (r130 : Int32 × Int32 × Int32 × Mem → Prop) (x1 : Int32) (x2 : Int32) (x3 : Int32) (M : Mem) : Prop :=
  (((7 : Int32) ≤ x3) →
    f_X12_findPlan_b151 r39 K x1 x2 x3 M) ∧
  ((¬ (7 : Int32) ≤ x3) →
    f_X12_mayBeAt x2 x3 M (fun v40 M40 =>
      ((¬ v40 = 0) →
        f_X12_findPlan_b151 r39 K x1 x2 x3 M40) ∧
      ((v40 = 0) →
        r130 (x1, x2, (x3 + (1 : Int32)), M40))))
def f_X12_findPlan_b121 (r39 : Int32 × Int32 × Mem → Prop) (K : Int32 → Mem → Prop) (x1 : Int32) (x2 : Int32) (M : Mem) : Prop :=
  vp_in x2 7 ∧
  Lp (fun (r130 : Int32 × Int32 × Int32 × Mem → Prop) a => f_X12_findPlan_c130 r39 K r130 a.1 a.2.1 a.2.2.1 a.2.2.2) (x1, x2, ((M 364 x2.toNatClampNeg) + (1 : Int32)), M)
def f_X12_findPlan_c39 (K : Int32 → Mem → Prop) (r39 : Int32 × Int32 × Mem → Prop) (x1 : Int32) (x2 : Int32) (M : Mem) : Prop :=
  ((x2 < 0) →
    K x1 M) ∧
  ((¬ x2 < 0) →
    ((¬ x2 = (M 287 97)) →
      vp_in x2 7 ∧
      (((M 364 x2.toNatClampNeg) < 0) →
        f_X12_findPlan_b121 r39 K x1 x2 M) ∧
      ((¬ (M 364 x2.toNatClampNeg) < 0) →
        vp_in x2 7 ∧
        vp_in (M 364 x2.toNatClampNeg) 7 ∧
        vp_in x2 7 ∧
        vp_in (M 364 x2.toNatClampNeg) 7 ∧
        f_X12_findPlan_b121 r39 K x1 x2 (mset M 367 ((M 364 x2.toNatClampNeg).toNatClampNeg) ((M 367 ((M 364 x2.toNatClampNeg).toNatClampNeg)) - (M 361 x2.toNatClampNeg))))) ∧
    ((x2 = (M 287 97)) →
      vp_in x2 8 ∧
      Lp (fun (r60 : Int32 × Int32 × Int32 × Mem → Prop) a => f_X12_findPlan_c60 r39 K r60 a.1 a.2.1 a.2.2.1 a.2.2.2) ((M 366 x2.toNatClampNeg), x2, (0 : Int32), M)))
def f_X12_findPlan_c6 (K : Int32 → Mem → Prop) (r6 : Int32 × Int32 × Int32 × Mem → Prop) (x1 : Int32) (x2 : Int32) (x3 : Int32) (M : Mem) : Prop :=
  (((7 : Int32) ≤ x3) →
    Lp (fun (r39 : Int32 × Int32 × Mem → Prop) a => f_X12_findPlan_c39 K r39 a.1 a.2.1 a.2.2) (x1, x2, (mset (mset M 366 0 (0 : Int32)) 364 0 (-1 : Int32)))) ∧
  ((¬ (7 : Int32) ≤ x3) →
    vp_in x3 7 ∧
    r6 (x1, x2, (x3 + (1 : Int32)), (mset M 367 x3.toNatClampNeg (0 : Int32))))
def f_X12_findPlan (M : Mem) (K : Int32 → Mem → Prop) : Prop :=
  Lp (fun (r6 : Int32 × Int32 × Int32 × Mem → Prop) a => f_X12_findPlan_c6 K r6 a.1 a.2.1 a.2.2.1 a.2.2.2) ((-1 : Int32), (0 : Int32), (0 : Int32), M)
def f_X12_plan_b15 (K : Int32 → Mem → Prop) (s0 : Int32) (M : Mem) : Prop :=
  K s0 M
def f_X12_plan (M : Mem) (K : Int32 → Mem → Prop) : Prop :=
  f_X12_findPlan M (fun v1 M1 =>
    ((0 ≤ v1) →
      f_X12_plan_b15 K v1 M1) ∧
    ((¬ 0 ≤ v1) →
      f_X12_plan_b15 K (-9 : Int32) M1))
def f_X12_placeOf_b38 (K : Int32 → Mem → Prop) (s0 : Int32) (M : Mem) : Prop :=
  K s0 M
def f_X12_placeOf (a1 : Int32) (M : Mem) (K : Int32 → Mem → Prop) : Prop :=
  f_X12_in a1 (0 : Int32) ((M 287 97) - (1 : Int32)) M (fun v2 M2 =>
    ((¬ v2 = 0) →
      f_X12_findPlan M2 (fun v4 M4 =>
        ((0 ≤ v4) →
          vp_in a1 7 ∧
          f_X12_placeOf_b38 K (M4 365 a1.toNatClampNeg) M4) ∧
        ((¬ 0 ≤ v4) →
          f_X12_placeOf_b38 K (-9 : Int32) M4))) ∧
    ((v2 = 0) →
      f_X12_refuse (-1 : Int32) M2 (fun v7 M7 =>
        K v7 M7)))
def f_X12_put (a1 : Int32) (M : Mem) (K : Int32 → Mem → Prop) : Prop :=
  ((¬ (M 287 106) = (40 : Int32)) →
    vp_in (M 287 106) 40 ∧
    K ((M 287 106) + (1 : Int32)) (mset (mset M 368 ((M 287 106).toNatClampNeg) a1) 287 106 ((M 287 106) + (1 : Int32)))) ∧
  (((M 287 106) = (40 : Int32)) →
    f_X12_refuse (-6 : Int32) M (fun v4 M4 =>
      K v4 M4))
def f_X12_check_b8 (K : Int32 → Mem → Prop) (M : Mem) : Prop :=
  f_X12_refuse (-4 : Int32) M (fun v3 M3 =>
    K v3 M3)
def f_X12_check_b28 (K : Int32 → Mem → Prop) (M : Mem) : Prop :=
  f_X12_refuse (-3 : Int32) M (fun v4 M4 =>
    K v4 M4)
def f_X12_check_b92 (K : Int32 → Mem → Prop) (x4 : Int32) (M : Mem) : Prop :=
  K x4 M
def f_X12_check_c48 (K : Int32 → Mem → Prop) (r48 : Int32 × Int32 × Int32 × Int32 × Mem → Prop) (x1 : Int32) (x2 : Int32) (x3 : Int32) (x4 : Int32) (M : Mem) : Prop :=
  ((x3 ≤ x4) →
    K (-9 : Int32) M) ∧
  ((¬ x3 ≤ x4) →
    (((M 287 32) ≤ x4) →
      f_X12_check_b92 K x4 M) ∧
    ((¬ (M 287 32) ≤ x4) →
      vp_in x4 40 ∧
      ((x1 < (M 313 x4.toNatClampNeg)) →
        f_X12_check_b92 K x4 M) ∧
      ((¬ x1 < (M 313 x4.toNatClampNeg)) →
        f_X12_stateOf x4 x1 x2 M (fun v9 M9 =>
          vp_in x4 40 ∧
          ((v9 = (M9 368 x4.toNatClampNeg)) →
            r48 (x1, x2, x3, (x4 + (1 : Int32)), M9)) ∧
          ((¬ v9 = (M9 368 x4.toNatClampNeg)) →
            f_X12_check_b92 K x4 M9)))))
def f_X12_check (a1 : Int32) (a2 : Int32) (M : Mem) (K : Int32 → Mem → Prop) : Prop :=
  ((a1 < 0) →
    f_X12_check_b8 K M) ∧
  ((¬ a1 < 0) →
    ((0 ≤ a2) →
      ((a2 < a1) →
        f_X12_check_b28 K M) ∧
      ((¬ a2 < a1) →
        ((a2 ≤ (M 287 0)) →
          Lp (fun (r48 : Int32 × Int32 × Int32 × Int32 × Mem → Prop) a => f_X12_check_c48 K r48 a.1 a.2.1 a.2.2.1 a.2.2.2.1 a.2.2.2.2) (a1, a2, (M 287 106), (0 : Int32), (mset M 287 106 (0 : Int32)))) ∧
        ((¬ a2 ≤ (M 287 0)) →
          f_X12_check_b28 K M))) ∧
    ((¬ 0 ≤ a2) →
      f_X12_check_b8 K M))
def f_X12_count_b90 (r67 : Int32 × Int32 × Mem → Prop) (K : Int32 → Mem → Prop) (x3 : Int32) (s0 : Int32) (s1 : Int32) (M : Mem) : Prop :=
  r67 ((s1 + s0), (x3 + (1 : Int32)), M)
def f_X12_count_c67 (K : Int32 → Mem → Prop) (r67 : Int32 × Int32 × Mem → Prop) (x2 : Int32) (x3 : Int32) (M : Mem) : Prop :=
  (((M 287 2) ≤ x3) →
    K x2 M) ∧
  ((¬ (M 287 2) ≤ x3) →
    vp_in x3 24 ∧
    (((M 294 x3.toNatClampNeg) = 0) →
      f_X12_count_b90 r67 K x3 (1 : Int32) x2 M) ∧
    ((¬ (M 294 x3.toNatClampNeg) = 0) →
      f_X12_count_b90 r67 K x3 (0 : Int32) x2 M))
def f_X12_count_b144 (r122 : Int32 × Int32 × Mem → Prop) (K : Int32 → Mem → Prop) (x3 : Int32) (s0 : Int32) (s1 : Int32) (M : Mem) : Prop :=
  r122 ((s1 + s0), (x3 + (1 : Int32)), M)
def f_X12_count_c122 (K : Int32 → Mem → Prop) (r122 : Int32 × Int32 × Mem → Prop) (x2 : Int32) (x3 : Int32) (M : Mem) : Prop :=
  (((M 287 57) ≤ x3) →
    K x2 M) ∧
  ((¬ (M 287 57) ≤ x3) →
    f_X12_holdsNow x3 M (fun v7 M7 =>
      ((v7 = 0) →
        f_X12_count_b144 r122 K x3 (0 : Int32) x2 M7) ∧
      ((¬ v7 = 0) →
        f_X12_count_b144 r122 K x3 (1 : Int32) x2 M7)))
def f_X12_count_b183 (r161 : Int32 × Int32 × Mem → Prop) (K : Int32 → Mem → Prop) (x3 : Int32) (s0 : Int32) (s1 : Int32) (M : Mem) : Prop :=
  r161 ((s1 + s0), (x3 + (1 : Int32)), M)
def f_X12_count_c161 (K : Int32 → Mem → Prop) (r161 : Int32 × Int32 × Mem → Prop) (x2 : Int32) (x3 : Int32) (M : Mem) : Prop :=
  (((M 287 67) ≤ x3) →
    K x2 M) ∧
  ((¬ (M 287 67) ≤ x3) →
    f_X12_voidSince x3 M (fun v10 M10 =>
      ((v10 < 0) →
        f_X12_count_b183 r161 K x3 (0 : Int32) x2 M10) ∧
      ((¬ v10 < 0) →
        f_X12_count_b183 r161 K x3 (1 : Int32) x2 M10)))
def f_X12_count_b228 (K : Int32 → Mem → Prop) (s0 : Int32) (M : Mem) : Prop :=
  K s0 M
def f_X12_count (a1 : Int32) (M : Mem) (K : Int32 → Mem → Prop) : Prop :=
  ((a1.toInt < 0 ∨ 10 < a1.toInt) →
    f_X12_in a1 (11 : Int32) (16 : Int32) M (fun v12 M12 =>
      ((v12 = 0) →
        f_X12_count_b228 K (-9 : Int32) M12) ∧
      ((¬ v12 = 0) →
        vp_in (a1 - (10 : Int32)) 7 ∧
        f_X12_count_b228 K (M12 295 ((a1 - (10 : Int32)).toNatClampNeg)) M12))) ∧
  ((a1 = (0 : Int32)) →
    K (M 287 0) M) ∧
  ((a1 = (1 : Int32)) →
    Lp (fun (r67 : Int32 × Int32 × Mem → Prop) a => f_X12_count_c67 K r67 a.1 a.2.1 a.2.2) ((0 : Int32), (0 : Int32), M)) ∧
  ((a1 = (2 : Int32)) →
    K (M 287 12) M) ∧
  ((a1 = (3 : Int32)) →
    K (M 287 32) M) ∧
  ((a1 = (4 : Int32)) →
    K (M 287 48) M) ∧
  ((a1 = (5 : Int32)) →
    K (M 287 52) M) ∧
  ((a1 = (6 : Int32)) →
    Lp (fun (r122 : Int32 × Int32 × Mem → Prop) a => f_X12_count_c122 K r122 a.1 a.2.1 a.2.2) ((0 : Int32), (0 : Int32), M)) ∧
  ((a1 = (7 : Int32)) →
    K (M 287 67) M) ∧
  ((a1 = (8 : Int32)) →
    Lp (fun (r161 : Int32 × Int32 × Mem → Prop) a => f_X12_count_c161 K r161 a.1 a.2.1 a.2.2) ((0 : Int32), (0 : Int32), M)) ∧
  ((a1 = (9 : Int32)) →
    K (M 287 11) M) ∧
  ((a1 = (10 : Int32)) →
    K (M 287 106) M)
