/-! the methods as functions of the memory (printed by program out of the class files' listing) -/
def f_Loaf_begin_12 (k12 : Nat × Int32 × ZM → Option (Unit × ZM)) (x0 : Nat) (x3 : Int32) (σ : ZM) : Option (Unit × ZM) :=
  if (4 : Int32) ≤ x3 then (
    some ((), σ)
  ) else (
    zck (zin x3 4) (
    zck (zin x3 4) (
    k12 (x0, (x3 + (1 : Int32)), (zsI (zsI σ (x0 + 12) x3.toNatClampNeg (0 : Int32)) (x0 + 24) x3.toNatClampNeg (9 : Int32)))))
  )
def F_Loaf_begin_12 (N : Nat) : Nat × Int32 × ZM → Option (Unit × ZM) := zlp (fun k12 a => f_Loaf_begin_12 k12 a.1 a.2.1 a.2.2) N
def f_Loaf_begin (x0 : Nat) (x1 : Int32) (x2 : Int32) (σ : ZM) : Option (Unit × ZM) :=
  zck (zR 0 129 x0 16 0) (
  F_Loaf_begin_12 2000 (x0, (0 : Int32), (zsI (zsI σ x0 3 x1) x0 4 x2)))
def f_BB_loaf (x1 : Int32) (x2 : Int32) (σ : ZM) : Option (Int32 × ZM) :=
  if x1 < 0 then (
    some ((-1 : Int32), σ)
  ) else (
    if x1 ≤ (6 : Int32) then (
      if x2 < 0 then (
        some ((-2 : Int32), σ)
      ) else (
        if x2 ≤ (9 : Int32) then (
          if (zI σ 1 3) < (6 : Int32) then (
            zck (zin (zI σ 1 3) 6) (
            zck (zR 0 129 (zel 25 (zI σ 1 3).toNatClampNeg) 16 0) (
            zbd (f_Loaf_begin (zel 25 (zI σ 1 3).toNatClampNeg) x1 x2 σ) fun v8 s9 => (
            some ((zI (zsI s9 1 3 ((zI s9 1 3) + (1 : Int32))) 1 3) - (1 : Int32), (zsI s9 1 3 ((zI s9 1 3) + (1 : Int32)))))))
          ) else (
            some ((-4 : Int32), σ)
          )
        ) else (
          some ((-2 : Int32), σ)
        )
      )
    ) else (
      some ((-1 : Int32), σ)
    )
  )
def f_BB_isLoaf (x1 : Int32) (σ : ZM) : Option (Int32 × ZM) :=
  if x1 < 0 then (
    some ((0 : Int32), σ)
  ) else (
    if (zI σ 1 3) ≤ x1 then (
      some ((0 : Int32), σ)
    ) else (
      some ((1 : Int32), σ)
    )
  )
def f_BB_isTaste (x0 : Int32) (σ : ZM) : Option (Int32 × ZM) :=
  if x0 < 0 then (
    some ((0 : Int32), σ)
  ) else (
    if (4 : Int32) ≤ x0 then (
      some ((0 : Int32), σ)
    ) else (
      some ((1 : Int32), σ)
    )
  )
def f_BB_set_72 (x2 : Int32) (x4 : Int32) (y0 : Nat) (σ : ZM) : Option (Int32 × ZM) :=
  zck (zin x2 4) (
  zck (zin x2 4) (
  some (zI σ y0 x2.toNatClampNeg, (zsI σ y0 x2.toNatClampNeg x4))))
def f_BB_set (x1 : Int32) (x2 : Int32) (x3 : Int32) (x4 : Int32) (σ : ZM) : Option (Int32 × ZM) :=
  zbd (f_BB_isLoaf x1 σ) fun v1 s2 => (
  if v1 = 0 then (
    some ((-1 : Int32), s2)
  ) else (
    zbd (f_BB_isTaste x2 s2) fun v5 s6 => (
    if v5 = 0 then (
      some ((-1 : Int32), s6)
    ) else (
      if x3 < 0 then (
        some ((-1 : Int32), s6)
      ) else (
        if x3 ≤ (1 : Int32) then (
          if x4 < 0 then (
            some ((-2 : Int32), s6)
          ) else (
            if x4 ≤ (99 : Int32) then (
              if x3 = 0 then (
                zck (zin x1 6) (
                zck (zR 0 129 (zel 25 x1.toNatClampNeg) 16 0) (
                f_BB_set_72 x2 x4 ((zel 25 x1.toNatClampNeg) + 12) s6))
              ) else (
                zck (zin x1 6) (
                zck (zR 0 129 (zel 25 x1.toNatClampNeg) 16 0) (
                f_BB_set_72 x2 x4 ((zel 25 x1.toNatClampNeg) + 24) s6))
              )
            ) else (
              some ((-2 : Int32), s6)
            )
          )
        ) else (
          some ((-1 : Int32), s6)
        )
      )
    ))
  ))
def f_Kiln_lookAt (x0 : Nat) (x1 : Nat) (x2 : Int32) (x3 : Int32) (x4 : Int32) (σ : ZM) : Option (Unit × ZM) :=
  zck (zR 0 129 x0 15 0) (
  zck (zR 0 129 x1 16 0) (
  zck (zin (0 : Int32) 6) (
  zck (zin (1 : Int32) 6) (
  zck (zin (2 : Int32) 6) (
  zck (zin (3 : Int32) 6) (
  zck (zin (4 : Int32) 6) (
  zck (zin (5 : Int32) 6) (
  some ((), (zsI (zsI (zsI (zsI (zsI (zsI σ (x0 + 35) (0 : Int32).toNatClampNeg (zI σ x1 0)) (x0 + 35) (1 : Int32).toNatClampNeg (zI (zsI σ (x0 + 35) (0 : Int32).toNatClampNeg (zI σ x1 0)) x1 3)) (x0 + 35) (2 : Int32).toNatClampNeg x2) (x0 + 35) (3 : Int32).toNatClampNeg (zI (zsI (zsI (zsI σ (x0 + 35) (0 : Int32).toNatClampNeg (zI σ x1 0)) (x0 + 35) (1 : Int32).toNatClampNeg (zI (zsI σ (x0 + 35) (0 : Int32).toNatClampNeg (zI σ x1 0)) x1 3)) (x0 + 35) (2 : Int32).toNatClampNeg x2) x1 4)) (x0 + 35) (4 : Int32).toNatClampNeg (x4 - x4 / (60 : Int32) * (60 : Int32))) (x0 + 35) (5 : Int32).toNatClampNeg x3))))))))))
def f_Kiln_holds_175 (k5 : Nat × Int32 × Int64 × Int32 × ZM → Option (Int32 × ZM)) (x0 : Nat) (x2 : Int32) (x3 : Int64) (x5 : Int32) (σ : ZM) : Option (Int32 × ZM) :=
  k5 (x0, x2, x3, (x5 + (1 : Int32)), σ)
def f_Kiln_holds_172 (k5 : Nat × Int32 × Int64 × Int32 × ZM → Option (Int32 × ZM)) (x0 : Nat) (x2 : Int32) (x5 : Int32) (y0 : Int32) (y1 : Int64) (σ : ZM) : Option (Int32 × ZM) :=
  f_Kiln_holds_175 k5 x0 x2 (y1 ||| y0.toInt64) x5 σ
def f_Kiln_holds_157 (k5 : Nat × Int32 × Int64 × Int32 × ZM → Option (Int32 × ZM)) (x0 : Nat) (x2 : Int32) (x3 : Int64) (x5 : Int32) (y0 : Int32) (σ : ZM) : Option (Int32 × ZM) :=
  if y0 = 0 then (
    f_Kiln_holds_172 k5 x0 x2 x5 (0 : Int32) (x3 <<< ((1 : Int32).toInt64 &&& 63)) σ
  ) else (
    f_Kiln_holds_172 k5 x0 x2 x5 (1 : Int32) (x3 <<< ((1 : Int32).toInt64 &&& 63)) σ
  )
def f_Kiln_holds_5 (k5 : Nat × Int32 × Int64 × Int32 × ZM → Option (Int32 × ZM)) (x0 : Nat) (x2 : Int32) (x3 : Int64) (x5 : Int32) (σ : ZM) : Option (Int32 × ZM) :=
  if x2 ≤ x5 then (
    if (lg_cmp (x3 &&& (1 : Int64)) (1 : Int64)) = 0 then (
      some ((1 : Int32), σ)
    ) else (
      some ((0 : Int32), σ)
    )
  ) else (
    zck (zin x5 100) (
    if (zI σ (x0 + 28) x5.toNatClampNeg) = (-1 : Int32) then (
      f_Kiln_holds_175 k5 x0 x2 (x3 ^^^ (1 : Int64)) x5 σ
    ) else (
      if (zI σ (x0 + 28) x5.toNatClampNeg) = (-2 : Int32) then (
        f_Kiln_holds_175 k5 x0 x2 ((x3 >>> ((1 : Int32).toInt64 &&& 63)) &&& ((x3 &&& (1 : Int64)) ||| (-2 : Int64))) x5 σ
      ) else (
        if (zI σ (x0 + 28) x5.toNatClampNeg) = (-3 : Int32) then (
          f_Kiln_holds_175 k5 x0 x2 ((x3 >>> ((1 : Int32).toInt64 &&& 63)) ||| (x3 &&& (1 : Int64))) x5 σ
        ) else (
          zck (zin ((zI σ (x0 + 28) x5.toNatClampNeg) >>> ((9 : Int32) &&& 31)) 6) (
          if (((zI σ (x0 + 28) x5.toNatClampNeg) >>> ((7 : Int32) &&& 31)) &&& (3 : Int32)) = 0 then (
            if ((zI σ (x0 + 28) x5.toNatClampNeg) &&& (127 : Int32)) ≤ (zI σ (x0 + 35) ((zI σ (x0 + 28) x5.toNatClampNeg) >>> ((9 : Int32) &&& 31)).toNatClampNeg) then (
              f_Kiln_holds_157 k5 x0 x2 x3 x5 (0 : Int32) σ
            ) else (
              f_Kiln_holds_157 k5 x0 x2 x3 x5 (1 : Int32) σ
            )
          ) else (
            if (((zI σ (x0 + 28) x5.toNatClampNeg) >>> ((7 : Int32) &&& 31)) &&& (3 : Int32)) = (1 : Int32) then (
              if (zI σ (x0 + 35) ((zI σ (x0 + 28) x5.toNatClampNeg) >>> ((9 : Int32) &&& 31)).toNatClampNeg) = ((zI σ (x0 + 28) x5.toNatClampNeg) &&& (127 : Int32)) then (
                f_Kiln_holds_157 k5 x0 x2 x3 x5 (1 : Int32) σ
              ) else (
                f_Kiln_holds_157 k5 x0 x2 x3 x5 (0 : Int32) σ
              )
            ) else (
              if (zI σ (x0 + 35) ((zI σ (x0 + 28) x5.toNatClampNeg) >>> ((9 : Int32) &&& 31)).toNatClampNeg) ≤ ((zI σ (x0 + 28) x5.toNatClampNeg) &&& (127 : Int32)) then (
                f_Kiln_holds_157 k5 x0 x2 x3 x5 (0 : Int32) σ
              ) else (
                f_Kiln_holds_157 k5 x0 x2 x3 x5 (1 : Int32) σ
              )
            )
          ))
        )
      )
    ))
  )
def F_Kiln_holds_5 (N : Nat) : Nat × Int32 × Int64 × Int32 × ZM → Option (Int32 × ZM) := zlp (fun k5 a => f_Kiln_holds_5 k5 a.1 a.2.1 a.2.2.1 a.2.2.2.1 a.2.2.2.2) N
def f_Kiln_holds (x0 : Nat) (x1 : Int32) (x2 : Int32) (σ : ZM) : Option (Int32 × ZM) :=
  zck (zR 0 129 x0 15 0) (
  F_Kiln_holds_5 2000 (x0, x2, (0 : Int64), x1, σ))
def f_Kiln_sum_52 (k7 : Nat × Int32 × Int32 × Int32 × Int32 × ZM → Option (Int32 × ZM)) (x0 : Nat) (x1 : Int32) (x2 : Int32) (x4 : Int32) (σ : ZM) : Option (Int32 × ZM) :=
  zck (zin x4 10) (
  k7 (x0, x1, x2, (zI σ (x0 + 21) x4.toNatClampNeg), (x4 + (1 : Int32)), σ))
def f_Kiln_sum_7 (k7 : Nat × Int32 × Int32 × Int32 × Int32 × ZM → Option (Int32 × ZM)) (x0 : Nat) (x1 : Int32) (x2 : Int32) (x3 : Int32) (x4 : Int32) (σ : ZM) : Option (Int32 × ZM) :=
  if (zI σ x0 5) ≤ x4 then (
    some (x2, σ)
  ) else (
    zck (zin x4 10) (
    if (zI σ (x0 + 7) x4.toNatClampNeg) = x1 then (
      zck (zin x4 10) (
      zbd (f_Kiln_holds x0 x3 (zI σ (x0 + 21) x4.toNatClampNeg) σ) fun v5 s6 => (
      if v5 = 0 then (
        f_Kiln_sum_52 k7 x0 x1 x2 x4 s6
      ) else (
        zck (zin x4 10) (
        f_Kiln_sum_52 k7 x0 x1 (x2 + (zI s6 (x0 + 14) x4.toNatClampNeg)) x4 s6)
      )))
    ) else (
      f_Kiln_sum_52 k7 x0 x1 x2 x4 σ
    ))
  )
def F_Kiln_sum_7 (N : Nat) : Nat × Int32 × Int32 × Int32 × Int32 × ZM → Option (Int32 × ZM) := zlp (fun k7 a => f_Kiln_sum_7 k7 a.1 a.2.1 a.2.2.1 a.2.2.2.1 a.2.2.2.2.1 a.2.2.2.2.2) N
def f_Kiln_sum (x0 : Nat) (x1 : Int32) (σ : ZM) : Option (Int32 × ZM) :=
  zck (zR 0 129 x0 15 0) (
  F_Kiln_sum_7 2000 (x0, x1, (0 : Int32), (0 : Int32), (0 : Int32), σ))
def f_Baker_feeOf (x1 : Nat) (x2 : Int32) (σ : ZM) : Option (Int32 × ZM) :=
  zck (zR 0 129 x1 16 0) (
  zck (zR 0 129 (zP σ 5 0) 15 0) (
  zbd (f_Kiln_lookAt (zP σ 5 0) x1 (99 : Int32) (99 : Int32) x2 σ) fun v2 s3 => (
  zck (zR 0 129 (zP s3 5 0) 15 0) (
  zbd (f_Kiln_sum (zP s3 5 0) (3 : Int32) s3) fun v6 s7 => (
  some ((1 : Int32) + v6, s7))))))
def f_Baker_partOf (x1 : Nat) (x2 : Int32) (x3 : Int32) (x4 : Int32) (σ : ZM) : Option (Int32 × ZM) :=
  zck (zR 0 129 x1 16 0) (
  zck (zR 0 129 (zP σ 5 0) 15 0) (
  if (zI σ (zP σ 5 0) 7) = 0 then (
    some ((50 : Int32), σ)
  ) else (
    zck (zR 0 129 (zP σ 5 0) 15 0) (
    zbd (f_Kiln_lookAt (zP σ 5 0) x1 x2 (x3 / (10 : Int32)) x4 σ) fun v4 s5 => (
    zck (zR 0 129 (zP s5 5 0) 15 0) (
    zbd (f_Kiln_sum (zP s5 5 0) (0 : Int32) s5) fun v8 s9 => (
    some (v8, s9)))))
  )))
def f_Baker_amount_116 (x3 : Int32) (x5 : Int32) (σ : ZM) : Option (Int32 × ZM) :=
  some ((if (0 : Int32) < (if x3 < x5 then x3 else x5) then (if x3 < x5 then x3 else x5) else (0 : Int32)), σ)
def f_Baker_amount_62 (x3 : Int32) (x4 : Int32) (σ : ZM) : Option (Int32 × ZM) :=
  f_Baker_amount_116 x3 ((2 : Int32) * x4) σ
def f_Baker_amount (x0 : Nat) (x1 : Int32) (x2 : Int32) (x3 : Int32) (σ : ZM) : Option (Int32 × ZM) :=
  zck (zR 0 129 x0 16 0) (
  if (zI σ x0 3) = (1 : Int32) then (
    f_Baker_amount_116 x3 x3 σ
  ) else (
  if (zI σ x0 3) = (2 : Int32) then (
    f_Baker_amount_62 x3 ((x2 * x3) / (100 : Int32)) σ
  ) else (
  if (zI σ x0 3) = (3 : Int32) then (
    zck (zin x1 4) (
    f_Baker_amount_116 x3 (if (zI σ (x0 + 24) x1.toNatClampNeg) < ((x2 * x3) / (100 : Int32)) then (zI σ (x0 + 24) x1.toNatClampNeg) else ((x2 * x3) / (100 : Int32))) σ)
  ) else (
  if (zI σ x0 3) = (4 : Int32) then (
    f_Baker_amount_116 x3 (x3 - (zI σ x0 4)) σ
  ) else (
  if (zI σ x0 3) = (5 : Int32) then (
    f_Baker_amount_62 x3 ((x2 * x3) / (100 : Int32)) σ
  ) else (
  if (zI σ x0 3) = (6 : Int32) then (
    zck (zin x1 4) (
    f_Baker_amount_116 x3 ((if (zI σ (x0 + 24) x1.toNatClampNeg) < ((x2 * x3) / (100 : Int32)) then (zI σ (x0 + 24) x1.toNatClampNeg) else ((x2 * x3) / (100 : Int32))) / (2 : Int32)) σ)
  ) else (
    f_Baker_amount_116 x3 ((x2 * x3) / (100 : Int32)) σ
  )))))))
def f_Baker_takes (x1 : Nat) (x2 : Int32) (x3 : Nat) (σ : ZM) : Option (Int32 × ZM) :=
  zck (zR 0 129 x1 16 0) (
  zck (zR 0 129 x3 17 0) (
  zck (zin x2 4) (
  zbd (f_Baker_partOf x1 x2 (zI σ (x3 + 9) x2.toNatClampNeg) (zI σ x3 1) σ) fun v2 s3 => (
  zbd (f_Baker_amount x1 x2 v2 (zI σ (x3 + 9) x2.toNatClampNeg) s3) fun v5 s6 => (
  some (v5, s6))))))
def f_Baker_spoils_2 (k2 : Nat × Nat × Int32 × ZM → Option (Int32 × ZM)) (x1 : Nat) (x2 : Nat) (x3 : Int32) (σ : ZM) : Option (Int32 × ZM) :=
  if (4 : Int32) ≤ x3 then (
    some ((0 : Int32), σ)
  ) else (
    zbd (f_Baker_takes x1 x3 x2 σ) fun v2 s3 => (
    zck (zin x3 4) (
    if v2 ≤ (zI s3 (x1 + 24) x3.toNatClampNeg) then (
      k2 (x1, x2, (x3 + (1 : Int32)), s3)
    ) else (
      some ((1 : Int32), s3)
    )))
  )
def F_Baker_spoils_2 (N : Nat) : Nat × Nat × Int32 × ZM → Option (Int32 × ZM) := zlp (fun k2 a => f_Baker_spoils_2 k2 a.1 a.2.1 a.2.2.1 a.2.2.2) N
def f_Baker_spoils (x1 : Nat) (x2 : Nat) (σ : ZM) : Option (Int32 × ZM) :=
  zck (zR 0 129 x1 16 0) (
  zck (zR 0 129 x2 17 0) (
  F_Baker_spoils_2 2000 (x1, x2, (0 : Int32), σ)))
def f_BB_flag (x0 : Int32) (σ : ZM) : Option (Int32 × ZM) :=
  if x0 = 0 then (
    some ((0 : Int32), σ)
  ) else (
    some ((1 : Int32), σ)
  )
def f_Baker_leaves_78 (x1 : Nat) (x4 : Int32) (σ : ZM) : Option (Int32 × ZM) :=
  if (zI σ x1 3) = (6 : Int32) then (
    some (x4 / (2 : Int32), σ)
  ) else (
    some (x4, σ)
  )
def f_Baker_leaves (x1 : Nat) (x2 : Int32) (x3 : Nat) (σ : ZM) : Option (Int32 × ZM) :=
  zck (zR 0 129 x1 16 0) (
  zck (zR 0 129 x3 17 0) (
  if (zI σ x1 3) = (1 : Int32) then (
    some ((0 : Int32), σ)
  ) else (
    if (zI σ x1 3) = (4 : Int32) then (
      some ((0 : Int32), σ)
    ) else (
      zck (zR 0 129 (zP σ 5 0) 15 0) (
      zck (zin x2 4) (
      zbd (f_Kiln_lookAt (zP σ 5 0) x1 x2 ((zI σ (x3 + 9) x2.toNatClampNeg) / (10 : Int32)) (zI σ x3 1) σ) fun v5 s6 => (
      zck (zin x2 4) (
      zck (zR 0 129 (zP s6 5 0) 15 0) (
      zbd (f_Kiln_sum (zP s6 5 0) (1 : Int32) s6) fun v10 s11 => (
      if (zI s11 x1 3) = (5 : Int32) then (
        if x2 = 0 then (
          f_Baker_leaves_78 x1 (((zI s6 (x1 + 12) x2.toNatClampNeg) + v10) + (zI s11 x1 4)) s11
        ) else (
          f_Baker_leaves_78 x1 ((zI s6 (x1 + 12) x2.toNatClampNeg) + v10) s11
        )
      ) else (
        f_Baker_leaves_78 x1 ((zI s6 (x1 + 12) x2.toNatClampNeg) + v10) s11
      )))))))
    )
  )))
def f_BB_ofTaste (x1 : Nat) (x2 : Int32) (x3 : Int32) (σ : ZM) : Option (Int32 × ZM) :=
  zck (zR 0 129 x1 16 0) (
  zbd (f_BB_isTaste x3 σ) fun v1 s2 => (
  if v1 = 0 then (
    some ((-1 : Int32), s2)
  ) else (
    if x2 = (1 : Int32) then (
      zck (zin x3 4) (
      some (zI s2 (x1 + 12) x3.toNatClampNeg, s2))
    ) else (
    if x2 = (2 : Int32) then (
      zck (zin x3 4) (
      some (zI s2 (x1 + 24) x3.toNatClampNeg, s2))
    ) else (
    if x2 = (3 : Int32) then (
      zbd (f_Baker_takes x1 x3 33 s2) fun v10 s11 => (
      some (v10, s11))
    ) else (
    if x2 = (4 : Int32) then (
      zbd (f_Baker_leaves x1 x3 33 s2) fun v14 s15 => (
      some (v14, s15))
    ) else (
      some ((-1 : Int32), s2)
    ))))
  )))
def f_BB_of (x1 : Int32) (x2 : Int32) (σ : ZM) : Option (Int32 × ZM) :=
  zbd (f_BB_isLoaf x1 σ) fun v1 s2 => (
  if v1 = 0 then (
    some ((-1 : Int32), s2)
  ) else (
    if 0 ≤ x2 then (
      zck (zin x1 6) (
      zck (zR 0 129 (zel 25 x1.toNatClampNeg) 16 0) (
      if x2 = (0 : Int32) then (
        some (zI s2 (zel 25 x1.toNatClampNeg) 3, s2)
      ) else (
      if x2 = (1 : Int32) then (
        some (zI s2 (zel 25 x1.toNatClampNeg) 4, s2)
      ) else (
      if x2 = (2 : Int32) then (
        zbd (f_Baker_feeOf (zel 25 x1.toNatClampNeg) (zI s2 33 1) s2) fun v11 s12 => (
        some (v11, s12))
      ) else (
      if x2 = (3 : Int32) then (
        zbd (f_Baker_spoils (zel 25 x1.toNatClampNeg) 33 s2) fun v15 s16 => (
        zbd (f_BB_flag v15 s16) fun v18 s19 => (
        some (v18, s19)))
      ) else (
        zbd (f_BB_ofTaste (zel 25 x1.toNatClampNeg) (x2 / (10 : Int32)) (x2 - x2 / (10 : Int32) * (10 : Int32)) s2) fun v21 s22 => (
        some (v21, s22))
      ))))))
    ) else (
      some ((-1 : Int32), s2)
    )
  ))
def f_BB_oven (x1 : Int32) (x2 : Int32) (σ : ZM) : Option (Int32 × ZM) :=
  zbd (f_BB_isTaste x1 σ) fun v1 s2 => (
  if v1 = 0 then (
    some ((-1 : Int32), s2)
  ) else (
    if x2 < 0 then (
      some ((-2 : Int32), s2)
    ) else (
      if x2 ≤ (9999 : Int32) then (
        zck (zin x1 4) (
        zck (zin x1 4) (
        some (zI s2 42 x1.toNatClampNeg, (zsI s2 42 x1.toNatClampNeg x2))))
      ) else (
        some ((-2 : Int32), s2)
      )
    )
  ))
def f_Reader_append (x1 : Int32) (σ : ZM) : Option (Int32 × ZM) :=
  if (zI σ 3 1) < (100 : Int32) then (
    zck (zin (zI σ 3 1) 100) (
    some (zI (zsI (zsI σ 4 (zI σ 3 1).toNatClampNeg x1) 3 1 ((zI (zsI σ 4 (zI σ 3 1).toNatClampNeg x1) 3 1) + (1 : Int32))) 3 1, (zsI (zsI σ 4 (zI σ 3 1).toNatClampNeg x1) 3 1 ((zI (zsI σ 4 (zI σ 3 1).toNatClampNeg x1) 3 1) + (1 : Int32)))))
  ) else (
    some ((-4 : Int32), σ)
  )
def f_BB_feed (x1 : Int32) (σ : ZM) : Option (Int32 × ZM) :=
  if x1 < 0 then (
    some ((-2 : Int32), σ)
  ) else (
    if x1 ≤ (127 : Int32) then (
      zbd (f_Reader_append x1 σ) fun v3 s4 => (
      some (v3, s4))
    ) else (
      some ((-2 : Int32), σ)
    )
  )
def f_Kiln_empty (x0 : Nat) (σ : ZM) : Option (Unit × ZM) :=
  zck (zR 0 129 x0 15 0) (
  some ((), (zsI (zsI (zsI (zsI σ x0 5 (0 : Int32)) x0 6 (0 : Int32)) x0 7 (0 : Int32)) x0 8 (50 : Int32))))
def f_Reader_here  (σ : ZM) : Option (Int32 × ZM) :=
  if (zI σ 3 2) < 0 then (
    some ((-1 : Int32), σ)
  ) else (
    if (zI σ 3 1) ≤ (zI σ 3 2) then (
      some ((-1 : Int32), σ)
    ) else (
      zck (zin (zI σ 3 2) 100) (
      some (zI σ 4 (zI σ 3 2).toNatClampNeg, σ))
    )
  )
def f_Reader_wordFrom (x0 : Int32) (σ : ZM) : Option (Int32 × ZM) :=
  if x0 = (99 : Int32) then (
    some ((2 : Int32), σ)
  ) else (
  if x0 = (102 : Int32) then (
    some ((3 : Int32), σ)
  ) else (
  if x0 = (109 : Int32) then (
    some ((1 : Int32), σ)
  ) else (
  if x0 = (116 : Int32) then (
    some ((0 : Int32), σ)
  ) else (
    some ((-1 : Int32), σ)
  ))))
def f_Reader_spelling (x0 : Int32) (σ : ZM) : Option (Nat × ZM) :=
  if x0 = (0 : Int32) then (
    some (0, σ)
  ) else (
  if x0 = (1 : Int32) then (
    some (1, σ)
  ) else (
  if x0 = (2 : Int32) then (
    some (2, σ)
  ) else (
    some (3, σ)
  )))
def f_Reader_skip (x1 : Int32) (σ : ZM) : Option (Int32 × ZM) :=
  zbd (f_Reader_here σ) fun v1 s2 => (
  if v1 = x1 then (
    some ((1 : Int32), (zsI s2 3 2 ((zI s2 3 2) + (1 : Int32))))
  ) else (
    some ((0 : Int32), s2)
  ))
def f_Reader_readWord_2 (k2 : Nat × Int32 × ZM → Option (Int32 × ZM)) (x1 : Nat) (x2 : Int32) (σ : ZM) : Option (Int32 × ZM) :=
  if (Int32.ofNat (zslen.getD x1 0)) ≤ x2 then (
    some ((1 : Int32), σ)
  ) else (
    zck (zin x2 (zslen.getD x1 0)) (
    zbd (f_Reader_skip (zschar x1 x2) σ) fun v3 s4 => (
    if v3 = 0 then (
      some ((0 : Int32), s4)
    ) else (
      k2 (x1, (x2 + (1 : Int32)), s4)
    )))
  )
def F_Reader_readWord_2 (N : Nat) : Nat × Int32 × ZM → Option (Int32 × ZM) := zlp (fun k2 a => f_Reader_readWord_2 k2 a.1 a.2.1 a.2.2) N
def f_Reader_readWord (x1 : Nat) (σ : ZM) : Option (Int32 × ZM) :=
  zck (decide (x1 < 8)) (
  F_Reader_readWord_2 2000 (x1, (0 : Int32), σ))
def f_Reader_isDigit (x0 : Int32) (σ : ZM) : Option (Int32 × ZM) :=
  if x0 < (48 : Int32) then (
    some ((0 : Int32), σ)
  ) else (
    if (57 : Int32) < x0 then (
      some ((0 : Int32), σ)
    ) else (
      some ((1 : Int32), σ)
    )
  )
def f_Reader_readNumber  (σ : ZM) : Option (Int32 × ZM) :=
  zbd (f_Reader_here σ) fun v1 s2 => (
  zbd (f_Reader_isDigit v1 s2) fun v4 s5 => (
  if v4 = 0 then (
    some ((0 : Int32), s5)
  ) else (
    zbd (f_Reader_here s5) fun v8 s9 => (
    zbd (f_Reader_here (zsI (zsI s9 3 3 (v8 - (48 : Int32))) 3 2 ((zI (zsI s9 3 3 (v8 - (48 : Int32))) 3 2) + (1 : Int32)))) fun v11 s12 => (
    zbd (f_Reader_isDigit v11 s12) fun v14 s15 => (
    if v14 = 0 then (
      some ((1 : Int32), s15)
    ) else (
      zbd (f_Reader_here s15) fun v18 s19 => (
      some ((1 : Int32), (zsI (zsI s19 3 3 ((((zI s15 3 3) * (10 : Int32)) + v18) - (48 : Int32))) 3 2 ((zI (zsI s19 3 3 ((((zI s15 3 3) * (10 : Int32)) + v18) - (48 : Int32))) 3 2) + (1 : Int32)))))
    ))))
  )))
def f_Kiln_begin_67 (x0 : Nat) (x1 : Int32) (x2 : Int32) (σ : ZM) : Option (Unit × ZM) :=
  if x1 = (2 : Int32) then (
    some ((), (zsI σ x0 8 x2))
  ) else (
    some ((), σ)
  )
def f_Kiln_begin (x0 : Nat) (x1 : Int32) (x2 : Int32) (σ : ZM) : Option (Unit × ZM) :=
  zck (zR 0 129 x0 15 0) (
  if (zI σ x0 5) < (10 : Int32) then (
    zck (zin (zI σ x0 5) 10) (
    zck (zin (zI (zsI σ (x0 + 7) (zI σ x0 5).toNatClampNeg x1) x0 5) 10) (
    zck (zin (zI (zsI (zsI σ (x0 + 7) (zI σ x0 5).toNatClampNeg x1) (x0 + 14) (zI (zsI σ (x0 + 7) (zI σ x0 5).toNatClampNeg x1) x0 5).toNatClampNeg x2) x0 5) 10) (
    if x1 = 0 then (
      f_Kiln_begin_67 x0 x1 x2 (zsI (zsI (zsI (zsI (zsI σ (x0 + 7) (zI σ x0 5).toNatClampNeg x1) (x0 + 14) (zI (zsI σ (x0 + 7) (zI σ x0 5).toNatClampNeg x1) x0 5).toNatClampNeg x2) (x0 + 21) (zI (zsI (zsI σ (x0 + 7) (zI σ x0 5).toNatClampNeg x1) (x0 + 14) (zI (zsI σ (x0 + 7) (zI σ x0 5).toNatClampNeg x1) x0 5).toNatClampNeg x2) x0 5).toNatClampNeg (zI (zsI (zsI σ (x0 + 7) (zI σ x0 5).toNatClampNeg x1) (x0 + 14) (zI (zsI σ (x0 + 7) (zI σ x0 5).toNatClampNeg x1) x0 5).toNatClampNeg x2) x0 6)) x0 5 ((zI (zsI (zsI (zsI σ (x0 + 7) (zI σ x0 5).toNatClampNeg x1) (x0 + 14) (zI (zsI σ (x0 + 7) (zI σ x0 5).toNatClampNeg x1) x0 5).toNatClampNeg x2) (x0 + 21) (zI (zsI (zsI σ (x0 + 7) (zI σ x0 5).toNatClampNeg x1) (x0 + 14) (zI (zsI σ (x0 + 7) (zI σ x0 5).toNatClampNeg x1) x0 5).toNatClampNeg x2) x0 5).toNatClampNeg (zI (zsI (zsI σ (x0 + 7) (zI σ x0 5).toNatClampNeg x1) (x0 + 14) (zI (zsI σ (x0 + 7) (zI σ x0 5).toNatClampNeg x1) x0 5).toNatClampNeg x2) x0 6)) x0 5) + (1 : Int32))) x0 7 ((zI (zsI (zsI (zsI (zsI σ (x0 + 7) (zI σ x0 5).toNatClampNeg x1) (x0 + 14) (zI (zsI σ (x0 + 7) (zI σ x0 5).toNatClampNeg x1) x0 5).toNatClampNeg x2) (x0 + 21) (zI (zsI (zsI σ (x0 + 7) (zI σ x0 5).toNatClampNeg x1) (x0 + 14) (zI (zsI σ (x0 + 7) (zI σ x0 5).toNatClampNeg x1) x0 5).toNatClampNeg x2) x0 5).toNatClampNeg (zI (zsI (zsI σ (x0 + 7) (zI σ x0 5).toNatClampNeg x1) (x0 + 14) (zI (zsI σ (x0 + 7) (zI σ x0 5).toNatClampNeg x1) x0 5).toNatClampNeg x2) x0 6)) x0 5 ((zI (zsI (zsI (zsI σ (x0 + 7) (zI σ x0 5).toNatClampNeg x1) (x0 + 14) (zI (zsI σ (x0 + 7) (zI σ x0 5).toNatClampNeg x1) x0 5).toNatClampNeg x2) (x0 + 21) (zI (zsI (zsI σ (x0 + 7) (zI σ x0 5).toNatClampNeg x1) (x0 + 14) (zI (zsI σ (x0 + 7) (zI σ x0 5).toNatClampNeg x1) x0 5).toNatClampNeg x2) x0 5).toNatClampNeg (zI (zsI (zsI σ (x0 + 7) (zI σ x0 5).toNatClampNeg x1) (x0 + 14) (zI (zsI σ (x0 + 7) (zI σ x0 5).toNatClampNeg x1) x0 5).toNatClampNeg x2) x0 6)) x0 5) + (1 : Int32))) x0 7) + (1 : Int32)))
    ) else (
      f_Kiln_begin_67 x0 x1 x2 (zsI (zsI (zsI (zsI σ (x0 + 7) (zI σ x0 5).toNatClampNeg x1) (x0 + 14) (zI (zsI σ (x0 + 7) (zI σ x0 5).toNatClampNeg x1) x0 5).toNatClampNeg x2) (x0 + 21) (zI (zsI (zsI σ (x0 + 7) (zI σ x0 5).toNatClampNeg x1) (x0 + 14) (zI (zsI σ (x0 + 7) (zI σ x0 5).toNatClampNeg x1) x0 5).toNatClampNeg x2) x0 5).toNatClampNeg (zI (zsI (zsI σ (x0 + 7) (zI σ x0 5).toNatClampNeg x1) (x0 + 14) (zI (zsI σ (x0 + 7) (zI σ x0 5).toNatClampNeg x1) x0 5).toNatClampNeg x2) x0 6)) x0 5 ((zI (zsI (zsI (zsI σ (x0 + 7) (zI σ x0 5).toNatClampNeg x1) (x0 + 14) (zI (zsI σ (x0 + 7) (zI σ x0 5).toNatClampNeg x1) x0 5).toNatClampNeg x2) (x0 + 21) (zI (zsI (zsI σ (x0 + 7) (zI σ x0 5).toNatClampNeg x1) (x0 + 14) (zI (zsI σ (x0 + 7) (zI σ x0 5).toNatClampNeg x1) x0 5).toNatClampNeg x2) x0 5).toNatClampNeg (zI (zsI (zsI σ (x0 + 7) (zI σ x0 5).toNatClampNeg x1) (x0 + 14) (zI (zsI σ (x0 + 7) (zI σ x0 5).toNatClampNeg x1) x0 5).toNatClampNeg x2) x0 6)) x0 5) + (1 : Int32)))
    ))))
  ) else (
    some ((), σ)
  ))
def f_Reader_letterOf (x0 : Int32) (σ : ZM) : Option (Int32 × ZM) :=
  if x0 = (104 : Int32) then (
    some ((4 : Int32), σ)
  ) else (
  if x0 = (105 : Int32) then (
    some ((-1 : Int32), σ)
  ) else (
  if x0 = (106 : Int32) then (
    some ((-1 : Int32), σ)
  ) else (
  if x0 = (107 : Int32) then (
    some ((1 : Int32), σ)
  ) else (
  if x0 = (108 : Int32) then (
    some ((0 : Int32), σ)
  ) else (
  if x0 = (109 : Int32) then (
    some ((-1 : Int32), σ)
  ) else (
  if x0 = (110 : Int32) then (
    some ((-1 : Int32), σ)
  ) else (
  if x0 = (111 : Int32) then (
    some ((5 : Int32), σ)
  ) else (
  if x0 = (112 : Int32) then (
    some ((-1 : Int32), σ)
  ) else (
  if x0 = (113 : Int32) then (
    some ((-1 : Int32), σ)
  ) else (
  if x0 = (114 : Int32) then (
    some ((-1 : Int32), σ)
  ) else (
  if x0 = (115 : Int32) then (
    some ((-1 : Int32), σ)
  ) else (
  if x0 = (116 : Int32) then (
    some ((2 : Int32), σ)
  ) else (
  if x0 = (117 : Int32) then (
    some ((-1 : Int32), σ)
  ) else (
  if x0 = (118 : Int32) then (
    some ((3 : Int32), σ)
  ) else (
    some ((-1 : Int32), σ)
  )))))))))))))))
def f_Kiln_append (x0 : Nat) (x1 : Int32) (σ : ZM) : Option (Unit × ZM) :=
  zck (zR 0 129 x0 15 0) (
  if (100 : Int32) ≤ (zI σ x0 6) then (
    some ((), σ)
  ) else (
    if (1 : Int32) ≤ (zI σ x0 5) then (
      zck (zin (zI σ x0 6) 100) (
      zck (zin ((zI (zsI (zsI σ (x0 + 28) (zI σ x0 6).toNatClampNeg x1) x0 6 ((zI (zsI σ (x0 + 28) (zI σ x0 6).toNatClampNeg x1) x0 6) + (1 : Int32))) x0 5) - (1 : Int32)) 10) (
      some ((), (zsI (zsI (zsI σ (x0 + 28) (zI σ x0 6).toNatClampNeg x1) x0 6 ((zI (zsI σ (x0 + 28) (zI σ x0 6).toNatClampNeg x1) x0 6) + (1 : Int32))) (x0 + 21) ((zI (zsI (zsI σ (x0 + 28) (zI σ x0 6).toNatClampNeg x1) x0 6 ((zI (zsI σ (x0 + 28) (zI σ x0 6).toNatClampNeg x1) x0 6) + (1 : Int32))) x0 5) - (1 : Int32)).toNatClampNeg (zI (zsI (zsI σ (x0 + 28) (zI σ x0 6).toNatClampNeg x1) x0 6 ((zI (zsI σ (x0 + 28) (zI σ x0 6).toNatClampNeg x1) x0 6) + (1 : Int32))) x0 6)))))
    ) else (
      some ((), σ)
    )
  ))
def f_Reader_readTest  (σ : ZM) : Option (Int32 × ZM) :=
  zbd (f_Reader_here σ) fun v1 s2 => (
  zbd (f_Reader_letterOf v1 s2) fun v4 s5 => (
  if 0 ≤ v4 then (
    zbd (f_Reader_here (zsI s5 3 2 ((zI s5 3 2) + (1 : Int32)))) fun v8 s9 => (
    if (v8 - (60 : Int32)) < 0 then (
      some ((0 : Int32), s9)
    ) else (
      if (v8 - (60 : Int32)) ≤ (2 : Int32) then (
        zbd (f_Reader_readNumber (zsI s9 3 2 ((zI s9 3 2) + (1 : Int32)))) fun v13 s14 => (
        if v13 = 0 then (
          some ((0 : Int32), s14)
        ) else (
          zck (zR 0 129 (zP s14 3 4) 15 0) (
          zbd (f_Kiln_append (zP s14 3 4) (((v4 <<< ((9 : Int32) &&& 31)) ||| ((v8 - (60 : Int32)) <<< ((7 : Int32) &&& 31))) ||| (zI s14 3 3)) s14) fun v18 s19 => (
          some ((1 : Int32), s19)))
        ))
      ) else (
        some ((0 : Int32), s9)
      )
    ))
  ) else (
    some ((0 : Int32), s5)
  )))
def f_Reader_readBoth_12 (rec : Int32 × ZM → Option (Int32 × ZM)) (k12 : Int32 × Int32 × ZM → Option (Int32 × ZM)) (x1 : Int32) (x2 : Int32) (σ : ZM) : Option (Int32 × ZM) :=
  if (100 : Int32) ≤ x2 then (
    some ((1 : Int32), σ)
  ) else (
    zbd (f_Reader_skip (38 : Int32) σ) fun v2 s3 => (
    if v2 = 0 then (
      some ((1 : Int32), s3)
    ) else (
      zbd (rec (x1, s3)) fun v6 s7 => (
      if v6 = 0 then (
        some ((0 : Int32), s7)
      ) else (
        zck (zR 0 129 (zP s7 3 4) 15 0) (
        zbd (f_Kiln_append (zP s7 3 4) (-2 : Int32) s7) fun v11 s12 => (
        k12 (x1, (x2 + (1 : Int32)), s12)))
      ))
    ))
  )
def F_Reader_readBoth_12 (rec : Int32 × ZM → Option (Int32 × ZM)) (N : Nat) : Int32 × Int32 × ZM → Option (Int32 × ZM) := zlp (fun k12 a => f_Reader_readBoth_12 rec k12 a.1 a.2.1 a.2.2) N
def f_Reader_readBoth (rec : Int32 × ZM → Option (Int32 × ZM)) (x1 : Int32) (σ : ZM) : Option (Int32 × ZM) :=
  zbd (rec (x1, σ)) fun v1 s2 => (
  if v1 = 0 then (
    some ((0 : Int32), s2)
  ) else (
    F_Reader_readBoth_12 rec 2000 (x1, (0 : Int32), s2)
  ))
def f_Reader_readEither_12 (rec : Int32 × ZM → Option (Int32 × ZM)) (k12 : Int32 × Int32 × ZM → Option (Int32 × ZM)) (x1 : Int32) (x2 : Int32) (σ : ZM) : Option (Int32 × ZM) :=
  if (100 : Int32) ≤ x2 then (
    some ((1 : Int32), σ)
  ) else (
    zbd (f_Reader_skip (124 : Int32) σ) fun v2 s3 => (
    if v2 = 0 then (
      some ((1 : Int32), s3)
    ) else (
      zbd (f_Reader_readBoth rec x1 s3) fun v6 s7 => (
      if v6 = 0 then (
        some ((0 : Int32), s7)
      ) else (
        zck (zR 0 129 (zP s7 3 4) 15 0) (
        zbd (f_Kiln_append (zP s7 3 4) (-3 : Int32) s7) fun v11 s12 => (
        k12 (x1, (x2 + (1 : Int32)), s12)))
      ))
    ))
  )
def F_Reader_readEither_12 (rec : Int32 × ZM → Option (Int32 × ZM)) (N : Nat) : Int32 × Int32 × ZM → Option (Int32 × ZM) := zlp (fun k12 a => f_Reader_readEither_12 rec k12 a.1 a.2.1 a.2.2) N
def f_Reader_readEither (rec : Int32 × ZM → Option (Int32 × ZM)) (x1 : Int32) (σ : ZM) : Option (Int32 × ZM) :=
  zbd (f_Reader_readBoth rec x1 σ) fun v1 s2 => (
  if v1 = 0 then (
    some ((0 : Int32), s2)
  ) else (
    F_Reader_readEither_12 rec 2000 (x1, (0 : Int32), s2)
  ))
def f_Reader_readPart_82 (rec : Int32 × ZM → Option (Int32 × ZM)) (k82 : Int32 × Int32 × Int32 × ZM → Option (Int32 × ZM)) (x2 : Int32) (x4 : Int32) (x5 : Int32) (σ : ZM) : Option (Int32 × ZM) :=
  if x4 = 0 then (
    zck (zbl x4) (some (x4, σ))
  ) else (
    if x2 ≤ x5 then (
      zck (zbl x4) (some (x4, σ))
    ) else (
      zck (zR 0 129 (zP σ 3 4) 15 0) (
      zbd (f_Kiln_append (zP σ 3 4) (-1 : Int32) σ) fun v6 s7 => (
      k82 (x2, x4, (x5 + (1 : Int32)), s7)))
    )
  )
def F_Reader_readPart_82 (rec : Int32 × ZM → Option (Int32 × ZM)) (N : Nat) : Int32 × Int32 × Int32 × ZM → Option (Int32 × ZM) := zlp (fun k82 a => f_Reader_readPart_82 rec k82 a.1 a.2.1 a.2.2.1 a.2.2.2) N
def f_Reader_readPart_77 (rec : Int32 × ZM → Option (Int32 × ZM)) (x1 : Int32) (x2 : Int32) (y0 : Int32) (σ : ZM) : Option (Int32 × ZM) :=
  F_Reader_readPart_82 rec 2000 (x2, y0, x1, σ)
def f_Reader_readPart_69 (rec : Int32 × ZM → Option (Int32 × ZM)) (x1 : Int32) (x2 : Int32) (σ : ZM) : Option (Int32 × ZM) :=
  f_Reader_readPart_77 rec x1 x2 (0 : Int32) σ
def f_Reader_readPart_41 (rec : Int32 × ZM → Option (Int32 × ZM)) (x1 : Int32) (x2 : Int32) (y0 : Int32) (σ : ZM) : Option (Int32 × ZM) :=
  if y0 = 0 then (
    zbd (f_Reader_readTest σ) fun v2 s3 => (
    f_Reader_readPart_77 rec x1 x2 v2 s3)
  ) else (
    zbd (f_Reader_readEither rec (x2 + (1 : Int32)) σ) fun v5 s6 => (
    if v5 = 0 then (
      f_Reader_readPart_69 rec x1 x2 s6
    ) else (
      zbd (f_Reader_skip (41 : Int32) s6) fun v9 s10 => (
      if v9 = 0 then (
        f_Reader_readPart_69 rec x1 x2 s10
      ) else (
        f_Reader_readPart_77 rec x1 x2 (1 : Int32) s10
      ))
    ))
  )
def f_Reader_readPart_40 (rec : Int32 × ZM → Option (Int32 × ZM)) (x1 : Int32) (x2 : Int32) (σ : ZM) : Option (Int32 × ZM) :=
  f_Reader_readPart_41 rec x1 x2 (0 : Int32) σ
def f_Reader_readPart_22 (rec : Int32 × ZM → Option (Int32 × ZM)) (x1 : Int32) (x2 : Int32) (σ : ZM) : Option (Int32 × ZM) :=
  if (4 : Int32) ≤ x2 then (
    f_Reader_readPart_40 rec x1 x2 σ
  ) else (
    zbd (f_Reader_skip (40 : Int32) σ) fun v2 s3 => (
    if v2 = 0 then (
      f_Reader_readPart_40 rec x1 x2 s3
    ) else (
      f_Reader_readPart_41 rec x1 x2 (1 : Int32) s3
    ))
  )
def f_Reader_readPart_2 (rec : Int32 × ZM → Option (Int32 × ZM)) (k2 : Int32 × Int32 × ZM → Option (Int32 × ZM)) (x1 : Int32) (x2 : Int32) (σ : ZM) : Option (Int32 × ZM) :=
  if (4 : Int32) ≤ x2 then (
    f_Reader_readPart_22 rec x1 x2 σ
  ) else (
    zbd (f_Reader_skip (33 : Int32) σ) fun v2 s3 => (
    if v2 = 0 then (
      f_Reader_readPart_22 rec x1 x2 s3
    ) else (
      k2 (x1, (x2 + (1 : Int32)), s3)
    ))
  )
def F_Reader_readPart_2 (rec : Int32 × ZM → Option (Int32 × ZM)) (N : Nat) : Int32 × Int32 × ZM → Option (Int32 × ZM) := zlp (fun k2 a => f_Reader_readPart_2 rec k2 a.1 a.2.1 a.2.2) N
def f_Reader_readPart (rec : Int32 × ZM → Option (Int32 × ZM)) (x1 : Int32) (σ : ZM) : Option (Int32 × ZM) :=
  F_Reader_readPart_2 rec 2000 (x1, x1, σ)
def F_Reader_readPart (N : Nat) : Int32 × ZM → Option (Int32 × ZM) := zlp (fun rec a => f_Reader_readPart rec a.1 a.2) N
def f_Reader_readClause  (σ : ZM) : Option (Int32 × ZM) :=
  zbd (f_Reader_here σ) fun v1 s2 => (
  zbd (f_Reader_wordFrom v1 s2) fun v4 s5 => (
  if v4 < 0 then (
    some ((0 : Int32), s5)
  ) else (
    zbd (f_Reader_spelling v4 s5) fun v8 s9 => (
    zck (decide (v8 < 8)) (
    zbd (f_Reader_readWord v8 s9) fun v11 s12 => (
    if v11 = 0 then (
      some ((0 : Int32), s12)
    ) else (
      zbd (f_Reader_skip (32 : Int32) s12) fun v15 s16 => (
      if v15 = 0 then (
        some ((0 : Int32), s16)
      ) else (
        zbd (f_Reader_readNumber s16) fun v19 s20 => (
        if v19 = 0 then (
          some ((0 : Int32), s20)
        ) else (
          zck (zR 0 129 (zP s20 3 4) 15 0) (
          zbd (f_Kiln_begin (zP s20 3 4) v4 (zI s20 3 3) s20) fun v24 s25 => (
          if v4 = (2 : Int32) then (
            some ((1 : Int32), s25)
          ) else (
            zbd (f_Reader_skip (32 : Int32) s25) fun v28 s29 => (
            if v28 = 0 then (
              some ((0 : Int32), s29)
            ) else (
              zbd (f_Reader_readEither (F_Reader_readPart 8) (0 : Int32) s29) fun v32 s33 => (
              if v32 = 0 then (
                some ((0 : Int32), s33)
              ) else (
                some ((1 : Int32), s33)
              ))
            ))
          )))
        ))
      ))
    ))))
  )))
def f_Reader_readInto_66 (k24 : Int32 × Int32 × ZM → Option (Int32 × ZM)) (x3 : Int32) (y0 : Int32) (σ : ZM) : Option (Int32 × ZM) :=
  k24 (y0, (x3 + (1 : Int32)), σ)
def f_Reader_readInto_65 (k24 : Int32 × Int32 × ZM → Option (Int32 × ZM)) (x3 : Int32) (σ : ZM) : Option (Int32 × ZM) :=
  f_Reader_readInto_66 k24 x3 (0 : Int32) σ
def f_Reader_readInto_73 (x2 : Int32) (σ : ZM) : Option (Int32 × ZM) :=
  if x2 = 0 then (
    some (zI (zsI σ 3 1 (0 : Int32)) 3 2, (zsI σ 3 1 (0 : Int32)))
  ) else (
    some ((-1 : Int32), (zsI σ 3 1 (0 : Int32)))
  )
def f_Reader_readInto_24 (k24 : Int32 × Int32 × ZM → Option (Int32 × ZM)) (x2 : Int32) (x3 : Int32) (σ : ZM) : Option (Int32 × ZM) :=
  if x2 = 0 then (
    f_Reader_readInto_73 x2 σ
  ) else (
    if (zI σ 3 1) ≤ (zI σ 3 2) then (
      f_Reader_readInto_73 x2 σ
    ) else (
      if (10 : Int32) ≤ x3 then (
        f_Reader_readInto_65 k24 x3 σ
      ) else (
        zbd (f_Reader_skip (59 : Int32) σ) fun v4 s5 => (
        if v4 = 0 then (
          f_Reader_readInto_65 k24 x3 s5
        ) else (
          zbd (f_Reader_readClause s5) fun v8 s9 => (
          if v8 = 0 then (
            f_Reader_readInto_65 k24 x3 s9
          ) else (
            f_Reader_readInto_66 k24 x3 (1 : Int32) s9
          ))
        ))
      )
    )
  )
def F_Reader_readInto_24 (N : Nat) : Int32 × Int32 × ZM → Option (Int32 × ZM) := zlp (fun k24 a => f_Reader_readInto_24 k24 a.1 a.2.1 a.2.2) N
def f_Reader_readInto (x1 : Nat) (σ : ZM) : Option (Int32 × ZM) :=
  zck (zR 0 129 x1 15 0) (
  zck (zR 0 129 (zP (zsP σ 3 4 x1) 3 4) 15 0) (
  zbd (f_Kiln_empty (zP (zsP σ 3 4 x1) 3 4) (zsP σ 3 4 x1)) fun v2 s3 => (
  zbd (f_Reader_readClause (zsI s3 3 2 (0 : Int32))) fun v5 s6 => (
  F_Reader_readInto_24 2000 (v5, (1 : Int32), s6)))))
def f_BB_kiln  (σ : ZM) : Option (Int32 × ZM) :=
  if (zI σ 0 10) < (6 : Int32) then (
    zck (zin (zI σ 0 10) 6) (
    zck (zR 0 129 (zel 20 (zI σ 0 10).toNatClampNeg) 15 0) (
    zbd (f_Reader_readInto (zel 20 (zI σ 0 10).toNatClampNeg) σ) fun v4 s5 => (
    if v4 < 0 then (
      zck (zin (zI (zsI s5 1 4 (zI s5 0 10)) 0 10) 6) (
      zck (zR 0 129 (zel 20 (zI (zsI s5 1 4 (zI s5 0 10)) 0 10).toNatClampNeg) 15 0) (
      some (zI (zsI (zsP (zsI s5 1 4 (zI s5 0 10)) 5 0 (zel 20 (zI (zsI s5 1 4 (zI s5 0 10)) 0 10).toNatClampNeg)) 0 10 ((zI (zsP (zsI s5 1 4 (zI s5 0 10)) 5 0 (zel 20 (zI (zsI s5 1 4 (zI s5 0 10)) 0 10).toNatClampNeg)) 0 10) + (1 : Int32))) 1 4, (zsI (zsP (zsI s5 1 4 (zI s5 0 10)) 5 0 (zel 20 (zI (zsI s5 1 4 (zI s5 0 10)) 0 10).toNatClampNeg)) 0 10 ((zI (zsP (zsI s5 1 4 (zI s5 0 10)) 5 0 (zel 20 (zI (zsI s5 1 4 (zI s5 0 10)) 0 10).toNatClampNeg)) 0 10) + (1 : Int32))))))
    ) else (
      some ((-10 : Int32) - v4, s5)
    ))))
  ) else (
    some ((-4 : Int32), σ)
  )
def f_BB_told (x1 : Int32) (σ : ZM) : Option (Int32 × ZM) :=
  zbd (f_BB_isTaste x1 σ) fun v1 s2 => (
  if v1 = 0 then (
    if x1 = (4 : Int32) then (
      some (zI s2 33 1, s2)
    ) else (
      if x1 = (5 : Int32) then (
        zck (zR 0 129 (zP s2 5 0) 15 0) (
        some (zI s2 (zP s2 5 0) 8, s2))
      ) else (
        some ((-1 : Int32), s2)
      )
    )
  ) else (
    zck (zin x1 4) (
    some (zI s2 42 x1.toNatClampNeg, s2))
  ))
def f_Oven_strike (x0 : Nat) (σ : ZM) : Option (Unit × ZM) :=
  zck (zR 0 129 x0 17 0) (
  some ((), (zsI σ x0 1 (if ((zI σ x0 1) + (1 : Int32)) < (9999 : Int32) then ((zI σ x0 1) + (1 : Int32)) else (9999 : Int32)))))
def f_Baker_bakeIn_78 (k5 : Nat × Nat × Int32 × Int32 × ZM → Option (Int32 × ZM)) (x1 : Nat) (x2 : Nat) (x4 : Int32) (y0 : Int32) (σ : ZM) : Option (Int32 × ZM) :=
  k5 (x1, x2, y0, (x4 + (1 : Int32)), σ)
def f_Baker_bakeIn_73 (k5 : Nat × Nat × Int32 × Int32 × ZM → Option (Int32 × ZM)) (x1 : Nat) (x2 : Nat) (x4 : Int32) (σ : ZM) : Option (Int32 × ZM) :=
  f_Baker_bakeIn_78 k5 x1 x2 x4 (1 : Int32) σ
def f_Baker_bakeIn_5 (k5 : Nat × Nat × Int32 × Int32 × ZM → Option (Int32 × ZM)) (x1 : Nat) (x2 : Nat) (x3 : Int32) (x4 : Int32) (σ : ZM) : Option (Int32 × ZM) :=
  if (4 : Int32) ≤ x4 then (
    zbd (f_Oven_strike x1 σ) fun v2 s3 => (
    zck (zbl x3) (some (x3, s3)))
  ) else (
    zbd (f_Baker_takes x2 x4 x1 σ) fun v6 s7 => (
    zbd (f_Baker_leaves x2 x4 x1 s7) fun v9 s10 => (
    zck (zin x4 4) (
    zck (zin x4 4) (
    if x3 = 0 then (
      zck (zin x4 4) (
      if v6 ≤ (zI (zsI s10 (x1 + 9) x4.toNatClampNeg (if (((zI s10 (x1 + 9) x4.toNatClampNeg) - v6) + v9) < (9999 : Int32) then (((zI s10 (x1 + 9) x4.toNatClampNeg) - v6) + v9) else (9999 : Int32))) (x2 + 24) x4.toNatClampNeg) then (
        f_Baker_bakeIn_78 k5 x1 x2 x4 (0 : Int32) (zsI s10 (x1 + 9) x4.toNatClampNeg (if (((zI s10 (x1 + 9) x4.toNatClampNeg) - v6) + v9) < (9999 : Int32) then (((zI s10 (x1 + 9) x4.toNatClampNeg) - v6) + v9) else (9999 : Int32)))
      ) else (
        f_Baker_bakeIn_73 k5 x1 x2 x4 (zsI s10 (x1 + 9) x4.toNatClampNeg (if (((zI s10 (x1 + 9) x4.toNatClampNeg) - v6) + v9) < (9999 : Int32) then (((zI s10 (x1 + 9) x4.toNatClampNeg) - v6) + v9) else (9999 : Int32)))
      ))
    ) else (
      f_Baker_bakeIn_73 k5 x1 x2 x4 (zsI s10 (x1 + 9) x4.toNatClampNeg (if (((zI s10 (x1 + 9) x4.toNatClampNeg) - v6) + v9) < (9999 : Int32) then (((zI s10 (x1 + 9) x4.toNatClampNeg) - v6) + v9) else (9999 : Int32)))
    )))))
  )
def F_Baker_bakeIn_5 (N : Nat) : Nat × Nat × Int32 × Int32 × ZM → Option (Int32 × ZM) := zlp (fun k5 a => f_Baker_bakeIn_5 k5 a.1 a.2.1 a.2.2.1 a.2.2.2.1 a.2.2.2.2) N
def f_Baker_bakeIn (x1 : Nat) (x2 : Nat) (σ : ZM) : Option (Int32 × ZM) :=
  zck (zR 0 129 x1 17 0) (
  zck (zR 0 129 x2 16 0) (
  F_Baker_bakeIn_5 2000 (x1, x2, (0 : Int32), (0 : Int32), σ)))
def f_BB_bake (x1 : Int32) (σ : ZM) : Option (Int32 × ZM) :=
  zbd (f_BB_isLoaf x1 σ) fun v1 s2 => (
  if v1 = 0 then (
    some ((-1 : Int32), s2)
  ) else (
    zck (zin x1 6) (
    zck (zR 0 129 (zel 25 x1.toNatClampNeg) 16 0) (
    zbd (f_Baker_bakeIn 33 (zel 25 x1.toNatClampNeg) s2) fun v7 s8 => (
    zbd (f_BB_flag v7 s8) fun v10 s11 => (
    some (v10, s11)))))
  ))
def f_Baker_chill_2 (k2 : Nat × Int32 × ZM → Option (Unit × ZM)) (x1 : Nat) (x2 : Int32) (σ : ZM) : Option (Unit × ZM) :=
  if (4 : Int32) ≤ x2 then (
    zbd (f_Oven_strike x1 σ) fun v2 s3 => (
    some ((), s3))
  ) else (
    zck (zin x2 4) (
    zck (zR 0 129 (zP σ 5 0) 15 0) (
    zck (zin x2 4) (
    k2 (x1, (x2 + (1 : Int32)), (zsI σ (x1 + 9) x2.toNatClampNeg (if (((zI σ (x1 + 9) x2.toNatClampNeg) * (zI σ (zP σ 5 0) 8)) / (100 : Int32)) < (9999 : Int32) then (((zI σ (x1 + 9) x2.toNatClampNeg) * (zI σ (zP σ 5 0) 8)) / (100 : Int32)) else (9999 : Int32)))))))
  )
def F_Baker_chill_2 (N : Nat) : Nat × Int32 × ZM → Option (Unit × ZM) := zlp (fun k2 a => f_Baker_chill_2 k2 a.1 a.2.1 a.2.2) N
def f_Baker_chill (x1 : Nat) (σ : ZM) : Option (Unit × ZM) :=
  zck (zR 0 129 x1 17 0) (
  F_Baker_chill_2 2000 (x1, (0 : Int32), σ))
def f_BB_cold  (σ : ZM) : Option (Int32 × ZM) :=
  zbd (f_Baker_chill 33 σ) fun v1 s2 => (
  some (zI s2 33 1, s2))
def f_Oven_become_2 (k2 : Nat × Nat × Int32 × ZM → Option (Unit × ZM)) (x0 : Nat) (x1 : Nat) (x2 : Int32) (σ : ZM) : Option (Unit × ZM) :=
  if (4 : Int32) ≤ x2 then (
    some ((), (zsI σ x0 1 (zI σ x1 1)))
  ) else (
    zck (zin x2 4) (
    zck (zin x2 4) (
    k2 (x0, x1, (x2 + (1 : Int32)), (zsI σ (x0 + 9) x2.toNatClampNeg (zI σ (x1 + 9) x2.toNatClampNeg)))))
  )
def F_Oven_become_2 (N : Nat) : Nat × Nat × Int32 × ZM → Option (Unit × ZM) := zlp (fun k2 a => f_Oven_become_2 k2 a.1 a.2.1 a.2.2.1 a.2.2.2) N
def f_Oven_become (x0 : Nat) (x1 : Nat) (σ : ZM) : Option (Unit × ZM) :=
  zck (zR 0 129 x0 17 0) (
  zck (zR 0 129 x1 17 0) (
  F_Oven_become_2 2000 (x0, x1, (0 : Int32), σ)))
def f_Asker_behind_39 (x1 : Int32) (x3 : Int32) (σ : ZM) : Option (Int32 × ZM) :=
  if (4 : Int32) ≤ x3 then (
    zck (zin x1 6) (
    zck (zR 0 129 (zel 25 x1.toNatClampNeg) 16 0) (
    zbd (f_Baker_spoils (zel 25 x1.toNatClampNeg) 35 σ) fun v4 s5 => (
    zbd (f_BB_flag v4 s5) fun v7 s8 => (
    some (v7, s8)))))
  ) else (
    zck (zin x1 6) (
    zck (zR 0 129 (zel 25 x1.toNatClampNeg) 16 0) (
    zbd (f_Baker_takes (zel 25 x1.toNatClampNeg) x3 35 σ) fun v12 s13 => (
    some (v12, s13))))
  )
def f_Asker_behind (x1 : Int32) (x2 : Int32) (x3 : Int32) (σ : ZM) : Option (Int32 × ZM) :=
  zbd (f_Oven_become 35 33 σ) fun v1 s2 => (
  if x2 < 0 then (
    f_Asker_behind_39 x1 x3 s2
  ) else (
    zck (zin x2 6) (
    zck (zR 0 129 (zel 25 x2.toNatClampNeg) 16 0) (
    zbd (f_Baker_bakeIn 35 (zel 25 x2.toNatClampNeg) s2) fun v7 s8 => (
    f_Asker_behind_39 x1 x3 s8)))
  ))
def f_BB_would_21 (x1 : Int32) (x2 : Int32) (x3 : Int32) (σ : ZM) : Option (Int32 × ZM) :=
  if x3 < 0 then (
    some ((-1 : Int32), σ)
  ) else (
    if x3 ≤ (4 : Int32) then (
      if x1 = x2 then (
        some ((-2 : Int32), σ)
      ) else (
        zbd (f_Asker_behind x1 x2 x3 σ) fun v4 s5 => (
        some (v4, s5))
      )
    ) else (
      some ((-1 : Int32), σ)
    )
  )
def f_BB_would (x1 : Int32) (x2 : Int32) (x3 : Int32) (σ : ZM) : Option (Int32 × ZM) :=
  zbd (f_BB_isLoaf x1 σ) fun v1 s2 => (
  if v1 = 0 then (
    some ((-1 : Int32), s2)
  ) else (
    if x2 = (-1 : Int32) then (
      f_BB_would_21 x1 x2 x3 s2
    ) else (
      zbd (f_BB_isLoaf x2 s2) fun v6 s7 => (
      if v6 = 0 then (
        some ((-1 : Int32), s7)
      ) else (
        f_BB_would_21 x1 x2 x3 s7
      ))
    )
  ))
def f_Integer_bitCount (x0 : Int32) (σ : ZM) : Option (Int32 × ZM) :=
  some ((((((((x0 - (((x0.toUInt32 >>> ((1 : Int32).toUInt32 &&& 31)).toInt32) &&& (1431655765 : Int32))) &&& (858993459 : Int32)) + ((((x0 - (((x0.toUInt32 >>> ((1 : Int32).toUInt32 &&& 31)).toInt32) &&& (1431655765 : Int32))).toUInt32 >>> ((2 : Int32).toUInt32 &&& 31)).toInt32) &&& (858993459 : Int32))) + (((((x0 - (((x0.toUInt32 >>> ((1 : Int32).toUInt32 &&& 31)).toInt32) &&& (1431655765 : Int32))) &&& (858993459 : Int32)) + ((((x0 - (((x0.toUInt32 >>> ((1 : Int32).toUInt32 &&& 31)).toInt32) &&& (1431655765 : Int32))).toUInt32 >>> ((2 : Int32).toUInt32 &&& 31)).toInt32) &&& (858993459 : Int32))).toUInt32 >>> ((4 : Int32).toUInt32 &&& 31)).toInt32)) &&& (252645135 : Int32)) + (((((((x0 - (((x0.toUInt32 >>> ((1 : Int32).toUInt32 &&& 31)).toInt32) &&& (1431655765 : Int32))) &&& (858993459 : Int32)) + ((((x0 - (((x0.toUInt32 >>> ((1 : Int32).toUInt32 &&& 31)).toInt32) &&& (1431655765 : Int32))).toUInt32 >>> ((2 : Int32).toUInt32 &&& 31)).toInt32) &&& (858993459 : Int32))) + (((((x0 - (((x0.toUInt32 >>> ((1 : Int32).toUInt32 &&& 31)).toInt32) &&& (1431655765 : Int32))) &&& (858993459 : Int32)) + ((((x0 - (((x0.toUInt32 >>> ((1 : Int32).toUInt32 &&& 31)).toInt32) &&& (1431655765 : Int32))).toUInt32 >>> ((2 : Int32).toUInt32 &&& 31)).toInt32) &&& (858993459 : Int32))).toUInt32 >>> ((4 : Int32).toUInt32 &&& 31)).toInt32)) &&& (252645135 : Int32)).toUInt32 >>> ((8 : Int32).toUInt32 &&& 31)).toInt32)) + ((((((((x0 - (((x0.toUInt32 >>> ((1 : Int32).toUInt32 &&& 31)).toInt32) &&& (1431655765 : Int32))) &&& (858993459 : Int32)) + ((((x0 - (((x0.toUInt32 >>> ((1 : Int32).toUInt32 &&& 31)).toInt32) &&& (1431655765 : Int32))).toUInt32 >>> ((2 : Int32).toUInt32 &&& 31)).toInt32) &&& (858993459 : Int32))) + (((((x0 - (((x0.toUInt32 >>> ((1 : Int32).toUInt32 &&& 31)).toInt32) &&& (1431655765 : Int32))) &&& (858993459 : Int32)) + ((((x0 - (((x0.toUInt32 >>> ((1 : Int32).toUInt32 &&& 31)).toInt32) &&& (1431655765 : Int32))).toUInt32 >>> ((2 : Int32).toUInt32 &&& 31)).toInt32) &&& (858993459 : Int32))).toUInt32 >>> ((4 : Int32).toUInt32 &&& 31)).toInt32)) &&& (252645135 : Int32)) + (((((((x0 - (((x0.toUInt32 >>> ((1 : Int32).toUInt32 &&& 31)).toInt32) &&& (1431655765 : Int32))) &&& (858993459 : Int32)) + ((((x0 - (((x0.toUInt32 >>> ((1 : Int32).toUInt32 &&& 31)).toInt32) &&& (1431655765 : Int32))).toUInt32 >>> ((2 : Int32).toUInt32 &&& 31)).toInt32) &&& (858993459 : Int32))) + (((((x0 - (((x0.toUInt32 >>> ((1 : Int32).toUInt32 &&& 31)).toInt32) &&& (1431655765 : Int32))) &&& (858993459 : Int32)) + ((((x0 - (((x0.toUInt32 >>> ((1 : Int32).toUInt32 &&& 31)).toInt32) &&& (1431655765 : Int32))).toUInt32 >>> ((2 : Int32).toUInt32 &&& 31)).toInt32) &&& (858993459 : Int32))).toUInt32 >>> ((4 : Int32).toUInt32 &&& 31)).toInt32)) &&& (252645135 : Int32)).toUInt32 >>> ((8 : Int32).toUInt32 &&& 31)).toInt32)).toUInt32 >>> ((16 : Int32).toUInt32 &&& 31)).toInt32)) &&& (63 : Int32), σ)
def f_BB_isSet (x1 : Int32) (x2 : Int32) (σ : ZM) : Option (Int32 × ZM) :=
  if x1 < 0 then (
    some ((0 : Int32), σ)
  ) else (
    if ((1 : Int32) <<< ((zI σ 1 3) &&& 31)) ≤ x1 then (
      some ((0 : Int32), σ)
    ) else (
      zbd (f_Integer_bitCount x1 σ) fun v3 s4 => (
      if x2 < v3 then (
        some ((0 : Int32), s4)
      ) else (
        some ((1 : Int32), s4)
      ))
    )
  )
def f_Search_keep_15 (k15 : Int32 × ZM → Option (Unit × ZM)) (x2 : Int32) (σ : ZM) : Option (Unit × ZM) :=
  if (zI σ 7 5) ≤ x2 then (
    some ((), σ)
  ) else (
    if (5 : Int32) ≤ x2 then (
      some ((), σ)
    ) else (
      zck (zin x2 5) (
      zck (zin x2 5) (
      k15 ((x2 + (1 : Int32)), (zsI σ 23 x2.toNatClampNeg (zI σ 22 x2.toNatClampNeg)))))
    )
  )
def F_Search_keep_15 (N : Nat) : Int32 × ZM → Option (Unit × ZM) := zlp (fun k15 a => f_Search_keep_15 k15 a.1 a.2) N
def f_Search_keep (x1 : Int32) (σ : ZM) : Option (Unit × ZM) :=
  if (zI σ 7 6) ≤ x1 then (
    some ((), σ)
  ) else (
    F_Search_keep_15 2000 ((0 : Int32), (zsI σ 7 6 x1))
  )
def f_Search_goOnOrder_130 (rec : Int32 × Int32 × Int32 × ZM → Option (Unit × ZM)) (k37 : Int32 × Int32 × Int32 × Nat × Nat × Int32 × ZM → Option (Unit × ZM)) (x1 : Int32) (x2 : Int32) (x3 : Int32) (x4 : Nat) (x5 : Nat) (x6 : Int32) (σ : ZM) : Option (Unit × ZM) :=
  k37 (x1, x2, x3, x4, x5, (x6 + (1 : Int32)), σ)
def f_Search_goOnOrder_127 (rec : Int32 × Int32 × Int32 × ZM → Option (Unit × ZM)) (k37 : Int32 × Int32 × Int32 × Nat × Nat × Int32 × ZM → Option (Unit × ZM)) (x1 : Int32) (x2 : Int32) (x3 : Int32) (x4 : Nat) (x5 : Nat) (x6 : Int32) (y0 : Int32) (y1 : Int32) (y2 : Int32) (σ : ZM) : Option (Unit × ZM) :=
  zbd (rec (y2, y1, y0, σ)) fun v1 s2 => (
  f_Search_goOnOrder_130 rec k37 x1 x2 x3 x4 x5 x6 s2)
def f_Search_goOnOrder_37 (rec : Int32 × Int32 × Int32 × ZM → Option (Unit × ZM)) (k37 : Int32 × Int32 × Int32 × Nat × Nat × Int32 × ZM → Option (Unit × ZM)) (x1 : Int32) (x2 : Int32) (x3 : Int32) (x4 : Nat) (x5 : Nat) (x6 : Int32) (σ : ZM) : Option (Unit × ZM) :=
  if (zI σ 1 3) ≤ x6 then (
    some ((), σ)
  ) else (
    if (zI σ 7 6) ≤ x3 then (
      some ((), σ)
    ) else (
      if ((x1 >>> (x6 &&& 31)) &&& (1 : Int32)) = (1 : Int32) then (
        zbd (f_Oven_become x5 x4 σ) fun v4 s5 => (
        zck (zin x2 5) (
        zck (zin x6 6) (
        zck (zR 0 129 (zel 25 x6.toNatClampNeg) 16 0) (
        zbd (f_Baker_bakeIn x5 (zel 25 x6.toNatClampNeg) (zsI s5 22 x2.toNatClampNeg x6)) fun v10 s11 => (
        if v10 = 0 then (
          f_Search_goOnOrder_127 rec k37 x1 x2 x3 x4 x5 x6 x3 (x2 + (1 : Int32)) (x1 &&& (((1 : Int32) <<< (x6 &&& 31)) ^^^ (-1 : Int32))) s11
        ) else (
          f_Search_goOnOrder_127 rec k37 x1 x2 x3 x4 x5 x6 (x3 + (1 : Int32)) (x2 + (1 : Int32)) (x1 &&& (((1 : Int32) <<< (x6 &&& 31)) ^^^ (-1 : Int32))) s11
        ))))))
      ) else (
        f_Search_goOnOrder_130 rec k37 x1 x2 x3 x4 x5 x6 σ
      )
    )
  )
def F_Search_goOnOrder_37 (rec : Int32 × Int32 × Int32 × ZM → Option (Unit × ZM)) (N : Nat) : Int32 × Int32 × Int32 × Nat × Nat × Int32 × ZM → Option (Unit × ZM) := zlp (fun k37 a => f_Search_goOnOrder_37 rec k37 a.1 a.2.1 a.2.2.1 a.2.2.2.1 a.2.2.2.2.1 a.2.2.2.2.2.1 a.2.2.2.2.2.2) N
def f_Search_goOnOrder (rec : Int32 × Int32 × Int32 × ZM → Option (Unit × ZM)) (x1 : Int32) (x2 : Int32) (x3 : Int32) (σ : ZM) : Option (Unit × ZM) :=
  if x1 = 0 then (
    zbd (f_Search_keep x3 σ) fun v7 s8 => (
    some ((), s8))
  ) else (
    if x2 < (5 : Int32) then (
      zck (zin x2 6) (
      zck (zR 0 129 (zel 24 x2.toNatClampNeg) 17 0) (
      zck (zin (x2 + (1 : Int32)) 6) (
      zck (zR 0 129 (zel 24 (x2 + (1 : Int32)).toNatClampNeg) 17 0) (
      F_Search_goOnOrder_37 rec 2000 (x1, x2, x3, (zel 24 x2.toNatClampNeg), (zel 24 (x2 + (1 : Int32)).toNatClampNeg), (0 : Int32), σ)))))
    ) else (
      some ((), σ)
    )
  )
def F_Search_goOnOrder (N : Nat) : Int32 × Int32 × Int32 × ZM → Option (Unit × ZM) := zlp (fun rec a => f_Search_goOnOrder rec a.1 a.2.1 a.2.2.1 a.2.2.2) N
def f_Search_seekOrder (x1 : Int32) (σ : ZM) : Option (Unit × ZM) :=
  zbd (f_Integer_bitCount x1 σ) fun v1 s2 => (
  zck (zin (0 : Int32) 6) (
  zck (zR 0 129 (zel 24 (0 : Int32).toNatClampNeg) 17 0) (
  zbd (f_Oven_become (zel 24 (0 : Int32).toNatClampNeg) 33 (zsI (zsI s2 7 5 v1) 7 6 (6 : Int32))) fun v6 s7 => (
  zbd (F_Search_goOnOrder 8 (x1, (0 : Int32), (0 : Int32), s7)) fun v9 s10 => (
  some ((), s10))))))
def f_BB_order (x1 : Int32) (x2 : Int32) (σ : ZM) : Option (Int32 × ZM) :=
  if x2 < (-1 : Int32) then (
    some ((-1 : Int32), σ)
  ) else (
    if x2 ≤ (5 : Int32) then (
      zbd (f_BB_isSet x1 (5 : Int32) σ) fun v3 s4 => (
      if v3 = 0 then (
        some ((-2 : Int32), s4)
      ) else (
        zbd (f_Search_seekOrder x1 s4) fun v7 s8 => (
        if x2 = (-1 : Int32) then (
          some (zI s8 7 6, s8)
        ) else (
          if (zI s8 7 5) ≤ x2 then (
            some ((-5 : Int32), s8)
          ) else (
            zck (zin x2 5) (
            some (zI s8 23 x2.toNatClampNeg, s8))
          )
        ))
      ))
    ) else (
      some ((-1 : Int32), σ)
    )
  )
def f_Search_lowestOf_2 (k2 : Int32 × Int32 × ZM → Option (Int32 × ZM)) (x0 : Int32) (x1 : Int32) (σ : ZM) : Option (Int32 × ZM) :=
  if (5 : Int32) ≤ x1 then (
    some (x1, σ)
  ) else (
    if ((x0 >>> (x1 &&& 31)) &&& (1 : Int32)) = 0 then (
      k2 (x0, (x1 + (1 : Int32)), σ)
    ) else (
      some (x1, σ)
    )
  )
def F_Search_lowestOf_2 (N : Nat) : Int32 × Int32 × ZM → Option (Int32 × ZM) := zlp (fun k2 a => f_Search_lowestOf_2 k2 a.1 a.2.1 a.2.2) N
def f_Search_lowestOf (x0 : Int32) (σ : ZM) : Option (Int32 × ZM) :=
  F_Search_lowestOf_2 2000 (x0, (0 : Int32), σ)
def f_Search_goOnColds_130 (rec : Int32 × Int32 × Int32 × ZM → Option (Unit × ZM)) (k43 : Int32 × Int32 × Int32 × Nat × Nat × Int32 × Int32 × ZM → Option (Unit × ZM)) (x1 : Int32) (x2 : Int32) (x3 : Int32) (x4 : Nat) (x5 : Nat) (x6 : Int32) (x7 : Int32) (σ : ZM) : Option (Unit × ZM) :=
  k43 (x1, x2, x3, x4, x5, x6, (x7 + (1 : Int32)), σ)
def f_Search_goOnColds_74 (rec : Int32 × Int32 × Int32 × ZM → Option (Unit × ZM)) (k43 : Int32 × Int32 × Int32 × Nat × Nat × Int32 × Int32 × ZM → Option (Unit × ZM)) (x1 : Int32) (x2 : Int32) (x3 : Int32) (x4 : Nat) (x5 : Nat) (x6 : Int32) (x7 : Int32) (σ : ZM) : Option (Unit × ZM) :=
  zbd (f_Oven_become x5 x4 σ) fun v1 s2 => (
  zck (zin x2 5) (
  zck (zin x6 6) (
  zck (zR 0 129 (zel 25 x6.toNatClampNeg) 16 0) (
  zbd (f_Baker_bakeIn x5 (zel 25 x6.toNatClampNeg) (zsI s2 22 x2.toNatClampNeg x7)) fun v7 s8 => (
  if v7 = 0 then (
    zbd (rec ((x1 &&& (((1 : Int32) <<< (x6 &&& 31)) ^^^ (-1 : Int32))), (x2 + (1 : Int32)), (x3 + x7), s8)) fun v11 s12 => (
    f_Search_goOnColds_130 rec k43 x1 x2 x3 x4 x5 x6 x7 s12)
  ) else (
    f_Search_goOnColds_130 rec k43 x1 x2 x3 x4 x5 x6 x7 s8
  ))))))
def f_Search_goOnColds_43 (rec : Int32 × Int32 × Int32 × ZM → Option (Unit × ZM)) (k43 : Int32 × Int32 × Int32 × Nat × Nat × Int32 × Int32 × ZM → Option (Unit × ZM)) (x1 : Int32) (x2 : Int32) (x3 : Int32) (x4 : Nat) (x5 : Nat) (x6 : Int32) (x7 : Int32) (σ : ZM) : Option (Unit × ZM) :=
  if (4 : Int32) < x7 then (
    some ((), σ)
  ) else (
    if (zI σ 7 6) ≤ (x3 + x7) then (
      some ((), σ)
    ) else (
      if x7 ≤ 0 then (
        f_Search_goOnColds_74 rec k43 x1 x2 x3 x4 x5 x6 x7 σ
      ) else (
        zbd (f_Baker_chill x4 σ) fun v4 s5 => (
        f_Search_goOnColds_74 rec k43 x1 x2 x3 x4 x5 x6 x7 s5)
      )
    )
  )
def F_Search_goOnColds_43 (rec : Int32 × Int32 × Int32 × ZM → Option (Unit × ZM)) (N : Nat) : Int32 × Int32 × Int32 × Nat × Nat × Int32 × Int32 × ZM → Option (Unit × ZM) := zlp (fun k43 a => f_Search_goOnColds_43 rec k43 a.1 a.2.1 a.2.2.1 a.2.2.2.1 a.2.2.2.2.1 a.2.2.2.2.2.1 a.2.2.2.2.2.2.1 a.2.2.2.2.2.2.2) N
def f_Search_goOnColds (rec : Int32 × Int32 × Int32 × ZM → Option (Unit × ZM)) (x1 : Int32) (x2 : Int32) (x3 : Int32) (σ : ZM) : Option (Unit × ZM) :=
  if x1 = 0 then (
    zbd (f_Search_keep x3 σ) fun v10 s11 => (
    some ((), s11))
  ) else (
    if x2 < (5 : Int32) then (
      zck (zin x2 6) (
      zck (zR 0 129 (zel 24 x2.toNatClampNeg) 17 0) (
      zck (zin (x2 + (1 : Int32)) 6) (
      zck (zR 0 129 (zel 24 (x2 + (1 : Int32)).toNatClampNeg) 17 0) (
      zbd (f_Search_lowestOf x1 σ) fun v7 s8 => (
      F_Search_goOnColds_43 rec 2000 (x1, x2, x3, (zel 24 x2.toNatClampNeg), (zel 24 (x2 + (1 : Int32)).toNatClampNeg), v7, (0 : Int32), s8))))))
    ) else (
      some ((), σ)
    )
  )
def F_Search_goOnColds (N : Nat) : Int32 × Int32 × Int32 × ZM → Option (Unit × ZM) := zlp (fun rec a => f_Search_goOnColds rec a.1 a.2.1 a.2.2.1 a.2.2.2) N
def f_Search_seekColds (x1 : Int32) (σ : ZM) : Option (Int32 × ZM) :=
  zbd (f_Integer_bitCount x1 σ) fun v1 s2 => (
  zck (zin (0 : Int32) 6) (
  zck (zR 0 129 (zel 24 (0 : Int32).toNatClampNeg) 17 0) (
  zbd (f_Oven_become (zel 24 (0 : Int32).toNatClampNeg) 33 (zsI (zsI s2 7 5 v1) 7 6 ((20 : Int32) + (1 : Int32)))) fun v6 s7 => (
  zbd (F_Search_goOnColds 8 (x1, (0 : Int32), (0 : Int32), s7)) fun v9 s10 => (
  if (20 : Int32) < (zI s10 7 6) then (
    some ((0 : Int32), s10)
  ) else (
    some ((1 : Int32), s10)
  ))))))
def f_BB_colds (x1 : Int32) (x2 : Int32) (σ : ZM) : Option (Int32 × ZM) :=
  if x2 < (-1 : Int32) then (
    some ((-1 : Int32), σ)
  ) else (
    if x2 ≤ (5 : Int32) then (
      zbd (f_BB_isSet x1 (4 : Int32) σ) fun v3 s4 => (
      if v3 = 0 then (
        some ((-2 : Int32), s4)
      ) else (
        zbd (f_Search_seekColds x1 s4) fun v7 s8 => (
        if v7 = 0 then (
          some ((-5 : Int32), s8)
        ) else (
          if x2 = (-1 : Int32) then (
            some (zI s8 7 6, s8)
          ) else (
            if (zI s8 7 5) ≤ x2 then (
              some ((-5 : Int32), s8)
            ) else (
              zck (zin x2 5) (
              some (zI s8 23 x2.toNatClampNeg, s8))
            )
          )
        ))
      ))
    ) else (
      some ((-1 : Int32), σ)
    )
  )
def f_Baker_takesOfAll_5 (k5 : Nat × Nat × Int32 × Int32 × ZM → Option (Int32 × ZM)) (x1 : Nat) (x2 : Nat) (x3 : Int32) (x4 : Int32) (σ : ZM) : Option (Int32 × ZM) :=
  if (4 : Int32) ≤ x4 then (
    some (x3, σ)
  ) else (
    zbd (f_Baker_takes x1 x4 x2 σ) fun v2 s3 => (
    k5 (x1, x2, (x3 + v2), (x4 + (1 : Int32)), s3))
  )
def F_Baker_takesOfAll_5 (N : Nat) : Nat × Nat × Int32 × Int32 × ZM → Option (Int32 × ZM) := zlp (fun k5 a => f_Baker_takesOfAll_5 k5 a.1 a.2.1 a.2.2.1 a.2.2.2.1 a.2.2.2.2) N
def f_Baker_takesOfAll (x1 : Nat) (x2 : Nat) (σ : ZM) : Option (Int32 × ZM) :=
  zck (zR 0 129 x1 16 0) (
  zck (zR 0 129 x2 17 0) (
  F_Baker_takesOfAll_5 2000 (x1, x2, (0 : Int32), (0 : Int32), σ)))
def f_Asker_bestPlace_122 (k44 : Int32 × Int32 × Int32 × Int32 × Int32 × Int32 × ZM → Option (Int32 × ZM)) (x1 : Int32) (x2 : Int32) (x3 : Int32) (x4 : Int32) (x5 : Int32) (x6 : Int32) (σ : ZM) : Option (Int32 × ZM) :=
  k44 (x1, x2, x3, x4, x5, (x6 + (1 : Int32)), σ)
def f_Asker_bestPlace_44 (k44 : Int32 × Int32 × Int32 × Int32 × Int32 × Int32 × ZM → Option (Int32 × ZM)) (x1 : Int32) (x2 : Int32) (x3 : Int32) (x4 : Int32) (x5 : Int32) (x6 : Int32) (σ : ZM) : Option (Int32 × ZM) :=
  if (zI σ 1 3) ≤ x6 then (
    if x2 = 0 then (
      some (x4, σ)
    ) else (
      some (x3, σ)
    )
  ) else (
    if x6 = x1 then (
      f_Asker_bestPlace_122 k44 x1 x2 x3 x4 x5 x6 σ
    ) else (
      zck (zin x6 6) (
      zck (zR 0 129 (zel 25 x6.toNatClampNeg) 16 0) (
      zbd (f_Baker_bakeIn 35 (zel 25 x6.toNatClampNeg) σ) fun v6 s7 => (
      zck (zin x1 6) (
      zck (zR 0 129 (zel 25 x1.toNatClampNeg) 16 0) (
      zbd (f_Baker_takesOfAll (zel 25 x1.toNatClampNeg) 35 s7) fun v11 s12 => (
      if x3 ≤ v11 then (
        f_Asker_bestPlace_122 k44 x1 x2 x3 x4 (x5 + (1 : Int32)) x6 s12
      ) else (
        f_Asker_bestPlace_122 k44 x1 x2 v11 (x5 + (1 : Int32)) (x5 + (1 : Int32)) x6 s12
      )))))))
    )
  )
def F_Asker_bestPlace_44 (N : Nat) : Int32 × Int32 × Int32 × Int32 × Int32 × Int32 × ZM → Option (Int32 × ZM) := zlp (fun k44 a => f_Asker_bestPlace_44 k44 a.1 a.2.1 a.2.2.1 a.2.2.2.1 a.2.2.2.2.1 a.2.2.2.2.2.1 a.2.2.2.2.2.2) N
def f_Asker_bestPlace (x1 : Int32) (x2 : Int32) (σ : ZM) : Option (Int32 × ZM) :=
  zbd (f_Oven_become 35 33 σ) fun v1 s2 => (
  zck (zin x1 6) (
  zck (zR 0 129 (zel 25 x1.toNatClampNeg) 16 0) (
  zbd (f_Baker_takesOfAll (zel 25 x1.toNatClampNeg) 35 s2) fun v6 s7 => (
  F_Asker_bestPlace_44 2000 (x1, x2, v6, (0 : Int32), (0 : Int32), (0 : Int32), s7)))))
def f_BB_place_34 (y0 : Int32) (y1 : Int32) (σ : ZM) : Option (Int32 × ZM) :=
  zbd (f_Asker_bestPlace y1 y0 σ) fun v1 s2 => (
  some (v1, s2))
def f_BB_place (x1 : Int32) (x2 : Int32) (σ : ZM) : Option (Int32 × ZM) :=
  zbd (f_BB_isLoaf x1 σ) fun v1 s2 => (
  if v1 = 0 then (
    some ((-1 : Int32), s2)
  ) else (
    if x2 < 0 then (
      some ((-1 : Int32), s2)
    ) else (
      if x2 ≤ (1 : Int32) then (
        if x2 = (1 : Int32) then (
          f_BB_place_34 (1 : Int32) x1 s2
        ) else (
          f_BB_place_34 (0 : Int32) x1 s2
        )
      ) else (
        some ((-1 : Int32), s2)
      )
    )
  ))
def f_Asker_spoilsWithout_47 (k16 : Int32 × Int32 × Int32 × ZM → Option (Int32 × ZM)) (x1 : Int32) (x2 : Int32) (x3 : Int32) (σ : ZM) : Option (Int32 × ZM) :=
  k16 (x1, x2, (x3 + (1 : Int32)), σ)
def f_Asker_spoilsWithout_16 (k16 : Int32 × Int32 × Int32 × ZM → Option (Int32 × ZM)) (x1 : Int32) (x2 : Int32) (x3 : Int32) (σ : ZM) : Option (Int32 × ZM) :=
  if x1 ≤ x3 then (
    zck (zin x1 6) (
    zck (zR 0 129 (zel 25 x1.toNatClampNeg) 16 0) (
    zbd (f_Baker_spoils (zel 25 x1.toNatClampNeg) 35 σ) fun v4 s5 => (
    zck (zbl v4) (some (v4, s5)))))
  ) else (
    if x3 = x2 then (
      f_Asker_spoilsWithout_47 k16 x1 x2 x3 σ
    ) else (
      zck (zin x3 6) (
      zck (zR 0 129 (zel 25 x3.toNatClampNeg) 16 0) (
      zbd (f_Baker_bakeIn 35 (zel 25 x3.toNatClampNeg) σ) fun v11 s12 => (
      f_Asker_spoilsWithout_47 k16 x1 x2 x3 s12)))
    )
  )
def F_Asker_spoilsWithout_16 (N : Nat) : Int32 × Int32 × Int32 × ZM → Option (Int32 × ZM) := zlp (fun k16 a => f_Asker_spoilsWithout_16 k16 a.1 a.2.1 a.2.2.1 a.2.2.2) N
def f_Asker_spoilsWithout (x1 : Int32) (x2 : Int32) (σ : ZM) : Option (Int32 × ZM) :=
  zbd (f_Oven_become 35 33 σ) fun v1 s2 => (
  F_Asker_spoilsWithout_16 2000 (x1, x2, (0 : Int32), s2))
def f_Asker_guiltyOf_35 (k15 : Int32 × Int32 × Int32 × ZM → Option (Int32 × ZM)) (x1 : Int32) (x2 : Int32) (x3 : Int32) (σ : ZM) : Option (Int32 × ZM) :=
  k15 (x1, x2, (x3 + (1 : Int32)), σ)
def f_Asker_guiltyOf_15 (k15 : Int32 × Int32 × Int32 × ZM → Option (Int32 × ZM)) (x1 : Int32) (x2 : Int32) (x3 : Int32) (σ : ZM) : Option (Int32 × ZM) :=
  if x1 ≤ x3 then (
    some (x2, σ)
  ) else (
    zbd (f_Asker_spoilsWithout x1 x3 σ) fun v2 s3 => (
    if v2 = 0 then (
      f_Asker_guiltyOf_35 k15 x1 (x2 ||| ((1 : Int32) <<< (x3 &&& 31))) x3 s3
    ) else (
      f_Asker_guiltyOf_35 k15 x1 x2 x3 s3
    ))
  )
def F_Asker_guiltyOf_15 (N : Nat) : Int32 × Int32 × Int32 × ZM → Option (Int32 × ZM) := zlp (fun k15 a => f_Asker_guiltyOf_15 k15 a.1 a.2.1 a.2.2.1 a.2.2.2) N
def f_Asker_guiltyOf (x1 : Int32) (σ : ZM) : Option (Int32 × ZM) :=
  zbd (f_Asker_spoilsWithout x1 (-1 : Int32) σ) fun v1 s2 => (
  if v1 = 0 then (
    some ((0 : Int32), s2)
  ) else (
    F_Asker_guiltyOf_15 2000 (x1, (0 : Int32), (0 : Int32), s2)
  ))
def f_BB_guilty (x1 : Int32) (σ : ZM) : Option (Int32 × ZM) :=
  zbd (f_BB_isLoaf x1 σ) fun v1 s2 => (
  if v1 = 0 then (
    some ((-1 : Int32), s2)
  ) else (
    zbd (f_Asker_guiltyOf x1 s2) fun v5 s6 => (
    some (v5, s6))
  ))
def f_Asker_spoiledIn_64 (k18 : Int32 × Int32 × Int32 × ZM → Option (Int32 × ZM)) (x1 : Int32) (x2 : Int32) (x3 : Int32) (σ : ZM) : Option (Int32 × ZM) :=
  k18 (x1, x2, (x3 + (1 : Int32)), σ)
def f_Asker_spoiledIn_18 (k18 : Int32 × Int32 × Int32 × ZM → Option (Int32 × ZM)) (x1 : Int32) (x2 : Int32) (x3 : Int32) (σ : ZM) : Option (Int32 × ZM) :=
  if (zI σ 1 3) ≤ x3 then (
    some (x2, σ)
  ) else (
    if ((x1 >>> (x3 &&& 31)) &&& (1 : Int32)) = (1 : Int32) then (
      zck (zin x3 6) (
      zck (zR 0 129 (zel 25 x3.toNatClampNeg) 16 0) (
      zbd (f_Baker_bakeIn 35 (zel 25 x3.toNatClampNeg) σ) fun v5 s6 => (
      if v5 = 0 then (
        f_Asker_spoiledIn_64 k18 x1 x2 x3 s6
      ) else (
        f_Asker_spoiledIn_64 k18 x1 (x2 + (1 : Int32)) x3 s6
      ))))
    ) else (
      f_Asker_spoiledIn_64 k18 x1 x2 x3 σ
    )
  )
def F_Asker_spoiledIn_18 (N : Nat) : Int32 × Int32 × Int32 × ZM → Option (Int32 × ZM) := zlp (fun k18 a => f_Asker_spoiledIn_18 k18 a.1 a.2.1 a.2.2.1 a.2.2.2) N
def f_Asker_spoiledIn (x1 : Int32) (σ : ZM) : Option (Int32 × ZM) :=
  zbd (f_Oven_become 35 33 σ) fun v1 s2 => (
  F_Asker_spoiledIn_18 2000 (x1, (0 : Int32), (0 : Int32), s2))
def f_Asker_bestParting_90 (k49 : Int32 × Int32 × Int32 × Int32 × Int32 × ZM → Option (Int32 × ZM)) (x1 : Int32) (x2 : Int32) (x3 : Int32) (x4 : Int32) (x5 : Int32) (σ : ZM) : Option (Int32 × ZM) :=
  k49 (x1, x2, x3, x4, (x5 + (1 : Int32)), σ)
def f_Asker_bestParting_49 (k49 : Int32 × Int32 × Int32 × Int32 × Int32 × ZM → Option (Int32 × ZM)) (x1 : Int32) (x2 : Int32) (x3 : Int32) (x4 : Int32) (x5 : Int32) (σ : ZM) : Option (Int32 × ZM) :=
  if x2 ≤ x5 then (
    if x1 = 0 then (
      some (x4, σ)
    ) else (
      some (x3, σ)
    )
  ) else (
    zck (zin x5 64) (
    zck (zin ((x2 - (1 : Int32)) - x5) 64) (
    if x4 ≤ ((zI σ 21 x5.toNatClampNeg) + (zI σ 21 ((x2 - (1 : Int32)) - x5).toNatClampNeg)) then (
      f_Asker_bestParting_90 k49 x1 x2 x3 x4 x5 σ
    ) else (
      f_Asker_bestParting_90 k49 x1 x2 x5 ((zI σ 21 x5.toNatClampNeg) + (zI σ 21 ((x2 - (1 : Int32)) - x5).toNatClampNeg)) x5 σ
    )))
  )
def F_Asker_bestParting_49 (N : Nat) : Int32 × Int32 × Int32 × Int32 × Int32 × ZM → Option (Int32 × ZM) := zlp (fun k49 a => f_Asker_bestParting_49 k49 a.1 a.2.1 a.2.2.1 a.2.2.2.1 a.2.2.2.2.1 a.2.2.2.2.2) N
def f_Asker_bestParting_12 (k12 : Int32 × Int32 × Int32 × ZM → Option (Int32 × ZM)) (x1 : Int32) (x2 : Int32) (x3 : Int32) (σ : ZM) : Option (Int32 × ZM) :=
  if x2 ≤ x3 then (
    zck (zin (x2 - (1 : Int32)) 64) (
    F_Asker_bestParting_49 2000 (x1, x2, (0 : Int32), (zI σ 21 (x2 - (1 : Int32)).toNatClampNeg), (1 : Int32), σ))
  ) else (
    zbd (f_Asker_spoiledIn x3 σ) fun v3 s4 => (
    zck (zin x3 64) (
    k12 (x1, x2, (x3 + (1 : Int32)), (zsI s4 21 x3.toNatClampNeg v3))))
  )
def F_Asker_bestParting_12 (N : Nat) : Int32 × Int32 × Int32 × ZM → Option (Int32 × ZM) := zlp (fun k12 a => f_Asker_bestParting_12 k12 a.1 a.2.1 a.2.2.1 a.2.2.2) N
def f_Asker_bestParting (x1 : Int32) (σ : ZM) : Option (Int32 × ZM) :=
  F_Asker_bestParting_12 2000 (x1, ((1 : Int32) <<< ((zI σ 1 3) &&& 31)), (0 : Int32), σ)
def f_BB_two_25 (y0 : Int32) (σ : ZM) : Option (Int32 × ZM) :=
  zbd (f_Asker_bestParting y0 σ) fun v1 s2 => (
  some (v1, s2))
def f_BB_two (x1 : Int32) (σ : ZM) : Option (Int32 × ZM) :=
  if x1 < 0 then (
    some ((-1 : Int32), σ)
  ) else (
    if x1 ≤ (1 : Int32) then (
      if x1 = (1 : Int32) then (
        f_BB_two_25 (1 : Int32) σ
      ) else (
        f_BB_two_25 (0 : Int32) σ
      )
    ) else (
      some ((-1 : Int32), σ)
    )
  )
def f_Asker_gainOfFirst (x1 : Int32) (σ : ZM) : Option (Int32 × ZM) :=
  zck (zin x1 6) (
  zck (zR 0 129 (zel 25 x1.toNatClampNeg) 16 0) (
  zck (zin (x1 + (1 : Int32)) 6) (
  zck (zR 0 129 (zel 25 (x1 + (1 : Int32)).toNatClampNeg) 16 0) (
  zbd (f_Oven_become 35 33 σ) fun v5 s6 => (
  zbd (f_Baker_bakeIn 35 (zel 25 x1.toNatClampNeg) s6) fun v8 s9 => (
  zbd (f_Baker_takesOfAll (zel 25 (x1 + (1 : Int32)).toNatClampNeg) 35 s9) fun v11 s12 => (
  zbd (f_Baker_takesOfAll (zel 25 (x1 + (1 : Int32)).toNatClampNeg) 33 s12) fun v14 s15 => (
  if v14 ≤ v11 then (
    zbd (f_Baker_feeOf (zel 25 (x1 + (1 : Int32)).toNatClampNeg) (zI s15 33 1) s15) fun v18 s19 => (
    some (-v18, s19))
  ) else (
    zbd (f_Baker_feeOf (zel 25 x1.toNatClampNeg) (zI s15 33 1) s15) fun v21 s22 => (
    some (v21, s22))
  )))))))))
def f_Asker_purse_23 (x1 : Int32) (x2 : Int32) (σ : ZM) : Option (Int32 × ZM) :=
  if x1 ≤ 0 then (
    some (x2, σ)
  ) else (
    zbd (f_Asker_gainOfFirst (x1 - (1 : Int32)) σ) fun v2 s3 => (
    some (x2 - v2, s3))
  )
def f_Asker_purse (x1 : Int32) (σ : ZM) : Option (Int32 × ZM) :=
  if (zI σ 1 3) ≤ (x1 + (1 : Int32)) then (
    f_Asker_purse_23 x1 (0 : Int32) σ
  ) else (
    zbd (f_Asker_gainOfFirst x1 σ) fun v2 s3 => (
    f_Asker_purse_23 x1 ((0 : Int32) + v2) s3)
  )
def f_BB_has (x1 : Int32) (σ : ZM) : Option (Int32 × ZM) :=
  zbd (f_BB_isLoaf x1 σ) fun v1 s2 => (
  if v1 = 0 then (
    some ((-100001 : Int32), s2)
  ) else (
    zbd (f_Asker_purse x1 s2) fun v5 s6 => (
    some (v5, s6))
  ))
def f_Asker_bakeAhead_16 (k16 : Int32 × Int32 × ZM → Option (Unit × ZM)) (x1 : Int32) (x2 : Int32) (σ : ZM) : Option (Unit × ZM) :=
  if x1 ≤ x2 then (
    some ((), σ)
  ) else (
    zck (zin x2 6) (
    zck (zR 0 129 (zel 25 x2.toNatClampNeg) 16 0) (
    zbd (f_Baker_bakeIn 35 (zel 25 x2.toNatClampNeg) σ) fun v4 s5 => (
    k16 (x1, (x2 + (1 : Int32)), s5))))
  )
def F_Asker_bakeAhead_16 (N : Nat) : Int32 × Int32 × ZM → Option (Unit × ZM) := zlp (fun k16 a => f_Asker_bakeAhead_16 k16 a.1 a.2.1 a.2.2) N
def f_Asker_bakeAhead (x1 : Int32) (σ : ZM) : Option (Unit × ZM) :=
  zbd (f_Oven_become 35 33 σ) fun v1 s2 => (
  F_Asker_bakeAhead_16 2000 (x1, (0 : Int32), s2))
def f_Asker_bothAgree (x1 : Int32) (σ : ZM) : Option (Int32 × ZM) :=
  zck (zin x1 6) (
  zck (zR 0 129 (zel 25 x1.toNatClampNeg) 16 0) (
  zck (zin (x1 + (1 : Int32)) 6) (
  zck (zR 0 129 (zel 25 (x1 + (1 : Int32)).toNatClampNeg) 16 0) (
  zbd (f_Asker_bakeAhead x1 σ) fun v5 s6 => (
  zbd (f_Baker_takesOfAll (zel 25 x1.toNatClampNeg) 35 s6) fun v8 s9 => (
  zbd (f_Baker_bakeIn 35 (zel 25 x1.toNatClampNeg) s9) fun v11 s12 => (
  zbd (f_Baker_takesOfAll (zel 25 (x1 + (1 : Int32)).toNatClampNeg) 35 s12) fun v14 s15 => (
  zbd (f_Asker_bakeAhead x1 s15) fun v17 s18 => (
  zbd (f_Baker_takesOfAll (zel 25 (x1 + (1 : Int32)).toNatClampNeg) 35 s18) fun v20 s21 => (
  zbd (f_Baker_bakeIn 35 (zel 25 (x1 + (1 : Int32)).toNatClampNeg) s21) fun v23 s24 => (
  zbd (f_Baker_takesOfAll (zel 25 x1.toNatClampNeg) 35 s24) fun v26 s27 => (
  if v8 < v26 then (
    some ((0 : Int32), s27)
  ) else (
    if v14 < v20 then (
      some ((0 : Int32), s27)
    ) else (
      if v26 < v8 then (
        some ((1 : Int32), s27)
      ) else (
        if v14 ≤ v20 then (
          some ((0 : Int32), s27)
        ) else (
          some ((1 : Int32), s27)
        )
      )
    )
  )))))))))))))
def f_BB_swaps (x1 : Int32) (σ : ZM) : Option (Int32 × ZM) :=
  zbd (f_BB_isLoaf x1 σ) fun v1 s2 => (
  if v1 = 0 then (
    some ((-1 : Int32), s2)
  ) else (
    zbd (f_BB_isLoaf (x1 + (1 : Int32)) s2) fun v5 s6 => (
    if v5 = 0 then (
      some ((-1 : Int32), s6)
    ) else (
      zbd (f_Asker_bothAgree x1 s6) fun v9 s10 => (
      zbd (f_BB_flag v9 s10) fun v12 s13 => (
      some (v12, s13)))
    ))
  ))
def f_Asker_reaching_51 (k10 : Nat × Int32 × Int32 × Int32 × Int32 × Int32 × ZM → Option (Int32 × ZM)) (x0 : Nat) (x1 : Int32) (x2 : Int32) (x3 : Int32) (x6 : Int32) (x7 : Int32) (σ : ZM) : Option (Int32 × ZM) :=
  k10 (x0, x1, x2, x3, x6, x7, σ)
def f_Asker_reaching_10 (k10 : Nat × Int32 × Int32 × Int32 × Int32 × Int32 × ZM → Option (Int32 × ZM)) (x0 : Nat) (x1 : Int32) (x2 : Int32) (x3 : Int32) (x6 : Int32) (x7 : Int32) (σ : ZM) : Option (Int32 × ZM) :=
  if x7 ≤ x6 then (
    some (x6, σ)
  ) else (
    zbd (f_Baker_amount x0 x1 x2 ((x6 + x7) / (2 : Int32)) σ) fun v2 s3 => (
    if v2 < x3 then (
      f_Asker_reaching_51 k10 x0 x1 x2 x3 (((x6 + x7) / (2 : Int32)) + (1 : Int32)) x7 s3
    ) else (
      f_Asker_reaching_51 k10 x0 x1 x2 x3 x6 ((x6 + x7) / (2 : Int32)) s3
    ))
  )
def F_Asker_reaching_10 (N : Nat) : Nat × Int32 × Int32 × Int32 × Int32 × Int32 × ZM → Option (Int32 × ZM) := zlp (fun k10 a => f_Asker_reaching_10 k10 a.1 a.2.1 a.2.2.1 a.2.2.2.1 a.2.2.2.2.1 a.2.2.2.2.2.1 a.2.2.2.2.2.2) N
def f_Asker_reaching (x0 : Nat) (x1 : Int32) (x2 : Int32) (x3 : Int32) (x4 : Int32) (x5 : Int32) (σ : ZM) : Option (Int32 × ZM) :=
  zck (zR 0 129 x0 16 0) (
  F_Asker_reaching_10 2000 (x0, x1, x2, x3, x4, (x5 + (1 : Int32)), σ))
def f_Asker_heldBy_138 (k3 : Nat × Int32 × Int32 × Int32 × Int32 × ZM → Option (Int32 × ZM)) (x1 : Nat) (x2 : Int32) (x3 : Int32) (x4 : Int32) (x5 : Int32) (σ : ZM) : Option (Int32 × ZM) :=
  k3 (x1, x2, x3, x4, (x5 + (1 : Int32)), σ)
def f_Asker_heldBy_52 (k3 : Nat × Int32 × Int32 × Int32 × Int32 × ZM → Option (Int32 × ZM)) (x1 : Nat) (x2 : Int32) (x3 : Int32) (x4 : Int32) (x5 : Int32) (x7 : Int32) (y0 : Int32) (σ : ZM) : Option (Int32 × ZM) :=
  zbd (f_Baker_partOf x1 x2 x7 (zI σ 33 1) σ) fun v1 s2 => (
  zbd (f_Asker_reaching x1 x2 v1 x3 x7 y0 s2) fun v4 s5 => (
  if y0 < v4 then (
    f_Asker_heldBy_138 k3 x1 x2 x3 x4 x5 s5
  ) else (
    zbd (f_Baker_amount x1 x2 v1 v4 s5) fun v8 s9 => (
    if v8 = x3 then (
      if x4 = 0 then (
        some (v4, s9)
      ) else (
        zbd (f_Asker_reaching x1 x2 v1 (x3 + (1 : Int32)) x7 y0 s9) fun v13 s14 => (
        some (v13 - (1 : Int32), s14))
      )
    ) else (
      f_Asker_heldBy_138 k3 x1 x2 x3 x4 x5 s9
    ))
  )))
def f_Asker_heldBy_25 (k3 : Nat × Int32 × Int32 × Int32 × Int32 × ZM → Option (Int32 × ZM)) (x1 : Nat) (x2 : Int32) (x3 : Int32) (x4 : Int32) (x5 : Int32) (y0 : Int32) (σ : ZM) : Option (Int32 × ZM) :=
  if y0 = (100 : Int32) then (
    f_Asker_heldBy_52 k3 x1 x2 x3 x4 x5 (y0 * (10 : Int32)) (9999 : Int32) σ
  ) else (
    f_Asker_heldBy_52 k3 x1 x2 x3 x4 x5 (y0 * (10 : Int32)) ((y0 * (10 : Int32)) + (9 : Int32)) σ
  )
def f_Asker_heldBy_3 (k3 : Nat × Int32 × Int32 × Int32 × Int32 × ZM → Option (Int32 × ZM)) (x1 : Nat) (x2 : Int32) (x3 : Int32) (x4 : Int32) (x5 : Int32) (σ : ZM) : Option (Int32 × ZM) :=
  if (100 : Int32) < x5 then (
    some ((-5 : Int32), σ)
  ) else (
    if x4 = 0 then (
      f_Asker_heldBy_25 k3 x1 x2 x3 x4 x5 x5 σ
    ) else (
      f_Asker_heldBy_25 k3 x1 x2 x3 x4 x5 ((100 : Int32) - x5) σ
    )
  )
def F_Asker_heldBy_3 (N : Nat) : Nat × Int32 × Int32 × Int32 × Int32 × ZM → Option (Int32 × ZM) := zlp (fun k3 a => f_Asker_heldBy_3 k3 a.1 a.2.1 a.2.2.1 a.2.2.2.1 a.2.2.2.2.1 a.2.2.2.2.2) N
def f_Asker_heldBy (x1 : Nat) (x2 : Int32) (x3 : Int32) (x4 : Int32) (σ : ZM) : Option (Int32 × ZM) :=
  zck (zR 0 129 x1 16 0) (
  F_Asker_heldBy_3 2000 (x1, x2, x3, x4, (0 : Int32), σ))
def f_BB_span_68 (y0 : Int32) (y1 : Int32) (y2 : Int32) (y3 : Nat) (σ : ZM) : Option (Int32 × ZM) :=
  zbd (f_Asker_heldBy y3 y2 y1 y0 σ) fun v1 s2 => (
  some (v1, s2))
def f_BB_span (x1 : Int32) (x2 : Int32) (x3 : Int32) (x4 : Int32) (σ : ZM) : Option (Int32 × ZM) :=
  zbd (f_BB_isLoaf x1 σ) fun v1 s2 => (
  if v1 = 0 then (
    some ((-1 : Int32), s2)
  ) else (
    zbd (f_BB_isTaste x2 s2) fun v5 s6 => (
    if v5 = 0 then (
      some ((-1 : Int32), s6)
    ) else (
      if x4 < 0 then (
        some ((-1 : Int32), s6)
      ) else (
        if x4 ≤ (1 : Int32) then (
          if x3 < 0 then (
            some ((-2 : Int32), s6)
          ) else (
            if x3 ≤ (9999 : Int32) then (
              zck (zin x1 6) (
              zck (zR 0 129 (zel 25 x1.toNatClampNeg) 16 0) (
              if x4 = (1 : Int32) then (
                f_BB_span_68 (1 : Int32) x3 x2 (zel 25 x1.toNatClampNeg) s6
              ) else (
                f_BB_span_68 (0 : Int32) x3 x2 (zel 25 x1.toNatClampNeg) s6
              )))
            ) else (
              some ((-2 : Int32), s6)
            )
          )
        ) else (
          some ((-1 : Int32), s6)
        )
      )
    ))
  ))
def f_Asker_afterYear_106 (k23 : Int32 × Int32 × Int32 × Int32 × Int32 × Int32 × ZM → Option (Int32 × ZM)) (x1 : Int32) (x2 : Int32) (x3 : Int32) (x4 : Int32) (x5 : Int32) (x6 : Int32) (σ : ZM) : Option (Int32 × ZM) :=
  k23 (x1, x2, x3, x4, x5, (x6 + (1 : Int32)), σ)
def f_Asker_afterYear_104 (k23 : Int32 × Int32 × Int32 × Int32 × Int32 × Int32 × ZM → Option (Int32 × ZM)) (x1 : Int32) (x2 : Int32) (x3 : Int32) (x5 : Int32) (x6 : Int32) (y0 : Int32) (σ : ZM) : Option (Int32 × ZM) :=
  f_Asker_afterYear_106 k23 x1 x2 x3 y0 x5 x6 σ
def f_Asker_afterYear_82 (k23 : Int32 × Int32 × Int32 × Int32 × Int32 × Int32 × ZM → Option (Int32 × ZM)) (x1 : Int32) (x2 : Int32) (x3 : Int32) (x4 : Int32) (x5 : Int32) (x6 : Int32) (σ : ZM) : Option (Int32 × ZM) :=
  if (zI σ 1 3) ≤ (x4 + (1 : Int32)) then (
    f_Asker_afterYear_104 k23 x1 x2 x3 x5 x6 (0 : Int32) σ
  ) else (
    f_Asker_afterYear_104 k23 x1 x2 x3 x5 x6 (x4 + (1 : Int32)) σ
  )
def f_Asker_afterYear_23 (k23 : Int32 × Int32 × Int32 × Int32 × Int32 × Int32 × ZM → Option (Int32 × ZM)) (x1 : Int32) (x2 : Int32) (x3 : Int32) (x4 : Int32) (x5 : Int32) (x6 : Int32) (σ : ZM) : Option (Int32 × ZM) :=
  if x1 ≤ x6 then (
    if (4 : Int32) ≤ x3 then (
      some (x5, σ)
    ) else (
      zck (zin x3 4) (
      some (zI σ 44 x3.toNatClampNeg, σ))
    )
  ) else (
    zck (x2 != 0) (
    if ((zI σ 35 1) - (zI σ 35 1) / x2 * x2) = 0 then (
      zbd (f_Baker_chill 35 σ) fun v12 s13 => (
      f_Asker_afterYear_106 k23 x1 x2 x3 x4 x5 x6 s13)
    ) else (
      zck (zin x4 6) (
      zck (zR 0 129 (zel 25 x4.toNatClampNeg) 16 0) (
      zbd (f_Baker_bakeIn 35 (zel 25 x4.toNatClampNeg) σ) fun v8 s9 => (
      if v8 = 0 then (
        f_Asker_afterYear_82 k23 x1 x2 x3 x4 x5 x6 s9
      ) else (
        f_Asker_afterYear_82 k23 x1 x2 x3 x4 (x5 + (1 : Int32)) x6 s9
      ))))
    ))
  )
def F_Asker_afterYear_23 (N : Nat) : Int32 × Int32 × Int32 × Int32 × Int32 × Int32 × ZM → Option (Int32 × ZM) := zlp (fun k23 a => f_Asker_afterYear_23 k23 a.1 a.2.1 a.2.2.1 a.2.2.2.1 a.2.2.2.2.1 a.2.2.2.2.2.1 a.2.2.2.2.2.2) N
def f_Asker_afterYear (x1 : Int32) (x2 : Int32) (x3 : Int32) (σ : ZM) : Option (Int32 × ZM) :=
  zbd (f_Oven_become 35 33 σ) fun v1 s2 => (
  F_Asker_afterYear_23 2000 (x1, x2, x3, (0 : Int32), (0 : Int32), (0 : Int32), s2))
def f_BB_year_9  (σ : ZM) : Option (Int32 × ZM) :=
  some ((-100001 : Int32), σ)
def f_BB_year_33  (σ : ZM) : Option (Int32 × ZM) :=
  some ((-100002 : Int32), σ)
def f_BB_year (x1 : Int32) (x2 : Int32) (x3 : Int32) (σ : ZM) : Option (Int32 × ZM) :=
  if x3 < 0 then (
    f_BB_year_9 σ
  ) else (
    if x3 ≤ (4 : Int32) then (
      if x1 < 0 then (
        f_BB_year_33 σ
      ) else (
        if (60 : Int32) < x1 then (
          f_BB_year_33 σ
        ) else (
          if x2 < (2 : Int32) then (
            f_BB_year_33 σ
          ) else (
            if x2 ≤ (30 : Int32) then (
              if (zI σ 1 3) = 0 then (
                some ((-100003 : Int32), σ)
              ) else (
                zbd (f_Asker_afterYear x1 x2 x3 σ) fun v8 s9 => (
                some (v8, s9))
              )
            ) else (
              f_BB_year_33 σ
            )
          )
        )
      )
    ) else (
      f_BB_year_9 σ
    )
  )
def f_Asker_spoilers_30 (k4 : Int32 × Int32 × Int32 × ZM → Option (Int32 × ZM)) (x1 : Int32) (x2 : Int32) (x3 : Int32) (σ : ZM) : Option (Int32 × ZM) :=
  k4 (x1, x2, (x3 + (1 : Int32)), σ)
def f_Asker_spoilers_4 (k4 : Int32 × Int32 × Int32 × ZM → Option (Int32 × ZM)) (x1 : Int32) (x2 : Int32) (x3 : Int32) (σ : ZM) : Option (Int32 × ZM) :=
  if (zI σ 1 3) ≤ x3 then (
    some (x2, σ)
  ) else (
    if x3 = x1 then (
      f_Asker_spoilers_30 k4 x1 x2 x3 σ
    ) else (
      zbd (f_Asker_behind x1 x3 (4 : Int32) σ) fun v3 s4 => (
      f_Asker_spoilers_30 k4 x1 (x2 + v3) x3 s4)
    )
  )
def F_Asker_spoilers_4 (N : Nat) : Int32 × Int32 × Int32 × ZM → Option (Int32 × ZM) := zlp (fun k4 a => f_Asker_spoilers_4 k4 a.1 a.2.1 a.2.2.1 a.2.2.2) N
def f_Asker_spoilers (x1 : Int32) (σ : ZM) : Option (Int32 × ZM) :=
  F_Asker_spoilers_4 2000 (x1, (0 : Int32), (0 : Int32), σ)
def f_BB_lowest_19 (k2 : Int32 × Int32 × Int32 × Int32 × ZM → Option (Int64 × ZM)) (x0 : Int32) (x1 : Int32) (x2 : Int32) (x3 : Int32) (σ : ZM) : Option (Int64 × ZM) :=
  k2 (x0, x1, x2, (x3 + (-1 : Int32)), σ)
def f_BB_lowest_34 (x3 : Int32) (y0 : Int32) (σ : ZM) : Option (Int64 × ZM) :=
  zck (x3 != 0) (
  some ((y0 / x3).toInt64, σ))
def f_BB_lowest_25 (x0 : Int32) (x1 : Int32) (x2 : Int32) (x3 : Int32) (σ : ZM) : Option (Int64 × ZM) :=
  if x2 = 0 then (
    f_BB_lowest_34 x3 x0 σ
  ) else (
    f_BB_lowest_34 x3 x1 σ
  )
def f_BB_lowest_2 (k2 : Int32 × Int32 × Int32 × Int32 × ZM → Option (Int64 × ZM)) (x0 : Int32) (x1 : Int32) (x2 : Int32) (x3 : Int32) (σ : ZM) : Option (Int64 × ZM) :=
  if x3 ≤ (1 : Int32) then (
    f_BB_lowest_25 x0 x1 x2 x3 σ
  ) else (
    zck (x3 != 0) (
    if (x0 - x0 / x3 * x3) = 0 then (
      zck (x3 != 0) (
      if (x1 - x1 / x3 * x3) = 0 then (
        f_BB_lowest_25 x0 x1 x2 x3 σ
      ) else (
        f_BB_lowest_19 k2 x0 x1 x2 x3 σ
      ))
    ) else (
      f_BB_lowest_19 k2 x0 x1 x2 x3 σ
    ))
  )
def F_BB_lowest_2 (N : Nat) : Int32 × Int32 × Int32 × Int32 × ZM → Option (Int64 × ZM) := zlp (fun k2 a => f_BB_lowest_2 k2 a.1 a.2.1 a.2.2.1 a.2.2.2.1 a.2.2.2.2) N
def f_BB_lowest (x0 : Int32) (x1 : Int32) (x2 : Int32) (σ : ZM) : Option (Int64 × ZM) :=
  F_BB_lowest_2 2000 (x0, x1, x2, x1, σ)
def f_BB_odds_28  (σ : ZM) : Option (Int64 × ZM) :=
  some ((-9223372036854775808 : Int64), σ)
def f_BB_odds (x1 : Int32) (x2 : Int32) (σ : ZM) : Option (Int64 × ZM) :=
  zbd (f_BB_isLoaf x1 σ) fun v1 s2 => (
  if v1 = 0 then (
    f_BB_odds_28 s2
  ) else (
    if (zI s2 1 3) < (2 : Int32) then (
      f_BB_odds_28 s2
    ) else (
      if x2 < 0 then (
        f_BB_odds_28 s2
      ) else (
        if x2 ≤ (1 : Int32) then (
          zbd (f_Asker_spoilers x1 s2) fun v8 s9 => (
          zbd (f_BB_lowest v8 ((zI s9 1 3) - (1 : Int32)) x2 s9) fun v11 s12 => (
          some (v11, s12)))
        ) else (
          f_BB_odds_28 s2
        )
      )
    )
  ))
def f_Asker_takenByAll_4 (k4 : Int32 × Int32 × Int32 × ZM → Option (Int32 × ZM)) (x1 : Int32) (x2 : Int32) (x3 : Int32) (σ : ZM) : Option (Int32 × ZM) :=
  if (zI σ 1 3) ≤ x3 then (
    some (x2, σ)
  ) else (
    zck (zin x3 6) (
    zck (zR 0 129 (zel 25 x3.toNatClampNeg) 16 0) (
    zbd (f_Baker_takes (zel 25 x3.toNatClampNeg) x1 33 σ) fun v4 s5 => (
    k4 (x1, (x2 + v4), (x3 + (1 : Int32)), s5))))
  )
def F_Asker_takenByAll_4 (N : Nat) : Int32 × Int32 × Int32 × ZM → Option (Int32 × ZM) := zlp (fun k4 a => f_Asker_takenByAll_4 k4 a.1 a.2.1 a.2.2.1 a.2.2.2) N
def f_Asker_takenByAll (x1 : Int32) (σ : ZM) : Option (Int32 × ZM) :=
  F_Asker_takenByAll_4 2000 (x1, (0 : Int32), (0 : Int32), σ)
def f_BB_mean_26  (σ : ZM) : Option (Int64 × ZM) :=
  some ((-9223372036854775808 : Int64), σ)
def f_BB_mean (x1 : Int32) (x2 : Int32) (σ : ZM) : Option (Int64 × ZM) :=
  zbd (f_BB_isTaste x1 σ) fun v1 s2 => (
  if v1 = 0 then (
    f_BB_mean_26 s2
  ) else (
    if (zI s2 1 3) = 0 then (
      f_BB_mean_26 s2
    ) else (
      if x2 < 0 then (
        f_BB_mean_26 s2
      ) else (
        if x2 ≤ (1 : Int32) then (
          zbd (f_Asker_takenByAll x1 s2) fun v8 s9 => (
          zbd (f_BB_lowest v8 (zI s9 1 3) x2 s9) fun v11 s12 => (
          some (v11, s12)))
        ) else (
          f_BB_mean_26 s2
        )
      )
    )
  ))
def f_Book_append (x0 : Nat) (x1 : Int32) (x2 : Int32) (σ : ZM) : Option (Int32 × ZM) :=
  zck (zR 0 129 x0 14 0) (
  if (zI σ x0 2) < (12 : Int32) then (
    zck (zin (zI σ x0 2) 12) (
    zck (zin (zI (zsI σ (x0 + 2) (zI σ x0 2).toNatClampNeg x1) x0 2) 12) (
    zck (zbl x2) (
    some (zI (zsI (zsI (zsI σ (x0 + 2) (zI σ x0 2).toNatClampNeg x1) (x0 + 4) (zI (zsI σ (x0 + 2) (zI σ x0 2).toNatClampNeg x1) x0 2).toNatClampNeg x2) x0 2 ((zI (zsI (zsI σ (x0 + 2) (zI σ x0 2).toNatClampNeg x1) (x0 + 4) (zI (zsI σ (x0 + 2) (zI σ x0 2).toNatClampNeg x1) x0 2).toNatClampNeg x2) x0 2) + (1 : Int32))) x0 2, (zsI (zsI (zsI σ (x0 + 2) (zI σ x0 2).toNatClampNeg x1) (x0 + 4) (zI (zsI σ (x0 + 2) (zI σ x0 2).toNatClampNeg x1) x0 2).toNatClampNeg x2) x0 2 ((zI (zsI (zsI σ (x0 + 2) (zI σ x0 2).toNatClampNeg x1) (x0 + 4) (zI (zsI σ (x0 + 2) (zI σ x0 2).toNatClampNeg x1) x0 2).toNatClampNeg x2) x0 2) + (1 : Int32)))))))
  ) else (
    some ((-4 : Int32), σ)
  ))
def f_BB_book_34 (x1 : Int32) (x2 : Int32) (σ : ZM) : Option (Int32 × ZM) :=
  zbd (f_Book_append 27 x1 x2 σ) fun v1 s2 => (
  some (v1, s2))
def f_BB_book (x1 : Int32) (x2 : Int32) (σ : ZM) : Option (Int32 × ZM) :=
  if x1 = (-1 : Int32) then (
    some ((0 : Int32), (zsI σ 27 2 (0 : Int32)))
  ) else (
    if x1 = (-2 : Int32) then (
      f_BB_book_34 x1 x2 σ
    ) else (
      zbd (f_BB_isLoaf x1 σ) fun v3 s4 => (
      if v3 = 0 then (
        some ((-1 : Int32), s4)
      ) else (
        f_BB_book_34 x1 x2 s4
      ))
    )
  )
def f_Asker_firstOtherwise_86 (k16 : Int32 × ZM → Option (Int32 × ZM)) (x1 : Int32) (x3 : Int32) (σ : ZM) : Option (Int32 × ZM) :=
  zck (zin x1 12) (
  if x3 = (zI σ 31 x1.toNatClampNeg) then (
    k16 ((x1 + (1 : Int32)), σ)
  ) else (
    some (x1, σ)
  ))
def f_Asker_firstOtherwise_16 (k16 : Int32 × ZM → Option (Int32 × ZM)) (x1 : Int32) (σ : ZM) : Option (Int32 × ZM) :=
  if (zI σ 27 2) ≤ x1 then (
    some ((-5 : Int32), σ)
  ) else (
    zck (zin x1 12) (
    if (zI σ 29 x1.toNatClampNeg) = (-2 : Int32) then (
      zbd (f_Baker_chill 35 σ) fun v9 s10 => (
      f_Asker_firstOtherwise_86 k16 x1 (0 : Int32) s10)
    ) else (
      zck (zin (zI σ 29 x1.toNatClampNeg) 6) (
      zck (zR 0 129 (zel 25 (zI σ 29 x1.toNatClampNeg).toNatClampNeg) 16 0) (
      zbd (f_Baker_bakeIn 35 (zel 25 (zI σ 29 x1.toNatClampNeg).toNatClampNeg) σ) fun v6 s7 => (
      f_Asker_firstOtherwise_86 k16 x1 v6 s7)))
    ))
  )
def F_Asker_firstOtherwise_16 (N : Nat) : Int32 × ZM → Option (Int32 × ZM) := zlp (fun k16 a => f_Asker_firstOtherwise_16 k16 a.1 a.2) N
def f_Asker_firstOtherwise  (σ : ZM) : Option (Int32 × ZM) :=
  zbd (f_Oven_become 35 33 σ) fun v1 s2 => (
  F_Asker_firstOtherwise_16 2000 ((0 : Int32), s2))
def f_BB_looked  (σ : ZM) : Option (Int32 × ZM) :=
  zbd (f_Asker_firstOtherwise σ) fun v1 s2 => (
  some (v1, s2))
def f_Tapes_isTape (x0 : Int32) (σ : ZM) : Option (Int32 × ZM) :=
  if x0 < 0 then (
    some ((0 : Int32), σ)
  ) else (
    if (6 : Int32) ≤ x0 then (
      some ((0 : Int32), σ)
    ) else (
      some ((1 : Int32), σ)
    )
  )
def f_Tapes_firstUnlike_46 (k46 : Int32 × Int32 × Nat × Int32 × ZM → Option (Int32 × ZM)) (x1 : Int32) (x2 : Int32) (x3 : Nat) (x4 : Int32) (σ : ZM) : Option (Int32 × ZM) :=
  if (4 : Int32) ≤ x4 then (
    some ((-5 : Int32), σ)
  ) else (
    zck (zin x1 6) (
    if (x2 + x4) < (zI σ 13 x1.toNatClampNeg) then (
      zck (zin x1 6) (
      zck (zR 0 129 (zel 11 x1.toNatClampNeg) 2 60) (
      zck (zin (x2 + x4) 60) (
      zck (zin x4 4) (
      if (lg_cmp (zL σ (zel 11 x1.toNatClampNeg) (x2 + x4).toNatClampNeg) ((zI σ (x3 + 9) x4.toNatClampNeg).toInt64)) = 0 then (
        k46 (x1, x2, x3, (x4 + (1 : Int32)), σ)
      ) else (
        some (x4, σ)
      )))))
    ) else (
      some ((100 : Int32) + x4, σ)
    ))
  )
def F_Tapes_firstUnlike_46 (N : Nat) : Int32 × Int32 × Nat × Int32 × ZM → Option (Int32 × ZM) := zlp (fun k46 a => f_Tapes_firstUnlike_46 k46 a.1 a.2.1 a.2.2.1 a.2.2.2.1 a.2.2.2.2) N
def f_Tapes_firstUnlike (x1 : Int32) (x2 : Int32) (x3 : Nat) (σ : ZM) : Option (Int32 × ZM) :=
  zck (zR 0 129 x3 17 0) (
  zck (zin x1 6) (
  if (zI σ 12 x1.toNatClampNeg) = (-1 : Int32) then (
    some ((100 : Int32), σ)
  ) else (
    zck (zin x1 6) (
    if (zI σ 12 x1.toNatClampNeg) = (1 : Int32) then (
      if x2 < 0 then (
        some ((100 : Int32), σ)
      ) else (
        zck (zin x1 6) (
        if x2 ≤ (zI σ 13 x1.toNatClampNeg) then (
          F_Tapes_firstUnlike_46 2000 (x1, x2, x3, (0 : Int32), σ)
        ) else (
          some ((100 : Int32), σ)
        ))
      )
    ) else (
      some ((-12 : Int32), σ)
    ))
  )))
def f_BB_judge (x1 : Int32) (x2 : Int32) (σ : ZM) : Option (Int32 × ZM) :=
  zbd (f_Tapes_isTape x1 σ) fun v1 s2 => (
  if v1 = 0 then (
    some ((-1 : Int32), s2)
  ) else (
    zbd (f_Tapes_firstUnlike x1 x2 33 s2) fun v5 s6 => (
    some (v5, s6))
  ))
def f_Book_become_2 (k2 : Nat × Nat × Int32 × ZM → Option (Unit × ZM)) (x0 : Nat) (x1 : Nat) (x2 : Int32) (σ : ZM) : Option (Unit × ZM) :=
  if (zI σ x1 2) ≤ x2 then (
    some ((), (zsI σ x0 2 (zI σ x1 2)))
  ) else (
    zck (zin x2 12) (
    zck (zin x2 12) (
    zck (zin x2 12) (
    zck (zin x2 12) (
    zck (zbl (zI (zsI σ (x0 + 2) x2.toNatClampNeg (zI σ (x1 + 2) x2.toNatClampNeg)) (x1 + 4) x2.toNatClampNeg)) (
    k2 (x0, x1, (x2 + (1 : Int32)), (zsI (zsI σ (x0 + 2) x2.toNatClampNeg (zI σ (x1 + 2) x2.toNatClampNeg)) (x0 + 4) x2.toNatClampNeg (zI (zsI σ (x0 + 2) x2.toNatClampNeg (zI σ (x1 + 2) x2.toNatClampNeg)) (x1 + 4) x2.toNatClampNeg))))))))
  )
def F_Book_become_2 (N : Nat) : Nat × Nat × Int32 × ZM → Option (Unit × ZM) := zlp (fun k2 a => f_Book_become_2 k2 a.1 a.2.1 a.2.2.1 a.2.2.2) N
def f_Book_become (x0 : Nat) (x1 : Nat) (σ : ZM) : Option (Unit × ZM) :=
  zck (zR 0 129 x0 14 0) (
  zck (zR 0 129 x1 14 0) (
  F_Book_become_2 2000 (x0, x1, (0 : Int32), σ)))
def f_Loaf_become_18 (k18 : Nat × Nat × Int32 × ZM → Option (Unit × ZM)) (x0 : Nat) (x1 : Nat) (x2 : Int32) (σ : ZM) : Option (Unit × ZM) :=
  if (4 : Int32) ≤ x2 then (
    some ((), σ)
  ) else (
    zck (zin x2 4) (
    zck (zin x2 4) (
    zck (zin x2 4) (
    zck (zin x2 4) (
    k18 (x0, x1, (x2 + (1 : Int32)), (zsI (zsI σ (x0 + 12) x2.toNatClampNeg (zI σ (x1 + 12) x2.toNatClampNeg)) (x0 + 24) x2.toNatClampNeg (zI (zsI σ (x0 + 12) x2.toNatClampNeg (zI σ (x1 + 12) x2.toNatClampNeg)) (x1 + 24) x2.toNatClampNeg)))))))
  )
def F_Loaf_become_18 (N : Nat) : Nat × Nat × Int32 × ZM → Option (Unit × ZM) := zlp (fun k18 a => f_Loaf_become_18 k18 a.1 a.2.1 a.2.2.1 a.2.2.2) N
def f_Loaf_become (x0 : Nat) (x1 : Nat) (σ : ZM) : Option (Unit × ZM) :=
  zck (zR 0 129 x0 16 0) (
  zck (zR 0 129 x1 16 0) (
  F_Loaf_become_18 2000 (x0, x1, (0 : Int32), (zsI (zsI σ x0 3 (zI σ x1 3)) x0 4 (zI (zsI σ x0 3 (zI σ x1 3)) x1 4)))))
def f_Stand_become_2 (k2 : Nat × Nat × Int32 × ZM → Option (Unit × ZM)) (x0 : Nat) (x1 : Nat) (x2 : Int32) (σ : ZM) : Option (Unit × ZM) :=
  if (zI σ x1 3) ≤ x2 then (
    zbd (f_Oven_become (x0 + 32) (x1 + 32) (zsI σ x0 3 (zI σ x1 3))) fun v2 s3 => (
    zbd (f_Book_become (x0 + 26) (x1 + 26) s3) fun v5 s6 => (
    some ((), (zsI s6 x0 4 (zI s6 x1 4)))))
  ) else (
    zck (zin x2 6) (
    zck (zR 0 129 (zel (x0 + 24) x2.toNatClampNeg) 16 0) (
    zck (zin x2 6) (
    zck (zR 0 129 (zel (x1 + 24) x2.toNatClampNeg) 16 0) (
    zbd (f_Loaf_become (zel (x0 + 24) x2.toNatClampNeg) (zel (x1 + 24) x2.toNatClampNeg) σ) fun v12 s13 => (
    k2 (x0, x1, (x2 + (1 : Int32)), s13))))))
  )
def F_Stand_become_2 (N : Nat) : Nat × Nat × Int32 × ZM → Option (Unit × ZM) := zlp (fun k2 a => f_Stand_become_2 k2 a.1 a.2.1 a.2.2.1 a.2.2.2) N
def f_Stand_become (x0 : Nat) (x1 : Nat) (σ : ZM) : Option (Unit × ZM) :=
  zck (zR 0 129 x0 20 0) (
  zck (zR 0 129 x1 20 0) (
  F_Stand_become_2 2000 (x0, x1, (0 : Int32), σ)))
def f_BB_image  (σ : ZM) : Option (Int32 × ZM) :=
  zbd (f_Stand_become 2 1 σ) fun v1 s2 => (
  some (zI (zsI s2 0 11 (1 : Int32)) 2 3, (zsI s2 0 11 (1 : Int32))))
def f_BB_undo_54 (y0 : Nat) (σ : ZM) : Option (Int32 × ZM) :=
  some (zI (zsP σ 5 0 y0) 1 3, (zsP σ 5 0 y0))
def f_BB_undo  (σ : ZM) : Option (Int32 × ZM) :=
  if (zI σ 0 11) = 0 then (
    some ((-3 : Int32), σ)
  ) else (
    zbd (f_Stand_become 1 2 σ) fun v2 s3 => (
    if 0 ≤ (zI s3 1 4) then (
      zck (zin (zI s3 1 4) 6) (
      zck (zR 0 129 (zel 20 (zI s3 1 4).toNatClampNeg) 15 0) (
      f_BB_undo_54 (zel 20 (zI s3 1 4).toNatClampNeg) s3))
    ) else (
      f_BB_undo_54 93 s3
    ))
  )
def f_Acts_bodyOf_37 (x0 : Int32) (x2 : Int32) (σ : ZM) : Option (Int32 × ZM) :=
  zck (zin ((x2 * (3 : Int32)) + x0) 21) (
  some (zbodies ((x2 * (3 : Int32)) + x0).toNatClampNeg, σ))
def f_Acts_bodyOf_4 (k4 : Int32 × Int32 × Int32 × ZM → Option (Int32 × ZM)) (x0 : Int32) (x2 : Int32) (x3 : Int32) (σ : ZM) : Option (Int32 × ZM) :=
  if (2 : Int32) ≤ x3 then (
    f_Acts_bodyOf_37 x0 x2 σ
  ) else (
    if x2 ≤ 0 then (
      f_Acts_bodyOf_37 x0 x2 σ
    ) else (
      zck (zin ((x2 * (3 : Int32)) + x0) 21) (
      if (zbodies ((x2 * (3 : Int32)) + x0).toNatClampNeg) = 0 then (
        zck (zin x2 7) (
        k4 (x0, (zabove x2.toNatClampNeg), (x3 + (1 : Int32)), σ))
      ) else (
        f_Acts_bodyOf_37 x0 x2 σ
      ))
    )
  )
def F_Acts_bodyOf_4 (N : Nat) : Int32 × Int32 × Int32 × ZM → Option (Int32 × ZM) := zlp (fun k4 a => f_Acts_bodyOf_4 k4 a.1 a.2.1 a.2.2.1 a.2.2.2) N
def f_Acts_bodyOf (x0 : Int32) (x1 : Int32) (σ : ZM) : Option (Int32 × ZM) :=
  F_Acts_bodyOf_4 2000 (x0, x1, (0 : Int32), σ)
def f_Acts_note_19  (σ : ZM) : Option (Unit × ZM) :=
  some ((), (zsI σ 8 1 ((zI σ 8 1) + (1 : Int32))))
def f_Acts_note (x1 : Int32) (σ : ZM) : Option (Unit × ZM) :=
  if (20 : Int32) ≤ (zI σ 8 1) then (
    f_Acts_note_19 σ
  ) else (
    zck (zin (zI σ 8 1) 20) (
    f_Acts_note_19 (zsI σ 9 (zI σ 8 1).toNatClampNeg x1))
  )
def f_Acts_run (rec : Nat × Int32 × Int32 × Int32 × Int32 × ZM → Option (Int32 × ZM)) (x1 : Nat) (x2 : Int32) (x3 : Int32) (x4 : Int32) (x5 : Int32) (σ : ZM) : Option (Int32 × ZM) :=
  zck (zR 0 129 x1 16 0) (
  if x5 ≤ (40 : Int32) then (
    zbd (f_Acts_bodyOf x2 x3 σ) fun v2 s3 => (
    zbd (f_Acts_note v2 s3) fun v5 s6 => (
    zck (zin ((v2 / (10 : Int32)) - (1 : Int32)) 7) (
    if v2 = (10 : Int32) then (
      some (x4 + (zI s6 x1 0), s6)
    ) else (
    if v2 = (11 : Int32) then (
      zbd (rec (x1, (0 : Int32), (zI s6 x1 3), x4, (x5 + (1 : Int32)), s6)) fun v11 s12 => (
      some (v11 - (zI s12 x1 4), s12))
    ) else (
    if v2 = (12 : Int32) then (
      zbd (rec (x1, (1 : Int32), (zI s6 x1 3), x4, (x5 + (1 : Int32)), s6)) fun v15 s16 => (
      some (v15 * (2 : Int32), s16))
    ) else (
    if v2 = (20 : Int32) then (
      zbd (rec (x1, (1 : Int32), (if (0 : Int32) < (zabove ((v2 / (10 : Int32)) - (1 : Int32)).toNatClampNeg) then (zabove ((v2 / (10 : Int32)) - (1 : Int32)).toNatClampNeg) else (0 : Int32)), x4, (x5 + (1 : Int32)), s6)) fun v19 s20 => (
      some (v19 ^^^ (6 : Int32), s20))
    ) else (
    if v2 = (30 : Int32) then (
      zbd (rec (x1, (0 : Int32), (if (0 : Int32) < (zabove ((v2 / (10 : Int32)) - (1 : Int32)).toNatClampNeg) then (zabove ((v2 / (10 : Int32)) - (1 : Int32)).toNatClampNeg) else (0 : Int32)), (x4 * (3 : Int32)), (x5 + (1 : Int32)), s6)) fun v23 s24 => (
      some (v23, s24))
    ) else (
    if v2 = (40 : Int32) then (
      zbd (rec (x1, (2 : Int32), (if (0 : Int32) < (zabove ((v2 / (10 : Int32)) - (1 : Int32)).toNatClampNeg) then (zabove ((v2 / (10 : Int32)) - (1 : Int32)).toNatClampNeg) else (0 : Int32)), x4, (x5 + (1 : Int32)), s6)) fun v27 s28 => (
      zbd (rec (x1, (1 : Int32), (zI s6 x1 3), (1 : Int32), (x5 + (1 : Int32)), s28)) fun v30 s31 => (
      some (v27 + v30, s31)))
    ) else (
    if v2 = (50 : Int32) then (
      zbd (rec (x1, (0 : Int32), (if (0 : Int32) < (zabove ((v2 / (10 : Int32)) - (1 : Int32)).toNatClampNeg) then (zabove ((v2 / (10 : Int32)) - (1 : Int32)).toNatClampNeg) else (0 : Int32)), x4, (x5 + (1 : Int32)), s6)) fun v34 s35 => (
      some (-v34, s35))
    ) else (
    if v2 = (51 : Int32) then (
      zbd (rec (x1, (1 : Int32), (if (0 : Int32) < (zabove ((v2 / (10 : Int32)) - (1 : Int32)).toNatClampNeg) then (zabove ((v2 / (10 : Int32)) - (1 : Int32)).toNatClampNeg) else (0 : Int32)), (x4 + (1 : Int32)), (x5 + (1 : Int32)), s6)) fun v38 s39 => (
      some (v38, s39))
    ) else (
    if v2 = (60 : Int32) then (
      zbd (rec (x1, (2 : Int32), (if (0 : Int32) < (zabove ((v2 / (10 : Int32)) - (1 : Int32)).toNatClampNeg) then (zabove ((v2 / (10 : Int32)) - (1 : Int32)).toNatClampNeg) else (0 : Int32)), (x4 - (zI s6 x1 0)), (x5 + (1 : Int32)), s6)) fun v42 s43 => (
      some (v42, s43))
    ) else (
    if v2 = (70 : Int32) then (
      zbd (rec (x1, (1 : Int32), (if (0 : Int32) < (zabove ((v2 / (10 : Int32)) - (1 : Int32)).toNatClampNeg) then (zabove ((v2 / (10 : Int32)) - (1 : Int32)).toNatClampNeg) else (0 : Int32)), x4, (x5 + (1 : Int32)), s6)) fun v46 s47 => (
      zbd (rec (x1, (0 : Int32), (if (0 : Int32) < (zabove ((v2 / (10 : Int32)) - (1 : Int32)).toNatClampNeg) then (zabove ((v2 / (10 : Int32)) - (1 : Int32)).toNatClampNeg) else (0 : Int32)), (2 : Int32), (x5 + (1 : Int32)), s47)) fun v49 s50 => (
      some (v46 + v49, s50)))
    ) else (
    if v2 = (71 : Int32) then (
      zbd (rec (x1, (0 : Int32), (if (0 : Int32) < (zabove ((v2 / (10 : Int32)) - (1 : Int32)).toNatClampNeg) then (zabove ((v2 / (10 : Int32)) - (1 : Int32)).toNatClampNeg) else (0 : Int32)), x4, (x5 + (1 : Int32)), s6)) fun v53 s54 => (
      some (v53 ^^^ (zI s54 x1 4), s54))
    ) else (
      some ((0 : Int32), s6)
    ))))))))))))))
  ) else (
    some ((0 : Int32), σ)
  ))
def F_Acts_run (N : Nat) : Nat × Int32 × Int32 × Int32 × Int32 × ZM → Option (Int32 × ZM) := zlp (fun rec a => f_Acts_run rec a.1 a.2.1 a.2.2.1 a.2.2.2.1 a.2.2.2.2.1 a.2.2.2.2.2) N
def f_Acts_play (x1 : Nat) (x2 : Int32) (x3 : Int32) (σ : ZM) : Option (Int32 × ZM) :=
  zck (zR 0 129 x1 16 0) (
  zbd (F_Acts_run 16 (x1, x2, (zI (zsI σ 8 1 (0 : Int32)) x1 3), x3, (0 : Int32), (zsI σ 8 1 (0 : Int32)))) fun v1 s2 => (
  some (v1, s2)))
def f_BB_act (x1 : Int32) (x2 : Int32) (x3 : Int32) (σ : ZM) : Option (Int32 × ZM) :=
  zbd (f_BB_isLoaf x1 (zsI σ 8 1 (0 : Int32))) fun v1 s2 => (
  if v1 = 0 then (
    some ((0 : Int32), s2)
  ) else (
    if x2 < 0 then (
      some ((0 : Int32), s2)
    ) else (
      if x2 ≤ (2 : Int32) then (
        zck (zin x1 6) (
        zck (zR 0 129 (zel 25 x1.toNatClampNeg) 16 0) (
        zbd (f_Acts_play (zel 25 x1.toNatClampNeg) x2 x3 s2) fun v9 s10 => (
        some (v9, s10))))
      ) else (
        some ((0 : Int32), s2)
      )
    )
  ))
def f_BB_trace (x1 : Int32) (σ : ZM) : Option (Int32 × ZM) :=
  if x1 < 0 then (
    some ((-1 : Int32), σ)
  ) else (
    if (zI σ 8 1) ≤ x1 then (
      some ((-1 : Int32), σ)
    ) else (
      if x1 < (20 : Int32) then (
        zck (zin x1 20) (
        some (zI σ 9 x1.toNatClampNeg, σ))
      ) else (
        some ((-1 : Int32), σ)
      )
    )
  )
def f_Loaf_isUnder_33 (x1 : Int32) (x2 : Int32) (σ : ZM) : Option (Int32 × ZM) :=
  if x2 = x1 then (
    some ((1 : Int32), σ)
  ) else (
    some ((0 : Int32), σ)
  )
def f_Loaf_isUnder_7 (k7 : Int32 × Int32 × Int32 × ZM → Option (Int32 × ZM)) (x1 : Int32) (x2 : Int32) (x3 : Int32) (σ : ZM) : Option (Int32 × ZM) :=
  if (2 : Int32) ≤ x3 then (
    f_Loaf_isUnder_33 x1 x2 σ
  ) else (
    if x2 = x1 then (
      f_Loaf_isUnder_33 x1 x2 σ
    ) else (
      if x2 = 0 then (
        f_Loaf_isUnder_33 x1 x2 σ
      ) else (
        zck (zin x2 7) (
        k7 (x1, (zabove x2.toNatClampNeg), (x3 + (1 : Int32)), σ))
      )
    )
  )
def F_Loaf_isUnder_7 (N : Nat) : Int32 × Int32 × Int32 × ZM → Option (Int32 × ZM) := zlp (fun k7 a => f_Loaf_isUnder_7 k7 a.1 a.2.1 a.2.2.1 a.2.2.2) N
def f_Loaf_isUnder (x0 : Nat) (x1 : Int32) (σ : ZM) : Option (Int32 × ZM) :=
  zck (zR 0 129 x0 16 0) (
  F_Loaf_isUnder_7 2000 (x1, (zI σ x0 3), (0 : Int32), σ))
def f_BB_taken (x1 : Int32) (x2 : Int32) (σ : ZM) : Option (Int32 × ZM) :=
  if x2 < 0 then (
    some ((-2 : Int32), σ)
  ) else (
    if x2 ≤ (6 : Int32) then (
      zbd (f_BB_isLoaf x1 σ) fun v3 s4 => (
      if v3 = 0 then (
        some ((-11 : Int32), s4)
      ) else (
        zck (zin x1 6) (
        zck (zR 0 129 (zel 25 x1.toNatClampNeg) 16 0) (
        zbd (f_Loaf_isUnder (zel 25 x1.toNatClampNeg) x2 s4) fun v9 s10 => (
        if v9 = 0 then (
          some ((-12 : Int32), s10)
        ) else (
          zck (zin x1 6) (
          zck (zR 0 129 (zel 25 x1.toNatClampNeg) 16 0) (
          some (zI s10 (zel 25 x1.toNatClampNeg) 3, s10)))
        ))))
      ))
    ) else (
      some ((-2 : Int32), σ)
    )
  )
def f_BB_count (x1 : Int32) (σ : ZM) : Option (Int32 × ZM) :=
  if x1 = (0 : Int32) then (
    some (zI σ 1 3, σ)
  ) else (
  if x1 = (1 : Int32) then (
    some (zI σ 0 10, σ)
  ) else (
  if x1 = (2 : Int32) then (
    some (zI σ 27 2, σ)
  ) else (
  if x1 = (3 : Int32) then (
    some (zI σ 3 1, σ)
  ) else (
  if x1 = (4 : Int32) then (
    some (zI σ 8 1, σ)
  ) else (
    some ((-2 : Int32), σ)
  )))))
def f_Tapes_begin_62 (k62 : Int32 × Int32 × ZM → Option (Int32 × ZM)) (x1 : Int32) (x4 : Int32) (σ : ZM) : Option (Int32 × ZM) :=
  if (60 : Int32) ≤ x4 then (
    some ((1 : Int32), σ)
  ) else (
    zck (zin x1 6) (
    zck (zR 0 129 (zel 11 x1.toNatClampNeg) 2 60) (
    zck (zin x4 60) (
    k62 (x1, (x4 + (1 : Int32)), (zsL σ (zel 11 x1.toNatClampNeg) x4.toNatClampNeg (0 : Int64))))))
  )
def F_Tapes_begin_62 (N : Nat) : Int32 × Int32 × ZM → Option (Int32 × ZM) := zlp (fun k62 a => f_Tapes_begin_62 k62 a.1 a.2.1 a.2.2) N
def f_Tapes_begin_58 (x1 : Int32) (y0 : Int32) (y1 : Int32) (σ : ZM) : Option (Int32 × ZM) :=
  zck (zin y1 6) (
  F_Tapes_begin_62 2000 (x1, (0 : Int32), (zsI σ 13 y1.toNatClampNeg y0)))
def f_Tapes_begin_36 (x1 : Int32) (x2 : Int32) (x3 : Int32) (σ : ZM) : Option (Int32 × ZM) :=
  zck (zin x1 6) (
  if x2 = (-1 : Int32) then (
    f_Tapes_begin_58 x1 (0 : Int32) x1 (zsI σ 12 x1.toNatClampNeg x2)
  ) else (
    f_Tapes_begin_58 x1 x3 x1 (zsI σ 12 x1.toNatClampNeg x2)
  ))
def f_Tapes_begin_24 (x1 : Int32) (x2 : Int32) (x3 : Int32) (σ : ZM) : Option (Int32 × ZM) :=
  if x2 = (-1 : Int32) then (
    f_Tapes_begin_36 x1 x2 x3 σ
  ) else (
    if 0 ≤ x3 then (
      f_Tapes_begin_36 x1 x2 x3 σ
    ) else (
      some ((-14 : Int32), σ)
    )
  )
def f_Tapes_begin (x1 : Int32) (x2 : Int32) (x3 : Int32) (σ : ZM) : Option (Int32 × ZM) :=
  if x2 < (-1 : Int32) then (
    some ((-2 : Int32), σ)
  ) else (
    if (4 : Int32) < x2 then (
      some ((-2 : Int32), σ)
    ) else (
      if x2 = (-1 : Int32) then (
        f_Tapes_begin_24 x1 x2 x3 σ
      ) else (
        if x3 ≤ (60 : Int32) then (
          f_Tapes_begin_24 x1 x2 x3 σ
        ) else (
          some ((-2 : Int32), σ)
        )
      )
    )
  )
def f_BB_tape (x1 : Int32) (x2 : Int32) (x3 : Int32) (σ : ZM) : Option (Int32 × ZM) :=
  zbd (f_Tapes_isTape x1 σ) fun v1 s2 => (
  if v1 = 0 then (
    some ((-1 : Int32), s2)
  ) else (
    zbd (f_Tapes_begin x1 x2 x3 s2) fun v5 s6 => (
    some (v5, s6))
  ))
def f_Tapes_asItem (x0 : Int32) (x1 : Int64) (σ : ZM) : Option (Int64 × ZM) :=
  if x0 = (0 : Int32) then (
    some (x1.toInt32.toInt8.toInt32.toInt64, σ)
  ) else (
  if x0 = (1 : Int32) then (
    some (x1.toInt32.toInt16.toInt32.toInt64, σ)
  ) else (
  if x0 = (2 : Int32) then (
    some (x1.toInt32.toInt64, σ)
  ) else (
  if x0 = (3 : Int32) then (
    some (x1, σ)
  ) else (
    if (lg_cmp x1 (0 : Int64)) = 0 then (
      some ((0 : Int64), σ)
    ) else (
      some ((1 : Int64), σ)
    )
  ))))
def f_Tapes_write (x1 : Int32) (x2 : Int32) (x3 : Int64) (σ : ZM) : Option (Int32 × ZM) :=
  zck (zin x1 6) (
  if (zI σ 12 x1.toNatClampNeg) = (-1 : Int32) then (
    some ((-11 : Int32), σ)
  ) else (
    if x2 < 0 then (
      some ((-13 : Int32), σ)
    ) else (
      zck (zin x1 6) (
      if x2 < (zI σ 13 x1.toNatClampNeg) then (
        zck (zin x1 6) (
        zck (zR 0 129 (zel 11 x1.toNatClampNeg) 2 60) (
        zck (zin x1 6) (
        zbd (f_Tapes_asItem (zI σ 12 x1.toNatClampNeg) x3 σ) fun v9 s10 => (
        zck (zin x2 60) (
        some ((1 : Int32), (zsL s10 (zel 11 x1.toNatClampNeg) x2.toNatClampNeg v9)))))))
      ) else (
        some ((-13 : Int32), σ)
      ))
    )
  ))
def f_BB_item (x1 : Int32) (x2 : Int32) (x3 : Int64) (σ : ZM) : Option (Int32 × ZM) :=
  zbd (f_Tapes_isTape x1 σ) fun v1 s2 => (
  if v1 = 0 then (
    some ((-1 : Int32), s2)
  ) else (
    zbd (f_Tapes_write x1 x2 x3 s2) fun v5 s6 => (
    some (v5, s6))
  ))
def f_Tapes_valueAt_24  (σ : ZM) : Option (Int64 × ZM) :=
  some ((-9223372036854775808 : Int64), σ)
def f_Tapes_valueAt (x1 : Int32) (x2 : Int32) (σ : ZM) : Option (Int64 × ZM) :=
  zck (zin x1 6) (
  if (zI σ 12 x1.toNatClampNeg) = (-1 : Int32) then (
    f_Tapes_valueAt_24 σ
  ) else (
    if x2 < 0 then (
      f_Tapes_valueAt_24 σ
    ) else (
      zck (zin x1 6) (
      if x2 < (zI σ 13 x1.toNatClampNeg) then (
        zck (zin x1 6) (
        zck (zR 0 129 (zel 11 x1.toNatClampNeg) 2 60) (
        zck (zin x2 60) (
        some (zL σ (zel 11 x1.toNatClampNeg) x2.toNatClampNeg, σ))))
      ) else (
        f_Tapes_valueAt_24 σ
      ))
    )
  ))
def f_BB_read (x1 : Int32) (x2 : Int32) (σ : ZM) : Option (Int64 × ZM) :=
  zbd (f_Tapes_isTape x1 σ) fun v1 s2 => (
  if v1 = 0 then (
    some ((-9223372036854775808 : Int64), s2)
  ) else (
    zbd (f_Tapes_valueAt x1 x2 s2) fun v5 s6 => (
    some (v5, s6))
  ))
def f_Tapes_move (x1 : Int32) (x2 : Int32) (x3 : Int32) (x4 : Int32) (x5 : Int32) (σ : ZM) : Option (Int32 × ZM) :=
  zck (zin x1 6) (
  if (zI σ 12 x1.toNatClampNeg) = (-1 : Int32) then (
    some ((-11 : Int32), σ)
  ) else (
    zck (zin x3 6) (
    if (zI σ 12 x3.toNatClampNeg) = (-1 : Int32) then (
      some ((-11 : Int32), σ)
    ) else (
      zck (zin x1 6) (
      zck (zin x3 6) (
      if (zI σ 12 x1.toNatClampNeg) = (zI σ 12 x3.toNatClampNeg) then (
        if x5 < 0 then (
          some ((-13 : Int32), σ)
        ) else (
          if x2 < 0 then (
            some ((-13 : Int32), σ)
          ) else (
            if x4 < 0 then (
              some ((-13 : Int32), σ)
            ) else (
              zck (zin x1 6) (
              if ((zI σ 13 x1.toNatClampNeg) - x5) < x2 then (
                some ((-13 : Int32), σ)
              ) else (
                zck (zin x3 6) (
                if x4 ≤ ((zI σ 13 x3.toNatClampNeg) - x5) then (
                  zck (zin x1 6) (
                  zck (zR 0 129 (zel 11 x1.toNatClampNeg) 2 60) (
                  zck (zin x3 6) (
                  zck (zR 0 129 (zel 11 x3.toNatClampNeg) 2 60) (
                  zck (zcpok x2 x4 x5 60 60) (
                  some (x5, (zcpL σ (zel 11 x1.toNatClampNeg) (zel 11 x3.toNatClampNeg) x2.toNatClampNeg x4.toNatClampNeg x5.toNatClampNeg)))))))
                ) else (
                  some ((-13 : Int32), σ)
                ))
              ))
            )
          )
        )
      ) else (
        some ((-12 : Int32), σ)
      )))
    ))
  ))
def f_BB_shift (x1 : Int32) (x2 : Int32) (x3 : Int32) (x4 : Int32) (x5 : Int32) (σ : ZM) : Option (Int32 × ZM) :=
  zbd (f_Tapes_isTape x1 σ) fun v1 s2 => (
  if v1 = 0 then (
    some ((-1 : Int32), s2)
  ) else (
    zbd (f_Tapes_isTape x3 s2) fun v5 s6 => (
    if v5 = 0 then (
      some ((-1 : Int32), s6)
    ) else (
      zbd (f_Tapes_move x1 x2 x3 x4 x5 s6) fun v9 s10 => (
      some (v9, s10))
    ))
  ))
def f_Model_isIn (x0 : Int32) (x1 : Int32) (x2 : Int32) (σ : ZM) : Option (Int32 × ZM) :=
  if x0 < x1 then (
    some ((0 : Int32), σ)
  ) else (
    if x2 < x0 then (
      some ((0 : Int32), σ)
    ) else (
      some ((1 : Int32), σ)
    )
  )
def f_Model_isTaste (x0 : Int32) (σ : ZM) : Option (Int32 × ZM) :=
  zbd (f_Model_isIn x0 (0 : Int32) (3 : Int32) σ) fun v1 s2 => (
  zck (zbl v1) (some (v1, s2)))
def f_Model_isLoaf (x1 : Int32) (σ : ZM) : Option (Int32 × ZM) :=
  zck (zin (5 : Int32) 92) (
  zbd (f_Model_isIn x1 (0 : Int32) ((zI σ 130 (5 : Int32).toNatClampNeg) - (1 : Int32)) σ) fun v2 s3 => (
  zck (zbl v2) (some (v2, s3))))
def f_Model_areLoaves (x1 : Int32) (σ : ZM) : Option (Int32 × ZM) :=
  zck (zin (5 : Int32) 92) (
  zbd (f_Model_isIn x1 (0 : Int32) (((1 : Int32) <<< ((zI σ 130 (5 : Int32).toNatClampNeg) &&& 31)) - (1 : Int32)) σ) fun v2 s3 => (
  zck (zbl v2) (some (v2, s3))))
def f_Model_bits_4 (k4 : Int32 × Int32 × ZM → Option (Int32 × ZM)) (x1 : Int32) (x2 : Int32) (σ : ZM) : Option (Int32 × ZM) :=
  if x2 ≤ 0 then (
    some (x1, σ)
  ) else (
    k4 ((x1 + (x2 &&& (1 : Int32))), (x2 >>> ((1 : Int32) &&& 31)), σ)
  )
def F_Model_bits_4 (N : Nat) : Int32 × Int32 × ZM → Option (Int32 × ZM) := zlp (fun k4 a => f_Model_bits_4 k4 a.1 a.2.1 a.2.2) N
def f_Model_bits (x0 : Int32) (σ : ZM) : Option (Int32 × ZM) :=
  F_Model_bits_4 2000 ((0 : Int32), x0, σ)
def f_Model_lays_2 (k2 : Nat × Nat × Int32 × ZM → Option (Unit × ZM)) (x0 : Nat) (x1 : Nat) (x2 : Int32) (σ : ZM) : Option (Unit × ZM) :=
  if (92 : Int32) ≤ x2 then (
    some ((), σ)
  ) else (
    zck (zin x2 92) (
    zck (zin x2 92) (
    k2 (x0, x1, (x2 + (1 : Int32)), (zsI σ x1 x2.toNatClampNeg (zI σ x0 x2.toNatClampNeg)))))
  )
def F_Model_lays_2 (N : Nat) : Nat × Nat × Int32 × ZM → Option (Unit × ZM) := zlp (fun k2 a => f_Model_lays_2 k2 a.1 a.2.1 a.2.2.1 a.2.2.2) N
def f_Model_lays (x0 : Nat) (x1 : Nat) (σ : ZM) : Option (Unit × ZM) :=
  zck (zR 129 14 x0 0 92) (
  zck (zR 129 14 x1 0 92) (
  F_Model_lays_2 2000 (x0, x1, (0 : Int32), σ)))
def f_Model_begins  (σ : ZM) : Option (Unit × ZM) :=
  zbd (f_Model_lays 130 132 σ) fun v1 s2 => (
  some ((), s2))
def f_Model_ends  (σ : ZM) : Option (Unit × ZM) :=
  zbd (f_Model_lays 132 130 σ) fun v1 s2 => (
  some ((), s2))
def f_Model_get (x1 : Int32) (x2 : Int32) (σ : ZM) : Option (Int32 × ZM) :=
  zck (zin (((8 : Int32) + ((10 : Int32) * x1)) + x2) 92) (
  some (zI σ 130 (((8 : Int32) + ((10 : Int32) * x1)) + x2).toNatClampNeg, σ))
def f_Model_kind (x1 : Int32) (σ : ZM) : Option (Int32 × ZM) :=
  zbd (f_Model_get x1 (0 : Int32) σ) fun v1 s2 => (
  some (v1, s2))
def f_Model_number (x1 : Int32) (σ : ZM) : Option (Int32 × ZM) :=
  zbd (f_Model_get x1 (1 : Int32) σ) fun v1 s2 => (
  some (v1, s2))
def f_Model_feed (x1 : Int32) (σ : ZM) : Option (Int32 × ZM) :=
  zbd (f_Model_isIn x1 (0 : Int32) (127 : Int32) σ) fun v1 s2 => (
  if v1 = 0 then (
    some ((-2 : Int32), s2)
  ) else (
    if (zI s2 129 7) = (100 : Int32) then (
      some ((-4 : Int32), s2)
    ) else (
      zck (zin (zI s2 129 7) 100) (
      some (zI (zsI (zsI s2 133 (zI s2 129 7).toNatClampNeg x1) 129 7 ((zI (zsI s2 133 (zI s2 129 7).toNatClampNeg x1) 129 7) + (1 : Int32))) 129 7, (zsI (zsI s2 133 (zI s2 129 7).toNatClampNeg x1) 129 7 ((zI (zsI s2 133 (zI s2 129 7).toNatClampNeg x1) 129 7) + (1 : Int32)))))
    )
  ))
def f_Model_here  (σ : ZM) : Option (Int32 × ZM) :=
  if (zI σ 129 10) ≤ (zI σ 129 11) then (
    some ((-1 : Int32), σ)
  ) else (
    zck (zin ((zI σ 129 9) + (zI σ 129 11)) 600) (
    some (zI σ 134 ((zI σ 129 9) + (zI σ 129 11)).toNatClampNeg, σ))
  )
def f_Model_takes (x1 : Int32) (σ : ZM) : Option (Int32 × ZM) :=
  if (zI σ 129 14) = 0 then (
    zbd (f_Model_here σ) fun v2 s3 => (
    if v2 = x1 then (
      some ((1 : Int32), (zsI s3 129 11 ((zI s3 129 11) + (1 : Int32))))
    ) else (
      some ((0 : Int32), (zsI s3 129 14 (1 : Int32)))
    ))
  ) else (
    some ((0 : Int32), σ)
  )
def f_Model_isDigit  (σ : ZM) : Option (Int32 × ZM) :=
  zbd (f_Model_here σ) fun v1 s2 => (
  zbd (f_Model_isIn v1 (48 : Int32) (57 : Int32) s2) fun v4 s5 => (
  zck (zbl v4) (some (v4, s5))))
def f_Model_readsNumber  (σ : ZM) : Option (Int32 × ZM) :=
  if (zI σ 129 14) = 0 then (
    zbd (f_Model_isDigit σ) fun v2 s3 => (
    if v2 = 0 then (
      some ((0 : Int32), (zsI s3 129 14 (1 : Int32)))
    ) else (
      zbd (f_Model_here s3) fun v6 s7 => (
      zbd (f_Model_isDigit (zsI s7 129 11 ((zI s7 129 11) + (1 : Int32)))) fun v9 s10 => (
      if v9 = 0 then (
        some (v6 - (48 : Int32), s10)
      ) else (
        zbd (f_Model_here s10) fun v13 s14 => (
        some ((((10 : Int32) * (v6 - (48 : Int32))) + v13) - (48 : Int32), (zsI s14 129 11 ((zI s14 129 11) + (1 : Int32)))))
      )))
    ))
  ) else (
    some ((0 : Int32), σ)
  )
def f_Model_valueOf_126  (σ : ZM) : Option (Int32 × ZM) :=
  if (zI σ 129 15) = 0 then (
    zck (zin (zI σ 129 13) 92) (
    some ((zI σ 130 (zI σ 129 13).toNatClampNeg) / (10 : Int32), σ))
  ) else (
    some ((99 : Int32), σ)
  )
def f_Model_valueOf (x1 : Int32) (σ : ZM) : Option (Int32 × ZM) :=
  if x1 = (104 : Int32) then (
    zck (zin (4 : Int32) 92) (
    some ((zI σ 130 (4 : Int32).toNatClampNeg) - (zI σ 130 (4 : Int32).toNatClampNeg) / (60 : Int32) * (60 : Int32), σ))
  ) else (
  if x1 = (105 : Int32) then (
    f_Model_valueOf_126 σ
  ) else (
  if x1 = (106 : Int32) then (
    f_Model_valueOf_126 σ
  ) else (
  if x1 = (107 : Int32) then (
    zbd (f_Model_kind (zI σ 129 12) σ) fun v6 s7 => (
    some (v6, s7))
  ) else (
  if x1 = (108 : Int32) then (
    some (zI σ 129 12, σ)
  ) else (
  if x1 = (109 : Int32) then (
    f_Model_valueOf_126 σ
  ) else (
  if x1 = (110 : Int32) then (
    f_Model_valueOf_126 σ
  ) else (
  if x1 = (111 : Int32) then (
    f_Model_valueOf_126 σ
  ) else (
  if x1 = (112 : Int32) then (
    f_Model_valueOf_126 σ
  ) else (
  if x1 = (113 : Int32) then (
    f_Model_valueOf_126 σ
  ) else (
  if x1 = (114 : Int32) then (
    f_Model_valueOf_126 σ
  ) else (
  if x1 = (115 : Int32) then (
    f_Model_valueOf_126 σ
  ) else (
  if x1 = (116 : Int32) then (
    if (zI σ 129 15) = 0 then (
      some (zI σ 129 13, σ)
    ) else (
      some ((99 : Int32), σ)
    )
  ) else (
  if x1 = (117 : Int32) then (
    f_Model_valueOf_126 σ
  ) else (
  if x1 = (118 : Int32) then (
    zbd (f_Model_number (zI σ 129 12) σ) fun v21 s22 => (
    some (v21, s22))
  ) else (
    f_Model_valueOf_126 σ
  )))))))))))))))
def f_Model_isLetter (x0 : Int32) (σ : ZM) : Option (Int32 × ZM) :=
  if x0 = (108 : Int32) then (
    some ((1 : Int32), σ)
  ) else (
    if x0 = (107 : Int32) then (
      some ((1 : Int32), σ)
    ) else (
      if x0 = (116 : Int32) then (
        some ((1 : Int32), σ)
      ) else (
        if x0 = (118 : Int32) then (
          some ((1 : Int32), σ)
        ) else (
          if x0 = (104 : Int32) then (
            some ((1 : Int32), σ)
          ) else (
            if x0 = (111 : Int32) then (
              some ((1 : Int32), σ)
            ) else (
              some ((0 : Int32), σ)
            )
          )
        )
      )
    )
  )
def f_Model_readsTest_59 (x1 : Int32) (x2 : Int32) (σ : ZM) : Option (Int32 × ZM) :=
  zbd (f_Model_readsNumber (zsI σ 129 11 ((zI σ 129 11) + (1 : Int32)))) fun v1 s2 => (
  if (zI s2 129 14) = 0 then (
    zck (zin (5 : Int32) 92) (
    if (zI s2 130 (5 : Int32).toNatClampNeg) = 0 then (
      some ((0 : Int32), s2)
    ) else (
      zbd (f_Model_valueOf x1 s2) fun v7 s8 => (
      if x2 = (60 : Int32) then (
        if v1 ≤ v7 then (
          some ((0 : Int32), s8)
        ) else (
          some ((1 : Int32), s8)
        )
      ) else (
        if x2 = (61 : Int32) then (
          if v7 = v1 then (
            some ((1 : Int32), s8)
          ) else (
            some ((0 : Int32), s8)
          )
        ) else (
          if v7 ≤ v1 then (
            some ((0 : Int32), s8)
          ) else (
            some ((1 : Int32), s8)
          )
        )
      ))
    ))
  ) else (
    some ((0 : Int32), s2)
  ))
def f_Model_readsTest  (σ : ZM) : Option (Int32 × ZM) :=
  zbd (f_Model_here σ) fun v1 s2 => (
  zbd (f_Model_isLetter v1 s2) fun v4 s5 => (
  if v4 = 0 then (
    some ((0 : Int32), (zsI s5 129 14 (1 : Int32)))
  ) else (
    zbd (f_Model_here (zsI s5 129 11 ((zI s5 129 11) + (1 : Int32)))) fun v8 s9 => (
    if v8 = (60 : Int32) then (
      f_Model_readsTest_59 v1 v8 s9
    ) else (
      if v8 = (61 : Int32) then (
        f_Model_readsTest_59 v1 v8 s9
      ) else (
        if v8 = (62 : Int32) then (
          f_Model_readsTest_59 v1 v8 s9
        ) else (
          some ((0 : Int32), (zsI s9 129 14 (1 : Int32)))
        )
      )
    ))
  )))
def f_Model_readsT_51 (rec : Int32 × ZM → Option (Int32 × ZM)) (k6 : Int32 × Int32 × ZM → Option (Int32 × ZM)) (x1 : Int32) (y0 : Int32) (σ : ZM) : Option (Int32 × ZM) :=
  k6 (x1, y0, σ)
def f_Model_readsT_50 (rec : Int32 × ZM → Option (Int32 × ZM)) (k6 : Int32 × Int32 × ZM → Option (Int32 × ZM)) (x1 : Int32) (σ : ZM) : Option (Int32 × ZM) :=
  f_Model_readsT_51 rec k6 x1 (0 : Int32) σ
def f_Model_readsT_6 (rec : Int32 × ZM → Option (Int32 × ZM)) (k6 : Int32 × Int32 × ZM → Option (Int32 × ZM)) (x1 : Int32) (x2 : Int32) (σ : ZM) : Option (Int32 × ZM) :=
  if (zI σ 129 14) = 0 then (
    zbd (f_Model_here σ) fun v3 s4 => (
    if v3 = (38 : Int32) then (
      zbd (rec (x1, (zsI s4 129 11 ((zI s4 129 11) + (1 : Int32))))) fun v8 s9 => (
      if x2 = 0 then (
        f_Model_readsT_50 rec k6 x1 s9
      ) else (
        if v8 = 0 then (
          f_Model_readsT_50 rec k6 x1 s9
        ) else (
          f_Model_readsT_51 rec k6 x1 (1 : Int32) s9
        )
      ))
    ) else (
      zck (zbl x2) (some (x2, s4))
    ))
  ) else (
    zck (zbl x2) (some (x2, σ))
  )
def F_Model_readsT_6 (rec : Int32 × ZM → Option (Int32 × ZM)) (N : Nat) : Int32 × Int32 × ZM → Option (Int32 × ZM) := zlp (fun k6 a => f_Model_readsT_6 rec k6 a.1 a.2.1 a.2.2) N
def f_Model_readsT (rec : Int32 × ZM → Option (Int32 × ZM)) (x1 : Int32) (σ : ZM) : Option (Int32 × ZM) :=
  zbd (rec (x1, σ)) fun v1 s2 => (
  F_Model_readsT_6 rec 2000 (x1, v1, s2))
def f_Model_readsE_51 (rec : Int32 × ZM → Option (Int32 × ZM)) (k6 : Int32 × Int32 × ZM → Option (Int32 × ZM)) (x1 : Int32) (y0 : Int32) (σ : ZM) : Option (Int32 × ZM) :=
  k6 (x1, y0, σ)
def f_Model_readsE_46 (rec : Int32 × ZM → Option (Int32 × ZM)) (k6 : Int32 × Int32 × ZM → Option (Int32 × ZM)) (x1 : Int32) (σ : ZM) : Option (Int32 × ZM) :=
  f_Model_readsE_51 rec k6 x1 (1 : Int32) σ
def f_Model_readsE_6 (rec : Int32 × ZM → Option (Int32 × ZM)) (k6 : Int32 × Int32 × ZM → Option (Int32 × ZM)) (x1 : Int32) (x2 : Int32) (σ : ZM) : Option (Int32 × ZM) :=
  if (zI σ 129 14) = 0 then (
    zbd (f_Model_here σ) fun v3 s4 => (
    if v3 = (124 : Int32) then (
      zbd (f_Model_readsT rec x1 (zsI s4 129 11 ((zI s4 129 11) + (1 : Int32)))) fun v8 s9 => (
      if x2 = 0 then (
        if v8 = 0 then (
          f_Model_readsE_51 rec k6 x1 (0 : Int32) s9
        ) else (
          f_Model_readsE_46 rec k6 x1 s9
        )
      ) else (
        f_Model_readsE_46 rec k6 x1 s9
      ))
    ) else (
      zck (zbl x2) (some (x2, s4))
    ))
  ) else (
    zck (zbl x2) (some (x2, σ))
  )
def F_Model_readsE_6 (rec : Int32 × ZM → Option (Int32 × ZM)) (N : Nat) : Int32 × Int32 × ZM → Option (Int32 × ZM) := zlp (fun k6 a => f_Model_readsE_6 rec k6 a.1 a.2.1 a.2.2) N
def f_Model_readsE (rec : Int32 × ZM → Option (Int32 × ZM)) (x1 : Int32) (σ : ZM) : Option (Int32 × ZM) :=
  zbd (f_Model_readsT rec x1 σ) fun v1 s2 => (
  F_Model_readsE_6 rec 2000 (x1, v1, s2))
def f_Model_readsF_31 (rec : Int32 × ZM → Option (Int32 × ZM)) (x1 : Int32) (x2 : Int32) (σ : ZM) : Option (Int32 × ZM) :=
  if x1 = (4 : Int32) then (
    some ((0 : Int32), (zsI σ 129 14 (1 : Int32)))
  ) else (
    if x2 = (33 : Int32) then (
      zbd (rec ((x1 + (1 : Int32)), (zsI σ 129 11 ((zI σ 129 11) + (1 : Int32))))) fun v11 s12 => (
      if v11 = 0 then (
        some ((1 : Int32), s12)
      ) else (
        some ((0 : Int32), s12)
      ))
    ) else (
      zbd (f_Model_readsE rec (x1 + (1 : Int32)) (zsI σ 129 11 ((zI σ 129 11) + (1 : Int32)))) fun v3 s4 => (
      zbd (f_Model_takes (41 : Int32) s4) fun v6 s7 => (
      if v6 = 0 then (
        some ((0 : Int32), s7)
      ) else (
        if v3 = 0 then (
          some ((0 : Int32), s7)
        ) else (
          some ((1 : Int32), s7)
        )
      )))
    )
  )
def f_Model_readsF (rec : Int32 × ZM → Option (Int32 × ZM)) (x1 : Int32) (σ : ZM) : Option (Int32 × ZM) :=
  if (zI σ 129 14) = 0 then (
    zbd (f_Model_here σ) fun v2 s3 => (
    if v2 = (33 : Int32) then (
      f_Model_readsF_31 rec x1 v2 s3
    ) else (
      if v2 = (40 : Int32) then (
        f_Model_readsF_31 rec x1 v2 s3
      ) else (
        zbd (f_Model_readsTest s3) fun v7 s8 => (
        zck (zbl v7) (some (v7, s8)))
      )
    ))
  ) else (
    some ((0 : Int32), σ)
  )
def F_Model_readsF (N : Nat) : Int32 × ZM → Option (Int32 × ZM) := zlp (fun rec a => f_Model_readsF rec a.1 a.2) N
def f_Model_readsWord_2 (k2 : Nat × Int32 × ZM → Option (Unit × ZM)) (x1 : Nat) (x2 : Int32) (σ : ZM) : Option (Unit × ZM) :=
  if (Int32.ofNat (zslen.getD x1 0)) ≤ x2 then (
    some ((), σ)
  ) else (
    zck (zin x2 (zslen.getD x1 0)) (
    zbd (f_Model_takes (zschar x1 x2) σ) fun v3 s4 => (
    if v3 = 0 then (
      some ((), s4)
    ) else (
      k2 (x1, (x2 + (1 : Int32)), s4)
    )))
  )
def F_Model_readsWord_2 (N : Nat) : Nat × Int32 × ZM → Option (Unit × ZM) := zlp (fun k2 a => f_Model_readsWord_2 k2 a.1 a.2.1 a.2.2) N
def f_Model_readsWord (x1 : Nat) (σ : ZM) : Option (Unit × ZM) :=
  zck (decide (x1 < 8)) (
  F_Model_readsWord_2 2000 (x1, (1 : Int32), σ))
def f_Model_readsClause_220 (y0 : Int32) (y1 : Int32) (σ : ZM) : Option (Unit × ZM) :=
  some ((), (zsI σ 129 20 (y1 + y0)))
def f_Model_readsClause_219 (y0 : Int32) (σ : ZM) : Option (Unit × ZM) :=
  f_Model_readsClause_220 (0 : Int32) y0 σ
def f_Model_readsClause_196 (x1 : Int32) (x2 : Int32) (x3 : Int32) (y0 : Int32) (y1 : Int32) (σ : ZM) : Option (Unit × ZM) :=
  if x1 = (102 : Int32) then (
    if x3 = 0 then (
      f_Model_readsClause_219 (zI (zsI σ 129 18 (y1 + y0)) 129 20) (zsI σ 129 18 (y1 + y0))
    ) else (
      f_Model_readsClause_220 x2 (zI (zsI σ 129 18 (y1 + y0)) 129 20) (zsI σ 129 18 (y1 + y0))
    )
  ) else (
    f_Model_readsClause_219 (zI (zsI σ 129 18 (y1 + y0)) 129 20) (zsI σ 129 18 (y1 + y0))
  )
def f_Model_readsClause_195 (x1 : Int32) (x2 : Int32) (x3 : Int32) (y0 : Int32) (σ : ZM) : Option (Unit × ZM) :=
  f_Model_readsClause_196 x1 x2 x3 (0 : Int32) y0 σ
def f_Model_readsClause_172 (x1 : Int32) (x2 : Int32) (x3 : Int32) (y0 : Int32) (y1 : Int32) (σ : ZM) : Option (Unit × ZM) :=
  if x1 = (109 : Int32) then (
    if x3 = 0 then (
      f_Model_readsClause_195 x1 x2 x3 (zI (zsI σ 129 16 (y1 + y0)) 129 18) (zsI σ 129 16 (y1 + y0))
    ) else (
      f_Model_readsClause_196 x1 x2 x3 x2 (zI (zsI σ 129 16 (y1 + y0)) 129 18) (zsI σ 129 16 (y1 + y0))
    )
  ) else (
    f_Model_readsClause_195 x1 x2 x3 (zI (zsI σ 129 16 (y1 + y0)) 129 18) (zsI σ 129 16 (y1 + y0))
  )
def f_Model_readsClause_171 (x1 : Int32) (x2 : Int32) (x3 : Int32) (y0 : Int32) (σ : ZM) : Option (Unit × ZM) :=
  f_Model_readsClause_172 x1 x2 x3 (0 : Int32) y0 σ
def f_Model_readsClause_148 (x1 : Int32) (x2 : Int32) (x3 : Int32) (y0 : Int32) (y1 : Int32) (σ : ZM) : Option (Unit × ZM) :=
  if x1 = (116 : Int32) then (
    if x3 = 0 then (
      f_Model_readsClause_171 x1 x2 x3 (zI (zsI σ 129 17 (y1 + y0)) 129 16) (zsI σ 129 17 (y1 + y0))
    ) else (
      f_Model_readsClause_172 x1 x2 x3 x2 (zI (zsI σ 129 17 (y1 + y0)) 129 16) (zsI σ 129 17 (y1 + y0))
    )
  ) else (
    f_Model_readsClause_171 x1 x2 x3 (zI (zsI σ 129 17 (y1 + y0)) 129 16) (zsI σ 129 17 (y1 + y0))
  )
def f_Model_readsClause_123 (x1 : Int32) (x2 : Int32) (y0 : Int32) (σ : ZM) : Option (Unit × ZM) :=
  zck (zbl y0) (
  zbd (f_Model_readsE (F_Model_readsF 8) (0 : Int32) (zsI σ 129 15 y0)) fun v2 s3 => (
  if x1 = (116 : Int32) then (
    f_Model_readsClause_148 x1 x2 v2 (1 : Int32) (zI s3 129 17) s3
  ) else (
    f_Model_readsClause_148 x1 x2 v2 (0 : Int32) (zI s3 129 17) s3
  )))
def f_Model_readsClause_81 (x1 : Int32) (y0 : Nat) (σ : ZM) : Option (Unit × ZM) :=
  zbd (f_Model_readsWord y0 σ) fun v1 s2 => (
  zbd (f_Model_readsNumber s2) fun v4 s5 => (
  if x1 = (99 : Int32) then (
    some ((), (zsI s5 129 19 v4))
  ) else (
    zbd (f_Model_takes (32 : Int32) s5) fun v8 s9 => (
    if v8 = 0 then (
      some ((), s9)
    ) else (
      if x1 = (102 : Int32) then (
        f_Model_readsClause_123 x1 v4 (1 : Int32) s9
      ) else (
        f_Model_readsClause_123 x1 v4 (0 : Int32) s9
      )
    ))
  )))
def f_Model_readsClause_35 (x1 : Int32) (σ : ZM) : Option (Unit × ZM) :=
  if x1 = (116 : Int32) then (
    f_Model_readsClause_81 x1 4 (zsI σ 129 11 ((zI σ 129 11) + (1 : Int32)))
  ) else (
    if x1 = (109 : Int32) then (
      f_Model_readsClause_81 x1 5 (zsI σ 129 11 ((zI σ 129 11) + (1 : Int32)))
    ) else (
      if x1 = (99 : Int32) then (
        f_Model_readsClause_81 x1 6 (zsI σ 129 11 ((zI σ 129 11) + (1 : Int32)))
      ) else (
        f_Model_readsClause_81 x1 7 (zsI σ 129 11 ((zI σ 129 11) + (1 : Int32)))
      )
    )
  )
def f_Model_readsClause  (σ : ZM) : Option (Unit × ZM) :=
  zbd (f_Model_here σ) fun v1 s2 => (
  if v1 = (116 : Int32) then (
    f_Model_readsClause_35 v1 s2
  ) else (
    if v1 = (109 : Int32) then (
      f_Model_readsClause_35 v1 s2
    ) else (
      if v1 = (99 : Int32) then (
        f_Model_readsClause_35 v1 s2
      ) else (
        if v1 = (102 : Int32) then (
          f_Model_readsClause_35 v1 s2
        ) else (
          some ((), (zsI s2 129 14 (1 : Int32)))
        )
      )
    )
  ))
def f_Model_reads_119  (σ : ZM) : Option (Unit × ZM) :=
  some ((), (zsI σ 129 14 (1 : Int32)))
def f_Model_reads_80 (k80 : Int32 × ZM → Option (Unit × ZM)) (x4 : Int32) (σ : ZM) : Option (Unit × ZM) :=
  zbd (f_Model_readsClause σ) fun v1 s2 => (
  if (zI s2 129 14) = 0 then (
    if (zI s2 129 11) = (zI s2 129 10) then (
      some ((), s2)
    ) else (
      if x4 = (10 : Int32) then (
        f_Model_reads_119 s2
      ) else (
        zbd (f_Model_here s2) fun v7 s8 => (
        if v7 = (59 : Int32) then (
          k80 ((x4 + (1 : Int32)), (zsI s8 129 11 ((zI s8 129 11) + (1 : Int32))))
        ) else (
          f_Model_reads_119 s8
        ))
      )
    )
  ) else (
    some ((), s2)
  ))
def F_Model_reads_80 (N : Nat) : Int32 × ZM → Option (Unit × ZM) := zlp (fun k80 a => f_Model_reads_80 k80 a.1 a.2) N
def f_Model_reads_23 (x1 : Int32) (x2 : Int32) (x3 : Int32) (y0 : Int32) (σ : ZM) : Option (Unit × ZM) :=
  if 0 ≤ x1 then (
    F_Model_reads_80 2000 ((1 : Int32), (zsI (zsI (zsI (zsI (zsI (zsI (zsI (zsI (zsI (zsI σ 129 10 y0) 129 11 (0 : Int32)) 129 12 x2) 129 13 x3) 129 14 (0 : Int32)) 129 16 (0 : Int32)) 129 17 (0 : Int32)) 129 18 (0 : Int32)) 129 19 (50 : Int32)) 129 20 (1 : Int32)))
  ) else (
    some ((), (zsI (zsI (zsI (zsI (zsI (zsI (zsI (zsI (zsI (zsI σ 129 10 y0) 129 11 (0 : Int32)) 129 12 x2) 129 13 x3) 129 14 (0 : Int32)) 129 16 (0 : Int32)) 129 17 (0 : Int32)) 129 18 (0 : Int32)) 129 19 (50 : Int32)) 129 20 (1 : Int32)))
  )
def f_Model_reads (x1 : Int32) (x2 : Int32) (x3 : Int32) (σ : ZM) : Option (Unit × ZM) :=
  if 0 ≤ x1 then (
    zck (zin x1 6) (
    f_Model_reads_23 x1 x2 x3 (zI (zsI σ 129 9 ((100 : Int32) * x1)) 135 x1.toNatClampNeg) (zsI σ 129 9 ((100 : Int32) * x1)))
  ) else (
    f_Model_reads_23 x1 x2 x3 (0 : Int32) (zsI σ 129 9 ((100 : Int32) * x1))
  )
def f_Model_readsNow (x1 : Int32) (x2 : Int32) (σ : ZM) : Option (Unit × ZM) :=
  zck (zin (6 : Int32) 92) (
  zbd (f_Model_reads ((zI σ 130 (6 : Int32).toNatClampNeg) - (1 : Int32)) x1 x2 σ) fun v2 s3 => (
  some ((), s3)))
def f_Model_kiln_14 (k14 : Int32 × ZM → Option (Int32 × ZM)) (x1 : Int32) (σ : ZM) : Option (Int32 × ZM) :=
  if (zI σ 129 7) ≤ x1 then (
    zck (zin (zI σ 129 8) 6) (
    zbd (f_Model_reads (zI (zsI (zsI σ 135 (zI σ 129 8).toNatClampNeg (zI σ 129 7)) 129 7 (0 : Int32)) 129 8) (0 : Int32) (0 : Int32) (zsI (zsI σ 135 (zI σ 129 8).toNatClampNeg (zI σ 129 7)) 129 7 (0 : Int32))) fun v3 s4 => (
    if (zI s4 129 14) = 0 then (
      zck (zin (6 : Int32) 92) (
      some ((zI (zsI (zsI s4 129 8 ((zI s4 129 8) + (1 : Int32))) 130 (6 : Int32).toNatClampNeg (zI (zsI s4 129 8 ((zI s4 129 8) + (1 : Int32))) 129 8)) 129 8) - (1 : Int32), (zsI (zsI s4 129 8 ((zI s4 129 8) + (1 : Int32))) 130 (6 : Int32).toNatClampNeg (zI (zsI s4 129 8 ((zI s4 129 8) + (1 : Int32))) 129 8))))
    ) else (
      some ((-10 : Int32) - (zI s4 129 11), s4)
    )))
  ) else (
    zck (zin x1 100) (
    zck (zin (((100 : Int32) * (zI σ 129 8)) + x1) 600) (
    k14 ((x1 + (1 : Int32)), (zsI σ 134 (((100 : Int32) * (zI σ 129 8)) + x1).toNatClampNeg (zI σ 133 x1.toNatClampNeg)))))
  )
def F_Model_kiln_14 (N : Nat) : Int32 × ZM → Option (Int32 × ZM) := zlp (fun k14 a => f_Model_kiln_14 k14 a.1 a.2) N
def f_Model_kiln  (σ : ZM) : Option (Int32 × ZM) :=
  if (zI σ 129 8) = (6 : Int32) then (
    some ((-4 : Int32), σ)
  ) else (
    F_Model_kiln_14 2000 ((0 : Int32), σ)
  )
def f_Model_partOf (x1 : Int32) (x2 : Int32) (σ : ZM) : Option (Int32 × ZM) :=
  zbd (f_Model_readsNow x1 x2 σ) fun v1 s2 => (
  if (zI s2 129 17) = 0 then (
    some ((50 : Int32), s2)
  ) else (
    some (zI s2 129 16, s2)
  ))
def f_Model_takesBy_137 (x4 : Int32) (x7 : Int32) (σ : ZM) : Option (Int32 × ZM) :=
  if x7 ≤ x4 then (
    if 0 ≤ x7 then (
      some (x7, σ)
    ) else (
      some ((0 : Int32), σ)
    )
  ) else (
    some (x4, σ)
  )
def f_Model_takesBy_75 (x4 : Int32) (x5 : Int32) (σ : ZM) : Option (Int32 × ZM) :=
  f_Model_takesBy_137 x4 ((2 : Int32) * x5) σ
def f_Model_takesBy_98 (x4 : Int32) (y0 : Int32) (σ : ZM) : Option (Int32 × ZM) :=
  f_Model_takesBy_137 x4 y0 σ
def f_Model_takesBy_117 (x4 : Int32) (y0 : Int32) (σ : ZM) : Option (Int32 × ZM) :=
  f_Model_takesBy_137 x4 (y0 / (2 : Int32)) σ
def f_Model_takesBy (x1 : Int32) (x2 : Int32) (x3 : Int32) (x4 : Int32) (σ : ZM) : Option (Int32 × ZM) :=
  zbd (f_Model_get x1 ((6 : Int32) + x2) σ) fun v1 s2 => (
  zbd (f_Model_kind x1 s2) fun v4 s5 => (
  if v4 = (1 : Int32) then (
    f_Model_takesBy_137 x4 x4 s5
  ) else (
  if v4 = (2 : Int32) then (
    f_Model_takesBy_75 x4 ((x3 * x4) / (100 : Int32)) s5
  ) else (
  if v4 = (3 : Int32) then (
    if v1 ≤ ((x3 * x4) / (100 : Int32)) then (
      f_Model_takesBy_98 x4 v1 s5
    ) else (
      f_Model_takesBy_98 x4 ((x3 * x4) / (100 : Int32)) s5
    )
  ) else (
  if v4 = (4 : Int32) then (
    zbd (f_Model_number x1 s5) fun v12 s13 => (
    f_Model_takesBy_137 x4 (x4 - v12) s13)
  ) else (
  if v4 = (5 : Int32) then (
    f_Model_takesBy_75 x4 ((x3 * x4) / (100 : Int32)) s5
  ) else (
  if v4 = (6 : Int32) then (
    if v1 ≤ ((x3 * x4) / (100 : Int32)) then (
      f_Model_takesBy_117 x4 v1 s5
    ) else (
      f_Model_takesBy_117 x4 ((x3 * x4) / (100 : Int32)) s5
    )
  ) else (
    f_Model_takesBy_137 x4 ((x3 * x4) / (100 : Int32)) s5
  ))))))))
def f_Model_takesOf (x1 : Int32) (x2 : Int32) (σ : ZM) : Option (Int32 × ZM) :=
  zbd (f_Model_partOf x1 x2 σ) fun v1 s2 => (
  zck (zin x2 92) (
  zbd (f_Model_takesBy x1 x2 v1 (zI s2 130 x2.toNatClampNeg) s2) fun v5 s6 => (
  some (v5, s6))))
def f_Model_leavesOf (x1 : Int32) (x2 : Int32) (σ : ZM) : Option (Int32 × ZM) :=
  zbd (f_Model_kind x1 σ) fun v1 s2 => (
  if v1 = (1 : Int32) then (
    some ((0 : Int32), s2)
  ) else (
    if v1 = (4 : Int32) then (
      some ((0 : Int32), s2)
    ) else (
      zbd (f_Model_readsNow x1 x2 s2) fun v6 s7 => (
      zbd (f_Model_get x1 ((2 : Int32) + x2) s7) fun v9 s10 => (
      if v1 = (6 : Int32) then (
        some ((v9 + (zI s10 129 18)) / (2 : Int32), s10)
      ) else (
        if v1 = (5 : Int32) then (
          if x2 = 0 then (
            zbd (f_Model_number x1 s10) fun v15 s16 => (
            some ((v9 + (zI s10 129 18)) + v15, s16))
          ) else (
            some (v9 + (zI s10 129 18), s10)
          )
        ) else (
          some (v9 + (zI s10 129 18), s10)
        )
      )))
    )
  ))
def f_Model_allTakes_4 (k4 : Int32 × Int32 × Int32 × ZM → Option (Int32 × ZM)) (x1 : Int32) (x2 : Int32) (x3 : Int32) (σ : ZM) : Option (Int32 × ZM) :=
  if (4 : Int32) ≤ x3 then (
    some (x2, σ)
  ) else (
    zbd (f_Model_takesOf x1 x3 σ) fun v2 s3 => (
    k4 (x1, (x2 + v2), (x3 + (1 : Int32)), s3))
  )
def F_Model_allTakes_4 (N : Nat) : Int32 × Int32 × Int32 × ZM → Option (Int32 × ZM) := zlp (fun k4 a => f_Model_allTakes_4 k4 a.1 a.2.1 a.2.2.1 a.2.2.2) N
def f_Model_allTakes (x1 : Int32) (σ : ZM) : Option (Int32 × ZM) :=
  F_Model_allTakes_4 2000 (x1, (0 : Int32), (0 : Int32), σ)
def f_Model_isSpoiled_2 (k2 : Int32 × Int32 × ZM → Option (Int32 × ZM)) (x1 : Int32) (x2 : Int32) (σ : ZM) : Option (Int32 × ZM) :=
  if (4 : Int32) ≤ x2 then (
    some ((0 : Int32), σ)
  ) else (
    zbd (f_Model_takesOf x1 x2 σ) fun v2 s3 => (
    zbd (f_Model_get x1 ((6 : Int32) + x2) s3) fun v5 s6 => (
    if v2 ≤ v5 then (
      k2 (x1, (x2 + (1 : Int32)), s6)
    ) else (
      some ((1 : Int32), s6)
    )))
  )
def F_Model_isSpoiled_2 (N : Nat) : Int32 × Int32 × ZM → Option (Int32 × ZM) := zlp (fun k2 a => f_Model_isSpoiled_2 k2 a.1 a.2.1 a.2.2) N
def f_Model_isSpoiled (x1 : Int32) (σ : ZM) : Option (Int32 × ZM) :=
  F_Model_isSpoiled_2 2000 (x1, (0 : Int32), σ)
def f_Model_feeOf (x1 : Int32) (σ : ZM) : Option (Int32 × ZM) :=
  zbd (f_Model_readsNow x1 (0 : Int32) σ) fun v1 s2 => (
  some (zI s2 129 20, s2))
def f_Model_ages_24 (y0 : Int32) (y1 : Int32) (y2 : Int32) (σ : ZM) : Option (Unit × ZM) :=
  zck (zin y2 92) (
  some ((), (zsI σ 130 y2.toNatClampNeg (y1 + y0))))
def f_Model_ages  (σ : ZM) : Option (Unit × ZM) :=
  zck (zin (4 : Int32) 92) (
  zck (zin (4 : Int32) 92) (
  if (9999 : Int32) ≤ (zI σ 130 (4 : Int32).toNatClampNeg) then (
    f_Model_ages_24 (0 : Int32) (zI σ 130 (4 : Int32).toNatClampNeg) (4 : Int32) σ
  ) else (
    f_Model_ages_24 (1 : Int32) (zI σ 130 (4 : Int32).toNatClampNeg) (4 : Int32) σ
  )))
def f_Model_bakes_56 (k8 : Int32 × Int32 × Int32 × ZM → Option (Int32 × ZM)) (x1 : Int32) (x2 : Int32) (x3 : Int32) (y0 : Int32) (y1 : Int32) (σ : ZM) : Option (Int32 × ZM) :=
  zck (zin y1 4) (
  k8 (x1, x2, (x3 + (1 : Int32)), (zsI σ 136 y1.toNatClampNeg y0)))
def f_Model_bakes_65 (k65 : Int32 × Int32 × ZM → Option (Int32 × ZM)) (x2 : Int32) (x3 : Int32) (σ : ZM) : Option (Int32 × ZM) :=
  if (4 : Int32) ≤ x3 then (
    zbd (f_Model_ages σ) fun v2 s3 => (
    zck (zbl x2) (some (x2, s3)))
  ) else (
    zck (zin x3 4) (
    zck (zin x3 92) (
    k65 (x2, (x3 + (1 : Int32)), (zsI σ 130 x3.toNatClampNeg (zI σ 136 x3.toNatClampNeg)))))
  )
def F_Model_bakes_65 (N : Nat) : Int32 × Int32 × ZM → Option (Int32 × ZM) := zlp (fun k65 a => f_Model_bakes_65 k65 a.1 a.2.1 a.2.2) N
def f_Model_bakes_8 (k8 : Int32 × Int32 × Int32 × ZM → Option (Int32 × ZM)) (x1 : Int32) (x2 : Int32) (x3 : Int32) (σ : ZM) : Option (Int32 × ZM) :=
  if (4 : Int32) ≤ x3 then (
    F_Model_bakes_65 2000 (x2, (0 : Int32), σ)
  ) else (
    zck (zin x3 92) (
    zbd (f_Model_takesOf x1 x3 σ) fun v3 s4 => (
    zbd (f_Model_leavesOf x1 x3 s4) fun v6 s7 => (
    if (((zI σ 130 x3.toNatClampNeg) - v3) + v6) ≤ (9999 : Int32) then (
      f_Model_bakes_56 k8 x1 x2 x3 (((zI σ 130 x3.toNatClampNeg) - v3) + v6) x3 s7
    ) else (
      f_Model_bakes_56 k8 x1 x2 x3 (9999 : Int32) x3 s7
    ))))
  )
def F_Model_bakes_8 (N : Nat) : Int32 × Int32 × Int32 × ZM → Option (Int32 × ZM) := zlp (fun k8 a => f_Model_bakes_8 k8 a.1 a.2.1 a.2.2.1 a.2.2.2) N
def f_Model_bakes (x1 : Int32) (σ : ZM) : Option (Int32 × ZM) :=
  zbd (f_Model_isSpoiled x1 σ) fun v1 s2 => (
  F_Model_bakes_8 2000 (x1, v1, (0 : Int32), s2))
def f_Model_cools_49 (k13 : Int32 × Int32 × ZM → Option (Unit × ZM)) (x1 : Int32) (x2 : Int32) (y0 : Int32) (y1 : Int32) (σ : ZM) : Option (Unit × ZM) :=
  zck (zin y1 92) (
  k13 (x1, (x2 + (1 : Int32)), (zsI σ 130 y1.toNatClampNeg y0)))
def f_Model_cools_13 (k13 : Int32 × Int32 × ZM → Option (Unit × ZM)) (x1 : Int32) (x2 : Int32) (σ : ZM) : Option (Unit × ZM) :=
  if (4 : Int32) ≤ x2 then (
    zbd (f_Model_ages σ) fun v2 s3 => (
    some ((), s3))
  ) else (
    zck (zin x2 92) (
    if ((x1 * (zI σ 130 x2.toNatClampNeg)) / (100 : Int32)) ≤ (9999 : Int32) then (
      f_Model_cools_49 k13 x1 x2 ((x1 * (zI σ 130 x2.toNatClampNeg)) / (100 : Int32)) x2 σ
    ) else (
      f_Model_cools_49 k13 x1 x2 (9999 : Int32) x2 σ
    ))
  )
def F_Model_cools_13 (N : Nat) : Int32 × Int32 × ZM → Option (Unit × ZM) := zlp (fun k13 a => f_Model_cools_13 k13 a.1 a.2.1 a.2.2) N
def f_Model_cools  (σ : ZM) : Option (Unit × ZM) :=
  zbd (f_Model_readsNow (0 : Int32) (0 : Int32) σ) fun v1 s2 => (
  F_Model_cools_13 2000 ((zI s2 129 19), (0 : Int32), s2))
def f_Model_loaf_77 (k77 : Int32 × Int32 × ZM → Option (Int32 × ZM)) (x3 : Int32) (x4 : Int32) (σ : ZM) : Option (Int32 × ZM) :=
  if (4 : Int32) ≤ x4 then (
    zck (zin (5 : Int32) 92) (
    zck (zin (5 : Int32) 92) (
    some (x3, (zsI σ 130 (5 : Int32).toNatClampNeg ((zI σ 130 (5 : Int32).toNatClampNeg) + (1 : Int32))))))
  ) else (
    zck (zin ((((8 : Int32) + ((10 : Int32) * x3)) + (2 : Int32)) + x4) 92) (
    zck (zin ((((8 : Int32) + ((10 : Int32) * x3)) + (6 : Int32)) + x4) 92) (
    k77 (x3, (x4 + (1 : Int32)), (zsI (zsI σ 130 ((((8 : Int32) + ((10 : Int32) * x3)) + (2 : Int32)) + x4).toNatClampNeg (0 : Int32)) 130 ((((8 : Int32) + ((10 : Int32) * x3)) + (6 : Int32)) + x4).toNatClampNeg (9 : Int32)))))
  )
def F_Model_loaf_77 (N : Nat) : Int32 × Int32 × ZM → Option (Int32 × ZM) := zlp (fun k77 a => f_Model_loaf_77 k77 a.1 a.2.1 a.2.2) N
def f_Model_loaf (x1 : Int32) (x2 : Int32) (σ : ZM) : Option (Int32 × ZM) :=
  zbd (f_Model_isIn x1 (0 : Int32) (6 : Int32) σ) fun v1 s2 => (
  if v1 = 0 then (
    some ((-1 : Int32), s2)
  ) else (
    zbd (f_Model_isIn x2 (0 : Int32) (9 : Int32) s2) fun v5 s6 => (
    if v5 = 0 then (
      some ((-2 : Int32), s6)
    ) else (
      zck (zin (5 : Int32) 92) (
      if (zI s6 130 (5 : Int32).toNatClampNeg) = (6 : Int32) then (
        some ((-4 : Int32), s6)
      ) else (
        zck (zin (5 : Int32) 92) (
        zck (zin ((8 : Int32) + ((10 : Int32) * (zI s6 130 (5 : Int32).toNatClampNeg))) 92) (
        zck (zin (((8 : Int32) + ((10 : Int32) * (zI s6 130 (5 : Int32).toNatClampNeg))) + (1 : Int32)) 92) (
        F_Model_loaf_77 2000 ((zI s6 130 (5 : Int32).toNatClampNeg), (0 : Int32), (zsI (zsI s6 130 ((8 : Int32) + ((10 : Int32) * (zI s6 130 (5 : Int32).toNatClampNeg))).toNatClampNeg x1) 130 (((8 : Int32) + ((10 : Int32) * (zI s6 130 (5 : Int32).toNatClampNeg))) + (1 : Int32)).toNatClampNeg x2)))))
      ))
    ))
  ))
def f_Model_set_57 (x2 : Int32) (x4 : Int32) (y0 : Int32) (y1 : Int32) (σ : ZM) : Option (Int32 × ZM) :=
  zck (zin ((y1 + y0) + x2) 92) (
  zck (zin ((y1 + y0) + x2) 92) (
  some (zI σ 130 ((y1 + y0) + x2).toNatClampNeg, (zsI σ 130 ((y1 + y0) + x2).toNatClampNeg x4))))
def f_Model_set (x1 : Int32) (x2 : Int32) (x3 : Int32) (x4 : Int32) (σ : ZM) : Option (Int32 × ZM) :=
  zbd (f_Model_isLoaf x1 σ) fun v1 s2 => (
  if v1 = 0 then (
    some ((-1 : Int32), s2)
  ) else (
    zbd (f_Model_isTaste x2 s2) fun v5 s6 => (
    if v5 = 0 then (
      some ((-1 : Int32), s6)
    ) else (
      zbd (f_Model_isIn x3 (0 : Int32) (1 : Int32) s6) fun v9 s10 => (
      if v9 = 0 then (
        some ((-1 : Int32), s10)
      ) else (
        zbd (f_Model_isIn x4 (0 : Int32) (99 : Int32) s10) fun v13 s14 => (
        if v13 = 0 then (
          some ((-2 : Int32), s14)
        ) else (
          if x3 = 0 then (
            f_Model_set_57 x2 x4 (2 : Int32) ((8 : Int32) + ((10 : Int32) * x1)) s14
          ) else (
            f_Model_set_57 x2 x4 (6 : Int32) ((8 : Int32) + ((10 : Int32) * x1)) s14
          )
        ))
      ))
    ))
  ))
def f_Model_of (x1 : Int32) (x2 : Int32) (σ : ZM) : Option (Int32 × ZM) :=
  zbd (f_Model_isLoaf x1 σ) fun v1 s2 => (
  if v1 = 0 then (
    some ((-1 : Int32), s2)
  ) else (
    if x2 = (0 : Int32) then (
      zbd (f_Model_kind x1 s2) fun v6 s7 => (
      some (v6, s7))
    ) else (
    if x2 = (1 : Int32) then (
      zbd (f_Model_number x1 s2) fun v10 s11 => (
      some (v10, s11))
    ) else (
    if x2 = (2 : Int32) then (
      zbd (f_Model_feeOf x1 s2) fun v14 s15 => (
      some (v14, s15))
    ) else (
    if x2 = (3 : Int32) then (
      zbd (f_Model_isSpoiled x1 s2) fun v18 s19 => (
      if v18 = 0 then (
        some ((0 : Int32), s19)
      ) else (
        some ((1 : Int32), s19)
      ))
    ) else (
      if x2 < (10 : Int32) then (
        some ((-1 : Int32), s2)
      ) else (
        if (43 : Int32) < x2 then (
          some ((-1 : Int32), s2)
        ) else (
          zbd (f_Model_isTaste (x2 - x2 / (10 : Int32) * (10 : Int32)) s2) fun v24 s25 => (
          if v24 = 0 then (
            some ((-1 : Int32), s25)
          ) else (
            if (20 : Int32) ≤ x2 then (
              if (30 : Int32) ≤ x2 then (
                if (40 : Int32) ≤ x2 then (
                  zbd (f_Model_leavesOf x1 (x2 - x2 / (10 : Int32) * (10 : Int32)) s25) fun v31 s32 => (
                  some (v31, s32))
                ) else (
                  zbd (f_Model_takesOf x1 (x2 - x2 / (10 : Int32) * (10 : Int32)) s25) fun v34 s35 => (
                  some (v34, s35))
                )
              ) else (
                zbd (f_Model_get x1 ((6 : Int32) + (x2 - x2 / (10 : Int32) * (10 : Int32))) s25) fun v37 s38 => (
                some (v37, s38))
              )
            ) else (
              zbd (f_Model_get x1 ((2 : Int32) + (x2 - x2 / (10 : Int32) * (10 : Int32))) s25) fun v40 s41 => (
              some (v40, s41))
            )
          ))
        )
      )
    ))))
  ))
def f_Model_oven (x1 : Int32) (x2 : Int32) (σ : ZM) : Option (Int32 × ZM) :=
  zbd (f_Model_isTaste x1 σ) fun v1 s2 => (
  if v1 = 0 then (
    some ((-1 : Int32), s2)
  ) else (
    zbd (f_Model_isIn x2 (0 : Int32) (9999 : Int32) s2) fun v5 s6 => (
    if v5 = 0 then (
      some ((-2 : Int32), s6)
    ) else (
      zck (zin x1 92) (
      zck (zin x1 92) (
      some (zI s6 130 x1.toNatClampNeg, (zsI s6 130 x1.toNatClampNeg x2))))
    ))
  ))
def f_Model_told (x1 : Int32) (σ : ZM) : Option (Int32 × ZM) :=
  zbd (f_Model_isIn x1 (0 : Int32) (5 : Int32) σ) fun v1 s2 => (
  if v1 = 0 then (
    some ((-1 : Int32), s2)
  ) else (
    zbd (f_Model_readsNow (0 : Int32) (0 : Int32) s2) fun v5 s6 => (
    if x1 = (5 : Int32) then (
      some (zI s6 129 19, s6)
    ) else (
      zck (zin x1 92) (
      some (zI s6 130 x1.toNatClampNeg, s6))
    ))
  ))
def f_Model_bake (x1 : Int32) (σ : ZM) : Option (Int32 × ZM) :=
  zbd (f_Model_isLoaf x1 σ) fun v1 s2 => (
  if v1 = 0 then (
    some ((-1 : Int32), s2)
  ) else (
    zbd (f_Model_bakes x1 s2) fun v5 s6 => (
    if v5 = 0 then (
      some ((0 : Int32), s6)
    ) else (
      some ((1 : Int32), s6)
    ))
  ))
def f_Model_cold  (σ : ZM) : Option (Int32 × ZM) :=
  zbd (f_Model_cools σ) fun v1 s2 => (
  zck (zin (4 : Int32) 92) (
  some (zI s2 130 (4 : Int32).toNatClampNeg, s2)))
def f_Model_would_90 (y0 : Int32) (σ : ZM) : Option (Int32 × ZM) :=
  zbd (f_Model_ends σ) fun v1 s2 => (
  some (y0, s2))
def f_Model_would_61 (x1 : Int32) (x3 : Int32) (y0 : Int32) (σ : ZM) : Option (Int32 × ZM) :=
  if (4 : Int32) ≤ x3 then (
    zbd (f_Model_isSpoiled x1 σ) fun v2 s3 => (
    if v2 = 0 then (
      f_Model_would_90 (0 : Int32) s3
    ) else (
      f_Model_would_90 (1 : Int32) s3
    ))
  ) else (
    zbd (f_Model_takesOf x1 x3 σ) fun v6 s7 => (
    f_Model_would_90 v6 s7)
  )
def f_Model_would_60 (x1 : Int32) (x3 : Int32) (σ : ZM) : Option (Int32 × ZM) :=
  f_Model_would_61 x1 x3 (0 : Int32) σ
def f_Model_would_21 (x1 : Int32) (x2 : Int32) (x3 : Int32) (σ : ZM) : Option (Int32 × ZM) :=
  zbd (f_Model_isIn x3 (0 : Int32) (4 : Int32) σ) fun v1 s2 => (
  if v1 = 0 then (
    some ((-1 : Int32), s2)
  ) else (
    if x1 = x2 then (
      some ((-2 : Int32), s2)
    ) else (
      zbd (f_Model_begins s2) fun v6 s7 => (
      if x2 < 0 then (
        f_Model_would_60 x1 x3 s7
      ) else (
        zbd (f_Model_bakes x2 s7) fun v10 s11 => (
        if v10 = 0 then (
          f_Model_would_60 x1 x3 s11
        ) else (
          f_Model_would_61 x1 x3 (1 : Int32) s11
        ))
      ))
    )
  ))
def f_Model_would (x1 : Int32) (x2 : Int32) (x3 : Int32) (σ : ZM) : Option (Int32 × ZM) :=
  zbd (f_Model_isLoaf x1 σ) fun v1 s2 => (
  if v1 = 0 then (
    some ((-1 : Int32), s2)
  ) else (
    if x2 = (-1 : Int32) then (
      f_Model_would_21 x1 x2 x3 s2
    ) else (
      zbd (f_Model_isLoaf x2 s2) fun v6 s7 => (
      if v6 = 0 then (
        some ((-1 : Int32), s7)
      ) else (
        f_Model_would_21 x1 x2 x3 s7
      ))
    )
  ))
def f_Model_spoiledBy_32 (k8 : Int32 × Int32 × Int32 × ZM → Option (Int32 × ZM)) (x1 : Int32) (x3 : Int32) (y0 : Int32) (y1 : Int32) (σ : ZM) : Option (Int32 × ZM) :=
  k8 (x1, (y1 + y0), (x3 + (1 : Int32)), σ)
def f_Model_spoiledBy_8 (k8 : Int32 × Int32 × Int32 × ZM → Option (Int32 × ZM)) (x1 : Int32) (x2 : Int32) (x3 : Int32) (σ : ZM) : Option (Int32 × ZM) :=
  if x1 ≤ x3 then (
    zbd (f_Model_ends σ) fun v2 s3 => (
    some (x2, s3))
  ) else (
    zck (zin x3 6) (
    zbd (f_Model_bakes (zI σ 137 x3.toNatClampNeg) σ) fun v6 s7 => (
    if v6 = 0 then (
      f_Model_spoiledBy_32 k8 x1 x3 (0 : Int32) x2 s7
    ) else (
      f_Model_spoiledBy_32 k8 x1 x3 (1 : Int32) x2 s7
    )))
  )
def F_Model_spoiledBy_8 (N : Nat) : Int32 × Int32 × Int32 × ZM → Option (Int32 × ZM) := zlp (fun k8 a => f_Model_spoiledBy_8 k8 a.1 a.2.1 a.2.2.1 a.2.2.2) N
def f_Model_spoiledBy (x1 : Int32) (σ : ZM) : Option (Int32 × ZM) :=
  zbd (f_Model_begins σ) fun v1 s2 => (
  F_Model_spoiledBy_8 2000 (x1, (0 : Int32), (0 : Int32), s2))
def f_Model_orders_38 (rec : Int32 × Int32 × Int32 × ZM → Option (Unit × ZM)) (k38 : Int32 × Int32 × ZM → Option (Unit × ZM)) (x2 : Int32) (x5 : Int32) (σ : ZM) : Option (Unit × ZM) :=
  if x2 ≤ x5 then (
    some ((), σ)
  ) else (
    zck (zin x5 6) (
    zck (zin x5 6) (
    k38 (x2, (x5 + (1 : Int32)), (zsI σ 138 x5.toNatClampNeg (zI σ 137 x5.toNatClampNeg)))))
  )
def F_Model_orders_38 (rec : Int32 × Int32 × Int32 × ZM → Option (Unit × ZM)) (N : Nat) : Int32 × Int32 × ZM → Option (Unit × ZM) := zlp (fun k38 a => f_Model_orders_38 rec k38 a.1 a.2.1 a.2.2) N
def f_Model_orders_29 (rec : Int32 × Int32 × Int32 × ZM → Option (Unit × ZM)) (x2 : Int32) (x4 : Int32) (σ : ZM) : Option (Unit × ZM) :=
  F_Model_orders_38 rec 2000 (x2, (0 : Int32), (zsI σ 129 24 x4))
def f_Model_orders_115 (rec : Int32 × Int32 × Int32 × ZM → Option (Unit × ZM)) (k68 : Int32 × Int32 × Int32 × Int32 × ZM → Option (Unit × ZM)) (x1 : Int32) (x2 : Int32) (x3 : Int32) (x4 : Int32) (σ : ZM) : Option (Unit × ZM) :=
  k68 (x1, x2, x3, (x4 + (1 : Int32)), σ)
def f_Model_orders_68 (rec : Int32 × Int32 × Int32 × ZM → Option (Unit × ZM)) (k68 : Int32 × Int32 × Int32 × Int32 × ZM → Option (Unit × ZM)) (x1 : Int32) (x2 : Int32) (x3 : Int32) (x4 : Int32) (σ : ZM) : Option (Unit × ZM) :=
  zck (zin (5 : Int32) 92) (
  if (zI σ 130 (5 : Int32).toNatClampNeg) ≤ x4 then (
    some ((), σ)
  ) else (
    if ((x1 >>> (x4 &&& 31)) &&& (1 : Int32)) = 0 then (
      f_Model_orders_115 rec k68 x1 x2 x3 x4 σ
    ) else (
      zck (zin x2 6) (
      zbd (rec ((x1 &&& (((1 : Int32) <<< (x4 &&& 31)) ^^^ (-1 : Int32))), (x2 + (1 : Int32)), x3, (zsI σ 137 x2.toNatClampNeg x4))) fun v5 s6 => (
      f_Model_orders_115 rec k68 x1 x2 x3 x4 s6))
    )
  ))
def F_Model_orders_68 (rec : Int32 × Int32 × Int32 × ZM → Option (Unit × ZM)) (N : Nat) : Int32 × Int32 × Int32 × Int32 × ZM → Option (Unit × ZM) := zlp (fun k68 a => f_Model_orders_68 rec k68 a.1 a.2.1 a.2.2.1 a.2.2.2.1 a.2.2.2.2) N
def f_Model_orders (rec : Int32 × Int32 × Int32 × ZM → Option (Unit × ZM)) (x1 : Int32) (x2 : Int32) (x3 : Int32) (σ : ZM) : Option (Unit × ZM) :=
  if x2 = x3 then (
    zbd (f_Model_spoiledBy x2 σ) fun v2 s3 => (
    if (zI s3 129 24) < 0 then (
      f_Model_orders_29 rec x2 v2 s3
    ) else (
      if v2 < (zI s3 129 24) then (
        f_Model_orders_29 rec x2 v2 s3
      ) else (
        some ((), s3)
      )
    ))
  ) else (
    F_Model_orders_68 rec 2000 (x1, x2, x3, (0 : Int32), σ)
  )
def F_Model_orders (N : Nat) : Int32 × Int32 × Int32 × ZM → Option (Unit × ZM) := zlp (fun rec a => f_Model_orders rec a.1 a.2.1 a.2.2.1 a.2.2.2) N
def f_Model_order (x1 : Int32) (x2 : Int32) (σ : ZM) : Option (Int32 × ZM) :=
  zbd (f_Model_isIn x2 (-1 : Int32) (5 : Int32) σ) fun v1 s2 => (
  if v1 = 0 then (
    some ((-1 : Int32), s2)
  ) else (
    zbd (f_Model_areLoaves x1 s2) fun v5 s6 => (
    if v5 = 0 then (
      some ((-2 : Int32), s6)
    ) else (
      zbd (f_Model_bits x1 s6) fun v9 s10 => (
      if v9 ≤ (5 : Int32) then (
        zbd (f_Model_bits x1 (zsI s10 129 24 (-1 : Int32))) fun v13 s14 => (
        zbd (F_Model_orders 8 (x1, (0 : Int32), v13, s14)) fun v16 s17 => (
        if 0 ≤ x2 then (
          zbd (f_Model_bits x1 s17) fun v20 s21 => (
          if v20 ≤ x2 then (
            some ((-5 : Int32), s21)
          ) else (
            zck (zin x2 6) (
            some (zI s21 138 x2.toNatClampNeg, s21))
          ))
        ) else (
          some (zI s17 129 24, s17)
        )))
      ) else (
        some ((-2 : Int32), s10)
      ))
    ))
  ))
def f_Model_memberOf_16 (k4 : Int32 × Int32 × Int32 × ZM → Option (Int32 × ZM)) (x0 : Int32) (x2 : Int32) (x3 : Int32) (σ : ZM) : Option (Int32 × ZM) :=
  k4 (x0, (x2 - ((x0 >>> (x3 &&& 31)) &&& (1 : Int32))), (x3 + (1 : Int32)), σ)
def f_Model_memberOf_4 (k4 : Int32 × Int32 × Int32 × ZM → Option (Int32 × ZM)) (x0 : Int32) (x2 : Int32) (x3 : Int32) (σ : ZM) : Option (Int32 × ZM) :=
  if ((x0 >>> (x3 &&& 31)) &&& (1 : Int32)) = 0 then (
    f_Model_memberOf_16 k4 x0 x2 x3 σ
  ) else (
    if x2 ≤ 0 then (
      some (x3, σ)
    ) else (
      f_Model_memberOf_16 k4 x0 x2 x3 σ
    )
  )
def F_Model_memberOf_4 (N : Nat) : Int32 × Int32 × Int32 × ZM → Option (Int32 × ZM) := zlp (fun k4 a => f_Model_memberOf_4 k4 a.1 a.2.1 a.2.2.1 a.2.2.2) N
def f_Model_memberOf (x0 : Int32) (x1 : Int32) (σ : ZM) : Option (Int32 × ZM) :=
  F_Model_memberOf_4 2000 (x0, x1, (0 : Int32), σ)
def f_Model_isWellBy_68 (k13 : Int32 × Int32 × Int32 × Int32 × Int32 × ZM → Option (Int32 × ZM)) (x1 : Int32) (x2 : Int32) (x5 : Int32) (x6 : Int32) (y0 : Int32) (σ : ZM) : Option (Int32 × ZM) :=
  k13 (x1, x2, y0, (x5 / (5 : Int32)), (x6 + (1 : Int32)), σ)
def f_Model_isWellBy_35 (k13 : Int32 × Int32 × Int32 × Int32 × Int32 × ZM → Option (Int32 × ZM)) (k35 : Int32 × Int32 × Int32 × Int32 × Int32 × ZM → Option (Int32 × ZM)) (x1 : Int32) (x2 : Int32) (x5 : Int32) (x6 : Int32) (x7 : Int32) (σ : ZM) : Option (Int32 × ZM) :=
  if x7 ≤ 0 then (
    zbd (f_Model_memberOf x1 x6 σ) fun v2 s3 => (
    zbd (f_Model_bakes v2 s3) fun v5 s6 => (
    if v5 = 0 then (
      f_Model_isWellBy_68 k13 x1 x2 x5 x6 (1 : Int32) s6
    ) else (
      f_Model_isWellBy_68 k13 x1 x2 x5 x6 (0 : Int32) s6
    )))
  ) else (
    zbd (f_Model_cools σ) fun v9 s10 => (
    k35 (x1, x2, x5, x6, (x7 + (-1 : Int32)), s10))
  )
def F_Model_isWellBy_35 (k13 : Int32 × Int32 × Int32 × Int32 × Int32 × ZM → Option (Int32 × ZM)) (N : Nat) : Int32 × Int32 × Int32 × Int32 × Int32 × ZM → Option (Int32 × ZM) := zlp (fun k35 a => f_Model_isWellBy_35 k13 k35 a.1 a.2.1 a.2.2.1 a.2.2.2.1 a.2.2.2.2.1 a.2.2.2.2.2) N
def f_Model_isWellBy_82 (x4 : Int32) (σ : ZM) : Option (Int32 × ZM) :=
  zbd (f_Model_ends σ) fun v1 s2 => (
  zck (zbl x4) (some (x4, s2)))
def f_Model_isWellBy_13 (k13 : Int32 × Int32 × Int32 × Int32 × Int32 × ZM → Option (Int32 × ZM)) (x1 : Int32) (x2 : Int32) (x4 : Int32) (x5 : Int32) (x6 : Int32) (σ : ZM) : Option (Int32 × ZM) :=
  zbd (f_Model_bits x1 σ) fun v1 s2 => (
  if v1 ≤ x6 then (
    f_Model_isWellBy_82 x4 s2
  ) else (
    if x4 = 0 then (
      f_Model_isWellBy_82 x4 s2
    ) else (
      zck (x5 != 0) (
      F_Model_isWellBy_35 k13 2000 (x1, x2, x5, x6, ((x2 / x5) - (x2 / x5) / (5 : Int32) * (5 : Int32)), s2))
    )
  ))
def F_Model_isWellBy_13 (N : Nat) : Int32 × Int32 × Int32 × Int32 × Int32 × ZM → Option (Int32 × ZM) := zlp (fun k13 a => f_Model_isWellBy_13 k13 a.1 a.2.1 a.2.2.1 a.2.2.2.1 a.2.2.2.2.1 a.2.2.2.2.2) N
def f_Model_isWellBy (x1 : Int32) (x2 : Int32) (x3 : Int32) (σ : ZM) : Option (Int32 × ZM) :=
  zbd (f_Model_begins σ) fun v1 s2 => (
  F_Model_isWellBy_13 2000 (x1, x2, (1 : Int32), x3, (0 : Int32), s2))
def f_Model_colds_136 (k64 : Int32 × Int32 × Int32 × Int32 × Int32 × Int32 × ZM → Option (Int32 × ZM)) (x1 : Int32) (x2 : Int32) (x3 : Int32) (x4 : Int32) (x5 : Int32) (x6 : Int32) (σ : ZM) : Option (Int32 × ZM) :=
  k64 (x1, x2, x3, x4, x5, (x6 + (1 : Int32)), σ)
def f_Model_colds_112 (k64 : Int32 × Int32 × Int32 × Int32 × Int32 × Int32 × ZM → Option (Int32 × ZM)) (x1 : Int32) (x2 : Int32) (x3 : Int32) (x4 : Int32) (x5 : Int32) (x6 : Int32) (x7 : Int32) (σ : ZM) : Option (Int32 × ZM) :=
  zbd (f_Model_isWellBy x1 x6 (x3 / (5 : Int32)) σ) fun v1 s2 => (
  if v1 = 0 then (
    f_Model_colds_136 k64 x1 x2 x3 x4 x5 x6 s2
  ) else (
    f_Model_colds_136 k64 x1 x2 x3 x6 x7 x6 s2
  ))
def f_Model_colds_77 (k64 : Int32 × Int32 × Int32 × Int32 × Int32 × Int32 × ZM → Option (Int32 × ZM)) (k77 : Int32 × Int32 × Int32 × Int32 × Int32 × Int32 × Int32 × Int32 × ZM → Option (Int32 × ZM)) (x1 : Int32) (x2 : Int32) (x3 : Int32) (x4 : Int32) (x5 : Int32) (x6 : Int32) (x7 : Int32) (x8 : Int32) (σ : ZM) : Option (Int32 × ZM) :=
  if x8 ≤ 0 then (
    if x4 < 0 then (
      f_Model_colds_112 k64 x1 x2 x3 x4 x5 x6 x7 σ
    ) else (
      if x5 ≤ x7 then (
        f_Model_colds_136 k64 x1 x2 x3 x4 x5 x6 σ
      ) else (
        f_Model_colds_112 k64 x1 x2 x3 x4 x5 x6 x7 σ
      )
    )
  ) else (
    k77 (x1, x2, x3, x4, x5, x6, (x7 + (x8 - x8 / (5 : Int32) * (5 : Int32))), (x8 / (5 : Int32)), σ)
  )
def F_Model_colds_77 (k64 : Int32 × Int32 × Int32 × Int32 × Int32 × Int32 × ZM → Option (Int32 × ZM)) (N : Nat) : Int32 × Int32 × Int32 × Int32 × Int32 × Int32 × Int32 × Int32 × ZM → Option (Int32 × ZM) := zlp (fun k77 a => f_Model_colds_77 k64 k77 a.1 a.2.1 a.2.2.1 a.2.2.2.1 a.2.2.2.2.1 a.2.2.2.2.2.1 a.2.2.2.2.2.2.1 a.2.2.2.2.2.2.2.1 a.2.2.2.2.2.2.2.2) N
def f_Model_colds_173 (k173 : Int32 × Int32 × Int32 × Int32 × ZM → Option (Int32 × ZM)) (x2 : Int32) (x4 : Int32) (x6 : Int32) (x7 : Int32) (σ : ZM) : Option (Int32 × ZM) :=
  if x2 ≤ x7 then (
    zck (x6 != 0) (
    some ((x4 / x6) - (x4 / x6) / (5 : Int32) * (5 : Int32), σ))
  ) else (
    k173 (x2, x4, (x6 / (5 : Int32)), (x7 + (1 : Int32)), σ)
  )
def F_Model_colds_173 (N : Nat) : Int32 × Int32 × Int32 × Int32 × ZM → Option (Int32 × ZM) := zlp (fun k173 a => f_Model_colds_173 k173 a.1 a.2.1 a.2.2.1 a.2.2.2.1 a.2.2.2.2) N
def f_Model_colds_64 (k64 : Int32 × Int32 × Int32 × Int32 × Int32 × Int32 × ZM → Option (Int32 × ZM)) (x1 : Int32) (x2 : Int32) (x3 : Int32) (x4 : Int32) (x5 : Int32) (x6 : Int32) (σ : ZM) : Option (Int32 × ZM) :=
  if x3 ≤ x6 then (
    if 0 ≤ x2 then (
      if x4 < 0 then (
        some ((-5 : Int32), σ)
      ) else (
        zbd (f_Model_bits x1 σ) fun v4 s5 => (
        if x2 < v4 then (
          F_Model_colds_173 2000 (x2, x4, (x3 / (5 : Int32)), (0 : Int32), s5)
        ) else (
          some ((-5 : Int32), s5)
        ))
      )
    ) else (
      some (x5, σ)
    )
  ) else (
    F_Model_colds_77 k64 2000 (x1, x2, x3, x4, x5, x6, (0 : Int32), x6, σ)
  )
def F_Model_colds_64 (N : Nat) : Int32 × Int32 × Int32 × Int32 × Int32 × Int32 × ZM → Option (Int32 × ZM) := zlp (fun k64 a => f_Model_colds_64 k64 a.1 a.2.1 a.2.2.1 a.2.2.2.1 a.2.2.2.2.1 a.2.2.2.2.2.1 a.2.2.2.2.2.2) N
def f_Model_colds_38 (k38 : Int32 × Int32 × Int32 × Int32 × ZM → Option (Int32 × ZM)) (x1 : Int32) (x2 : Int32) (x3 : Int32) (x4 : Int32) (σ : ZM) : Option (Int32 × ZM) :=
  if x4 ≤ 0 then (
    F_Model_colds_64 2000 (x1, x2, x3, (-5 : Int32), (-5 : Int32), (0 : Int32), σ)
  ) else (
    k38 (x1, x2, (x3 * (5 : Int32)), (x4 + (-1 : Int32)), σ)
  )
def F_Model_colds_38 (N : Nat) : Int32 × Int32 × Int32 × Int32 × ZM → Option (Int32 × ZM) := zlp (fun k38 a => f_Model_colds_38 k38 a.1 a.2.1 a.2.2.1 a.2.2.2.1 a.2.2.2.2) N
def f_Model_colds (x1 : Int32) (x2 : Int32) (σ : ZM) : Option (Int32 × ZM) :=
  zbd (f_Model_isIn x2 (-1 : Int32) (5 : Int32) σ) fun v1 s2 => (
  if v1 = 0 then (
    some ((-1 : Int32), s2)
  ) else (
    zbd (f_Model_areLoaves x1 s2) fun v5 s6 => (
    if v5 = 0 then (
      some ((-2 : Int32), s6)
    ) else (
      zbd (f_Model_bits x1 s6) fun v9 s10 => (
      if v9 ≤ (4 : Int32) then (
        zbd (f_Model_bits x1 s10) fun v13 s14 => (
        F_Model_colds_38 2000 (x1, x2, (1 : Int32), v13, s14))
      ) else (
        some ((-2 : Int32), s10)
      ))
    ))
  ))
def f_Model_takesAt_45 (k9 : Int32 × Int32 × Int32 × Int32 × ZM → Option (Int32 × ZM)) (x1 : Int32) (x2 : Int32) (x3 : Int32) (x4 : Int32) (σ : ZM) : Option (Int32 × ZM) :=
  k9 (x1, x2, x3, (x4 + (1 : Int32)), σ)
def f_Model_takesAt_51 (x1 : Int32) (σ : ZM) : Option (Int32 × ZM) :=
  zbd (f_Model_allTakes x1 σ) fun v1 s2 => (
  zbd (f_Model_ends s2) fun v4 s5 => (
  some (v1, s5)))
def f_Model_takesAt_9 (k9 : Int32 × Int32 × Int32 × Int32 × ZM → Option (Int32 × ZM)) (x1 : Int32) (x2 : Int32) (x3 : Int32) (x4 : Int32) (σ : ZM) : Option (Int32 × ZM) :=
  zck (zin (5 : Int32) 92) (
  if (zI σ 130 (5 : Int32).toNatClampNeg) ≤ x4 then (
    f_Model_takesAt_51 x1 σ
  ) else (
    if x2 ≤ x3 then (
      f_Model_takesAt_51 x1 σ
    ) else (
      if x4 = x1 then (
        f_Model_takesAt_45 k9 x1 x2 x3 x4 σ
      ) else (
        zbd (f_Model_bakes x4 σ) fun v5 s6 => (
        f_Model_takesAt_45 k9 x1 x2 (x3 + (1 : Int32)) x4 s6)
      )
    )
  ))
def F_Model_takesAt_9 (N : Nat) : Int32 × Int32 × Int32 × Int32 × ZM → Option (Int32 × ZM) := zlp (fun k9 a => f_Model_takesAt_9 k9 a.1 a.2.1 a.2.2.1 a.2.2.2.1 a.2.2.2.2) N
def f_Model_takesAt (x1 : Int32) (x2 : Int32) (σ : ZM) : Option (Int32 × ZM) :=
  zbd (f_Model_begins σ) fun v1 s2 => (
  F_Model_takesAt_9 2000 (x1, x2, (0 : Int32), (0 : Int32), s2))
def f_Model_place_69 (k32 : Int32 × Int32 × Int32 × Int32 × Int32 × ZM → Option (Int32 × ZM)) (x1 : Int32) (x2 : Int32) (x3 : Int32) (x4 : Int32) (x5 : Int32) (σ : ZM) : Option (Int32 × ZM) :=
  k32 (x1, x2, x3, x4, (x5 + (1 : Int32)), σ)
def f_Model_place_32 (k32 : Int32 × Int32 × Int32 × Int32 × Int32 × ZM → Option (Int32 × ZM)) (x1 : Int32) (x2 : Int32) (x3 : Int32) (x4 : Int32) (x5 : Int32) (σ : ZM) : Option (Int32 × ZM) :=
  zck (zin (5 : Int32) 92) (
  if (zI σ 130 (5 : Int32).toNatClampNeg) ≤ x5 then (
    if x2 = 0 then (
      some (x3, σ)
    ) else (
      some (x4, σ)
    )
  ) else (
    zbd (f_Model_takesAt x1 x5 σ) fun v4 s5 => (
    if v4 < x4 then (
      f_Model_place_69 k32 x1 x2 x5 v4 x5 s5
    ) else (
      f_Model_place_69 k32 x1 x2 x3 x4 x5 s5
    ))
  ))
def F_Model_place_32 (N : Nat) : Int32 × Int32 × Int32 × Int32 × Int32 × ZM → Option (Int32 × ZM) := zlp (fun k32 a => f_Model_place_32 k32 a.1 a.2.1 a.2.2.1 a.2.2.2.1 a.2.2.2.2.1 a.2.2.2.2.2) N
def f_Model_place (x1 : Int32) (x2 : Int32) (σ : ZM) : Option (Int32 × ZM) :=
  zbd (f_Model_isLoaf x1 σ) fun v1 s2 => (
  if v1 = 0 then (
    some ((-1 : Int32), s2)
  ) else (
    zbd (f_Model_isIn x2 (0 : Int32) (1 : Int32) s2) fun v5 s6 => (
    if v5 = 0 then (
      some ((-1 : Int32), s6)
    ) else (
      zbd (f_Model_takesAt x1 (0 : Int32) s6) fun v9 s10 => (
      F_Model_place_32 2000 (x1, x2, (0 : Int32), v9, (1 : Int32), s10))
    ))
  ))
def f_Model_isSpoiledBehind_29 (k6 : Int32 × Int32 × Int32 × ZM → Option (Int32 × ZM)) (x1 : Int32) (x2 : Int32) (x3 : Int32) (y0 : Int32) (σ : ZM) : Option (Int32 × ZM) :=
  k6 (x1, x2, (x3 + (1 : Int32)), σ)
def f_Model_isSpoiledBehind_28 (k6 : Int32 × Int32 × Int32 × ZM → Option (Int32 × ZM)) (x1 : Int32) (x2 : Int32) (x3 : Int32) (σ : ZM) : Option (Int32 × ZM) :=
  f_Model_isSpoiledBehind_29 k6 x1 x2 x3 (0 : Int32) σ
def f_Model_isSpoiledBehind_6 (k6 : Int32 × Int32 × Int32 × ZM → Option (Int32 × ZM)) (x1 : Int32) (x2 : Int32) (x3 : Int32) (σ : ZM) : Option (Int32 × ZM) :=
  if x1 ≤ x3 then (
    zbd (f_Model_isSpoiled x1 σ) fun v2 s3 => (
    zbd (f_Model_ends s3) fun v5 s6 => (
    zck (zbl v2) (some (v2, s6))))
  ) else (
    if x3 = x2 then (
      f_Model_isSpoiledBehind_28 k6 x1 x2 x3 σ
    ) else (
      zbd (f_Model_bakes x3 σ) fun v10 s11 => (
      if v10 = 0 then (
        f_Model_isSpoiledBehind_28 k6 x1 x2 x3 s11
      ) else (
        f_Model_isSpoiledBehind_29 k6 x1 x2 x3 (1 : Int32) s11
      ))
    )
  )
def F_Model_isSpoiledBehind_6 (N : Nat) : Int32 × Int32 × Int32 × ZM → Option (Int32 × ZM) := zlp (fun k6 a => f_Model_isSpoiledBehind_6 k6 a.1 a.2.1 a.2.2.1 a.2.2.2) N
def f_Model_isSpoiledBehind (x1 : Int32) (x2 : Int32) (σ : ZM) : Option (Int32 × ZM) :=
  zbd (f_Model_begins σ) fun v1 s2 => (
  F_Model_isSpoiledBehind_6 2000 (x1, x2, (0 : Int32), s2))
def f_Model_guilty_47 (k25 : Int32 × Int32 × Int32 × ZM → Option (Int32 × ZM)) (x1 : Int32) (x3 : Int32) (y0 : Int32) (y1 : Int32) (σ : ZM) : Option (Int32 × ZM) :=
  k25 (x1, (y1 ||| y0), (x3 + (1 : Int32)), σ)
def f_Model_guilty_25 (k25 : Int32 × Int32 × Int32 × ZM → Option (Int32 × ZM)) (x1 : Int32) (x2 : Int32) (x3 : Int32) (σ : ZM) : Option (Int32 × ZM) :=
  if x1 ≤ x3 then (
    some (x2, σ)
  ) else (
    zbd (f_Model_isSpoiledBehind x1 x3 σ) fun v2 s3 => (
    if v2 = 0 then (
      f_Model_guilty_47 k25 x1 x3 ((1 : Int32) <<< (x3 &&& 31)) x2 s3
    ) else (
      f_Model_guilty_47 k25 x1 x3 (0 : Int32) x2 s3
    ))
  )
def F_Model_guilty_25 (N : Nat) : Int32 × Int32 × Int32 × ZM → Option (Int32 × ZM) := zlp (fun k25 a => f_Model_guilty_25 k25 a.1 a.2.1 a.2.2.1 a.2.2.2) N
def f_Model_guilty (x1 : Int32) (σ : ZM) : Option (Int32 × ZM) :=
  zbd (f_Model_isLoaf x1 σ) fun v1 s2 => (
  if v1 = 0 then (
    some ((-1 : Int32), s2)
  ) else (
    zbd (f_Model_isSpoiledBehind x1 (-1 : Int32) s2) fun v5 s6 => (
    if v5 = 0 then (
      some ((0 : Int32), s6)
    ) else (
      F_Model_guilty_25 2000 (x1, (0 : Int32), (0 : Int32), s6)
    ))
  ))
def f_Model_spoiledIn_35 (k4 : Int32 × Int32 × Int32 × ZM → Option (Int32 × ZM)) (x1 : Int32) (x2 : Int32) (x3 : Int32) (σ : ZM) : Option (Int32 × ZM) :=
  k4 (x1, x2, (x3 + (1 : Int32)), σ)
def f_Model_spoiledIn_4 (k4 : Int32 × Int32 × Int32 × ZM → Option (Int32 × ZM)) (x1 : Int32) (x2 : Int32) (x3 : Int32) (σ : ZM) : Option (Int32 × ZM) :=
  zck (zin (5 : Int32) 92) (
  if (zI σ 130 (5 : Int32).toNatClampNeg) ≤ x3 then (
    zbd (f_Model_spoiledBy x2 σ) fun v3 s4 => (
    some (v3, s4))
  ) else (
    if ((x1 >>> (x3 &&& 31)) &&& (1 : Int32)) = 0 then (
      f_Model_spoiledIn_35 k4 x1 x2 x3 σ
    ) else (
      zck (zin x2 6) (
      f_Model_spoiledIn_35 k4 x1 (x2 + (1 : Int32)) x3 (zsI σ 137 x2.toNatClampNeg x3))
    )
  ))
def F_Model_spoiledIn_4 (N : Nat) : Int32 × Int32 × Int32 × ZM → Option (Int32 × ZM) := zlp (fun k4 a => f_Model_spoiledIn_4 k4 a.1 a.2.1 a.2.2.1 a.2.2.2) N
def f_Model_spoiledIn (x1 : Int32) (σ : ZM) : Option (Int32 × ZM) :=
  F_Model_spoiledIn_4 2000 (x1, (0 : Int32), (0 : Int32), σ)
def f_Model_two_77 (k30 : Int32 × Int32 × Int32 × Int32 × Int32 × ZM → Option (Int32 × ZM)) (x1 : Int32) (x2 : Int32) (x3 : Int32) (x4 : Int32) (x5 : Int32) (σ : ZM) : Option (Int32 × ZM) :=
  k30 (x1, x2, x3, x4, (x5 + (1 : Int32)), σ)
def f_Model_two_70 (k30 : Int32 × Int32 × Int32 × Int32 × Int32 × ZM → Option (Int32 × ZM)) (x1 : Int32) (x2 : Int32) (x5 : Int32) (x6 : Int32) (σ : ZM) : Option (Int32 × ZM) :=
  f_Model_two_77 k30 x1 x2 x5 x6 x5 σ
def f_Model_two_30 (k30 : Int32 × Int32 × Int32 × Int32 × Int32 × ZM → Option (Int32 × ZM)) (x1 : Int32) (x2 : Int32) (x3 : Int32) (x4 : Int32) (x5 : Int32) (σ : ZM) : Option (Int32 × ZM) :=
  if x2 < x5 then (
    if x1 = 0 then (
      some (x4, σ)
    ) else (
      some (x3, σ)
    )
  ) else (
    zbd (f_Model_spoiledIn x5 σ) fun v3 s4 => (
    zbd (f_Model_spoiledIn (x2 &&& (x5 ^^^ (-1 : Int32))) s4) fun v6 s7 => (
    if x4 < 0 then (
      f_Model_two_70 k30 x1 x2 x5 (v3 + v6) s7
    ) else (
      if (v3 + v6) < x4 then (
        f_Model_two_70 k30 x1 x2 x5 (v3 + v6) s7
      ) else (
        f_Model_two_77 k30 x1 x2 x3 x4 x5 s7
      )
    )))
  )
def F_Model_two_30 (N : Nat) : Int32 × Int32 × Int32 × Int32 × Int32 × ZM → Option (Int32 × ZM) := zlp (fun k30 a => f_Model_two_30 k30 a.1 a.2.1 a.2.2.1 a.2.2.2.1 a.2.2.2.2.1 a.2.2.2.2.2) N
def f_Model_two (x1 : Int32) (σ : ZM) : Option (Int32 × ZM) :=
  zbd (f_Model_isIn x1 (0 : Int32) (1 : Int32) σ) fun v1 s2 => (
  if v1 = 0 then (
    some ((-1 : Int32), s2)
  ) else (
    zck (zin (5 : Int32) 92) (
    F_Model_two_30 2000 (x1, (((1 : Int32) <<< ((zI s2 130 (5 : Int32).toNatClampNeg) &&& 31)) - (1 : Int32)), (0 : Int32), (-1 : Int32), (0 : Int32), s2))
  ))
def f_Model_takesBehind (x1 : Int32) (x2 : Int32) (σ : ZM) : Option (Int32 × ZM) :=
  zbd (f_Model_begins σ) fun v1 s2 => (
  zbd (f_Model_bakes x2 s2) fun v4 s5 => (
  zbd (f_Model_allTakes x1 s5) fun v7 s8 => (
  zbd (f_Model_ends s8) fun v10 s11 => (
  some (v7, s11)))))
def f_Model_has_100 (k15 : Int32 × Int32 × Int32 × ZM → Option (Int32 × ZM)) (x1 : Int32) (x3 : Int32) (y0 : Int32) (y1 : Int32) (σ : ZM) : Option (Int32 × ZM) :=
  k15 (x1, (y1 + y0), (x3 + (1 : Int32)), σ)
def f_Model_has_73 (k15 : Int32 × Int32 × Int32 × ZM → Option (Int32 × ZM)) (x1 : Int32) (x2 : Int32) (x3 : Int32) (y0 : Int32) (σ : ZM) : Option (Int32 × ZM) :=
  if x1 = x3 then (
    f_Model_has_100 k15 x1 x3 y0 x2 σ
  ) else (
    if x1 = (x3 + (1 : Int32)) then (
      f_Model_has_100 k15 x1 x3 (-y0) x2 σ
    ) else (
      f_Model_has_100 k15 x1 x3 (0 : Int32) x2 σ
    )
  )
def f_Model_has_50 (k15 : Int32 × Int32 × Int32 × ZM → Option (Int32 × ZM)) (x1 : Int32) (x2 : Int32) (x3 : Int32) (y0 : Int32) (σ : ZM) : Option (Int32 × ZM) :=
  if y0 = 0 then (
    zbd (f_Model_feeOf (x3 + (1 : Int32)) σ) fun v2 s3 => (
    f_Model_has_73 k15 x1 x2 x3 (-v2) s3)
  ) else (
    zbd (f_Model_feeOf x3 σ) fun v5 s6 => (
    f_Model_has_73 k15 x1 x2 x3 v5 s6)
  )
def f_Model_has_15 (k15 : Int32 × Int32 × Int32 × ZM → Option (Int32 × ZM)) (x1 : Int32) (x2 : Int32) (x3 : Int32) (σ : ZM) : Option (Int32 × ZM) :=
  zck (zin (5 : Int32) 92) (
  if (zI σ 130 (5 : Int32).toNatClampNeg) ≤ (x3 + (1 : Int32)) then (
    some (x2, σ)
  ) else (
    zbd (f_Model_takesBehind (x3 + (1 : Int32)) x3 σ) fun v3 s4 => (
    zbd (f_Model_allTakes (x3 + (1 : Int32)) s4) fun v6 s7 => (
    if v6 ≤ v3 then (
      f_Model_has_50 k15 x1 x2 x3 (0 : Int32) s7
    ) else (
      f_Model_has_50 k15 x1 x2 x3 (1 : Int32) s7
    )))
  ))
def F_Model_has_15 (N : Nat) : Int32 × Int32 × Int32 × ZM → Option (Int32 × ZM) := zlp (fun k15 a => f_Model_has_15 k15 a.1 a.2.1 a.2.2.1 a.2.2.2) N
def f_Model_has (x1 : Int32) (σ : ZM) : Option (Int32 × ZM) :=
  zbd (f_Model_isLoaf x1 σ) fun v1 s2 => (
  if v1 = 0 then (
    some ((-100001 : Int32), s2)
  ) else (
    F_Model_has_15 2000 (x1, (0 : Int32), (0 : Int32), s2)
  ))
def f_Model_takesInRow_71 (k9 : Int32 × Int32 × Int32 × Int32 × ZM → Option (Int32 × ZM)) (x1 : Int32) (x2 : Int32) (x4 : Int32) (x5 : Int32) (y0 : Int32) (σ : ZM) : Option (Int32 × ZM) :=
  zbd (f_Model_bakes x5 σ) fun v1 s2 => (
  k9 (x1, x2, y0, (x4 + (1 : Int32)), s2))
def f_Model_takesInRow_54 (k9 : Int32 × Int32 × Int32 × Int32 × ZM → Option (Int32 × ZM)) (x1 : Int32) (x2 : Int32) (x3 : Int32) (x4 : Int32) (y0 : Int32) (σ : ZM) : Option (Int32 × ZM) :=
  if y0 = x1 then (
    zbd (f_Model_allTakes x1 σ) fun v2 s3 => (
    f_Model_takesInRow_71 k9 x1 x2 x4 y0 v2 s3)
  ) else (
    f_Model_takesInRow_71 k9 x1 x2 x4 y0 x3 σ
  )
def f_Model_takesInRow_52 (k9 : Int32 × Int32 × Int32 × Int32 × ZM → Option (Int32 × ZM)) (x1 : Int32) (x2 : Int32) (x3 : Int32) (x4 : Int32) (σ : ZM) : Option (Int32 × ZM) :=
  f_Model_takesInRow_54 k9 x1 x2 x3 x4 x4 σ
def f_Model_takesInRow_9 (k9 : Int32 × Int32 × Int32 × Int32 × ZM → Option (Int32 × ZM)) (x1 : Int32) (x2 : Int32) (x3 : Int32) (x4 : Int32) (σ : ZM) : Option (Int32 × ZM) :=
  zck (zin (5 : Int32) 92) (
  if (zI σ 130 (5 : Int32).toNatClampNeg) ≤ x4 then (
    zbd (f_Model_ends σ) fun v3 s4 => (
    some (x3, s4))
  ) else (
    if x4 = x2 then (
      f_Model_takesInRow_54 k9 x1 x2 x3 x4 (x4 + (1 : Int32)) σ
    ) else (
      if x4 = (x2 + (1 : Int32)) then (
        if x2 < 0 then (
          f_Model_takesInRow_52 k9 x1 x2 x3 x4 σ
        ) else (
          f_Model_takesInRow_54 k9 x1 x2 x3 x4 (x4 - (1 : Int32)) σ
        )
      ) else (
        f_Model_takesInRow_52 k9 x1 x2 x3 x4 σ
      )
    )
  ))
def F_Model_takesInRow_9 (N : Nat) : Int32 × Int32 × Int32 × Int32 × ZM → Option (Int32 × ZM) := zlp (fun k9 a => f_Model_takesInRow_9 k9 a.1 a.2.1 a.2.2.1 a.2.2.2.1 a.2.2.2.2) N
def f_Model_takesInRow (x1 : Int32) (x2 : Int32) (σ : ZM) : Option (Int32 × ZM) :=
  zbd (f_Model_begins σ) fun v1 s2 => (
  F_Model_takesInRow_9 2000 (x1, x2, (0 : Int32), (0 : Int32), s2))
def f_Model_swaps (x1 : Int32) (σ : ZM) : Option (Int32 × ZM) :=
  zbd (f_Model_isLoaf x1 σ) fun v1 s2 => (
  if v1 = 0 then (
    some ((-1 : Int32), s2)
  ) else (
    zbd (f_Model_isLoaf (x1 + (1 : Int32)) s2) fun v5 s6 => (
    if v5 = 0 then (
      some ((-1 : Int32), s6)
    ) else (
      zbd (f_Model_takesInRow x1 (-5 : Int32) s6) fun v9 s10 => (
      zbd (f_Model_takesInRow (x1 + (1 : Int32)) (-5 : Int32) s10) fun v12 s13 => (
      zbd (f_Model_takesInRow x1 x1 s13) fun v15 s16 => (
      zbd (f_Model_takesInRow (x1 + (1 : Int32)) x1 s16) fun v18 s19 => (
      if v9 < v15 then (
        some ((0 : Int32), s19)
      ) else (
        if v12 < v18 then (
          some ((0 : Int32), s19)
        ) else (
          if (v9 + v12) ≤ (v15 + v18) then (
            some ((0 : Int32), s19)
          ) else (
            some ((1 : Int32), s19)
          )
        )
      )))))
    ))
  ))
def f_Model_span_150 (k60 : Int32 × Int32 × Int32 × Int32 × Int32 × Int32 × Int32 × Int32 × ZM → Option (Int32 × ZM)) (k90 : Int32 × Int32 × Int32 × Int32 × Int32 × Int32 × Int32 × Int32 × Int32 × Int32 × ZM → Option (Int32 × ZM)) (x1 : Int32) (x2 : Int32) (x3 : Int32) (x4 : Int32) (x5 : Int32) (x6 : Int32) (x7 : Int32) (x8 : Int32) (x9 : Int32) (x10 : Int32) (σ : ZM) : Option (Int32 × ZM) :=
  k90 (x1, x2, x3, x4, x5, x6, x7, x8, x9, (x10 + (1 : Int32)), σ)
def f_Model_span_138 (k60 : Int32 × Int32 × Int32 × Int32 × Int32 × Int32 × Int32 × Int32 × ZM → Option (Int32 × ZM)) (k90 : Int32 × Int32 × Int32 × Int32 × Int32 × Int32 × Int32 × Int32 × Int32 × Int32 × ZM → Option (Int32 × ZM)) (x1 : Int32) (x2 : Int32) (x3 : Int32) (x4 : Int32) (x7 : Int32) (x8 : Int32) (x9 : Int32) (x10 : Int32) (y0 : Int32) (σ : ZM) : Option (Int32 × ZM) :=
  f_Model_span_150 k60 k90 x1 x2 x3 x4 y0 (((10 : Int32) * x8) + x10) x7 x8 x9 x10 σ
def f_Model_span_90 (k60 : Int32 × Int32 × Int32 × Int32 × Int32 × Int32 × Int32 × Int32 × ZM → Option (Int32 × ZM)) (k90 : Int32 × Int32 × Int32 × Int32 × Int32 × Int32 × Int32 × Int32 × Int32 × Int32 × ZM → Option (Int32 × ZM)) (x1 : Int32) (x2 : Int32) (x3 : Int32) (x4 : Int32) (x5 : Int32) (x6 : Int32) (x7 : Int32) (x8 : Int32) (x9 : Int32) (x10 : Int32) (σ : ZM) : Option (Int32 × ZM) :=
  if (10 : Int32) ≤ x10 then (
    k60 (x1, x2, x3, x4, x5, x6, x7, (x8 + (1 : Int32)), σ)
  ) else (
    zbd (f_Model_takesBy x1 x2 x9 (((10 : Int32) * x8) + x10) σ) fun v2 s3 => (
    if v2 = x3 then (
      if 0 ≤ x5 then (
        f_Model_span_138 k60 k90 x1 x2 x3 x4 x7 x8 x9 x10 x5 s3
      ) else (
        f_Model_span_138 k60 k90 x1 x2 x3 x4 x7 x8 x9 x10 (((10 : Int32) * x8) + x10) s3
      )
    ) else (
      f_Model_span_150 k60 k90 x1 x2 x3 x4 x5 x6 x7 x8 x9 x10 s3
    ))
  )
def F_Model_span_90 (k60 : Int32 × Int32 × Int32 × Int32 × Int32 × Int32 × Int32 × Int32 × ZM → Option (Int32 × ZM)) (N : Nat) : Int32 × Int32 × Int32 × Int32 × Int32 × Int32 × Int32 × Int32 × Int32 × Int32 × ZM → Option (Int32 × ZM) := zlp (fun k90 a => f_Model_span_90 k60 k90 a.1 a.2.1 a.2.2.1 a.2.2.2.1 a.2.2.2.2.1 a.2.2.2.2.2.1 a.2.2.2.2.2.2.1 a.2.2.2.2.2.2.2.1 a.2.2.2.2.2.2.2.2.1 a.2.2.2.2.2.2.2.2.2.1 a.2.2.2.2.2.2.2.2.2.2) N
def f_Model_span_60 (k60 : Int32 × Int32 × Int32 × Int32 × Int32 × Int32 × Int32 × Int32 × ZM → Option (Int32 × ZM)) (x1 : Int32) (x2 : Int32) (x3 : Int32) (x4 : Int32) (x5 : Int32) (x6 : Int32) (x7 : Int32) (x8 : Int32) (σ : ZM) : Option (Int32 × ZM) :=
  if (999 : Int32) < x8 then (
    zck (zin x2 92) (
    if x4 = 0 then (
      some (x5, (zsI σ 130 x2.toNatClampNeg x7))
    ) else (
      some (x6, (zsI σ 130 x2.toNatClampNeg x7))
    ))
  ) else (
    zck (zin x2 92) (
    zbd (f_Model_partOf x1 x2 (zsI σ 130 x2.toNatClampNeg ((10 : Int32) * x8))) fun v5 s6 => (
    F_Model_span_90 k60 2000 (x1, x2, x3, x4, x5, x6, x7, x8, v5, (0 : Int32), s6)))
  )
def F_Model_span_60 (N : Nat) : Int32 × Int32 × Int32 × Int32 × Int32 × Int32 × Int32 × Int32 × ZM → Option (Int32 × ZM) := zlp (fun k60 a => f_Model_span_60 k60 a.1 a.2.1 a.2.2.1 a.2.2.2.1 a.2.2.2.2.1 a.2.2.2.2.2.1 a.2.2.2.2.2.2.1 a.2.2.2.2.2.2.2.1 a.2.2.2.2.2.2.2.2) N
def f_Model_span (x1 : Int32) (x2 : Int32) (x3 : Int32) (x4 : Int32) (σ : ZM) : Option (Int32 × ZM) :=
  zbd (f_Model_isLoaf x1 σ) fun v1 s2 => (
  if v1 = 0 then (
    some ((-1 : Int32), s2)
  ) else (
    zbd (f_Model_isTaste x2 s2) fun v5 s6 => (
    if v5 = 0 then (
      some ((-1 : Int32), s6)
    ) else (
      zbd (f_Model_isIn x4 (0 : Int32) (1 : Int32) s6) fun v9 s10 => (
      if v9 = 0 then (
        some ((-1 : Int32), s10)
      ) else (
        zbd (f_Model_isIn x3 (0 : Int32) (9999 : Int32) s10) fun v13 s14 => (
        if v13 = 0 then (
          some ((-2 : Int32), s14)
        ) else (
          zck (zin x2 92) (
          F_Model_span_60 2000 (x1, x2, x3, x4, (-5 : Int32), (-5 : Int32), (zI s14 130 x2.toNatClampNeg), (0 : Int32), s14))
        ))
      ))
    ))
  ))
def f_Model_year_32  (σ : ZM) : Option (Int32 × ZM) :=
  some ((-100002 : Int32), σ)
def f_Model_year_115 (k62 : Int32 × Int32 × Int32 × Int32 × Int32 × Int32 × ZM → Option (Int32 × ZM)) (x1 : Int32) (x2 : Int32) (x3 : Int32) (x4 : Int32) (x5 : Int32) (x6 : Int32) (σ : ZM) : Option (Int32 × ZM) :=
  k62 (x1, x2, x3, x4, x5, (x6 + (1 : Int32)), σ)
def f_Model_year_109 (k62 : Int32 × Int32 × Int32 × Int32 × Int32 × Int32 × ZM → Option (Int32 × ZM)) (x1 : Int32) (x2 : Int32) (x3 : Int32) (x4 : Int32) (x6 : Int32) (y0 : Int32) (y1 : Int32) (σ : ZM) : Option (Int32 × ZM) :=
  f_Model_year_115 k62 x1 x2 x3 (x4 + (1 : Int32)) (y1 + y0) x6 σ
def f_Model_year_137 (y0 : Int32) (σ : ZM) : Option (Int32 × ZM) :=
  zbd (f_Model_ends σ) fun v1 s2 => (
  some (y0, s2))
def f_Model_year_62 (k62 : Int32 × Int32 × Int32 × Int32 × Int32 × Int32 × ZM → Option (Int32 × ZM)) (x1 : Int32) (x2 : Int32) (x3 : Int32) (x4 : Int32) (x5 : Int32) (x6 : Int32) (σ : ZM) : Option (Int32 × ZM) :=
  if x1 ≤ x6 then (
    if x3 = (4 : Int32) then (
      f_Model_year_137 x5 σ
    ) else (
      zck (zin x3 92) (
      f_Model_year_137 (zI σ 130 x3.toNatClampNeg) σ)
    )
  ) else (
    zck (zin (4 : Int32) 92) (
    zck (x2 != 0) (
    if ((zI σ 130 (4 : Int32).toNatClampNeg) - (zI σ 130 (4 : Int32).toNatClampNeg) / x2 * x2) = 0 then (
      zbd (f_Model_cools σ) fun v13 s14 => (
      f_Model_year_115 k62 x1 x2 x3 x4 x5 x6 s14)
    ) else (
      zck (zin (5 : Int32) 92) (
      zck ((zI σ 130 (5 : Int32).toNatClampNeg) != 0) (
      zbd (f_Model_bakes (x4 - x4 / (zI σ 130 (5 : Int32).toNatClampNeg) * (zI σ 130 (5 : Int32).toNatClampNeg)) σ) fun v9 s10 => (
      if v9 = 0 then (
        f_Model_year_109 k62 x1 x2 x3 x4 x6 (0 : Int32) x5 s10
      ) else (
        f_Model_year_109 k62 x1 x2 x3 x4 x6 (1 : Int32) x5 s10
      ))))
    )))
  )
def F_Model_year_62 (N : Nat) : Int32 × Int32 × Int32 × Int32 × Int32 × Int32 × ZM → Option (Int32 × ZM) := zlp (fun k62 a => f_Model_year_62 k62 a.1 a.2.1 a.2.2.1 a.2.2.2.1 a.2.2.2.2.1 a.2.2.2.2.2.1 a.2.2.2.2.2.2) N
def f_Model_year (x1 : Int32) (x2 : Int32) (x3 : Int32) (σ : ZM) : Option (Int32 × ZM) :=
  zbd (f_Model_isIn x3 (0 : Int32) (4 : Int32) σ) fun v1 s2 => (
  if v1 = 0 then (
    some ((-100001 : Int32), s2)
  ) else (
    zbd (f_Model_isIn x1 (0 : Int32) (60 : Int32) s2) fun v5 s6 => (
    if v5 = 0 then (
      f_Model_year_32 s6
    ) else (
      zbd (f_Model_isIn x2 (2 : Int32) (30 : Int32) s6) fun v9 s10 => (
      if v9 = 0 then (
        f_Model_year_32 s10
      ) else (
        zck (zin (5 : Int32) 92) (
        if (zI s10 130 (5 : Int32).toNatClampNeg) = 0 then (
          some ((-100003 : Int32), s10)
        ) else (
          zbd (f_Model_begins s10) fun v15 s16 => (
          F_Model_year_62 2000 (x1, x2, x3, (0 : Int32), (0 : Int32), (0 : Int32), s16))
        ))
      ))
    ))
  ))
def f_Model_common (rec : Int32 × Int32 × ZM → Option (Int32 × ZM)) (x0 : Int32) (x1 : Int32) (σ : ZM) : Option (Int32 × ZM) :=
  if x1 = 0 then (
    some (x0, σ)
  ) else (
    zck (x1 != 0) (
    zbd (rec (x1, (x0 - x0 / x1 * x1), σ)) fun v3 s4 => (
    some (v3, s4)))
  )
def F_Model_common (N : Nat) : Int32 × Int32 × ZM → Option (Int32 × ZM) := zlp (fun rec a => f_Model_common rec a.1 a.2.1 a.2.2) N
def f_Model_lowest (x0 : Int32) (x1 : Int32) (x2 : Int32) (σ : ZM) : Option (Int64 × ZM) :=
  zbd (F_Model_common 20 (x1, x0, σ)) fun v1 s2 => (
  if x2 = 0 then (
    zck (v1 != 0) (
    some ((x0 / v1).toInt64, s2))
  ) else (
    zck (v1 != 0) (
    some ((x1 / v1).toInt64, s2))
  ))
def f_Model_odds_27  (σ : ZM) : Option (Int64 × ZM) :=
  some ((-9223372036854775808 : Int64), σ)
def f_Model_odds_88 (k36 : Int32 × Int32 × Int32 × Int32 × ZM → Option (Int64 × ZM)) (x1 : Int32) (x2 : Int32) (x3 : Int32) (x4 : Int32) (σ : ZM) : Option (Int64 × ZM) :=
  k36 (x1, x2, x3, (x4 + (1 : Int32)), σ)
def f_Model_odds_82 (k36 : Int32 × Int32 × Int32 × Int32 × ZM → Option (Int64 × ZM)) (x1 : Int32) (x2 : Int32) (x4 : Int32) (y0 : Int32) (y1 : Int32) (σ : ZM) : Option (Int64 × ZM) :=
  zbd (f_Model_ends σ) fun v1 s2 => (
  f_Model_odds_88 k36 x1 x2 (y1 + y0) x4 s2)
def f_Model_odds_36 (k36 : Int32 × Int32 × Int32 × Int32 × ZM → Option (Int64 × ZM)) (x1 : Int32) (x2 : Int32) (x3 : Int32) (x4 : Int32) (σ : ZM) : Option (Int64 × ZM) :=
  zck (zin (5 : Int32) 92) (
  if (zI σ 130 (5 : Int32).toNatClampNeg) ≤ x4 then (
    zck (zin (5 : Int32) 92) (
    zbd (f_Model_lowest x3 ((zI σ 130 (5 : Int32).toNatClampNeg) - (1 : Int32)) x2 σ) fun v4 s5 => (
    some (v4, s5)))
  ) else (
    if x4 = x1 then (
      f_Model_odds_88 k36 x1 x2 x3 x4 σ
    ) else (
      zbd (f_Model_begins σ) fun v8 s9 => (
      zbd (f_Model_bakes x4 s9) fun v11 s12 => (
      zbd (f_Model_isSpoiled x1 s12) fun v14 s15 => (
      if v14 = 0 then (
        f_Model_odds_82 k36 x1 x2 x4 (0 : Int32) x3 s15
      ) else (
        f_Model_odds_82 k36 x1 x2 x4 (1 : Int32) x3 s15
      ))))
    )
  ))
def F_Model_odds_36 (N : Nat) : Int32 × Int32 × Int32 × Int32 × ZM → Option (Int64 × ZM) := zlp (fun k36 a => f_Model_odds_36 k36 a.1 a.2.1 a.2.2.1 a.2.2.2.1 a.2.2.2.2) N
def f_Model_odds (x1 : Int32) (x2 : Int32) (σ : ZM) : Option (Int64 × ZM) :=
  zbd (f_Model_isLoaf x1 σ) fun v1 s2 => (
  if v1 = 0 then (
    f_Model_odds_27 s2
  ) else (
    zbd (f_Model_isIn x2 (0 : Int32) (1 : Int32) s2) fun v5 s6 => (
    if v5 = 0 then (
      f_Model_odds_27 s6
    ) else (
      zck (zin (5 : Int32) 92) (
      if (zI s6 130 (5 : Int32).toNatClampNeg) = (1 : Int32) then (
        f_Model_odds_27 s6
      ) else (
        F_Model_odds_36 2000 (x1, x2, (0 : Int32), (0 : Int32), s6)
      ))
    ))
  ))
def f_Model_mean_25  (σ : ZM) : Option (Int64 × ZM) :=
  some ((-9223372036854775808 : Int64), σ)
def f_Model_mean_34 (k34 : Int32 × Int32 × Int32 × Int32 × ZM → Option (Int64 × ZM)) (x1 : Int32) (x2 : Int32) (x3 : Int32) (x4 : Int32) (σ : ZM) : Option (Int64 × ZM) :=
  zck (zin (5 : Int32) 92) (
  if (zI σ 130 (5 : Int32).toNatClampNeg) ≤ x4 then (
    zck (zin (5 : Int32) 92) (
    zbd (f_Model_lowest x3 (zI σ 130 (5 : Int32).toNatClampNeg) x2 σ) fun v4 s5 => (
    some (v4, s5)))
  ) else (
    zbd (f_Model_takesOf x4 x1 σ) fun v7 s8 => (
    k34 (x1, x2, (x3 + v7), (x4 + (1 : Int32)), s8))
  ))
def F_Model_mean_34 (N : Nat) : Int32 × Int32 × Int32 × Int32 × ZM → Option (Int64 × ZM) := zlp (fun k34 a => f_Model_mean_34 k34 a.1 a.2.1 a.2.2.1 a.2.2.2.1 a.2.2.2.2) N
def f_Model_mean (x1 : Int32) (x2 : Int32) (σ : ZM) : Option (Int64 × ZM) :=
  zbd (f_Model_isTaste x1 σ) fun v1 s2 => (
  if v1 = 0 then (
    f_Model_mean_25 s2
  ) else (
    zbd (f_Model_isIn x2 (0 : Int32) (1 : Int32) s2) fun v5 s6 => (
    if v5 = 0 then (
      f_Model_mean_25 s6
    ) else (
      zck (zin (5 : Int32) 92) (
      if (zI s6 130 (5 : Int32).toNatClampNeg) = 0 then (
        f_Model_mean_25 s6
      ) else (
        F_Model_mean_34 2000 (x1, x2, (0 : Int32), (0 : Int32), s6)
      ))
    ))
  ))
def f_Model_book_91 (y0 : Int32) (y1 : Int32) (σ : ZM) : Option (Int32 × ZM) :=
  zck (zin y1 92) (
  zck (zin (7 : Int32) 92) (
  zck (zin (7 : Int32) 92) (
  zck (zin (7 : Int32) 92) (
  some (zI (zsI (zsI σ 130 y1.toNatClampNeg y0) 130 (7 : Int32).toNatClampNeg ((zI (zsI σ 130 y1.toNatClampNeg y0) 130 (7 : Int32).toNatClampNeg) + (1 : Int32))) 130 (7 : Int32).toNatClampNeg, (zsI (zsI σ 130 y1.toNatClampNeg y0) 130 (7 : Int32).toNatClampNeg ((zI (zsI σ 130 y1.toNatClampNeg y0) 130 (7 : Int32).toNatClampNeg) + (1 : Int32))))))))
def f_Model_book_31 (x1 : Int32) (x2 : Int32) (σ : ZM) : Option (Int32 × ZM) :=
  zck (zin (7 : Int32) 92) (
  if (zI σ 130 (7 : Int32).toNatClampNeg) = (12 : Int32) then (
    some ((-4 : Int32), σ)
  ) else (
    zck (zin (7 : Int32) 92) (
    zck (zin ((68 : Int32) + ((2 : Int32) * (zI σ 130 (7 : Int32).toNatClampNeg))) 92) (
    zck (zin (7 : Int32) 92) (
    if x2 = 0 then (
      f_Model_book_91 (0 : Int32) (((68 : Int32) + ((2 : Int32) * (zI (zsI σ 130 ((68 : Int32) + ((2 : Int32) * (zI σ 130 (7 : Int32).toNatClampNeg))).toNatClampNeg x1) 130 (7 : Int32).toNatClampNeg))) + (1 : Int32)) (zsI σ 130 ((68 : Int32) + ((2 : Int32) * (zI σ 130 (7 : Int32).toNatClampNeg))).toNatClampNeg x1)
    ) else (
      f_Model_book_91 (1 : Int32) (((68 : Int32) + ((2 : Int32) * (zI (zsI σ 130 ((68 : Int32) + ((2 : Int32) * (zI σ 130 (7 : Int32).toNatClampNeg))).toNatClampNeg x1) 130 (7 : Int32).toNatClampNeg))) + (1 : Int32)) (zsI σ 130 ((68 : Int32) + ((2 : Int32) * (zI σ 130 (7 : Int32).toNatClampNeg))).toNatClampNeg x1)
    ))))
  ))
def f_Model_book (x1 : Int32) (x2 : Int32) (σ : ZM) : Option (Int32 × ZM) :=
  if x1 = (-1 : Int32) then (
    zck (zin (7 : Int32) 92) (
    some ((0 : Int32), (zsI σ 130 (7 : Int32).toNatClampNeg (0 : Int32))))
  ) else (
    if x1 = (-2 : Int32) then (
      f_Model_book_31 x1 x2 σ
    ) else (
      zbd (f_Model_isLoaf x1 σ) fun v3 s4 => (
      if v3 = 0 then (
        some ((-1 : Int32), s4)
      ) else (
        f_Model_book_31 x1 x2 s4
      ))
    )
  )
def f_Model_isBookedSo_34 (x2 : Int32) (y0 : Int32) (σ : ZM) : Option (Int32 × ZM) :=
  if x2 < 0 then (
    zbd (f_Model_cools σ) fun v2 s3 => (
    if y0 = 0 then (
      some ((1 : Int32), s3)
    ) else (
      some ((0 : Int32), s3)
    ))
  ) else (
    zbd (f_Model_bakes x2 σ) fun v6 s7 => (
    if v6 = y0 then (
      some ((1 : Int32), s7)
    ) else (
      some ((0 : Int32), s7)
    ))
  )
def f_Model_isBookedSo (x1 : Int32) (σ : ZM) : Option (Int32 × ZM) :=
  zck (zin ((68 : Int32) + ((2 : Int32) * x1)) 92) (
  zck (zin (((68 : Int32) + ((2 : Int32) * x1)) + (1 : Int32)) 92) (
  if (zI σ 130 (((68 : Int32) + ((2 : Int32) * x1)) + (1 : Int32)).toNatClampNeg) = (1 : Int32) then (
    f_Model_isBookedSo_34 (zI σ 130 ((68 : Int32) + ((2 : Int32) * x1)).toNatClampNeg) (1 : Int32) σ
  ) else (
    f_Model_isBookedSo_34 (zI σ 130 ((68 : Int32) + ((2 : Int32) * x1)).toNatClampNeg) (0 : Int32) σ
  )))
def f_Model_looked_38 (k9 : Int32 × Int32 × ZM → Option (Int32 × ZM)) (x2 : Int32) (y0 : Int32) (σ : ZM) : Option (Int32 × ZM) :=
  k9 (y0, (x2 + (1 : Int32)), σ)
def f_Model_looked_45 (x1 : Int32) (σ : ZM) : Option (Int32 × ZM) :=
  zbd (f_Model_ends σ) fun v1 s2 => (
  some (x1, s2))
def f_Model_looked_9 (k9 : Int32 × Int32 × ZM → Option (Int32 × ZM)) (x1 : Int32) (x2 : Int32) (σ : ZM) : Option (Int32 × ZM) :=
  zck (zin (7 : Int32) 92) (
  if (zI σ 130 (7 : Int32).toNatClampNeg) ≤ x2 then (
    f_Model_looked_45 x1 σ
  ) else (
    if 0 ≤ x1 then (
      f_Model_looked_45 x1 σ
    ) else (
      zbd (f_Model_isBookedSo x2 σ) fun v4 s5 => (
      if v4 = 0 then (
        f_Model_looked_38 k9 x2 x2 s5
      ) else (
        f_Model_looked_38 k9 x2 (-5 : Int32) s5
      ))
    )
  ))
def F_Model_looked_9 (N : Nat) : Int32 × Int32 × ZM → Option (Int32 × ZM) := zlp (fun k9 a => f_Model_looked_9 k9 a.1 a.2.1 a.2.2) N
def f_Model_looked  (σ : ZM) : Option (Int32 × ZM) :=
  zbd (f_Model_begins σ) fun v1 s2 => (
  F_Model_looked_9 2000 ((-5 : Int32), (0 : Int32), s2))
def f_Model_isTape (x0 : Int32) (σ : ZM) : Option (Int32 × ZM) :=
  zbd (f_Model_isIn x0 (0 : Int32) (5 : Int32) σ) fun v1 s2 => (
  zck (zbl v1) (some (v1, s2)))
def f_Model_judge_49 (k49 : Int32 × Int32 × Int32 × ZM → Option (Int32 × ZM)) (x1 : Int32) (x2 : Int32) (x3 : Int32) (σ : ZM) : Option (Int32 × ZM) :=
  if (4 : Int32) ≤ x3 then (
    some ((-5 : Int32), σ)
  ) else (
    zck (zin x1 6) (
    if x2 < ((zI σ 140 x1.toNatClampNeg) - x3) then (
      zck (zin ((((60 : Int32) * x1) + x2) + x3) 360) (
      zck (zin x3 92) (
      if (lg_cmp (zL σ 141 ((((60 : Int32) * x1) + x2) + x3).toNatClampNeg) ((zI σ 130 x3.toNatClampNeg).toInt64)) = 0 then (
        k49 (x1, x2, (x3 + (1 : Int32)), σ)
      ) else (
        some (x3, σ)
      )))
    ) else (
      some ((100 : Int32) + x3, σ)
    ))
  )
def F_Model_judge_49 (N : Nat) : Int32 × Int32 × Int32 × ZM → Option (Int32 × ZM) := zlp (fun k49 a => f_Model_judge_49 k49 a.1 a.2.1 a.2.2.1 a.2.2.2) N
def f_Model_judge_31 (x1 : Int32) (x2 : Int32) (σ : ZM) : Option (Int32 × ZM) :=
  zck (zin x1 6) (
  if (zI σ 139 x1.toNatClampNeg) < 0 then (
    some ((100 : Int32), σ)
  ) else (
    if 0 ≤ x2 then (
      F_Model_judge_49 2000 (x1, x2, (0 : Int32), σ)
    ) else (
      some ((100 : Int32), σ)
    )
  ))
def f_Model_judge (x1 : Int32) (x2 : Int32) (σ : ZM) : Option (Int32 × ZM) :=
  zbd (f_Model_isTape x1 σ) fun v1 s2 => (
  if v1 = 0 then (
    some ((-1 : Int32), s2)
  ) else (
    zck (zin x1 6) (
    if (zI s2 139 x1.toNatClampNeg) < 0 then (
      f_Model_judge_31 x1 x2 s2
    ) else (
      zck (zin x1 6) (
      if (zI s2 139 x1.toNatClampNeg) = (1 : Int32) then (
        f_Model_judge_31 x1 x2 s2
      ) else (
        some ((-12 : Int32), s2)
      ))
    ))
  ))
def f_Model_image  (σ : ZM) : Option (Int32 × ZM) :=
  zbd (f_Model_lays 130 131 σ) fun v1 s2 => (
  zck (zin (5 : Int32) 92) (
  some (zI (zsI s2 129 3 (1 : Int32)) 130 (5 : Int32).toNatClampNeg, (zsI s2 129 3 (1 : Int32)))))
def f_Model_undo  (σ : ZM) : Option (Int32 × ZM) :=
  if (zI σ 129 3) = 0 then (
    some ((-3 : Int32), σ)
  ) else (
    zbd (f_Model_lays 131 130 σ) fun v2 s3 => (
    zck (zin (5 : Int32) 92) (
    some (zI s3 130 (5 : Int32).toNatClampNeg, s3)))
  )
def f_Model_runs_19  (σ : ZM) : Option (Unit × ZM) :=
  some ((), (zsI σ 129 29 ((zI σ 129 29) + (1 : Int32))))
def f_Model_runs (x1 : Int32) (σ : ZM) : Option (Unit × ZM) :=
  if (20 : Int32) ≤ (zI σ 129 29) then (
    f_Model_runs_19 σ
  ) else (
    zck (zin (zI σ 129 29) 20) (
    f_Model_runs_19 (zsI σ 142 (zI σ 129 29).toNatClampNeg x1))
  )
def f_Model_rises_72 (rec : Int32 × Int32 × ZM → Option (Int32 × ZM)) (x2 : Int32) (σ : ZM) : Option (Int32 × ZM) :=
  zbd (f_Model_runs (30 : Int32) σ) fun v1 s2 => (
  zbd (rec ((0 : Int32), (x2 * (3 : Int32)), s2)) fun v4 s5 => (
  some (v4, s5)))
def f_Model_rises_87 (rec : Int32 × Int32 × ZM → Option (Int32 × ZM)) (x2 : Int32) (σ : ZM) : Option (Int32 × ZM) :=
  zbd (f_Model_runs (10 : Int32) σ) fun v1 s2 => (
  some (x2 + (zI s2 129 30), s2))
def f_Model_rises (rec : Int32 × Int32 × ZM → Option (Int32 × ZM)) (x1 : Int32) (x2 : Int32) (σ : ZM) : Option (Int32 × ZM) :=
  if x1 = (2 : Int32) then (
    f_Model_rises_72 rec x2 σ
  ) else (
  if x1 = (3 : Int32) then (
    f_Model_rises_87 rec x2 σ
  ) else (
  if x1 = (4 : Int32) then (
    zbd (f_Model_runs (50 : Int32) σ) fun v4 s5 => (
    zbd (rec ((1 : Int32), x2, s5)) fun v7 s8 => (
    some (-v7, s8)))
  ) else (
  if x1 = (5 : Int32) then (
    f_Model_rises_72 rec x2 σ
  ) else (
  if x1 = (6 : Int32) then (
    zbd (f_Model_runs (71 : Int32) σ) fun v12 s13 => (
    zbd (rec ((3 : Int32), x2, s13)) fun v15 s16 => (
    zbd (f_Model_number (zI s16 129 30) s16) fun v18 s19 => (
    some (v15 ^^^ v18, s19))))
  ) else (
    f_Model_rises_87 rec x2 σ
  )))))
def F_Model_rises (N : Nat) : Int32 × Int32 × ZM → Option (Int32 × ZM) := zlp (fun rec a => f_Model_rises rec a.1 a.2.1 a.2.2) N
def f_Model_bakesFrom (rec : Int32 × Int32 × ZM → Option (Int32 × ZM)) (x1 : Int32) (x2 : Int32) (σ : ZM) : Option (Int32 × ZM) :=
  if x1 = (1 : Int32) then (
    zbd (f_Model_runs (20 : Int32) σ) fun v2 s3 => (
    zbd (rec ((0 : Int32), x2, s3)) fun v5 s6 => (
    some (v5 ^^^ (6 : Int32), s6)))
  ) else (
  if x1 = (4 : Int32) then (
    zbd (f_Model_runs (51 : Int32) σ) fun v9 s10 => (
    zbd (rec ((1 : Int32), (x2 + (1 : Int32)), s10)) fun v12 s13 => (
    some (v12, s13)))
  ) else (
  if x1 = (6 : Int32) then (
    zbd (f_Model_runs (70 : Int32) σ) fun v16 s17 => (
    zbd (rec ((3 : Int32), x2, s17)) fun v19 s20 => (
    zbd (F_Model_rises 6 ((3 : Int32), (2 : Int32), s20)) fun v22 s23 => (
    some (v19 + v22, s23))))
  ) else (
    zbd (f_Model_runs (11 : Int32) σ) fun v25 s26 => (
    zbd (f_Model_kind (zI s26 129 30) s26) fun v28 s29 => (
    zbd (F_Model_rises 6 (v28, x2, s29)) fun v31 s32 => (
    zbd (f_Model_number (zI s32 129 30) s32) fun v34 s35 => (
    some (v31 - v34, s35)))))
  )))
def F_Model_bakesFrom (N : Nat) : Int32 × Int32 × ZM → Option (Int32 × ZM) := zlp (fun rec a => f_Model_bakesFrom rec a.1 a.2.1 a.2.2) N
def f_Model_tells_50 (rec : Int32 × Int32 × ZM → Option (Int32 × ZM)) (x2 : Int32) (σ : ZM) : Option (Int32 × ZM) :=
  zbd (f_Model_runs (40 : Int32) σ) fun v1 s2 => (
  zbd (rec ((0 : Int32), x2, s2)) fun v4 s5 => (
  zbd (f_Model_kind (zI s5 129 30) s5) fun v7 s8 => (
  zbd (F_Model_bakesFrom 8 (v7, (1 : Int32), s8)) fun v10 s11 => (
  some (v4 + v10, s11)))))
def f_Model_tells_79 (rec : Int32 × Int32 × ZM → Option (Int32 × ZM)) (x2 : Int32) (σ : ZM) : Option (Int32 × ZM) :=
  zbd (f_Model_runs (12 : Int32) σ) fun v1 s2 => (
  zbd (f_Model_kind (zI s2 129 30) s2) fun v4 s5 => (
  zbd (F_Model_bakesFrom 8 (v4, x2, s5)) fun v7 s8 => (
  some (v7 * (2 : Int32), s8))))
def f_Model_tells (rec : Int32 × Int32 × ZM → Option (Int32 × ZM)) (x1 : Int32) (x2 : Int32) (σ : ZM) : Option (Int32 × ZM) :=
  if x1 = (3 : Int32) then (
    f_Model_tells_50 rec x2 σ
  ) else (
  if x1 = (4 : Int32) then (
    f_Model_tells_79 rec x2 σ
  ) else (
  if x1 = (5 : Int32) then (
    zbd (f_Model_runs (60 : Int32) σ) fun v4 s5 => (
    zbd (rec ((2 : Int32), (x2 - (zI s5 129 30)), s5)) fun v7 s8 => (
    some (v7, s8)))
  ) else (
  if x1 = (6 : Int32) then (
    f_Model_tells_50 rec x2 σ
  ) else (
    f_Model_tells_79 rec x2 σ
  ))))
def F_Model_tells (N : Nat) : Int32 × Int32 × ZM → Option (Int32 × ZM) := zlp (fun rec a => f_Model_tells rec a.1 a.2.1 a.2.2) N
def f_Model_act (x1 : Int32) (x2 : Int32) (x3 : Int32) (σ : ZM) : Option (Int32 × ZM) :=
  zbd (f_Model_isLoaf x1 (zsI σ 129 29 (0 : Int32))) fun v1 s2 => (
  if v1 = 0 then (
    some ((0 : Int32), s2)
  ) else (
    zbd (f_Model_isIn x2 (0 : Int32) (2 : Int32) s2) fun v5 s6 => (
    if v5 = 0 then (
      some ((0 : Int32), s6)
    ) else (
      zbd (f_Model_kind x1 (zsI s6 129 30 x1)) fun v9 s10 => (
      if x2 = 0 then (
        zbd (F_Model_rises 6 (v9, x3, s10)) fun v20 s21 => (
        some (v20, s21))
      ) else (
        if x2 = (1 : Int32) then (
          zbd (F_Model_bakesFrom 8 (v9, x3, s10)) fun v17 s18 => (
          some (v17, s18))
        ) else (
          zbd (F_Model_tells 8 (v9, x3, s10)) fun v14 s15 => (
          some (v14, s15))
        )
      ))
    ))
  ))
def f_Model_trace (x1 : Int32) (σ : ZM) : Option (Int32 × ZM) :=
  if x1 < 0 then (
    some ((-1 : Int32), σ)
  ) else (
    if (zI σ 129 29) ≤ x1 then (
      some ((-1 : Int32), σ)
    ) else (
      if (20 : Int32) ≤ x1 then (
        some ((-1 : Int32), σ)
      ) else (
        zck (zin x1 20) (
        some (zI σ 142 x1.toNatClampNeg, σ))
      )
    )
  )
def f_Model_above (x0 : Int32) (σ : ZM) : Option (Int32 × ZM) :=
  if x0 < (4 : Int32) then (
    some ((0 : Int32), σ)
  ) else (
    some (x0 - (3 : Int32), σ)
  )
def f_Model_taken (x1 : Int32) (x2 : Int32) (σ : ZM) : Option (Int32 × ZM) :=
  zbd (f_Model_isIn x2 (0 : Int32) (6 : Int32) σ) fun v1 s2 => (
  if v1 = 0 then (
    some ((-2 : Int32), s2)
  ) else (
    zbd (f_Model_isLoaf x1 s2) fun v5 s6 => (
    if v5 = 0 then (
      some ((-11 : Int32), s6)
    ) else (
      zbd (f_Model_kind x1 s6) fun v9 s10 => (
      if v9 = x2 then (
        some (v9, s10)
      ) else (
        zbd (f_Model_above v9 s10) fun v13 s14 => (
        if v13 = x2 then (
          some (v9, s14)
        ) else (
          if x2 = 0 then (
            some (v9, s14)
          ) else (
            some ((-12 : Int32), s14)
          )
        ))
      ))
    ))
  ))
def f_Model_count (x1 : Int32) (σ : ZM) : Option (Int32 × ZM) :=
  if x1 = (0 : Int32) then (
    zck (zin (5 : Int32) 92) (
    some (zI σ 130 (5 : Int32).toNatClampNeg, σ))
  ) else (
  if x1 = (1 : Int32) then (
    some (zI σ 129 8, σ)
  ) else (
  if x1 = (2 : Int32) then (
    zck (zin (7 : Int32) 92) (
    some (zI σ 130 (7 : Int32).toNatClampNeg, σ))
  ) else (
  if x1 = (3 : Int32) then (
    some (zI σ 129 7, σ)
  ) else (
  if x1 = (4 : Int32) then (
    some (zI σ 129 29, σ)
  ) else (
    some ((-2 : Int32), σ)
  )))))
def f_Model_tape_67 (k67 : Int32 × Int32 × ZM → Option (Int32 × ZM)) (x1 : Int32) (x4 : Int32) (σ : ZM) : Option (Int32 × ZM) :=
  if (60 : Int32) ≤ x4 then (
    some ((1 : Int32), σ)
  ) else (
    zck (zin (((60 : Int32) * x1) + x4) 360) (
    k67 (x1, (x4 + (1 : Int32)), (zsL σ 141 (((60 : Int32) * x1) + x4).toNatClampNeg (0 : Int64))))
  )
def F_Model_tape_67 (N : Nat) : Int32 × Int32 × ZM → Option (Int32 × ZM) := zlp (fun k67 a => f_Model_tape_67 k67 a.1 a.2.1 a.2.2) N
def f_Model_tape_63 (x1 : Int32) (y0 : Int32) (y1 : Int32) (σ : ZM) : Option (Int32 × ZM) :=
  zck (zin y1 6) (
  F_Model_tape_67 2000 (x1, (0 : Int32), (zsI σ 140 y1.toNatClampNeg y0)))
def f_Model_tape_42 (x1 : Int32) (x2 : Int32) (x3 : Int32) (σ : ZM) : Option (Int32 × ZM) :=
  zck (zin x1 6) (
  if 0 ≤ x2 then (
    f_Model_tape_63 x1 x3 x1 (zsI σ 139 x1.toNatClampNeg x2)
  ) else (
    f_Model_tape_63 x1 (0 : Int32) x1 (zsI σ 139 x1.toNatClampNeg x2)
  ))
def f_Model_tape_31 (x1 : Int32) (x2 : Int32) (x3 : Int32) (σ : ZM) : Option (Int32 × ZM) :=
  if x2 < 0 then (
    f_Model_tape_42 x1 x2 x3 σ
  ) else (
    if 0 ≤ x3 then (
      f_Model_tape_42 x1 x2 x3 σ
    ) else (
      some ((-14 : Int32), σ)
    )
  )
def f_Model_tape (x1 : Int32) (x2 : Int32) (x3 : Int32) (σ : ZM) : Option (Int32 × ZM) :=
  zbd (f_Model_isTape x1 σ) fun v1 s2 => (
  if v1 = 0 then (
    some ((-1 : Int32), s2)
  ) else (
    zbd (f_Model_isIn x2 (-1 : Int32) (4 : Int32) s2) fun v5 s6 => (
    if v5 = 0 then (
      some ((-2 : Int32), s6)
    ) else (
      if x2 < 0 then (
        f_Model_tape_31 x1 x2 x3 s6
      ) else (
        if x3 ≤ (60 : Int32) then (
          f_Model_tape_31 x1 x2 x3 s6
        ) else (
          some ((-2 : Int32), s6)
        )
      )
    ))
  ))
def f_Model_kept (x0 : Int32) (x1 : Int64) (σ : ZM) : Option (Int64 × ZM) :=
  if x0 = (0 : Int32) then (
    some (x1.toInt32.toInt8.toInt32.toInt64, σ)
  ) else (
  if x0 = (1 : Int32) then (
    some (x1.toInt32.toInt16.toInt32.toInt64, σ)
  ) else (
  if x0 = (2 : Int32) then (
    some (x1.toInt32.toInt64, σ)
  ) else (
  if x0 = (3 : Int32) then (
    some (x1, σ)
  ) else (
    if (lg_cmp x1 (0 : Int64)) = 0 then (
      some ((0 : Int64), σ)
    ) else (
      some ((1 : Int64), σ)
    )
  ))))
def f_Model_item (x1 : Int32) (x2 : Int32) (x3 : Int64) (σ : ZM) : Option (Int32 × ZM) :=
  zbd (f_Model_isTape x1 σ) fun v1 s2 => (
  if v1 = 0 then (
    some ((-1 : Int32), s2)
  ) else (
    zck (zin x1 6) (
    if 0 ≤ (zI s2 139 x1.toNatClampNeg) then (
      zck (zin x1 6) (
      zbd (f_Model_isIn x2 (0 : Int32) ((zI s2 140 x1.toNatClampNeg) - (1 : Int32)) s2) fun v8 s9 => (
      if v8 = 0 then (
        some ((-13 : Int32), s9)
      ) else (
        zck (zin x1 6) (
        zbd (f_Model_kept (zI s9 139 x1.toNatClampNeg) x3 s9) fun v13 s14 => (
        zck (zin (((60 : Int32) * x1) + x2) 360) (
        some ((1 : Int32), (zsL s14 141 (((60 : Int32) * x1) + x2).toNatClampNeg v13)))))
      )))
    ) else (
      some ((-11 : Int32), s2)
    ))
  ))
def f_Model_read_46  (σ : ZM) : Option (Int64 × ZM) :=
  some ((-9223372036854775808 : Int64), σ)
def f_Model_read (x1 : Int32) (x2 : Int32) (σ : ZM) : Option (Int64 × ZM) :=
  zbd (f_Model_isTape x1 σ) fun v1 s2 => (
  if v1 = 0 then (
    f_Model_read_46 s2
  ) else (
    zck (zin x1 6) (
    if (zI s2 139 x1.toNatClampNeg) < 0 then (
      f_Model_read_46 s2
    ) else (
      zck (zin x1 6) (
      zbd (f_Model_isIn x2 (0 : Int32) ((zI s2 140 x1.toNatClampNeg) - (1 : Int32)) s2) fun v8 s9 => (
      if v8 = 0 then (
        f_Model_read_46 s9
      ) else (
        zck (zin (((60 : Int32) * x1) + x2) 360) (
        some (zL s9 141 (((60 : Int32) * x1) + x2).toNatClampNeg, s9))
      )))
    ))
  ))
def f_Model_shift_127 (k102 : Int32 × Int32 × Int32 × Int32 × Int32 × Int32 × ZM → Option (Int32 × ZM)) (x1 : Int32) (x2 : Int32) (x3 : Int32) (x4 : Int32) (x5 : Int32) (x6 : Int32) (y0 : Int32) (σ : ZM) : Option (Int32 × ZM) :=
  zck (zin ((((60 : Int32) * x1) + x2) + y0) 360) (
  zck (zin ((((60 : Int32) * x3) + x4) + y0) 360) (
  k102 (x1, x2, x3, x4, x5, (x6 + (1 : Int32)), (zsL σ 141 ((((60 : Int32) * x3) + x4) + y0).toNatClampNeg (zL σ 141 ((((60 : Int32) * x1) + x2) + y0).toNatClampNeg)))))
def f_Model_shift_102 (k102 : Int32 × Int32 × Int32 × Int32 × Int32 × Int32 × ZM → Option (Int32 × ZM)) (x1 : Int32) (x2 : Int32) (x3 : Int32) (x4 : Int32) (x5 : Int32) (x6 : Int32) (σ : ZM) : Option (Int32 × ZM) :=
  if x5 ≤ x6 then (
    some (x5, σ)
  ) else (
    if x2 ≤ x4 then (
      f_Model_shift_127 k102 x1 x2 x3 x4 x5 x6 ((x5 - (1 : Int32)) - x6) σ
    ) else (
      f_Model_shift_127 k102 x1 x2 x3 x4 x5 x6 x6 σ
    )
  )
def F_Model_shift_102 (N : Nat) : Int32 × Int32 × Int32 × Int32 × Int32 × Int32 × ZM → Option (Int32 × ZM) := zlp (fun k102 a => f_Model_shift_102 k102 a.1 a.2.1 a.2.2.1 a.2.2.2.1 a.2.2.2.2.1 a.2.2.2.2.2.1 a.2.2.2.2.2.2) N
def f_Model_shift (x1 : Int32) (x2 : Int32) (x3 : Int32) (x4 : Int32) (x5 : Int32) (σ : ZM) : Option (Int32 × ZM) :=
  zbd (f_Model_isTape x1 σ) fun v1 s2 => (
  if v1 = 0 then (
    some ((-1 : Int32), s2)
  ) else (
    zbd (f_Model_isTape x3 s2) fun v5 s6 => (
    if v5 = 0 then (
      some ((-1 : Int32), s6)
    ) else (
      zck (zin x1 6) (
      if (zI s6 139 x1.toNatClampNeg) < 0 then (
        some ((-11 : Int32), s6)
      ) else (
        zck (zin x3 6) (
        if 0 ≤ (zI s6 139 x3.toNatClampNeg) then (
          zck (zin x1 6) (
          zck (zin x3 6) (
          if (zI s6 139 x1.toNatClampNeg) = (zI s6 139 x3.toNatClampNeg) then (
            if x5 < 0 then (
              some ((-13 : Int32), s6)
            ) else (
              if x2 < 0 then (
                some ((-13 : Int32), s6)
              ) else (
                if x4 < 0 then (
                  some ((-13 : Int32), s6)
                ) else (
                  zck (zin x1 6) (
                  if ((zI s6 140 x1.toNatClampNeg) - x2) < x5 then (
                    some ((-13 : Int32), s6)
                  ) else (
                    zck (zin x3 6) (
                    if x5 ≤ ((zI s6 140 x3.toNatClampNeg) - x4) then (
                      F_Model_shift_102 2000 (x1, x2, x3, x4, x5, (0 : Int32), s6)
                    ) else (
                      some ((-13 : Int32), s6)
                    ))
                  ))
                )
              )
            )
          ) else (
            some ((-12 : Int32), s6)
          )))
        ) else (
          some ((-11 : Int32), s6)
        ))
      ))
    ))
  ))
