def f_X0_init (σ : th_S) (μ : th_M) (t : Nat) (x1 : Int32) (x2 : Int32) : Option (th_S × th_M) :=
  b3 (oN σ μ 12 6) fun a1 σ2 μ3 =>
  (oPB σ2 t 0 a1).bind fun σ4 =>
  b3 (oN σ4 μ3 12 6) fun a5 σ6 μ7 =>
  (oPB σ6 t 1 a5).bind fun σ8 =>
  (oB σ8 t 0).bind fun a9 =>
  (oSn σ8 μ7 a9 0 (x1 / 100)).bind fun μ10 =>
  (oB σ8 t 0).bind fun a11 =>
  (oSn σ8 μ10 a11 3 (jrem x1 100)).bind fun μ12 =>
  (oB σ8 t 0).bind fun a13 =>
  (oSn σ8 μ12 a13 2 (x2 / 1000)).bind fun μ14 =>
  (oB σ8 t 0).bind fun a15 =>
  (oSn σ8 μ14 a15 1 (jrem x2 1000)).bind fun μ16 =>
  (oB σ8 t 0).bind fun a17 =>
  (oSn σ8 μ16 a17 4 0).bind fun μ18 =>
  (oB σ8 t 0).bind fun a19 =>
  (oSn σ8 μ18 a19 5 (-1)).bind fun μ20 =>
  some (σ8, μ20)
def f_X0_kind (σ : th_S) (μ : th_M) (t : Nat) : Option (Int32) :=
  some 0
def f_X0_rows (σ : th_S) (μ : th_M) (t : Nat) (x1 : Int32) : Option (Int32) :=
  some (2 + (x1 / 2))
def f_X0_hears (σ : th_S) (μ : th_M) (t : Nat) (x1 : Int32) : Option (Int32) :=
  some (12 - x1)
def f_X0_owes (σ : th_S) (μ : th_M) (t : Nat) (x1 : Int32) (x2 : Int32) : Option (Int32) :=
  some (((x1 + 14) / 15) * x2)
def f_X4_rows (σ : th_S) (μ : th_M) (t : Nat) (x1 : Int32) : Option (Int32) :=
  oG (th_b (σ.1 t) = true) <|
  (f_X0_rows σ μ t x1).bind fun v1 =>
  some (v1 + x1)
def f_X7_rows (σ : th_S) (μ : th_M) (t : Nat) (x1 : Int32) : Option (Int32) :=
  oG (th_b (σ.1 t) = true) <|
  (f_X0_rows σ μ t x1).bind fun v1 =>
  some (v1 - 1)
def f_X2_rows (σ : th_S) (μ : th_M) (t : Nat) (x1 : Int32) : Option (Int32) :=
  oG (th_b (σ.1 t) = true) <|
  (f_X7_rows σ μ t x1).bind fun v1 =>
  (oB σ t 0).bind fun a2 =>
  (oAn σ μ a2 3).bind fun v3 =>
  some (v1 + v3)
def f_X3_rows (σ : th_S) (μ : th_M) (t : Nat) (x1 : Int32) : Option (Int32) :=
  oG (th_b (σ.1 t) = true) <|
  (f_X0_rows σ μ t x1).bind fun v1 =>
  some (2 * v1)
def fD_rows (σ : th_S) (μ : th_M) (t : Nat) (x1 : Int32) : Option (Int32) :=
  if σ.1 t = 0 then f_X0_rows σ μ t x1 else
  if σ.1 t = 1 then f_X4_rows σ μ t x1 else
  if σ.1 t = 2 then f_X2_rows σ μ t x1 else
  if σ.1 t = 3 then f_X3_rows σ μ t x1 else
  if σ.1 t = 4 then f_X4_rows σ μ t x1 else
  if σ.1 t = 7 then f_X7_rows σ μ t x1 else
  none
def f_X0_rowsBy (σ : th_S) (μ : th_M) (t : Nat) (x1 : Int32) : Option (Int32) :=
  (fD_rows σ μ t x1).bind fun v1 =>
  some (jmax 1 v1)
def fD_rowsBy (σ : th_S) (μ : th_M) (t : Nat) (x1 : Int32) : Option (Int32) :=
  if σ.1 t = 0 then f_X0_rowsBy σ μ t x1 else
  if σ.1 t = 1 then f_X0_rowsBy σ μ t x1 else
  if σ.1 t = 2 then f_X0_rowsBy σ μ t x1 else
  if σ.1 t = 3 then f_X0_rowsBy σ μ t x1 else
  if σ.1 t = 4 then f_X0_rowsBy σ μ t x1 else
  if σ.1 t = 7 then f_X0_rowsBy σ μ t x1 else
  none
def f_X4_hears (σ : th_S) (μ : th_M) (t : Nat) (x1 : Int32) : Option (Int32) :=
  oG (th_b (σ.1 t) = true) <|
  (f_X0_hears σ μ t x1).bind fun v1 =>
  some (v1 - 3)
def f_X1_hears (σ : th_S) (μ : th_M) (t : Nat) (x1 : Int32) : Option (Int32) :=
  oG (th_b (σ.1 t) = true) <|
  (f_X4_hears σ μ t x1).bind fun v1 =>
  some (v1 / 2)
def f_X7_hears (σ : th_S) (μ : th_M) (t : Nat) (x1 : Int32) : Option (Int32) :=
  oG (th_b (σ.1 t) = true) <|
  (f_X0_hears σ μ t x1).bind fun v1 =>
  (oB σ t 0).bind fun a2 =>
  (oAn σ μ a2 3).bind fun v3 =>
  some (v1 + v3)
def f_X3_hears (σ : th_S) (μ : th_M) (t : Nat) (x1 : Int32) : Option (Int32) :=
  (oB σ t 0).bind fun a1 =>
  (oAn σ μ a1 3).bind fun v2 =>
  if (jrem v2 2) = 0 then (
    oG (th_b (σ.1 t) = true) <|
    (f_X0_hears σ μ t x1).bind fun v3 =>
    some v3
  ) else (
    some 0
  )
def fD_hears (σ : th_S) (μ : th_M) (t : Nat) (x1 : Int32) : Option (Int32) :=
  if σ.1 t = 0 then f_X0_hears σ μ t x1 else
  if σ.1 t = 1 then f_X1_hears σ μ t x1 else
  if σ.1 t = 2 then f_X7_hears σ μ t x1 else
  if σ.1 t = 3 then f_X3_hears σ μ t x1 else
  if σ.1 t = 4 then f_X4_hears σ μ t x1 else
  if σ.1 t = 7 then f_X7_hears σ μ t x1 else
  none
def f_X0_hearsBy (σ : th_S) (μ : th_M) (t : Nat) (x1 : Int32) : Option (Int32) :=
  (fD_hears σ μ t x1).bind fun v1 =>
  some (jmax 0 v1)
def fD_hearsBy (σ : th_S) (μ : th_M) (t : Nat) (x1 : Int32) : Option (Int32) :=
  if σ.1 t = 0 then f_X0_hearsBy σ μ t x1 else
  if σ.1 t = 1 then f_X0_hearsBy σ μ t x1 else
  if σ.1 t = 2 then f_X0_hearsBy σ μ t x1 else
  if σ.1 t = 3 then f_X0_hearsBy σ μ t x1 else
  if σ.1 t = 4 then f_X0_hearsBy σ μ t x1 else
  if σ.1 t = 7 then f_X0_hearsBy σ μ t x1 else
  none
def f_X4_owes (σ : th_S) (μ : th_M) (t : Nat) (x1 : Int32) (x2 : Int32) : Option (Int32) :=
  oG (th_b (σ.1 t) = true) <|
  (f_X0_owes σ μ t x1 x2).bind fun v1 =>
  some (v1 / 2)
def f_X1_owes (σ : th_S) (μ : th_M) (t : Nat) (x1 : Int32) (x2 : Int32) : Option (Int32) :=
  oG (th_b (σ.1 t) = true) <|
  (f_X4_owes σ μ t x1 x2).bind fun v1 =>
  some (v1 + 2)
def f_X2_owes (σ : th_S) (μ : th_M) (t : Nat) (x1 : Int32) (x2 : Int32) : Option (Int32) :=
  some 0
def f_X3_owes (σ : th_S) (μ : th_M) (t : Nat) (x1 : Int32) (x2 : Int32) : Option (Int32) :=
  oG (th_b (σ.1 t) = true) <|
  (f_X0_owes σ μ t x1 x2).bind fun v1 =>
  if v1 ≤ 0 then (
    some 0
  ) else (
    (oB σ t 0).bind fun a2 =>
    (oAn σ μ a2 3).bind fun v3 =>
    some (v1 + v3)
  )
def fD_owes (σ : th_S) (μ : th_M) (t : Nat) (x1 : Int32) (x2 : Int32) : Option (Int32) :=
  if σ.1 t = 0 then f_X0_owes σ μ t x1 x2 else
  if σ.1 t = 1 then f_X1_owes σ μ t x1 x2 else
  if σ.1 t = 2 then f_X2_owes σ μ t x1 x2 else
  if σ.1 t = 3 then f_X3_owes σ μ t x1 x2 else
  if σ.1 t = 4 then f_X4_owes σ μ t x1 x2 else
  if σ.1 t = 7 then f_X0_owes σ μ t x1 x2 else
  none
def f_X0_owesBy (σ : th_S) (μ : th_M) (t : Nat) (x1 : Int32) (x2 : Int32) : Option (Int32) :=
  (fD_owes σ μ t x1 x2).bind fun v1 =>
  some (jmax 0 v1)
def fD_owesBy (σ : th_S) (μ : th_M) (t : Nat) (x1 : Int32) (x2 : Int32) : Option (Int32) :=
  if σ.1 t = 0 then f_X0_owesBy σ μ t x1 x2 else
  if σ.1 t = 1 then f_X0_owesBy σ μ t x1 x2 else
  if σ.1 t = 2 then f_X0_owesBy σ μ t x1 x2 else
  if σ.1 t = 3 then f_X0_owesBy σ μ t x1 x2 else
  if σ.1 t = 4 then f_X0_owesBy σ μ t x1 x2 else
  if σ.1 t = 7 then f_X0_owesBy σ μ t x1 x2 else
  none
def f_X0_due (σ : th_S) (μ : th_M) (t : Nat) : Option (Int32) :=
  (oB σ t 0).bind fun a1 =>
  (oAn σ μ a1 1).bind fun v2 =>
  (oB σ t 0).bind fun a3 =>
  (oAn σ μ a3 2).bind fun v4 =>
  some (v2 + v4)
def fD_due (σ : th_S) (μ : th_M) (t : Nat) : Option (Int32) :=
  if σ.1 t = 0 then f_X0_due σ μ t else
  if σ.1 t = 1 then f_X0_due σ μ t else
  if σ.1 t = 2 then f_X0_due σ μ t else
  if σ.1 t = 3 then f_X0_due σ μ t else
  if σ.1 t = 4 then f_X0_due σ μ t else
  if σ.1 t = 7 then f_X0_due σ μ t else
  none
def f_X0_keep (σ : th_S) (μ : th_M) (t : Nat) : Option (th_M) :=
  (oB σ t 0).bind fun a1 =>
  (oB σ t 1).bind fun a2 =>
  (oXn σ μ a1 a2 6).bind fun μ3 =>
  some μ3
def fD_keep (σ : th_S) (μ : th_M) (t : Nat) : Option (th_M) :=
  if σ.1 t = 0 then f_X0_keep σ μ t else
  if σ.1 t = 1 then f_X0_keep σ μ t else
  if σ.1 t = 2 then f_X0_keep σ μ t else
  if σ.1 t = 3 then f_X0_keep σ μ t else
  if σ.1 t = 4 then f_X0_keep σ μ t else
  if σ.1 t = 7 then f_X0_keep σ μ t else
  none
def f_X0_layBack (σ : th_S) (μ : th_M) (t : Nat) : Option (th_M) :=
  (oB σ t 1).bind fun a1 =>
  (oB σ t 0).bind fun a2 =>
  (oXn σ μ a1 a2 6).bind fun μ3 =>
  some μ3
def fD_layBack (σ : th_S) (μ : th_M) (t : Nat) : Option (th_M) :=
  if σ.1 t = 0 then f_X0_layBack σ μ t else
  if σ.1 t = 1 then f_X0_layBack σ μ t else
  if σ.1 t = 2 then f_X0_layBack σ μ t else
  if σ.1 t = 3 then f_X0_layBack σ μ t else
  if σ.1 t = 4 then f_X0_layBack σ μ t else
  if σ.1 t = 7 then f_X0_layBack σ μ t else
  none
def f_X4_init (σ : th_S) (μ : th_M) (t : Nat) (x1 : Int32) (x2 : Int32) : Option (th_S × th_M) :=
  b2 (f_X0_init σ μ t x1 x2) fun σ1 μ2 =>
  some (σ1, μ2)
def f_X1_init (σ : th_S) (μ : th_M) (t : Nat) (x1 : Int32) (x2 : Int32) : Option (th_S × th_M) :=
  b2 (f_X4_init σ μ t x1 x2) fun σ1 μ2 =>
  some (σ1, μ2)
def f_X1_kind (σ : th_S) (μ : th_M) (t : Nat) : Option (Int32) :=
  some 4
def f_X7_init (σ : th_S) (μ : th_M) (t : Nat) (x1 : Int32) (x2 : Int32) : Option (th_S × th_M) :=
  b2 (f_X0_init σ μ t x1 x2) fun σ1 μ2 =>
  some (σ1, μ2)
def f_X2_init (σ : th_S) (μ : th_M) (t : Nat) (x1 : Int32) (x2 : Int32) : Option (th_S × th_M) :=
  b2 (f_X7_init σ μ t x1 x2) fun σ1 μ2 =>
  some (σ1, μ2)
def f_X2_kind (σ : th_S) (μ : th_M) (t : Nat) : Option (Int32) :=
  some 3
def f_X3_init (σ : th_S) (μ : th_M) (t : Nat) (x1 : Int32) (x2 : Int32) : Option (th_S × th_M) :=
  b2 (f_X0_init σ μ t x1 x2) fun σ1 μ2 =>
  some (σ1, μ2)
def f_X3_kind (σ : th_S) (μ : th_M) (t : Nat) : Option (Int32) :=
  some 5
def f_X4_kind (σ : th_S) (μ : th_M) (t : Nat) : Option (Int32) :=
  some 2
def f_X5_init (σ : th_S) (μ : th_M) (t : Nat) (x1 : Nat) (x2 : Nat) : Option (th_S × th_M) :=
  b3 (oN σ μ 12 31) fun a1 σ2 μ3 =>
  (oPR σ2 5 t 2 a1).bind fun σ4 =>
  (oPR σ4 5 t 0 x1).bind fun σ5 =>
  (oPR σ5 5 t 1 x2).bind fun σ6 =>
  some (σ6, μ3)
def f_X5_push (σ : th_S) (μ : th_M) (t : Nat) (x1 : Int32) : Option (th_M) :=
  (oI σ μ 5 t 3).bind fun v1 =>
  (oR σ 5 t 2).bind fun a2 =>
  (oL σ a2).bind fun v3 =>
  if v3 ≤ v1 then (
    some μ
  ) else (
    (oR σ 5 t 2).bind fun a4 =>
    (oI σ μ 5 t 3).bind fun v5 =>
    (oS σ μ a4 v5 x1).bind fun μ6 =>
    (oI σ μ6 5 t 3).bind fun v7 =>
    (oPI σ μ6 5 t 3 (v7 + 1)).bind fun μ8 =>
    some μ8
  )
def f_X5_pop (σ : th_S) (μ : th_M) (t : Nat) : Option (Int32 × th_M) :=
  (oI σ μ 5 t 3).bind fun v1 =>
  if 0 < v1 then (
    (oI σ μ 5 t 3).bind fun v2 =>
    (oPI σ μ 5 t 3 (v2 - 1)).bind fun μ3 =>
    (oR σ 5 t 2).bind fun a4 =>
    (oI σ μ3 5 t 3).bind fun v5 =>
    (oA σ μ3 a4 v5).bind fun v6 =>
    some (v6, μ3)
  ) else (
    some (0, μ)
  )
def f_X5_joined (x0 : Int32) (x1 : Int32) (x2 : Int32) : Option (Int32) :=
  if x0 = 9 then (
    if x1 = 0 then (
      if x2 = 0 then (
        some 0
      ) else (
        some 1
      )
    ) else (
      some 1
    )
  ) else
  if x0 = 10 then (
    if x1 = 0 then (
      some 0
    ) else (
      if x2 = 0 then (
        some 0
      ) else (
        some 1
      )
    )
  ) else
  if x0 = 43 then (
    some (x1 + x2)
  ) else
  if x0 = 45 then (
    some (x1 - x2)
  ) else
  if x0 = 60 then (
    if x2 ≤ x1 then (
      some 0
    ) else (
      some 1
    )
  ) else
  if x0 = 61 then (
    if x1 = x2 then (
      some 1
    ) else (
      some 0
    )
  ) else
  (
    some (x1 * x2)
  )
def f_X5_value_b22  : Nat → th_S → th_M → Nat → Int32 → Nat → Int32 → Option (Int32 × th_M)
  | 0, _, _, _, _, _, _ => none
  | n + 1, σ, μ, t, x1, x2, x3 =>
    (oR σ 5 t 1).bind fun a1 =>
    (oA σ μ a1 x1).bind fun v2 =>
    if v2 ≤ x3 then (
      oC σ 5 t <|
      b2 (f_X5_pop σ μ t) fun v3 μ4 =>
      some (v3, μ4)
    ) else (
      (oR σ 5 t 0).bind fun a5 =>
      (oA σ μ a5 x3).bind fun v6 =>
      if 0 ≤ ((-1) - v6) then (
        if 6 ≤ ((-1) - v6) then (
          if ((-1) - v6) = 13 then (
            oC σ 5 t <|
            b2 (f_X5_pop σ μ t) fun v7 μ8 =>
            (f_X5_push σ μ8 t (-v7)).bind fun μ9 =>
            f_X5_value_b22 n σ μ9 t x1 x2 (x3 + 1)
          ) else (
            if ((-1) - v6) = 11 then (
              oC σ 5 t <|
              b2 (f_X5_pop σ μ t) fun v10 μ11 =>
              if v10 = 0 then (
                (f_X5_push σ μ11 t 1).bind fun μ12 =>
                f_X5_value_b22 n σ μ12 t x1 x2 (x3 + 1)
              ) else (
                (f_X5_push σ μ11 t 0).bind fun μ13 =>
                f_X5_value_b22 n σ μ13 t x1 x2 (x3 + 1)
              )
            ) else (
              oC σ 5 t <|
              b2 (f_X5_pop σ μ t) fun v14 μ15 =>
              b2 (f_X5_pop σ μ15 t) fun v16 μ17 =>
              (f_X5_joined ((-1) - v6) v16 v14).bind fun v18 =>
              (f_X5_push σ μ17 t v18).bind fun μ19 =>
              f_X5_value_b22 n σ μ19 t x1 x2 (x3 + 1)
            )
          )
        ) else (
          (oA σ μ x2 ((-1) - v6)).bind fun v20 =>
          oC σ 5 t <|
          (f_X5_push σ μ t v20).bind fun μ21 =>
          f_X5_value_b22 n σ μ21 t x1 x2 (x3 + 1)
        )
      ) else (
        (oR σ 5 t 0).bind fun a22 =>
        (oA σ μ a22 x3).bind fun v23 =>
        oC σ 5 t <|
        (f_X5_push σ μ t v23).bind fun μ24 =>
        f_X5_value_b22 n σ μ24 t x1 x2 (x3 + 1)
      )
    )
def f_X5_value (σ : th_S) (μ : th_M) (t : Nat) (x1 : Int32) (x2 : Nat) : Option (Int32 × th_M) :=
  (oPI σ μ 5 t 3 0).bind fun μ1 =>
  if x1 = 0 then (
    f_X5_value_b22  fu σ μ1 t x1 x2 0
  ) else (
    (oR σ 5 t 1).bind fun a2 =>
    (oA σ μ1 a2 (x1 - 1)).bind fun v3 =>
    f_X5_value_b22  fu σ μ1 t x1 x2 v3
  )
def f_X6_init (σ : th_S) (μ : th_M) (t : Nat) : Option (th_S × th_M) :=
  b3 (oN σ μ 12 40) fun a1 σ2 μ3 =>
  (oPR σ2 6 t 0 a1).bind fun σ4 =>
  (oPI σ4 μ3 6 t 1 (-1)).bind fun μ5 =>
  some (σ4, μ5)
def f_J7_fill_53178_b5  : Nat → th_S → th_M → Nat → Int32 → Int32 → Int32 → Option (th_M)
  | 0, _, _, _, _, _, _ => none
  | n + 1, σ, μ, x0, x1, x2, x3 =>
    if x3 ≤ x2 then (
      some μ
    ) else (
      (oS σ μ x0 x2 x1).bind fun μ1 =>
      f_J7_fill_53178_b5 n σ μ1 x0 x1 (x2 + 1) x3
    )
def f_J7_fill_53178 (σ : th_S) (μ : th_M) (x0 : Nat) (x1 : Int32) : Option (th_M) :=
  (oL σ x0).bind fun v1 =>
  f_J7_fill_53178_b5  fu σ μ x0 x1 0 v1
def f_X6_become (σ : th_S) (μ : th_M) (t : Nat) (x1 : Int32) (x2 : Int32) : Option (th_M) :=
  (oR σ 6 t 0).bind fun a1 =>
  (f_J7_fill_53178 σ μ a1 0).bind fun μ2 =>
  (oPI σ μ2 6 t 1 x1).bind fun μ3 =>
  (oPI σ μ3 6 t 2 x2).bind fun μ4 =>
  some μ4
def f_X6_isMissing (σ : th_S) (μ : th_M) (t : Nat) : Option (Int32) :=
  (oI σ μ 6 t 1).bind fun v1 =>
  if v1 = (-1) then (
    some 1
  ) else (
    some 0
  )
def f_X6_has (σ : th_S) (μ : th_M) (t : Nat) (x1 : Int64) (x3 : Int32) : Option (Int32) :=
  if (lg_cmp x1 0) < 0 then (
    some 0
  ) else (
    if x3 < 0 then (
      some 0
    ) else (
      (oI σ μ 6 t 2).bind fun v1 =>
      if 0 < (lg_cmp (x1 + x3.toInt64) v1.toInt64) then (
        some 0
      ) else (
        some 1
      )
    )
  )
def f_X6_at (σ : th_S) (μ : th_M) (t : Nat) (x1 : Int32) : Option (Int32) :=
  oC σ 6 t <|
  (f_X6_has σ μ t x1.toInt64 1).bind fun v1 =>
  if v1 = 0 then (
    some 0
  ) else (
    (oR σ 6 t 0).bind fun a2 =>
    (oA σ μ a2 x1).bind fun v3 =>
    some v3
  )
def f_X6_put (σ : th_S) (μ : th_M) (t : Nat) (x1 : Int32) (x2 : Int32) : Option (th_M) :=
  oC σ 6 t <|
  (f_X6_has σ μ t x1.toInt64 1).bind fun v1 =>
  if v1 = 0 then (
    some μ
  ) else (
    (oI σ μ 6 t 1).bind fun v2 =>
    if v2 = 0 then (
      (oR σ 6 t 0).bind fun a3 =>
      (oS σ μ a3 x1 x2.toInt8.toInt32).bind fun μ4 =>
      some μ4
    ) else
    if v2 = 1 then (
      (oR σ 6 t 0).bind fun a5 =>
      (oS σ μ a5 x1 x2.toInt16.toInt32).bind fun μ6 =>
      some μ6
    ) else
    (
      (oR σ 6 t 0).bind fun a7 =>
      (oS σ μ a7 x1 x2).bind fun μ8 =>
      some μ8
    )
  )
def f_X7_kind (σ : th_S) (μ : th_M) (t : Nat) : Option (Int32) :=
  some 1
def fD_kind (σ : th_S) (μ : th_M) (t : Nat) : Option (Int32) :=
  if σ.1 t = 0 then f_X0_kind σ μ t else
  if σ.1 t = 1 then f_X1_kind σ μ t else
  if σ.1 t = 2 then f_X2_kind σ μ t else
  if σ.1 t = 3 then f_X3_kind σ μ t else
  if σ.1 t = 4 then f_X4_kind σ μ t else
  if σ.1 t = 7 then f_X7_kind σ μ t else
  none
def f_X8_init (σ : th_S) (μ : th_M) (t : Nat) : Option (th_S × th_M) :=
  b3 (oN σ μ 12 160) fun a1 σ2 μ3 =>
  (oPR σ2 8 t 0 a1).bind fun σ4 =>
  b3 (oN σ4 μ3 12 160) fun a5 σ6 μ7 =>
  (oPR σ6 8 t 2 a5).bind fun σ8 =>
  b3 (oN σ8 μ7 12 3) fun a9 σ10 μ11 =>
  (oPR σ10 8 t 4 a9).bind fun σ12 =>
  some (σ12, μ11)
def f_X8_add (σ : th_S) (μ : th_M) (t : Nat) (x1 : Int32) : Option (Int32 × th_M) :=
  (oI σ μ 8 t 1).bind fun v1 =>
  if v1 < 160 then (
    (oR σ 8 t 0).bind fun a2 =>
    (oI σ μ 8 t 1).bind fun v3 =>
    (oS σ μ a2 v3 x1).bind fun μ4 =>
    (oI σ μ4 8 t 1).bind fun v5 =>
    (oPI σ μ4 8 t 1 (v5 + 1)).bind fun μ6 =>
    some (1, μ6)
  ) else (
    some (0, μ)
  )
def f_X8_empty (σ : th_S) (μ : th_M) (t : Nat) : Option (th_M) :=
  (oPI σ μ 8 t 1 0).bind fun μ1 =>
  some μ1
def f_X8_isLetter (x0 : Int32) : Option (Int32) :=
  if x0 < 97 then (
    some 0
  ) else (
    if 122 < x0 then (
      some 0
    ) else (
      some 1
    )
  )
def f_X8_spelling (x0 : Int32) : Option (Nat) :=
  if x0 = 0 then (
    some 1
  ) else
  if x0 = 1 then (
    some 2
  ) else
  if x0 = 2 then (
    some 3
  ) else
  if x0 = 3 then (
    some 4
  ) else
  if x0 = 4 then (
    some 5
  ) else
  if x0 = 5 then (
    some 6
  ) else
  if x0 = 6 then (
    some 7
  ) else
  if x0 = 7 then (
    some 8
  ) else
  if x0 = 8 then (
    some 9
  ) else
  if x0 = 9 then (
    some 10
  ) else
  if x0 = 10 then (
    some 11
  ) else
  (
    some 12
  )
def f_J0_length_8abf5 (t : Nat) : Option Int32 := oT t
def f_J0_charAt_5068e (t : Nat) (x1 : Int32) : Option Int32 := oU t x1
def f_X8_isSpelled_b20  : Nat → th_S → th_M → Nat → Nat → Int32 → Option (Int32)
  | 0, _, _, _, _, _ => none
  | n + 1, σ, μ, t, x1, x2 =>
    (f_J0_length_8abf5 x1).bind fun v1 =>
    if v1 ≤ x2 then (
      some 1
    ) else (
      (f_J0_charAt_5068e x1 x2).bind fun v2 =>
      (oR σ 8 t 0).bind fun a3 =>
      (oI σ μ 8 t 5).bind fun v4 =>
      (oA σ μ a3 (v4 + x2)).bind fun v5 =>
      if v2 = v5 then (
        f_X8_isSpelled_b20 n σ μ t x1 (x2 + 1)
      ) else (
        some 0
      )
    )
def f_X8_isSpelled (σ : th_S) (μ : th_M) (t : Nat) (x1 : Nat) : Option (Int32) :=
  (f_J0_length_8abf5 x1).bind fun v1 =>
  (oI σ μ 8 t 6).bind fun v2 =>
  (oI σ μ 8 t 5).bind fun v3 =>
  if v1 = (v2 - v3) then (
    f_X8_isSpelled_b20  fu σ μ t x1 0
  ) else (
    some 0
  )
def f_X8_takeWord_b47  : Nat → th_S → th_M → Nat → Int32 → Option (th_M)
  | 0, _, _, _, _ => none
  | n + 1, σ, μ, t, x1 =>
    if 12 ≤ x1 then (
      some μ
    ) else (
      (f_X8_spelling x1).bind fun a1 =>
      oC σ 8 t <|
      (f_X8_isSpelled σ μ t a1).bind fun v2 =>
      if v2 = 0 then (
        f_X8_takeWord_b47 n σ μ t (x1 + 1)
      ) else (
        (oPI σ μ 8 t 7 x1).bind fun μ3 =>
        f_X8_takeWord_b47 n σ μ3 t (x1 + 1)
      )
    )
def f_X8_takeWord_b0  : Nat → th_S → th_M → Nat → Option (th_M)
  | 0, _, _, _ => none
  | n + 1, σ, μ, t =>
    (oI σ μ 8 t 6).bind fun v1 =>
    (oI σ μ 8 t 1).bind fun v2 =>
    if v2 ≤ v1 then (
      (oPI σ μ 8 t 7 (-2)).bind fun μ3 =>
      f_X8_takeWord_b47  fu σ μ3 t 0
    ) else (
      (oR σ 8 t 0).bind fun a4 =>
      (oI σ μ 8 t 6).bind fun v5 =>
      (oA σ μ a4 v5).bind fun v6 =>
      (f_X8_isLetter v6).bind fun v7 =>
      if v7 = 0 then (
        (oPI σ μ 8 t 7 (-2)).bind fun μ8 =>
        f_X8_takeWord_b47  fu σ μ8 t 0
      ) else (
        (oI σ μ 8 t 6).bind fun v9 =>
        (oPI σ μ 8 t 6 (v9 + 1)).bind fun μ10 =>
        f_X8_takeWord_b0 n σ μ10 t
      )
    )
def f_X8_takeWord (σ : th_S) (μ : th_M) (t : Nat) : Option (th_M) :=
  f_X8_takeWord_b0  fu σ μ t
def f_X8_isDigit (x0 : Int32) : Option (Int32) :=
  if x0 < 48 then (
    some 0
  ) else (
    if 57 < x0 then (
      some 0
    ) else (
      some 1
    )
  )
def f_X8_takeNumber_b68  (σ : th_S) (μ : th_M) (t : Nat) : Option (th_M) :=
  (oI σ μ 8 t 6).bind fun v1 =>
  (oI σ μ 8 t 5).bind fun v2 =>
  if 4 < (v1 - v2) then (
    (oPI σ μ 8 t 7 (-2)).bind fun μ3 =>
    some μ3
  ) else (
    (oPI σ μ 8 t 7 12).bind fun μ4 =>
    some μ4
  )
def f_X8_takeNumber_b5  : Nat → th_S → th_M → Nat → Option (th_M)
  | 0, _, _, _ => none
  | n + 1, σ, μ, t =>
    (oI σ μ 8 t 6).bind fun v1 =>
    (oI σ μ 8 t 1).bind fun v2 =>
    if v2 ≤ v1 then (
      f_X8_takeNumber_b68 σ μ t
    ) else (
      (oR σ 8 t 0).bind fun a3 =>
      (oI σ μ 8 t 6).bind fun v4 =>
      (oA σ μ a3 v4).bind fun v5 =>
      (f_X8_isDigit v5).bind fun v6 =>
      if v6 = 0 then (
        f_X8_takeNumber_b68 σ μ t
      ) else (
        (oI σ μ 8 t 8).bind fun v7 =>
        (oR σ 8 t 0).bind fun a8 =>
        (oI σ μ 8 t 6).bind fun v9 =>
        (oA σ μ a8 v9).bind fun v10 =>
        (oPI σ μ 8 t 8 (((v7 * 10) + v10) - 48)).bind fun μ11 =>
        (oI σ μ11 8 t 6).bind fun v12 =>
        (oPI σ μ11 8 t 6 (v12 + 1)).bind fun μ13 =>
        f_X8_takeNumber_b5 n σ μ13 t
      )
    )
def f_X8_takeNumber (σ : th_S) (μ : th_M) (t : Nat) : Option (th_M) :=
  (oPI σ μ 8 t 8 0).bind fun μ1 =>
  f_X8_takeNumber_b5  fu σ μ1 t
def f_X8_isSign_b12  (x0 : Int32) : Option (Int32) :=
  if x0 = 45 then (
    some 1
  ) else (
    if x0 < 59 then (
      some 0
    ) else (
      if 61 < x0 then (
        some 0
      ) else (
        some 1
      )
    )
  )
def f_X8_isSign (x0 : Int32) : Option (Int32) :=
  if x0 < 40 then (
    f_X8_isSign_b12 x0
  ) else (
    if x0 ≤ 43 then (
      some 1
    ) else (
      f_X8_isSign_b12 x0
    )
  )
def f_X8_step_b60  (σ : th_S) (μ : th_M) (t : Nat) : Option (th_M) :=
  (oI σ μ 8 t 5).bind fun v1 =>
  (oPI σ μ 8 t 6 v1).bind fun μ2 =>
  (oI σ μ2 8 t 5).bind fun v3 =>
  (oI σ μ2 8 t 1).bind fun v4 =>
  if v3 < v4 then (
    (oR σ 8 t 0).bind fun a5 =>
    (oI σ μ2 8 t 5).bind fun v6 =>
    (oA σ μ2 a5 v6).bind fun v7 =>
    (f_X8_isLetter v7).bind fun v8 =>
    if v8 = 0 then (
      (oR σ 8 t 0).bind fun a9 =>
      (oI σ μ2 8 t 5).bind fun v10 =>
      (oA σ μ2 a9 v10).bind fun v11 =>
      (f_X8_isDigit v11).bind fun v12 =>
      if v12 = 0 then (
        (oI σ μ2 8 t 5).bind fun v13 =>
        (oPI σ μ2 8 t 6 (v13 + 1)).bind fun μ14 =>
        (oR σ 8 t 0).bind fun a15 =>
        (oI σ μ14 8 t 5).bind fun v16 =>
        (oA σ μ14 a15 v16).bind fun v17 =>
        (f_X8_isSign v17).bind fun v18 =>
        if v18 = 0 then (
          (oPI σ μ14 8 t 7 (-2)).bind fun μ19 =>
          some μ19
        ) else (
          (oR σ 8 t 0).bind fun a20 =>
          (oI σ μ14 8 t 5).bind fun v21 =>
          (oA σ μ14 a20 v21).bind fun v22 =>
          (oPI σ μ14 8 t 7 v22).bind fun μ23 =>
          some μ23
        )
      ) else (
        oC σ 8 t <|
        (f_X8_takeNumber σ μ2 t).bind fun μ24 =>
        some μ24
      )
    ) else (
      oC σ 8 t <|
      (f_X8_takeWord σ μ2 t).bind fun μ25 =>
      some μ25
    )
  ) else (
    (oPI σ μ2 8 t 7 (-1)).bind fun μ26 =>
    some μ26
  )
def f_X8_step_b8  : Nat → th_S → th_M → Nat → Option (th_M)
  | 0, _, _, _ => none
  | n + 1, σ, μ, t =>
    (oI σ μ 8 t 5).bind fun v1 =>
    (oI σ μ 8 t 1).bind fun v2 =>
    if v2 ≤ v1 then (
      f_X8_step_b60 σ μ t
    ) else (
      (oR σ 8 t 0).bind fun a3 =>
      (oI σ μ 8 t 5).bind fun v4 =>
      (oA σ μ a3 v4).bind fun v5 =>
      if v5 = 32 then (
        (oI σ μ 8 t 5).bind fun v6 =>
        (oPI σ μ 8 t 5 (v6 + 1)).bind fun μ7 =>
        f_X8_step_b8 n σ μ7 t
      ) else (
        (oR σ 8 t 0).bind fun a8 =>
        (oI σ μ 8 t 5).bind fun v9 =>
        (oA σ μ a8 v9).bind fun v10 =>
        if v10 = 10 then (
          (oI σ μ 8 t 5).bind fun v11 =>
          (oPI σ μ 8 t 5 (v11 + 1)).bind fun μ12 =>
          f_X8_step_b8 n σ μ12 t
        ) else (
          f_X8_step_b60 σ μ t
        )
      )
    )
def f_X8_step (σ : th_S) (μ : th_M) (t : Nat) : Option (th_M) :=
  (oI σ μ 8 t 6).bind fun v1 =>
  (oPI σ μ 8 t 5 v1).bind fun μ2 =>
  f_X8_step_b8  fu σ μ2 t
def f_X8_skip (σ : th_S) (μ : th_M) (t : Nat) (x1 : Int32) : Option (Int32 × th_M) :=
  (oI σ μ 8 t 7).bind fun v1 =>
  if v1 = x1 then (
    oC σ 8 t <|
    (f_X8_step σ μ t).bind fun μ2 =>
    some (1, μ2)
  ) else (
    some (0, μ)
  )
def f_X8_put (σ : th_S) (μ : th_M) (t : Nat) (x1 : Int32) : Option (th_M) :=
  (oI σ μ 8 t 3).bind fun v1 =>
  if 160 ≤ v1 then (
    some μ
  ) else (
    (oR σ 8 t 2).bind fun a2 =>
    (oI σ μ 8 t 3).bind fun v3 =>
    (oS σ μ a2 v3 x1).bind fun μ4 =>
    (oI σ μ4 8 t 3).bind fun v5 =>
    (oPI σ μ4 8 t 3 (v5 + 1)).bind fun μ6 =>
    some μ6
  )
def f_X8_emit (σ : th_S) (μ : th_M) (t : Nat) (x1 : Int32) : Option (th_M) :=
  oC σ 8 t <|
  (f_X8_put σ μ t ((-1) - x1)).bind fun μ1 =>
  some μ1
def f_X8_either_b12 (rec : Nat → th_S → th_M → Nat → Int32 → Option (Int32 × th_M))  : Nat → th_S → th_M → Nat → Int32 → Int32 → Option (Int32 × th_M)
  | 0, _, _, _, _, _ => none
  | n + 1, σ, μ, t, x1, x2 =>
    if 160 ≤ x2 then (
      some (1, μ)
    ) else (
      (oI σ μ 8 t 7).bind fun v1 =>
      if v1 = 9 then (
        oC σ 8 t <|
        (f_X8_step σ μ t).bind fun μ2 =>
        b2 (rec 1 σ μ2 t x1) fun v3 μ4 =>
        if v3 = 0 then (
          some (0, μ4)
        ) else (
          (f_X8_emit σ μ4 t 9).bind fun μ5 =>
          f_X8_either_b12 rec n σ μ5 t x1 (x2 + 1)
        )
      ) else (
        some (1, μ)
      )
    )
def fb_X8_either (rec : Nat → th_S → th_M → Nat → Int32 → Option (Int32 × th_M)) (σ : th_S) (μ : th_M) (t : Nat) (x1 : Int32) : Option (Int32 × th_M) :=
  oC σ 8 t <|
  b2 (rec 1 σ μ t x1) fun v1 μ2 =>
  if v1 = 0 then (
    some (0, μ2)
  ) else (
    f_X8_either_b12 rec  fu σ μ2 t x1 0
  )
def f_X8_both_b12 (rec : Nat → th_S → th_M → Nat → Int32 → Option (Int32 × th_M))  : Nat → th_S → th_M → Nat → Int32 → Int32 → Option (Int32 × th_M)
  | 0, _, _, _, _, _ => none
  | n + 1, σ, μ, t, x1, x2 =>
    if 160 ≤ x2 then (
      some (1, μ)
    ) else (
      (oI σ μ 8 t 7).bind fun v1 =>
      if v1 = 10 then (
        oC σ 8 t <|
        (f_X8_step σ μ t).bind fun μ2 =>
        b2 (rec 2 σ μ2 t x1) fun v3 μ4 =>
        if v3 = 0 then (
          some (0, μ4)
        ) else (
          (f_X8_emit σ μ4 t 10).bind fun μ5 =>
          f_X8_both_b12 rec n σ μ5 t x1 (x2 + 1)
        )
      ) else (
        some (1, μ)
      )
    )
def fb_X8_both (rec : Nat → th_S → th_M → Nat → Int32 → Option (Int32 × th_M)) (σ : th_S) (μ : th_M) (t : Nat) (x1 : Int32) : Option (Int32 × th_M) :=
  oC σ 8 t <|
  b2 (rec 2 σ μ t x1) fun v1 μ2 =>
  if v1 = 0 then (
    some (0, μ2)
  ) else (
    f_X8_both_b12 rec  fu σ μ2 t x1 0
  )
def fb_X8_denied (rec : Nat → th_S → th_M → Nat → Int32 → Option (Int32 × th_M)) (σ : th_S) (μ : th_M) (t : Nat) (x1 : Int32) : Option (Int32 × th_M) :=
  (oI σ μ 8 t 7).bind fun v1 =>
  if v1 = 11 then (
    if x1 < 5 then (
      oC σ 8 t <|
      (f_X8_step σ μ t).bind fun μ2 =>
      b2 (rec 2 σ μ2 t (x1 + 1)) fun v3 μ4 =>
      if v3 = 0 then (
        some (0, μ4)
      ) else (
        (f_X8_emit σ μ4 t 11).bind fun μ5 =>
        some (1, μ5)
      )
    ) else (
      some (0, μ)
    )
  ) else (
    oC σ 8 t <|
    b2 (rec 3 σ μ t x1) fun v6 μ7 =>
    oG (v6 &&& 1 = v6) <|
    some (v6, μ7)
  )
def f_X8_compared_b29 (rec : Nat → th_S → th_M → Nat → Int32 → Option (Int32 × th_M))  (σ : th_S) (μ : th_M) (t : Nat) (x1 : Int32) (x2 : Int32) : Option (Int32 × th_M) :=
  oC σ 8 t <|
  (f_X8_step σ μ t).bind fun μ1 =>
  b2 (rec 4 σ μ1 t x1) fun v2 μ3 =>
  if v2 = 0 then (
    some (0, μ3)
  ) else (
    (f_X8_emit σ μ3 t x2).bind fun μ4 =>
    some (1, μ4)
  )
def fb_X8_compared (rec : Nat → th_S → th_M → Nat → Int32 → Option (Int32 × th_M)) (σ : th_S) (μ : th_M) (t : Nat) (x1 : Int32) : Option (Int32 × th_M) :=
  oC σ 8 t <|
  b2 (rec 4 σ μ t x1) fun v1 μ2 =>
  if v1 = 0 then (
    some (0, μ2)
  ) else (
    (oI σ μ2 8 t 7).bind fun v3 =>
    if v3 = 60 then (
      f_X8_compared_b29 rec σ μ2 t x1 v3
    ) else (
      if v3 = 61 then (
        f_X8_compared_b29 rec σ μ2 t x1 v3
      ) else (
        some (1, μ2)
      )
    )
  )
def f_X8_sum_b37 (rec : Nat → th_S → th_M → Nat → Int32 → Option (Int32 × th_M)) (K12 : th_S → th_M → Nat → Int32 → Int32 → Option (Int32 × th_M)) (σ : th_S) (μ : th_M) (t : Nat) (x1 : Int32) (x2 : Int32) : Option (Int32 × th_M) :=
  (oI σ μ 8 t 7).bind fun v1 =>
  oC σ 8 t <|
  (f_X8_step σ μ t).bind fun μ2 =>
  b2 (rec 5 σ μ2 t x1) fun v3 μ4 =>
  if v3 = 0 then (
    some (0, μ4)
  ) else (
    (f_X8_emit σ μ4 t v1).bind fun μ5 =>
    K12 σ μ5 t x1 (x2 + 1)
  )
def f_X8_sum_b12 (rec : Nat → th_S → th_M → Nat → Int32 → Option (Int32 × th_M))  : Nat → th_S → th_M → Nat → Int32 → Int32 → Option (Int32 × th_M)
  | 0, _, _, _, _, _ => none
  | n + 1, σ, μ, t, x1, x2 =>
    if 160 ≤ x2 then (
      some (1, μ)
    ) else (
      (oI σ μ 8 t 7).bind fun v1 =>
      if v1 = 43 then (
        f_X8_sum_b37 rec (f_X8_sum_b12 rec n) σ μ t x1 x2
      ) else (
        (oI σ μ 8 t 7).bind fun v2 =>
        if v2 = 45 then (
          f_X8_sum_b37 rec (f_X8_sum_b12 rec n) σ μ t x1 x2
        ) else (
          some (1, μ)
        )
      )
    )
def fb_X8_sum (rec : Nat → th_S → th_M → Nat → Int32 → Option (Int32 × th_M)) (σ : th_S) (μ : th_M) (t : Nat) (x1 : Int32) : Option (Int32 × th_M) :=
  oC σ 8 t <|
  b2 (rec 5 σ μ t x1) fun v1 μ2 =>
  if v1 = 0 then (
    some (0, μ2)
  ) else (
    f_X8_sum_b12 rec  fu σ μ2 t x1 0
  )
def f_X8_product_b12 (rec : Nat → th_S → th_M → Nat → Int32 → Option (Int32 × th_M))  : Nat → th_S → th_M → Nat → Int32 → Int32 → Option (Int32 × th_M)
  | 0, _, _, _, _, _ => none
  | n + 1, σ, μ, t, x1, x2 =>
    if 160 ≤ x2 then (
      some (1, μ)
    ) else (
      (oI σ μ 8 t 7).bind fun v1 =>
      if v1 = 42 then (
        oC σ 8 t <|
        (f_X8_step σ μ t).bind fun μ2 =>
        b2 (rec 6 σ μ2 t x1) fun v3 μ4 =>
        if v3 = 0 then (
          some (0, μ4)
        ) else (
          (f_X8_emit σ μ4 t 42).bind fun μ5 =>
          f_X8_product_b12 rec n σ μ5 t x1 (x2 + 1)
        )
      ) else (
        some (1, μ)
      )
    )
def fb_X8_product (rec : Nat → th_S → th_M → Nat → Int32 → Option (Int32 × th_M)) (σ : th_S) (μ : th_M) (t : Nat) (x1 : Int32) : Option (Int32 × th_M) :=
  oC σ 8 t <|
  b2 (rec 6 σ μ t x1) fun v1 μ2 =>
  if v1 = 0 then (
    some (0, μ2)
  ) else (
    f_X8_product_b12 rec  fu σ μ2 t x1 0
  )
def f_X8_single_b53 (rec : Nat → th_S → th_M → Nat → Int32 → Option (Int32 × th_M))  (σ : th_S) (μ : th_M) (t : Nat) (x1 : Int32) : Option (Int32 × th_M) :=
  if x1 < 5 then (
    (oI σ μ 8 t 7).bind fun v1 =>
    if v1 = 45 then (
      oC σ 8 t <|
      (f_X8_step σ μ t).bind fun μ2 =>
      b2 (rec 6 σ μ2 t (x1 + 1)) fun v3 μ4 =>
      if v3 = 0 then (
        some (0, μ4)
      ) else (
        (f_X8_emit σ μ4 t 13).bind fun μ5 =>
        some (1, μ5)
      )
    ) else (
      (oI σ μ 8 t 7).bind fun v6 =>
      if v6 = 40 then (
        oC σ 8 t <|
        (f_X8_step σ μ t).bind fun μ7 =>
        b2 (rec 0 σ μ7 t (x1 + 1)) fun v8 μ9 =>
        if v8 = 0 then (
          some (0, μ9)
        ) else (
          b2 (f_X8_skip σ μ9 t 41) fun v10 μ11 =>
          if v10 = 0 then (
            some (0, μ11)
          ) else (
            some (1, μ11)
          )
        )
      ) else (
        some (0, μ)
      )
    )
  ) else (
    some (0, μ)
  )
def fb_X8_single (rec : Nat → th_S → th_M → Nat → Int32 → Option (Int32 × th_M)) (σ : th_S) (μ : th_M) (t : Nat) (x1 : Int32) : Option (Int32 × th_M) :=
  (oI σ μ 8 t 7).bind fun v1 =>
  if v1 = 12 then (
    (oI σ μ 8 t 8).bind fun v2 =>
    oC σ 8 t <|
    (f_X8_put σ μ t v2).bind fun μ3 =>
    (f_X8_step σ μ3 t).bind fun μ4 =>
    some (1, μ4)
  ) else (
    (oI σ μ 8 t 7).bind fun v5 =>
    if v5 < 0 then (
      f_X8_single_b53 rec σ μ t x1
    ) else (
      (oI σ μ 8 t 7).bind fun v6 =>
      if 6 ≤ v6 then (
        f_X8_single_b53 rec σ μ t x1
      ) else (
        (oI σ μ 8 t 7).bind fun v7 =>
        oC σ 8 t <|
        (f_X8_emit σ μ t v7).bind fun μ8 =>
        (f_X8_step σ μ8 t).bind fun μ9 =>
        some (1, μ9)
      )
    )
  )
def f_scc_X8_either : Nat → Nat → th_S → th_M → Nat → Int32 → Option (Int32 × th_M)
  | 0, _, _, _, _, _ => none
  | d + 1, k, σ, μ, t, x1 =>
    if k = 0 then fb_X8_either (f_scc_X8_either d) σ μ t x1 else
    if k = 1 then fb_X8_both (f_scc_X8_either d) σ μ t x1 else
    if k = 2 then fb_X8_denied (f_scc_X8_either d) σ μ t x1 else
    if k = 3 then fb_X8_compared (f_scc_X8_either d) σ μ t x1 else
    if k = 4 then fb_X8_sum (f_scc_X8_either d) σ μ t x1 else
    if k = 5 then fb_X8_product (f_scc_X8_either d) σ μ t x1 else
    fb_X8_single (f_scc_X8_either d) σ μ t x1
def f_X8_either (σ : th_S) (μ : th_M) (t : Nat) (x1 : Int32) : Option (Int32 × th_M) := f_scc_X8_either 64 0 σ μ t x1
def f_X8_both (σ : th_S) (μ : th_M) (t : Nat) (x1 : Int32) : Option (Int32 × th_M) := f_scc_X8_either 64 1 σ μ t x1
def f_X8_denied (σ : th_S) (μ : th_M) (t : Nat) (x1 : Int32) : Option (Int32 × th_M) := f_scc_X8_either 64 2 σ μ t x1
def f_X8_compared (σ : th_S) (μ : th_M) (t : Nat) (x1 : Int32) : Option (Int32 × th_M) := f_scc_X8_either 64 3 σ μ t x1
def f_X8_sum (σ : th_S) (μ : th_M) (t : Nat) (x1 : Int32) : Option (Int32 × th_M) := f_scc_X8_either 64 4 σ μ t x1
def f_X8_product (σ : th_S) (μ : th_M) (t : Nat) (x1 : Int32) : Option (Int32 × th_M) := f_scc_X8_either 64 5 σ μ t x1
def f_X8_single (σ : th_S) (μ : th_M) (t : Nat) (x1 : Int32) : Option (Int32 × th_M) := f_scc_X8_either 64 6 σ μ t x1
def f_X8_clauseOf (σ : th_S) (μ : th_M) (t : Nat) (x1 : Int32) : Option (Int32 × th_M) :=
  oC σ 8 t <|
  b2 (f_X8_skip σ μ t x1) fun v1 μ2 =>
  if v1 = 0 then (
    some (0, μ2)
  ) else (
    b2 (f_X8_either σ μ2 t 0) fun v3 μ4 =>
    if v3 = 0 then (
      some (0, μ4)
    ) else (
      b2 (f_X8_skip σ μ4 t 59) fun v5 μ6 =>
      if v5 = 0 then (
        some (0, μ6)
      ) else (
        some (1, μ6)
      )
    )
  )
def f_X8_read_b16  : Nat → th_S → th_M → Nat → Int32 → Option (Int32 × th_M)
  | 0, _, _, _, _ => none
  | n + 1, σ, μ, t, x1 =>
    if 3 ≤ x1 then (
      (oI σ μ 8 t 7).bind fun v1 =>
      if v1 = (-1) then (
        some ((-1), μ)
      ) else (
        (oI σ μ 8 t 5).bind fun v2 =>
        some (v2, μ)
      )
    ) else (
      oC σ 8 t <|
      b2 (f_X8_clauseOf σ μ t (6 + x1)) fun v3 μ4 =>
      if v3 = 0 then (
        (oI σ μ4 8 t 5).bind fun v5 =>
        some (v5, μ4)
      ) else (
        (oR σ 8 t 4).bind fun a6 =>
        (oI σ μ4 8 t 3).bind fun v7 =>
        (oS σ μ4 a6 x1 v7).bind fun μ8 =>
        f_X8_read_b16 n σ μ8 t (x1 + 1)
      )
    )
def f_X8_read (σ : th_S) (μ : th_M) (t : Nat) : Option (Int32 × th_M) :=
  (oPI σ μ 8 t 3 0).bind fun μ1 =>
  (oPI σ μ1 8 t 6 0).bind fun μ2 =>
  oC σ 8 t <|
  (f_X8_step σ μ2 t).bind fun μ3 =>
  f_X8_read_b16  fu σ μ3 t 0
def f_J7_copyOf_59c91 (σ : th_S) (μ : th_M) (x0 : Nat) (x1 : Int32) : Option (Nat × th_S × th_M) := oCp σ μ x0 x1
def f_X8_ruleRead (σ : th_S) (μ : th_M) (t : Nat) : Option (Nat × th_S × th_M) :=
  b3 (oN σ μ 5 4) fun a1 σ2 μ3 =>
  (oR σ2 8 t 2).bind fun a4 =>
  (oI σ2 μ3 8 t 3).bind fun v5 =>
  b3 (f_J7_copyOf_59c91 σ2 μ3 a4 v5) fun a6 σ7 μ8 =>
  (oR σ7 8 t 4).bind fun a9 =>
  b3 (f_J7_copyOf_59c91 σ7 μ8 a9 3) fun a10 σ11 μ12 =>
  b2 (f_X5_init σ11 μ12 a1 a6 a10) fun σ13 μ14 =>
  some (a1, σ13, μ14)
def f_X9_init (σ : th_S) (μ : th_M) (t : Nat) : Option (th_S × th_M) :=
  b3 (oN σ μ 12 7) fun a1 σ2 μ3 =>
  (oPR σ2 9 t 0 a1).bind fun σ4 =>
  (oPI σ4 μ3 9 t 1 1).bind fun μ5 =>
  (oPI σ4 μ5 9 t 2 1).bind fun μ6 =>
  b3 (oN σ4 μ6 12 896) fun a7 σ8 μ9 =>
  (oPR σ8 9 t 3 a7).bind fun σ10 =>
  some (σ10, μ9)
def f_J6_bitCount_0f7a4 (x0 : Int32) : Option (Int32) :=
  some ((((((((x0 - (((x0.toUInt32 >>> ((1 : Int32).toUInt32 &&& Int32.toUInt32 31)).toInt32) &&& 1431655765)) &&& 858993459) + ((((x0 - (((x0.toUInt32 >>> ((1 : Int32).toUInt32 &&& Int32.toUInt32 31)).toInt32) &&& 1431655765)).toUInt32 >>> ((2 : Int32).toUInt32 &&& Int32.toUInt32 31)).toInt32) &&& 858993459)) + (((((x0 - (((x0.toUInt32 >>> ((1 : Int32).toUInt32 &&& Int32.toUInt32 31)).toInt32) &&& 1431655765)) &&& 858993459) + ((((x0 - (((x0.toUInt32 >>> ((1 : Int32).toUInt32 &&& Int32.toUInt32 31)).toInt32) &&& 1431655765)).toUInt32 >>> ((2 : Int32).toUInt32 &&& Int32.toUInt32 31)).toInt32) &&& 858993459)).toUInt32 >>> ((4 : Int32).toUInt32 &&& Int32.toUInt32 31)).toInt32)) &&& 252645135) + (((((((x0 - (((x0.toUInt32 >>> ((1 : Int32).toUInt32 &&& Int32.toUInt32 31)).toInt32) &&& 1431655765)) &&& 858993459) + ((((x0 - (((x0.toUInt32 >>> ((1 : Int32).toUInt32 &&& Int32.toUInt32 31)).toInt32) &&& 1431655765)).toUInt32 >>> ((2 : Int32).toUInt32 &&& Int32.toUInt32 31)).toInt32) &&& 858993459)) + (((((x0 - (((x0.toUInt32 >>> ((1 : Int32).toUInt32 &&& Int32.toUInt32 31)).toInt32) &&& 1431655765)) &&& 858993459) + ((((x0 - (((x0.toUInt32 >>> ((1 : Int32).toUInt32 &&& Int32.toUInt32 31)).toInt32) &&& 1431655765)).toUInt32 >>> ((2 : Int32).toUInt32 &&& Int32.toUInt32 31)).toInt32) &&& 858993459)).toUInt32 >>> ((4 : Int32).toUInt32 &&& Int32.toUInt32 31)).toInt32)) &&& 252645135).toUInt32 >>> ((8 : Int32).toUInt32 &&& Int32.toUInt32 31)).toInt32)) + ((((((((x0 - (((x0.toUInt32 >>> ((1 : Int32).toUInt32 &&& Int32.toUInt32 31)).toInt32) &&& 1431655765)) &&& 858993459) + ((((x0 - (((x0.toUInt32 >>> ((1 : Int32).toUInt32 &&& Int32.toUInt32 31)).toInt32) &&& 1431655765)).toUInt32 >>> ((2 : Int32).toUInt32 &&& Int32.toUInt32 31)).toInt32) &&& 858993459)) + (((((x0 - (((x0.toUInt32 >>> ((1 : Int32).toUInt32 &&& Int32.toUInt32 31)).toInt32) &&& 1431655765)) &&& 858993459) + ((((x0 - (((x0.toUInt32 >>> ((1 : Int32).toUInt32 &&& Int32.toUInt32 31)).toInt32) &&& 1431655765)).toUInt32 >>> ((2 : Int32).toUInt32 &&& Int32.toUInt32 31)).toInt32) &&& 858993459)).toUInt32 >>> ((4 : Int32).toUInt32 &&& Int32.toUInt32 31)).toInt32)) &&& 252645135) + (((((((x0 - (((x0.toUInt32 >>> ((1 : Int32).toUInt32 &&& Int32.toUInt32 31)).toInt32) &&& 1431655765)) &&& 858993459) + ((((x0 - (((x0.toUInt32 >>> ((1 : Int32).toUInt32 &&& Int32.toUInt32 31)).toInt32) &&& 1431655765)).toUInt32 >>> ((2 : Int32).toUInt32 &&& Int32.toUInt32 31)).toInt32) &&& 858993459)) + (((((x0 - (((x0.toUInt32 >>> ((1 : Int32).toUInt32 &&& Int32.toUInt32 31)).toInt32) &&& 1431655765)) &&& 858993459) + ((((x0 - (((x0.toUInt32 >>> ((1 : Int32).toUInt32 &&& Int32.toUInt32 31)).toInt32) &&& 1431655765)).toUInt32 >>> ((2 : Int32).toUInt32 &&& Int32.toUInt32 31)).toInt32) &&& 858993459)).toUInt32 >>> ((4 : Int32).toUInt32 &&& Int32.toUInt32 31)).toInt32)) &&& 252645135).toUInt32 >>> ((8 : Int32).toUInt32 &&& Int32.toUInt32 31)).toInt32)).toUInt32 >>> ((16 : Int32).toUInt32 &&& Int32.toUInt32 31)).toInt32)) &&& 63)
def f_X10_far (x0 : Int32) (x1 : Int32) : Option (Int32) :=
  some ((jabs ((x0 / 8) - (x1 / 8))) + (jabs ((jrem x0 8) - (jrem x1 8))))
def f_X9_through_b107  (σ : th_S) (μ : th_M) (t : Nat) (x4 : Int32) (x7 : Int32) (x8 : Int32) : Option (Int32) :=
  (oR σ 9 t 3).bind fun a1 =>
  (oA σ μ a1 ((x7 * 7) + x4)).bind fun v2 =>
  some (x8 + v2)
def f_X9_through_b81  (σ : th_S) (μ : th_M) (t : Nat) (x4 : Int32) (x5 : Int32) (x7 : Int32) (x8 : Int32) : Option (Int32) :=
  (oR σ 9 t 0).bind fun a1 =>
  (oA σ μ a1 x4).bind fun v2 =>
  (f_X10_far v2 0).bind fun v3 =>
  (oI σ μ 9 t 2).bind fun v4 =>
  f_X9_through_b107 σ μ t x4 x7 (x8 + (v3 * ((v4 + x5) + 1)))
def f_X9_through_b31  (σ : th_S) (μ : th_M) (t : Nat) (x2 : Int32) (x4 : Int32) (x5 : Int32) (y0 : Int32) : Option (Int32) :=
  (oR σ 9 t 0).bind fun a1 =>
  (oA σ μ a1 x4).bind fun v2 =>
  (f_X10_far y0 v2).bind fun v3 =>
  (oI σ μ 9 t 2).bind fun v4 =>
  if (x2 &&& ((jshl 1 x4) ^^^ (-1))) = 0 then (
    f_X9_through_b81 σ μ t x4 x5 (x2 &&& ((jshl 1 x4) ^^^ (-1))) (v3 * (v4 + x5))
  ) else (
    (oI σ μ 9 t 1).bind fun v5 =>
    if (x5 + 1) = v5 then (
      f_X9_through_b81 σ μ t x4 x5 (x2 &&& ((jshl 1 x4) ^^^ (-1))) (v3 * (v4 + x5))
    ) else (
      f_X9_through_b107 σ μ t x4 (x2 &&& ((jshl 1 x4) ^^^ (-1))) (v3 * (v4 + x5))
    )
  )
def f_X9_through (σ : th_S) (μ : th_M) (t : Nat) (x1 : Int32) (x2 : Int32) (x3 : Int32) (x4 : Int32) : Option (Int32) :=
  (f_J6_bitCount_0f7a4 x1).bind fun v1 =>
  (f_J6_bitCount_0f7a4 x2).bind fun v2 =>
  (oI σ μ 9 t 1).bind fun v3 =>
  oG (¬ v3 = 0) <|
  if (jrem (v1 - v2) v3) = 0 then (
    f_X9_through_b31 σ μ t x2 x4 (jrem (v1 - v2) v3) 0
  ) else (
    (oR σ 9 t 0).bind fun a4 =>
    (oA σ μ a4 x3).bind fun v5 =>
    f_X9_through_b31 σ μ t x2 x4 (jrem (v1 - v2) v3) v5
  )
def f_X9_best_b9  : Nat → th_S → th_M → Nat → Int32 → Int32 → Int32 → Int32 → Int32 → Int32 → Option (Int32)
  | 0, _, _, _, _, _, _, _, _, _ => none
  | n + 1, σ, μ, t, x1, x2, x3, x4, x5, x6 =>
    if 7 ≤ x6 then (
      some x4
    ) else (
      if ((jshr x2 x6) &&& 1) = 0 then (
        f_X9_best_b9 n σ μ t x1 x2 x3 x4 x5 (x6 + 1)
      ) else (
        oC σ 9 t <|
        (f_X9_through σ μ t x1 x2 x3 x6).bind fun v1 =>
        if x4 = (-1) then (
          f_X9_best_b9 n σ μ t x1 x2 x3 x6 v1 (x6 + 1)
        ) else (
          if x5 ≤ v1 then (
            f_X9_best_b9 n σ μ t x1 x2 x3 x4 x5 (x6 + 1)
          ) else (
            f_X9_best_b9 n σ μ t x1 x2 x3 x6 v1 (x6 + 1)
          )
        )
      )
    )
def f_X9_best (σ : th_S) (μ : th_M) (t : Nat) (x1 : Int32) (x2 : Int32) (x3 : Int32) : Option (Int32) :=
  f_X9_best_b9  fu σ μ t x1 x2 x3 (-1) 0 0
def f_X9_minutes_b43 (K2 : th_S → th_M → Nat → Int32 → Int32 → Option (Int32 × th_M)) (K20 : th_S → th_M → Nat → Int32 → Int32 → Int32 → Option (Int32 × th_M)) (σ : th_S) (μ : th_M) (t : Nat) (x1 : Int32) (x2 : Int32) (x3 : Int32) : Option (Int32 × th_M) :=
  (oR σ 9 t 3).bind fun a1 =>
  oC σ 9 t <|
  (f_X9_best σ μ t x1 x2 x3).bind fun v2 =>
  (f_X9_through σ μ t x1 x2 x3 v2).bind fun v3 =>
  (oS σ μ a1 ((x2 * 7) + x3) v3).bind fun μ4 =>
  K20 σ μ4 t x1 x2 (x3 + 1)
def f_X9_minutes_b20 (K2 : th_S → th_M → Nat → Int32 → Int32 → Option (Int32 × th_M)) : Nat → th_S → th_M → Nat → Int32 → Int32 → Int32 → Option (Int32 × th_M)
  | 0, _, _, _, _, _, _ => none
  | n + 1, σ, μ, t, x1, x2, x3 =>
    if 7 ≤ x3 then (
      K2 σ μ t x1 (x2 + 1)
    ) else (
      if x2 = x1 then (
        f_X9_minutes_b43 K2 (f_X9_minutes_b20 K2 n) σ μ t x1 x2 x3
      ) else (
        if ((x1 &&& (x2 ^^^ (-1))) &&& (jshl 1 x3)) = 0 then (
          f_X9_minutes_b20 K2 n σ μ t x1 x2 (x3 + 1)
        ) else (
          f_X9_minutes_b43 K2 (f_X9_minutes_b20 K2 n) σ μ t x1 x2 x3
        )
      )
    )
def f_X9_minutes_b2  : Nat → th_S → th_M → Nat → Int32 → Int32 → Option (Int32 × th_M)
  | 0, _, _, _, _, _ => none
  | n + 1, σ, μ, t, x1, x2 =>
    if x1 < x2 then (
      (oR σ 9 t 3).bind fun a1 =>
      (oA σ μ a1 (x1 * 7)).bind fun v2 =>
      some (v2, μ)
    ) else (
      if (x2 &&& (x1 ^^^ (-1))) = 0 then (
        f_X9_minutes_b20 (f_X9_minutes_b2 n) fu σ μ t x1 x2 0
      ) else (
        f_X9_minutes_b2 n σ μ t x1 (x2 + 1)
      )
    )
def f_X9_minutes (σ : th_S) (μ : th_M) (t : Nat) (x1 : Int32) : Option (Int32 × th_M) :=
  f_X9_minutes_b2  fu σ μ t x1 1
def f_X9_fetchedAs_b14  : Nat → th_S → th_M → Nat → Int32 → Int32 → Int32 → Int32 → Int32 → Option (Int32 × th_M)
  | 0, _, _, _, _, _, _, _, _ => none
  | n + 1, σ, μ, t, x1, x2, x3, x4, x5 =>
    if x2 < x5 then (
      some ((-1), μ)
    ) else (
      if x3 = 0 then (
        some ((-1), μ)
      ) else (
        oC σ 9 t <|
        (f_X9_best σ μ t x1 x3 x4).bind fun v1 =>
        if x5 = x2 then (
          some (v1, μ)
        ) else (
          f_X9_fetchedAs_b14 n σ μ t x1 x2 (x3 &&& ((jshl 1 v1) ^^^ (-1))) v1 (x5 + 1)
        )
      )
    )
def f_X9_fetchedAs (σ : th_S) (μ : th_M) (t : Nat) (x1 : Int32) (x2 : Int32) : Option (Int32 × th_M) :=
  oC σ 9 t <|
  b2 (f_X9_minutes σ μ t x1) fun v1 μ2 =>
  f_X9_fetchedAs_b14  fu σ μ2 t x1 x2 x1 0 1
def f_X10_init_b141  : Nat → th_S → th_M → Nat → Int32 → Option (th_S × th_M)
  | 0, _, _, _, _ => none
  | n + 1, σ, μ, t, x1 =>
    (f_J0_length_8abf5 0).bind fun v1 =>
    if v1 ≤ x1 then (
      (oR σ 10 t 5).bind fun a2 =>
      oC σ 8 a2 <|
      b2 (f_X8_read σ μ a2) fun v3 μ4 =>
      (oR σ 10 t 6).bind fun a5 =>
      (oR σ 10 t 5).bind fun a6 =>
      oC σ 8 a6 <|
      b3 (f_X8_ruleRead σ μ4 a6) fun a7 σ8 μ9 =>
      (oSQ σ8 14 a5 0 a7).bind fun σ10 =>
      (oPI σ10 μ9 10 t 7 1).bind fun μ11 =>
      (oR σ10 10 t 5).bind fun a12 =>
      oC σ10 8 a12 <|
      (f_X8_empty σ10 μ11 a12).bind fun μ13 =>
      some (σ10, μ13)
    ) else (
      (oR σ 10 t 5).bind fun a14 =>
      (f_J0_charAt_5068e 0 x1).bind fun v15 =>
      oC σ 8 a14 <|
      b2 (f_X8_add σ μ a14 v15) fun v16 μ17 =>
      f_X10_init_b141 n σ μ17 t (x1 + 1)
    )
def f_X10_init_b115  : Nat → th_S → th_M → Nat → Int32 → Option (th_S × th_M)
  | 0, _, _, _, _ => none
  | n + 1, σ, μ, t, x1 =>
    if 4 ≤ x1 then (
      f_X10_init_b141  fu σ μ t 0
    ) else (
      (oR σ 10 t 11).bind fun a1 =>
      b3 (oN σ μ 6 3) fun a2 σ3 μ4 =>
      b2 (f_X6_init σ3 μ4 a2) fun σ5 μ6 =>
      (oSQ σ5 15 a1 x1 a2).bind fun σ7 =>
      f_X10_init_b115 n σ7 μ6 t (x1 + 1)
    )
def f_X10_init (σ : th_S) (μ : th_M) (t : Nat) : Option (th_S × th_M) :=
  b3 (oN σ μ 13 7) fun a1 σ2 μ3 =>
  (oPR σ2 10 t 0 a1).bind fun σ4 =>
  b3 (oN σ4 μ3 12 12) fun a5 σ6 μ7 =>
  (oPR σ6 10 t 2 a5).bind fun σ8 =>
  b3 (oN σ8 μ7 12 12) fun a9 σ10 μ11 =>
  (oPR σ10 10 t 3 a9).bind fun σ12 =>
  (oPI σ12 μ11 10 t 4 (-1)).bind fun μ13 =>
  b3 (oN σ12 μ13 8 9) fun a14 σ15 μ16 =>
  b2 (f_X8_init σ15 μ16 a14) fun σ17 μ18 =>
  (oPR σ17 10 t 5 a14).bind fun σ19 =>
  b3 (oN σ19 μ18 14 6) fun a20 σ21 μ22 =>
  (oPR σ21 10 t 6 a20).bind fun σ23 =>
  b3 (oN σ23 μ22 12 6) fun a24 σ25 μ26 =>
  (oPR σ25 10 t 8 a24).bind fun σ27 =>
  b3 (oN σ27 μ26 9 4) fun a28 σ29 μ30 =>
  b2 (f_X9_init σ29 μ30 a28) fun σ31 μ32 =>
  (oPR σ31 10 t 9 a28).bind fun σ33 =>
  b3 (oN σ33 μ32 12 7) fun a34 σ35 μ36 =>
  (oPR σ35 10 t 10 a34).bind fun σ37 =>
  b3 (oN σ37 μ36 15 4) fun a38 σ39 μ40 =>
  (oPR σ39 10 t 11 a38).bind fun σ41 =>
  (oR σ41 10 t 2).bind fun a42 =>
  (oSn σ41 μ40 a42 4 27).bind fun μ43 =>
  (oR σ41 10 t 2).bind fun a44 =>
  (oSn σ41 μ43 a44 6 2).bind fun μ45 =>
  (oR σ41 10 t 2).bind fun a46 =>
  (oSn σ41 μ45 a46 7 1).bind fun μ47 =>
  f_X10_init_b115  5 σ41 μ47 t 0
def f_X10_fits (σ : th_S) (μ : th_M) (x0 : Int32) (x1 : Int32) : Option (Int32) :=
  (oZ th_least x0).bind fun v1 =>
  if x1 < v1 then (
    some 0
  ) else (
    (oZ th_most x0).bind fun v2 =>
    if v2 < x1 then (
      some 0
    ) else (
      some 1
    )
  )
def f_X10_newBoat (σ : th_S) (μ : th_M) (x0 : Int32) (x1 : Int32) (x2 : Int32) : Option (Nat × th_S × th_M) :=
  if x0 = 1 then (
    b3 (oN σ μ 7 2) fun a1 σ2 μ3 =>
    b2 (f_X7_init σ2 μ3 a1 x1 x2) fun σ4 μ5 =>
    some (a1, σ4, μ5)
  ) else
  if x0 = 2 then (
    b3 (oN σ μ 4 2) fun a6 σ7 μ8 =>
    b2 (f_X4_init σ7 μ8 a6 x1 x2) fun σ9 μ10 =>
    some (a6, σ9, μ10)
  ) else
  if x0 = 3 then (
    b3 (oN σ μ 2 2) fun a11 σ12 μ13 =>
    b2 (f_X2_init σ12 μ13 a11 x1 x2) fun σ14 μ15 =>
    some (a11, σ14, μ15)
  ) else
  if x0 = 4 then (
    b3 (oN σ μ 1 2) fun a16 σ17 μ18 =>
    b2 (f_X1_init σ17 μ18 a16 x1 x2) fun σ19 μ20 =>
    some (a16, σ19, μ20)
  ) else
  if x0 = 5 then (
    b3 (oN σ μ 3 2) fun a21 σ22 μ23 =>
    b2 (f_X3_init σ22 μ23 a21 x1 x2) fun σ24 μ25 =>
    some (a21, σ24, μ25)
  ) else
  (
    b3 (oN σ μ 0 2) fun a26 σ27 μ28 =>
    b2 (f_X0_init σ27 μ28 a26 x1 x2) fun σ29 μ30 =>
    some (a26, σ29, μ30)
  )
def f_X10_boat (σ : th_S) (μ : th_M) (t : Nat) (x1 : Int32) (x2 : Int32) (x3 : Int32) : Option (Int32 × th_S × th_M) :=
  if x1 < 0 then (
    some ((-2), σ, μ)
  ) else (
    if 5 < x1 then (
      some ((-2), σ, μ)
    ) else (
      if x2 < 0 then (
        some ((-2), σ, μ)
      ) else (
        if 0 ≤ x3 then (
          (f_X10_fits σ μ 0 (x2 / 100)).bind fun v1 =>
          if v1 = 0 then (
            some ((-2), σ, μ)
          ) else (
            (f_X10_fits σ μ 3 (jrem x2 100)).bind fun v2 =>
            if v2 = 0 then (
              some ((-2), σ, μ)
            ) else (
              (f_X10_fits σ μ 2 (x3 / 1000)).bind fun v3 =>
              if v3 = 0 then (
                some ((-2), σ, μ)
              ) else (
                (oI σ μ 10 t 1).bind fun v4 =>
                if v4 < 7 then (
                  (oR σ 10 t 0).bind fun a5 =>
                  (oI σ μ 10 t 1).bind fun v6 =>
                  b3 (f_X10_newBoat σ μ x1 x2 x3) fun a7 σ8 μ9 =>
                  (oSQ σ8 13 a5 v6 a7).bind fun σ10 =>
                  (oI σ10 μ9 10 t 1).bind fun v11 =>
                  (oPI σ10 μ9 10 t 1 (v11 + 1)).bind fun μ12 =>
                  (oI σ10 μ12 10 t 1).bind fun v13 =>
                  some (v13 - 1, σ10, μ12)
                ) else (
                  some ((-4), σ, μ)
                )
              )
            )
          )
        ) else (
          some ((-2), σ, μ)
        )
      )
    )
  )
def f_X10_isBoat (σ : th_S) (μ : th_M) (t : Nat) (x1 : Int32) : Option (Int32) :=
  if x1 < 0 then (
    some 0
  ) else (
    (oI σ μ 10 t 1).bind fun v1 =>
    if v1 ≤ x1 then (
      some 0
    ) else (
      some 1
    )
  )
def f_X10_set_b58  (σ : th_S) (μ : th_M) (x1 : Int32) (x3 : Int32) (y0 : Nat) : Option (Int32 × th_M) :=
  (oA σ μ y0 x1).bind fun v1 =>
  (oS σ μ y0 x1 x3).bind fun μ2 =>
  some (v1, μ2)
def f_X10_set_b37  (σ : th_S) (μ : th_M) (t : Nat) (x1 : Int32) (x2 : Int32) (x3 : Int32) : Option (Int32 × th_M) :=
  if 3 < x1 then (
    (oR σ 10 t 2).bind fun a1 =>
    f_X10_set_b58 σ μ x1 x3 a1
  ) else (
    (oR σ 10 t 0).bind fun a2 =>
    (oQ σ 13 a2 x2).bind fun a3 =>
    (oB σ a3 0).bind fun a4 =>
    f_X10_set_b58 σ μ x1 x3 a4
  )
def f_X10_set (σ : th_S) (μ : th_M) (t : Nat) (x1 : Int32) (x2 : Int32) (x3 : Int32) : Option (Int32 × th_M) :=
  if x1 < 0 then (
    some ((-2), μ)
  ) else (
    if 8 < x1 then (
      some ((-2), μ)
    ) else (
      (f_X10_fits σ μ x1 x3).bind fun v1 =>
      if v1 = 0 then (
        some ((-2), μ)
      ) else (
        if 3 < x1 then (
          f_X10_set_b37 σ μ t x1 x2 x3
        ) else (
          oC σ 10 t <|
          (f_X10_isBoat σ μ t x2).bind fun v2 =>
          if v2 = 0 then (
            some ((-2), μ)
          ) else (
            f_X10_set_b37 σ μ t x1 x2 x3
          )
        )
      )
    )
  )
def f_X10_isHidden (σ : th_S) (μ : th_M) (t : Nat) (x1 : Int32) : Option (Int32) :=
  (oR σ 10 t 2).bind fun a1 =>
  (oAn σ μ a1 4).bind fun v2 =>
  if (x1 / 8) = (v2 / 8) then (
    (oR σ 10 t 2).bind fun a3 =>
    (oAn σ μ a3 4).bind fun v4 =>
    if (jrem x1 8) ≤ (jrem v4 8) then (
      some 0
    ) else (
      some 1
    )
  ) else (
    some 0
  )
def f_X10_nameAll_b54  (σ : th_S) (μ : th_M) (t : Nat) (x1 : Int32) (x3 : Int32) (y0 : Nat) (y1 : Int32) (y2 : Int32) : Option (th_M) :=
  (oS σ μ y0 y1 y2).bind fun μ1 =>
  (oR σ 10 t 8).bind fun a2 =>
  (oSn σ μ1 a2 4 x1).bind fun μ3 =>
  (oR σ 10 t 8).bind fun a4 =>
  (oSn σ μ3 a4 5 x3).bind fun μ5 =>
  some μ5
def f_X10_nameAll (σ : th_S) (μ : th_M) (t : Nat) (x1 : Int32) (x2 : Int32) (x3 : Int32) (x4 : Int32) : Option (th_M) :=
  (oR σ 10 t 8).bind fun a1 =>
  (f_X10_far 0 x2).bind fun v2 =>
  (oSn σ μ a1 0 v2).bind fun μ3 =>
  (oR σ 10 t 8).bind fun a4 =>
  (oSn σ μ3 a4 1 x4).bind fun μ5 =>
  (oR σ 10 t 8).bind fun a6 =>
  (oR σ 10 t 0).bind fun a7 =>
  (oQ σ 13 a7 x1).bind fun a8 =>
  (fD_due σ μ5 a8).bind fun v9 =>
  (oSn σ μ5 a6 2 (x3 - v9)).bind fun μ10 =>
  (oR σ 10 t 8).bind fun a11 =>
  oC σ 10 t <|
  (f_X10_isHidden σ μ10 t x2).bind fun v12 =>
  if v12 = 0 then (
    f_X10_nameAll_b54 σ μ10 t x1 x3 a11 3 0
  ) else (
    f_X10_nameAll_b54 σ μ10 t x1 x3 a11 3 1
  )
def f_X10_rule (σ : th_S) (μ : th_M) (t : Nat) : Option (Nat) :=
  (oR σ 10 t 6).bind fun a1 =>
  (oR σ 10 t 2).bind fun a2 =>
  (oAn σ μ a2 11).bind fun v3 =>
  (oQ σ 14 a1 v3).bind fun a4 =>
  some a4
def f_X10_wouldCome (σ : th_S) (μ : th_M) (t : Nat) (x1 : Int32) (x2 : Int32) (x3 : Int32) (x4 : Int32) : Option (Int32 × th_M) :=
  (f_X10_far 0 x2).bind fun v1 =>
  (oR σ 10 t 0).bind fun a2 =>
  (oQ σ 13 a2 x1).bind fun a3 =>
  (fD_hearsBy σ μ a3 x4).bind fun v4 =>
  if v1 ≤ v4 then (
    oC σ 10 t <|
    (f_X10_nameAll σ μ t x1 x2 x3 x4).bind fun μ5 =>
    (f_X10_rule σ μ5 t).bind fun a6 =>
    (oR σ 10 t 8).bind fun a7 =>
    oC σ 5 a6 <|
    b2 (f_X5_value σ μ5 a6 1 a7) fun v8 μ9 =>
    if v8 = 0 then (
      some (0, μ9)
    ) else (
      (f_X10_rule σ μ9 t).bind fun a10 =>
      (oR σ 10 t 8).bind fun a11 =>
      oC σ 5 a10 <|
      b2 (f_X5_value σ μ9 a10 2 a11) fun v12 μ13 =>
      if v12 = 0 then (
        some (0, μ13)
      ) else (
        some (1, μ13)
      )
    )
  ) else (
    some (0, μ)
  )
def f_X10_wouldComeNow (σ : th_S) (μ : th_M) (t : Nat) (x1 : Int32) : Option (Int32 × th_M) :=
  (oR σ 10 t 0).bind fun a1 =>
  (oQ σ 13 a1 x1).bind fun a2 =>
  (oB σ a2 0).bind fun a3 =>
  (oAn σ μ a3 0).bind fun v4 =>
  (oR σ 10 t 2).bind fun a5 =>
  (oAn σ μ a5 9).bind fun v6 =>
  (oR σ 10 t 2).bind fun a7 =>
  (oAn σ μ a7 5).bind fun v8 =>
  oC σ 10 t <|
  b2 (f_X10_wouldCome σ μ t x1 v4 v6 v8) fun v9 μ10 =>
  oG (v9 &&& 1 = v9) <|
  some (v9, μ10)
def f_X10_owed (σ : th_S) (μ : th_M) (t : Nat) (x1 : Int32) (x2 : Int32) : Option (Int32 × th_M) :=
  (oR σ 10 t 0).bind fun a1 =>
  (oQ σ 13 a1 x1).bind fun a2 =>
  (oB σ a2 0).bind fun a3 =>
  (oAn σ μ a3 0).bind fun v4 =>
  (oR σ 10 t 2).bind fun a5 =>
  (oAn σ μ a5 5).bind fun v6 =>
  oC σ 10 t <|
  (f_X10_nameAll σ μ t x1 v4 x2 v6).bind fun μ7 =>
  (f_X10_rule σ μ7 t).bind fun a8 =>
  (oR σ 10 t 8).bind fun a9 =>
  oC σ 5 a8 <|
  b2 (f_X5_value σ μ7 a8 0 a9) fun v10 μ11 =>
  (oR σ 10 t 0).bind fun a12 =>
  (oQ σ 13 a12 x1).bind fun a13 =>
  (oR σ 10 t 0).bind fun a14 =>
  (oQ σ 13 a14 x1).bind fun a15 =>
  (fD_due σ μ11 a15).bind fun v16 =>
  (fD_owesBy σ μ11 a13 (jmax 0 (x2 - v16)) (jmax 0 (jmin 99 v10))).bind fun v17 =>
  some (v17, μ11)
def f_X10_told (σ : th_S) (μ : th_M) (t : Nat) (x1 : Int32) (x2 : Int32) : Option (Int32 × th_M) :=
  oC σ 10 t <|
  (f_X10_isBoat σ μ t x1).bind fun v1 =>
  if v1 = 0 then (
    some ((-2), μ)
  ) else (
    (oR σ 10 t 0).bind fun a2 =>
    (oQ σ 13 a2 x1).bind fun a3 =>
    if x2 = 0 then (
      (oB σ a3 0).bind fun a4 =>
      (oAn σ μ a4 0).bind fun v5 =>
      some (v5, μ)
    ) else
    if x2 = 1 then (
      (oB σ a3 0).bind fun a6 =>
      (oAn σ μ a6 1).bind fun v7 =>
      some (v7, μ)
    ) else
    if x2 = 2 then (
      (oB σ a3 0).bind fun a8 =>
      (oAn σ μ a8 2).bind fun v9 =>
      some (v9, μ)
    ) else
    if x2 = 3 then (
      (oB σ a3 0).bind fun a10 =>
      (oAn σ μ a10 3).bind fun v11 =>
      some (v11, μ)
    ) else
    if x2 = 4 then (
      (fD_kind σ μ a3).bind fun v12 =>
      some (v12, μ)
    ) else
    if x2 = 5 then (
      (oB σ a3 0).bind fun a13 =>
      (oAn σ μ a13 4).bind fun v14 =>
      some (v14, μ)
    ) else
    if x2 = 6 then (
      (oB σ a3 0).bind fun a15 =>
      (oAn σ μ a15 5).bind fun v16 =>
      some (v16, μ)
    ) else
    if x2 = 7 then (
      (oR σ 10 t 2).bind fun a17 =>
      (oAn σ μ a17 5).bind fun v18 =>
      (fD_rowsBy σ μ a3 v18).bind fun v19 =>
      some (v19, μ)
    ) else
    if x2 = 8 then (
      (oR σ 10 t 2).bind fun a20 =>
      (oAn σ μ a20 5).bind fun v21 =>
      (fD_hearsBy σ μ a3 v21).bind fun v22 =>
      some (v22, μ)
    ) else
    if x2 = 9 then (
      b2 (f_X10_wouldComeNow σ μ t x1) fun v23 μ24 =>
      if v23 = 0 then (
        some (0, μ24)
      ) else (
        some (1, μ24)
      )
    ) else
    if x2 = 10 then (
      (oR σ 10 t 2).bind fun a25 =>
      (oAn σ μ a25 9).bind fun v26 =>
      b2 (f_X10_owed σ μ t x1 v26) fun v27 μ28 =>
      some (v27, μ28)
    ) else
    (
      some ((-2), μ)
    )
  )
def f_X10_feed (σ : th_S) (μ : th_M) (t : Nat) (x1 : Int32) : Option (Int32 × th_M) :=
  if x1 < 0 then (
    some ((-2), μ)
  ) else (
    if x1 ≤ 255 then (
      (oR σ 10 t 5).bind fun a1 =>
      oC σ 8 a1 <|
      b2 (f_X8_add σ μ a1 x1) fun v2 μ3 =>
      if v2 = 0 then (
        some ((-4), μ3)
      ) else (
        (oR σ 10 t 5).bind fun a4 =>
        (oI σ μ3 8 a4 1).bind fun v5 =>
        some (v5, μ3)
      )
    ) else (
      some ((-2), μ)
    )
  )
def f_X10_text_b51  (σ : th_S) (μ : th_M) (t : Nat) (x1 : Int32) : Option (Int32 × th_S × th_M) :=
  (oR σ 10 t 5).bind fun a1 =>
  oC σ 8 a1 <|
  (f_X8_empty σ μ a1).bind fun μ2 =>
  if x1 = (-1) then (
    (oI σ μ2 10 t 7).bind fun v3 =>
    some (v3 - 1, σ, μ2)
  ) else (
    some ((-100) - x1, σ, μ2)
  )
def f_X10_text (σ : th_S) (μ : th_M) (t : Nat) : Option (Int32 × th_S × th_M) :=
  (oI σ μ 10 t 7).bind fun v1 =>
  if v1 < 6 then (
    (oR σ 10 t 5).bind fun a2 =>
    oC σ 8 a2 <|
    b2 (f_X8_read σ μ a2) fun v3 μ4 =>
    if v3 = (-1) then (
      (oR σ 10 t 6).bind fun a5 =>
      (oI σ μ4 10 t 7).bind fun v6 =>
      (oR σ 10 t 5).bind fun a7 =>
      oC σ 8 a7 <|
      b3 (f_X8_ruleRead σ μ4 a7) fun a8 σ9 μ10 =>
      (oSQ σ9 14 a5 v6 a8).bind fun σ11 =>
      (oI σ11 μ10 10 t 7).bind fun v12 =>
      (oPI σ11 μ10 10 t 7 (v12 + 1)).bind fun μ13 =>
      f_X10_text_b51 σ11 μ13 t v3
    ) else (
      f_X10_text_b51 σ μ4 t v3
    )
  ) else (
    some ((-4), σ, μ)
  )
def f_X10_force (σ : th_S) (μ : th_M) (t : Nat) (x1 : Int32) : Option (Int32 × th_M) :=
  if x1 < 0 then (
    some ((-2), μ)
  ) else (
    (oI σ μ 10 t 7).bind fun v1 =>
    if x1 < v1 then (
      (oR σ 10 t 2).bind fun a2 =>
      (oAn σ μ a2 11).bind fun v3 =>
      (oR σ 10 t 2).bind fun a4 =>
      (oSn σ μ a4 11 x1).bind fun μ5 =>
      some (v3, μ5)
    ) else (
      some ((-2), μ)
    )
  )
def f_X10_isOnTheLake (σ : th_S) (μ : th_M) (t : Nat) (x1 : Int32) : Option (Int32) :=
  (oR σ 10 t 0).bind fun a1 =>
  (oQ σ 13 a1 x1).bind fun a2 =>
  (oB σ a2 0).bind fun a3 =>
  (oAn σ μ a3 4).bind fun v4 =>
  if v4 = 0 then (
    some 1
  ) else (
    some 0
  )
def f_X10_needs (σ : th_S) (μ : th_M) (t : Nat) (x1 : Int32) : Option (Int32) :=
  (oR σ 10 t 0).bind fun a1 =>
  (oQ σ 13 a1 x1).bind fun a2 =>
  (oB σ a2 0).bind fun a3 =>
  (oAn σ μ a3 0).bind fun v4 =>
  (f_X10_far 0 v4).bind fun v5 =>
  (oR σ 10 t 0).bind fun a6 =>
  (oQ σ 13 a6 x1).bind fun a7 =>
  (oR σ 10 t 2).bind fun a8 =>
  (oAn σ μ a8 5).bind fun v9 =>
  (fD_rowsBy σ μ a7 v9).bind fun v10 =>
  some (v5 * v10)
def f_X10_call (σ : th_S) (μ : th_M) (t : Nat) (x1 : Int32) : Option (Int32 × th_M) :=
  oC σ 10 t <|
  (f_X10_isBoat σ μ t x1).bind fun v1 =>
  if v1 = 0 then (
    some ((-2), μ)
  ) else (
    (f_X10_isOnTheLake σ μ t x1).bind fun v2 =>
    if v2 = 0 then (
      some ((-3), μ)
    ) else (
      b2 (f_X10_wouldComeNow σ μ t x1) fun v3 μ4 =>
      if v3 = 0 then (
        some (0, μ4)
      ) else (
        (oR σ 10 t 0).bind fun a5 =>
        (oQ σ 13 a5 x1).bind fun a6 =>
        (oB σ a6 0).bind fun a7 =>
        (oSn σ μ4 a7 4 1).bind fun μ8 =>
        (oR σ 10 t 0).bind fun a9 =>
        (oQ σ 13 a9 x1).bind fun a10 =>
        (oB σ a10 0).bind fun a11 =>
        (oR σ 10 t 2).bind fun a12 =>
        (oAn σ μ8 a12 9).bind fun v13 =>
        (f_X10_needs σ μ8 t x1).bind fun v14 =>
        (oSn σ μ8 a11 5 (v13 + v14)).bind fun μ15 =>
        some (1, μ15)
      )
    )
  )
def f_X10_comeIn (σ : th_S) (μ : th_M) (t : Nat) (x1 : Int32) (x2 : Int32) : Option (th_M) :=
  (oR σ 10 t 2).bind fun a1 =>
  (oAn σ μ a1 10).bind fun v2 =>
  oC σ 10 t <|
  b2 (f_X10_owed σ μ t x1 x2) fun v3 μ4 =>
  (oSn σ μ4 a1 10 (v2 + v3)).bind fun μ5 =>
  (oR σ 10 t 2).bind fun a6 =>
  (oR σ 10 t 2).bind fun a7 =>
  (oAn σ μ5 a7 8).bind fun v8 =>
  (oSn σ μ5 a6 8 (jmax 0 (v8 - 1))).bind fun μ9 =>
  (oR σ 10 t 0).bind fun a10 =>
  (oQ σ 13 a10 x1).bind fun a11 =>
  (oB σ a11 0).bind fun a12 =>
  (oSn σ μ9 a12 4 2).bind fun μ13 =>
  (oR σ 10 t 0).bind fun a14 =>
  (oQ σ 13 a14 x1).bind fun a15 =>
  (oB σ a15 0).bind fun a16 =>
  (oSn σ μ13 a16 5 x2).bind fun μ17 =>
  some μ17
def f_X10_pass_b26  : Nat → th_S → th_M → Nat → Int32 → Int32 → Option (Int32 × th_M)
  | 0, _, _, _, _, _ => none
  | n + 1, σ, μ, t, x2, x3 =>
    (oI σ μ 10 t 1).bind fun v1 =>
    if v1 ≤ x3 then (
      some (x2, μ)
    ) else (
      (oR σ 10 t 0).bind fun a2 =>
      (oQ σ 13 a2 x3).bind fun a3 =>
      (oB σ a3 0).bind fun a4 =>
      (oAn σ μ a4 4).bind fun v5 =>
      if v5 = 1 then (
        (oR σ 10 t 0).bind fun a6 =>
        (oQ σ 13 a6 x3).bind fun a7 =>
        (oB σ a7 0).bind fun a8 =>
        (oAn σ μ a8 5).bind fun v9 =>
        (oR σ 10 t 2).bind fun a10 =>
        (oAn σ μ a10 9).bind fun v11 =>
        if v11 < v9 then (
          f_X10_pass_b26 n σ μ t x2 (x3 + 1)
        ) else (
          (oR σ 10 t 0).bind fun a12 =>
          (oQ σ 13 a12 x3).bind fun a13 =>
          (oB σ a13 0).bind fun a14 =>
          (oAn σ μ a14 5).bind fun v15 =>
          oC σ 10 t <|
          (f_X10_comeIn σ μ t x3 v15).bind fun μ16 =>
          f_X10_pass_b26 n σ μ16 t (x2 + 1) (x3 + 1)
        )
      ) else (
        f_X10_pass_b26 n σ μ t x2 (x3 + 1)
      )
    )
def f_X10_pass (σ : th_S) (μ : th_M) (t : Nat) (x1 : Int32) : Option (Int32 × th_M) :=
  (oR σ 10 t 2).bind fun a1 =>
  (oR σ 10 t 2).bind fun a2 =>
  (oAn σ μ a2 9).bind fun v3 =>
  (oSn σ μ a1 9 (jmin 9999 (v3 + x1))).bind fun μ4 =>
  f_X10_pass_b26  fu σ μ4 t 0 0
def f_X10_time (σ : th_S) (μ : th_M) (t : Nat) (x1 : Int32) : Option (Int32 × th_M) :=
  if x1 < 0 then (
    some ((-2), μ)
  ) else (
    if x1 ≤ 240 then (
      oC σ 10 t <|
      b2 (f_X10_pass σ μ t x1) fun v1 μ2 =>
      some (v1, μ2)
    ) else (
      some ((-2), μ)
    )
  )
def f_X10_nobody_b4  : Nat → th_S → th_M → Nat → Int32 → Int32 → Option (Int32 × th_M)
  | 0, _, _, _, _, _ => none
  | n + 1, σ, μ, t, x1, x2 =>
    (oI σ μ 10 t 1).bind fun v1 =>
    if v1 ≤ x2 then (
      some (x1, μ)
    ) else (
      oC σ 10 t <|
      (f_X10_isOnTheLake σ μ t x2).bind fun v2 =>
      if v2 = 0 then (
        f_X10_nobody_b4 n σ μ t x1 (x2 + 1)
      ) else (
        b2 (f_X10_wouldComeNow σ μ t x2) fun v3 μ4 =>
        if v3 = 0 then (
          f_X10_nobody_b4 n σ μ4 t (x1 ||| (jshl 1 x2)) (x2 + 1)
        ) else (
          f_X10_nobody_b4 n σ μ4 t x1 (x2 + 1)
        )
      )
    )
def f_X10_nobody (σ : th_S) (μ : th_M) (t : Nat) : Option (Int32 × th_M) :=
  f_X10_nobody_b4  fu σ μ t 0 0
def f_X10_callAt_b40  : Nat → th_S → th_M → Nat → Int32 → Int32 → Int32 → Option (Int32 × th_M)
  | 0, _, _, _, _, _, _ => none
  | n + 1, σ, μ, t, x1, x2, x3 =>
    if 240 < x3 then (
      some ((-1), μ)
    ) else (
      (oR σ 10 t 2).bind fun a1 =>
      (oAn σ μ a1 9).bind fun v2 =>
      if (v2 + x3) < x2 then (
        f_X10_callAt_b40 n σ μ t x1 x2 (x3 + 1)
      ) else (
        (oR σ 10 t 0).bind fun a3 =>
        (oQ σ 13 a3 x1).bind fun a4 =>
        (oB σ a4 0).bind fun a5 =>
        (oAn σ μ a5 0).bind fun v6 =>
        (oR σ 10 t 2).bind fun a7 =>
        (oAn σ μ a7 5).bind fun v8 =>
        oC σ 10 t <|
        b2 (f_X10_wouldCome σ μ t x1 v6 (v2 + x3) v8) fun v9 μ10 =>
        if v9 = 0 then (
          f_X10_callAt_b40 n σ μ10 t x1 x2 (x3 + 1)
        ) else (
          some (x3, μ10)
        )
      )
    )
def f_X10_callAt (σ : th_S) (μ : th_M) (t : Nat) (x1 : Int32) : Option (Int32 × th_M) :=
  oC σ 10 t <|
  (f_X10_isBoat σ μ t x1).bind fun v1 =>
  if v1 = 0 then (
    some ((-2), μ)
  ) else (
    (f_X10_isOnTheLake σ μ t x1).bind fun v2 =>
    if v2 = 0 then (
      some ((-3), μ)
    ) else (
      (oR σ 10 t 0).bind fun a3 =>
      (oQ σ 13 a3 x1).bind fun a4 =>
      (fD_due σ μ a4).bind fun v5 =>
      (f_X10_needs σ μ t x1).bind fun v6 =>
      f_X10_callAt_b40  fu σ μ t x1 (v5 - v6) 0
    )
  )
def f_X10_comingAt (σ : th_S) (μ : th_M) (t : Nat) (x1 : Int32) : Option (Int32 × th_M) :=
  (oR σ 10 t 0).bind fun a1 =>
  (oQ σ 13 a1 x1).bind fun a2 =>
  (oB σ a2 0).bind fun a3 =>
  (oAn σ μ a3 4).bind fun v4 =>
  if v4 = 1 then (
    (oR σ 10 t 0).bind fun a5 =>
    (oQ σ 13 a5 x1).bind fun a6 =>
    (oB σ a6 0).bind fun a7 =>
    (oAn σ μ a7 5).bind fun v8 =>
    some (v8, μ)
  ) else (
    oC σ 10 t <|
    (f_X10_isOnTheLake σ μ t x1).bind fun v9 =>
    if v9 = 0 then (
      some ((-1), μ)
    ) else (
      b2 (f_X10_wouldComeNow σ μ t x1) fun v10 μ11 =>
      if v10 = 0 then (
        some ((-1), μ11)
      ) else (
        (oR σ 10 t 2).bind fun a12 =>
        (oAn σ μ11 a12 9).bind fun v13 =>
        (f_X10_needs σ μ11 t x1).bind fun v14 =>
        some (v13 + v14, μ11)
      )
    )
  )
def f_X10_allIn_b10  : Nat → th_S → th_M → Nat → Int32 → Int32 → Option (Int32 × th_M)
  | 0, _, _, _, _, _ => none
  | n + 1, σ, μ, t, x1, x2 =>
    (oI σ μ 10 t 1).bind fun v1 =>
    if v1 ≤ x2 then (
      some (x1, μ)
    ) else (
      oC σ 10 t <|
      b2 (f_X10_comingAt σ μ t x2) fun v2 μ3 =>
      f_X10_allIn_b10 n σ μ3 t (jmax x1 v2) (x2 + 1)
    )
def f_X10_allIn (σ : th_S) (μ : th_M) (t : Nat) : Option (Int32 × th_M) :=
  (oR σ 10 t 2).bind fun a1 =>
  (oAn σ μ a1 9).bind fun v2 =>
  f_X10_allIn_b10  fu σ μ t v2 0
def f_X10_those_b4  : Nat → th_S → th_M → Nat → Int32 → Int32 → Int32 → Option (Int32)
  | 0, _, _, _, _, _, _ => none
  | n + 1, σ, μ, t, x1, x2, x3 =>
    (oI σ μ 10 t 1).bind fun v1 =>
    if v1 ≤ x3 then (
      some x2
    ) else (
      (oR σ 10 t 0).bind fun a2 =>
      (oQ σ 13 a2 x3).bind fun a3 =>
      (oB σ a3 0).bind fun a4 =>
      (oAn σ μ a4 4).bind fun v5 =>
      if v5 = x1 then (
        f_X10_those_b4 n σ μ t x1 (x2 ||| (jshl 1 x3)) (x3 + 1)
      ) else (
        f_X10_those_b4 n σ μ t x1 x2 (x3 + 1)
      )
    )
def f_X10_those (σ : th_S) (μ : th_M) (t : Nat) (x1 : Int32) : Option (Int32) :=
  f_X10_those_b4  fu σ μ t x1 0 0
def f_X10_areOnTheLake (σ : th_S) (μ : th_M) (t : Nat) (x1 : Int32) : Option (Int32) :=
  oC σ 10 t <|
  (f_X10_those σ μ t 0).bind fun v1 =>
  if (x1 &&& (v1 ^^^ (-1))) = 0 then (
    some 1
  ) else (
    some 0
  )
def f_X10_readyTug_b2  : Nat → th_S → th_M → Nat → Int32 → Option (th_M)
  | 0, _, _, _, _ => none
  | n + 1, σ, μ, t, x1 =>
    (oI σ μ 10 t 1).bind fun v1 =>
    if v1 ≤ x1 then (
      (oR σ 10 t 9).bind fun a2 =>
      (oR σ 10 t 2).bind fun a3 =>
      (oAn σ μ a3 6).bind fun v4 =>
      (oPI σ μ 9 a2 1 v4).bind fun μ5 =>
      (oR σ 10 t 9).bind fun a6 =>
      (oR σ 10 t 2).bind fun a7 =>
      (oAn σ μ5 a7 7).bind fun v8 =>
      (oPI σ μ5 9 a6 2 v8).bind fun μ9 =>
      some μ9
    ) else (
      (oR σ 10 t 9).bind fun a10 =>
      (oR σ 9 a10 0).bind fun a11 =>
      (oR σ 10 t 0).bind fun a12 =>
      (oQ σ 13 a12 x1).bind fun a13 =>
      (oB σ a13 0).bind fun a14 =>
      (oAn σ μ a14 0).bind fun v15 =>
      (oS σ μ a11 x1 v15).bind fun μ16 =>
      f_X10_readyTug_b2 n σ μ16 t (x1 + 1)
    )
def f_X10_readyTug (σ : th_S) (μ : th_M) (t : Nat) : Option (th_M) :=
  f_X10_readyTug_b2  fu σ μ t 0
def f_X10_fetch (σ : th_S) (μ : th_M) (t : Nat) (x1 : Int32) (x2 : Int32) : Option (Int32 × th_M) :=
  oC σ 10 t <|
  (f_X10_areOnTheLake σ μ t x1).bind fun v1 =>
  if v1 = 0 then (
    some ((-2), μ)
  ) else (
    if x2 < 0 then (
      some ((-2), μ)
    ) else (
      if x2 ≤ 7 then (
        (f_X10_readyTug σ μ t).bind fun μ2 =>
        if x2 = 0 then (
          (oR σ 10 t 9).bind fun a3 =>
          oC σ 9 a3 <|
          b2 (f_X9_minutes σ μ2 a3 x1) fun v4 μ5 =>
          some (v4, μ5)
        ) else (
          (oR σ 10 t 9).bind fun a6 =>
          oC σ 9 a6 <|
          b2 (f_X9_fetchedAs σ μ2 a6 x1 x2) fun v7 μ8 =>
          some (v7, μ8)
        )
      ) else (
        some ((-2), μ)
      )
    )
  )
def f_X10_launch_b32  : Nat → th_S → th_M → Nat → Int32 → Int32 → Int32 → Option (Int32 × th_M)
  | 0, _, _, _, _, _, _ => none
  | n + 1, σ, μ, t, x1, x2, x3 =>
    (oI σ μ 10 t 1).bind fun v1 =>
    if v1 ≤ x3 then (
      some (x2, μ)
    ) else (
      if ((jshr x1 x3) &&& 1) = 1 then (
        (oR σ 10 t 2).bind fun a2 =>
        (oAn σ μ a2 9).bind fun v3 =>
        oC σ 10 t <|
        (f_X10_comeIn σ μ t x3 v3).bind fun μ4 =>
        f_X10_launch_b32 n σ μ4 t x1 x2 (x3 + 1)
      ) else (
        f_X10_launch_b32 n σ μ t x1 x2 (x3 + 1)
      )
    )
def f_X10_launch (σ : th_S) (μ : th_M) (t : Nat) (x1 : Int32) : Option (Int32 × th_M) :=
  oC σ 10 t <|
  (f_X10_areOnTheLake σ μ t x1).bind fun v1 =>
  if v1 = 0 then (
    some ((-2), μ)
  ) else (
    (f_X10_readyTug σ μ t).bind fun μ2 =>
    (oR σ 10 t 9).bind fun a3 =>
    oC σ 9 a3 <|
    b2 (f_X9_minutes σ μ2 a3 x1) fun v4 μ5 =>
    b2 (f_X10_pass σ μ5 t v4) fun v6 μ7 =>
    f_X10_launch_b32  fu σ μ7 t x1 v4 0
  )
def f_X10_one_b56 (K23 : th_S → th_M → Nat → Int32 → Int32 → Int32 → Int32 → Option (Int32 × th_M)) (σ : th_S) (μ : th_M) (t : Nat) (x1 : Int32) (x2 : Int32) (x3 : Int32) (x4 : Int32) (y0 : Int32) : Option (Int32 × th_M) :=
  if y0 = (-1) then (
    K23 σ μ t x1 x2 x3 (x4 + 1)
  ) else (
    if x2 = (-1) then (
      K23 σ μ t x1 x4 y0 (x4 + 1)
    ) else (
      if x3 ≤ y0 then (
        K23 σ μ t x1 x2 x3 (x4 + 1)
      ) else (
        K23 σ μ t x1 x4 y0 (x4 + 1)
      )
    )
  )
def f_X10_one_b23  : Nat → th_S → th_M → Nat → Int32 → Int32 → Int32 → Int32 → Option (Int32 × th_M)
  | 0, _, _, _, _, _, _, _ => none
  | n + 1, σ, μ, t, x1, x2, x3, x4 =>
    (oI σ μ 10 t 1).bind fun v1 =>
    if v1 ≤ x4 then (
      if x1 = 0 then (
        some (x2, μ)
      ) else (
        some (x3, μ)
      )
    ) else (
      oC σ 10 t <|
      (f_X10_isOnTheLake σ μ t x4).bind fun v2 =>
      if v2 = 0 then (
        f_X10_one_b56 (f_X10_one_b23 n) σ μ t x1 x2 x3 x4 (-1)
      ) else (
        (oR σ 10 t 9).bind fun a3 =>
        oC σ 9 a3 <|
        b2 (f_X9_minutes σ μ a3 (jshl 1 x4)) fun v4 μ5 =>
        f_X10_one_b56 (f_X10_one_b23 n) σ μ5 t x1 x2 x3 x4 v4
      )
    )
def f_X10_one (σ : th_S) (μ : th_M) (t : Nat) (x1 : Int32) : Option (Int32 × th_M) :=
  if x1 < 0 then (
    some ((-2), μ)
  ) else (
    if x1 ≤ 1 then (
      oC σ 10 t <|
      (f_X10_readyTug σ μ t).bind fun μ1 =>
      f_X10_one_b23  fu σ μ1 t x1 (-1) 0 0
    ) else (
      some ((-2), μ)
    )
  )
def f_X10_inBy_b8  : Nat → th_S → th_M → Nat → Int32 → Int32 → Int32 → Option (Int32 × th_M)
  | 0, _, _, _, _, _, _ => none
  | n + 1, σ, μ, t, x1, x2, x3 =>
    (oI σ μ 10 t 1).bind fun v1 =>
    if v1 ≤ x3 then (
      some (x2, μ)
    ) else (
      oC σ 10 t <|
      b2 (f_X10_comingAt σ μ t x3) fun v2 μ3 =>
      if v2 = (-1) then (
        f_X10_inBy_b8 n σ μ3 t x1 x2 (x3 + 1)
      ) else (
        if x1 < v2 then (
          f_X10_inBy_b8 n σ μ3 t x1 x2 (x3 + 1)
        ) else (
          f_X10_inBy_b8 n σ μ3 t x1 (x2 ||| (jshl 1 x3)) (x3 + 1)
        )
      )
    )
def f_X10_inBy (σ : th_S) (μ : th_M) (t : Nat) (x1 : Int32) : Option (Int32 × th_M) :=
  oC σ 10 t <|
  (f_X10_those σ μ t 2).bind fun v1 =>
  f_X10_inBy_b8  fu σ μ t x1 v1 0
def f_X10_mostFetched_b9  : Nat → th_S → th_M → Nat → Int32 → Int32 → Int32 → Int32 → Option (Int32 × th_M)
  | 0, _, _, _, _, _, _, _ => none
  | n + 1, σ, μ, t, x1, x2, x3, x4 =>
    if x4 ≤ 0 then (
      some (x3, μ)
    ) else (
      (f_J6_bitCount_0f7a4 x4).bind fun v1 =>
      if (x4 &&& (x1 ^^^ (-1))) = 0 then (
        if v1 ≤ x3 then (
          f_X10_mostFetched_b9 n σ μ t x1 x2 x3 (x4 + (-1))
        ) else (
          (oR σ 10 t 9).bind fun a2 =>
          oC σ 9 a2 <|
          b2 (f_X9_minutes σ μ a2 x4) fun v3 μ4 =>
          if x2 < v3 then (
            f_X10_mostFetched_b9 n σ μ4 t x1 x2 x3 (x4 + (-1))
          ) else (
            f_X10_mostFetched_b9 n σ μ4 t x1 x2 v1 (x4 + (-1))
          )
        )
      ) else (
        f_X10_mostFetched_b9 n σ μ t x1 x2 x3 (x4 + (-1))
      )
    )
def f_X10_mostFetched (σ : th_S) (μ : th_M) (t : Nat) (x1 : Int32) (x2 : Int32) : Option (Int32 × th_M) :=
  oC σ 10 t <|
  (f_X10_readyTug σ μ t).bind fun μ1 =>
  f_X10_mostFetched_b9  fu σ μ1 t x1 x2 0 x1
def f_X10_thunder (σ : th_S) (μ : th_M) (t : Nat) (x1 : Int32) (x2 : Int32) : Option (Int32 × th_M) :=
  if x1 < 0 then (
    some ((-2), μ)
  ) else (
    if 240 < x1 then (
      some ((-2), μ)
    ) else (
      if x2 < 0 then (
        some ((-2), μ)
      ) else (
        if x2 ≤ 1 then (
          if x2 = 0 then (
            (oR σ 10 t 2).bind fun a1 =>
            (oAn σ μ a1 9).bind fun v2 =>
            oC σ 10 t <|
            b2 (f_X10_inBy σ μ t (v2 + x1)) fun v3 μ4 =>
            some (v3, μ4)
          ) else (
            oC σ 10 t <|
            b2 (f_X10_nobody σ μ t) fun v5 μ6 =>
            b2 (f_X10_mostFetched σ μ6 t v5 x1) fun v7 μ8 =>
            some (v7, μ8)
          )
        ) else (
          some ((-2), μ)
        )
      )
    )
  )
def f_X10_putInOrder_b2  : Nat → th_S → th_M → Nat → Int32 → Int32 → Option (th_M)
  | 0, _, _, _, _, _ => none
  | n + 1, σ, μ, t, x1, x3 =>
    if x3 ≤ 0 then (
      (oR σ 10 t 10).bind fun a1 =>
      (oS σ μ a1 x3 x1).bind fun μ2 =>
      some μ2
    ) else (
      (oR σ 10 t 10).bind fun a3 =>
      (oA σ μ a3 (x3 - 1)).bind fun v4 =>
      if v4 ≤ x1 then (
        (oR σ 10 t 10).bind fun a5 =>
        (oS σ μ a5 x3 x1).bind fun μ6 =>
        some μ6
      ) else (
        (oR σ 10 t 10).bind fun a7 =>
        (oR σ 10 t 10).bind fun a8 =>
        (oA σ μ a8 (x3 - 1)).bind fun v9 =>
        (oS σ μ a7 x3 v9).bind fun μ10 =>
        f_X10_putInOrder_b2 n σ μ10 t x1 (x3 + (-1))
      )
    )
def f_X10_putInOrder (σ : th_S) (μ : th_M) (t : Nat) (x1 : Int32) (x2 : Int32) : Option (th_M) :=
  f_X10_putInOrder_b2  fu σ μ t x1 x2
def f_X10_orderComing_b4  : Nat → th_S → th_M → Nat → Int32 → Int32 → Option (Int32 × th_M)
  | 0, _, _, _, _, _ => none
  | n + 1, σ, μ, t, x1, x2 =>
    (oI σ μ 10 t 1).bind fun v1 =>
    if v1 ≤ x2 then (
      some (x1, μ)
    ) else (
      oC σ 10 t <|
      b2 (f_X10_comingAt σ μ t x2) fun v2 μ3 =>
      if v2 = (-1) then (
        f_X10_orderComing_b4 n σ μ3 t x1 (x2 + 1)
      ) else (
        (f_X10_putInOrder σ μ3 t v2 x1).bind fun μ4 =>
        f_X10_orderComing_b4 n σ μ4 t (x1 + 1) (x2 + 1)
      )
    )
def f_X10_orderComing (σ : th_S) (μ : th_M) (t : Nat) : Option (Int32 × th_M) :=
  f_X10_orderComing_b4  fu σ μ t 0 0
def f_X10_stand_b9  : Nat → th_S → th_M → Nat → Int32 → Int32 → Int32 → Option (Int32 × th_M)
  | 0, _, _, _, _, _, _ => none
  | n + 1, σ, μ, t, x1, x2, x3 =>
    (oR σ 10 t 2).bind fun a1 =>
    (oAn σ μ a1 8).bind fun v2 =>
    if v2 ≤ x3 then (
      some (x2, μ)
    ) else (
      if x1 ≤ x3 then (
        f_X10_stand_b9 n σ μ t x1 (x2 + 240) (x3 + 1)
      ) else (
        (oR σ 10 t 10).bind fun a3 =>
        (oA σ μ a3 x3).bind fun v4 =>
        (oR σ 10 t 2).bind fun a5 =>
        (oAn σ μ a5 9).bind fun v6 =>
        f_X10_stand_b9 n σ μ t x1 (x2 + (v4 - v6)) (x3 + 1)
      )
    )
def f_X10_stand (σ : th_S) (μ : th_M) (t : Nat) : Option (Int32 × th_M) :=
  oC σ 10 t <|
  b2 (f_X10_orderComing σ μ t) fun v1 μ2 =>
  f_X10_stand_b9  fu σ μ2 t v1 0 0
def f_X10_isSheet (x0 : Int32) : Option (Int32) :=
  if x0 < 0 then (
    some 0
  ) else (
    if 4 ≤ x0 then (
      some 0
    ) else (
      some 1
    )
  )
def f_X10_isTrue (σ : th_S) (μ : th_M) (t : Nat) (x1 : Int32) (x2 : Int32) : Option (Int32 × th_M) :=
  oC σ 10 t <|
  (f_X10_isBoat σ μ t x1).bind fun v1 =>
  if v1 = 0 then (
    some (0, μ)
  ) else (
    if x2 < 0 then (
      some (0, μ)
    ) else (
      if 1 < x2 then (
        some (0, μ)
      ) else (
        (f_X10_isOnTheLake σ μ t x1).bind fun v2 =>
        if v2 = 0 then (
          some (0, μ)
        ) else (
          b2 (f_X10_wouldComeNow σ μ t x1) fun v3 μ4 =>
          if x2 = 1 then (
            if v3 = 1 then (
              some (1, μ4)
            ) else (
              some (0, μ4)
            )
          ) else (
            if v3 = 0 then (
              some (1, μ4)
            ) else (
              some (0, μ4)
            )
          )
        )
      )
    )
  )
def f_X10_heard_b41  : Nat → th_S → th_M → Nat → Nat → Int32 → Option (Int32 × th_M)
  | 0, _, _, _, _, _ => none
  | n + 1, σ, μ, t, x2, x3 =>
    (oI σ μ 6 x2 2).bind fun v1 =>
    if (v1 / 2) ≤ x3 then (
      some ((-1), μ)
    ) else (
      oC σ 6 x2 <|
      (f_X6_at σ μ x2 (2 * x3)).bind fun v2 =>
      (f_X6_at σ μ x2 ((2 * x3) + 1)).bind fun v3 =>
      oC σ 10 t <|
      b2 (f_X10_isTrue σ μ t v2 v3) fun v4 μ5 =>
      if v4 = 0 then (
        some (x3, μ5)
      ) else (
        f_X10_heard_b41 n σ μ5 t x2 (x3 + 1)
      )
    )
def f_X10_heard (σ : th_S) (μ : th_M) (t : Nat) (x1 : Int32) : Option (Int32 × th_M) :=
  (f_X10_isSheet x1).bind fun v1 =>
  if v1 = 0 then (
    some ((-2), μ)
  ) else (
    (oR σ 10 t 11).bind fun a2 =>
    (oQ σ 15 a2 x1).bind fun a3 =>
    oC σ 6 a3 <|
    (f_X6_isMissing σ μ a3).bind fun v4 =>
    if v4 = 0 then (
      (oI σ μ 6 a3 2).bind fun v5 =>
      if (jrem v5 2) = 0 then (
        f_X10_heard_b41  fu σ μ t a3 0
      ) else (
        some ((-2), μ)
      )
    ) else (
      some ((-11), μ)
    )
  )
def f_X10_where_b26  : Nat → th_S → th_M → Nat → Int32 → Int32 → Int32 → Int32 → Option (Int32 × th_M)
  | 0, _, _, _, _, _, _, _ => none
  | n + 1, σ, μ, t, x1, x2, x3, x4 =>
    if 8 ≤ x4 then (
      some (x3, μ)
    ) else (
      (oR σ 10 t 2).bind fun a1 =>
      (oAn σ μ a1 9).bind fun v2 =>
      (oR σ 10 t 2).bind fun a3 =>
      (oAn σ μ a3 5).bind fun v4 =>
      oC σ 10 t <|
      b2 (f_X10_wouldCome σ μ t x1 ((8 * x2) + x4) v2 v4) fun v5 μ6 =>
      if v5 = 0 then (
        f_X10_where_b26 n σ μ6 t x1 x2 x3 (x4 + 1)
      ) else (
        f_X10_where_b26 n σ μ6 t x1 x2 (x3 ||| (jshl 1 x4)) (x4 + 1)
      )
    )
def f_X10_where (σ : th_S) (μ : th_M) (t : Nat) (x1 : Int32) (x2 : Int32) : Option (Int32 × th_M) :=
  oC σ 10 t <|
  (f_X10_isBoat σ μ t x1).bind fun v1 =>
  if v1 = 0 then (
    some ((-2), μ)
  ) else (
    if x2 < 0 then (
      some ((-2), μ)
    ) else (
      if x2 < 6 then (
        f_X10_where_b26  fu σ μ t x1 x2 0 0
      ) else (
        some ((-2), μ)
      )
    )
  )
def f_X10_drawnWind (x0 : Int32) : Option (Int32) :=
  some (jrem ((((x0 * 1103515245) + 12345).toUInt32 >>> ((10 : Int32).toUInt32 &&& Int32.toUInt32 31)).toInt32) 10)
def f_X10_drawn_b10  : Nat → th_S → th_M → Nat → Int32 → Int32 → Int32 → Option (Int32 × th_M)
  | 0, _, _, _, _, _, _ => none
  | n + 1, σ, μ, t, x2, x3, x4 =>
    (oI σ μ 10 t 1).bind fun v1 =>
    if v1 ≤ x4 then (
      some (x3, μ)
    ) else (
      oC σ 10 t <|
      (f_X10_isOnTheLake σ μ t x4).bind fun v2 =>
      if v2 = 0 then (
        f_X10_drawn_b10 n σ μ t x2 x3 (x4 + 1)
      ) else (
        (oR σ 10 t 0).bind fun a3 =>
        (oQ σ 13 a3 x4).bind fun a4 =>
        (oB σ a4 0).bind fun a5 =>
        (oAn σ μ a5 0).bind fun v6 =>
        (oR σ 10 t 2).bind fun a7 =>
        (oAn σ μ a7 9).bind fun v8 =>
        b2 (f_X10_wouldCome σ μ t x4 v6 v8 x2) fun v9 μ10 =>
        if v9 = 0 then (
          f_X10_drawn_b10 n σ μ10 t x2 x3 (x4 + 1)
        ) else (
          f_X10_drawn_b10 n σ μ10 t x2 (x3 + 1) (x4 + 1)
        )
      )
    )
def f_X10_drawn (σ : th_S) (μ : th_M) (t : Nat) (x1 : Int32) : Option (Int32 × th_M) :=
  (f_X10_drawnWind x1).bind fun v1 =>
  f_X10_drawn_b10  fu σ μ t v1 0 0
def f_X10_commonDivisor_b2  : Nat → Int32 → Int32 → Int32 → Option (Int32)
  | 0, _, _, _ => none
  | n + 1, x0, x1, x2 =>
    if x2 ≤ 1 then (
      some 1
    ) else (
      oG (¬ x2 = 0) <|
      if (jrem x0 x2) = 0 then (
        oG (¬ x2 = 0) <|
        if (jrem x1 x2) = 0 then (
          some x2
        ) else (
          f_X10_commonDivisor_b2 n x0 x1 (x2 + (-1))
        )
      ) else (
        f_X10_commonDivisor_b2 n x0 x1 (x2 + (-1))
      )
    )
def f_X10_commonDivisor (x0 : Int32) (x1 : Int32) : Option (Int32) :=
  f_X10_commonDivisor_b2  fu x0 x1 x1
def f_X10_chance_b40  : Nat → th_S → th_M → Nat → Int32 → Int32 → Int32 → Int32 → Int32 → Int32 → Option (Int64 × th_M)
  | 0, _, _, _, _, _, _, _, _, _ => none
  | n + 1, σ, μ, t, x1, x2, x3, x4, x5, x6 =>
    if x2 ≤ x6 then (
      (f_X10_commonDivisor x4 x2).bind fun v1 =>
      if x3 = 0 then (
        oG (¬ v1 = 0) <|
        some ((x4 / v1).toInt64, μ)
      ) else (
        oG (¬ v1 = 0) <|
        some ((x2 / v1).toInt64, μ)
      )
    ) else (
      oC σ 10 t <|
      b2 (f_X10_drawn σ μ t (x1 + x6)) fun v2 μ3 =>
      if v2 = x5 then (
        f_X10_chance_b40 n σ μ3 t x1 x2 x3 (x4 + 1) x5 (x6 + 1)
      ) else (
        f_X10_chance_b40 n σ μ3 t x1 x2 x3 x4 x5 (x6 + 1)
      )
    )
def f_X10_chance (σ : th_S) (μ : th_M) (t : Nat) (x1 : Int32) (x2 : Int32) (x3 : Int32) : Option (Int64 × th_M) :=
  if x2 < 1 then (
    some ((-4611686018427387904), μ)
  ) else (
    if 20 < x2 then (
      some ((-4611686018427387904), μ)
    ) else (
      if x3 < 0 then (
        some ((-4611686018427387904), μ)
      ) else (
        if x3 ≤ 1 then (
          oC σ 10 t <|
          (f_X10_those σ μ t 0).bind fun v1 =>
          (f_J6_bitCount_0f7a4 v1).bind fun v2 =>
          f_X10_chance_b40  fu σ μ t x1 x2 x3 0 v2 0
        ) else (
          some ((-4611686018427387904), μ)
        )
      )
    )
  )
def f_X10_image_b17  : Nat → th_S → th_M → Nat → Int32 → Option (Int32 × th_M)
  | 0, _, _, _, _ => none
  | n + 1, σ, μ, t, x1 =>
    (oI σ μ 10 t 1).bind fun v1 =>
    if v1 ≤ x1 then (
      (oI σ μ 10 t 1).bind fun v2 =>
      (oPI σ μ 10 t 4 v2).bind fun μ3 =>
      (oI σ μ3 10 t 1).bind fun v4 =>
      some (v4, μ3)
    ) else (
      (oR σ 10 t 0).bind fun a5 =>
      (oQ σ 13 a5 x1).bind fun a6 =>
      (fD_keep σ μ a6).bind fun μ7 =>
      f_X10_image_b17 n σ μ7 t (x1 + 1)
    )
def f_X10_image (σ : th_S) (μ : th_M) (t : Nat) : Option (Int32 × th_M) :=
  (oR σ 10 t 2).bind fun a1 =>
  (oR σ 10 t 3).bind fun a2 =>
  (oXn σ μ a1 a2 12).bind fun μ3 =>
  f_X10_image_b17  fu σ μ3 t 0
def f_X10_back_b36  : Nat → th_S → th_M → Nat → Int32 → Option (Int32 × th_M)
  | 0, _, _, _, _ => none
  | n + 1, σ, μ, t, x1 =>
    (oI σ μ 10 t 1).bind fun v1 =>
    if v1 ≤ x1 then (
      (oI σ μ 10 t 1).bind fun v2 =>
      some (v2, μ)
    ) else (
      (oR σ 10 t 0).bind fun a3 =>
      (oQ σ 13 a3 x1).bind fun a4 =>
      (fD_layBack σ μ a4).bind fun μ5 =>
      f_X10_back_b36 n σ μ5 t (x1 + 1)
    )
def f_X10_back (σ : th_S) (μ : th_M) (t : Nat) : Option (Int32 × th_M) :=
  (oI σ μ 10 t 4).bind fun v1 =>
  if v1 = (-1) then (
    some ((-3), μ)
  ) else (
    (oR σ 10 t 3).bind fun a2 =>
    (oR σ 10 t 2).bind fun a3 =>
    (oXn σ μ a2 a3 12).bind fun μ4 =>
    (oI σ μ4 10 t 4).bind fun v5 =>
    (oPI σ μ4 10 t 1 v5).bind fun μ6 =>
    f_X10_back_b36  fu σ μ6 t 0
  )
def f_X10_count (σ : th_S) (μ : th_M) (t : Nat) (x1 : Int32) : Option (Int32) :=
  if x1 = 0 then (
    (oI σ μ 10 t 1).bind fun v1 =>
    some v1
  ) else
  if x1 = 1 then (
    oC σ 10 t <|
    (f_X10_those σ μ t 0).bind fun v2 =>
    (f_J6_bitCount_0f7a4 v2).bind fun v3 =>
    some v3
  ) else
  if x1 = 2 then (
    oC σ 10 t <|
    (f_X10_those σ μ t 1).bind fun v4 =>
    (f_J6_bitCount_0f7a4 v4).bind fun v5 =>
    some v5
  ) else
  if x1 = 3 then (
    oC σ 10 t <|
    (f_X10_those σ μ t 2).bind fun v6 =>
    (f_J6_bitCount_0f7a4 v6).bind fun v7 =>
    some v7
  ) else
  if x1 = 4 then (
    (oR σ 10 t 2).bind fun a8 =>
    (oAn σ μ a8 9).bind fun v9 =>
    some v9
  ) else
  if x1 = 5 then (
    (oR σ 10 t 2).bind fun a10 =>
    (oAn σ μ a10 10).bind fun v11 =>
    some v11
  ) else
  if x1 = 6 then (
    (oR σ 10 t 2).bind fun a12 =>
    (oAn σ μ a12 8).bind fun v13 =>
    some v13
  ) else
  if x1 = 7 then (
    (oI σ μ 10 t 7).bind fun v14 =>
    some v14
  ) else
  if x1 = 8 then (
    (oR σ 10 t 5).bind fun a15 =>
    (oI σ μ 8 a15 1).bind fun v16 =>
    some v16
  ) else
  if x1 = 9 then (
    (oR σ 10 t 2).bind fun a17 =>
    (oAn σ μ a17 11).bind fun v18 =>
    some v18
  ) else
  (
    some (-2)
  )
def f_X10_sheet (σ : th_S) (μ : th_M) (t : Nat) (x1 : Int32) (x2 : Int32) (x3 : Int32) : Option (Int32 × th_M) :=
  (f_X10_isSheet x1).bind fun v1 =>
  if v1 = 0 then (
    some ((-2), μ)
  ) else (
    if x2 < (-1) then (
      some ((-2), μ)
    ) else (
      if x2 ≤ 2 then (
        if x2 = (-1) then (
          (oR σ 10 t 11).bind fun a2 =>
          (oQ σ 15 a2 x1).bind fun a3 =>
          oC σ 6 a3 <|
          (f_X6_become σ μ a3 x2 0).bind fun μ4 =>
          some (1, μ4)
        ) else (
          if x3 ≤ 40 then (
            if 0 ≤ x3 then (
              (oR σ 10 t 11).bind fun a5 =>
              (oQ σ 15 a5 x1).bind fun a6 =>
              oC σ 6 a6 <|
              (f_X6_become σ μ a6 x2 x3).bind fun μ7 =>
              some (1, μ7)
            ) else (
              some ((-14), μ)
            )
          ) else (
            some ((-2), μ)
          )
        )
      ) else (
        some ((-2), μ)
      )
    )
  )
def f_X10_cell (σ : th_S) (μ : th_M) (t : Nat) (x1 : Int32) (x2 : Int32) (x3 : Int32) : Option (Int32 × th_M) :=
  (f_X10_isSheet x1).bind fun v1 =>
  if v1 = 0 then (
    some ((-2), μ)
  ) else (
    (oR σ 10 t 11).bind fun a2 =>
    (oQ σ 15 a2 x1).bind fun a3 =>
    oC σ 6 a3 <|
    (f_X6_isMissing σ μ a3).bind fun v4 =>
    if v4 = 0 then (
      (oR σ 10 t 11).bind fun a5 =>
      (oQ σ 15 a5 x1).bind fun a6 =>
      oC σ 6 a6 <|
      (f_X6_has σ μ a6 x2.toInt64 1).bind fun v7 =>
      if v7 = 0 then (
        some ((-12), μ)
      ) else (
        (oR σ 10 t 11).bind fun a8 =>
        (oQ σ 15 a8 x1).bind fun a9 =>
        oC σ 6 a9 <|
        (f_X6_put σ μ a9 x2 x3).bind fun μ10 =>
        some (1, μ10)
      )
    ) else (
      some ((-11), μ)
    )
  )
def f_X10_copy (σ : th_S) (μ : th_M) (t : Nat) (x1 : Int32) (x2 : Int32) (x3 : Int32) (x4 : Int32) (x5 : Int32) : Option (Int32 × th_M) :=
  (f_X10_isSheet x1).bind fun v1 =>
  if v1 = 0 then (
    some ((-2), μ)
  ) else (
    (f_X10_isSheet x3).bind fun v2 =>
    if v2 = 0 then (
      some ((-2), μ)
    ) else (
      (oR σ 10 t 11).bind fun a3 =>
      (oQ σ 15 a3 x1).bind fun a4 =>
      (oR σ 10 t 11).bind fun a5 =>
      (oQ σ 15 a5 x3).bind fun a6 =>
      oC σ 6 a4 <|
      (f_X6_isMissing σ μ a4).bind fun v7 =>
      if v7 = 0 then (
        oC σ 6 a6 <|
        (f_X6_isMissing σ μ a6).bind fun v8 =>
        if v8 = 0 then (
          (oI σ μ 6 a4 1).bind fun v9 =>
          (oI σ μ 6 a6 1).bind fun v10 =>
          if v9 = v10 then (
            (f_X6_has σ μ a4 x2.toInt64 x5).bind fun v11 =>
            if v11 = 0 then (
              some ((-12), μ)
            ) else (
              (f_X6_has σ μ a6 x4.toInt64 x5).bind fun v12 =>
              if v12 = 0 then (
                some ((-12), μ)
              ) else (
                (oR σ 6 a4 0).bind fun a13 =>
                (oR σ 6 a6 0).bind fun a14 =>
                (oX σ μ a13 x2 a14 x4 x5).bind fun μ15 =>
                some (x5, μ15)
              )
            )
          ) else (
            some ((-13), μ)
          )
        ) else (
          some ((-11), μ)
        )
      ) else (
        some ((-11), μ)
      )
    )
  )
def f_X10_boats_b76  : Nat → th_S → th_M → Nat → Int32 → Int32 → Nat → Int32 → Int32 → Option (Int32 × th_S × th_M)
  | 0, _, _, _, _, _, _, _, _ => none
  | n + 1, σ, μ, t, x3, x4, x5, x6, x7 =>
    if x4 ≤ x7 then (
      some (x6, σ, μ)
    ) else (
      oC σ 6 x5 <|
      (f_X6_has σ μ x5 (x3.toInt64 + (3 * x7.toInt64)) 3).bind fun v1 =>
      if v1 = 0 then (
        some ((-12), σ, μ)
      ) else (
        (f_X6_at σ μ x5 (x3 + (3 * x7))).bind fun v2 =>
        (f_X6_at σ μ x5 ((x3 + (3 * x7)) + 1)).bind fun v3 =>
        (f_X6_at σ μ x5 ((x3 + (3 * x7)) + 2)).bind fun v4 =>
        oC σ 10 t <|
        b3 (f_X10_boat σ μ t v2 v3 v4) fun v5 σ6 μ7 =>
        if v5 < 0 then (
          f_X10_boats_b76 n σ6 μ7 t x3 x4 x5 x6 (x7 + 1)
        ) else (
          f_X10_boats_b76 n σ6 μ7 t x3 x4 x5 (x6 + 1) (x7 + 1)
        )
      )
    )
def f_X10_boats_b59  (σ : th_S) (μ : th_M) (t : Nat) (x3 : Int32) (x4 : Int32) (x5 : Nat) : Option (Int32 × th_S × th_M) :=
  oC σ 6 x5 <|
  (f_X6_isMissing σ μ x5).bind fun v1 =>
  if v1 = 0 then (
    f_X10_boats_b76  8 σ μ t x3 x4 x5 0 0
  ) else (
    some ((-11), σ, μ)
  )
def f_X10_boats (σ : th_S) (μ : th_M) (t : Nat) (x1 : Int32) (x2 : Int32) (x3 : Int32) (x4 : Int32) : Option (Int32 × th_S × th_M) :=
  (f_X10_isSheet x1).bind fun v1 =>
  if v1 = 0 then (
    some ((-2), σ, μ)
  ) else (
    if x2 < 0 then (
      some ((-2), σ, μ)
    ) else (
      if 2 < x2 then (
        some ((-2), σ, μ)
      ) else (
        if x4 < 0 then (
          some ((-2), σ, μ)
        ) else (
          if x4 ≤ 7 then (
            (oR σ 10 t 11).bind fun a2 =>
            (oQ σ 15 a2 x1).bind fun a3 =>
            oC σ 6 a3 <|
            (f_X6_isMissing σ μ a3).bind fun v4 =>
            if v4 = 0 then (
              (oI σ μ 6 a3 1).bind fun v5 =>
              if v5 = x2 then (
                f_X10_boats_b59 σ μ t x3 x4 a3
              ) else (
                some ((-13), σ, μ)
              )
            ) else (
              f_X10_boats_b59 σ μ t x3 x4 a3
            )
          ) else (
            some ((-2), σ, μ)
          )
        )
      )
    )
  )
def f_X10_isOf (σ : th_S) (μ : th_M) (x0 : Nat) (x1 : Int32) : Option (Int32) :=
  if x1 = 1 then (
    (oIn σ x0 is_7).bind fun v1 =>
    oG (v1 &&& 1 = v1) <|
    some v1
  ) else
  if x1 = 2 then (
    (oIn σ x0 is_4).bind fun v2 =>
    oG (v2 &&& 1 = v2) <|
    some v2
  ) else
  if x1 = 3 then (
    (oIn σ x0 is_2).bind fun v3 =>
    oG (v3 &&& 1 = v3) <|
    some v3
  ) else
  if x1 = 4 then (
    (oIn σ x0 is_1).bind fun v4 =>
    oG (v4 &&& 1 = v4) <|
    some v4
  ) else
  if x1 = 5 then (
    (oIn σ x0 is_3).bind fun v5 =>
    oG (v5 &&& 1 = v5) <|
    some v5
  ) else
  (
    some 1
  )
def f_X10_taken (σ : th_S) (μ : th_M) (t : Nat) (x1 : Int32) (x2 : Int32) : Option (Int32) :=
  if x2 < 0 then (
    some (-2)
  ) else (
    if x2 ≤ 5 then (
      oC σ 10 t <|
      (f_X10_isBoat σ μ t x1).bind fun v1 =>
      if v1 = 0 then (
        some (-11)
      ) else (
        (oR σ 10 t 0).bind fun a2 =>
        (oQ σ 13 a2 x1).bind fun a3 =>
        (f_X10_isOf σ μ a3 x2).bind fun v4 =>
        if v4 = 0 then (
          some (-13)
        ) else (
          (oR σ 10 t 0).bind fun a5 =>
          (oQ σ 13 a5 x1).bind fun a6 =>
          (oB σ a6 0).bind fun a7 =>
          (oAn σ μ a7 3).bind fun v8 =>
          some v8
        )
      )
    ) else (
      some (-2)
    )
  )
def f_X11_within (x0 : Int32) (x1 : Int32) (x2 : Int32) : Option (Int32) :=
  if x0 < x1 then (
    some 0
  ) else (
    if x2 < x0 then (
      some 0
    ) else (
      some 1
    )
  )
def f_X11_feed (σ : th_S) (μ : th_M) (t : Nat) (x1 : Int32) : Option (Int32 × th_M) :=
  (f_X11_within x1 0 255).bind fun v1 =>
  if v1 = 0 then (
    some ((-2), μ)
  ) else (
    (oI σ μ 11 t 15).bind fun v2 =>
    if v2 = 160 then (
      some ((-4), μ)
    ) else (
      (oR σ 11 t 16).bind fun a3 =>
      (oI σ μ 11 t 15).bind fun v4 =>
      (oPI σ μ 11 t 15 (v4 + 1)).bind fun μ5 =>
      (oS σ μ5 a3 v4 x1).bind fun μ6 =>
      (oI σ μ6 11 t 15).bind fun v7 =>
      some (v7, μ6)
    )
  )
def f_X11_isDigit (x0 : Int32) : Option (Int32) :=
  if x0 < 48 then (
    some 0
  ) else (
    if 57 < x0 then (
      some 0
    ) else (
      some 1
    )
  )
def f_X11_isLetter (x0 : Int32) : Option (Int32) :=
  if x0 < 97 then (
    some 0
  ) else (
    if 122 < x0 then (
      some 0
    ) else (
      some 1
    )
  )
def f_X11_next_b205  : Nat → th_S → th_M → Nat → Option (th_M)
  | 0, _, _, _ => none
  | n + 1, σ, μ, t =>
    (oI σ μ 11 t 22).bind fun v1 =>
    (oI σ μ 11 t 15).bind fun v2 =>
    if v2 ≤ v1 then (
      (oPI σ μ 11 t 24 2).bind fun μ3 =>
      some μ3
    ) else (
      (oR σ 11 t 16).bind fun a4 =>
      (oI σ μ 11 t 22).bind fun v5 =>
      (oA σ μ a4 v5).bind fun v6 =>
      (f_X11_isLetter v6).bind fun v7 =>
      if v7 = 0 then (
        (oPI σ μ 11 t 24 2).bind fun μ8 =>
        some μ8
      ) else (
        (oI σ μ 11 t 22).bind fun v9 =>
        (oPI σ μ 11 t 22 (v9 + 1)).bind fun μ10 =>
        f_X11_next_b205 n σ μ10 t
      )
    )
def f_X11_next_b175  (σ : th_S) (μ : th_M) (t : Nat) : Option (th_M) :=
  (oI σ μ 11 t 22).bind fun v1 =>
  (oI σ μ 11 t 23).bind fun v2 =>
  if (v1 - v2) ≤ 4 then (
    (oPI σ μ 11 t 24 1).bind fun μ3 =>
    some μ3
  ) else (
    (oPI σ μ 11 t 24 4).bind fun μ4 =>
    some μ4
  )
def f_X11_next_b99  : Nat → th_S → th_M → Nat → Option (th_M)
  | 0, _, _, _ => none
  | n + 1, σ, μ, t =>
    (oI σ μ 11 t 22).bind fun v1 =>
    (oI σ μ 11 t 15).bind fun v2 =>
    if v2 ≤ v1 then (
      f_X11_next_b175 σ μ t
    ) else (
      (oR σ 11 t 16).bind fun a3 =>
      (oI σ μ 11 t 22).bind fun v4 =>
      (oA σ μ a3 v4).bind fun v5 =>
      (f_X11_isDigit v5).bind fun v6 =>
      if v6 = 0 then (
        f_X11_next_b175 σ μ t
      ) else (
        (oI σ μ 11 t 22).bind fun v7 =>
        (oI σ μ 11 t 23).bind fun v8 =>
        if 4 ≤ (v7 - v8) then (
          (oI σ μ 11 t 22).bind fun v9 =>
          (oPI σ μ 11 t 22 (v9 + 1)).bind fun μ10 =>
          f_X11_next_b99 n σ μ10 t
        ) else (
          (oI σ μ 11 t 25).bind fun v11 =>
          (oR σ 11 t 16).bind fun a12 =>
          (oI σ μ 11 t 22).bind fun v13 =>
          (oA σ μ a12 v13).bind fun v14 =>
          (oPI σ μ 11 t 25 (((10 * v11) + v14) - 48)).bind fun μ15 =>
          (oI σ μ15 11 t 22).bind fun v16 =>
          (oPI σ μ15 11 t 22 (v16 + 1)).bind fun μ17 =>
          f_X11_next_b99 n σ μ17 t
        )
      )
    )
def f_X11_next_b52  (σ : th_S) (μ : th_M) (t : Nat) : Option (th_M) :=
  (oI σ μ 11 t 22).bind fun v1 =>
  (oPI σ μ 11 t 23 v1).bind fun μ2 =>
  (oI σ μ2 11 t 22).bind fun v3 =>
  (oI σ μ2 11 t 15).bind fun v4 =>
  if v3 = v4 then (
    (oPI σ μ2 11 t 24 0).bind fun μ5 =>
    some μ5
  ) else (
    (oR σ 11 t 16).bind fun a6 =>
    (oI σ μ2 11 t 22).bind fun v7 =>
    (oA σ μ2 a6 v7).bind fun v8 =>
    (f_X11_isDigit v8).bind fun v9 =>
    if v9 = 0 then (
      (f_X11_isLetter v8).bind fun v10 =>
      if v10 = 0 then (
        (oI σ μ2 11 t 22).bind fun v11 =>
        (oPI σ μ2 11 t 22 (v11 + 1)).bind fun μ12 =>
        (oPI σ μ12 11 t 25 v8).bind fun μ13 =>
        if v8 = 40 then (
          (oPI σ μ13 11 t 24 3).bind fun μ14 =>
          some μ14
        ) else (
          if v8 = 41 then (
            (oPI σ μ13 11 t 24 3).bind fun μ15 =>
            some μ15
          ) else (
            if v8 = 59 then (
              (oPI σ μ13 11 t 24 3).bind fun μ16 =>
              some μ16
            ) else (
              if v8 = 43 then (
                (oPI σ μ13 11 t 24 3).bind fun μ17 =>
                some μ17
              ) else (
                if v8 = 45 then (
                  (oPI σ μ13 11 t 24 3).bind fun μ18 =>
                  some μ18
                ) else (
                  if v8 = 42 then (
                    (oPI σ μ13 11 t 24 3).bind fun μ19 =>
                    some μ19
                  ) else (
                    if v8 = 60 then (
                      (oPI σ μ13 11 t 24 3).bind fun μ20 =>
                      some μ20
                    ) else (
                      if v8 = 61 then (
                        (oPI σ μ13 11 t 24 3).bind fun μ21 =>
                        some μ21
                      ) else (
                        (oPI σ μ13 11 t 24 4).bind fun μ22 =>
                        some μ22
                      )
                    )
                  )
                )
              )
            )
          )
        )
      ) else (
        f_X11_next_b205  fu σ μ2 t
      )
    ) else (
      (oPI σ μ2 11 t 25 0).bind fun μ23 =>
      f_X11_next_b99  fu σ μ23 t
    )
  )
def f_X11_next_b0  : Nat → th_S → th_M → Nat → Option (th_M)
  | 0, _, _, _ => none
  | n + 1, σ, μ, t =>
    (oI σ μ 11 t 22).bind fun v1 =>
    (oI σ μ 11 t 15).bind fun v2 =>
    if v2 ≤ v1 then (
      f_X11_next_b52 σ μ t
    ) else (
      (oR σ 11 t 16).bind fun a3 =>
      (oI σ μ 11 t 22).bind fun v4 =>
      (oA σ μ a3 v4).bind fun v5 =>
      if v5 = 32 then (
        (oI σ μ 11 t 22).bind fun v6 =>
        (oPI σ μ 11 t 22 (v6 + 1)).bind fun μ7 =>
        f_X11_next_b0 n σ μ7 t
      ) else (
        (oR σ 11 t 16).bind fun a8 =>
        (oI σ μ 11 t 22).bind fun v9 =>
        (oA σ μ a8 v9).bind fun v10 =>
        if v10 = 10 then (
          (oI σ μ 11 t 22).bind fun v11 =>
          (oPI σ μ 11 t 22 (v11 + 1)).bind fun μ12 =>
          f_X11_next_b0 n σ μ12 t
        ) else (
          f_X11_next_b52 σ μ t
        )
      )
    )
def f_X11_next (σ : th_S) (μ : th_M) (t : Nat) : Option (th_M) :=
  f_X11_next_b0  fu σ μ t
def f_X11_is_b28  : Nat → th_S → th_M → Nat → Nat → Int32 → Option (Int32)
  | 0, _, _, _, _, _ => none
  | n + 1, σ, μ, t, x1, x2 =>
    (f_J0_length_8abf5 x1).bind fun v1 =>
    if v1 ≤ x2 then (
      some 1
    ) else (
      (oR σ 11 t 16).bind fun a2 =>
      (oI σ μ 11 t 23).bind fun v3 =>
      (oA σ μ a2 (v3 + x2)).bind fun v4 =>
      (f_J0_charAt_5068e x1 x2).bind fun v5 =>
      if v4 = v5 then (
        f_X11_is_b28 n σ μ t x1 (x2 + 1)
      ) else (
        some 0
      )
    )
def f_X11_is (σ : th_S) (μ : th_M) (t : Nat) (x1 : Nat) : Option (Int32) :=
  (oI σ μ 11 t 24).bind fun v1 =>
  if v1 = 2 then (
    (oI σ μ 11 t 22).bind fun v2 =>
    (oI σ μ 11 t 23).bind fun v3 =>
    (f_J0_length_8abf5 x1).bind fun v4 =>
    if (v2 - v3) = v4 then (
      f_X11_is_b28  fu σ μ t x1 0
    ) else (
      some 0
    )
  ) else (
    some 0
  )
def f_X11_put (σ : th_S) (μ : th_M) (t : Nat) (x1 : Int32) : Option (th_M) :=
  (oR σ 11 t 19).bind fun a1 =>
  (oI σ μ 11 t 17).bind fun v2 =>
  (oI σ μ 11 t 21).bind fun v3 =>
  (oPI σ μ 11 t 21 (v3 + 1)).bind fun μ4 =>
  (oS σ μ4 a1 ((170 * v2) + v3) x1).bind fun μ5 =>
  some μ5
def f_X11_name (σ : th_S) (μ : th_M) (t : Nat) : Option (Int32) :=
  oC σ 11 t <|
  (f_X11_is σ μ t 1).bind fun v1 =>
  if v1 = 0 then (
    (f_X11_is σ μ t 2).bind fun v2 =>
    if v2 = 0 then (
      (f_X11_is σ μ t 3).bind fun v3 =>
      if v3 = 0 then (
        (f_X11_is σ μ t 4).bind fun v4 =>
        if v4 = 0 then (
          (f_X11_is σ μ t 5).bind fun v5 =>
          if v5 = 0 then (
            (f_X11_is σ μ t 6).bind fun v6 =>
            if v6 = 0 then (
              some 0
            ) else (
              some 6
            )
          ) else (
            some 5
          )
        ) else (
          some 4
        )
      ) else (
        some 3
      )
    ) else (
      some 2
    )
  ) else (
    some 1
  )
def f_X11_is_ (σ : th_S) (μ : th_M) (t : Nat) (x1 : Int32) : Option (Int32) :=
  (oI σ μ 11 t 24).bind fun v1 =>
  if v1 = 3 then (
    (oI σ μ 11 t 25).bind fun v2 =>
    if v2 = x1 then (
      some 1
    ) else (
      some 0
    )
  ) else (
    some 0
  )
def f_X11_any_b9 (rec : Nat → th_S → th_M → Nat → Option (Int32 × th_M))  : Nat → th_S → th_M → Nat → Option (Int32 × th_M)
  | 0, _, _, _ => none
  | n + 1, σ, μ, t =>
    oC σ 11 t <|
    (f_X11_is σ μ t 10).bind fun v1 =>
    if v1 = 0 then (
      some (1, μ)
    ) else (
      (f_X11_next σ μ t).bind fun μ2 =>
      b2 (rec 1 σ μ2 t) fun v3 μ4 =>
      if v3 = 0 then (
        some (0, μ4)
      ) else (
        (f_X11_put σ μ4 t (-11)).bind fun μ5 =>
        f_X11_any_b9 rec n σ μ5 t
      )
    )
def fb_X11_any (rec : Nat → th_S → th_M → Nat → Option (Int32 × th_M)) (σ : th_S) (μ : th_M) (t : Nat) : Option (Int32 × th_M) :=
  oC σ 11 t <|
  b2 (rec 1 σ μ t) fun v1 μ2 =>
  if v1 = 0 then (
    some (0, μ2)
  ) else (
    f_X11_any_b9 rec  fu σ μ2 t
  )
def f_X11_both_b9 (rec : Nat → th_S → th_M → Nat → Option (Int32 × th_M))  : Nat → th_S → th_M → Nat → Option (Int32 × th_M)
  | 0, _, _, _ => none
  | n + 1, σ, μ, t =>
    oC σ 11 t <|
    (f_X11_is σ μ t 11).bind fun v1 =>
    if v1 = 0 then (
      some (1, μ)
    ) else (
      (f_X11_next σ μ t).bind fun μ2 =>
      b2 (rec 2 σ μ2 t) fun v3 μ4 =>
      if v3 = 0 then (
        some (0, μ4)
      ) else (
        (f_X11_put σ μ4 t (-12)).bind fun μ5 =>
        f_X11_both_b9 rec n σ μ5 t
      )
    )
def fb_X11_both (rec : Nat → th_S → th_M → Nat → Option (Int32 × th_M)) (σ : th_S) (μ : th_M) (t : Nat) : Option (Int32 × th_M) :=
  oC σ 11 t <|
  b2 (rec 2 σ μ t) fun v1 μ2 =>
  if v1 = 0 then (
    some (0, μ2)
  ) else (
    f_X11_both_b9 rec  fu σ μ2 t
  )
def f_X11_not_b103 (rec : Nat → th_S → th_M → Nat → Option (Int32 × th_M))  (σ : th_S) (μ : th_M) (t : Nat) (y0 : Int32) : Option (Int32 × th_M) :=
  oC σ 11 t <|
  (f_X11_next σ μ t).bind fun μ1 =>
  b2 (rec 3 σ μ1 t) fun v2 μ3 =>
  if v2 = 0 then (
    some (0, μ3)
  ) else (
    (f_X11_put σ μ3 t y0).bind fun μ4 =>
    some (1, μ4)
  )
def fb_X11_not (rec : Nat → th_S → th_M → Nat → Option (Int32 × th_M)) (σ : th_S) (μ : th_M) (t : Nat) : Option (Int32 × th_M) :=
  oC σ 11 t <|
  (f_X11_is σ μ t 12).bind fun v1 =>
  if v1 = 0 then (
    b2 (rec 3 σ μ t) fun v2 μ3 =>
    if v2 = 0 then (
      some (0, μ3)
    ) else (
      (f_X11_is_ σ μ3 t 60).bind fun v4 =>
      if v4 = 0 then (
        (f_X11_is_ σ μ3 t 61).bind fun v5 =>
        if v5 = 0 then (
          some (1, μ3)
        ) else (
          (f_X11_is_ σ μ3 t 60).bind fun v6 =>
          if v6 = 0 then (
            f_X11_not_b103 rec σ μ3 t (-15)
          ) else (
            f_X11_not_b103 rec σ μ3 t (-14)
          )
        )
      ) else (
        (f_X11_is_ σ μ3 t 60).bind fun v7 =>
        if v7 = 0 then (
          f_X11_not_b103 rec σ μ3 t (-15)
        ) else (
          f_X11_not_b103 rec σ μ3 t (-14)
        )
      )
    )
  ) else (
    (oI σ μ 11 t 26).bind fun v8 =>
    if v8 = 5 then (
      some (0, μ)
    ) else (
      (oI σ μ 11 t 26).bind fun v9 =>
      (oPI σ μ 11 t 26 (v9 + 1)).bind fun μ10 =>
      (f_X11_next σ μ10 t).bind fun μ11 =>
      b2 (rec 2 σ μ11 t) fun v12 μ13 =>
      if v12 = 0 then (
        some (0, μ13)
      ) else (
        (oI σ μ13 11 t 26).bind fun v14 =>
        (oPI σ μ13 11 t 26 (v14 - 1)).bind fun μ15 =>
        (f_X11_put σ μ15 t (-13)).bind fun μ16 =>
        some (1, μ16)
      )
    )
  )
def f_X11_sum_b43 (rec : Nat → th_S → th_M → Nat → Option (Int32 × th_M)) (K9 : th_S → th_M → Nat → Option (Int32 × th_M)) (σ : th_S) (μ : th_M) (t : Nat) (y0 : Int32) : Option (Int32 × th_M) :=
  oC σ 11 t <|
  (f_X11_next σ μ t).bind fun μ1 =>
  b2 (rec 4 σ μ1 t) fun v2 μ3 =>
  if v2 = 0 then (
    some (0, μ3)
  ) else (
    (f_X11_put σ μ3 t y0).bind fun μ4 =>
    K9 σ μ4 t
  )
def f_X11_sum_b9 (rec : Nat → th_S → th_M → Nat → Option (Int32 × th_M))  : Nat → th_S → th_M → Nat → Option (Int32 × th_M)
  | 0, _, _, _ => none
  | n + 1, σ, μ, t =>
    oC σ 11 t <|
    (f_X11_is_ σ μ t 43).bind fun v1 =>
    if v1 = 0 then (
      (f_X11_is_ σ μ t 45).bind fun v2 =>
      if v2 = 0 then (
        some (1, μ)
      ) else (
        (f_X11_is_ σ μ t 43).bind fun v3 =>
        if v3 = 0 then (
          f_X11_sum_b43 rec (f_X11_sum_b9 rec n) σ μ t (-17)
        ) else (
          f_X11_sum_b43 rec (f_X11_sum_b9 rec n) σ μ t (-16)
        )
      )
    ) else (
      (f_X11_is_ σ μ t 43).bind fun v4 =>
      if v4 = 0 then (
        f_X11_sum_b43 rec (f_X11_sum_b9 rec n) σ μ t (-17)
      ) else (
        f_X11_sum_b43 rec (f_X11_sum_b9 rec n) σ μ t (-16)
      )
    )
def fb_X11_sum (rec : Nat → th_S → th_M → Nat → Option (Int32 × th_M)) (σ : th_S) (μ : th_M) (t : Nat) : Option (Int32 × th_M) :=
  oC σ 11 t <|
  b2 (rec 4 σ μ t) fun v1 μ2 =>
  if v1 = 0 then (
    some (0, μ2)
  ) else (
    f_X11_sum_b9 rec  fu σ μ2 t
  )
def f_X11_term_b9 (rec : Nat → th_S → th_M → Nat → Option (Int32 × th_M))  : Nat → th_S → th_M → Nat → Option (Int32 × th_M)
  | 0, _, _, _ => none
  | n + 1, σ, μ, t =>
    oC σ 11 t <|
    (f_X11_is_ σ μ t 42).bind fun v1 =>
    if v1 = 0 then (
      some (1, μ)
    ) else (
      (f_X11_next σ μ t).bind fun μ2 =>
      b2 (rec 5 σ μ2 t) fun v3 μ4 =>
      if v3 = 0 then (
        some (0, μ4)
      ) else (
        (f_X11_put σ μ4 t (-18)).bind fun μ5 =>
        f_X11_term_b9 rec n σ μ5 t
      )
    )
def fb_X11_term (rec : Nat → th_S → th_M → Nat → Option (Int32 × th_M)) (σ : th_S) (μ : th_M) (t : Nat) : Option (Int32 × th_M) :=
  oC σ 11 t <|
  b2 (rec 5 σ μ t) fun v1 μ2 =>
  if v1 = 0 then (
    some (0, μ2)
  ) else (
    f_X11_term_b9 rec  fu σ μ2 t
  )
def fb_X11_one (rec : Nat → th_S → th_M → Nat → Option (Int32 × th_M)) (σ : th_S) (μ : th_M) (t : Nat) : Option (Int32 × th_M) :=
  (oI σ μ 11 t 24).bind fun v1 =>
  if v1 = 1 then (
    (oI σ μ 11 t 25).bind fun v2 =>
    oC σ 11 t <|
    (f_X11_put σ μ t v2).bind fun μ3 =>
    (f_X11_next σ μ3 t).bind fun μ4 =>
    some (1, μ4)
  ) else (
    oC σ 11 t <|
    (f_X11_name σ μ t).bind fun v5 =>
    if v5 ≤ 0 then (
      (f_X11_is_ σ μ t 45).bind fun v6 =>
      if v6 = 0 then (
        (f_X11_is_ σ μ t 40).bind fun v7 =>
        if v7 = 0 then (
          some (0, μ)
        ) else (
          (oI σ μ 11 t 26).bind fun v8 =>
          if v8 = 5 then (
            some (0, μ)
          ) else (
            (oI σ μ 11 t 26).bind fun v9 =>
            (oPI σ μ 11 t 26 (v9 + 1)).bind fun μ10 =>
            (f_X11_next σ μ10 t).bind fun μ11 =>
            b2 (rec 0 σ μ11 t) fun v12 μ13 =>
            if v12 = 0 then (
              some (0, μ13)
            ) else (
              (f_X11_is_ σ μ13 t 41).bind fun v14 =>
              if v14 = 0 then (
                some (0, μ13)
              ) else (
                (oI σ μ13 11 t 26).bind fun v15 =>
                (oPI σ μ13 11 t 26 (v15 - 1)).bind fun μ16 =>
                (f_X11_next σ μ16 t).bind fun μ17 =>
                some (1, μ17)
              )
            )
          )
        )
      ) else (
        (oI σ μ 11 t 26).bind fun v18 =>
        if v18 = 5 then (
          some (0, μ)
        ) else (
          (oI σ μ 11 t 26).bind fun v19 =>
          (oPI σ μ 11 t 26 (v19 + 1)).bind fun μ20 =>
          (f_X11_next σ μ20 t).bind fun μ21 =>
          b2 (rec 5 σ μ21 t) fun v22 μ23 =>
          if v22 = 0 then (
            some (0, μ23)
          ) else (
            (oI σ μ23 11 t 26).bind fun v24 =>
            (oPI σ μ23 11 t 26 (v24 - 1)).bind fun μ25 =>
            (f_X11_put σ μ25 t (-19)).bind fun μ26 =>
            some (1, μ26)
          )
        )
      )
    ) else (
      (f_X11_put σ μ t (-v5)).bind fun μ27 =>
      (f_X11_next σ μ27 t).bind fun μ28 =>
      some (1, μ28)
    )
  )
def f_scc_X11_any : Nat → Nat → th_S → th_M → Nat → Option (Int32 × th_M)
  | 0, _, _, _, _ => none
  | d + 1, k, σ, μ, t =>
    if k = 0 then fb_X11_any (f_scc_X11_any d) σ μ t else
    if k = 1 then fb_X11_both (f_scc_X11_any d) σ μ t else
    if k = 2 then fb_X11_not (f_scc_X11_any d) σ μ t else
    if k = 3 then fb_X11_sum (f_scc_X11_any d) σ μ t else
    if k = 4 then fb_X11_term (f_scc_X11_any d) σ μ t else
    fb_X11_one (f_scc_X11_any d) σ μ t
def f_X11_any (σ : th_S) (μ : th_M) (t : Nat) : Option (Int32 × th_M) := f_scc_X11_any 64 0 σ μ t
def f_X11_both (σ : th_S) (μ : th_M) (t : Nat) : Option (Int32 × th_M) := f_scc_X11_any 64 1 σ μ t
def f_X11_not (σ : th_S) (μ : th_M) (t : Nat) : Option (Int32 × th_M) := f_scc_X11_any 64 2 σ μ t
def f_X11_sum (σ : th_S) (μ : th_M) (t : Nat) : Option (Int32 × th_M) := f_scc_X11_any 64 3 σ μ t
def f_X11_term (σ : th_S) (μ : th_M) (t : Nat) : Option (Int32 × th_M) := f_scc_X11_any 64 4 σ μ t
def f_X11_one (σ : th_S) (μ : th_M) (t : Nat) : Option (Int32 × th_M) := f_scc_X11_any 64 5 σ μ t
def f_X11_part (σ : th_S) (μ : th_M) (t : Nat) (x1 : Nat) (x2 : Int32) : Option (Int32 × th_M) :=
  oC σ 11 t <|
  (f_X11_is σ μ t x1).bind fun v1 =>
  if v1 = 0 then (
    some (0, μ)
  ) else (
    (f_X11_next σ μ t).bind fun μ2 =>
    (oR σ 11 t 20).bind fun a3 =>
    (oI σ μ2 11 t 17).bind fun v4 =>
    (oI σ μ2 11 t 21).bind fun v5 =>
    (oS σ μ2 a3 ((4 * v4) + x2) v5).bind fun μ6 =>
    b2 (f_X11_any σ μ6 t) fun v7 μ8 =>
    if v7 = 0 then (
      some (0, μ8)
    ) else (
      (f_X11_is_ σ μ8 t 59).bind fun v9 =>
      if v9 = 0 then (
        some (0, μ8)
      ) else (
        (f_X11_next σ μ8 t).bind fun μ10 =>
        some (1, μ10)
      )
    )
  )
def f_X11_text_b73  (σ : th_S) (μ : th_M) (t : Nat) (y0 : Int32) : Option (Int32 × th_M) :=
  (oPI σ μ 11 t 15 0).bind fun μ1 =>
  if y0 = 0 then (
    (oI σ μ1 11 t 23).bind fun v2 =>
    some ((-100) - v2, μ1)
  ) else (
    (oR σ 11 t 20).bind fun a3 =>
    (oI σ μ1 11 t 17).bind fun v4 =>
    (oI σ μ1 11 t 21).bind fun v5 =>
    (oS σ μ1 a3 ((4 * v4) + 3) v5).bind fun μ6 =>
    (oI σ μ6 11 t 17).bind fun v7 =>
    (oPI σ μ6 11 t 17 (v7 + 1)).bind fun μ8 =>
    some (v7, μ8)
  )
def f_X11_text (σ : th_S) (μ : th_M) (t : Nat) : Option (Int32 × th_M) :=
  (oI σ μ 11 t 17).bind fun v1 =>
  if v1 = 6 then (
    some ((-4), μ)
  ) else (
    (oPI σ μ 11 t 22 0).bind fun μ2 =>
    (oPI σ μ2 11 t 26 0).bind fun μ3 =>
    (oPI σ μ3 11 t 21 0).bind fun μ4 =>
    oC σ 11 t <|
    (f_X11_next σ μ4 t).bind fun μ5 =>
    b2 (f_X11_part σ μ5 t 7 0) fun v6 μ7 =>
    if v6 = 0 then (
      f_X11_text_b73 σ μ7 t 0
    ) else (
      b2 (f_X11_part σ μ7 t 8 1) fun v8 μ9 =>
      if v8 = 0 then (
        f_X11_text_b73 σ μ9 t 0
      ) else (
        b2 (f_X11_part σ μ9 t 9 2) fun v10 μ11 =>
        if v10 = 0 then (
          f_X11_text_b73 σ μ11 t 0
        ) else (
          (oI σ μ11 11 t 24).bind fun v12 =>
          if v12 = 0 then (
            f_X11_text_b73 σ μ11 t 1
          ) else (
            f_X11_text_b73 σ μ11 t 0
          )
        )
      )
    )
  )
def f_X11_init_b207  : Nat → th_S → th_M → Nat → Nat → Int32 → Option (th_S × th_M)
  | 0, _, _, _, _, _ => none
  | n + 1, σ, μ, t, x1, x2 =>
    (f_J0_length_8abf5 x1).bind fun v1 =>
    if v1 ≤ x2 then (
      oC σ 11 t <|
      b2 (f_X11_text σ μ t) fun v2 μ3 =>
      some (σ, μ3)
    ) else (
      (f_J0_charAt_5068e x1 x2).bind fun v4 =>
      oC σ 11 t <|
      b2 (f_X11_feed σ μ t v4) fun v5 μ6 =>
      f_X11_init_b207 n σ μ6 t x1 (x2 + 1)
    )
def f_X11_init_b168  : Nat → th_S → th_M → Nat → Int32 → Option (th_S × th_M)
  | 0, _, _, _, _ => none
  | n + 1, σ, μ, t, x1 =>
    if 4 ≤ x1 then (
      (oPI σ μ 11 t 8 27).bind fun μ1 =>
      (oPI σ μ1 11 t 11 2).bind fun μ2 =>
      (oPI σ μ2 11 t 12 1).bind fun μ3 =>
      f_X11_init_b207  fu σ μ3 t 0 0
    ) else (
      (oR σ 11 t 36).bind fun a4 =>
      (oS σ μ a4 x1 (-1)).bind fun μ5 =>
      f_X11_init_b168 n σ μ5 t (x1 + 1)
    )
def f_X11_init (σ : th_S) (μ : th_M) (t : Nat) : Option (th_S × th_M) :=
  b3 (oN σ μ 12 7) fun a1 σ2 μ3 =>
  (oPR σ2 11 t 1 a1).bind fun σ4 =>
  b3 (oN σ4 μ3 12 7) fun a5 σ6 μ7 =>
  (oPR σ6 11 t 2 a5).bind fun σ8 =>
  b3 (oN σ8 μ7 12 7) fun a9 σ10 μ11 =>
  (oPR σ10 11 t 3 a9).bind fun σ12 =>
  b3 (oN σ12 μ11 12 7) fun a13 σ14 μ15 =>
  (oPR σ14 11 t 4 a13).bind fun σ16 =>
  b3 (oN σ16 μ15 12 7) fun a17 σ18 μ19 =>
  (oPR σ18 11 t 5 a17).bind fun σ20 =>
  b3 (oN σ20 μ19 12 7) fun a21 σ22 μ23 =>
  (oPR σ22 11 t 6 a21).bind fun σ24 =>
  b3 (oN σ24 μ23 12 7) fun a25 σ26 μ27 =>
  (oPR σ26 11 t 7 a25).bind fun σ28 =>
  b3 (oN σ28 μ27 12 160) fun a29 σ30 μ31 =>
  (oPR σ30 11 t 16 a29).bind fun σ32 =>
  b3 (oN σ32 μ31 12 1020) fun a33 σ34 μ35 =>
  (oPR σ34 11 t 19 a33).bind fun σ36 =>
  b3 (oN σ36 μ35 12 24) fun a37 σ38 μ39 =>
  (oPR σ38 11 t 20 a37).bind fun σ40 =>
  b3 (oN σ40 μ39 12 170) fun a41 σ42 μ43 =>
  (oPR σ42 11 t 27 a41).bind fun σ44 =>
  b3 (oN σ44 μ43 12 6) fun a45 σ46 μ47 =>
  (oPR σ46 11 t 28 a45).bind fun σ48 =>
  b3 (oN σ48 μ47 12 7) fun a49 σ50 μ51 =>
  (oPR σ50 11 t 30 a49).bind fun σ52 =>
  b3 (oN σ52 μ51 12 7) fun a53 σ54 μ55 =>
  (oPR σ54 11 t 31 a53).bind fun σ56 =>
  b3 (oN σ56 μ55 12 7) fun a57 σ58 μ59 =>
  (oPR σ58 11 t 32 a57).bind fun σ60 =>
  b3 (oN σ60 μ59 12 50) fun a61 σ62 μ63 =>
  (oPR σ62 11 t 35 a61).bind fun σ64 =>
  b3 (oN σ64 μ63 12 4) fun a65 σ66 μ67 =>
  (oPR σ66 11 t 36 a65).bind fun σ68 =>
  b3 (oN σ68 μ67 12 4) fun a69 σ70 μ71 =>
  (oPR σ70 11 t 37 a69).bind fun σ72 =>
  b3 (oN σ72 μ71 12 160) fun a73 σ74 μ75 =>
  (oPR σ74 11 t 38 a73).bind fun σ76 =>
  b3 (oN σ76 μ75 12 40) fun a77 σ78 μ79 =>
  (oPR σ78 11 t 39 a77).bind fun σ80 =>
  f_X11_init_b168  fu σ80 μ79 t 0
def f_X11_isBoat (σ : th_S) (μ : th_M) (t : Nat) (x1 : Int32) : Option (Int32) :=
  (oI σ μ 11 t 0).bind fun v1 =>
  (f_X11_within x1 0 (v1 - 1)).bind fun v2 =>
  oG (v2 &&& 1 = v2) <|
  some v2
def f_X11_far (x0 : Int32) (x1 : Int32) : Option (Int32) :=
  some ((jabs ((x0 / 8) - (x1 / 8))) + (jabs ((jrem x0 8) - (jrem x1 8))))
def f_X11_boat (σ : th_S) (μ : th_M) (t : Nat) (x1 : Int32) (x2 : Int32) (x3 : Int32) : Option (Int32 × th_M) :=
  (f_X11_within x1 0 5).bind fun v1 =>
  if v1 = 0 then (
    some ((-2), μ)
  ) else (
    (f_X11_within x2 0 4709).bind fun v2 =>
    if v2 = 0 then (
      some ((-2), μ)
    ) else (
      if 9 < (jrem x2 100) then (
        some ((-2), μ)
      ) else (
        (f_X11_within x3 5000 240999).bind fun v3 =>
        if v3 = 0 then (
          some ((-2), μ)
        ) else (
          (oI σ μ 11 t 0).bind fun v4 =>
          if v4 = 7 then (
            some ((-4), μ)
          ) else (
            (oR σ 11 t 1).bind fun a5 =>
            (oI σ μ 11 t 0).bind fun v6 =>
            (oS σ μ a5 v6 x1).bind fun μ7 =>
            (oR σ 11 t 3).bind fun a8 =>
            (oI σ μ7 11 t 0).bind fun v9 =>
            (oS σ μ7 a8 v9 (x2 / 100)).bind fun μ10 =>
            (oR σ 11 t 2).bind fun a11 =>
            (oI σ μ10 11 t 0).bind fun v12 =>
            (oS σ μ10 a11 v12 (jrem x2 100)).bind fun μ13 =>
            (oR σ 11 t 5).bind fun a14 =>
            (oI σ μ13 11 t 0).bind fun v15 =>
            (oS σ μ13 a14 v15 (x3 / 1000)).bind fun μ16 =>
            (oR σ 11 t 4).bind fun a17 =>
            (oI σ μ16 11 t 0).bind fun v18 =>
            (oS σ μ16 a17 v18 (jrem x3 1000)).bind fun μ19 =>
            (oR σ 11 t 6).bind fun a20 =>
            (oI σ μ19 11 t 0).bind fun v21 =>
            (oS σ μ19 a20 v21 0).bind fun μ22 =>
            (oR σ 11 t 7).bind fun a23 =>
            (oI σ μ22 11 t 0).bind fun v24 =>
            (oS σ μ22 a23 v24 (-1)).bind fun μ25 =>
            (oI σ μ25 11 t 0).bind fun v26 =>
            (oPI σ μ25 11 t 0 (v26 + 1)).bind fun μ27 =>
            some (v26, μ27)
          )
        )
      )
    )
  )
def f_X11_set_b113  (σ : th_S) (μ : th_M) (t : Nat) (x1 : Int32) (x2 : Int32) (x3 : Int32) (x4 : Int32) (x5 : Int32) : Option (Int32 × th_M) :=
  (f_X11_within x3 x4 x5).bind fun v1 =>
  if v1 = 0 then (
    some ((-2), μ)
  ) else (
    if x1 = 0 then (
      (oR σ 11 t 3).bind fun a2 =>
      (oA σ μ a2 x2).bind fun v3 =>
      (oR σ 11 t 3).bind fun a4 =>
      (oS σ μ a4 x2 x3).bind fun μ5 =>
      some (v3, μ5)
    ) else
    if x1 = 1 then (
      (oR σ 11 t 4).bind fun a6 =>
      (oA σ μ a6 x2).bind fun v7 =>
      (oR σ 11 t 4).bind fun a8 =>
      (oS σ μ a8 x2 x3).bind fun μ9 =>
      some (v7, μ9)
    ) else
    if x1 = 2 then (
      (oR σ 11 t 5).bind fun a10 =>
      (oA σ μ a10 x2).bind fun v11 =>
      (oR σ 11 t 5).bind fun a12 =>
      (oS σ μ a12 x2 x3).bind fun μ13 =>
      some (v11, μ13)
    ) else
    if x1 = 3 then (
      (oR σ 11 t 2).bind fun a14 =>
      (oA σ μ a14 x2).bind fun v15 =>
      (oR σ 11 t 2).bind fun a16 =>
      (oS σ μ a16 x2 x3).bind fun μ17 =>
      some (v15, μ17)
    ) else
    if x1 = 4 then (
      (oI σ μ 11 t 8).bind fun v18 =>
      (oPI σ μ 11 t 8 x3).bind fun μ19 =>
      some (v18, μ19)
    ) else
    if x1 = 5 then (
      (oI σ μ 11 t 9).bind fun v20 =>
      (oPI σ μ 11 t 9 x3).bind fun μ21 =>
      some (v20, μ21)
    ) else
    if x1 = 6 then (
      (oI σ μ 11 t 11).bind fun v22 =>
      (oPI σ μ 11 t 11 x3).bind fun μ23 =>
      some (v22, μ23)
    ) else
    if x1 = 7 then (
      (oI σ μ 11 t 12).bind fun v24 =>
      (oPI σ μ 11 t 12 x3).bind fun μ25 =>
      some (v24, μ25)
    ) else
    (
      (oI σ μ 11 t 13).bind fun v26 =>
      (oPI σ μ 11 t 13 x3).bind fun μ27 =>
      some (v26, μ27)
    )
  )
def f_X11_set_b88  (σ : th_S) (μ : th_M) (t : Nat) (x1 : Int32) (x2 : Int32) (x3 : Int32) (x4 : Int32) (y0 : Int32) : Option (Int32 × th_M) :=
  (f_X11_within x1 0 8).bind fun v1 =>
  if v1 = 0 then (
    some ((-2), μ)
  ) else (
    if 4 ≤ x1 then (
      f_X11_set_b113 σ μ t x1 x2 x3 x4 y0
    ) else (
      oC σ 11 t <|
      (f_X11_isBoat σ μ t x2).bind fun v2 =>
      if v2 = 0 then (
        some ((-2), μ)
      ) else (
        f_X11_set_b113 σ μ t x1 x2 x3 x4 y0
      )
    )
  )
def f_X11_set_b26  (σ : th_S) (μ : th_M) (t : Nat) (x1 : Int32) (x2 : Int32) (x3 : Int32) (y0 : Int32) : Option (Int32 × th_M) :=
  if x1 = 0 then (
    f_X11_set_b88 σ μ t x1 x2 x3 y0 47
  ) else (
    if x1 = 4 then (
      f_X11_set_b88 σ μ t x1 x2 x3 y0 47
    ) else (
      if x1 = 1 then (
        f_X11_set_b88 σ μ t x1 x2 x3 y0 999
      ) else (
        if x1 = 2 then (
          f_X11_set_b88 σ μ t x1 x2 x3 y0 240
        ) else (
          if x1 = 6 then (
            f_X11_set_b88 σ μ t x1 x2 x3 y0 6
          ) else (
            if x1 = 8 then (
              f_X11_set_b88 σ μ t x1 x2 x3 y0 20
            ) else (
              f_X11_set_b88 σ μ t x1 x2 x3 y0 9
            )
          )
        )
      )
    )
  )
def f_X11_set (σ : th_S) (μ : th_M) (t : Nat) (x1 : Int32) (x2 : Int32) (x3 : Int32) : Option (Int32 × th_M) :=
  if x1 = 2 then (
    f_X11_set_b26 σ μ t x1 x2 x3 5
  ) else (
    if x1 = 6 then (
      f_X11_set_b26 σ μ t x1 x2 x3 1
    ) else (
      if x1 = 7 then (
        f_X11_set_b26 σ μ t x1 x2 x3 1
      ) else (
        f_X11_set_b26 σ μ t x1 x2 x3 0
      )
    )
  )
def f_X11_rows (σ : th_S) (μ : th_M) (t : Nat) (x1 : Int32) : Option (Int32) :=
  (oI σ μ 11 t 9).bind fun v1 =>
  (oR σ 11 t 1).bind fun a2 =>
  (oA σ μ a2 x1).bind fun v3 =>
  if v3 = 1 then (
    some ((2 + (v1 / 2)) - 1)
  ) else
  if v3 = 2 then (
    (oI σ μ 11 t 9).bind fun v4 =>
    some ((2 + (v1 / 2)) + v4)
  ) else
  if v3 = 3 then (
    (oR σ 11 t 2).bind fun a5 =>
    (oA σ μ a5 x1).bind fun v6 =>
    some (((2 + (v1 / 2)) - 1) + v6)
  ) else
  if v3 = 4 then (
    (oI σ μ 11 t 9).bind fun v7 =>
    some ((2 + (v1 / 2)) + v7)
  ) else
  if v3 = 5 then (
    some (2 * (2 + (v1 / 2)))
  ) else
  (
    some (2 + (v1 / 2))
  )
def f_X11_hearing (σ : th_S) (μ : th_M) (t : Nat) (x1 : Int32) : Option (Int32) :=
  (oI σ μ 11 t 9).bind fun v1 =>
  (oR σ 11 t 1).bind fun a2 =>
  (oA σ μ a2 x1).bind fun v3 =>
  if v3 = 1 then (
    (oR σ 11 t 2).bind fun a4 =>
    (oA σ μ a4 x1).bind fun v5 =>
    some ((12 - v1) + v5)
  ) else
  if v3 = 2 then (
    some (jmax 0 ((12 - v1) - 3))
  ) else
  if v3 = 3 then (
    (oR σ 11 t 2).bind fun a6 =>
    (oA σ μ a6 x1).bind fun v7 =>
    some ((12 - v1) + v7)
  ) else
  if v3 = 4 then (
    some (jmax 0 (((12 - v1) - 3) / 2))
  ) else
  if v3 = 5 then (
    (oR σ 11 t 2).bind fun a8 =>
    (oA σ μ a8 x1).bind fun v9 =>
    if (jrem v9 2) = 1 then (
      some 0
    ) else (
      some (12 - v1)
    )
  ) else
  (
    some (12 - v1)
  )
def f_X11_rules_b429 (K132 : th_S → th_M → Nat → Int32 → Int32 → Int32 → Option (Int32 × th_M)) (σ : th_S) (μ : th_M) (t : Nat) (x5 : Int32) (x6 : Int32) (x7 : Int32) (x11 : Int32) : Option (Int32 × th_M) :=
  (oR σ 11 t 27).bind fun a1 =>
  (oS σ μ a1 (x6 - 1) x11).bind fun μ2 =>
  K132 σ μ2 t x5 x6 (x7 + 1)
def f_X11_rules_b132  : Nat → th_S → th_M → Nat → Int32 → Int32 → Int32 → Option (Int32 × th_M)
  | 0, _, _, _, _, _, _ => none
  | n + 1, σ, μ, t, x5, x6, x7 =>
    if x5 ≤ x7 then (
      (oR σ 11 t 27).bind fun a1 =>
      (oAn σ μ a1 0).bind fun v2 =>
      some (v2, μ)
    ) else (
      (oR σ 11 t 19).bind fun a3 =>
      (oI σ μ 11 t 18).bind fun v4 =>
      (oA σ μ a3 ((170 * v4) + x7)).bind fun v5 =>
      if v5 < 0 then (
        if v5 ≤ (-7) then (
          (oR σ 11 t 27).bind fun a6 =>
          (oA σ μ a6 (x6 - 1)).bind fun v7 =>
          if v5 = (-13) then (
            (oR σ 11 t 27).bind fun a8 =>
            if v7 = 0 then (
              (oS σ μ a8 (x6 - 1) 1).bind fun μ9 =>
              f_X11_rules_b132 n σ μ9 t x5 x6 (x7 + 1)
            ) else (
              (oS σ μ a8 (x6 - 1) 0).bind fun μ10 =>
              f_X11_rules_b132 n σ μ10 t x5 x6 (x7 + 1)
            )
          ) else (
            if v5 = (-19) then (
              (oR σ 11 t 27).bind fun a11 =>
              (oS σ μ a11 (x6 - 1) (-v7)).bind fun μ12 =>
              f_X11_rules_b132 n σ μ12 t x5 x6 (x7 + 1)
            ) else (
              (oR σ 11 t 27).bind fun a13 =>
              (oA σ μ a13 (x6 - 2)).bind fun v14 =>
              if v5 = (-17) then (
                f_X11_rules_b429 (f_X11_rules_b132 n) σ μ t x5 (x6 + (-1)) x7 (v14 - v7)
              ) else
              if v5 = (-16) then (
                f_X11_rules_b429 (f_X11_rules_b132 n) σ μ t x5 (x6 + (-1)) x7 (v14 + v7)
              ) else
              if v5 = (-15) then (
                if v14 = v7 then (
                  f_X11_rules_b429 (f_X11_rules_b132 n) σ μ t x5 (x6 + (-1)) x7 1
                ) else (
                  f_X11_rules_b429 (f_X11_rules_b132 n) σ μ t x5 (x6 + (-1)) x7 0
                )
              ) else
              if v5 = (-14) then (
                if v7 ≤ v14 then (
                  f_X11_rules_b429 (f_X11_rules_b132 n) σ μ t x5 (x6 + (-1)) x7 0
                ) else (
                  f_X11_rules_b429 (f_X11_rules_b132 n) σ μ t x5 (x6 + (-1)) x7 1
                )
              ) else
              if v5 = (-13) then (
                f_X11_rules_b429 (f_X11_rules_b132 n) σ μ t x5 (x6 + (-1)) x7 (v14 * v7)
              ) else
              if v5 = (-12) then (
                if v14 = 0 then (
                  f_X11_rules_b429 (f_X11_rules_b132 n) σ μ t x5 (x6 + (-1)) x7 0
                ) else (
                  if v7 = 0 then (
                    f_X11_rules_b429 (f_X11_rules_b132 n) σ μ t x5 (x6 + (-1)) x7 0
                  ) else (
                    f_X11_rules_b429 (f_X11_rules_b132 n) σ μ t x5 (x6 + (-1)) x7 1
                  )
                )
              ) else
              if v5 = (-11) then (
                if v14 = 0 then (
                  if v7 = 0 then (
                    f_X11_rules_b429 (f_X11_rules_b132 n) σ μ t x5 (x6 + (-1)) x7 0
                  ) else (
                    f_X11_rules_b429 (f_X11_rules_b132 n) σ μ t x5 (x6 + (-1)) x7 1
                  )
                ) else (
                  f_X11_rules_b429 (f_X11_rules_b132 n) σ μ t x5 (x6 + (-1)) x7 1
                )
              ) else
              (
                f_X11_rules_b429 (f_X11_rules_b132 n) σ μ t x5 (x6 + (-1)) x7 (v14 * v7)
              )
            )
          )
        ) else (
          (oR σ 11 t 27).bind fun a15 =>
          (oR σ 11 t 28).bind fun a16 =>
          (oA σ μ a16 ((-v5) - 1)).bind fun v17 =>
          (oS σ μ a15 x6 v17).bind fun μ18 =>
          f_X11_rules_b132 n σ μ18 t x5 (x6 + 1) (x7 + 1)
        )
      ) else (
        (oR σ 11 t 27).bind fun a19 =>
        (oS σ μ a19 x6 v5).bind fun μ20 =>
        f_X11_rules_b132 n σ μ20 t x5 (x6 + 1) (x7 + 1)
      )
    )
def f_X11_rules_b81  (σ : th_S) (μ : th_M) (t : Nat) (x1 : Int32) (x2 : Int32) (x4 : Int32) (y0 : Nat) (y1 : Int32) (y2 : Int32) : Option (Int32 × th_M) :=
  (oS σ μ y0 y1 y2).bind fun μ1 =>
  (oR σ 11 t 28).bind fun a2 =>
  (oSn σ μ1 a2 4 x2).bind fun μ3 =>
  (oR σ 11 t 28).bind fun a4 =>
  (oSn σ μ3 a4 5 x4).bind fun μ5 =>
  (oR σ 11 t 20).bind fun a6 =>
  (oI σ μ5 11 t 18).bind fun v7 =>
  (oA σ μ5 a6 (((4 * v7) + x1) + 1)).bind fun v8 =>
  (oR σ 11 t 20).bind fun a9 =>
  (oI σ μ5 11 t 18).bind fun v10 =>
  (oA σ μ5 a9 ((4 * v10) + x1)).bind fun v11 =>
  f_X11_rules_b132  fu σ μ5 t v8 0 v11
def f_X11_rules (σ : th_S) (μ : th_M) (t : Nat) (x1 : Int32) (x2 : Int32) (x3 : Int32) (x4 : Int32) : Option (Int32 × th_M) :=
  (oR σ 11 t 28).bind fun a1 =>
  (f_X11_far x3 0).bind fun v2 =>
  (oSn σ μ a1 0 v2).bind fun μ3 =>
  (oR σ 11 t 28).bind fun a4 =>
  (oI σ μ3 11 t 9).bind fun v5 =>
  (oSn σ μ3 a4 1 v5).bind fun μ6 =>
  (oR σ 11 t 28).bind fun a7 =>
  (oR σ 11 t 4).bind fun a8 =>
  (oA σ μ6 a8 x2).bind fun v9 =>
  (oR σ 11 t 5).bind fun a10 =>
  (oA σ μ6 a10 x2).bind fun v11 =>
  (oSn σ μ6 a7 2 ((x4 - v9) - v11)).bind fun μ12 =>
  (oR σ 11 t 28).bind fun a13 =>
  (oI σ μ12 11 t 8).bind fun v14 =>
  if (x3 / 8) = (v14 / 8) then (
    (oI σ μ12 11 t 8).bind fun v15 =>
    if (jrem x3 8) ≤ (jrem v15 8) then (
      f_X11_rules_b81 σ μ12 t x1 x2 x4 a13 3 0
    ) else (
      f_X11_rules_b81 σ μ12 t x1 x2 x4 a13 3 1
    )
  ) else (
    f_X11_rules_b81 σ μ12 t x1 x2 x4 a13 3 0
  )
def f_X11_owes (σ : th_S) (μ : th_M) (t : Nat) (x1 : Int32) (x2 : Int32) : Option (Int32 × th_M) :=
  (oR σ 11 t 3).bind fun a1 =>
  (oA σ μ a1 x1).bind fun v2 =>
  oC σ 11 t <|
  b2 (f_X11_rules σ μ t 0 x1 v2 x2) fun v3 μ4 =>
  (oR σ 11 t 4).bind fun a5 =>
  (oA σ μ4 a5 x1).bind fun v6 =>
  (oR σ 11 t 5).bind fun a7 =>
  (oA σ μ4 a7 x1).bind fun v8 =>
  (oR σ 11 t 1).bind fun a9 =>
  (oA σ μ4 a9 x1).bind fun v10 =>
  if v10 = 2 then (
    some (((((jmax 0 ((x2 - v6) - v8)) + 14) / 15) * (jmax 0 (jmin 99 v3))) / 2, μ4)
  ) else
  if v10 = 3 then (
    some (0, μ4)
  ) else
  if v10 = 4 then (
    some ((((((jmax 0 ((x2 - v6) - v8)) + 14) / 15) * (jmax 0 (jmin 99 v3))) / 2) + 2, μ4)
  ) else
  if v10 = 5 then (
    if ((((jmax 0 ((x2 - v6) - v8)) + 14) / 15) * (jmax 0 (jmin 99 v3))) ≤ 0 then (
      some (0, μ4)
    ) else (
      (oR σ 11 t 2).bind fun a11 =>
      (oA σ μ4 a11 x1).bind fun v12 =>
      some (((((jmax 0 ((x2 - v6) - v8)) + 14) / 15) * (jmax 0 (jmin 99 v3))) + v12, μ4)
    )
  ) else
  (
    some ((((jmax 0 ((x2 - v6) - v8)) + 14) / 15) * (jmax 0 (jmin 99 v3)), μ4)
  )
def f_X11_would (σ : th_S) (μ : th_M) (t : Nat) (x1 : Int32) (x2 : Int32) (x3 : Int32) : Option (Int32 × th_M) :=
  (f_X11_far x2 0).bind fun v1 =>
  oC σ 11 t <|
  (f_X11_hearing σ μ t x1).bind fun v2 =>
  if v2 < v1 then (
    some (0, μ)
  ) else (
    b2 (f_X11_rules σ μ t 1 x1 x2 x3) fun v3 μ4 =>
    if v3 = 0 then (
      some (0, μ4)
    ) else (
      b2 (f_X11_rules σ μ4 t 2 x1 x2 x3) fun v5 μ6 =>
      if v5 = 0 then (
        some (0, μ6)
      ) else (
        some (1, μ6)
      )
    )
  )
def f_X11_would_ (σ : th_S) (μ : th_M) (t : Nat) (x1 : Int32) : Option (Int32 × th_M) :=
  (oR σ 11 t 3).bind fun a1 =>
  (oA σ μ a1 x1).bind fun v2 =>
  (oI σ μ 11 t 10).bind fun v3 =>
  oC σ 11 t <|
  b2 (f_X11_would σ μ t x1 v2 v3) fun v4 μ5 =>
  oG (v4 &&& 1 = v4) <|
  some (v4, μ5)
def f_X11_needs (σ : th_S) (μ : th_M) (t : Nat) (x1 : Int32) : Option (Int32) :=
  (oR σ 11 t 3).bind fun a1 =>
  (oA σ μ a1 x1).bind fun v2 =>
  (f_X11_far v2 0).bind fun v3 =>
  oC σ 11 t <|
  (f_X11_rows σ μ t x1).bind fun v4 =>
  some (v3 * v4)
def f_X11_told (σ : th_S) (μ : th_M) (t : Nat) (x1 : Int32) (x2 : Int32) : Option (Int32 × th_M) :=
  oC σ 11 t <|
  (f_X11_isBoat σ μ t x1).bind fun v1 =>
  if v1 = 0 then (
    some ((-2), μ)
  ) else (
    (f_X11_within x2 0 10).bind fun v2 =>
    if v2 = 0 then (
      some ((-2), μ)
    ) else (
      if x2 = 0 then (
        (oR σ 11 t 3).bind fun a3 =>
        (oA σ μ a3 x1).bind fun v4 =>
        some (v4, μ)
      ) else
      if x2 = 1 then (
        (oR σ 11 t 4).bind fun a5 =>
        (oA σ μ a5 x1).bind fun v6 =>
        some (v6, μ)
      ) else
      if x2 = 2 then (
        (oR σ 11 t 5).bind fun a7 =>
        (oA σ μ a7 x1).bind fun v8 =>
        some (v8, μ)
      ) else
      if x2 = 3 then (
        (oR σ 11 t 2).bind fun a9 =>
        (oA σ μ a9 x1).bind fun v10 =>
        some (v10, μ)
      ) else
      if x2 = 4 then (
        (oR σ 11 t 1).bind fun a11 =>
        (oA σ μ a11 x1).bind fun v12 =>
        some (v12, μ)
      ) else
      if x2 = 5 then (
        (oR σ 11 t 6).bind fun a13 =>
        (oA σ μ a13 x1).bind fun v14 =>
        some (v14, μ)
      ) else
      if x2 = 6 then (
        (oR σ 11 t 7).bind fun a15 =>
        (oA σ μ a15 x1).bind fun v16 =>
        some (v16, μ)
      ) else
      if x2 = 7 then (
        (f_X11_rows σ μ t x1).bind fun v17 =>
        some (v17, μ)
      ) else
      if x2 = 8 then (
        (f_X11_hearing σ μ t x1).bind fun v18 =>
        some (v18, μ)
      ) else
      if x2 = 9 then (
        b2 (f_X11_would_ σ μ t x1) fun v19 μ20 =>
        if v19 = 0 then (
          some (0, μ20)
        ) else (
          some (1, μ20)
        )
      ) else
      (
        (oI σ μ 11 t 10).bind fun v21 =>
        b2 (f_X11_owes σ μ t x1 v21) fun v22 μ23 =>
        some (v22, μ23)
      )
    )
  )
def f_X11_force (σ : th_S) (μ : th_M) (t : Nat) (x1 : Int32) : Option (Int32 × th_M) :=
  (oI σ μ 11 t 17).bind fun v1 =>
  (f_X11_within x1 0 (v1 - 1)).bind fun v2 =>
  if v2 = 0 then (
    some ((-2), μ)
  ) else (
    (oI σ μ 11 t 18).bind fun v3 =>
    (oPI σ μ 11 t 18 x1).bind fun μ4 =>
    some (v3, μ4)
  )
def f_X11_call (σ : th_S) (μ : th_M) (t : Nat) (x1 : Int32) : Option (Int32 × th_M) :=
  oC σ 11 t <|
  (f_X11_isBoat σ μ t x1).bind fun v1 =>
  if v1 = 0 then (
    some ((-2), μ)
  ) else (
    (oR σ 11 t 6).bind fun a2 =>
    (oA σ μ a2 x1).bind fun v3 =>
    if v3 = 0 then (
      b2 (f_X11_would_ σ μ t x1) fun v4 μ5 =>
      if v4 = 0 then (
        some (0, μ5)
      ) else (
        (oR σ 11 t 6).bind fun a6 =>
        (oS σ μ5 a6 x1 1).bind fun μ7 =>
        (oR σ 11 t 7).bind fun a8 =>
        (oI σ μ7 11 t 10).bind fun v9 =>
        (f_X11_needs σ μ7 t x1).bind fun v10 =>
        (oS σ μ7 a8 x1 (v9 + v10)).bind fun μ11 =>
        some (1, μ11)
      )
    ) else (
      some ((-3), μ)
    )
  )
def f_X11_comesIn (σ : th_S) (μ : th_M) (t : Nat) (x1 : Int32) (x2 : Int32) : Option (th_M) :=
  (oR σ 11 t 6).bind fun a1 =>
  (oS σ μ a1 x1 2).bind fun μ2 =>
  (oR σ 11 t 7).bind fun a3 =>
  (oS σ μ2 a3 x1 x2).bind fun μ4 =>
  (oI σ μ4 11 t 14).bind fun v5 =>
  oC σ 11 t <|
  b2 (f_X11_owes σ μ4 t x1 x2) fun v6 μ7 =>
  (oPI σ μ7 11 t 14 (v5 + v6)).bind fun μ8 =>
  (oI σ μ8 11 t 13).bind fun v9 =>
  (oPI σ μ8 11 t 13 (jmax 0 (v9 - 1))).bind fun μ10 =>
  some μ10
def f_X11_passes_b20  : Nat → th_S → th_M → Nat → Int32 → Int32 → Option (Int32 × th_M)
  | 0, _, _, _, _, _ => none
  | n + 1, σ, μ, t, x2, x3 =>
    (oI σ μ 11 t 0).bind fun v1 =>
    if v1 ≤ x3 then (
      some (x2, μ)
    ) else (
      (oR σ 11 t 6).bind fun a2 =>
      (oA σ μ a2 x3).bind fun v3 =>
      if v3 = 1 then (
        (oR σ 11 t 7).bind fun a4 =>
        (oA σ μ a4 x3).bind fun v5 =>
        (oI σ μ 11 t 10).bind fun v6 =>
        if v5 ≤ v6 then (
          (oR σ 11 t 7).bind fun a7 =>
          (oA σ μ a7 x3).bind fun v8 =>
          oC σ 11 t <|
          (f_X11_comesIn σ μ t x3 v8).bind fun μ9 =>
          f_X11_passes_b20 n σ μ9 t (x2 + 1) (x3 + 1)
        ) else (
          f_X11_passes_b20 n σ μ t x2 (x3 + 1)
        )
      ) else (
        f_X11_passes_b20 n σ μ t x2 (x3 + 1)
      )
    )
def f_X11_passes (σ : th_S) (μ : th_M) (t : Nat) (x1 : Int32) : Option (Int32 × th_M) :=
  (oI σ μ 11 t 10).bind fun v1 =>
  (oPI σ μ 11 t 10 (jmin 9999 (v1 + x1))).bind fun μ2 =>
  f_X11_passes_b20  fu σ μ2 t 0 0
def f_X11_time (σ : th_S) (μ : th_M) (t : Nat) (x1 : Int32) : Option (Int32 × th_M) :=
  (f_X11_within x1 0 240).bind fun v1 =>
  if v1 = 0 then (
    some ((-2), μ)
  ) else (
    oC σ 11 t <|
    b2 (f_X11_passes σ μ t x1) fun v2 μ3 =>
    some (v2, μ3)
  )
def f_X11_nobody_b4  : Nat → th_S → th_M → Nat → Int32 → Int32 → Option (Int32 × th_M)
  | 0, _, _, _, _, _ => none
  | n + 1, σ, μ, t, x1, x2 =>
    (oI σ μ 11 t 0).bind fun v1 =>
    if v1 ≤ x2 then (
      some (x1, μ)
    ) else (
      (oR σ 11 t 6).bind fun a2 =>
      (oA σ μ a2 x2).bind fun v3 =>
      if v3 = 0 then (
        oC σ 11 t <|
        b2 (f_X11_would_ σ μ t x2) fun v4 μ5 =>
        if v4 = 0 then (
          f_X11_nobody_b4 n σ μ5 t (x1 ||| (jshl 1 x2)) (x2 + 1)
        ) else (
          f_X11_nobody_b4 n σ μ5 t x1 (x2 + 1)
        )
      ) else (
        f_X11_nobody_b4 n σ μ t x1 (x2 + 1)
      )
    )
def f_X11_nobody (σ : th_S) (μ : th_M) (t : Nat) : Option (Int32 × th_M) :=
  f_X11_nobody_b4  fu σ μ t 0 0
def f_X11_callAt_b25  : Nat → th_S → th_M → Nat → Int32 → Int32 → Option (Int32 × th_M)
  | 0, _, _, _, _, _ => none
  | n + 1, σ, μ, t, x1, x2 =>
    if 241 ≤ x2 then (
      some ((-1), μ)
    ) else (
      (oI σ μ 11 t 10).bind fun v1 =>
      oC σ 11 t <|
      (f_X11_needs σ μ t x1).bind fun v2 =>
      (oR σ 11 t 4).bind fun a3 =>
      (oA σ μ a3 x1).bind fun v4 =>
      (oR σ 11 t 5).bind fun a5 =>
      (oA σ μ a5 x1).bind fun v6 =>
      if ((v1 + x2) + v2) < (v4 + v6) then (
        f_X11_callAt_b25 n σ μ t x1 (x2 + 1)
      ) else (
        (oR σ 11 t 3).bind fun a7 =>
        (oA σ μ a7 x1).bind fun v8 =>
        (oI σ μ 11 t 10).bind fun v9 =>
        b2 (f_X11_would σ μ t x1 v8 (v9 + x2)) fun v10 μ11 =>
        if v10 = 0 then (
          f_X11_callAt_b25 n σ μ11 t x1 (x2 + 1)
        ) else (
          some (x2, μ11)
        )
      )
    )
def f_X11_callAt (σ : th_S) (μ : th_M) (t : Nat) (x1 : Int32) : Option (Int32 × th_M) :=
  oC σ 11 t <|
  (f_X11_isBoat σ μ t x1).bind fun v1 =>
  if v1 = 0 then (
    some ((-2), μ)
  ) else (
    (oR σ 11 t 6).bind fun a2 =>
    (oA σ μ a2 x1).bind fun v3 =>
    if v3 = 0 then (
      f_X11_callAt_b25  fu σ μ t x1 0
    ) else (
      some ((-3), μ)
    )
  )
def f_X11_wouldBeIn (σ : th_S) (μ : th_M) (t : Nat) (x1 : Int32) : Option (Int32 × th_M) :=
  (oR σ 11 t 6).bind fun a1 =>
  (oA σ μ a1 x1).bind fun v2 =>
  if v2 = 1 then (
    (oR σ 11 t 7).bind fun a3 =>
    (oA σ μ a3 x1).bind fun v4 =>
    some (v4, μ)
  ) else (
    (oR σ 11 t 6).bind fun a5 =>
    (oA σ μ a5 x1).bind fun v6 =>
    if v6 = 0 then (
      oC σ 11 t <|
      b2 (f_X11_would_ σ μ t x1) fun v7 μ8 =>
      if v7 = 0 then (
        some ((-1), μ8)
      ) else (
        (oI σ μ8 11 t 10).bind fun v9 =>
        (f_X11_needs σ μ8 t x1).bind fun v10 =>
        some (v9 + v10, μ8)
      )
    ) else (
      some ((-1), μ)
    )
  )
def f_X11_allIn_b7  : Nat → th_S → th_M → Nat → Int32 → Int32 → Option (Int32 × th_M)
  | 0, _, _, _, _, _ => none
  | n + 1, σ, μ, t, x1, x2 =>
    (oI σ μ 11 t 0).bind fun v1 =>
    if v1 ≤ x2 then (
      some (x1, μ)
    ) else (
      oC σ 11 t <|
      b2 (f_X11_wouldBeIn σ μ t x2) fun v2 μ3 =>
      f_X11_allIn_b7 n σ μ3 t (jmax x1 v2) (x2 + 1)
    )
def f_X11_allIn (σ : th_S) (μ : th_M) (t : Nat) : Option (Int32 × th_M) :=
  (oI σ μ 11 t 10).bind fun v1 =>
  f_X11_allIn_b7  fu σ μ t v1 0
def f_X11_onTheLake_b18  : Nat → th_S → th_M → Nat → Int32 → Int32 → Option (Int32)
  | 0, _, _, _, _, _ => none
  | n + 1, σ, μ, t, x1, x2 =>
    (oI σ μ 11 t 0).bind fun v1 =>
    if v1 ≤ x2 then (
      some 1
    ) else (
      if ((jshr x1 x2) &&& 1) = 1 then (
        (oR σ 11 t 6).bind fun a2 =>
        (oA σ μ a2 x2).bind fun v3 =>
        if v3 = 0 then (
          f_X11_onTheLake_b18 n σ μ t x1 (x2 + 1)
        ) else (
          some 0
        )
      ) else (
        f_X11_onTheLake_b18 n σ μ t x1 (x2 + 1)
      )
    )
def f_X11_onTheLake (σ : th_S) (μ : th_M) (t : Nat) (x1 : Int32) : Option (Int32) :=
  if x1 < 0 then (
    some 0
  ) else (
    (oI σ μ 11 t 0).bind fun v1 =>
    if x1 < (jshl 1 v1) then (
      f_X11_onTheLake_b18  fu σ μ t x1 0
    ) else (
      some 0
    )
  )
def f_X11_goes_b112 (rec : Nat → th_S → th_M → Nat → Int32 → Int32 → Int32 → Int32 → Int32 → Option (th_M))  : Nat → th_S → th_M → Nat → Int32 → Int32 → Int32 → Int32 → Int32 → Int32 → Option (th_M)
  | 0, _, _, _, _, _, _, _, _, _ => none
  | n + 1, σ, μ, t, x1, x2, x3, x4, x5, x6 =>
    (oI σ μ 11 t 0).bind fun v1 =>
    if v1 ≤ x6 then (
      some μ
    ) else (
      if ((jshr x1 x6) &&& 1) = 0 then (
        f_X11_goes_b112 rec n σ μ t x1 x2 x3 x4 x5 (x6 + 1)
      ) else (
        (oR σ 11 t 30).bind fun a2 =>
        (oS σ μ a2 x2 x6).bind fun μ3 =>
        (oR σ 11 t 3).bind fun a4 =>
        (oA σ μ3 a4 x6).bind fun v5 =>
        (oR σ 11 t 3).bind fun a6 =>
        (oA σ μ3 a6 x6).bind fun v7 =>
        (f_X11_far x3 v7).bind fun v8 =>
        (oI σ μ3 11 t 12).bind fun v9 =>
        oC σ 11 t <|
        (rec 0 σ μ3 t (x1 &&& ((jshl 1 x6) ^^^ (-1))) (x2 + 1) v5 (x4 + 1) (x5 + (v8 * (v9 + x4)))).bind fun μ10 =>
        f_X11_goes_b112 rec n σ μ10 t x1 x2 x3 x4 x5 (x6 + 1)
      )
    )
def f_X11_goes_b48 (rec : Nat → th_S → th_M → Nat → Int32 → Int32 → Int32 → Int32 → Int32 → Option (th_M))  : Nat → th_S → th_M → Nat → Int32 → Int32 → Option (th_M)
  | 0, _, _, _, _, _ => none
  | n + 1, σ, μ, t, x2, x7 =>
    if x2 ≤ x7 then (
      some μ
    ) else (
      (oR σ 11 t 31).bind fun a1 =>
      (oR σ 11 t 30).bind fun a2 =>
      (oA σ μ a2 x7).bind fun v3 =>
      (oS σ μ a1 x7 v3).bind fun μ4 =>
      f_X11_goes_b48 rec n σ μ4 t x2 (x7 + 1)
    )
def fb_X11_goes (rec : Nat → th_S → th_M → Nat → Int32 → Int32 → Int32 → Int32 → Int32 → Option (th_M)) (σ : th_S) (μ : th_M) (t : Nat) (x1 : Int32) (x2 : Int32) (x3 : Int32) (x4 : Int32) (x5 : Int32) : Option (th_M) :=
  if x1 = 0 then (
    (f_X11_far x3 0).bind fun v1 =>
    (oI σ μ 11 t 12).bind fun v2 =>
    (oI σ μ 11 t 29).bind fun v3 =>
    if v3 < 0 then (
      (oPI σ μ 11 t 29 (x5 + (v1 * (v2 + x4)))).bind fun μ4 =>
      f_X11_goes_b48 rec  fu σ μ4 t x2 0
    ) else (
      (oI σ μ 11 t 29).bind fun v5 =>
      if (x5 + (v1 * (v2 + x4))) < v5 then (
        (oPI σ μ 11 t 29 (x5 + (v1 * (v2 + x4)))).bind fun μ6 =>
        f_X11_goes_b48 rec  fu σ μ6 t x2 0
      ) else (
        some μ
      )
    )
  ) else (
    (oI σ μ 11 t 11).bind fun v7 =>
    if x4 = v7 then (
      (f_X11_far x3 0).bind fun v8 =>
      (oI σ μ 11 t 12).bind fun v9 =>
      oC σ 11 t <|
      (rec 0 σ μ t x1 x2 0 0 (x5 + (v8 * (v9 + x4)))).bind fun μ10 =>
      some μ10
    ) else (
      f_X11_goes_b112 rec  fu σ μ t x1 x2 x3 x4 x5 0
    )
  )
def f_scc_X11_goes : Nat → Nat → th_S → th_M → Nat → Int32 → Int32 → Int32 → Int32 → Int32 → Option (th_M)
  | 0, _, _, _, _, _, _, _, _, _ => none
  | d + 1, k, σ, μ, t, x1, x2, x3, x4, x5 =>
    fb_X11_goes (f_scc_X11_goes d) σ μ t x1 x2 x3 x4 x5
def f_X11_goes (σ : th_S) (μ : th_M) (t : Nat) (x1 : Int32) (x2 : Int32) (x3 : Int32) (x4 : Int32) (x5 : Int32) : Option (th_M) := f_scc_X11_goes 20 0 σ μ t x1 x2 x3 x4 x5
def f_X11_fetches (σ : th_S) (μ : th_M) (t : Nat) (x1 : Int32) : Option (Int32 × th_M) :=
  (oPI σ μ 11 t 29 (-1)).bind fun μ1 =>
  oC σ 11 t <|
  (f_X11_goes σ μ1 t x1 0 0 0 0).bind fun μ2 =>
  (oI σ μ2 11 t 29).bind fun v3 =>
  some (v3, μ2)
def f_X11_fetch (σ : th_S) (μ : th_M) (t : Nat) (x1 : Int32) (x2 : Int32) : Option (Int32 × th_M) :=
  oC σ 11 t <|
  (f_X11_onTheLake σ μ t x1).bind fun v1 =>
  if v1 = 0 then (
    some ((-2), μ)
  ) else (
    (f_X11_within x2 0 7).bind fun v2 =>
    if v2 = 0 then (
      some ((-2), μ)
    ) else (
      b2 (f_X11_fetches σ μ t x1) fun v3 μ4 =>
      if x2 = 0 then (
        some (v3, μ4)
      ) else (
        (f_J6_bitCount_0f7a4 x1).bind fun v5 =>
        if x2 ≤ v5 then (
          (oR σ 11 t 31).bind fun a6 =>
          (oA σ μ4 a6 (x2 - 1)).bind fun v7 =>
          some (v7, μ4)
        ) else (
          some ((-1), μ4)
        )
      )
    )
  )
def f_X11_launch_b25  : Nat → th_S → th_M → Nat → Int32 → Int32 → Int32 → Option (Int32 × th_M)
  | 0, _, _, _, _, _, _ => none
  | n + 1, σ, μ, t, x1, x2, x3 =>
    (oI σ μ 11 t 0).bind fun v1 =>
    if v1 ≤ x3 then (
      some (x2, μ)
    ) else (
      if ((jshr x1 x3) &&& 1) = 1 then (
        (oI σ μ 11 t 10).bind fun v2 =>
        oC σ 11 t <|
        (f_X11_comesIn σ μ t x3 v2).bind fun μ3 =>
        f_X11_launch_b25 n σ μ3 t x1 x2 (x3 + 1)
      ) else (
        f_X11_launch_b25 n σ μ t x1 x2 (x3 + 1)
      )
    )
def f_X11_launch (σ : th_S) (μ : th_M) (t : Nat) (x1 : Int32) : Option (Int32 × th_M) :=
  oC σ 11 t <|
  (f_X11_onTheLake σ μ t x1).bind fun v1 =>
  if v1 = 0 then (
    some ((-2), μ)
  ) else (
    b2 (f_X11_fetches σ μ t x1) fun v2 μ3 =>
    b2 (f_X11_passes σ μ3 t v2) fun v4 μ5 =>
    f_X11_launch_b25  fu σ μ5 t x1 v2 0
  )
def f_X11_one__b19  : Nat → th_S → th_M → Nat → Int32 → Int32 → Int32 → Int32 → Option (Int32 × th_M)
  | 0, _, _, _, _, _, _, _ => none
  | n + 1, σ, μ, t, x1, x2, x3, x4 =>
    (oI σ μ 11 t 0).bind fun v1 =>
    if v1 ≤ x4 then (
      if x1 = 0 then (
        some (x2, μ)
      ) else (
        some (x3, μ)
      )
    ) else (
      (oR σ 11 t 6).bind fun a2 =>
      (oA σ μ a2 x4).bind fun v3 =>
      if v3 = 0 then (
        oC σ 11 t <|
        b2 (f_X11_fetches σ μ t (jshl 1 x4)) fun v4 μ5 =>
        if x2 < 0 then (
          f_X11_one__b19 n σ μ5 t x1 x4 v4 (x4 + 1)
        ) else (
          if v4 < x3 then (
            f_X11_one__b19 n σ μ5 t x1 x4 v4 (x4 + 1)
          ) else (
            f_X11_one__b19 n σ μ5 t x1 x2 x3 (x4 + 1)
          )
        )
      ) else (
        f_X11_one__b19 n σ μ t x1 x2 x3 (x4 + 1)
      )
    )
def f_X11_one_ (σ : th_S) (μ : th_M) (t : Nat) (x1 : Int32) : Option (Int32 × th_M) :=
  (f_X11_within x1 0 1).bind fun v1 =>
  if v1 = 0 then (
    some ((-2), μ)
  ) else (
    f_X11_one__b19  fu σ μ t x1 (-1) 0 0
  )
def f_X11_thunder_b102  : Nat → th_S → th_M → Nat → Int32 → Int32 → Int32 → Int32 → Option (Int32 × th_M)
  | 0, _, _, _, _, _, _, _ => none
  | n + 1, σ, μ, t, x1, x3, x4, x5 =>
    (oI σ μ 11 t 0).bind fun v1 =>
    if (jshl 1 v1) ≤ x5 then (
      some (x4, μ)
    ) else (
      if (x5 &&& (x3 ^^^ (-1))) = 0 then (
        (f_J6_bitCount_0f7a4 x5).bind fun v2 =>
        if v2 ≤ x4 then (
          f_X11_thunder_b102 n σ μ t x1 x3 x4 (x5 + 1)
        ) else (
          oC σ 11 t <|
          b2 (f_X11_fetches σ μ t x5) fun v3 μ4 =>
          if x1 < v3 then (
            f_X11_thunder_b102 n σ μ4 t x1 x3 x4 (x5 + 1)
          ) else (
            (f_J6_bitCount_0f7a4 x5).bind fun v5 =>
            f_X11_thunder_b102 n σ μ4 t x1 x3 v5 (x5 + 1)
          )
        )
      ) else (
        f_X11_thunder_b102 n σ μ t x1 x3 x4 (x5 + 1)
      )
    )
def f_X11_thunder_b32  : Nat → th_S → th_M → Nat → Int32 → Int32 → Int32 → Option (Int32 × th_M)
  | 0, _, _, _, _, _, _ => none
  | n + 1, σ, μ, t, x1, x3, x4 =>
    (oI σ μ 11 t 0).bind fun v1 =>
    if v1 ≤ x4 then (
      some (x3, μ)
    ) else (
      oC σ 11 t <|
      b2 (f_X11_wouldBeIn σ μ t x4) fun v2 μ3 =>
      (oR σ 11 t 6).bind fun a4 =>
      (oA σ μ3 a4 x4).bind fun v5 =>
      if v5 = 2 then (
        f_X11_thunder_b32 n σ μ3 t x1 (x3 ||| (jshl 1 x4)) (x4 + 1)
      ) else (
        if v2 < 0 then (
          f_X11_thunder_b32 n σ μ3 t x1 x3 (x4 + 1)
        ) else (
          (oI σ μ3 11 t 10).bind fun v6 =>
          if (v6 + x1) < v2 then (
            f_X11_thunder_b32 n σ μ3 t x1 x3 (x4 + 1)
          ) else (
            f_X11_thunder_b32 n σ μ3 t x1 (x3 ||| (jshl 1 x4)) (x4 + 1)
          )
        )
      )
    )
def f_X11_thunder (σ : th_S) (μ : th_M) (t : Nat) (x1 : Int32) (x2 : Int32) : Option (Int32 × th_M) :=
  (f_X11_within x1 0 240).bind fun v1 =>
  if v1 = 0 then (
    some ((-2), μ)
  ) else (
    (f_X11_within x2 0 1).bind fun v2 =>
    if v2 = 0 then (
      some ((-2), μ)
    ) else (
      if x2 = 0 then (
        f_X11_thunder_b32  fu σ μ t x1 0 0
      ) else (
        oC σ 11 t <|
        b2 (f_X11_nobody σ μ t) fun v3 μ4 =>
        f_X11_thunder_b102  fu σ μ4 t x1 v3 0 1
      )
    )
  )
def f_X11_stand_b89  : Nat → th_S → th_M → Nat → Int32 → Int32 → Int32 → Option (Int32 × th_M)
  | 0, _, _, _, _, _, _ => none
  | n + 1, σ, μ, t, x1, x2, x3 =>
    (oI σ μ 11 t 13).bind fun v1 =>
    if v1 ≤ x3 then (
      some (x2, μ)
    ) else (
      if x1 ≤ x3 then (
        f_X11_stand_b89 n σ μ t x1 (x2 + 240) (x3 + 1)
      ) else (
        (oR σ 11 t 32).bind fun a2 =>
        (oA σ μ a2 x3).bind fun v3 =>
        (oI σ μ 11 t 10).bind fun v4 =>
        f_X11_stand_b89 n σ μ t x1 (x2 + (v3 - v4)) (x3 + 1)
      )
    )
def f_X11_stand_b31 (K4 : th_S → th_M → Nat → Int32 → Int32 → Option (Int32 × th_M)) : Nat → th_S → th_M → Nat → Int32 → Int32 → Int32 → Int32 → Option (Int32 × th_M)
  | 0, _, _, _, _, _, _, _ => none
  | n + 1, σ, μ, t, x1, x2, x3, x4 =>
    if x4 ≤ 0 then (
      (oR σ 11 t 32).bind fun a1 =>
      (oS σ μ a1 x4 x3).bind fun μ2 =>
      K4 σ μ2 t x1 (x2 + 1)
    ) else (
      (oR σ 11 t 32).bind fun a3 =>
      (oA σ μ a3 (x4 - 1)).bind fun v4 =>
      if v4 ≤ x3 then (
        (oR σ 11 t 32).bind fun a5 =>
        (oS σ μ a5 x4 x3).bind fun μ6 =>
        K4 σ μ6 t x1 (x2 + 1)
      ) else (
        (oR σ 11 t 32).bind fun a7 =>
        (oR σ 11 t 32).bind fun a8 =>
        (oA σ μ a8 (x4 - 1)).bind fun v9 =>
        (oS σ μ a7 x4 v9).bind fun μ10 =>
        f_X11_stand_b31 K4 n σ μ10 t x1 x2 x3 (x4 + (-1))
      )
    )
def f_X11_stand_b4  : Nat → th_S → th_M → Nat → Int32 → Int32 → Option (Int32 × th_M)
  | 0, _, _, _, _, _ => none
  | n + 1, σ, μ, t, x1, x2 =>
    (oI σ μ 11 t 0).bind fun v1 =>
    if v1 ≤ x2 then (
      f_X11_stand_b89  fu σ μ t x1 0 0
    ) else (
      oC σ 11 t <|
      b2 (f_X11_wouldBeIn σ μ t x2) fun v2 μ3 =>
      if 0 ≤ v2 then (
        f_X11_stand_b31 (f_X11_stand_b4 n) fu σ μ3 t (x1 + 1) x2 v2 x1
      ) else (
        f_X11_stand_b4 n σ μ3 t x1 (x2 + 1)
      )
    )
def f_X11_stand (σ : th_S) (μ : th_M) (t : Nat) : Option (Int32 × th_M) :=
  f_X11_stand_b4  fu σ μ t 0 0
def f_X11_heard_b44  : Nat → th_S → th_M → Nat → Int32 → Int32 → Int32 → Option (Int32 × th_M)
  | 0, _, _, _, _, _, _ => none
  | n + 1, σ, μ, t, x1, x2, x3 =>
    if (x2 / 2) ≤ x3 then (
      some ((-1), μ)
    ) else (
      (oR σ 11 t 38).bind fun a1 =>
      (oA σ μ a1 ((40 * x1) + (2 * x3))).bind fun v2 =>
      (oR σ 11 t 38).bind fun a3 =>
      (oA σ μ a3 (((40 * x1) + (2 * x3)) + 1)).bind fun v4 =>
      oC σ 11 t <|
      (f_X11_isBoat σ μ t v2).bind fun v5 =>
      if v5 = 0 then (
        some (x3, μ)
      ) else (
        (f_X11_within v4 0 1).bind fun v6 =>
        if v6 = 0 then (
          some (x3, μ)
        ) else (
          (oR σ 11 t 6).bind fun a7 =>
          (oA σ μ a7 v2).bind fun v8 =>
          if v8 = 0 then (
            b2 (f_X11_would_ σ μ t v2) fun v9 μ10 =>
            if v4 = 1 then (
              if v9 = 1 then (
                f_X11_heard_b44 n σ μ10 t x1 x2 (x3 + 1)
              ) else (
                some (x3, μ10)
              )
            ) else (
              if v9 = 0 then (
                f_X11_heard_b44 n σ μ10 t x1 x2 (x3 + 1)
              ) else (
                some (x3, μ10)
              )
            )
          ) else (
            some (x3, μ)
          )
        )
      )
    )
def f_X11_heard (σ : th_S) (μ : th_M) (t : Nat) (x1 : Int32) : Option (Int32 × th_M) :=
  (f_X11_within x1 0 3).bind fun v1 =>
  if v1 = 0 then (
    some ((-2), μ)
  ) else (
    (oR σ 11 t 36).bind fun a2 =>
    (oA σ μ a2 x1).bind fun v3 =>
    if v3 = (-1) then (
      some ((-11), μ)
    ) else (
      (oR σ 11 t 37).bind fun a4 =>
      (oA σ μ a4 x1).bind fun v5 =>
      if (jrem v5 2) = 1 then (
        some ((-2), μ)
      ) else (
        f_X11_heard_b44  fu σ μ t x1 v5 0
      )
    )
  )
def f_X11_where_b25  : Nat → th_S → th_M → Nat → Int32 → Int32 → Int32 → Int32 → Option (Int32 × th_M)
  | 0, _, _, _, _, _, _, _ => none
  | n + 1, σ, μ, t, x1, x2, x3, x4 =>
    if 8 ≤ x4 then (
      some (x3, μ)
    ) else (
      (oI σ μ 11 t 10).bind fun v1 =>
      oC σ 11 t <|
      b2 (f_X11_would σ μ t x1 ((8 * x2) + x4) v1) fun v2 μ3 =>
      if v2 = 0 then (
        f_X11_where_b25 n σ μ3 t x1 x2 x3 (x4 + 1)
      ) else (
        f_X11_where_b25 n σ μ3 t x1 x2 (x3 ||| (jshl 1 x4)) (x4 + 1)
      )
    )
def f_X11_where (σ : th_S) (μ : th_M) (t : Nat) (x1 : Int32) (x2 : Int32) : Option (Int32 × th_M) :=
  oC σ 11 t <|
  (f_X11_isBoat σ μ t x1).bind fun v1 =>
  if v1 = 0 then (
    some ((-2), μ)
  ) else (
    (f_X11_within x2 0 5).bind fun v2 =>
    if v2 = 0 then (
      some ((-2), μ)
    ) else (
      f_X11_where_b25  fu σ μ t x1 x2 0 0
    )
  )
def f_X11_drawn_b29  : Nat → th_S → th_M → Nat → Int32 → Int32 → Int32 → Option (Int32 × th_M)
  | 0, _, _, _, _, _, _ => none
  | n + 1, σ, μ, t, x2, x3, x4 =>
    (oI σ μ 11 t 0).bind fun v1 =>
    if v1 ≤ x4 then (
      (oPI σ μ 11 t 9 x2).bind fun μ2 =>
      some (x3, μ2)
    ) else (
      (oR σ 11 t 6).bind fun a3 =>
      (oA σ μ a3 x4).bind fun v4 =>
      if v4 = 0 then (
        oC σ 11 t <|
        b2 (f_X11_would_ σ μ t x4) fun v5 μ6 =>
        if v5 = 0 then (
          f_X11_drawn_b29 n σ μ6 t x2 x3 (x4 + 1)
        ) else (
          f_X11_drawn_b29 n σ μ6 t x2 (x3 + 1) (x4 + 1)
        )
      ) else (
        f_X11_drawn_b29 n σ μ t x2 x3 (x4 + 1)
      )
    )
def f_X11_drawn (σ : th_S) (μ : th_M) (t : Nat) (x1 : Int32) : Option (Int32 × th_M) :=
  (oI σ μ 11 t 9).bind fun v1 =>
  (oPI σ μ 11 t 9 (jrem ((((x1 * 1103515245) + 12345).toUInt32 >>> ((10 : Int32).toUInt32 &&& Int32.toUInt32 31)).toInt32) 10)).bind fun μ2 =>
  f_X11_drawn_b29  fu σ μ2 t v1 0 0
def f_X11_lowest_b6  : Nat → Int64 → Int64 → Int32 → Int64 → Int64 → Option (Int64)
  | 0, _, _, _, _, _ => none
  | n + 1, x0, x2, x4, x5, x7 =>
    if (lg_cmp x7 0) = 0 then (
      if x4 = 0 then (
        oG (¬ x5 = 0) <|
        some (x0 / x5)
      ) else (
        oG (¬ x5 = 0) <|
        some (x2 / x5)
      )
    ) else (
      oG (¬ x7 = 0) <|
      f_X11_lowest_b6 n x0 x2 x4 x7 (jremL x5 x7)
    )
def f_X11_lowest (x0 : Int64) (x2 : Int64) (x4 : Int32) : Option (Int64) :=
  f_X11_lowest_b6  fu x0 x2 x4 x0 x2
def f_X11_chance_b63  : Nat → th_S → th_M → Nat → Int32 → Int32 → Int32 → Int32 → Int32 → Int32 → Option (Int64 × th_M)
  | 0, _, _, _, _, _, _, _, _, _ => none
  | n + 1, σ, μ, t, x1, x2, x3, x4, x5, x6 =>
    if x2 ≤ x6 then (
      (f_X11_lowest x5.toInt64 x2.toInt64 x3).bind fun v1 =>
      some (v1, μ)
    ) else (
      oC σ 11 t <|
      b2 (f_X11_drawn σ μ t (x1 + x6)) fun v2 μ3 =>
      if v2 = x4 then (
        f_X11_chance_b63 n σ μ3 t x1 x2 x3 x4 (x5 + 1) (x6 + 1)
      ) else (
        f_X11_chance_b63 n σ μ3 t x1 x2 x3 x4 x5 (x6 + 1)
      )
    )
def f_X11_chance_b29  : Nat → th_S → th_M → Nat → Int32 → Int32 → Int32 → Int32 → Int32 → Option (Int64 × th_M)
  | 0, _, _, _, _, _, _, _, _ => none
  | n + 1, σ, μ, t, x1, x2, x3, x4, x5 =>
    (oI σ μ 11 t 0).bind fun v1 =>
    if v1 ≤ x5 then (
      f_X11_chance_b63  fu σ μ t x1 x2 x3 x4 0 0
    ) else (
      (oR σ 11 t 6).bind fun a2 =>
      (oA σ μ a2 x5).bind fun v3 =>
      if v3 = 0 then (
        f_X11_chance_b29 n σ μ t x1 x2 x3 (x4 + 1) (x5 + 1)
      ) else (
        f_X11_chance_b29 n σ μ t x1 x2 x3 x4 (x5 + 1)
      )
    )
def f_X11_chance (σ : th_S) (μ : th_M) (t : Nat) (x1 : Int32) (x2 : Int32) (x3 : Int32) : Option (Int64 × th_M) :=
  (f_X11_within x2 1 20).bind fun v1 =>
  if v1 = 0 then (
    some ((-4611686018427387904), μ)
  ) else (
    (f_X11_within x3 0 1).bind fun v2 =>
    if v2 = 0 then (
      some ((-4611686018427387904), μ)
    ) else (
      f_X11_chance_b29  fu σ μ t x1 x2 x3 0 0
    )
  )
def f_X11_image_b15  : Nat → th_S → th_M → Nat → Int32 → Option (Int32 × th_M)
  | 0, _, _, _, _ => none
  | n + 1, σ, μ, t, x1 =>
    (oI σ μ 11 t 0).bind fun v1 =>
    if v1 ≤ x1 then (
      (oR σ 11 t 35).bind fun a2 =>
      (oI σ μ 11 t 8).bind fun v3 =>
      (oSn σ μ a2 42 v3).bind fun μ4 =>
      (oR σ 11 t 35).bind fun a5 =>
      (oI σ μ4 11 t 9).bind fun v6 =>
      (oSn σ μ4 a5 43 v6).bind fun μ7 =>
      (oR σ 11 t 35).bind fun a8 =>
      (oI σ μ7 11 t 10).bind fun v9 =>
      (oSn σ μ7 a8 44 v9).bind fun μ10 =>
      (oR σ 11 t 35).bind fun a11 =>
      (oI σ μ10 11 t 11).bind fun v12 =>
      (oSn σ μ10 a11 45 v12).bind fun μ13 =>
      (oR σ 11 t 35).bind fun a14 =>
      (oI σ μ13 11 t 12).bind fun v15 =>
      (oSn σ μ13 a14 46 v15).bind fun μ16 =>
      (oR σ 11 t 35).bind fun a17 =>
      (oI σ μ16 11 t 13).bind fun v18 =>
      (oSn σ μ16 a17 47 v18).bind fun μ19 =>
      (oR σ 11 t 35).bind fun a20 =>
      (oI σ μ19 11 t 14).bind fun v21 =>
      (oSn σ μ19 a20 48 v21).bind fun μ22 =>
      (oR σ 11 t 35).bind fun a23 =>
      (oI σ μ22 11 t 18).bind fun v24 =>
      (oSn σ μ22 a23 49 v24).bind fun μ25 =>
      (oI σ μ25 11 t 0).bind fun v26 =>
      some (v26, μ25)
    ) else (
      (oR σ 11 t 35).bind fun a27 =>
      (oR σ 11 t 3).bind fun a28 =>
      (oA σ μ a28 x1).bind fun v29 =>
      (oS σ μ a27 (6 * x1) v29).bind fun μ30 =>
      (oR σ 11 t 35).bind fun a31 =>
      (oR σ 11 t 4).bind fun a32 =>
      (oA σ μ30 a32 x1).bind fun v33 =>
      (oS σ μ30 a31 ((6 * x1) + 1) v33).bind fun μ34 =>
      (oR σ 11 t 35).bind fun a35 =>
      (oR σ 11 t 5).bind fun a36 =>
      (oA σ μ34 a36 x1).bind fun v37 =>
      (oS σ μ34 a35 ((6 * x1) + 2) v37).bind fun μ38 =>
      (oR σ 11 t 35).bind fun a39 =>
      (oR σ 11 t 2).bind fun a40 =>
      (oA σ μ38 a40 x1).bind fun v41 =>
      (oS σ μ38 a39 ((6 * x1) + 3) v41).bind fun μ42 =>
      (oR σ 11 t 35).bind fun a43 =>
      (oR σ 11 t 6).bind fun a44 =>
      (oA σ μ42 a44 x1).bind fun v45 =>
      (oS σ μ42 a43 ((6 * x1) + 4) v45).bind fun μ46 =>
      (oR σ 11 t 35).bind fun a47 =>
      (oR σ 11 t 7).bind fun a48 =>
      (oA σ μ46 a48 x1).bind fun v49 =>
      (oS σ μ46 a47 ((6 * x1) + 5) v49).bind fun μ50 =>
      f_X11_image_b15 n σ μ50 t (x1 + 1)
    )
def f_X11_image (σ : th_S) (μ : th_M) (t : Nat) : Option (Int32 × th_M) :=
  (oPI σ μ 11 t 33 1).bind fun μ1 =>
  (oI σ μ1 11 t 0).bind fun v2 =>
  (oPI σ μ1 11 t 34 v2).bind fun μ3 =>
  f_X11_image_b15  fu σ μ3 t 0
def f_X11_back_b20  : Nat → th_S → th_M → Nat → Int32 → Option (Int32 × th_M)
  | 0, _, _, _, _ => none
  | n + 1, σ, μ, t, x1 =>
    (oI σ μ 11 t 0).bind fun v1 =>
    if v1 ≤ x1 then (
      (oR σ 11 t 35).bind fun a2 =>
      (oAn σ μ a2 42).bind fun v3 =>
      (oPI σ μ 11 t 8 v3).bind fun μ4 =>
      (oR σ 11 t 35).bind fun a5 =>
      (oAn σ μ4 a5 43).bind fun v6 =>
      (oPI σ μ4 11 t 9 v6).bind fun μ7 =>
      (oR σ 11 t 35).bind fun a8 =>
      (oAn σ μ7 a8 44).bind fun v9 =>
      (oPI σ μ7 11 t 10 v9).bind fun μ10 =>
      (oR σ 11 t 35).bind fun a11 =>
      (oAn σ μ10 a11 45).bind fun v12 =>
      (oPI σ μ10 11 t 11 v12).bind fun μ13 =>
      (oR σ 11 t 35).bind fun a14 =>
      (oAn σ μ13 a14 46).bind fun v15 =>
      (oPI σ μ13 11 t 12 v15).bind fun μ16 =>
      (oR σ 11 t 35).bind fun a17 =>
      (oAn σ μ16 a17 47).bind fun v18 =>
      (oPI σ μ16 11 t 13 v18).bind fun μ19 =>
      (oR σ 11 t 35).bind fun a20 =>
      (oAn σ μ19 a20 48).bind fun v21 =>
      (oPI σ μ19 11 t 14 v21).bind fun μ22 =>
      (oR σ 11 t 35).bind fun a23 =>
      (oAn σ μ22 a23 49).bind fun v24 =>
      (oPI σ μ22 11 t 18 v24).bind fun μ25 =>
      (oI σ μ25 11 t 0).bind fun v26 =>
      some (v26, μ25)
    ) else (
      (oR σ 11 t 3).bind fun a27 =>
      (oR σ 11 t 35).bind fun a28 =>
      (oA σ μ a28 (6 * x1)).bind fun v29 =>
      (oS σ μ a27 x1 v29).bind fun μ30 =>
      (oR σ 11 t 4).bind fun a31 =>
      (oR σ 11 t 35).bind fun a32 =>
      (oA σ μ30 a32 ((6 * x1) + 1)).bind fun v33 =>
      (oS σ μ30 a31 x1 v33).bind fun μ34 =>
      (oR σ 11 t 5).bind fun a35 =>
      (oR σ 11 t 35).bind fun a36 =>
      (oA σ μ34 a36 ((6 * x1) + 2)).bind fun v37 =>
      (oS σ μ34 a35 x1 v37).bind fun μ38 =>
      (oR σ 11 t 2).bind fun a39 =>
      (oR σ 11 t 35).bind fun a40 =>
      (oA σ μ38 a40 ((6 * x1) + 3)).bind fun v41 =>
      (oS σ μ38 a39 x1 v41).bind fun μ42 =>
      (oR σ 11 t 6).bind fun a43 =>
      (oR σ 11 t 35).bind fun a44 =>
      (oA σ μ42 a44 ((6 * x1) + 4)).bind fun v45 =>
      (oS σ μ42 a43 x1 v45).bind fun μ46 =>
      (oR σ 11 t 7).bind fun a47 =>
      (oR σ 11 t 35).bind fun a48 =>
      (oA σ μ46 a48 ((6 * x1) + 5)).bind fun v49 =>
      (oS σ μ46 a47 x1 v49).bind fun μ50 =>
      f_X11_back_b20 n σ μ50 t (x1 + 1)
    )
def f_X11_back (σ : th_S) (μ : th_M) (t : Nat) : Option (Int32 × th_M) :=
  (oI σ μ 11 t 33).bind fun v1 =>
  if v1 = 0 then (
    some ((-3), μ)
  ) else (
    (oI σ μ 11 t 34).bind fun v2 =>
    (oPI σ μ 11 t 0 v2).bind fun μ3 =>
    f_X11_back_b20  fu σ μ3 t 0
  )
def f_X11_thoseWho_b4  : Nat → th_S → th_M → Nat → Int32 → Int32 → Int32 → Option (Int32)
  | 0, _, _, _, _, _, _ => none
  | n + 1, σ, μ, t, x1, x2, x3 =>
    (oI σ μ 11 t 0).bind fun v1 =>
    if v1 ≤ x3 then (
      some x2
    ) else (
      (oR σ 11 t 6).bind fun a2 =>
      (oA σ μ a2 x3).bind fun v3 =>
      if v3 = x1 then (
        f_X11_thoseWho_b4 n σ μ t x1 (x2 + 1) (x3 + 1)
      ) else (
        f_X11_thoseWho_b4 n σ μ t x1 x2 (x3 + 1)
      )
    )
def f_X11_thoseWho (σ : th_S) (μ : th_M) (t : Nat) (x1 : Int32) : Option (Int32) :=
  f_X11_thoseWho_b4  fu σ μ t x1 0 0
def f_X11_count (σ : th_S) (μ : th_M) (t : Nat) (x1 : Int32) : Option (Int32) :=
  if x1 = 0 then (
    (oI σ μ 11 t 0).bind fun v1 =>
    some v1
  ) else
  if x1 = 1 then (
    oC σ 11 t <|
    (f_X11_thoseWho σ μ t 0).bind fun v2 =>
    some v2
  ) else
  if x1 = 2 then (
    oC σ 11 t <|
    (f_X11_thoseWho σ μ t 1).bind fun v3 =>
    some v3
  ) else
  if x1 = 3 then (
    oC σ 11 t <|
    (f_X11_thoseWho σ μ t 2).bind fun v4 =>
    some v4
  ) else
  if x1 = 4 then (
    (oI σ μ 11 t 10).bind fun v5 =>
    some v5
  ) else
  if x1 = 5 then (
    (oI σ μ 11 t 14).bind fun v6 =>
    some v6
  ) else
  if x1 = 6 then (
    (oI σ μ 11 t 13).bind fun v7 =>
    some v7
  ) else
  if x1 = 7 then (
    (oI σ μ 11 t 17).bind fun v8 =>
    some v8
  ) else
  if x1 = 8 then (
    (oI σ μ 11 t 15).bind fun v9 =>
    some v9
  ) else
  if x1 = 9 then (
    (oI σ μ 11 t 18).bind fun v10 =>
    some v10
  ) else
  (
    some (-2)
  )
def f_X11_sheet_b68  : Nat → th_S → th_M → Nat → Int32 → Int32 → Option (Int32 × th_M)
  | 0, _, _, _, _, _ => none
  | n + 1, σ, μ, t, x1, x4 =>
    if 40 ≤ x4 then (
      some (1, μ)
    ) else (
      (oR σ 11 t 38).bind fun a1 =>
      (oS σ μ a1 ((40 * x1) + x4) 0).bind fun μ2 =>
      f_X11_sheet_b68 n σ μ2 t x1 (x4 + 1)
    )
def f_X11_sheet (σ : th_S) (μ : th_M) (t : Nat) (x1 : Int32) (x2 : Int32) (x3 : Int32) : Option (Int32 × th_M) :=
  (f_X11_within x1 0 3).bind fun v1 =>
  if v1 = 0 then (
    some ((-2), μ)
  ) else (
    (f_X11_within x2 (-1) 2).bind fun v2 =>
    if v2 = 0 then (
      some ((-2), μ)
    ) else (
      if x2 = (-1) then (
        (oR σ 11 t 36).bind fun a3 =>
        (oS σ μ a3 x1 (-1)).bind fun μ4 =>
        some (1, μ4)
      ) else (
        if x3 ≤ 40 then (
          if 0 ≤ x3 then (
            (oR σ 11 t 36).bind fun a5 =>
            (oS σ μ a5 x1 x2).bind fun μ6 =>
            (oR σ 11 t 37).bind fun a7 =>
            (oS σ μ6 a7 x1 x3).bind fun μ8 =>
            f_X11_sheet_b68  fu σ μ8 t x1 0
          ) else (
            some ((-14), μ)
          )
        ) else (
          some ((-2), μ)
        )
      )
    )
  )
def f_X11_cell (σ : th_S) (μ : th_M) (t : Nat) (x1 : Int32) (x2 : Int32) (x3 : Int32) : Option (Int32 × th_M) :=
  (f_X11_within x1 0 3).bind fun v1 =>
  if v1 = 0 then (
    some ((-2), μ)
  ) else (
    (oR σ 11 t 36).bind fun a2 =>
    (oA σ μ a2 x1).bind fun v3 =>
    if v3 = (-1) then (
      some ((-11), μ)
    ) else (
      (oR σ 11 t 37).bind fun a4 =>
      (oA σ μ a4 x1).bind fun v5 =>
      (f_X11_within x2 0 (v5 - 1)).bind fun v6 =>
      if v6 = 0 then (
        some ((-12), μ)
      ) else (
        (oR σ 11 t 38).bind fun a7 =>
        (oR σ 11 t 36).bind fun a8 =>
        (oA σ μ a8 x1).bind fun v9 =>
        if v9 = 0 then (
          (oS σ μ a7 ((40 * x1) + x2) x3.toInt8.toInt32).bind fun μ10 =>
          some (1, μ10)
        ) else (
          (oR σ 11 t 36).bind fun a11 =>
          (oA σ μ a11 x1).bind fun v12 =>
          if v12 = 1 then (
            (oS σ μ a7 ((40 * x1) + x2) x3.toInt16.toInt32).bind fun μ13 =>
            some (1, μ13)
          ) else (
            (oS σ μ a7 ((40 * x1) + x2) x3).bind fun μ14 =>
            some (1, μ14)
          )
        )
      )
    )
  )
def f_X11_copy_b154  : Nat → th_S → th_M → Nat → Int32 → Int32 → Int32 → Int32 → Option (Int32 × th_M)
  | 0, _, _, _, _, _, _, _ => none
  | n + 1, σ, μ, t, x3, x4, x5, x6 =>
    if x5 ≤ x6 then (
      some (x5, μ)
    ) else (
      (oR σ 11 t 38).bind fun a1 =>
      (oR σ 11 t 39).bind fun a2 =>
      (oA σ μ a2 x6).bind fun v3 =>
      (oS σ μ a1 (((40 * x3) + x4) + x6) v3).bind fun μ4 =>
      f_X11_copy_b154 n σ μ4 t x3 x4 x5 (x6 + 1)
    )
def f_X11_copy_b117  : Nat → th_S → th_M → Nat → Int32 → Int32 → Int32 → Int32 → Int32 → Int32 → Option (Int32 × th_M)
  | 0, _, _, _, _, _, _, _, _, _ => none
  | n + 1, σ, μ, t, x1, x2, x3, x4, x5, x6 =>
    if x5 ≤ x6 then (
      f_X11_copy_b154  fu σ μ t x3 x4 x5 0
    ) else (
      (oR σ 11 t 39).bind fun a1 =>
      (oR σ 11 t 38).bind fun a2 =>
      (oA σ μ a2 (((40 * x1) + x2) + x6)).bind fun v3 =>
      (oS σ μ a1 x6 v3).bind fun μ4 =>
      f_X11_copy_b117 n σ μ4 t x1 x2 x3 x4 x5 (x6 + 1)
    )
def f_X11_copy (σ : th_S) (μ : th_M) (t : Nat) (x1 : Int32) (x2 : Int32) (x3 : Int32) (x4 : Int32) (x5 : Int32) : Option (Int32 × th_M) :=
  (f_X11_within x1 0 3).bind fun v1 =>
  if v1 = 0 then (
    some ((-2), μ)
  ) else (
    (f_X11_within x3 0 3).bind fun v2 =>
    if v2 = 0 then (
      some ((-2), μ)
    ) else (
      (oR σ 11 t 36).bind fun a3 =>
      (oA σ μ a3 x1).bind fun v4 =>
      if v4 = (-1) then (
        some ((-11), μ)
      ) else (
        (oR σ 11 t 36).bind fun a5 =>
        (oA σ μ a5 x3).bind fun v6 =>
        if v6 = (-1) then (
          some ((-11), μ)
        ) else (
          (oR σ 11 t 36).bind fun a7 =>
          (oA σ μ a7 x1).bind fun v8 =>
          (oR σ 11 t 36).bind fun a9 =>
          (oA σ μ a9 x3).bind fun v10 =>
          if v8 = v10 then (
            if x2 < 0 then (
              some ((-12), μ)
            ) else (
              if x4 < 0 then (
                some ((-12), μ)
              ) else (
                if x5 < 0 then (
                  some ((-12), μ)
                ) else (
                  (oR σ 11 t 37).bind fun a11 =>
                  (oA σ μ a11 x1).bind fun v12 =>
                  if 0 < (lg_cmp (x2.toInt64 + x5.toInt64) v12.toInt64) then (
                    some ((-12), μ)
                  ) else (
                    (oR σ 11 t 37).bind fun a13 =>
                    (oA σ μ a13 x3).bind fun v14 =>
                    if (lg_cmp (x4.toInt64 + x5.toInt64) v14.toInt64) ≤ 0 then (
                      f_X11_copy_b117  fu σ μ t x1 x2 x3 x4 x5 0
                    ) else (
                      some ((-12), μ)
                    )
                  )
                )
              )
            )
          ) else (
            some ((-13), μ)
          )
        )
      )
    )
  )
def f_X11_boats_b64  : Nat → th_S → th_M → Nat → Int32 → Int32 → Int32 → Int32 → Int32 → Option (Int32 × th_M)
  | 0, _, _, _, _, _, _, _, _ => none
  | n + 1, σ, μ, t, x1, x3, x4, x5, x6 =>
    if x4 ≤ x6 then (
      some (x5, μ)
    ) else (
      if (lg_cmp (x3.toInt64 + (3 * x6.toInt64)) 0) < 0 then (
        some ((-12), μ)
      ) else (
        (oR σ 11 t 37).bind fun a1 =>
        (oA σ μ a1 x1).bind fun v2 =>
        if (lg_cmp ((x3.toInt64 + (3 * x6.toInt64)) + 2) v2.toInt64) < 0 then (
          (oR σ 11 t 38).bind fun a3 =>
          (oA σ μ a3 ((40 * x1) + ((x3.toInt64 + (3 * x6.toInt64)).toInt32))).bind fun v4 =>
          (oR σ 11 t 38).bind fun a5 =>
          (oA σ μ a5 (((40 * x1) + ((x3.toInt64 + (3 * x6.toInt64)).toInt32)) + 1)).bind fun v6 =>
          (oR σ 11 t 38).bind fun a7 =>
          (oA σ μ a7 (((40 * x1) + ((x3.toInt64 + (3 * x6.toInt64)).toInt32)) + 2)).bind fun v8 =>
          oC σ 11 t <|
          b2 (f_X11_boat σ μ t v4 v6 v8) fun v9 μ10 =>
          if v9 < 0 then (
            f_X11_boats_b64 n σ μ10 t x1 x3 x4 x5 (x6 + 1)
          ) else (
            f_X11_boats_b64 n σ μ10 t x1 x3 x4 (x5 + 1) (x6 + 1)
          )
        ) else (
          some ((-12), μ)
        )
      )
    )
def f_X11_boats (σ : th_S) (μ : th_M) (t : Nat) (x1 : Int32) (x2 : Int32) (x3 : Int32) (x4 : Int32) : Option (Int32 × th_M) :=
  (f_X11_within x1 0 3).bind fun v1 =>
  if v1 = 0 then (
    some ((-2), μ)
  ) else (
    (f_X11_within x2 0 2).bind fun v2 =>
    if v2 = 0 then (
      some ((-2), μ)
    ) else (
      (f_X11_within x4 0 7).bind fun v3 =>
      if v3 = 0 then (
        some ((-2), μ)
      ) else (
        (oR σ 11 t 36).bind fun a4 =>
        (oA σ μ a4 x1).bind fun v5 =>
        if v5 = (-1) then (
          some ((-11), μ)
        ) else (
          (oR σ 11 t 36).bind fun a6 =>
          (oA σ μ a6 x1).bind fun v7 =>
          if v7 = x2 then (
            f_X11_boats_b64  fu σ μ t x1 x3 x4 0 0
          ) else (
            some ((-13), μ)
          )
        )
      )
    )
  )
def f_X11_taken_b62  (σ : th_S) (μ : th_M) (t : Nat) (x1 : Int32) (x2 : Int32) (x3 : Int32) : Option (Int32) :=
  if x3 = x2 then (
    (oR σ 11 t 2).bind fun a1 =>
    (oA σ μ a1 x1).bind fun v2 =>
    some v2
  ) else (
    some (-13)
  )
def f_X11_taken_b30  : Nat → th_S → th_M → Nat → Int32 → Int32 → Int32 → Option (Int32)
  | 0, _, _, _, _, _, _ => none
  | n + 1, σ, μ, t, x1, x2, x3 =>
    if x3 = x2 then (
      f_X11_taken_b62 σ μ t x1 x2 x3
    ) else (
      if x3 ≤ 0 then (
        f_X11_taken_b62 σ μ t x1 x2 x3
      ) else (
        if x3 = 3 then (
          f_X11_taken_b30 n σ μ t x1 x2 1
        ) else (
          if x3 = 4 then (
            f_X11_taken_b30 n σ μ t x1 x2 2
          ) else (
            f_X11_taken_b30 n σ μ t x1 x2 0
          )
        )
      )
    )
def f_X11_taken (σ : th_S) (μ : th_M) (t : Nat) (x1 : Int32) (x2 : Int32) : Option (Int32) :=
  (f_X11_within x2 0 5).bind fun v1 =>
  if v1 = 0 then (
    some (-2)
  ) else (
    oC σ 11 t <|
    (f_X11_isBoat σ μ t x1).bind fun v2 =>
    if v2 = 0 then (
      some (-11)
    ) else (
      (oR σ 11 t 1).bind fun a3 =>
      (oA σ μ a3 x1).bind fun v4 =>
      f_X11_taken_b30  fu σ μ t x1 x2 v4
    )
  )
def oXs (L : Nat) (xs : Nat → Int32) (i : Int32) : Option Int32 := if ¬ (i < 0 ∨ L ≤ i.toNatClampNeg) then some (xs i.toNatClampNeg) else none
def f_L_law_b18 (L : Nat) (xs : Nat → Int32)  : Nat → th_S → th_M → Nat → Nat → Int32 → Option (Int32)
  | 0, _, _, _, _, _ => none
  | n + 1, σ, μ, x1, x2, x3 =>
    if ((Int32.ofNat L) - 6) < x3 then (
      some 1
    ) else (
      (oXs L xs x3).bind fun v1 =>
      if (v1 &&& 31) = 0 then (
        (oXs L xs (x3 + 1)).bind fun v2 =>
        (oXs L xs (x3 + 2)).bind fun v3 =>
        (oXs L xs (x3 + 3)).bind fun v4 =>
        oC σ 10 x1 <|
        b3 (f_X10_boat σ μ x1 v2 v3 v4) fun v5 σ6 μ7 =>
        (oXs L xs (x3 + 1)).bind fun v8 =>
        (oXs L xs (x3 + 2)).bind fun v9 =>
        (oXs L xs (x3 + 3)).bind fun v10 =>
        oC σ6 11 x2 <|
        b2 (f_X11_boat σ6 μ7 x2 v8 v9 v10) fun v11 μ12 =>
        if v5 = v11 then (
          f_L_law_b18 L xs n σ6 μ12 x1 x2 (x3 + 6)
        ) else (
          some 0
        )
      ) else
      if (v1 &&& 31) = 1 then (
        (oXs L xs (x3 + 1)).bind fun v13 =>
        (oXs L xs (x3 + 2)).bind fun v14 =>
        (oXs L xs (x3 + 3)).bind fun v15 =>
        oC σ 10 x1 <|
        b2 (f_X10_set σ μ x1 v13 v14 v15) fun v16 μ17 =>
        (oXs L xs (x3 + 1)).bind fun v18 =>
        (oXs L xs (x3 + 2)).bind fun v19 =>
        (oXs L xs (x3 + 3)).bind fun v20 =>
        oC σ 11 x2 <|
        b2 (f_X11_set σ μ17 x2 v18 v19 v20) fun v21 μ22 =>
        if v16 = v21 then (
          f_L_law_b18 L xs n σ μ22 x1 x2 (x3 + 6)
        ) else (
          some 0
        )
      ) else
      if (v1 &&& 31) = 2 then (
        (oXs L xs (x3 + 1)).bind fun v23 =>
        (oXs L xs (x3 + 2)).bind fun v24 =>
        oC σ 10 x1 <|
        b2 (f_X10_told σ μ x1 v23 v24) fun v25 μ26 =>
        (oXs L xs (x3 + 1)).bind fun v27 =>
        (oXs L xs (x3 + 2)).bind fun v28 =>
        oC σ 11 x2 <|
        b2 (f_X11_told σ μ26 x2 v27 v28) fun v29 μ30 =>
        if v25 = v29 then (
          f_L_law_b18 L xs n σ μ30 x1 x2 (x3 + 6)
        ) else (
          some 0
        )
      ) else
      if (v1 &&& 31) = 3 then (
        (oXs L xs (x3 + 1)).bind fun v31 =>
        oC σ 10 x1 <|
        b2 (f_X10_feed σ μ x1 v31) fun v32 μ33 =>
        (oXs L xs (x3 + 1)).bind fun v34 =>
        oC σ 11 x2 <|
        b2 (f_X11_feed σ μ33 x2 v34) fun v35 μ36 =>
        if v32 = v35 then (
          f_L_law_b18 L xs n σ μ36 x1 x2 (x3 + 6)
        ) else (
          some 0
        )
      ) else
      if (v1 &&& 31) = 4 then (
        oC σ 10 x1 <|
        b3 (f_X10_text σ μ x1) fun v37 σ38 μ39 =>
        oC σ38 11 x2 <|
        b2 (f_X11_text σ38 μ39 x2) fun v40 μ41 =>
        if v37 = v40 then (
          f_L_law_b18 L xs n σ38 μ41 x1 x2 (x3 + 6)
        ) else (
          some 0
        )
      ) else
      if (v1 &&& 31) = 5 then (
        (oXs L xs (x3 + 1)).bind fun v42 =>
        oC σ 10 x1 <|
        b2 (f_X10_force σ μ x1 v42) fun v43 μ44 =>
        (oXs L xs (x3 + 1)).bind fun v45 =>
        oC σ 11 x2 <|
        b2 (f_X11_force σ μ44 x2 v45) fun v46 μ47 =>
        if v43 = v46 then (
          f_L_law_b18 L xs n σ μ47 x1 x2 (x3 + 6)
        ) else (
          some 0
        )
      ) else
      if (v1 &&& 31) = 6 then (
        (oXs L xs (x3 + 1)).bind fun v48 =>
        oC σ 10 x1 <|
        b2 (f_X10_call σ μ x1 v48) fun v49 μ50 =>
        (oXs L xs (x3 + 1)).bind fun v51 =>
        oC σ 11 x2 <|
        b2 (f_X11_call σ μ50 x2 v51) fun v52 μ53 =>
        if v49 = v52 then (
          f_L_law_b18 L xs n σ μ53 x1 x2 (x3 + 6)
        ) else (
          some 0
        )
      ) else
      if (v1 &&& 31) = 7 then (
        (oXs L xs (x3 + 1)).bind fun v54 =>
        oC σ 10 x1 <|
        b2 (f_X10_time σ μ x1 v54) fun v55 μ56 =>
        (oXs L xs (x3 + 1)).bind fun v57 =>
        oC σ 11 x2 <|
        b2 (f_X11_time σ μ56 x2 v57) fun v58 μ59 =>
        if v55 = v58 then (
          f_L_law_b18 L xs n σ μ59 x1 x2 (x3 + 6)
        ) else (
          some 0
        )
      ) else
      if (v1 &&& 31) = 8 then (
        oC σ 10 x1 <|
        b2 (f_X10_nobody σ μ x1) fun v60 μ61 =>
        oC σ 11 x2 <|
        b2 (f_X11_nobody σ μ61 x2) fun v62 μ63 =>
        if v60 = v62 then (
          f_L_law_b18 L xs n σ μ63 x1 x2 (x3 + 6)
        ) else (
          some 0
        )
      ) else
      if (v1 &&& 31) = 9 then (
        (oXs L xs (x3 + 1)).bind fun v64 =>
        oC σ 10 x1 <|
        b2 (f_X10_callAt σ μ x1 v64) fun v65 μ66 =>
        (oXs L xs (x3 + 1)).bind fun v67 =>
        oC σ 11 x2 <|
        b2 (f_X11_callAt σ μ66 x2 v67) fun v68 μ69 =>
        if v65 = v68 then (
          f_L_law_b18 L xs n σ μ69 x1 x2 (x3 + 6)
        ) else (
          some 0
        )
      ) else
      if (v1 &&& 31) = 10 then (
        oC σ 10 x1 <|
        b2 (f_X10_allIn σ μ x1) fun v70 μ71 =>
        oC σ 11 x2 <|
        b2 (f_X11_allIn σ μ71 x2) fun v72 μ73 =>
        if v70 = v72 then (
          f_L_law_b18 L xs n σ μ73 x1 x2 (x3 + 6)
        ) else (
          some 0
        )
      ) else
      if (v1 &&& 31) = 11 then (
        (oXs L xs (x3 + 1)).bind fun v74 =>
        (oXs L xs (x3 + 2)).bind fun v75 =>
        oC σ 10 x1 <|
        b2 (f_X10_fetch σ μ x1 v74 v75) fun v76 μ77 =>
        (oXs L xs (x3 + 1)).bind fun v78 =>
        (oXs L xs (x3 + 2)).bind fun v79 =>
        oC σ 11 x2 <|
        b2 (f_X11_fetch σ μ77 x2 v78 v79) fun v80 μ81 =>
        if v76 = v80 then (
          f_L_law_b18 L xs n σ μ81 x1 x2 (x3 + 6)
        ) else (
          some 0
        )
      ) else
      if (v1 &&& 31) = 12 then (
        (oXs L xs (x3 + 1)).bind fun v82 =>
        oC σ 10 x1 <|
        b2 (f_X10_launch σ μ x1 v82) fun v83 μ84 =>
        (oXs L xs (x3 + 1)).bind fun v85 =>
        oC σ 11 x2 <|
        b2 (f_X11_launch σ μ84 x2 v85) fun v86 μ87 =>
        if v83 = v86 then (
          f_L_law_b18 L xs n σ μ87 x1 x2 (x3 + 6)
        ) else (
          some 0
        )
      ) else
      if (v1 &&& 31) = 13 then (
        (oXs L xs (x3 + 1)).bind fun v88 =>
        oC σ 10 x1 <|
        b2 (f_X10_one σ μ x1 v88) fun v89 μ90 =>
        (oXs L xs (x3 + 1)).bind fun v91 =>
        oC σ 11 x2 <|
        b2 (f_X11_one_ σ μ90 x2 v91) fun v92 μ93 =>
        if v89 = v92 then (
          f_L_law_b18 L xs n σ μ93 x1 x2 (x3 + 6)
        ) else (
          some 0
        )
      ) else
      if (v1 &&& 31) = 14 then (
        (oXs L xs (x3 + 1)).bind fun v94 =>
        (oXs L xs (x3 + 2)).bind fun v95 =>
        oC σ 10 x1 <|
        b2 (f_X10_thunder σ μ x1 v94 v95) fun v96 μ97 =>
        (oXs L xs (x3 + 1)).bind fun v98 =>
        (oXs L xs (x3 + 2)).bind fun v99 =>
        oC σ 11 x2 <|
        b2 (f_X11_thunder σ μ97 x2 v98 v99) fun v100 μ101 =>
        if v96 = v100 then (
          f_L_law_b18 L xs n σ μ101 x1 x2 (x3 + 6)
        ) else (
          some 0
        )
      ) else
      if (v1 &&& 31) = 15 then (
        oC σ 10 x1 <|
        b2 (f_X10_stand σ μ x1) fun v102 μ103 =>
        oC σ 11 x2 <|
        b2 (f_X11_stand σ μ103 x2) fun v104 μ105 =>
        if v102 = v104 then (
          f_L_law_b18 L xs n σ μ105 x1 x2 (x3 + 6)
        ) else (
          some 0
        )
      ) else
      if (v1 &&& 31) = 16 then (
        (oXs L xs (x3 + 1)).bind fun v106 =>
        oC σ 10 x1 <|
        b2 (f_X10_heard σ μ x1 v106) fun v107 μ108 =>
        (oXs L xs (x3 + 1)).bind fun v109 =>
        oC σ 11 x2 <|
        b2 (f_X11_heard σ μ108 x2 v109) fun v110 μ111 =>
        if v107 = v110 then (
          f_L_law_b18 L xs n σ μ111 x1 x2 (x3 + 6)
        ) else (
          some 0
        )
      ) else
      if (v1 &&& 31) = 17 then (
        (oXs L xs (x3 + 1)).bind fun v112 =>
        (oXs L xs (x3 + 2)).bind fun v113 =>
        oC σ 10 x1 <|
        b2 (f_X10_where σ μ x1 v112 v113) fun v114 μ115 =>
        (oXs L xs (x3 + 1)).bind fun v116 =>
        (oXs L xs (x3 + 2)).bind fun v117 =>
        oC σ 11 x2 <|
        b2 (f_X11_where σ μ115 x2 v116 v117) fun v118 μ119 =>
        if v114 = v118 then (
          f_L_law_b18 L xs n σ μ119 x1 x2 (x3 + 6)
        ) else (
          some 0
        )
      ) else
      if (v1 &&& 31) = 18 then (
        (oXs L xs (x3 + 1)).bind fun v120 =>
        oC σ 10 x1 <|
        b2 (f_X10_drawn σ μ x1 v120) fun v121 μ122 =>
        (oXs L xs (x3 + 1)).bind fun v123 =>
        oC σ 11 x2 <|
        b2 (f_X11_drawn σ μ122 x2 v123) fun v124 μ125 =>
        if v121 = v124 then (
          f_L_law_b18 L xs n σ μ125 x1 x2 (x3 + 6)
        ) else (
          some 0
        )
      ) else
      if (v1 &&& 31) = 19 then (
        (oXs L xs (x3 + 1)).bind fun v126 =>
        (oXs L xs (x3 + 2)).bind fun v127 =>
        (oXs L xs (x3 + 3)).bind fun v128 =>
        oC σ 10 x1 <|
        b2 (f_X10_chance σ μ x1 v126 v127 v128) fun v129 μ130 =>
        (oXs L xs (x3 + 1)).bind fun v131 =>
        (oXs L xs (x3 + 2)).bind fun v132 =>
        (oXs L xs (x3 + 3)).bind fun v133 =>
        oC σ 11 x2 <|
        b2 (f_X11_chance σ μ130 x2 v131 v132 v133) fun v134 μ135 =>
        if (lg_cmp v129 v134) = 0 then (
          f_L_law_b18 L xs n σ μ135 x1 x2 (x3 + 6)
        ) else (
          some 0
        )
      ) else
      if (v1 &&& 31) = 20 then (
        oC σ 10 x1 <|
        b2 (f_X10_image σ μ x1) fun v136 μ137 =>
        oC σ 11 x2 <|
        b2 (f_X11_image σ μ137 x2) fun v138 μ139 =>
        if v136 = v138 then (
          f_L_law_b18 L xs n σ μ139 x1 x2 (x3 + 6)
        ) else (
          some 0
        )
      ) else
      if (v1 &&& 31) = 21 then (
        oC σ 10 x1 <|
        b2 (f_X10_back σ μ x1) fun v140 μ141 =>
        oC σ 11 x2 <|
        b2 (f_X11_back σ μ141 x2) fun v142 μ143 =>
        if v140 = v142 then (
          f_L_law_b18 L xs n σ μ143 x1 x2 (x3 + 6)
        ) else (
          some 0
        )
      ) else
      if (v1 &&& 31) = 22 then (
        (oXs L xs (x3 + 1)).bind fun v144 =>
        oC σ 10 x1 <|
        (f_X10_count σ μ x1 v144).bind fun v145 =>
        (oXs L xs (x3 + 1)).bind fun v146 =>
        oC σ 11 x2 <|
        (f_X11_count σ μ x2 v146).bind fun v147 =>
        if v145 = v147 then (
          f_L_law_b18 L xs n σ μ x1 x2 (x3 + 6)
        ) else (
          some 0
        )
      ) else
      if (v1 &&& 31) = 23 then (
        (oXs L xs (x3 + 1)).bind fun v148 =>
        (oXs L xs (x3 + 2)).bind fun v149 =>
        (oXs L xs (x3 + 3)).bind fun v150 =>
        oC σ 10 x1 <|
        b2 (f_X10_sheet σ μ x1 v148 v149 v150) fun v151 μ152 =>
        (oXs L xs (x3 + 1)).bind fun v153 =>
        (oXs L xs (x3 + 2)).bind fun v154 =>
        (oXs L xs (x3 + 3)).bind fun v155 =>
        oC σ 11 x2 <|
        b2 (f_X11_sheet σ μ152 x2 v153 v154 v155) fun v156 μ157 =>
        if v151 = v156 then (
          f_L_law_b18 L xs n σ μ157 x1 x2 (x3 + 6)
        ) else (
          some 0
        )
      ) else
      if (v1 &&& 31) = 24 then (
        (oXs L xs (x3 + 1)).bind fun v158 =>
        (oXs L xs (x3 + 2)).bind fun v159 =>
        (oXs L xs (x3 + 3)).bind fun v160 =>
        oC σ 10 x1 <|
        b2 (f_X10_cell σ μ x1 v158 v159 v160) fun v161 μ162 =>
        (oXs L xs (x3 + 1)).bind fun v163 =>
        (oXs L xs (x3 + 2)).bind fun v164 =>
        (oXs L xs (x3 + 3)).bind fun v165 =>
        oC σ 11 x2 <|
        b2 (f_X11_cell σ μ162 x2 v163 v164 v165) fun v166 μ167 =>
        if v161 = v166 then (
          f_L_law_b18 L xs n σ μ167 x1 x2 (x3 + 6)
        ) else (
          some 0
        )
      ) else
      if (v1 &&& 31) = 25 then (
        (oXs L xs (x3 + 1)).bind fun v168 =>
        (oXs L xs (x3 + 2)).bind fun v169 =>
        (oXs L xs (x3 + 3)).bind fun v170 =>
        (oXs L xs (x3 + 4)).bind fun v171 =>
        (oXs L xs (x3 + 5)).bind fun v172 =>
        oC σ 10 x1 <|
        b2 (f_X10_copy σ μ x1 v168 v169 v170 v171 v172) fun v173 μ174 =>
        (oXs L xs (x3 + 1)).bind fun v175 =>
        (oXs L xs (x3 + 2)).bind fun v176 =>
        (oXs L xs (x3 + 3)).bind fun v177 =>
        (oXs L xs (x3 + 4)).bind fun v178 =>
        (oXs L xs (x3 + 5)).bind fun v179 =>
        oC σ 11 x2 <|
        b2 (f_X11_copy σ μ174 x2 v175 v176 v177 v178 v179) fun v180 μ181 =>
        if v173 = v180 then (
          f_L_law_b18 L xs n σ μ181 x1 x2 (x3 + 6)
        ) else (
          some 0
        )
      ) else
      if (v1 &&& 31) = 26 then (
        (oXs L xs (x3 + 1)).bind fun v182 =>
        (oXs L xs (x3 + 2)).bind fun v183 =>
        (oXs L xs (x3 + 3)).bind fun v184 =>
        (oXs L xs (x3 + 4)).bind fun v185 =>
        oC σ 10 x1 <|
        b3 (f_X10_boats σ μ x1 v182 v183 v184 v185) fun v186 σ187 μ188 =>
        (oXs L xs (x3 + 1)).bind fun v189 =>
        (oXs L xs (x3 + 2)).bind fun v190 =>
        (oXs L xs (x3 + 3)).bind fun v191 =>
        (oXs L xs (x3 + 4)).bind fun v192 =>
        oC σ187 11 x2 <|
        b2 (f_X11_boats σ187 μ188 x2 v189 v190 v191 v192) fun v193 μ194 =>
        if v186 = v193 then (
          f_L_law_b18 L xs n σ187 μ194 x1 x2 (x3 + 6)
        ) else (
          some 0
        )
      ) else
      if (v1 &&& 31) = 27 then (
        (oXs L xs (x3 + 1)).bind fun v195 =>
        (oXs L xs (x3 + 2)).bind fun v196 =>
        oC σ 10 x1 <|
        (f_X10_taken σ μ x1 v195 v196).bind fun v197 =>
        (oXs L xs (x3 + 1)).bind fun v198 =>
        (oXs L xs (x3 + 2)).bind fun v199 =>
        oC σ 11 x2 <|
        (f_X11_taken σ μ x2 v198 v199).bind fun v200 =>
        if v197 = v200 then (
          f_L_law_b18 L xs n σ μ x1 x2 (x3 + 6)
        ) else (
          some 0
        )
      ) else
      (
        f_L_law_b18 L xs n σ μ x1 x2 (x3 + 6)
      )
    )
def f_L_law (L : Nat) (xs : Nat → Int32) (σ : th_S) (μ : th_M)  : Option (Int32) :=
  b3 (oN σ μ 10 12) fun a1 σ2 μ3 =>
  b2 (f_X10_init σ2 μ3 a1) fun σ4 μ5 =>
  b3 (oN σ4 μ5 11 40) fun a6 σ7 μ8 =>
  b2 (f_X11_init σ7 μ8 a6) fun σ9 μ10 =>
  f_L_law_b18 L xs  513 σ9 μ10 a1 a6 0
