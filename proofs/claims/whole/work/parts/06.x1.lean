abbrev rm_X8_isSheet : Room := { frames := 0, cells := 0, slots := 0, locals := 0 }
set_option maxHeartbeats 4000000 in
set_option maxRecDepth 100000 in
theorem k_X8_isSheet (l : Launch) (D : va_G) (cA : Nat → ClassId) (ad : Nat → Nat) (had : adOK ad 37) (v0 : Int32) (M : Mem) : CI l yX8_isSheet wsX8_isSheet rm_X8_isSheet D cA ad (shX ad cA) 37 [.int v0] M (wM M (d_X8_isSheet v0 M)) := by
  refine CI_ofp (own := RX8) (cc := cX8_isSheet) (maxL := 1) (rt := .boolean) had (by decide) rfl rfl (Nat.le_of_ble_eq_true rfl) ?_
  intro p e s m args below meth c R0 B hr hk
  unfold d_X8_isSheet
  show GG p l e (headSpec wsX8_isSheet rm_X8_isSheet).room s m args below meth c D ad (shX ad cA) 37 1 (MQ below (QI D ad (shX ad cA) 37 s.heap.size (R0, M)) args s 0 0 (AX ad 37 s.heap.size)) R0 M 0 [(0, .int v0)] [] _
  refine g_iload_n B dX8_isSheet_0 0 rfl rfl ?_
  refine g_if_lt (tgt := 13) B dX8_isSheet_1 (by decide) (fun c1 => ?_) (fun c1 => ?_)
  · refine g_iconst (v := 0) B dX8_isSheet_13 (by decide) ?_
    exact g_zretp B hr hk rfl dX8_isSheet_14
  · refine g_iload_n B dX8_isSheet_4 0 rfl rfl ?_
    refine g_iconst (v := 4) B dX8_isSheet_5 (by decide) ?_
    refine g_icmp_ge (tgt := 13) B dX8_isSheet_6 (by decide) (fun c2 => ?_) (fun c2 => ?_)
    · refine g_iconst (v := 0) B dX8_isSheet_13 (by decide) ?_
      exact g_zretp B hr hk rfl dX8_isSheet_14
    · refine g_iconst (v := 1) B dX8_isSheet_9 (by decide) ?_
      refine g_goto (tgt := 14) B dX8_isSheet_10 (by decide) ?_
      exact g_zretp B hr hk rfl dX8_isSheet_14

abbrev rm_X8_isLane : Room := { frames := 0, cells := 0, slots := 0, locals := 0 }
set_option maxHeartbeats 4000000 in
set_option maxRecDepth 100000 in
theorem k_X8_isLane (l : Launch) (D : va_G) (cA : Nat → ClassId) (ad : Nat → Nat) (had : adOK ad 37) (v0 : Int32) (M : Mem) : CI l yX8_isLane wsX8_isLane rm_X8_isLane D cA ad (shX ad cA) 37 [.int v0] M (wM M (d_X8_isLane v0 M)) := by
  refine CI_ofp (own := RX8) (cc := cX8_isLane) (maxL := 1) (rt := .boolean) had (by decide) rfl rfl (Nat.le_of_ble_eq_true rfl) ?_
  intro p e s m args below meth c R0 B hr hk
  unfold d_X8_isLane
  show GG p l e (headSpec wsX8_isLane rm_X8_isLane).room s m args below meth c D ad (shX ad cA) 37 1 (MQ below (QI D ad (shX ad cA) 37 s.heap.size (R0, M)) args s 0 0 (AX ad 37 s.heap.size)) R0 M 0 [(0, .int v0)] [] _
  refine g_iload_n B dX8_isLane_0 0 rfl rfl ?_
  refine g_if_lt (tgt := 13) B dX8_isLane_1 (by decide) (fun c1 => ?_) (fun c1 => ?_)
  · refine g_iconst (v := 0) B dX8_isLane_13 (by decide) ?_
    exact g_zretp B hr hk rfl dX8_isLane_14
  · refine g_iload_n B dX8_isLane_4 0 rfl rfl ?_
    refine g_iconst (v := 2) B dX8_isLane_5 (by decide) ?_
    refine g_icmp_gt (tgt := 13) B dX8_isLane_6 (by decide) (fun c2 => ?_) (fun c2 => ?_)
    · refine g_iconst (v := 0) B dX8_isLane_13 (by decide) ?_
      exact g_zretp B hr hk rfl dX8_isLane_14
    · refine g_iconst (v := 1) B dX8_isLane_9 (by decide) ?_
      refine g_goto (tgt := 14) B dX8_isLane_10 (by decide) ?_
      exact g_zretp B hr hk rfl dX8_isLane_14

abbrev rm_X5_hasNothing : Room := { frames := 0, cells := 0, slots := 0, locals := 0 }
set_option maxHeartbeats 4000000 in
set_option maxRecDepth 100000 in
theorem k_X5_hasNothing (l : Launch) (D : va_G) (cA : Nat → ClassId) (ad : Nat → Nat) (had : adOK ad 37) (o0 : Nat) (ho0 : isSh o0) (M : Mem) : CI l yX5_hasNothing wsX5_hasNothing rm_X5_hasNothing D cA ad (shX ad cA) 37 [.ref (ad o0)] M (wM M (d_X5_hasNothing o0 M)) := by
  refine CI_ofp (own := RX5) (cc := cX5_hasNothing) (maxL := 1) (rt := .boolean) had (by decide) rfl rfl (Nat.le_of_ble_eq_true rfl) ?_
  intro p e s m args below meth c R0 B hr hk
  unfold d_X5_hasNothing
  show GG p l e (headSpec wsX5_hasNothing rm_X5_hasNothing).room s m args below meth c D ad (shX ad cA) 37 1 (MQ below (QI D ad (shX ad cA) 37 s.heap.size (R0, M)) args s 0 0 (AX ad 37 s.heap.size)) R0 M 0 [(0, .ref (ad o0))] [] _
  refine g_aload_n B dX5_hasNothing_0 0 rfl rfl ?_
  refine g_get (v := .int (M o0 1)) B (shX_sh ho0) (sh_lt ho0) in_X5_hasNothing_X5 rfl 1 (by decide) (List.mem_of_getElem? (i := 1) rfl) rfl rfl dX5_hasNothing_1 ?_
  refine g_bipush (v := -9) B dX5_hasNothing_4 (by decide) ?_
  refine g_icmp_ne (tgt := 13) B dX5_hasNothing_6 (by decide) (fun c1 => ?_) (fun c1 => ?_)
  · refine g_iconst (v := 1) B dX5_hasNothing_9 (by decide) ?_
    refine g_goto (tgt := 14) B dX5_hasNothing_10 (by decide) ?_
    exact g_zretp B hr hk rfl dX5_hasNothing_14
  · refine g_iconst (v := 0) B dX5_hasNothing_13 (by decide) ?_
    exact g_zretp B hr hk rfl dX5_hasNothing_14

abbrev rm_X5_faultOfCells : Room := { frames := 0, cells := 0, slots := 0, locals := 0 }
set_option maxHeartbeats 4000000 in
set_option maxRecDepth 100000 in
theorem k_X5_faultOfCells (l : Launch) (D : va_G) (cA : Nat → ClassId) (ad : Nat → Nat) (had : adOK ad 37) (o0 : Nat) (ho0 : isSh o0) (v1 : Int32) (v2 : Int32) (M : Mem) : CI l yX5_faultOfCells wsX5_faultOfCells rm_X5_faultOfCells D cA ad (shX ad cA) 37 [.ref (ad o0), .int v1, .int v2] M (wM M (d_X5_faultOfCells o0 v1 v2 M)) := by
  refine CI_ofp (own := RX5) (cc := cX5_faultOfCells) (maxL := 3) (rt := .int) had (by decide) rfl rfl (Nat.le_of_ble_eq_true rfl) ?_
  intro p e s m args below meth c R0 B hr hk
  unfold d_X5_faultOfCells
  show GG p l e (headSpec wsX5_faultOfCells rm_X5_faultOfCells).room s m args below meth c D ad (shX ad cA) 37 3 (MQ below (QI D ad (shX ad cA) 37 s.heap.size (R0, M)) args s 0 0 (AX ad 37 s.heap.size)) R0 M 0 [(0, .ref (ad o0)), (1, .int v1), (2, .int v2)] [] _
  refine g_iload_n B dX5_faultOfCells_0 1 rfl rfl ?_
  refine g_if_lt (tgt := 26) B dX5_faultOfCells_1 (by decide) (fun c1 => ?_) (fun c1 => ?_)
  · refine g_iconst (v := 3) B dX5_faultOfCells_26 (by decide) ?_
    refine g_goto (tgt := 31) B dX5_faultOfCells_27 (by decide) ?_
    exact g_iretp B hr hk dX5_faultOfCells_31
  · refine g_iload_n B dX5_faultOfCells_4 1 rfl rfl ?_
    refine g_aload_n B dX5_faultOfCells_5 0 rfl rfl ?_
    refine g_get (v := .int (M o0 2)) B (shX_sh ho0) (sh_lt ho0) in_X5_faultOfCells_X5 rfl 2 (by decide) (List.mem_of_getElem? (i := 1) rfl) rfl rfl dX5_faultOfCells_6 ?_
    refine g_icmp_gt (tgt := 26) B dX5_faultOfCells_9 (by decide) (fun c2 => ?_) (fun c2 => ?_)
    · refine g_iconst (v := 3) B dX5_faultOfCells_26 (by decide) ?_
      refine g_goto (tgt := 31) B dX5_faultOfCells_27 (by decide) ?_
      exact g_iretp B hr hk dX5_faultOfCells_31
    · refine g_iload_n B dX5_faultOfCells_12 2 rfl rfl ?_
      refine g_if_lt (tgt := 26) B dX5_faultOfCells_13 (by decide) (fun c3 => ?_) (fun c3 => ?_)
      · refine g_iconst (v := 3) B dX5_faultOfCells_26 (by decide) ?_
        refine g_goto (tgt := 31) B dX5_faultOfCells_27 (by decide) ?_
        exact g_iretp B hr hk dX5_faultOfCells_31
      · refine g_iload_n B dX5_faultOfCells_16 2 rfl rfl ?_
        refine g_aload_n B dX5_faultOfCells_17 0 rfl rfl ?_
        refine g_get (v := .int (M o0 2)) B (shX_sh ho0) (sh_lt ho0) in_X5_faultOfCells_X5 rfl 2 (by decide) (List.mem_of_getElem? (i := 1) rfl) rfl rfl dX5_faultOfCells_18 ?_
        refine g_iload_n B dX5_faultOfCells_21 1 rfl rfl ?_
        refine g_isub B dX5_faultOfCells_22 ?_
        refine g_icmp_le (tgt := 30) B dX5_faultOfCells_23 (by decide) (fun c4 => ?_) (fun c4 => ?_)
        · refine g_iconst (v := 0) B dX5_faultOfCells_30 (by decide) ?_
          exact g_iretp B hr hk dX5_faultOfCells_31
        · refine g_iconst (v := 3) B dX5_faultOfCells_26 (by decide) ?_
          refine g_goto (tgt := 31) B dX5_faultOfCells_27 (by decide) ?_
          exact g_iretp B hr hk dX5_faultOfCells_31

abbrev rm_X5_faultAsRow : Room := { frames := 1, cells := 0, slots := 0, locals := 22 }
set_option maxHeartbeats 4000000 in
set_option maxRecDepth 100000 in
theorem k_X5_faultAsRow (l : Launch) (D : va_G) (cA : Nat → ClassId) (ad : Nat → Nat) (had : adOK ad 37) (o0 : Nat) (ho0 : isSh o0) (v1 : Int32) (v2 : Int32) (v3 : Int32) (M : Mem) : CI l yX5_faultAsRow wsX5_faultAsRow rm_X5_faultAsRow D cA ad (shX ad cA) 37 [.ref (ad o0), .int v1, .int v2, .int v3] M (wM M (d_X5_faultAsRow o0 v1 v2 v3 M)) := by
  refine CI_ofp (own := RX5) (cc := cX5_faultAsRow) (maxL := 4) (rt := .int) had (by decide) rfl rfl (Nat.le_of_ble_eq_true rfl) ?_
  intro p e s m args below meth c R0 B hr hk
  unfold d_X5_faultAsRow
  show GG p l e (headSpec wsX5_faultAsRow rm_X5_faultAsRow).room s m args below meth c D ad (shX ad cA) 37 4 (MQ below (QI D ad (shX ad cA) 37 s.heap.size (R0, M)) args s 0 0 (AX ad 37 s.heap.size)) R0 M 0 [(0, .ref (ad o0)), (1, .int v1), (2, .int v2), (3, .int v3)] [] _
  refine g_aload_n B dX5_faultAsRow_0 0 rfl rfl ?_
  refine g_callVIp (q := (RX5, TX5, 3)) (As := []) (st := []) B (k_X5_hasNothing l D cA ad B.2.2.2.2.2.2.1 o0 ho0 M) (cwV 0 B.2.2.2.2.1 gX5_faultAsRow_X5_hasNothing rfl rfl rfl (by decide +kernel) ⟨Nat.le_of_ble_eq_true rfl, Nat.le_of_ble_eq_true rfl⟩) (shX_sh ho0) (sh_lt ho0) rfl rfl rfl (Nat.le_of_ble_eq_true rfl) dX5_faultAsRow_1 (fun r1 _ => ?_)
  refine g_if_eq (tgt := 9) B dX5_faultAsRow_4 (by decide) (fun c2 => ?_) (fun c2 => ?_)
  · refine g_aload_n B dX5_faultAsRow_9 0 rfl rfl ?_
    refine g_get (v := .int (M o0 1)) B (shX_sh ho0) (sh_lt ho0) in_X5_faultAsRow_X5 rfl 1 (by decide) (List.mem_of_getElem? (i := 1) rfl) rfl rfl dX5_faultAsRow_10 ?_
    refine g_iload_n B dX5_faultAsRow_13 1 rfl rfl ?_
    refine g_icmp_eq (tgt := 19) B dX5_faultAsRow_14 (by decide) (fun c3 => ?_) (fun c3 => ?_)
    · refine g_iload_n B dX5_faultAsRow_19 3 rfl rfl ?_
      refine g_if_ge (tgt := 27) B dX5_faultAsRow_20 (by decide) (fun c4 => ?_) (fun c4 => ?_)
      · refine g_aload_n B dX5_faultAsRow_27 0 rfl rfl ?_
        refine g_iload_n B dX5_faultAsRow_28 2 rfl rfl ?_
        refine g_iload_n B dX5_faultAsRow_29 3 rfl rfl ?_
        refine g_callVIp (q := (RX5, TX5, 3)) (As := [.int v2, .int v3]) (st := []) B (k_X5_faultOfCells l D cA ad B.2.2.2.2.2.2.1 o0 ho0 v2 v3 M) (cwV 2 B.2.2.2.2.1 gX5_faultAsRow_X5_faultOfCells rfl rfl rfl (by decide +kernel) ⟨Nat.le_of_ble_eq_true rfl, Nat.le_of_ble_eq_true rfl⟩) (shX_sh ho0) (sh_lt ho0) rfl rfl rfl (Nat.le_of_ble_eq_true rfl) dX5_faultAsRow_30 (fun r5 _ => ?_)
        exact g_iretp B hr hk dX5_faultAsRow_33
      · refine g_iconst (v := 4) B dX5_faultAsRow_23 (by decide) ?_
        refine g_goto (tgt := 33) B dX5_faultAsRow_24 (by decide) ?_
        exact g_iretp B hr hk dX5_faultAsRow_33
    · refine g_iconst (v := 2) B dX5_faultAsRow_17 (by decide) ?_
      exact g_iretp B hr hk dX5_faultAsRow_18
  · refine g_iconst (v := 1) B dX5_faultAsRow_7 (by decide) ?_
    exact g_iretp B hr hk dX5_faultAsRow_8

abbrev rm_X8_faulted : Room := { frames := 0, cells := 0, slots := 0, locals := 0 }
set_option maxHeartbeats 4000000 in
set_option maxRecDepth 100000 in
theorem k_X8_faulted (l : Launch) (D : va_G) (cA : Nat → ClassId) (ad : Nat → Nat) (had : adOK ad 37) (v1 : Int32) (M : Mem) : CI l yX8_faulted wsX8_faulted rm_X8_faulted D cA ad (shX ad cA) 37 [.ref (ad 0), .int v1] M (d_X8_faulted v1 M) := by
  refine CI_of (own := RX8) (cc := cX8_faulted) (maxL := 2) (rt := .int) had (by decide) rfl rfl (Nat.le_of_ble_eq_true rfl) ?_
  intro p e s m args below meth c R0 B hr hk
  unfold d_X8_faulted
  show GG p l e (headSpec wsX8_faulted rm_X8_faulted).room s m args below meth c D ad (shX ad cA) 37 2 (MQ below (QI D ad (shX ad cA) 37 s.heap.size R0) args s 0 0 (AX ad 37 s.heap.size)) R0 M 0 [(0, .ref (ad 0)), (1, .int v1)] [] _
  refine g_aload_n B dX8_faulted_0 0 rfl rfl ?_
  refine g_iload_n B dX8_faulted_1 1 rfl rfl ?_
  refine g_put (ty := .int) B shX_pw (by decide) in_X8_faulted_X8 tyX8_ok nmX8 rfl 8 (by decide) (List.mem_of_getElem? (i := 1) rfl) rfl rfl (by decide +kernel) rfl rfl (fun _ => Nat.le_of_ble_eq_true rfl) (fun _ _ => rfl) dX8_faulted_2 (g_lmM (fun M1 => ?_))
  refine g_bipush (v := -10) B dX8_faulted_5 (by decide) ?_
  refine g_iload_n B dX8_faulted_7 1 rfl rfl ?_
  refine g_isub B dX8_faulted_8 ?_
  exact g_iret B hr hk dX8_faulted_9

abbrev rm_X5_at : Room := { frames := 0, cells := 0, slots := 0, locals := 0 }
set_option maxHeartbeats 4000000 in
set_option maxRecDepth 100000 in
theorem k_X5_at (l : Launch) (D : va_G) (cA : Nat → ClassId) (ad : Nat → Nat) (had : adOK ad 37) (o0 : Nat) (ho0 : isSh o0) (v1 : Int32) (M : Mem) : CI l yX5_at wsX5_at rm_X5_at D cA ad (shX ad cA) 37 [.ref (ad o0), .int v1] M (wM M (d_X5_at o0 v1 M)) := by
  refine CI_ofp (own := RX5) (cc := cX5_at) (maxL := 2) (rt := .int) had (by decide) rfl rfl (Nat.le_of_ble_eq_true rfl) ?_
  intro p e s m args below meth c R0 B hr hk
  unfold d_X5_at
  show GG p l e (headSpec wsX5_at rm_X5_at).room s m args below meth c D ad (shX ad cA) 37 2 (MQ below (QI D ad (shX ad cA) 37 s.heap.size (R0, M)) args s 0 0 (AX ad 37 s.heap.size)) R0 M 0 [(0, .ref (ad o0)), (1, .int v1)] [] _
  refine g_iload_n B dX5_at_0 1 rfl rfl ?_
  refine g_if_lt (tgt := 21) B dX5_at_1 (by decide) (fun c1 => ?_) (fun c1 => ?_)
  · refine g_iconst (v := 0) B dX5_at_21 (by decide) ?_
    exact g_iretp B hr hk dX5_at_22
  · refine g_iload_n B dX5_at_4 1 rfl rfl ?_
    refine g_aload_n B dX5_at_5 0 rfl rfl ?_
    refine g_get (v := .int (M o0 2)) B (shX_sh ho0) (sh_lt ho0) in_X5_at_X5 rfl 2 (by decide) (List.mem_of_getElem? (i := 1) rfl) rfl rfl dX5_at_6 ?_
    refine g_icmp_ge (tgt := 21) B dX5_at_9 (by decide) (fun c2 => ?_) (fun c2 => ?_)
    · refine g_iconst (v := 0) B dX5_at_21 (by decide) ?_
      exact g_iretp B hr hk dX5_at_22
    · refine g_aload_n B dX5_at_12 0 rfl rfl ?_
      refine g_get (v := .ref (ad (o0 + 1))) B (shX_sh ho0) (sh_lt ho0) in_X5_at_X5 rfl 0 (by decide) (List.mem_of_getElem? (i := 2) rfl) rfl rfl dX5_at_13 ?_
      refine g_iload_n B dX5_at_16 1 rfl rfl ?_
      refine g_iald B (shX_ce ho0) (ce_lt ho0) dX5_at_17 ?_
      refine g_goto (tgt := 22) B dX5_at_18 (by decide) ?_
      exact g_iretp B hr hk dX5_at_22

abbrev rm_X7_digit : Room := { frames := 1, cells := 0, slots := 0, locals := 21 }
set_option maxHeartbeats 4000000 in
set_option maxRecDepth 100000 in
theorem k_X7_digit (l : Launch) (D : va_G) (cA : Nat → ClassId) (ad : Nat → Nat) (had : adOK ad 37) (o0 : Nat) (ho0 : isSh o0) (v1 : Int32) (M : Mem) : CI l yX7_digit wsX7_digit rm_X7_digit D cA ad (shX ad cA) 37 [.ref (ad o0), .int v1] M (wM M (d_X7_digit o0 v1 M)) := by
  refine CI_ofp (own := RX7) (cc := cX7_digit) (maxL := 2) (rt := .int) had (by decide) rfl rfl (Nat.le_of_ble_eq_true rfl) ?_
  intro p e s m args below meth c R0 B hr hk
  unfold d_X7_digit
  show GG p l e (headSpec wsX7_digit rm_X7_digit).room s m args below meth c D ad (shX ad cA) 37 2 (MQ below (QI D ad (shX ad cA) 37 s.heap.size (R0, M)) args s 0 0 (AX ad 37 s.heap.size)) R0 M 0 [(0, .ref (ad o0)), (1, .int v1)] [] _
  refine g_aload_n B dX7_digit_0 0 rfl rfl ?_
  refine g_iload_n B dX7_digit_1 1 rfl rfl ?_
  refine g_callVIp (q := (RX5, TX5, 3)) (As := [.int v1]) (st := []) B (k_X5_at l D cA ad B.2.2.2.2.2.2.1 o0 ho0 v1 M) (cwV 1 B.2.2.2.2.1 gX7_digit_X5_at rfl rfl rfl (by decide +kernel) ⟨Nat.le_of_ble_eq_true rfl, Nat.le_of_ble_eq_true rfl⟩) (shX_sh ho0) (sh_lt ho0) rfl rfl rfl (Nat.le_of_ble_eq_true rfl) dX7_digit_2 (fun r1 _ => ?_)
  refine g_bipush (v := 48) B dX7_digit_5 (by decide) ?_
  refine g_isub B dX7_digit_7 ?_
  exact g_iretp B hr hk dX7_digit_8

abbrev rm_X7_headLength : Room := { frames := 0, cells := 0, slots := 0, locals := 0 }
set_option maxHeartbeats 4000000 in
set_option maxRecDepth 100000 in
theorem k_X7_headLength (l : Launch) (D : va_G) (cA : Nat → ClassId) (ad : Nat → Nat) (had : adOK ad 37) (v0 : Int32) (M : Mem) : CI l yX7_headLength wsX7_headLength rm_X7_headLength D cA ad (shX ad cA) 37 [.int v0] M (wM M (d_X7_headLength v0 M)) := by
  refine CI_ofp (own := RX7) (cc := cX7_headLength) (maxL := 1) (rt := .int) had (by decide) rfl rfl (Nat.le_of_ble_eq_true rfl) ?_
  intro p e s m args below meth c R0 B hr hk
  unfold d_X7_headLength
  show GG p l e (headSpec wsX7_headLength rm_X7_headLength).room s m args below meth c D ad (shX ad cA) 37 1 (MQ below (QI D ad (shX ad cA) 37 s.heap.size (R0, M)) args s 0 0 (AX ad 37 s.heap.size)) R0 M 0 [(0, .int v0)] [] _
  refine g_iconst (v := 2) B dX7_headLength_0 (by decide) ?_
  refine g_iload_n B dX7_headLength_1 0 rfl rfl ?_
  refine g_iload_n B dX7_headLength_2 0 rfl rfl ?_
  refine g_iconst (v := 1) B dX7_headLength_3 (by decide) ?_
  refine g_isub B dX7_headLength_4 ?_
  refine g_imul B dX7_headLength_5 ?_
  refine g_iconst (v := 2) B dX7_headLength_6 (by decide) ?_
  refine g_idiv B dX7_headLength_7 ?_
  refine g_iadd B dX7_headLength_8 ?_
  exact g_iretp B hr hk dX7_headLength_9

abbrev rm_X7_kindOf : Room := { frames := 0, cells := 0, slots := 0, locals := 0 }
set_option maxHeartbeats 4000000 in
set_option maxRecDepth 100000 in
theorem k_X7_kindOf (l : Launch) (D : va_G) (cA : Nat → ClassId) (ad : Nat → Nat) (had : adOK ad 37) (v0 : Int32) (M : Mem) : CI l yX7_kindOf wsX7_kindOf rm_X7_kindOf D cA ad (shX ad cA) 37 [.int v0] M (wM M (d_X7_kindOf v0 M)) := by
  refine CI_ofp (own := RX7) (cc := cX7_kindOf) (maxL := 1) (rt := .int) had (by decide) rfl rfl (Nat.le_of_ble_eq_true rfl) ?_
  intro p e s m args below meth c R0 B hr hk
  unfold d_X7_kindOf
  show GG p l e (headSpec wsX7_kindOf rm_X7_kindOf).room s m args below meth c D ad (shX ad cA) 37 1 (MQ below (QI D ad (shX ad cA) 37 s.heap.size (R0, M)) args s 0 0 (AX ad 37 s.heap.size)) R0 M 0 [(0, .int v0)] [] _
  refine g_iload_n B dX7_kindOf_0 0 rfl rfl ?_
  refine g_if (fun c1 => ?_) (fun c1 => ?_)
  · refine g_look (tgt := 36) B dX7_kindOf_1 (by decide) (by rw [c1] <;> rfl) (by decide) ?_
    refine g_iconst (v := 0) B dX7_kindOf_36 (by decide) ?_
    exact g_iretp B hr hk dX7_kindOf_37
  · refine g_if (fun c2 => ?_) (fun c2 => ?_)
    · refine g_look (tgt := 38) B dX7_kindOf_1 (by decide) (by rw [c2] <;> rfl) (by decide) ?_
      refine g_iconst (v := 1) B dX7_kindOf_38 (by decide) ?_
      exact g_iretp B hr hk dX7_kindOf_39
    · refine g_if (fun c3 => ?_) (fun c3 => ?_)
      · refine g_look (tgt := 40) B dX7_kindOf_1 (by decide) (by rw [c3] <;> rfl) (by decide) ?_
        refine g_iconst (v := 2) B dX7_kindOf_40 (by decide) ?_
        exact g_iretp B hr hk dX7_kindOf_41
      · refine g_look (tgt := 42) B dX7_kindOf_1 (by decide) (lk_no (v := 98) c1 (by decide) (lk_no (v := 109) c2 (by decide) (lk_no (v := 112) c3 (by decide) rfl))) (by decide) ?_
        refine g_bipush (v := -9) B dX7_kindOf_42 (by decide) ?_
        exact g_iretp B hr hk dX7_kindOf_44

abbrev rm_X7_tellsFootman : Room := { frames := 1, cells := 0, slots := 0, locals := 20 }
set_option maxHeartbeats 4000000 in
set_option maxRecDepth 100000 in
theorem k_X7_tellsFootman (l : Launch) (D : va_G) (cA : Nat → ClassId) (ad : Nat → Nat) (had : adOK ad 37) (v0 : Int32) (v1 : Int32) (v2 : Int32) (M : Mem) : CI l yX7_tellsFootman wsX7_tellsFootman rm_X7_tellsFootman D cA ad (shX ad cA) 37 [.int v0, .int v1, .int v2] M (wM M (d_X7_tellsFootman v0 v1 v2 M)) := by
  refine CI_ofp (own := RX7) (cc := cX7_tellsFootman) (maxL := 3) (rt := .boolean) had (by decide) rfl rfl (Nat.le_of_ble_eq_true rfl) ?_
  intro p e s m args below meth c R0 B hr hk
  unfold d_X7_tellsFootman
  show GG p l e (headSpec wsX7_tellsFootman rm_X7_tellsFootman).room s m args below meth c D ad (shX ad cA) 37 3 (MQ below (QI D ad (shX ad cA) 37 s.heap.size (R0, M)) args s 0 0 (AX ad 37 s.heap.size)) R0 M 0 [(0, .int v0), (1, .int v1), (2, .int v2)] [] _
  refine g_iload_n B dX7_tellsFootman_0 1 rfl rfl ?_
  refine g_if (fun c3 => ?_) (fun c3 => ?_)
  · refine g_tin (tgt := 32) (off := 31) (v := 0) B dX7_tellsFootman_1 c3 (by decide) (by decide) rfl (by decide) ?_
    refine g_iload_n B dX7_tellsFootman_32 0 rfl rfl ?_
    refine g_bipush (v := 59) B dX7_tellsFootman_33 (by decide) ?_
    refine g_icmp_ne (tgt := 42) B dX7_tellsFootman_35 (by decide) (fun c4 => ?_) (fun c4 => ?_)
    · refine g_iconst (v := 1) B dX7_tellsFootman_38 (by decide) ?_
      refine g_goto (tgt := 43) B dX7_tellsFootman_39 (by decide) ?_
      exact g_zretp B hr hk rfl dX7_tellsFootman_43
    · refine g_iconst (v := 0) B dX7_tellsFootman_42 (by decide) ?_
      exact g_zretp B hr hk rfl dX7_tellsFootman_43
  · refine g_if (fun c5 => ?_) (fun c5 => ?_)
    · refine g_tin (tgt := 44) (off := 43) (v := 1) B dX7_tellsFootman_1 c5 (by decide) (by decide) rfl (by decide) ?_
      refine g_iload_n B dX7_tellsFootman_44 0 rfl rfl ?_
      refine g_callSIp (As := [.int v0]) (st := []) B (k_X7_kindOf l D cA ad B.2.2.2.2.2.2.1 v0 M) (va_cwS 1 B.2.2.2.2.1 gX7_tellsFootman_X7_kindOf rfl rfl rfl (by decide +kernel) ⟨Nat.le_of_ble_eq_true rfl, Nat.le_of_ble_eq_true rfl⟩) rfl rfl (Nat.le_of_ble_eq_true rfl) dX7_tellsFootman_45 (fun r6 _ => ?_)
      refine g_bipush (v := -9) B dX7_tellsFootman_48 (by decide) ?_
      refine g_icmp_eq (tgt := 57) B dX7_tellsFootman_50 (by decide) (fun c7 => ?_) (fun c7 => ?_)
      · refine g_iconst (v := 0) B dX7_tellsFootman_57 (by decide) ?_
        exact g_zretp B hr hk rfl dX7_tellsFootman_58
      · refine g_iconst (v := 1) B dX7_tellsFootman_53 (by decide) ?_
        refine g_goto (tgt := 58) B dX7_tellsFootman_54 (by decide) ?_
        exact g_zretp B hr hk rfl dX7_tellsFootman_58
    · refine g_if (fun c8 => ?_) (fun c8 => ?_)
      · refine g_tin (tgt := 59) (off := 58) (v := 2) B dX7_tellsFootman_1 c8 (by decide) (by decide) rfl (by decide) ?_
        refine g_iload_n B dX7_tellsFootman_59 0 rfl rfl ?_
        refine g_bipush (v := 48) B dX7_tellsFootman_60 (by decide) ?_
        refine g_icmp_lt (tgt := 77) B dX7_tellsFootman_62 (by decide) (fun c9 => ?_) (fun c9 => ?_)
        · refine g_iconst (v := 0) B dX7_tellsFootman_77 (by decide) ?_
          exact g_zretp B hr hk rfl dX7_tellsFootman_78
        · refine g_iload_n B dX7_tellsFootman_65 0 rfl rfl ?_
          refine g_bipush (v := 48) B dX7_tellsFootman_66 (by decide) ?_
          refine g_iload_n B dX7_tellsFootman_68 2 rfl rfl ?_
          refine g_iadd B dX7_tellsFootman_69 ?_
          refine g_icmp_ge (tgt := 77) B dX7_tellsFootman_70 (by decide) (fun c10 => ?_) (fun c10 => ?_)
          · refine g_iconst (v := 0) B dX7_tellsFootman_77 (by decide) ?_
            exact g_zretp B hr hk rfl dX7_tellsFootman_78
          · refine g_iconst (v := 1) B dX7_tellsFootman_73 (by decide) ?_
            refine g_goto (tgt := 78) B dX7_tellsFootman_74 (by decide) ?_
            exact g_zretp B hr hk rfl dX7_tellsFootman_78
      · refine g_if (fun c11 => ?_) (fun c11 => ?_)
        · refine g_tin (tgt := 59) (off := 58) (v := 3) B dX7_tellsFootman_1 c11 (by decide) (by decide) rfl (by decide) ?_
          refine g_iload_n B dX7_tellsFootman_59 0 rfl rfl ?_
          refine g_bipush (v := 48) B dX7_tellsFootman_60 (by decide) ?_
          refine g_icmp_lt (tgt := 77) B dX7_tellsFootman_62 (by decide) (fun c12 => ?_) (fun c12 => ?_)
          · refine g_iconst (v := 0) B dX7_tellsFootman_77 (by decide) ?_
            exact g_zretp B hr hk rfl dX7_tellsFootman_78
          · refine g_iload_n B dX7_tellsFootman_65 0 rfl rfl ?_
            refine g_bipush (v := 48) B dX7_tellsFootman_66 (by decide) ?_
            refine g_iload_n B dX7_tellsFootman_68 2 rfl rfl ?_
            refine g_iadd B dX7_tellsFootman_69 ?_
            refine g_icmp_ge (tgt := 77) B dX7_tellsFootman_70 (by decide) (fun c13 => ?_) (fun c13 => ?_)
            · refine g_iconst (v := 0) B dX7_tellsFootman_77 (by decide) ?_
              exact g_zretp B hr hk rfl dX7_tellsFootman_78
            · refine g_iconst (v := 1) B dX7_tellsFootman_73 (by decide) ?_
              refine g_goto (tgt := 78) B dX7_tellsFootman_74 (by decide) ?_
              exact g_zretp B hr hk rfl dX7_tellsFootman_78
        · refine g_tout (tgt := 79) B dX7_tellsFootman_1 (sw_4 c3 c5 c8 c11) (by decide) ?_
          refine g_iload_n B dX7_tellsFootman_79 0 rfl rfl ?_
          refine g_bipush (v := 49) B dX7_tellsFootman_80 (by decide) ?_
          refine g_icmp_lt (tgt := 95) B dX7_tellsFootman_82 (by decide) (fun c1 => ?_) (fun c1 => ?_)
          · refine g_iconst (v := 0) B dX7_tellsFootman_95 (by decide) ?_
            exact g_zretp B hr hk rfl dX7_tellsFootman_96
          · refine g_iload_n B dX7_tellsFootman_85 0 rfl rfl ?_
            refine g_bipush (v := 57) B dX7_tellsFootman_86 (by decide) ?_
            refine g_icmp_gt (tgt := 95) B dX7_tellsFootman_88 (by decide) (fun c2 => ?_) (fun c2 => ?_)
            · refine g_iconst (v := 0) B dX7_tellsFootman_95 (by decide) ?_
              exact g_zretp B hr hk rfl dX7_tellsFootman_96
            · refine g_iconst (v := 1) B dX7_tellsFootman_91 (by decide) ?_
              refine g_goto (tgt := 96) B dX7_tellsFootman_92 (by decide) ?_
              exact g_zretp B hr hk rfl dX7_tellsFootman_96

abbrev rm_X7_goesOn : Room := { frames := 2, cells := 0, slots := 0, locals := 42 }
set_option maxHeartbeats 4000000 in
set_option maxRecDepth 100000 in
theorem k_X7_goesOn (l : Launch) (D : va_G) (cA : Nat → ClassId) (ad : Nat → Nat) (had : adOK ad 37) (o0 : Nat) (ho0 : isSh o0) (v1 : Int32) (v2 : Int32) (M : Mem) : CI l yX7_goesOn wsX7_goesOn rm_X7_goesOn D cA ad (shX ad cA) 37 [.ref (ad o0), .int v1, .int v2] M (wM M (d_X7_goesOn o0 v1 v2 M)) := by
  refine CI_ofp (own := RX7) (cc := cX7_goesOn) (maxL := 6) (rt := .boolean) had (by decide) rfl rfl (Nat.le_of_ble_eq_true rfl) ?_
  intro p e s m args below meth c R0 B hr hk
  unfold d_X7_goesOn
  show GG p l e (headSpec wsX7_goesOn rm_X7_goesOn).room s m args below meth c D ad (shX ad cA) 37 6 (MQ below (QI D ad (shX ad cA) 37 s.heap.size (R0, M)) args s 0 0 (AX ad 37 s.heap.size)) R0 M 0 [(0, .ref (ad o0)), (1, .int v1), (2, .int v2)] [] _
  refine g_aload_n B dX7_goesOn_0 0 rfl rfl ?_
  refine g_iload_n B dX7_goesOn_1 1 rfl rfl ?_
  refine g_iload_n B dX7_goesOn_2 2 rfl rfl ?_
  refine g_iadd B dX7_goesOn_3 ?_
  refine g_callVIp (q := (RX5, TX5, 3)) (As := [.int (v1 + v2)]) (st := []) B (k_X5_at l D cA ad B.2.2.2.2.2.2.1 o0 ho0 (v1 + v2) M) (cwV 1 B.2.2.2.2.1 gX7_goesOn_X5_at rfl rfl rfl (by decide +kernel) ⟨Nat.le_of_ble_eq_true rfl, Nat.le_of_ble_eq_true rfl⟩) (shX_sh ho0) (sh_lt ho0) rfl rfl rfl (Nat.le_of_ble_eq_true rfl) dX7_goesOn_4 (fun r1 _ => ?_)
  refine g_istore_n B dX7_goesOn_7 rfl (by decide) (lv1 := [(3, .int r1), (0, .ref (ad o0)), (1, .int v1), (2, .int v2)]) rfl ?_
  refine g_iload_n B dX7_goesOn_8 3 rfl rfl ?_
  refine g_if_ne (tgt := 24) B dX7_goesOn_9 (by decide) (fun c2 => ?_) (fun c2 => ?_)
  · refine g_iload_n B dX7_goesOn_12 0 rfl rfl ?_
    refine g_bipush (v := 116) B dX7_goesOn_13 (by decide) ?_
    refine g_icmp_ne (tgt := 22) B dX7_goesOn_15 (by decide) (fun c15 => ?_) (fun c15 => ?_)
    · refine g_iconst (v := 1) B dX7_goesOn_18 (by decide) ?_
      refine g_goto (tgt := 23) B dX7_goesOn_19 (by decide) ?_
      exact g_zretp B hr hk rfl dX7_goesOn_23
    · refine g_iconst (v := 0) B dX7_goesOn_22 (by decide) ?_
      exact g_zretp B hr hk rfl dX7_goesOn_23
  · refine g_iload_n B dX7_goesOn_24 3 rfl rfl ?_
    refine g_iconst (v := 1) B dX7_goesOn_25 (by decide) ?_
    refine g_icmp_ne (tgt := 47) B dX7_goesOn_26 (by decide) (fun c3 => ?_) (fun c3 => ?_)
    · refine g_iload_n B dX7_goesOn_29 0 rfl rfl ?_
      refine g_bipush (v := 50) B dX7_goesOn_30 (by decide) ?_
      refine g_icmp_lt (tgt := 45) B dX7_goesOn_32 (by decide) (fun c13 => ?_) (fun c13 => ?_)
      · refine g_iconst (v := 0) B dX7_goesOn_45 (by decide) ?_
        exact g_zretp B hr hk rfl dX7_goesOn_46
      · refine g_iload_n B dX7_goesOn_35 0 rfl rfl ?_
        refine g_bipush (v := 54) B dX7_goesOn_36 (by decide) ?_
        refine g_icmp_gt (tgt := 45) B dX7_goesOn_38 (by decide) (fun c14 => ?_) (fun c14 => ?_)
        · refine g_iconst (v := 0) B dX7_goesOn_45 (by decide) ?_
          exact g_zretp B hr hk rfl dX7_goesOn_46
        · refine g_iconst (v := 1) B dX7_goesOn_41 (by decide) ?_
          refine g_goto (tgt := 46) B dX7_goesOn_42 (by decide) ?_
          exact g_zretp B hr hk rfl dX7_goesOn_46
    · refine g_aload_n B dX7_goesOn_47 1 rfl rfl ?_
      refine g_iload_n B dX7_goesOn_48 2 rfl rfl ?_
      refine g_iconst (v := 1) B dX7_goesOn_49 (by decide) ?_
      refine g_iadd B dX7_goesOn_50 ?_
      refine g_callSIp (As := [.ref (ad o0), .int (v1 + (1 : Int32))]) (st := []) B (k_X7_digit l D cA ad B.2.2.2.2.2.2.1 o0 ho0 (v1 + (1 : Int32)) M) (va_cwS 2 B.2.2.2.2.1 gX7_goesOn_X7_digit rfl rfl rfl (by decide +kernel) ⟨Nat.le_of_ble_eq_true rfl, Nat.le_of_ble_eq_true rfl⟩) rfl rfl (Nat.le_of_ble_eq_true rfl) dX7_goesOn_51 (fun r4 _ => ?_)
      refine g_istore B dX7_goesOn_54 (by decide) (lv1 := [(4, .int r4), (3, .int r1), (0, .ref (ad o0)), (1, .int v1), (2, .int v2)]) rfl ?_
      refine g_iload_n B dX7_goesOn_56 4 rfl rfl ?_
      refine g_iload B dX7_goesOn_57 0 rfl ?_
      refine g_callSIp (As := [.int r4]) (st := [.int v2]) B (k_X7_headLength l D cA ad B.2.2.2.2.2.2.1 r4 M) (va_cwS 1 B.2.2.2.2.1 gX7_goesOn_X7_headLength rfl rfl rfl (by decide +kernel) ⟨Nat.le_of_ble_eq_true rfl, Nat.le_of_ble_eq_true rfl⟩) rfl rfl (Nat.le_of_ble_eq_true rfl) dX7_goesOn_59 (fun r5 _ => ?_)
      refine g_isub B dX7_goesOn_62 ?_
      refine g_lmI (fun x6 => ?_)
      refine g_istore B dX7_goesOn_63 (by decide) (lv1 := [(5, .int x6), (4, .int r4), (3, .int r1), (0, .ref (ad o0)), (1, .int v1), (2, .int v2)]) rfl ?_
      refine g_iload B dX7_goesOn_65 0 rfl ?_
      refine g_if_ge (tgt := 88) B dX7_goesOn_67 (by decide) (fun c7 => ?_) (fun c7 => ?_)
      · refine g_iload B dX7_goesOn_88 0 rfl ?_
        refine g_bipush (v := 25) B dX7_goesOn_90 (by decide) ?_
        refine g_icmp_ge (tgt := 112) B dX7_goesOn_92 (by decide) (fun c8 => ?_) (fun c8 => ?_)
        · refine g_iconst (v := 0) B dX7_goesOn_112 (by decide) ?_
          exact g_zretp B hr hk rfl dX7_goesOn_113
        · refine g_iload_n B dX7_goesOn_95 2 rfl rfl ?_
          refine g_iload B dX7_goesOn_96 0 rfl ?_
          refine g_iconst (v := 5) B dX7_goesOn_98 (by decide) ?_
          refine g_irem B dX7_goesOn_99 ?_
          refine g_iload B dX7_goesOn_100 1 rfl ?_
          refine g_callSIp (As := [.int r1, .int (x6 - x6 / (5 : Int32) * (5 : Int32)), .int r4]) (st := []) B (k_X7_tellsFootman l D cA ad B.2.2.2.2.2.2.1 r1 (x6 - x6 / (5 : Int32) * (5 : Int32)) r4 M) (va_cwS 3 B.2.2.2.2.1 gX7_goesOn_X7_tellsFootman rfl rfl rfl (by decide +kernel) ⟨Nat.le_of_ble_eq_true rfl, Nat.le_of_ble_eq_true rfl⟩) rfl rfl (Nat.le_of_ble_eq_true rfl) dX7_goesOn_102 (fun r9 _ => ?_)
          refine g_if_eq (tgt := 112) B dX7_goesOn_105 (by decide) (fun c10 => ?_) (fun c10 => ?_)
          · refine g_iconst (v := 0) B dX7_goesOn_112 (by decide) ?_
            exact g_zretp B hr hk rfl dX7_goesOn_113
          · refine g_iconst (v := 1) B dX7_goesOn_108 (by decide) ?_
            refine g_goto (tgt := 113) B dX7_goesOn_109 (by decide) ?_
            exact g_zretp B hr hk rfl dX7_goesOn_113
      · refine g_iload_n B dX7_goesOn_70 2 rfl rfl ?_
        refine g_bipush (v := 48) B dX7_goesOn_71 (by decide) ?_
        refine g_icmp_lt (tgt := 86) B dX7_goesOn_73 (by decide) (fun c11 => ?_) (fun c11 => ?_)
        · refine g_iconst (v := 0) B dX7_goesOn_86 (by decide) ?_
          exact g_zretp B hr hk rfl dX7_goesOn_87
        · refine g_iload_n B dX7_goesOn_76 2 rfl rfl ?_
          refine g_bipush (v := 57) B dX7_goesOn_77 (by decide) ?_
          refine g_icmp_gt (tgt := 86) B dX7_goesOn_79 (by decide) (fun c12 => ?_) (fun c12 => ?_)
          · refine g_iconst (v := 0) B dX7_goesOn_86 (by decide) ?_
            exact g_zretp B hr hk rfl dX7_goesOn_87
          · refine g_iconst (v := 1) B dX7_goesOn_82 (by decide) ?_
            refine g_goto (tgt := 87) B dX7_goesOn_83 (by decide) ?_
            exact g_zretp B hr hk rfl dX7_goesOn_87

abbrev rm_X7_isWhole : Room := { frames := 2, cells := 0, slots := 0, locals := 42 }
set_option maxHeartbeats 4000000 in
set_option maxRecDepth 100000 in
theorem k_X7_isWhole (l : Launch) (D : va_G) (cA : Nat → ClassId) (ad : Nat → Nat) (had : adOK ad 37) (o0 : Nat) (ho0 : isSh o0) (v1 : Int32) (v2 : Int32) (M : Mem) : CI l yX7_isWhole wsX7_isWhole rm_X7_isWhole D cA ad (shX ad cA) 37 [.ref (ad o0), .int v1, .int v2] M (wM M (d_X7_isWhole o0 v1 v2 M)) := by
  refine CI_ofp (own := RX7) (cc := cX7_isWhole) (maxL := 4) (rt := .boolean) had (by decide) rfl rfl (Nat.le_of_ble_eq_true rfl) ?_
  intro p e s m args below meth c R0 B hr hk
  unfold d_X7_isWhole
  show GG p l e (headSpec wsX7_isWhole rm_X7_isWhole).room s m args below meth c D ad (shX ad cA) 37 4 (MQ below (QI D ad (shX ad cA) 37 s.heap.size (R0, M)) args s 0 0 (AX ad 37 s.heap.size)) R0 M 0 [(0, .ref (ad o0)), (1, .int v1), (2, .int v2)] [] _
  refine g_iload_n B dX7_isWhole_0 2 rfl rfl ?_
  refine g_iconst (v := 2) B dX7_isWhole_1 (by decide) ?_
  refine g_icmp_ge (tgt := 7) B dX7_isWhole_2 (by decide) (fun c1 => ?_) (fun c1 => ?_)
  · refine g_iload_n B dX7_isWhole_7 2 rfl rfl ?_
    refine g_aload_n B dX7_isWhole_8 0 rfl rfl ?_
    refine g_iload_n B dX7_isWhole_9 1 rfl rfl ?_
    refine g_iconst (v := 1) B dX7_isWhole_10 (by decide) ?_
    refine g_iadd B dX7_isWhole_11 ?_
    refine g_callSIp (As := [.ref (ad o0), .int (v1 + (1 : Int32))]) (st := [.int v2]) B (k_X7_digit l D cA ad B.2.2.2.2.2.2.1 o0 ho0 (v1 + (1 : Int32)) M) (va_cwS 2 B.2.2.2.2.1 gX7_isWhole_X7_digit rfl rfl rfl (by decide +kernel) ⟨Nat.le_of_ble_eq_true rfl, Nat.le_of_ble_eq_true rfl⟩) rfl rfl (Nat.le_of_ble_eq_true rfl) dX7_isWhole_12 (fun r2 _ => ?_)
    refine g_callSIp (As := [.int r2]) (st := [.int v2]) B (k_X7_headLength l D cA ad B.2.2.2.2.2.2.1 r2 M) (va_cwS 1 B.2.2.2.2.1 gX7_isWhole_X7_headLength rfl rfl rfl (by decide +kernel) ⟨Nat.le_of_ble_eq_true rfl, Nat.le_of_ble_eq_true rfl⟩) rfl rfl (Nat.le_of_ble_eq_true rfl) dX7_isWhole_15 (fun r3 _ => ?_)
    refine g_isub B dX7_isWhole_18 ?_
    refine g_lmI (fun x4 => ?_)
    refine g_istore_n B dX7_isWhole_19 rfl (by decide) (lv1 := [(3, .int x4), (0, .ref (ad o0)), (1, .int v1), (2, .int v2)]) rfl ?_
    refine g_iload_n B dX7_isWhole_20 0 rfl rfl ?_
    refine g_iconst (v := 5) B dX7_isWhole_21 (by decide) ?_
    refine g_icmp_lt (tgt := 35) B dX7_isWhole_22 (by decide) (fun c5 => ?_) (fun c5 => ?_)
    · refine g_iconst (v := 0) B dX7_isWhole_35 (by decide) ?_
      exact g_zretp B hr hk rfl dX7_isWhole_36
    · refine g_iload_n B dX7_isWhole_25 0 rfl rfl ?_
      refine g_iconst (v := 5) B dX7_isWhole_26 (by decide) ?_
      refine g_irem B dX7_isWhole_27 ?_
      refine g_if_ne (tgt := 35) B dX7_isWhole_28 (by decide) (fun c6 => ?_) (fun c6 => ?_)
      · refine g_iconst (v := 1) B dX7_isWhole_31 (by decide) ?_
        refine g_goto (tgt := 36) B dX7_isWhole_32 (by decide) ?_
        exact g_zretp B hr hk rfl dX7_isWhole_36
      · refine g_iconst (v := 0) B dX7_isWhole_35 (by decide) ?_
        exact g_zretp B hr hk rfl dX7_isWhole_36
  · refine g_iconst (v := 0) B dX7_isWhole_5 (by decide) ?_
    exact g_zretp B hr hk rfl dX7_isWhole_6

abbrev rm_X7_firstFault : Room := { frames := 3, cells := 0, slots := 0, locals := 67 }
set_option maxHeartbeats 4000000 in
set_option maxRecDepth 100000 in
theorem k_X7_firstFault (l : Launch) (D : va_G) (cA : Nat → ClassId) (ad : Nat → Nat) (had : adOK ad 37) (o0 : Nat) (ho0 : isSh o0) (v1 : Int32) (v2 : Int32) (M : Mem) : CI l yX7_firstFault wsX7_firstFault rm_X7_firstFault D cA ad (shX ad cA) 37 [.ref (ad o0), .int v1, .int v2] M (wM M (d_X7_firstFault o0 v1 v2 M)) := by
  refine CI_ofp (own := RX7) (cc := cX7_firstFault) (maxL := 4) (rt := .int) had (by decide) rfl rfl (Nat.le_of_ble_eq_true rfl) ?_
  intro p e s m args below meth c R0 B hr hk
  have hL2 : ∀ (o0 : Nat) (v1 : Int32) (v2 : Int32)  (k2_24 : Option Int32) (ho0 : isSh o0) (hk2_24 : GG p l e (headSpec wsX7_firstFault rm_X7_firstFault).room s m args below meth c D ad (shX ad cA) 37 4 (MQ below (QI D ad (shX ad cA) 37 s.heap.size (R0, M)) args s 0 0 (AX ad 37 s.heap.size)) R0 M 24 [(0, .ref (ad o0)), (1, .int v1), (2, .int v2)] [] (k2_24 )), ∀ (f : Nat) (v3 : Int32), GG p l e (headSpec wsX7_firstFault rm_X7_firstFault).room s m args below meth c D ad (shX ad cA) 37 4 (MQ below (QI D ad (shX ad cA) 37 s.heap.size (R0, M)) args s 0 0 (AX ad 37 s.heap.size)) R0 M 2 [(0, .ref (ad o0)), (1, .int v1), (2, .int v2), (3, .int v3)] [] (dX7_firstFault_2l o0 v1 v2 M k2_24 f v3 ) := by
    intro o0 v1 v2 k2_24 ho0 hk2_24
    intro f
    induction f with
    | zero =>
      intro v3
      exact g_none
    | succ f ih =>
      intro v3
      rw [dX7_firstFault_2l]
      refine g_iload_n B dX7_firstFault_2 3 rfl rfl ?_
      refine g_iload_n B dX7_firstFault_3 2 rfl rfl ?_
      refine g_icmp_ge (tgt := 24) B dX7_firstFault_4 (by decide) (fun c1 => ?_) (fun c1 => ?_)
      · exact g_lv [0, 1, 2] rfl (hk2_24 )
      · refine g_aload_n B dX7_firstFault_7 0 rfl rfl ?_
        refine g_iload_n B dX7_firstFault_8 1 rfl rfl ?_
        refine g_iload_n B dX7_firstFault_9 3 rfl rfl ?_
        refine g_callSIp (As := [.ref (ad o0), .int v1, .int v3]) (st := []) B (k_X7_goesOn l D cA ad B.2.2.2.2.2.2.1 o0 ho0 v1 v3 M) (va_cwS 3 B.2.2.2.2.1 gX7_firstFault_X7_goesOn rfl rfl rfl (by decide +kernel) ⟨Nat.le_of_ble_eq_true rfl, Nat.le_of_ble_eq_true rfl⟩) rfl rfl (Nat.le_of_ble_eq_true rfl) dX7_firstFault_10 (fun r2 _ => ?_)
        refine g_if_ne (tgt := 18) B dX7_firstFault_13 (by decide) (fun c3 => ?_) (fun c3 => ?_)
        · refine g_iload_n B dX7_firstFault_16 3 rfl rfl ?_
          exact g_iretp B hr hk dX7_firstFault_17
        · refine g_iinc B dX7_firstFault_18 3 (v := v3 + (1 : Int32)) rfl rfl (by decide) (lv1 := [(3, .int (v3 + (1 : Int32))), (0, .ref (ad o0)), (1, .int v1), (2, .int v2)]) rfl ?_
          refine g_goto (tgt := 2) B dX7_firstFault_21 (by decide) ?_
          exact g_lv [1, 2, 3, 0] rfl (ih _)
  unfold d_X7_firstFault
  show GG p l e (headSpec wsX7_firstFault rm_X7_firstFault).room s m args below meth c D ad (shX ad cA) 37 4 (MQ below (QI D ad (shX ad cA) 37 s.heap.size (R0, M)) args s 0 0 (AX ad 37 s.heap.size)) R0 M 0 [(0, .ref (ad o0)), (1, .int v1), (2, .int v2)] [] _
  refine g_iconst (v := 0) B dX7_firstFault_0 (by decide) ?_
  refine g_istore_n B dX7_firstFault_1 rfl (by decide) (lv1 := [(3, .int (0 : Int32)), (0, .ref (ad o0)), (1, .int v1), (2, .int v2)]) rfl ?_
  refine g_lv [1, 2, 3, 0] rfl (hL2 _ _ _ _ ho0 ?_ FU _)
  · refine g_aload_n B dX7_firstFault_24 0 rfl rfl ?_
    refine g_iload_n B dX7_firstFault_25 1 rfl rfl ?_
    refine g_iload_n B dX7_firstFault_26 2 rfl rfl ?_
    refine g_callSIp (As := [.ref (ad o0), .int v1, .int v2]) (st := []) B (k_X7_isWhole l D cA ad B.2.2.2.2.2.2.1 o0 ho0 v1 v2 M) (va_cwS 3 B.2.2.2.2.1 gX7_firstFault_X7_isWhole rfl rfl rfl (by decide +kernel) ⟨Nat.le_of_ble_eq_true rfl, Nat.le_of_ble_eq_true rfl⟩) rfl rfl (Nat.le_of_ble_eq_true rfl) dX7_firstFault_27 (fun r4 _ => ?_)
    refine g_if_eq (tgt := 38) B dX7_firstFault_30 (by decide) (fun c5 => ?_) (fun c5 => ?_)
    · refine g_iload_n B dX7_firstFault_38 2 rfl rfl ?_
      exact g_iretp B hr hk dX7_firstFault_39
    · refine g_bipush (v := -9) B dX7_firstFault_33 (by decide) ?_
      refine g_goto (tgt := 39) B dX7_firstFault_35 (by decide) ?_
      exact g_iretp B hr hk dX7_firstFault_39

abbrev rm_X6_renew : Room := { frames := 1, cells := 0, slots := 0, locals := 24 }
set_option maxHeartbeats 4000000 in
set_option maxRecDepth 100000 in
theorem k_X6_renew (l : Launch) (D : va_G) (cA : Nat → ClassId) (ad : Nat → Nat) (had : adOK ad 37) (v1 : Int32) (M : Mem) : CV l yX6_renew wsX6_renew rm_X6_renew D cA ad (shX ad cA) 37 [.ref (ad 2), .int v1] M (d_X6_renew v1 M) := by
  refine CV_of (own := RX6) (cc := cX6_renew) (maxL := 3) had (by decide) rfl rfl (Nat.le_of_ble_eq_true rfl) ?_
  intro p e s m args below meth c R0 B hr hk
  have hL16 : ∀ (f : Nat) (v2 : Int32) (M : Mem), GG p l e (headSpec wsX6_renew rm_X6_renew).room s m args below meth c D ad (shX ad cA) 37 3 (MQ below (QV D ad (shX ad cA) 37 s.heap.size R0) args s 0 0 (AX ad 37 s.heap.size)) R0 M 16 [(0, .ref (ad 2)), (2, .int v2)] [] (dX6_renew_16l    f v2 M) := by
    intro f
    induction f with
    | zero =>
      intro v2 M
      exact g_none
    | succ f ih =>
      intro v2 M
      rw [dX6_renew_16l]
      refine g_iload_n B dX6_renew_16 1 rfl rfl ?_
      refine g_aload_n B dX6_renew_17 0 rfl rfl ?_
      refine g_get (v := .ref (ad 3)) B shX_st (by decide) in_X6_renew_X6 rfl 0 (by decide) (List.mem_of_getElem? (i := 9) rfl) rfl rfl dX6_renew_18 ?_
      refine g_alen (v := 36) B shX_3 (by decide) rfl dX6_renew_21 ?_
      refine g_icmp_ge (tgt := 38) B dX6_renew_22 (by decide) (fun c2 => ?_) (fun c2 => ?_)
      · exact g_vret B hr hk dX6_renew_38
      · refine g_aload_n B dX6_renew_25 0 rfl rfl ?_
        refine g_get (v := .ref (ad 3)) B shX_st (by decide) in_X6_renew_X6 rfl 0 (by decide) (List.mem_of_getElem? (i := 9) rfl) rfl rfl dX6_renew_26 ?_
        refine g_iload_n B dX6_renew_29 1 rfl rfl ?_
        refine g_iconst (v := 0) B dX6_renew_30 (by decide) ?_
        refine g_iast B shX_3 (by decide) dX6_renew_31 (g_lmM (fun M3 => ?_))
        refine g_iinc B dX6_renew_32 1 (v := v2 + (1 : Int32)) rfl rfl (by decide) (lv1 := [(2, .int (v2 + (1 : Int32))), (0, .ref (ad 2))]) rfl ?_
        refine g_goto (tgt := 16) B dX6_renew_35 (by decide) ?_
        exact g_lv [1, 0] rfl (ih _ _)
  unfold d_X6_renew
  show GG p l e (headSpec wsX6_renew rm_X6_renew).room s m args below meth c D ad (shX ad cA) 37 3 (MQ below (QV D ad (shX ad cA) 37 s.heap.size R0) args s 0 0 (AX ad 37 s.heap.size)) R0 M 0 [(0, .ref (ad 2)), (1, .int v1)] [] _
  refine g_aload_n B dX6_renew_0 0 rfl rfl ?_
  refine g_iconst (v := 0) B dX6_renew_1 (by decide) ?_
  refine g_iload_n B dX6_renew_2 1 rfl rfl ?_
  refine g_bipush (v := 6) B dX6_renew_3 (by decide) ?_
  refine g_min B dX6_renew_5 (List.mem_of_getElem? (i := 1) rfl) (List.mem_of_getElem? (i := 2) rfl) (List.mem_of_getElem? (i := 3) rfl) (List.mem_of_getElem? (i := 4) rfl) (Nat.le_of_ble_eq_true rfl) (Nat.le_of_ble_eq_true rfl) ?_
  refine g_max B dX6_renew_8 (List.mem_of_getElem? (i := 5) rfl) (List.mem_of_getElem? (i := 6) rfl) (List.mem_of_getElem? (i := 3) rfl) (List.mem_of_getElem? (i := 7) rfl) (Nat.le_of_ble_eq_true rfl) (Nat.le_of_ble_eq_true rfl) ?_
  refine g_put (ty := .int) B shX_st (by decide) in_X6_renew_X6 tyX6_ok nmX6 rfl 3 (by decide) (List.mem_of_getElem? (i := 8) rfl) rfl rfl (by decide +kernel) rfl rfl (fun _ => Nat.le_of_ble_eq_true rfl) (fun _ _ => rfl) dX6_renew_11 (g_lmM (fun M1 => ?_))
  refine g_iconst (v := 0) B dX6_renew_14 (by decide) ?_
  refine g_istore_n B dX6_renew_15 rfl (by decide) (lv1 := [(2, .int (0 : Int32)), (0, .ref (ad 2)), (1, .int v1)]) rfl ?_
  refine g_lv [1, 0] rfl (hL16    FU _ _)

abbrev rm_X6_has : Room := { frames := 0, cells := 0, slots := 0, locals := 0 }
set_option maxHeartbeats 4000000 in
set_option maxRecDepth 100000 in
theorem k_X6_has (l : Launch) (D : va_G) (cA : Nat → ClassId) (ad : Nat → Nat) (had : adOK ad 37) (v1 : Int32) (M : Mem) : CI l yX6_has wsX6_has rm_X6_has D cA ad (shX ad cA) 37 [.ref (ad 2), .int v1] M (wM M (d_X6_has v1 M)) := by
  refine CI_ofp (own := RX6) (cc := cX6_has) (maxL := 2) (rt := .boolean) had (by decide) rfl rfl (Nat.le_of_ble_eq_true rfl) ?_
  intro p e s m args below meth c R0 B hr hk
  unfold d_X6_has
  show GG p l e (headSpec wsX6_has rm_X6_has).room s m args below meth c D ad (shX ad cA) 37 2 (MQ below (QI D ad (shX ad cA) 37 s.heap.size (R0, M)) args s 0 0 (AX ad 37 s.heap.size)) R0 M 0 [(0, .ref (ad 2)), (1, .int v1)] [] _
  refine g_iload_n B dX6_has_0 1 rfl rfl ?_
  refine g_if_lt (tgt := 16) B dX6_has_1 (by decide) (fun c1 => ?_) (fun c1 => ?_)
  · refine g_iconst (v := 0) B dX6_has_16 (by decide) ?_
    exact g_zretp B hr hk rfl dX6_has_17
  · refine g_iload_n B dX6_has_4 1 rfl rfl ?_
    refine g_aload_n B dX6_has_5 0 rfl rfl ?_
    refine g_get (v := .int (M 2 3)) B shX_st (by decide) in_X6_has_X6 rfl 3 (by decide) (List.mem_of_getElem? (i := 1) rfl) rfl rfl dX6_has_6 ?_
    refine g_icmp_ge (tgt := 16) B dX6_has_9 (by decide) (fun c2 => ?_) (fun c2 => ?_)
    · refine g_iconst (v := 0) B dX6_has_16 (by decide) ?_
      exact g_zretp B hr hk rfl dX6_has_17
    · refine g_iconst (v := 1) B dX6_has_12 (by decide) ?_
      refine g_goto (tgt := 17) B dX6_has_13 (by decide) ?_
      exact g_zretp B hr hk rfl dX6_has_17

abbrev rm_X6_hasTwo : Room := { frames := 1, cells := 0, slots := 0, locals := 21 }
set_option maxHeartbeats 4000000 in
set_option maxRecDepth 100000 in
theorem k_X6_hasTwo (l : Launch) (D : va_G) (cA : Nat → ClassId) (ad : Nat → Nat) (had : adOK ad 37) (v1 : Int32) (v2 : Int32) (M : Mem) : CI l yX6_hasTwo wsX6_hasTwo rm_X6_hasTwo D cA ad (shX ad cA) 37 [.ref (ad 2), .int v1, .int v2] M (wM M (d_X6_hasTwo v1 v2 M)) := by
  refine CI_ofp (own := RX6) (cc := cX6_hasTwo) (maxL := 3) (rt := .boolean) had (by decide) rfl rfl (Nat.le_of_ble_eq_true rfl) ?_
  intro p e s m args below meth c R0 B hr hk
  unfold d_X6_hasTwo
  show GG p l e (headSpec wsX6_hasTwo rm_X6_hasTwo).room s m args below meth c D ad (shX ad cA) 37 3 (MQ below (QI D ad (shX ad cA) 37 s.heap.size (R0, M)) args s 0 0 (AX ad 37 s.heap.size)) R0 M 0 [(0, .ref (ad 2)), (1, .int v1), (2, .int v2)] [] _
  refine g_aload_n B dX6_hasTwo_0 0 rfl rfl ?_
  refine g_iload_n B dX6_hasTwo_1 1 rfl rfl ?_
  refine g_callVIp (q := (RX6, TX6, 4)) (As := [.int v1]) (st := []) B (k_X6_has l D cA ad B.2.2.2.2.2.2.1 v1 M) (cwV 1 B.2.2.2.2.1 gX6_hasTwo_X6_has rfl rfl rfl (by decide +kernel) ⟨Nat.le_of_ble_eq_true rfl, Nat.le_of_ble_eq_true rfl⟩) shX_st (by decide) rfl rfl rfl (Nat.le_of_ble_eq_true rfl) dX6_hasTwo_2 (fun r1 _ => ?_)
  refine g_if_eq (tgt := 25) B dX6_hasTwo_5 (by decide) (fun c2 => ?_) (fun c2 => ?_)
  · refine g_iconst (v := 0) B dX6_hasTwo_25 (by decide) ?_
    exact g_zretp B hr hk rfl dX6_hasTwo_26
  · refine g_aload_n B dX6_hasTwo_8 0 rfl rfl ?_
    refine g_iload_n B dX6_hasTwo_9 2 rfl rfl ?_
    refine g_callVIp (q := (RX6, TX6, 4)) (As := [.int v2]) (st := []) B (k_X6_has l D cA ad B.2.2.2.2.2.2.1 v2 M) (cwV 1 B.2.2.2.2.1 gX6_hasTwo_X6_has rfl rfl rfl (by decide +kernel) ⟨Nat.le_of_ble_eq_true rfl, Nat.le_of_ble_eq_true rfl⟩) shX_st (by decide) rfl rfl rfl (Nat.le_of_ble_eq_true rfl) dX6_hasTwo_10 (fun r3 _ => ?_)
    refine g_if_eq (tgt := 25) B dX6_hasTwo_13 (by decide) (fun c4 => ?_) (fun c4 => ?_)
    · refine g_iconst (v := 0) B dX6_hasTwo_25 (by decide) ?_
      exact g_zretp B hr hk rfl dX6_hasTwo_26
    · refine g_iload_n B dX6_hasTwo_16 1 rfl rfl ?_
      refine g_iload_n B dX6_hasTwo_17 2 rfl rfl ?_
      refine g_icmp_eq (tgt := 25) B dX6_hasTwo_18 (by decide) (fun c5 => ?_) (fun c5 => ?_)
      · refine g_iconst (v := 0) B dX6_hasTwo_25 (by decide) ?_
        exact g_zretp B hr hk rfl dX6_hasTwo_26
      · refine g_iconst (v := 1) B dX6_hasTwo_21 (by decide) ?_
        refine g_goto (tgt := 26) B dX6_hasTwo_22 (by decide) ?_
        exact g_zretp B hr hk rfl dX6_hasTwo_26

abbrev rm_X6_lay : Room := { frames := 2, cells := 0, slots := 0, locals := 43 }
set_option maxHeartbeats 4000000 in
set_option maxRecDepth 100000 in
theorem k_X6_lay (l : Launch) (D : va_G) (cA : Nat → ClassId) (ad : Nat → Nat) (had : adOK ad 37) (v1 : Int32) (v2 : Int32) (v3 : Int32) (M : Mem) : CV l yX6_lay wsX6_lay rm_X6_lay D cA ad (shX ad cA) 37 [.ref (ad 2), .int v1, .int v2, .int v3] M (d_X6_lay v1 v2 v3 M) := by
  refine CV_of (own := RX6) (cc := cX6_lay) (maxL := 4) had (by decide) rfl rfl (Nat.le_of_ble_eq_true rfl) ?_
  intro p e s m args below meth c R0 B hr hk
  unfold d_X6_lay
  show GG p l e (headSpec wsX6_lay rm_X6_lay).room s m args below meth c D ad (shX ad cA) 37 4 (MQ below (QV D ad (shX ad cA) 37 s.heap.size R0) args s 0 0 (AX ad 37 s.heap.size)) R0 M 0 [(0, .ref (ad 2)), (1, .int v1), (2, .int v2), (3, .int v3)] [] _
  refine g_aload_n B dX6_lay_0 0 rfl rfl ?_
  refine g_iload_n B dX6_lay_1 1 rfl rfl ?_
  refine g_iload_n B dX6_lay_2 2 rfl rfl ?_
  refine g_callVIp (q := (RX6, TX6, 4)) (As := [.int v1, .int v2]) (st := []) B (k_X6_hasTwo l D cA ad B.2.2.2.2.2.2.1 v1 v2 M) (cwV 2 B.2.2.2.2.1 gX6_lay_X6_hasTwo rfl rfl rfl (by decide +kernel) ⟨Nat.le_of_ble_eq_true rfl, Nat.le_of_ble_eq_true rfl⟩) shX_st (by decide) rfl rfl rfl (Nat.le_of_ble_eq_true rfl) dX6_lay_3 (fun r1 _ => ?_)
  refine g_if_eq (tgt := 33) B dX6_lay_6 (by decide) (fun c2 => ?_) (fun c2 => ?_)
  · exact g_vret B hr hk dX6_lay_33
  · refine g_aload_n B dX6_lay_9 0 rfl rfl ?_
    refine g_get (v := .ref (ad 3)) B shX_st (by decide) in_X6_lay_X6 rfl 0 (by decide) (List.mem_of_getElem? (i := 1) rfl) rfl rfl dX6_lay_10 ?_
    refine g_iload_n B dX6_lay_13 1 rfl rfl ?_
    refine g_bipush (v := 6) B dX6_lay_14 (by decide) ?_
    refine g_imul B dX6_lay_16 ?_
    refine g_iload_n B dX6_lay_17 2 rfl rfl ?_
    refine g_iadd B dX6_lay_18 ?_
    refine g_iload_n B dX6_lay_19 3 rfl rfl ?_
    refine g_iast B shX_3 (by decide) dX6_lay_20 (g_lmM (fun M3 => ?_))
    refine g_aload_n B dX6_lay_21 0 rfl rfl ?_
    refine g_get (v := .ref (ad 3)) B shX_st (by decide) in_X6_lay_X6 rfl 0 (by decide) (List.mem_of_getElem? (i := 1) rfl) rfl rfl dX6_lay_22 ?_
    refine g_iload_n B dX6_lay_25 2 rfl rfl ?_
    refine g_bipush (v := 6) B dX6_lay_26 (by decide) ?_
    refine g_imul B dX6_lay_28 ?_
    refine g_iload_n B dX6_lay_29 1 rfl rfl ?_
    refine g_iadd B dX6_lay_30 ?_
    refine g_iload_n B dX6_lay_31 3 rfl rfl ?_
    refine g_iast B shX_3 (by decide) dX6_lay_32 (g_lmM (fun M4 => ?_))
    exact g_vret B hr hk dX6_lay_33

abbrev rm_X6_length : Room := { frames := 1, cells := 0, slots := 0, locals := 21 }
set_option maxHeartbeats 4000000 in
set_option maxRecDepth 100000 in
theorem k_X6_length (l : Launch) (D : va_G) (cA : Nat → ClassId) (ad : Nat → Nat) (had : adOK ad 37) (v1 : Int32) (v2 : Int32) (M : Mem) : CI l yX6_length wsX6_length rm_X6_length D cA ad (shX ad cA) 37 [.ref (ad 2), .int v1, .int v2] M (wM M (d_X6_length v1 v2 M)) := by
  refine CI_ofp (own := RX6) (cc := cX6_length) (maxL := 3) (rt := .int) had (by decide) rfl rfl (Nat.le_of_ble_eq_true rfl) ?_
  intro p e s m args below meth c R0 B hr hk
  unfold d_X6_length
  show GG p l e (headSpec wsX6_length rm_X6_length).room s m args below meth c D ad (shX ad cA) 37 3 (MQ below (QI D ad (shX ad cA) 37 s.heap.size (R0, M)) args s 0 0 (AX ad 37 s.heap.size)) R0 M 0 [(0, .ref (ad 2)), (1, .int v1), (2, .int v2)] [] _
  refine g_aload_n B dX6_length_0 0 rfl rfl ?_
  refine g_iload_n B dX6_length_1 1 rfl rfl ?_
  refine g_callVIp (q := (RX6, TX6, 4)) (As := [.int v1]) (st := []) B (k_X6_has l D cA ad B.2.2.2.2.2.2.1 v1 M) (cwV 1 B.2.2.2.2.1 gX6_length_X6_has rfl rfl rfl (by decide +kernel) ⟨Nat.le_of_ble_eq_true rfl, Nat.le_of_ble_eq_true rfl⟩) shX_st (by decide) rfl rfl rfl (Nat.le_of_ble_eq_true rfl) dX6_length_2 (fun r1 _ => ?_)
  refine g_if_eq (tgt := 30) B dX6_length_5 (by decide) (fun c2 => ?_) (fun c2 => ?_)
  · refine g_iconst (v := 0) B dX6_length_30 (by decide) ?_
    exact g_iretp B hr hk dX6_length_31
  · refine g_aload_n B dX6_length_8 0 rfl rfl ?_
    refine g_iload_n B dX6_length_9 2 rfl rfl ?_
    refine g_callVIp (q := (RX6, TX6, 4)) (As := [.int v2]) (st := []) B (k_X6_has l D cA ad B.2.2.2.2.2.2.1 v2 M) (cwV 1 B.2.2.2.2.1 gX6_length_X6_has rfl rfl rfl (by decide +kernel) ⟨Nat.le_of_ble_eq_true rfl, Nat.le_of_ble_eq_true rfl⟩) shX_st (by decide) rfl rfl rfl (Nat.le_of_ble_eq_true rfl) dX6_length_10 (fun r3 _ => ?_)
    refine g_if_eq (tgt := 30) B dX6_length_13 (by decide) (fun c4 => ?_) (fun c4 => ?_)
    · refine g_iconst (v := 0) B dX6_length_30 (by decide) ?_
      exact g_iretp B hr hk dX6_length_31
    · refine g_aload_n B dX6_length_16 0 rfl rfl ?_
      refine g_get (v := .ref (ad 3)) B shX_st (by decide) in_X6_length_X6 rfl 0 (by decide) (List.mem_of_getElem? (i := 1) rfl) rfl rfl dX6_length_17 ?_
      refine g_iload_n B dX6_length_20 1 rfl rfl ?_
      refine g_bipush (v := 6) B dX6_length_21 (by decide) ?_
      refine g_imul B dX6_length_23 ?_
      refine g_iload_n B dX6_length_24 2 rfl rfl ?_
      refine g_iadd B dX6_length_25 ?_
      refine g_iald B shX_3 (by decide) dX6_length_26 ?_
      refine g_goto (tgt := 31) B dX6_length_27 (by decide) ?_
      exact g_iretp B hr hk dX6_length_31

abbrev rm_X6_shortenBy : Room := { frames := 0, cells := 0, slots := 0, locals := 0 }
set_option maxHeartbeats 4000000 in
set_option maxRecDepth 100000 in
theorem k_X6_shortenBy (l : Launch) (D : va_G) (cA : Nat → ClassId) (ad : Nat → Nat) (had : adOK ad 37) (v1 : Int32) (M : Mem) : CV l yX6_shortenBy wsX6_shortenBy rm_X6_shortenBy D cA ad (shX ad cA) 37 [.ref (ad 2), .int v1] M (d_X6_shortenBy v1 M) := by
  refine CV_of (own := RX6) (cc := cX6_shortenBy) (maxL := 5) had (by decide) rfl rfl (Nat.le_of_ble_eq_true rfl) ?_
  intro p e s m args below meth c R0 B hr hk
  have hL12 : ∀ (v1 : Int32) (v2 : Int32)  (k12_80 : Mem → Option Mem)  (hk12_80 : ∀  (M1 : Mem), GG p l e (headSpec wsX6_shortenBy rm_X6_shortenBy).room s m args below meth c D ad (shX ad cA) 37 5 (MQ below (QV D ad (shX ad cA) 37 s.heap.size R0) args s 0 0 (AX ad 37 s.heap.size)) R0 M1 80 [(0, .ref (ad 2)), (1, .int v1), (2, .int v2)] [] (k12_80  M1)), ∀ (f : Nat) (v3 : Int32) (M : Mem), GG p l e (headSpec wsX6_shortenBy rm_X6_shortenBy).room s m args below meth c D ad (shX ad cA) 37 5 (MQ below (QV D ad (shX ad cA) 37 s.heap.size R0) args s 0 0 (AX ad 37 s.heap.size)) R0 M 12 [(0, .ref (ad 2)), (1, .int v1), (2, .int v2), (3, .int v3)] [] (dX6_shortenBy_12l v1 v2  k12_80 f v3 M) := by
    intro v1 v2 k12_80 hk12_80
    intro f
    induction f with
    | zero =>
      intro v3 M
      exact g_none
    | succ f ih =>
      intro v3 M
      rw [dX6_shortenBy_12l]
      refine g_iload_n B dX6_shortenBy_12 3 rfl rfl ?_
      refine g_aload_n B dX6_shortenBy_13 0 rfl rfl ?_
      refine g_get (v := .int (M 2 3)) B shX_st (by decide) in_X6_shortenBy_X6 rfl 3 (by decide) (List.mem_of_getElem? (i := 1) rfl) rfl rfl dX6_shortenBy_14 ?_
      refine g_icmp_ge (tgt := 80) B dX6_shortenBy_17 (by decide) (fun c2 => ?_) (fun c2 => ?_)
      · exact g_lv [0, 1, 2] rfl (hk12_80  _)
      · refine g_aload_n B dX6_shortenBy_20 0 rfl rfl ?_
        refine g_get (v := .ref (ad 4)) B shX_st (by decide) in_X6_shortenBy_X6 rfl 1 (by decide) (List.mem_of_getElem? (i := 2) rfl) rfl rfl dX6_shortenBy_21 ?_
        refine g_iload_n B dX6_shortenBy_24 2 rfl rfl ?_
        refine g_bipush (v := 6) B dX6_shortenBy_25 (by decide) ?_
        refine g_imul B dX6_shortenBy_27 ?_
        refine g_iload_n B dX6_shortenBy_28 1 rfl rfl ?_
        refine g_iadd B dX6_shortenBy_29 ?_
        refine g_iald B shX_4 (by decide) dX6_shortenBy_30 ?_
        refine g_aload_n B dX6_shortenBy_31 0 rfl rfl ?_
        refine g_get (v := .ref (ad 4)) B shX_st (by decide) in_X6_shortenBy_X6 rfl 1 (by decide) (List.mem_of_getElem? (i := 2) rfl) rfl rfl dX6_shortenBy_32 ?_
        refine g_iload_n B dX6_shortenBy_35 1 rfl rfl ?_
        refine g_bipush (v := 6) B dX6_shortenBy_36 (by decide) ?_
        refine g_imul B dX6_shortenBy_38 ?_
        refine g_iload_n B dX6_shortenBy_39 3 rfl rfl ?_
        refine g_iadd B dX6_shortenBy_40 ?_
        refine g_iald B shX_4 (by decide) dX6_shortenBy_41 ?_
        refine g_iadd B dX6_shortenBy_42 ?_
        refine g_lmI (fun x3 => ?_)
        refine g_istore B dX6_shortenBy_43 (by decide) (lv1 := [(4, .int x3), (0, .ref (ad 2)), (1, .int v1), (2, .int v2), (3, .int v3)]) rfl ?_
        refine g_iload B dX6_shortenBy_45 0 rfl ?_
        refine g_aload_n B dX6_shortenBy_47 1 rfl rfl ?_
        refine g_get (v := .ref (ad 4)) B shX_st (by decide) in_X6_shortenBy_X6 rfl 1 (by decide) (List.mem_of_getElem? (i := 2) rfl) rfl rfl dX6_shortenBy_48 ?_
        refine g_iload_n B dX6_shortenBy_51 3 rfl rfl ?_
        refine g_bipush (v := 6) B dX6_shortenBy_52 (by decide) ?_
        refine g_imul B dX6_shortenBy_54 ?_
        refine g_iload_n B dX6_shortenBy_55 4 rfl rfl ?_
        refine g_iadd B dX6_shortenBy_56 ?_
        refine g_iald B shX_4 (by decide) dX6_shortenBy_57 ?_
        refine g_icmp_ge (tgt := 74) B dX6_shortenBy_58 (by decide) (fun c4 => ?_) (fun c4 => ?_)
        · refine g_iinc B dX6_shortenBy_74 4 (v := v3 + (1 : Int32)) rfl rfl (by decide) (lv1 := [(3, .int (v3 + (1 : Int32))), (4, .int x3), (0, .ref (ad 2)), (1, .int v1), (2, .int v2)]) rfl ?_
          refine g_goto (tgt := 12) B dX6_shortenBy_77 (by decide) ?_
          exact g_lv [2, 3, 4, 0] rfl (ih _ _)
        · refine g_aload_n B dX6_shortenBy_61 1 rfl rfl ?_
          refine g_get (v := .ref (ad 4)) B shX_st (by decide) in_X6_shortenBy_X6 rfl 1 (by decide) (List.mem_of_getElem? (i := 2) rfl) rfl rfl dX6_shortenBy_62 ?_
          refine g_iload_n B dX6_shortenBy_65 3 rfl rfl ?_
          refine g_bipush (v := 6) B dX6_shortenBy_66 (by decide) ?_
          refine g_imul B dX6_shortenBy_68 ?_
          refine g_iload_n B dX6_shortenBy_69 4 rfl rfl ?_
          refine g_iadd B dX6_shortenBy_70 ?_
          refine g_iload B dX6_shortenBy_71 0 rfl ?_
          refine g_iast B shX_4 (by decide) dX6_shortenBy_73 (g_lmM (fun M5 => ?_))
          refine g_iinc B dX6_shortenBy_74 4 (v := v3 + (1 : Int32)) rfl rfl (by decide) (lv1 := [(3, .int (v3 + (1 : Int32))), (4, .int x3), (0, .ref (ad 2)), (1, .int v1), (2, .int v2)]) rfl ?_
          refine g_goto (tgt := 12) B dX6_shortenBy_77 (by decide) ?_
          exact g_lv [2, 3, 4, 0] rfl (ih _ _)
  have hL2 : ∀ (v1 : Int32)    , ∀ (f : Nat) (v2 : Int32) (M : Mem), GG p l e (headSpec wsX6_shortenBy rm_X6_shortenBy).room s m args below meth c D ad (shX ad cA) 37 5 (MQ below (QV D ad (shX ad cA) 37 s.heap.size R0) args s 0 0 (AX ad 37 s.heap.size)) R0 M 2 [(0, .ref (ad 2)), (1, .int v1), (2, .int v2)] [] (dX6_shortenBy_2l v1   f v2 M) := by
    intro v1
    intro f
    induction f with
    | zero =>
      intro v2 M
      exact g_none
    | succ f ih =>
      intro v2 M
      rw [dX6_shortenBy_2l]
      refine g_iload_n B dX6_shortenBy_2 2 rfl rfl ?_
      refine g_aload_n B dX6_shortenBy_3 0 rfl rfl ?_
      refine g_get (v := .int (M 2 3)) B shX_st (by decide) in_X6_shortenBy_X6 rfl 3 (by decide) (List.mem_of_getElem? (i := 1) rfl) rfl rfl dX6_shortenBy_4 ?_
      refine g_icmp_ge (tgt := 86) B dX6_shortenBy_7 (by decide) (fun c1 => ?_) (fun c1 => ?_)
      · exact g_vret B hr hk dX6_shortenBy_86
      · refine g_iconst (v := 0) B dX6_shortenBy_10 (by decide) ?_
        refine g_istore_n B dX6_shortenBy_11 rfl (by decide) (lv1 := [(3, .int (0 : Int32)), (0, .ref (ad 2)), (1, .int v1), (2, .int v2)]) rfl ?_
        refine g_lv [1, 2, 3, 0] rfl (hL12 _ _ _  ?_ FU _ _)
        · intro M6
          refine g_iinc B dX6_shortenBy_80 2 (v := v2 + (1 : Int32)) rfl rfl (by decide) (lv1 := [(2, .int (v2 + (1 : Int32))), (0, .ref (ad 2)), (1, .int v1)]) rfl ?_
          refine g_goto (tgt := 2) B dX6_shortenBy_83 (by decide) ?_
          exact g_lv [1, 2, 0] rfl (ih _ _)
  unfold d_X6_shortenBy
  show GG p l e (headSpec wsX6_shortenBy rm_X6_shortenBy).room s m args below meth c D ad (shX ad cA) 37 5 (MQ below (QV D ad (shX ad cA) 37 s.heap.size R0) args s 0 0 (AX ad 37 s.heap.size)) R0 M 0 [(0, .ref (ad 2)), (1, .int v1)] [] _
  refine g_iconst (v := 0) B dX6_shortenBy_0 (by decide) ?_
  refine g_istore_n B dX6_shortenBy_1 rfl (by decide) (lv1 := [(2, .int (0 : Int32)), (0, .ref (ad 2)), (1, .int v1)]) rfl ?_
  refine g_lv [1, 2, 0] rfl (hL2 _   FU _ _)

abbrev rm_X6_measure : Room := { frames := 2, cells := 0, slots := 0, locals := 43 }
set_option maxHeartbeats 4000000 in
set_option maxRecDepth 100000 in
theorem k_X6_measure (l : Launch) (D : va_G) (cA : Nat → ClassId) (ad : Nat → Nat) (had : adOK ad 37)  (M : Mem) : CV l yX6_measure wsX6_measure rm_X6_measure D cA ad (shX ad cA) 37 [.ref (ad 2)] M (d_X6_measure  M) := by
  refine CV_of (own := RX6) (cc := cX6_measure) (maxL := 4) had (by decide) rfl rfl (Nat.le_of_ble_eq_true rfl) ?_
  intro p e s m args below meth c R0 B hr hk
  have hJ56 : ∀ (rec12 : Int32 → Mem → Option Mem) (v1 : Int32) (v2 : Int32) (s0 : Int32) (s1 : Int32) (M : Mem)   (hrec12 : ∀ (w2 : Int32) (M1 : Mem), GG p l e (headSpec wsX6_measure rm_X6_measure).room s m args below meth c D ad (shX ad cA) 37 4 (MQ below (QV D ad (shX ad cA) 37 s.heap.size R0) args s 0 0 (AX ad 37 s.heap.size)) R0 M1 12 [(0, .ref (ad 2)), (1, .int v1), (2, .int w2)] [] (rec12 w2 M1)), GG p l e (headSpec wsX6_measure rm_X6_measure).room s m args below meth c D ad (shX ad cA) 37 4 (MQ below (QV D ad (shX ad cA) 37 s.heap.size R0) args s 0 0 (AX ad 37 s.heap.size)) R0 M 56 [(0, .ref (ad 2)), (1, .int v1), (2, .int v2)] [.int s0, .int s1, .ref (ad 4)] (dX6_measure_56j rec12 v1 v2 s0 s1 M) := by
    intro rec12 v1 v2 s0 s1 M hrec12
    unfold dX6_measure_56j
    refine g_iast B shX_4 (by decide) dX6_measure_56 (g_lmM (fun M6 => ?_))
    refine g_iinc B dX6_measure_57 2 (v := v2 + (1 : Int32)) rfl rfl (by decide) (lv1 := [(2, .int (v2 + (1 : Int32))), (0, .ref (ad 2)), (1, .int v1)]) rfl ?_
    refine g_goto (tgt := 12) B dX6_measure_60 (by decide) ?_
    exact g_lv [1, 2, 0] rfl (hrec12 _ _)
  have hL12 : ∀ (v1 : Int32)  (k12_63 : Mem → Option Mem)  (hk12_63 : ∀  (M1 : Mem), GG p l e (headSpec wsX6_measure rm_X6_measure).room s m args below meth c D ad (shX ad cA) 37 4 (MQ below (QV D ad (shX ad cA) 37 s.heap.size R0) args s 0 0 (AX ad 37 s.heap.size)) R0 M1 63 [(0, .ref (ad 2)), (1, .int v1)] [] (k12_63  M1)), ∀ (f : Nat) (v2 : Int32) (M : Mem), GG p l e (headSpec wsX6_measure rm_X6_measure).room s m args below meth c D ad (shX ad cA) 37 4 (MQ below (QV D ad (shX ad cA) 37 s.heap.size R0) args s 0 0 (AX ad 37 s.heap.size)) R0 M 12 [(0, .ref (ad 2)), (1, .int v1), (2, .int v2)] [] (dX6_measure_12l v1  k12_63 f v2 M) := by
    intro v1 k12_63 hk12_63
    intro f
    induction f with
    | zero =>
      intro v2 M
      exact g_none
    | succ f ih =>
      intro v2 M
      rw [dX6_measure_12l]
      refine g_iload_n B dX6_measure_12 2 rfl rfl ?_
      refine g_aload_n B dX6_measure_13 0 rfl rfl ?_
      refine g_get (v := .int (M 2 3)) B shX_st (by decide) in_X6_measure_X6 rfl 3 (by decide) (List.mem_of_getElem? (i := 1) rfl) rfl rfl dX6_measure_14 ?_
      refine g_icmp_ge (tgt := 63) B dX6_measure_17 (by decide) (fun c2 => ?_) (fun c2 => ?_)
      · exact g_lv [0, 1] rfl (hk12_63  _)
      · refine g_aload_n B dX6_measure_20 0 rfl rfl ?_
        refine g_iload_n B dX6_measure_21 1 rfl rfl ?_
        refine g_iload_n B dX6_measure_22 2 rfl rfl ?_
        refine g_callVIp (q := (RX6, TX6, 4)) (As := [.int v1, .int v2]) (st := []) B (k_X6_length l D cA ad B.2.2.2.2.2.2.1 v1 v2 M) (cwV 2 B.2.2.2.2.1 gX6_measure_X6_length rfl rfl rfl (by decide +kernel) ⟨Nat.le_of_ble_eq_true rfl, Nat.le_of_ble_eq_true rfl⟩) shX_st (by decide) rfl rfl rfl (Nat.le_of_ble_eq_true rfl) dX6_measure_23 (fun r3 _ => ?_)
        refine g_istore_n B dX6_measure_26 rfl (by decide) (lv1 := [(3, .int r3), (0, .ref (ad 2)), (1, .int v1), (2, .int v2)]) rfl ?_
        refine g_aload_n B dX6_measure_27 1 rfl rfl ?_
        refine g_get (v := .ref (ad 4)) B shX_st (by decide) in_X6_measure_X6 rfl 1 (by decide) (List.mem_of_getElem? (i := 2) rfl) rfl rfl dX6_measure_28 ?_
        refine g_iload_n B dX6_measure_31 2 rfl rfl ?_
        refine g_bipush (v := 6) B dX6_measure_32 (by decide) ?_
        refine g_imul B dX6_measure_34 ?_
        refine g_iload_n B dX6_measure_35 3 rfl rfl ?_
        refine g_iadd B dX6_measure_36 ?_
        refine g_iload_n B dX6_measure_37 2 rfl rfl ?_
        refine g_iload_n B dX6_measure_38 3 rfl rfl ?_
        refine g_icmp_ne (tgt := 46) B dX6_measure_39 (by decide) (fun c4 => ?_) (fun c4 => ?_)
        · refine g_iconst (v := 0) B dX6_measure_42 (by decide) ?_
          refine g_goto (tgt := 56) B dX6_measure_43 (by decide) ?_
          exact g_lv [1, 2, 3] rfl (hJ56 _ _ _ _ _ _   ih)
        · refine g_iload_n B dX6_measure_46 0 rfl rfl ?_
          refine g_if_ne (tgt := 55) B dX6_measure_47 (by decide) (fun c5 => ?_) (fun c5 => ?_)
          · refine g_ldc (v := 1000000) B dX6_measure_50 (List.mem_of_getElem? (i := 3) rfl) ?_
            refine g_goto (tgt := 56) B dX6_measure_52 (by decide) ?_
            exact g_lv [1, 2, 3] rfl (hJ56 _ _ _ _ _ _   ih)
          · refine g_iload_n B dX6_measure_55 0 rfl rfl ?_
            exact g_lv [1, 2, 3] rfl (hJ56 _ _ _ _ _ _   ih)
  have hL2 : ∀   (k2_69 : Mem → Option Mem)  (hk2_69 : ∀  (M1 : Mem), GG p l e (headSpec wsX6_measure rm_X6_measure).room s m args below meth c D ad (shX ad cA) 37 4 (MQ below (QV D ad (shX ad cA) 37 s.heap.size R0) args s 0 0 (AX ad 37 s.heap.size)) R0 M1 69 [(0, .ref (ad 2))] [] (k2_69  M1)), ∀ (f : Nat) (v1 : Int32) (M : Mem), GG p l e (headSpec wsX6_measure rm_X6_measure).room s m args below meth c D ad (shX ad cA) 37 4 (MQ below (QV D ad (shX ad cA) 37 s.heap.size R0) args s 0 0 (AX ad 37 s.heap.size)) R0 M 2 [(0, .ref (ad 2)), (1, .int v1)] [] (dX6_measure_2l   k2_69 f v1 M) := by
    intro k2_69 hk2_69
    intro f
    induction f with
    | zero =>
      intro v1 M
      exact g_none
    | succ f ih =>
      intro v1 M
      rw [dX6_measure_2l]
      refine g_iload_n B dX6_measure_2 1 rfl rfl ?_
      refine g_aload_n B dX6_measure_3 0 rfl rfl ?_
      refine g_get (v := .int (M 2 3)) B shX_st (by decide) in_X6_measure_X6 rfl 3 (by decide) (List.mem_of_getElem? (i := 1) rfl) rfl rfl dX6_measure_4 ?_
      refine g_icmp_ge (tgt := 69) B dX6_measure_7 (by decide) (fun c1 => ?_) (fun c1 => ?_)
      · exact g_lv [0] rfl (hk2_69  _)
      · refine g_iconst (v := 0) B dX6_measure_10 (by decide) ?_
        refine g_istore_n B dX6_measure_11 rfl (by decide) (lv1 := [(2, .int (0 : Int32)), (0, .ref (ad 2)), (1, .int v1)]) rfl ?_
        refine g_lv [1, 2, 0] rfl (hL12 _ _  ?_ FU _ _)
        · intro M7
          refine g_iinc B dX6_measure_63 1 (v := v1 + (1 : Int32)) rfl rfl (by decide) (lv1 := [(1, .int (v1 + (1 : Int32))), (0, .ref (ad 2))]) rfl ?_
          refine g_goto (tgt := 2) B dX6_measure_66 (by decide) ?_
          exact g_lv [1, 0] rfl (ih _ _)
  have hL71 : ∀ (f : Nat) (v1 : Int32) (M : Mem), GG p l e (headSpec wsX6_measure rm_X6_measure).room s m args below meth c D ad (shX ad cA) 37 4 (MQ below (QV D ad (shX ad cA) 37 s.heap.size R0) args s 0 0 (AX ad 37 s.heap.size)) R0 M 71 [(0, .ref (ad 2)), (1, .int v1)] [] (dX6_measure_71l    f v1 M) := by
    intro f
    induction f with
    | zero =>
      intro v1 M
      exact g_none
    | succ f ih =>
      intro v1 M
      rw [dX6_measure_71l]
      refine g_iload_n B dX6_measure_71 1 rfl rfl ?_
      refine g_aload_n B dX6_measure_72 0 rfl rfl ?_
      refine g_get (v := .int (M 2 3)) B shX_st (by decide) in_X6_measure_X6 rfl 3 (by decide) (List.mem_of_getElem? (i := 1) rfl) rfl rfl dX6_measure_73 ?_
      refine g_icmp_ge (tgt := 90) B dX6_measure_76 (by decide) (fun c9 => ?_) (fun c9 => ?_)
      · exact g_vret B hr hk dX6_measure_90
      · refine g_aload_n B dX6_measure_79 0 rfl rfl ?_
        refine g_iload_n B dX6_measure_80 1 rfl rfl ?_
        refine g_callVVe (q := (RX6, TX6, 4)) (As := [.int v1]) (st := []) B (k_X6_shortenBy l D cA ad B.2.2.2.2.2.2.1 v1 M) (cwV 1 B.2.2.2.2.1 gX6_measure_X6_shortenBy rfl rfl rfl (by decide +kernel) ⟨Nat.le_of_ble_eq_true rfl, Nat.le_of_ble_eq_true rfl⟩) shX_st (by decide) rfl rfl rfl (Nat.le_of_ble_eq_true rfl) dX6_measure_81 (fun M10 _ => ?_)
        refine g_iinc B dX6_measure_84 1 (v := v1 + (1 : Int32)) rfl rfl (by decide) (lv1 := [(1, .int (v1 + (1 : Int32))), (0, .ref (ad 2))]) rfl ?_
        refine g_goto (tgt := 71) B dX6_measure_87 (by decide) ?_
        exact g_lv [1, 0] rfl (ih _ _)
  unfold d_X6_measure
  show GG p l e (headSpec wsX6_measure rm_X6_measure).room s m args below meth c D ad (shX ad cA) 37 4 (MQ below (QV D ad (shX ad cA) 37 s.heap.size R0) args s 0 0 (AX ad 37 s.heap.size)) R0 M 0 [(0, .ref (ad 2))] [] _
  refine g_iconst (v := 0) B dX6_measure_0 (by decide) ?_
  refine g_istore_n B dX6_measure_1 rfl (by decide) (lv1 := [(1, .int (0 : Int32)), (0, .ref (ad 2))]) rfl ?_
  refine g_lv [1, 0] rfl (hL2 _  ?_ FU _ _)
  · intro M8
    refine g_iconst (v := 0) B dX6_measure_69 (by decide) ?_
    refine g_istore_n B dX6_measure_70 rfl (by decide) (lv1 := [(1, .int (0 : Int32)), (0, .ref (ad 2))]) rfl ?_
    refine g_lv [1, 0] rfl (hL71    FU _ _)

abbrev rm_X0_add : Room := { frames := 0, cells := 0, slots := 0, locals := 0 }
set_option maxHeartbeats 4000000 in
set_option maxRecDepth 100000 in
theorem k_X0_add (l : Launch) (D : va_G) (cA : Nat → ClassId) (ad : Nat → Nat) (had : adOK ad 37) (o0 : Nat) (ho0 : isCo o0) (v1 : Int32) (v2 : Int32) (v3 : Int32) (v4 : Int32) (M : Mem) : CV l yX0_add wsX0_add rm_X0_add D cA ad (shX ad cA) 37 [.ref (ad o0), .int v1, .int v2, .int v3, .int v4] M (d_X0_add o0 v1 v2 v3 v4 M) := by
  refine CV_of (own := RX0) (cc := cX0_add) (maxL := 6) had (by decide) rfl rfl (Nat.le_of_ble_eq_true rfl) ?_
  intro p e s m args below meth c R0 B hr hk
  unfold d_X0_add
  show GG p l e (headSpec wsX0_add rm_X0_add).room s m args below meth c D ad (shX ad cA) 37 6 (MQ below (QV D ad (shX ad cA) 37 s.heap.size R0) args s 0 0 (AX ad 37 s.heap.size)) R0 M 0 [(0, .ref (ad o0)), (1, .int v1), (2, .int v2), (3, .int v3), (4, .int v4)] [] _
  refine g_aload_n B dX0_add_0 0 rfl rfl ?_
  refine g_get (v := .int (M o0 1)) B (shX_co ho0) (co_lt ho0) in_X0_add_X0 rfl 1 (by decide) (List.mem_of_getElem? (i := 1) rfl) rfl rfl dX0_add_1 ?_
  refine g_bipush (v := 6) B dX0_add_4 (by decide) ?_
  refine g_icmp_lt (tgt := 10) B dX0_add_6 (by decide) (fun c1 => ?_) (fun c1 => ?_)
  · refine g_aload_n B dX0_add_10 0 rfl rfl ?_
    refine g_get (v := .ref (ad (o0 + 1))) B (shX_co ho0) (co_lt ho0) in_X0_add_X0 rfl 0 (by decide) (List.mem_of_getElem? (i := 2) rfl) rfl rfl dX0_add_11 ?_
    refine g_aload_n B dX0_add_14 0 rfl rfl ?_
    refine g_get (v := .int (M o0 1)) B (shX_co ho0) (co_lt ho0) in_X0_add_X0 rfl 1 (by decide) (List.mem_of_getElem? (i := 1) rfl) rfl rfl dX0_add_15 ?_
    refine g_aald (g := (ft o0)) B 1 rfl (shX_fts ho0) (fts_lt ho0) dX0_add_18 (fun b2 => ?_)
    have f3 := (ft_ok ho0 b2)
    refine g_astore B dX0_add_19 (by decide) (lv1 := [(5, .ref (ad ((ft o0) (M o0 1).toNatClampNeg))), (0, .ref (ad o0)), (1, .int v1), (2, .int v2), (3, .int v3), (4, .int v4)]) rfl ?_
    refine g_aload B dX0_add_21 0 rfl ?_
    refine g_iload_n B dX0_add_23 2 rfl rfl ?_
    refine g_putN (ty := .int) B (shX_ft f3) (ft_lt f3) in_X0_add_X2 tyX2_ok nmX2 rfl 0 (by decide) 2 rfl rfl rfl (by decide +kernel) rfl rfl (fun _ => Nat.le_of_ble_eq_true rfl) (fun _ _ => rfl) dX0_add_24 (g_lmM (fun M4 => ?_))
    refine g_aload B dX0_add_27 0 rfl ?_
    refine g_iload_n B dX0_add_29 3 rfl rfl ?_
    refine g_putN (ty := .int) B (shX_ft f3) (ft_lt f3) in_X0_add_X2 tyX2_ok nmX2 rfl 1 (by decide) 4 rfl rfl rfl (by decide +kernel) rfl rfl (fun _ => Nat.le_of_ble_eq_true rfl) (fun _ _ => rfl) dX0_add_30 (g_lmM (fun M5 => ?_))
    refine g_aload B dX0_add_33 0 rfl ?_
    refine g_iload_n B dX0_add_35 4 rfl rfl ?_
    refine g_putN (ty := .int) B (shX_ft f3) (ft_lt f3) in_X0_add_X2 tyX2_ok nmX2 rfl 2 (by decide) 6 rfl rfl rfl (by decide +kernel) rfl rfl (fun _ => Nat.le_of_ble_eq_true rfl) (fun _ _ => rfl) dX0_add_36 (g_lmM (fun M6 => ?_))
    refine g_aload B dX0_add_39 0 rfl ?_
    refine g_iload B dX0_add_41 5 rfl ?_
    refine g_putN (ty := .int) B (shX_ft f3) (ft_lt f3) in_X0_add_X2 tyX2_ok nmX2 rfl 3 (by decide) 9 rfl rfl rfl (by decide +kernel) rfl rfl (fun _ => Nat.le_of_ble_eq_true rfl) (fun _ _ => rfl) dX0_add_43 (g_lmM (fun M7 => ?_))
    refine g_aload B dX0_add_46 0 rfl ?_
    refine g_iconst (v := 0) B dX0_add_48 (by decide) ?_
    refine g_putN (ty := .int) B (shX_ft f3) (ft_lt f3) in_X0_add_X2 tyX2_ok nmX2 rfl 4 (by decide) 11 rfl rfl rfl (by decide +kernel) rfl rfl (fun _ => Nat.le_of_ble_eq_true rfl) (fun _ _ => rfl) dX0_add_49 (g_lmM (fun M8 => ?_))
    refine g_aload B dX0_add_52 0 rfl ?_
    refine g_iconst (v := 0) B dX0_add_54 (by decide) ?_
    refine g_putN (ty := .boolean) B (shX_ft f3) (ft_lt f3) in_X0_add_X2 tyX2_ok nmX2 rfl 5 (by decide) 14 rfl rfl rfl (by decide +kernel) rfl rfl (fun _ => Nat.le_of_ble_eq_true rfl) (fun _ _ => rfl) dX0_add_55 (g_lmM (fun M9 => ?_))
    refine g_aload_n B dX0_add_58 1 rfl rfl ?_
    refine g_dup B dX0_add_59 rfl ?_
    refine g_get (v := .int (M9 o0 1)) B (shX_co ho0) (co_lt ho0) in_X0_add_X0 rfl 1 (by decide) (List.mem_of_getElem? (i := 1) rfl) rfl rfl dX0_add_60 ?_
    refine g_iconst (v := 1) B dX0_add_63 (by decide) ?_
    refine g_iadd B dX0_add_64 ?_
    refine g_put (ty := .int) B (shX_co ho0) (co_lt ho0) in_X0_add_X0 tyX0_ok nmX0 rfl 1 (by decide) (List.mem_of_getElem? (i := 1) rfl) rfl rfl (by decide +kernel) rfl rfl (fun _ => Nat.le_of_ble_eq_true rfl) (fun _ _ => rfl) dX0_add_65 (g_lmM (fun M10 => ?_))
    exact g_vret B hr hk dX0_add_68
  · exact g_vret B hr hk dX0_add_9

abbrev rm_X7_take : Room := { frames := 3, cells := 0, slots := 0, locals := 66 }
set_option maxHeartbeats 4000000 in
set_option maxRecDepth 100000 in
theorem k_X7_take (l : Launch) (D : va_G) (cA : Nat → ClassId) (ad : Nat → Nat) (had : adOK ad 37) (o0 : Nat) (ho0 : isSh o0) (v1 : Int32) (v2 : Int32) (o4 : Nat) (ho4 : isCo o4) (M : Mem) : CV l yX7_take wsX7_take rm_X7_take D cA ad (shX ad cA) 37 [.ref (ad o0), .int v1, .int v2, .ref (ad 2), .ref (ad o4)] M (d_X7_take o0 v1 v2 o4 M) := by
  refine CV_of (own := RX7) (cc := cX7_take) (maxL := 8) had (by decide) rfl rfl (Nat.le_of_ble_eq_true rfl) ?_
  intro p e s m args below meth c R0 B hr hk
  have hL34 : ∀ (o0 : Nat) (v1 : Int32) (v2 : Int32) (o4 : Nat) (v6 : Int32)  (k34_66 : Int32 → Mem → Option Mem) (ho0 : isSh o0) (ho4 : isCo o4) (hk34_66 : ∀ (w5 : Int32) (M1 : Mem), GG p l e (headSpec wsX7_take rm_X7_take).room s m args below meth c D ad (shX ad cA) 37 8 (MQ below (QV D ad (shX ad cA) 37 s.heap.size R0) args s 0 0 (AX ad 37 s.heap.size)) R0 M1 66 [(0, .ref (ad o0)), (1, .int v1), (2, .int v2), (3, .ref (ad 2)), (4, .ref (ad o4)), (5, .int w5), (6, .int v6)] [] (k34_66 w5 M1)), ∀ (f : Nat) (v5 : Int32) (v7 : Int32) (M : Mem), GG p l e (headSpec wsX7_take rm_X7_take).room s m args below meth c D ad (shX ad cA) 37 8 (MQ below (QV D ad (shX ad cA) 37 s.heap.size R0) args s 0 0 (AX ad 37 s.heap.size)) R0 M 34 [(0, .ref (ad o0)), (1, .int v1), (2, .int v2), (3, .ref (ad 2)), (4, .ref (ad o4)), (5, .int v5), (6, .int v6), (7, .int v7)] [] (dX7_take_34l o0 v1 v2 o4 v6  k34_66 f v5 v7 M) := by
    intro o0 v1 v2 o4 v6 k34_66 ho0 ho4 hk34_66
    intro f
    induction f with
    | zero =>
      intro v5 v7 M
      exact g_none
    | succ f ih =>
      intro v5 v7 M
      rw [dX7_take_34l]
      refine g_iload B dX7_take_34 7 rfl ?_
      refine g_aload_n B dX7_take_36 3 rfl rfl ?_
      refine g_getN (v := .int (M 2 3)) B shX_st (by decide) in_X7_take_X6 rfl 3 (by decide) 0 rfl rfl rfl dX7_take_37 ?_
      refine g_icmp_ge (tgt := 66) B dX7_take_40 (by decide) (fun c6 => ?_) (fun c6 => ?_)
      · exact g_lv [0, 1, 2, 3, 4, 5, 6] rfl (hk34_66 _ _)
      · refine g_aload_n B dX7_take_43 3 rfl rfl ?_
        refine g_iload B dX7_take_44 6 rfl ?_
        refine g_iload B dX7_take_46 7 rfl ?_
        refine g_aload_n B dX7_take_48 0 rfl rfl ?_
        refine g_iload B dX7_take_49 5 rfl ?_
        refine g_callSIp (As := [.ref (ad o0), .int v5]) (st := [.int v7, .int v6, .ref (ad 2)]) B (k_X7_digit l D cA ad B.2.2.2.2.2.2.1 o0 ho0 v5 M) (va_cwS 2 B.2.2.2.2.1 gX7_take_X7_digit rfl rfl rfl (by decide +kernel) ⟨Nat.le_of_ble_eq_true rfl, Nat.le_of_ble_eq_true rfl⟩) rfl rfl (Nat.le_of_ble_eq_true rfl) dX7_take_51 (fun r7 _ => ?_)
        refine g_callVVe (q := (RX6, TX6, 4)) (As := [.int v6, .int v7, .int r7]) (st := []) B (k_X6_lay l D cA ad B.2.2.2.2.2.2.1 v6 v7 r7 M) (cwV 3 B.2.2.2.2.1 gX7_take_X6_lay rfl rfl rfl (by decide +kernel) ⟨Nat.le_of_ble_eq_true rfl, Nat.le_of_ble_eq_true rfl⟩) shX_st (by decide) rfl rfl rfl (Nat.le_of_ble_eq_true rfl) dX7_take_54 (fun M8 _ => ?_)
        refine g_iinc B dX7_take_57 5 (v := v5 + (1 : Int32)) rfl rfl (by decide) (lv1 := [(5, .int (v5 + (1 : Int32))), (0, .ref (ad o0)), (1, .int v1), (2, .int v2), (3, .ref (ad 2)), (4, .ref (ad o4)), (6, .int v6), (7, .int v7)]) rfl ?_
        refine g_iinc B dX7_take_60 7 (v := v7 + (1 : Int32)) rfl rfl (by decide) (lv1 := [(7, .int (v7 + (1 : Int32))), (5, .int (v5 + (1 : Int32))), (0, .ref (ad o0)), (1, .int v1), (2, .int v2), (3, .ref (ad 2)), (4, .ref (ad o4)), (6, .int v6)]) rfl ?_
        refine g_goto (tgt := 34) B dX7_take_63 (by decide) ?_
        exact g_lv [2, 3, 4, 5, 6, 1, 7, 0] rfl (ih _ _ _)
  have hL19 : ∀ (o0 : Nat) (v1 : Int32) (v2 : Int32) (o4 : Nat)  (k19_72 : Int32 → Mem → Option Mem) (ho0 : isSh o0) (ho4 : isCo o4) (hk19_72 : ∀ (w5 : Int32) (M1 : Mem), GG p l e (headSpec wsX7_take rm_X7_take).room s m args below meth c D ad (shX ad cA) 37 8 (MQ below (QV D ad (shX ad cA) 37 s.heap.size R0) args s 0 0 (AX ad 37 s.heap.size)) R0 M1 72 [(0, .ref (ad o0)), (1, .int v1), (2, .int v2), (3, .ref (ad 2)), (4, .ref (ad o4)), (5, .int w5)] [] (k19_72 w5 M1)), ∀ (f : Nat) (v5 : Int32) (v6 : Int32) (M : Mem), GG p l e (headSpec wsX7_take rm_X7_take).room s m args below meth c D ad (shX ad cA) 37 8 (MQ below (QV D ad (shX ad cA) 37 s.heap.size R0) args s 0 0 (AX ad 37 s.heap.size)) R0 M 19 [(0, .ref (ad o0)), (1, .int v1), (2, .int v2), (3, .ref (ad 2)), (4, .ref (ad o4)), (5, .int v5), (6, .int v6)] [] (dX7_take_19l o0 v1 v2 o4  k19_72 f v5 v6 M) := by
    intro o0 v1 v2 o4 k19_72 ho0 ho4 hk19_72
    intro f
    induction f with
    | zero =>
      intro v5 v6 M
      exact g_none
    | succ f ih =>
      intro v5 v6 M
      rw [dX7_take_19l]
      refine g_iload B dX7_take_19 6 rfl ?_
      refine g_aload_n B dX7_take_21 3 rfl rfl ?_
      refine g_getN (v := .int (M 2 3)) B shX_st (by decide) in_X7_take_X6 rfl 3 (by decide) 0 rfl rfl rfl dX7_take_22 ?_
      refine g_icmp_ge (tgt := 72) B dX7_take_25 (by decide) (fun c4 => ?_) (fun c4 => ?_)
      · exact g_lv [0, 1, 2, 3, 4, 5] rfl (hk19_72 _ _)
      · refine g_iload B dX7_take_28 6 rfl ?_
        refine g_iconst (v := 1) B dX7_take_30 (by decide) ?_
        refine g_iadd B dX7_take_31 ?_
        refine g_lmI (fun x5 => ?_)
        refine g_istore B dX7_take_32 (by decide) (lv1 := [(7, .int x5), (0, .ref (ad o0)), (1, .int v1), (2, .int v2), (3, .ref (ad 2)), (4, .ref (ad o4)), (5, .int v5), (6, .int v6)]) rfl ?_
        refine g_lv [1, 2, 3, 4, 5, 6, 7, 0] rfl (hL34 _ _ _ _ _ _ ho0 ho4 ?_ FU _ _ _)
        · intro w9 M10
          refine g_iinc B dX7_take_66 6 (v := v6 + (1 : Int32)) rfl rfl (by decide) (lv1 := [(6, .int (v6 + (1 : Int32))), (0, .ref (ad o0)), (1, .int v1), (2, .int v2), (3, .ref (ad 2)), (4, .ref (ad o4)), (5, .int w9)]) rfl ?_
          refine g_goto (tgt := 19) B dX7_take_69 (by decide) ?_
          exact g_lv [1, 2, 3, 4, 5, 6, 0] rfl (ih _ _ _)
  have hL82 : ∀ (o0 : Nat) (v1 : Int32) (v2 : Int32) (o4 : Nat)   (ho0 : isSh o0) (ho4 : isCo o4) , ∀ (f : Nat) (v5 : Int32) (M : Mem), GG p l e (headSpec wsX7_take rm_X7_take).room s m args below meth c D ad (shX ad cA) 37 8 (MQ below (QV D ad (shX ad cA) 37 s.heap.size R0) args s 0 0 (AX ad 37 s.heap.size)) R0 M 82 [(0, .ref (ad o0)), (1, .int v1), (2, .int v2), (4, .ref (ad o4)), (5, .int v5)] [] (dX7_take_82l o0 v1 v2 o4   f v5 M) := by
    intro o0 v1 v2 o4 ho0 ho4
    intro f
    induction f with
    | zero =>
      intro v5 M
      exact g_none
    | succ f ih =>
      intro v5 M
      rw [dX7_take_82l]
      refine g_iload B dX7_take_82 4 rfl ?_
      refine g_iconst (v := 5) B dX7_take_84 (by decide) ?_
      refine g_iadd B dX7_take_85 ?_
      refine g_iload_n B dX7_take_86 1 rfl rfl ?_
      refine g_iload_n B dX7_take_87 2 rfl rfl ?_
      refine g_iadd B dX7_take_88 ?_
      refine g_icmp_gt (tgt := 142) B dX7_take_89 (by decide) (fun c15 => ?_) (fun c15 => ?_)
      · exact g_vret B hr hk dX7_take_142
      · refine g_aload_n B dX7_take_92 0 rfl rfl ?_
        refine g_iload B dX7_take_93 4 rfl ?_
        refine g_iconst (v := 1) B dX7_take_95 (by decide) ?_
        refine g_iadd B dX7_take_96 ?_
        refine g_callVIp (q := (RX5, TX5, 3)) (As := [.int (v5 + (1 : Int32))]) (st := []) B (k_X5_at l D cA ad B.2.2.2.2.2.2.1 o0 ho0 (v5 + (1 : Int32)) M) (cwV 1 B.2.2.2.2.1 gX7_take_X5_at rfl rfl rfl (by decide +kernel) ⟨Nat.le_of_ble_eq_true rfl, Nat.le_of_ble_eq_true rfl⟩) (shX_sh ho0) (sh_lt ho0) rfl rfl rfl (Nat.le_of_ble_eq_true rfl) dX7_take_97 (fun r16 _ => ?_)
        refine g_callSIp (As := [.int r16]) (st := []) B (k_X7_kindOf l D cA ad B.2.2.2.2.2.2.1 r16 M) (va_cwS 1 B.2.2.2.2.1 gX7_take_X7_kindOf rfl rfl rfl (by decide +kernel) ⟨Nat.le_of_ble_eq_true rfl, Nat.le_of_ble_eq_true rfl⟩) rfl rfl (Nat.le_of_ble_eq_true rfl) dX7_take_100 (fun r17 _ => ?_)
        refine g_istore B dX7_take_103 (by decide) (lv1 := [(6, .int r17), (0, .ref (ad o0)), (1, .int v1), (2, .int v2), (4, .ref (ad o4)), (5, .int v5)]) rfl ?_
        refine g_aload B dX7_take_105 4 rfl ?_
        refine g_iload B dX7_take_107 0 rfl ?_
        refine g_aload_n B dX7_take_109 1 rfl rfl ?_
        refine g_iload B dX7_take_110 5 rfl ?_
        refine g_iconst (v := 2) B dX7_take_112 (by decide) ?_
        refine g_iadd B dX7_take_113 ?_
        refine g_callSIp (As := [.ref (ad o0), .int (v5 + (2 : Int32))]) (st := [.int r17, .ref (ad o4)]) B (k_X7_digit l D cA ad B.2.2.2.2.2.2.1 o0 ho0 (v5 + (2 : Int32)) M) (va_cwS 2 B.2.2.2.2.1 gX7_take_X7_digit rfl rfl rfl (by decide +kernel) ⟨Nat.le_of_ble_eq_true rfl, Nat.le_of_ble_eq_true rfl⟩) rfl rfl (Nat.le_of_ble_eq_true rfl) dX7_take_114 (fun r18 _ => ?_)
        refine g_aload_n B dX7_take_117 1 rfl rfl ?_
        refine g_iload B dX7_take_118 5 rfl ?_
        refine g_iconst (v := 3) B dX7_take_120 (by decide) ?_
        refine g_iadd B dX7_take_121 ?_
        refine g_callSIp (As := [.ref (ad o0), .int (v5 + (3 : Int32))]) (st := [.int r18, .int r17, .ref (ad o4)]) B (k_X7_digit l D cA ad B.2.2.2.2.2.2.1 o0 ho0 (v5 + (3 : Int32)) M) (va_cwS 2 B.2.2.2.2.1 gX7_take_X7_digit rfl rfl rfl (by decide +kernel) ⟨Nat.le_of_ble_eq_true rfl, Nat.le_of_ble_eq_true rfl⟩) rfl rfl (Nat.le_of_ble_eq_true rfl) dX7_take_122 (fun r19 _ => ?_)
        refine g_aload_n B dX7_take_125 1 rfl rfl ?_
        refine g_iload B dX7_take_126 5 rfl ?_
        refine g_iconst (v := 4) B dX7_take_128 (by decide) ?_
        refine g_iadd B dX7_take_129 ?_
        refine g_callSIp (As := [.ref (ad o0), .int (v5 + (4 : Int32))]) (st := [.int r19, .int r18, .int r17, .ref (ad o4)]) B (k_X7_digit l D cA ad B.2.2.2.2.2.2.1 o0 ho0 (v5 + (4 : Int32)) M) (va_cwS 2 B.2.2.2.2.1 gX7_take_X7_digit rfl rfl rfl (by decide +kernel) ⟨Nat.le_of_ble_eq_true rfl, Nat.le_of_ble_eq_true rfl⟩) rfl rfl (Nat.le_of_ble_eq_true rfl) dX7_take_130 (fun r20 _ => ?_)
        refine g_callVVe (q := (RX0, TX0, 2)) (As := [.int r17, .int r18, .int r19, .int r20]) (st := []) B (k_X0_add l D cA ad B.2.2.2.2.2.2.1 o4 ho4 r17 r18 r19 r20 M) (cwV 4 B.2.2.2.2.1 gX7_take_X0_add rfl rfl rfl (by decide +kernel) ⟨Nat.le_of_ble_eq_true rfl, Nat.le_of_ble_eq_true rfl⟩) (shX_co ho4) (co_lt ho4) rfl rfl rfl (Nat.le_of_ble_eq_true rfl) dX7_take_133 (fun M21 _ => ?_)
        refine g_iinc B dX7_take_136 5 (v := v5 + (5 : Int32)) rfl rfl (by decide) (lv1 := [(5, .int (v5 + (5 : Int32))), (6, .int r17), (0, .ref (ad o0)), (1, .int v1), (2, .int v2), (4, .ref (ad o4))]) rfl ?_
        refine g_goto (tgt := 82) B dX7_take_139 (by decide) ?_
        exact g_lv [2, 3, 4, 5, 0] rfl (ih _ _)
  unfold d_X7_take
  show GG p l e (headSpec wsX7_take rm_X7_take).room s m args below meth c D ad (shX ad cA) 37 8 (MQ below (QV D ad (shX ad cA) 37 s.heap.size R0) args s 0 0 (AX ad 37 s.heap.size)) R0 M 0 [(0, .ref (ad o0)), (1, .int v1), (2, .int v2), (3, .ref (ad 2)), (4, .ref (ad o4))] [] _
  refine g_aload_n B dX7_take_0 3 rfl rfl ?_
  refine g_aload_n B dX7_take_1 0 rfl rfl ?_
  refine g_iload_n B dX7_take_2 1 rfl rfl ?_
  refine g_iconst (v := 1) B dX7_take_3 (by decide) ?_
  refine g_iadd B dX7_take_4 ?_
  refine g_callSIp (As := [.ref (ad o0), .int (v1 + (1 : Int32))]) (st := [.ref (ad 2)]) B (k_X7_digit l D cA ad B.2.2.2.2.2.2.1 o0 ho0 (v1 + (1 : Int32)) M) (va_cwS 2 B.2.2.2.2.1 gX7_take_X7_digit rfl rfl rfl (by decide +kernel) ⟨Nat.le_of_ble_eq_true rfl, Nat.le_of_ble_eq_true rfl⟩) rfl rfl (Nat.le_of_ble_eq_true rfl) dX7_take_5 (fun r1 _ => ?_)
  refine g_callVVe (q := (RX6, TX6, 4)) (As := [.int r1]) (st := []) B (k_X6_renew l D cA ad B.2.2.2.2.2.2.1 r1 M) (cwV 1 B.2.2.2.2.1 gX7_take_X6_renew rfl rfl rfl (by decide +kernel) ⟨Nat.le_of_ble_eq_true rfl, Nat.le_of_ble_eq_true rfl⟩) shX_st (by decide) rfl rfl rfl (Nat.le_of_ble_eq_true rfl) dX7_take_8 (fun M2 _ => ?_)
  refine g_iload_n B dX7_take_11 1 rfl rfl ?_
  refine g_iconst (v := 2) B dX7_take_12 (by decide) ?_
  refine g_iadd B dX7_take_13 ?_
  refine g_lmI (fun x3 => ?_)
  refine g_istore B dX7_take_14 (by decide) (lv1 := [(5, .int x3), (0, .ref (ad o0)), (1, .int v1), (2, .int v2), (3, .ref (ad 2)), (4, .ref (ad o4))]) rfl ?_
  refine g_iconst (v := 0) B dX7_take_16 (by decide) ?_
  refine g_istore B dX7_take_17 (by decide) (lv1 := [(6, .int (0 : Int32)), (5, .int x3), (0, .ref (ad o0)), (1, .int v1), (2, .int v2), (3, .ref (ad 2)), (4, .ref (ad o4))]) rfl ?_
  refine g_lv [2, 3, 4, 5, 6, 1, 0] rfl (hL19 _ _ _ _ _ ho0 ho4 ?_ FU _ _ _)
  · intro w11 M12
    refine g_aload_n B dX7_take_72 3 rfl rfl ?_
    refine g_callVVe (q := (RX6, TX6, 4)) (As := []) (st := []) B (k_X6_measure l D cA ad B.2.2.2.2.2.2.1  M12) (cwV 0 B.2.2.2.2.1 gX7_take_X6_measure rfl rfl rfl (by decide +kernel) ⟨Nat.le_of_ble_eq_true rfl, Nat.le_of_ble_eq_true rfl⟩) shX_st (by decide) rfl rfl rfl (Nat.le_of_ble_eq_true rfl) dX7_take_73 (fun M13 _ => ?_)
    refine g_aload B dX7_take_76 4 rfl ?_
    refine g_iconst (v := 0) B dX7_take_78 (by decide) ?_
    refine g_putN (ty := .int) B (shX_co ho4) (co_lt ho4) in_X7_take_X0 tyX0_ok nmX0 rfl 1 (by decide) 22 rfl rfl rfl (by decide +kernel) rfl rfl (fun _ => Nat.le_of_ble_eq_true rfl) (fun _ _ => rfl) dX7_take_79 (g_lmM (fun M14 => ?_))
    refine g_lv [0, 1, 2, 4, 5] rfl (hL82 _ _ _ _ ho0 ho4  FU _ _)

abbrev rm_X8_town : Room := { frames := 4, cells := 0, slots := 0, locals := 93 }
set_option maxHeartbeats 4000000 in
set_option maxRecDepth 100000 in
theorem k_X8_town (l : Launch) (D : va_G) (cA : Nat → ClassId) (ad : Nat → Nat) (had : adOK ad 37) (v1 : Int32) (v2 : Int32) (v3 : Int32) (v4 : Int32) (M : Mem) : CI l yX8_town wsX8_town rm_X8_town D cA ad (shX ad cA) 37 [.ref (ad 0), .int v1, .int v2, .int v3, .int v4] M (d_X8_town v1 v2 v3 v4 M) := by
  refine CI_of (own := RX8) (cc := cX8_town) (maxL := 8) (rt := .int) had (by decide) rfl rfl (Nat.le_of_ble_eq_true rfl) ?_
  intro p e s m args below meth c R0 B hr hk
  unfold d_X8_town
  show GG p l e (headSpec wsX8_town rm_X8_town).room s m args below meth c D ad (shX ad cA) 37 8 (MQ below (QI D ad (shX ad cA) 37 s.heap.size R0) args s 0 0 (AX ad 37 s.heap.size)) R0 M 0 [(0, .ref (ad 0)), (1, .int v1), (2, .int v2), (3, .int v3), (4, .int v4)] [] _
  refine g_aload_n B dX8_town_0 0 rfl rfl ?_
  refine g_iconst (v := 0) B dX8_town_1 (by decide) ?_
  refine g_put (ty := .int) B shX_pw (by decide) in_X8_town_X8 tyX8_ok nmX8 rfl 8 (by decide) (List.mem_of_getElem? (i := 1) rfl) rfl rfl (by decide +kernel) rfl rfl (fun _ => Nat.le_of_ble_eq_true rfl) (fun _ _ => rfl) dX8_town_2 (g_lmM (fun M1 => ?_))
  refine g_iload_n B dX8_town_5 1 rfl rfl ?_
  refine g_callSIp (As := [.int v1]) (st := []) B (k_X8_isSheet l D cA ad B.2.2.2.2.2.2.1 v1 M1) (va_cwS 1 B.2.2.2.2.1 gX8_town_X8_isSheet rfl rfl rfl (by decide +kernel) ⟨Nat.le_of_ble_eq_true rfl, Nat.le_of_ble_eq_true rfl⟩) rfl rfl (Nat.le_of_ble_eq_true rfl) dX8_town_6 (fun r2 _ => ?_)
  refine g_if_ne (tgt := 14) B dX8_town_9 (by decide) (fun c3 => ?_) (fun c3 => ?_)
  · refine g_iconst (v := -1) B dX8_town_12 (by decide) ?_
    exact g_iret B hr hk dX8_town_13
  · refine g_iload_n B dX8_town_14 2 rfl rfl ?_
    refine g_callSIp (As := [.int v2]) (st := []) B (k_X8_isLane l D cA ad B.2.2.2.2.2.2.1 v2 M1) (va_cwS 1 B.2.2.2.2.1 gX8_town_X8_isLane rfl rfl rfl (by decide +kernel) ⟨Nat.le_of_ble_eq_true rfl, Nat.le_of_ble_eq_true rfl⟩) rfl rfl (Nat.le_of_ble_eq_true rfl) dX8_town_15 (fun r4 _ => ?_)
    refine g_if_ne (tgt := 24) B dX8_town_18 (by decide) (fun c5 => ?_) (fun c5 => ?_)
    · refine g_bipush (v := -2) B dX8_town_21 (by decide) ?_
      exact g_iret B hr hk dX8_town_23
    · refine g_aload_n B dX8_town_24 0 rfl rfl ?_
      refine g_get (v := .ref (ad 1)) B shX_pw (by decide) in_X8_town_X8 rfl 0 (by decide) (List.mem_of_getElem? (i := 2) rfl) rfl rfl dX8_town_25 ?_
      refine g_iload_n B dX8_town_28 1 rfl rfl ?_
      refine g_aald (g := shd) B 2 rfl shX_shs (by decide) dX8_town_29 (fun b6 => ?_)
      have f7 := (shd_ok b6)
      refine g_astore B dX8_town_30 (by decide) (lv1 := [(5, .ref (ad (shd v1.toNatClampNeg))), (0, .ref (ad 0)), (1, .int v1), (2, .int v2), (3, .int v3), (4, .int v4)]) rfl ?_
      refine g_aload B dX8_town_32 0 rfl ?_
      refine g_iload_n B dX8_town_34 3 rfl rfl ?_
      refine g_iload_n B dX8_town_35 4 rfl rfl ?_
      refine g_iload B dX8_town_36 5 rfl ?_
      refine g_callVIp (q := (RX5, TX5, 3)) (As := [.int v2, .int v3, .int v4]) (st := []) B (k_X5_faultAsRow l D cA ad B.2.2.2.2.2.2.1 (shd v1.toNatClampNeg) f7 v2 v3 v4 M1) (cwV 3 B.2.2.2.2.1 gX8_town_X5_faultAsRow rfl rfl rfl (by decide +kernel) ⟨Nat.le_of_ble_eq_true rfl, Nat.le_of_ble_eq_true rfl⟩) (shX_sh f7) (sh_lt f7) rfl rfl rfl (Nat.le_of_ble_eq_true rfl) dX8_town_38 (fun r8 _ => ?_)
      refine g_istore B dX8_town_41 (by decide) (lv1 := [(6, .int r8), (5, .ref (ad (shd v1.toNatClampNeg))), (0, .ref (ad 0)), (1, .int v1), (2, .int v2), (3, .int v3), (4, .int v4)]) rfl ?_
      refine g_iload B dX8_town_43 0 rfl ?_
      refine g_if_eq (tgt := 55) B dX8_town_45 (by decide) (fun c9 => ?_) (fun c9 => ?_)
      · refine g_aload B dX8_town_55 1 rfl ?_
        refine g_iload_n B dX8_town_57 5 rfl rfl ?_
        refine g_iload B dX8_town_58 6 rfl ?_
        refine g_callSIp (As := [.ref (ad (shd v1.toNatClampNeg)), .int v3, .int v4]) (st := []) B (k_X7_firstFault l D cA ad B.2.2.2.2.2.2.1 (shd v1.toNatClampNeg) f7 v3 v4 M1) (va_cwS 3 B.2.2.2.2.1 gX8_town_X7_firstFault rfl rfl rfl (by decide +kernel) ⟨Nat.le_of_ble_eq_true rfl, Nat.le_of_ble_eq_true rfl⟩) rfl rfl (Nat.le_of_ble_eq_true rfl) dX8_town_60 (fun r10 _ => ?_)
        refine g_istore B dX8_town_63 (by decide) (lv1 := [(7, .int r10), (6, .int r8), (5, .ref (ad (shd v1.toNatClampNeg))), (0, .ref (ad 0)), (1, .int v1), (2, .int v2), (3, .int v3), (4, .int v4)]) rfl ?_
        refine g_iload B dX8_town_65 0 rfl ?_
        refine g_bipush (v := -9) B dX8_town_67 (by decide) ?_
        refine g_icmp_eq (tgt := 78) B dX8_town_69 (by decide) (fun c11 => ?_) (fun c11 => ?_)
        · refine g_aload B dX8_town_78 2 rfl ?_
          refine g_iload_n B dX8_town_80 6 rfl rfl ?_
          refine g_iload B dX8_town_81 7 rfl ?_
          refine g_aload_n B dX8_town_83 3 rfl rfl ?_
          refine g_get (v := .ref (ad 2)) B shX_pw (by decide) in_X8_town_X8 rfl 1 (by decide) (List.mem_of_getElem? (i := 3) rfl) rfl rfl dX8_town_84 ?_
          refine g_aload_n B dX8_town_87 3 rfl rfl ?_
          refine g_get (v := .ref (ad 6)) B shX_pw (by decide) in_X8_town_X8 rfl 2 (by decide) (List.mem_of_getElem? (i := 4) rfl) rfl rfl dX8_town_88 ?_
          refine g_callSVe (As := [.ref (ad (shd v1.toNatClampNeg)), .int v3, .int v4, .ref (ad 2), .ref (ad 6)]) (st := []) B (k_X7_take l D cA ad B.2.2.2.2.2.2.1 (shd v1.toNatClampNeg) f7 v3 v4 6 co6 M1) (va_cwS 5 B.2.2.2.2.1 gX8_town_X7_take rfl rfl rfl (by decide +kernel) ⟨Nat.le_of_ble_eq_true rfl, Nat.le_of_ble_eq_true rfl⟩) rfl rfl (Nat.le_of_ble_eq_true rfl) dX8_town_91 (fun M12 _ => ?_)
          refine g_aload_n B dX8_town_94 3 rfl rfl ?_
          refine g_get (v := .ref (ad 25)) B shX_pw (by decide) in_X8_town_X8 rfl 5 (by decide) (List.mem_of_getElem? (i := 5) rfl) rfl rfl dX8_town_95 ?_
          refine g_iconst (v := 0) B dX8_town_98 (by decide) ?_
          refine g_putN (ty := .int) B shX_re (by decide) in_X8_town_X3 tyX3_ok nmX3 rfl 3 (by decide) 23 rfl rfl rfl (by decide +kernel) rfl rfl (fun _ => Nat.le_of_ble_eq_true rfl) (fun _ _ => rfl) dX8_town_99 (g_lmM (fun M13 => ?_))
          refine g_aload_n B dX8_town_102 3 rfl rfl ?_
          refine g_iconst (v := 0) B dX8_town_103 (by decide) ?_
          refine g_put (ty := .int) B shX_pw (by decide) in_X8_town_X8 tyX8_ok nmX8 rfl 6 (by decide) (List.mem_of_getElem? (i := 6) rfl) rfl rfl (by decide +kernel) rfl rfl (fun _ => Nat.le_of_ble_eq_true rfl) (fun _ _ => rfl) dX8_town_104 (g_lmM (fun M14 => ?_))
          refine g_aload_n B dX8_town_107 3 rfl rfl ?_
          refine g_get (v := .ref (ad 6)) B shX_pw (by decide) in_X8_town_X8 rfl 2 (by decide) (List.mem_of_getElem? (i := 4) rfl) rfl rfl dX8_town_108 ?_
          refine g_getN (v := .int (M14 6 1)) B (shX_co co6) (co_lt co6) in_X8_town_X0 rfl 1 (by decide) 21 rfl rfl rfl dX8_town_111 ?_
          exact g_iret B hr hk dX8_town_114
        · refine g_bipush (v := -100) B dX8_town_72 (by decide) ?_
          refine g_iload B dX8_town_74 0 rfl ?_
          refine g_isub B dX8_town_76 ?_
          exact g_iret B hr hk dX8_town_77
      · refine g_aload_n B dX8_town_48 2 rfl rfl ?_
        refine g_iload B dX8_town_49 0 rfl ?_
        refine g_callVIe (q := (RX8, TX8, 9)) (As := [.int r8]) (st := []) B (k_X8_faulted l D cA ad B.2.2.2.2.2.2.1 r8 M1) (cwV 1 B.2.2.2.2.1 gX8_town_X8_faulted rfl rfl rfl (by decide +kernel) ⟨Nat.le_of_ble_eq_true rfl, Nat.le_of_ble_eq_true rfl⟩) shX_pw (by decide) rfl rfl rfl (Nat.le_of_ble_eq_true rfl) dX8_town_51 (fun r15 M16 _ => ?_)
        exact g_iret B hr hk dX8_town_54

abbrev rm_X0_has : Room := { frames := 0, cells := 0, slots := 0, locals := 0 }
set_option maxHeartbeats 4000000 in
set_option maxRecDepth 100000 in
theorem k_X0_has (l : Launch) (D : va_G) (cA : Nat → ClassId) (ad : Nat → Nat) (had : adOK ad 37) (o0 : Nat) (ho0 : isCo o0) (v1 : Int32) (M : Mem) : CI l yX0_has wsX0_has rm_X0_has D cA ad (shX ad cA) 37 [.ref (ad o0), .int v1] M (wM M (d_X0_has o0 v1 M)) := by
  refine CI_ofp (own := RX0) (cc := cX0_has) (maxL := 2) (rt := .boolean) had (by decide) rfl rfl (Nat.le_of_ble_eq_true rfl) ?_
  intro p e s m args below meth c R0 B hr hk
  unfold d_X0_has
  show GG p l e (headSpec wsX0_has rm_X0_has).room s m args below meth c D ad (shX ad cA) 37 2 (MQ below (QI D ad (shX ad cA) 37 s.heap.size (R0, M)) args s 0 0 (AX ad 37 s.heap.size)) R0 M 0 [(0, .ref (ad o0)), (1, .int v1)] [] _
  refine g_iload_n B dX0_has_0 1 rfl rfl ?_
  refine g_if_lt (tgt := 16) B dX0_has_1 (by decide) (fun c1 => ?_) (fun c1 => ?_)
  · refine g_iconst (v := 0) B dX0_has_16 (by decide) ?_
    exact g_zretp B hr hk rfl dX0_has_17
  · refine g_iload_n B dX0_has_4 1 rfl rfl ?_
    refine g_aload_n B dX0_has_5 0 rfl rfl ?_
    refine g_get (v := .int (M o0 1)) B (shX_co ho0) (co_lt ho0) in_X0_has_X0 rfl 1 (by decide) (List.mem_of_getElem? (i := 1) rfl) rfl rfl dX0_has_6 ?_
    refine g_icmp_ge (tgt := 16) B dX0_has_9 (by decide) (fun c2 => ?_) (fun c2 => ?_)
    · refine g_iconst (v := 0) B dX0_has_16 (by decide) ?_
      exact g_zretp B hr hk rfl dX0_has_17
    · refine g_iconst (v := 1) B dX0_has_12 (by decide) ?_
      refine g_goto (tgt := 17) B dX0_has_13 (by decide) ?_
      exact g_zretp B hr hk rfl dX0_has_17

abbrev rm_X8_paceOf : Room := { frames := 0, cells := 0, slots := 0, locals := 0 }
set_option maxHeartbeats 4000000 in
set_option maxRecDepth 100000 in
theorem k_X8_paceOf (l : Launch) (D : va_G) (cA : Nat → ClassId) (ad : Nat → Nat) (had : adOK ad 37) (v0 : Int32) (v1 : Int32) (M : Mem) : CI l yX8_paceOf wsX8_paceOf rm_X8_paceOf D cA ad (shX ad cA) 37 [.int v0, .int v1] M (wM M (d_X8_paceOf v0 v1 M)) := by
  refine CI_ofp (own := RX8) (cc := cX8_paceOf) (maxL := 2) (rt := .int) had (by decide) rfl rfl (Nat.le_of_ble_eq_true rfl) ?_
  intro p e s m args below meth c R0 B hr hk
  unfold d_X8_paceOf
  show GG p l e (headSpec wsX8_paceOf rm_X8_paceOf).room s m args below meth c D ad (shX ad cA) 37 2 (MQ below (QI D ad (shX ad cA) 37 s.heap.size (R0, M)) args s 0 0 (AX ad 37 s.heap.size)) R0 M 0 [(0, .int v0), (1, .int v1)] [] _
  refine g_iload_n B dX8_paceOf_0 0 rfl rfl ?_
  refine g_if (fun c1 => ?_) (fun c1 => ?_)
  · refine g_look (tgt := 28) B dX8_paceOf_1 (by decide) (by rw [c1] <;> rfl) (by decide) ?_
    refine g_iload_n B dX8_paceOf_28 1 rfl rfl ?_
    exact g_iretp B hr hk dX8_paceOf_29
  · refine g_if (fun c2 => ?_) (fun c2 => ?_)
    · refine g_look (tgt := 30) B dX8_paceOf_1 (by decide) (by rw [c2] <;> rfl) (by decide) ?_
      refine g_iload_n B dX8_paceOf_30 1 rfl rfl ?_
      refine g_iconst (v := 1) B dX8_paceOf_31 (by decide) ?_
      refine g_iadd B dX8_paceOf_32 ?_
      exact g_iretp B hr hk dX8_paceOf_33
    · refine g_look (tgt := 34) B dX8_paceOf_1 (by decide) (lk_no (v := 0) c1 (by decide) (lk_no (v := 1) c2 (by decide) rfl)) (by decide) ?_
      refine g_iload_n B dX8_paceOf_34 1 rfl rfl ?_
      refine g_iconst (v := 1) B dX8_paceOf_35 (by decide) ?_
      refine g_iadd B dX8_paceOf_36 ?_
      refine g_iconst (v := 2) B dX8_paceOf_37 (by decide) ?_
      refine g_idiv B dX8_paceOf_38 ?_
      exact g_iretp B hr hk dX8_paceOf_39

abbrev rm_X2_pace : Room := { frames := 1, cells := 0, slots := 0, locals := 21 }
set_option maxHeartbeats 4000000 in
set_option maxRecDepth 100000 in
theorem k_X2_pace (l : Launch) (D : va_G) (cA : Nat → ClassId) (ad : Nat → Nat) (had : adOK ad 37) (o0 : Nat) (ho0 : isFt o0) (M : Mem) : CI l yX2_pace wsX2_pace rm_X2_pace D cA ad (shX ad cA) 37 [.ref (ad o0)] M (wM M (d_X2_pace o0 M)) := by
  refine CI_ofp (own := RX2) (cc := cX2_pace) (maxL := 1) (rt := .int) had (by decide) rfl rfl (Nat.le_of_ble_eq_true rfl) ?_
  intro p e s m args below meth c R0 B hr hk
  unfold d_X2_pace
  show GG p l e (headSpec wsX2_pace rm_X2_pace).room s m args below meth c D ad (shX ad cA) 37 1 (MQ below (QI D ad (shX ad cA) 37 s.heap.size (R0, M)) args s 0 0 (AX ad 37 s.heap.size)) R0 M 0 [(0, .ref (ad o0))] [] _
  refine g_aload_n B dX2_pace_0 0 rfl rfl ?_
  refine g_get (v := .int (M o0 0)) B (shX_ft ho0) (ft_lt ho0) in_X2_pace_X2 rfl 0 (by decide) (List.mem_of_getElem? (i := 1) rfl) rfl rfl dX2_pace_1 ?_
  refine g_aload_n B dX2_pace_4 0 rfl rfl ?_
  refine g_get (v := .int (M o0 3)) B (shX_ft ho0) (ft_lt ho0) in_X2_pace_X2 rfl 3 (by decide) (List.mem_of_getElem? (i := 2) rfl) rfl rfl dX2_pace_5 ?_
  refine g_callSNIp (As := [.int (M o0 0), .int (M o0 3)]) (st := []) B (k_X8_paceOf l D cA ad B.2.2.2.2.2.2.1 (M o0 0) (M o0 3) M) ⟨va_cnB (host := "PromiseWalk") 2 B.2.2.2.2.1 gX2_pace_X8_paceOf_n31 rfl rfl rfl (B.2.2.2.2.2.2.2.m 6 rfl) (B.2.2.2.2.1 _ (List.mem_of_getElem? (i := 4) rfl)) (by decide +kernel) ⟨Nat.le_of_ble_eq_true rfl, Nat.le_of_ble_eq_true rfl⟩, B.2.2.2.2.1 _ (List.mem_of_getElem? (i := 3) rfl), trivial⟩ rfl rfl (Nat.le_of_ble_eq_true rfl) dX2_pace_8 (fun r1 _ => ?_)
  exact g_iretp B hr hk dX2_pace_11

abbrev rm_X6_distance : Room := { frames := 1, cells := 0, slots := 0, locals := 21 }
set_option maxHeartbeats 4000000 in
set_option maxRecDepth 100000 in
theorem k_X6_distance (l : Launch) (D : va_G) (cA : Nat → ClassId) (ad : Nat → Nat) (had : adOK ad 37) (v1 : Int32) (v2 : Int32) (M : Mem) : CI l yX6_distance wsX6_distance rm_X6_distance D cA ad (shX ad cA) 37 [.ref (ad 2), .int v1, .int v2] M (wM M (d_X6_distance v1 v2 M)) := by
  refine CI_ofp (own := RX6) (cc := cX6_distance) (maxL := 4) (rt := .int) had (by decide) rfl rfl (Nat.le_of_ble_eq_true rfl) ?_
  intro p e s m args below meth c R0 B hr hk
  unfold d_X6_distance
  show GG p l e (headSpec wsX6_distance rm_X6_distance).room s m args below meth c D ad (shX ad cA) 37 4 (MQ below (QI D ad (shX ad cA) 37 s.heap.size (R0, M)) args s 0 0 (AX ad 37 s.heap.size)) R0 M 0 [(0, .ref (ad 2)), (1, .int v1), (2, .int v2)] [] _
  refine g_aload_n B dX6_distance_0 0 rfl rfl ?_
  refine g_iload_n B dX6_distance_1 1 rfl rfl ?_
  refine g_callVIp (q := (RX6, TX6, 4)) (As := [.int v1]) (st := []) B (k_X6_has l D cA ad B.2.2.2.2.2.2.1 v1 M) (cwV 1 B.2.2.2.2.1 gX6_distance_X6_has rfl rfl rfl (by decide +kernel) ⟨Nat.le_of_ble_eq_true rfl, Nat.le_of_ble_eq_true rfl⟩) shX_st (by decide) rfl rfl rfl (Nat.le_of_ble_eq_true rfl) dX6_distance_2 (fun r1 _ => ?_)
  refine g_if_eq (tgt := 16) B dX6_distance_5 (by decide) (fun c2 => ?_) (fun c2 => ?_)
  · refine g_bipush (v := -9) B dX6_distance_16 (by decide) ?_
    exact g_iretp B hr hk dX6_distance_18
  · refine g_aload_n B dX6_distance_8 0 rfl rfl ?_
    refine g_iload_n B dX6_distance_9 2 rfl rfl ?_
    refine g_callVIp (q := (RX6, TX6, 4)) (As := [.int v2]) (st := []) B (k_X6_has l D cA ad B.2.2.2.2.2.2.1 v2 M) (cwV 1 B.2.2.2.2.1 gX6_distance_X6_has rfl rfl rfl (by decide +kernel) ⟨Nat.le_of_ble_eq_true rfl, Nat.le_of_ble_eq_true rfl⟩) shX_st (by decide) rfl rfl rfl (Nat.le_of_ble_eq_true rfl) dX6_distance_10 (fun r3 _ => ?_)
    refine g_if_ne (tgt := 19) B dX6_distance_13 (by decide) (fun c4 => ?_) (fun c4 => ?_)
    · refine g_bipush (v := -9) B dX6_distance_16 (by decide) ?_
      exact g_iretp B hr hk dX6_distance_18
    · refine g_aload_n B dX6_distance_19 0 rfl rfl ?_
      refine g_get (v := .ref (ad 4)) B shX_st (by decide) in_X6_distance_X6 rfl 1 (by decide) (List.mem_of_getElem? (i := 1) rfl) rfl rfl dX6_distance_20 ?_
      refine g_iload_n B dX6_distance_23 1 rfl rfl ?_
      refine g_bipush (v := 6) B dX6_distance_24 (by decide) ?_
      refine g_imul B dX6_distance_26 ?_
      refine g_iload_n B dX6_distance_27 2 rfl rfl ?_
      refine g_iadd B dX6_distance_28 ?_
      refine g_iald B shX_4 (by decide) dX6_distance_29 ?_
      refine g_lmI (fun x5 => ?_)
      refine g_istore_n B dX6_distance_30 rfl (by decide) (lv1 := [(3, .int x5), (0, .ref (ad 2)), (1, .int v1), (2, .int v2)]) rfl ?_
      refine g_iload_n B dX6_distance_31 0 rfl rfl ?_
      refine g_ldc (v := 1000000) B dX6_distance_32 (List.mem_of_getElem? (i := 2) rfl) ?_
      refine g_icmp_ge (tgt := 41) B dX6_distance_34 (by decide) (fun c6 => ?_) (fun c6 => ?_)
      · refine g_bipush (v := -9) B dX6_distance_41 (by decide) ?_
        exact g_iretp B hr hk dX6_distance_43
      · refine g_iload_n B dX6_distance_37 0 rfl rfl ?_
        refine g_goto (tgt := 43) B dX6_distance_38 (by decide) ?_
        exact g_iretp B hr hk dX6_distance_43

abbrev rm_X2_hasArrived : Room := { frames := 2, cells := 0, slots := 0, locals := 44 }
set_option maxHeartbeats 4000000 in
set_option maxRecDepth 100000 in
theorem k_X2_hasArrived (l : Launch) (D : va_G) (cA : Nat → ClassId) (ad : Nat → Nat) (had : adOK ad 37) (o0 : Nat) (ho0 : isFt o0) (M : Mem) : CI l yX2_hasArrived wsX2_hasArrived rm_X2_hasArrived D cA ad (shX ad cA) 37 [.ref (ad o0), .ref (ad 2)] M (wM M (d_X2_hasArrived o0 M)) := by
  refine CI_ofp (own := RX2) (cc := cX2_hasArrived) (maxL := 3) (rt := .boolean) had (by decide) rfl rfl (Nat.le_of_ble_eq_true rfl) ?_
  intro p e s m args below meth c R0 B hr hk
  unfold d_X2_hasArrived
  show GG p l e (headSpec wsX2_hasArrived rm_X2_hasArrived).room s m args below meth c D ad (shX ad cA) 37 3 (MQ below (QI D ad (shX ad cA) 37 s.heap.size (R0, M)) args s 0 0 (AX ad 37 s.heap.size)) R0 M 0 [(0, .ref (ad o0)), (1, .ref (ad 2))] [] _
  refine g_aload_n B dX2_hasArrived_0 1 rfl rfl ?_
  refine g_aload_n B dX2_hasArrived_1 0 rfl rfl ?_
  refine g_get (v := .int (M o0 1)) B (shX_ft ho0) (ft_lt ho0) in_X2_hasArrived_X2 rfl 1 (by decide) (List.mem_of_getElem? (i := 1) rfl) rfl rfl dX2_hasArrived_2 ?_
  refine g_aload_n B dX2_hasArrived_5 0 rfl rfl ?_
  refine g_get (v := .int (M o0 2)) B (shX_ft ho0) (ft_lt ho0) in_X2_hasArrived_X2 rfl 2 (by decide) (List.mem_of_getElem? (i := 2) rfl) rfl rfl dX2_hasArrived_6 ?_
  refine g_callVIp (q := (RX6, TX6, 4)) (As := [.int (M o0 1), .int (M o0 2)]) (st := []) B (k_X6_distance l D cA ad B.2.2.2.2.2.2.1 (M o0 1) (M o0 2) M) (cwV 2 B.2.2.2.2.1 gX2_hasArrived_X6_distance rfl rfl rfl (by decide +kernel) ⟨Nat.le_of_ble_eq_true rfl, Nat.le_of_ble_eq_true rfl⟩) shX_st (by decide) rfl rfl rfl (Nat.le_of_ble_eq_true rfl) dX2_hasArrived_9 (fun r1 _ => ?_)
  refine g_istore_n B dX2_hasArrived_12 rfl (by decide) (lv1 := [(2, .int r1), (0, .ref (ad o0)), (1, .ref (ad 2))]) rfl ?_
  refine g_iload_n B dX2_hasArrived_13 0 rfl rfl ?_
  refine g_bipush (v := -9) B dX2_hasArrived_14 (by decide) ?_
  refine g_icmp_eq (tgt := 31) B dX2_hasArrived_16 (by decide) (fun c2 => ?_) (fun c2 => ?_)
  · refine g_iconst (v := 0) B dX2_hasArrived_31 (by decide) ?_
    exact g_zretp B hr hk rfl dX2_hasArrived_32
  · refine g_aload_n B dX2_hasArrived_19 1 rfl rfl ?_
    refine g_get (v := .int (M o0 4)) B (shX_ft ho0) (ft_lt ho0) in_X2_hasArrived_X2 rfl 4 (by decide) (List.mem_of_getElem? (i := 3) rfl) rfl rfl dX2_hasArrived_20 ?_
    refine g_iload_n B dX2_hasArrived_23 0 rfl rfl ?_
    refine g_icmp_lt (tgt := 31) B dX2_hasArrived_24 (by decide) (fun c3 => ?_) (fun c3 => ?_)
    · refine g_iconst (v := 0) B dX2_hasArrived_31 (by decide) ?_
      exact g_zretp B hr hk rfl dX2_hasArrived_32
    · refine g_iconst (v := 1) B dX2_hasArrived_27 (by decide) ?_
      refine g_goto (tgt := 32) B dX2_hasArrived_28 (by decide) ?_
      exact g_zretp B hr hk rfl dX2_hasArrived_32

abbrev rm_X8_ofFootman : Room := { frames := 3, cells := 0, slots := 0, locals := 66 }
set_option maxHeartbeats 4000000 in
set_option maxRecDepth 100000 in
theorem k_X8_ofFootman (l : Launch) (D : va_G) (cA : Nat → ClassId) (ad : Nat → Nat) (had : adOK ad 37) (v1 : Int32) (v2 : Int32) (M : Mem) : CI l yX8_ofFootman wsX8_ofFootman rm_X8_ofFootman D cA ad (shX ad cA) 37 [.ref (ad 0), .int v1, .int v2] M (wM M (d_X8_ofFootman v1 v2 M)) := by
  refine CI_ofp (own := RX8) (cc := cX8_ofFootman) (maxL := 4) (rt := .int) had (by decide) rfl rfl (Nat.le_of_ble_eq_true rfl) ?_
  intro p e s m args below meth c R0 B hr hk
  unfold d_X8_ofFootman
  show GG p l e (headSpec wsX8_ofFootman rm_X8_ofFootman).room s m args below meth c D ad (shX ad cA) 37 4 (MQ below (QI D ad (shX ad cA) 37 s.heap.size (R0, M)) args s 0 0 (AX ad 37 s.heap.size)) R0 M 0 [(0, .ref (ad 0)), (1, .int v1), (2, .int v2)] [] _
  refine g_aload_n B dX8_ofFootman_0 0 rfl rfl ?_
  refine g_get (v := .ref (ad 6)) B shX_pw (by decide) in_X8_ofFootman_X8 rfl 2 (by decide) (List.mem_of_getElem? (i := 1) rfl) rfl rfl dX8_ofFootman_1 ?_
  refine g_iload_n B dX8_ofFootman_4 1 rfl rfl ?_
  refine g_callVIp (q := (RX0, TX0, 2)) (As := [.int v1]) (st := []) B (k_X0_has l D cA ad B.2.2.2.2.2.2.1 6 co6 v1 M) (cwV 1 B.2.2.2.2.1 gX8_ofFootman_X0_has rfl rfl rfl (by decide +kernel) ⟨Nat.le_of_ble_eq_true rfl, Nat.le_of_ble_eq_true rfl⟩) (shX_co co6) (co_lt co6) rfl rfl rfl (Nat.le_of_ble_eq_true rfl) dX8_ofFootman_5 (fun r1 _ => ?_)
  refine g_if_ne (tgt := 13) B dX8_ofFootman_8 (by decide) (fun c2 => ?_) (fun c2 => ?_)
  · refine g_iconst (v := -1) B dX8_ofFootman_11 (by decide) ?_
    exact g_iretp B hr hk dX8_ofFootman_12
  · refine g_aload_n B dX8_ofFootman_13 0 rfl rfl ?_
    refine g_get (v := .ref (ad 6)) B shX_pw (by decide) in_X8_ofFootman_X8 rfl 2 (by decide) (List.mem_of_getElem? (i := 1) rfl) rfl rfl dX8_ofFootman_14 ?_
    refine g_getN (v := .ref (ad (6 + 1))) B (shX_co co6) (co_lt co6) in_X8_ofFootman_X0 rfl 0 (by decide) 16 rfl rfl rfl dX8_ofFootman_17 ?_
    refine g_iload_n B dX8_ofFootman_20 1 rfl rfl ?_
    refine g_aald (g := (ft 6)) B 1 rfl (shX_fts co6) (fts_lt co6) dX8_ofFootman_21 (fun b3 => ?_)
    have f4 := (ft_ok co6 b3)
    refine g_astore_n B dX8_ofFootman_22 rfl (by decide) (lv1 := [(3, .ref (ad ((ft 6) v1.toNatClampNeg))), (0, .ref (ad 0)), (1, .int v1), (2, .int v2)]) rfl ?_
    refine g_iload_n B dX8_ofFootman_23 3 rfl rfl ?_
    refine g_if (fun c5 => ?_) (fun c5 => ?_)
    · refine g_tin (tgt := 72) (off := 48) (v := 0) B dX8_ofFootman_24 c5 (by decide) (by decide) rfl (by decide) ?_
      refine g_aload_n B dX8_ofFootman_72 0 rfl rfl ?_
      refine g_getN (v := .int (M ((ft 6) v1.toNatClampNeg) 0)) B (shX_ft f4) (ft_lt f4) in_X8_ofFootman_X2 rfl 0 (by decide) 3 rfl rfl rfl dX8_ofFootman_73 ?_
      exact g_iretp B hr hk dX8_ofFootman_76
    · refine g_if (fun c6 => ?_) (fun c6 => ?_)
      · refine g_tin (tgt := 77) (off := 53) (v := 1) B dX8_ofFootman_24 c6 (by decide) (by decide) rfl (by decide) ?_
        refine g_aload_n B dX8_ofFootman_77 0 rfl rfl ?_
        refine g_getN (v := .int (M ((ft 6) v1.toNatClampNeg) 1)) B (shX_ft f4) (ft_lt f4) in_X8_ofFootman_X2 rfl 1 (by decide) 5 rfl rfl rfl dX8_ofFootman_78 ?_
        exact g_iretp B hr hk dX8_ofFootman_81
      · refine g_if (fun c7 => ?_) (fun c7 => ?_)
        · refine g_tin (tgt := 82) (off := 58) (v := 2) B dX8_ofFootman_24 c7 (by decide) (by decide) rfl (by decide) ?_
          refine g_aload_n B dX8_ofFootman_82 0 rfl rfl ?_
          refine g_getN (v := .int (M ((ft 6) v1.toNatClampNeg) 2)) B (shX_ft f4) (ft_lt f4) in_X8_ofFootman_X2 rfl 2 (by decide) 8 rfl rfl rfl dX8_ofFootman_83 ?_
          exact g_iretp B hr hk dX8_ofFootman_86
        · refine g_if (fun c8 => ?_) (fun c8 => ?_)
          · refine g_tin (tgt := 87) (off := 63) (v := 3) B dX8_ofFootman_24 c8 (by decide) (by decide) rfl (by decide) ?_
            refine g_aload_n B dX8_ofFootman_87 0 rfl rfl ?_
            refine g_getN (v := .int (M ((ft 6) v1.toNatClampNeg) 3)) B (shX_ft f4) (ft_lt f4) in_X8_ofFootman_X2 rfl 3 (by decide) 10 rfl rfl rfl dX8_ofFootman_88 ?_
            exact g_iretp B hr hk dX8_ofFootman_91
          · refine g_if (fun c9 => ?_) (fun c9 => ?_)
            · refine g_tin (tgt := 92) (off := 68) (v := 4) B dX8_ofFootman_24 c9 (by decide) (by decide) rfl (by decide) ?_
              refine g_aload_n B dX8_ofFootman_92 0 rfl rfl ?_
              refine g_callVIp (q := (RX2, TX2, 6)) (As := []) (st := []) B (k_X2_pace l D cA ad B.2.2.2.2.2.2.1 ((ft 6) v1.toNatClampNeg) f4 M) (cwV 0 B.2.2.2.2.1 gX8_ofFootman_X2_pace rfl rfl rfl (by decide +kernel) ⟨Nat.le_of_ble_eq_true rfl, Nat.le_of_ble_eq_true rfl⟩) (shX_ft f4) (ft_lt f4) rfl rfl rfl (Nat.le_of_ble_eq_true rfl) dX8_ofFootman_93 (fun r10 _ => ?_)
              exact g_iretp B hr hk dX8_ofFootman_96
            · refine g_if (fun c11 => ?_) (fun c11 => ?_)
              · refine g_tin (tgt := 97) (off := 73) (v := 5) B dX8_ofFootman_24 c11 (by decide) (by decide) rfl (by decide) ?_
                refine g_aload_n B dX8_ofFootman_97 0 rfl rfl ?_
                refine g_getN (v := .int (M ((ft 6) v1.toNatClampNeg) 4)) B (shX_ft f4) (ft_lt f4) in_X8_ofFootman_X2 rfl 4 (by decide) 12 rfl rfl rfl dX8_ofFootman_98 ?_
                exact g_iretp B hr hk dX8_ofFootman_101
              · refine g_if (fun c12 => ?_) (fun c12 => ?_)
                · refine g_tin (tgt := 102) (off := 78) (v := 6) B dX8_ofFootman_24 c12 (by decide) (by decide) rfl (by decide) ?_
                  refine g_aload_n B dX8_ofFootman_102 0 rfl rfl ?_
                  refine g_getN (v := .int (M ((ft 6) v1.toNatClampNeg) 5)) B (shX_ft f4) (ft_lt f4) in_X8_ofFootman_X2 rfl 5 (by decide) 15 rfl rfl rfl dX8_ofFootman_103 ?_
                  refine g_if_eq (tgt := 113) B dX8_ofFootman_106 (by decide) (fun c13 => ?_) (fun c13 => ?_)
                  · refine g_iconst (v := 0) B dX8_ofFootman_113 (by decide) ?_
                    exact g_iretp B hr hk dX8_ofFootman_114
                  · refine g_iconst (v := 1) B dX8_ofFootman_109 (by decide) ?_
                    refine g_goto (tgt := 114) B dX8_ofFootman_110 (by decide) ?_
                    exact g_iretp B hr hk dX8_ofFootman_114
                · refine g_if (fun c14 => ?_) (fun c14 => ?_)
                  · refine g_tin (tgt := 115) (off := 91) (v := 7) B dX8_ofFootman_24 c14 (by decide) (by decide) rfl (by decide) ?_
                    refine g_aload_n B dX8_ofFootman_115 0 rfl rfl ?_
                    refine g_aload_n B dX8_ofFootman_116 1 rfl rfl ?_
                    refine g_get (v := .ref (ad 2)) B shX_pw (by decide) in_X8_ofFootman_X8 rfl 1 (by decide) (List.mem_of_getElem? (i := 2) rfl) rfl rfl dX8_ofFootman_117 ?_
                    refine g_callVIp (q := (RX2, TX2, 6)) (As := [.ref (ad 2)]) (st := []) B (k_X2_hasArrived l D cA ad B.2.2.2.2.2.2.1 ((ft 6) v1.toNatClampNeg) f4 M) (cwV 1 B.2.2.2.2.1 gX8_ofFootman_X2_hasArrived rfl rfl rfl (by decide +kernel) ⟨Nat.le_of_ble_eq_true rfl, Nat.le_of_ble_eq_true rfl⟩) (shX_ft f4) (ft_lt f4) rfl rfl rfl (Nat.le_of_ble_eq_true rfl) dX8_ofFootman_120 (fun r15 _ => ?_)
                    refine g_if_eq (tgt := 130) B dX8_ofFootman_123 (by decide) (fun c16 => ?_) (fun c16 => ?_)
                    · refine g_iconst (v := 0) B dX8_ofFootman_130 (by decide) ?_
                      exact g_iretp B hr hk dX8_ofFootman_131
                    · refine g_iconst (v := 1) B dX8_ofFootman_126 (by decide) ?_
                      refine g_goto (tgt := 131) B dX8_ofFootman_127 (by decide) ?_
                      exact g_iretp B hr hk dX8_ofFootman_131
                  · refine g_tout (tgt := 132) B dX8_ofFootman_24 (sw_8 c5 c6 c7 c8 c9 c11 c12 c14) (by decide) ?_
                    refine g_bipush (v := -2) B dX8_ofFootman_132 (by decide) ?_
                    exact g_iretp B hr hk dX8_ofFootman_134
