abbrev rm_X8_errands : Room := { frames := 6, cells := 0, slots := 0, locals := 146 }
set_option maxHeartbeats 4000000 in
set_option maxRecDepth 100000 in
theorem k_X8_errands (l : Launch) (D : va_G) (cA : Nat → ClassId) (ad : Nat → Nat) (had : adOK ad 37) (v1 : Int32) (M : Mem) : CI l yX8_errands wsX8_errands rm_X8_errands D cA ad (shX ad cA) 37 [.ref (ad 0), .int v1] M (d_X8_errands v1 M) := by
  refine CI_of (own := RX8) (cc := cX8_errands) (maxL := 2) (rt := .int) had (by decide) rfl rfl (Nat.le_of_ble_eq_true rfl) ?_
  intro p e s m args below meth c R0 B hr hk
  unfold d_X8_errands
  show GG p l e (headSpec wsX8_errands rm_X8_errands).room s m args below meth c D ad (shX ad cA) 37 2 (MQ below (QI D ad (shX ad cA) 37 s.heap.size R0) args s 0 0 (AX ad 37 s.heap.size)) R0 M 0 [(0, .ref (ad 0)), (1, .int v1)] [] _
  refine g_aload_n B dX8_errands_0 0 rfl rfl ?_
  refine g_callVIp (q := (RX8, TX8, 9)) (As := []) (st := []) B (k_X8_hasTown l D cA ad B.2.2.2.2.2.2.1  M) (cwV 0 B.2.2.2.2.1 gX8_errands_X8_hasTown rfl rfl rfl (by decide +kernel) ⟨Nat.le_of_ble_eq_true rfl, Nat.le_of_ble_eq_true rfl⟩) shX_pw (by decide) rfl rfl rfl (Nat.le_of_ble_eq_true rfl) dX8_errands_1 (fun r1 _ => ?_)
  refine g_if_ne (tgt := 10) B dX8_errands_4 (by decide) (fun c2 => ?_) (fun c2 => ?_)
  · refine g_bipush (v := -3) B dX8_errands_7 (by decide) ?_
    exact g_iret B hr hk dX8_errands_9
  · refine g_iload_n B dX8_errands_10 1 rfl rfl ?_
    refine g_iconst (v := -1) B dX8_errands_11 (by decide) ?_
    refine g_icmp_lt (tgt := 21) B dX8_errands_12 (by decide) (fun c3 => ?_) (fun c3 => ?_)
    · refine g_bipush (v := -2) B dX8_errands_21 (by decide) ?_
      exact g_iret B hr hk dX8_errands_23
    · refine g_iload_n B dX8_errands_15 1 rfl rfl ?_
      refine g_bipush (v := 6) B dX8_errands_16 (by decide) ?_
      refine g_icmp_lt (tgt := 24) B dX8_errands_18 (by decide) (fun c4 => ?_) (fun c4 => ?_)
      · refine g_aload_n B dX8_errands_24 0 rfl rfl ?_
        refine g_get (v := .ref (ad 23)) B shX_pw (by decide) in_X8_errands_X8 rfl 4 (by decide) (List.mem_of_getElem? (i := 1) rfl) rfl rfl dX8_errands_25 ?_
        refine g_aload_n B dX8_errands_28 0 rfl rfl ?_
        refine g_get (v := .ref (ad 6)) B shX_pw (by decide) in_X8_errands_X8 rfl 2 (by decide) (List.mem_of_getElem? (i := 2) rfl) rfl rfl dX8_errands_29 ?_
        refine g_aload_n B dX8_errands_32 0 rfl rfl ?_
        refine g_get (v := .ref (ad 2)) B shX_pw (by decide) in_X8_errands_X8 rfl 1 (by decide) (List.mem_of_getElem? (i := 3) rfl) rfl rfl dX8_errands_33 ?_
        refine g_callVVe (q := (RX1, TX1, 1)) (As := [.ref (ad 6), .ref (ad 2)]) (st := []) B (k_X1_weigh l D cA ad B.2.2.2.2.2.2.1 6 co6 M) (cwV 2 B.2.2.2.2.1 gX8_errands_X1_weigh rfl rfl rfl (by decide +kernel) ⟨Nat.le_of_ble_eq_true rfl, Nat.le_of_ble_eq_true rfl⟩) shX_er (by decide) rfl rfl rfl (Nat.le_of_ble_eq_true rfl) dX8_errands_36 (fun M5 _ => ?_)
        refine g_iload_n B dX8_errands_39 1 rfl rfl ?_
        refine g_iconst (v := -1) B dX8_errands_40 (by decide) ?_
        refine g_icmp_ne (tgt := 54) B dX8_errands_41 (by decide) (fun c6 => ?_) (fun c6 => ?_)
        · refine g_aload_n B dX8_errands_44 0 rfl rfl ?_
          refine g_get (v := .ref (ad 23)) B shX_pw (by decide) in_X8_errands_X8 rfl 4 (by decide) (List.mem_of_getElem? (i := 1) rfl) rfl rfl dX8_errands_45 ?_
          refine g_callVIp (q := (RX1, TX1, 1)) (As := []) (st := []) B (k_X1_lastArrival l D cA ad B.2.2.2.2.2.2.1  M5) (cwV 0 B.2.2.2.2.1 gX8_errands_X1_lastArrival rfl rfl rfl (by decide +kernel) ⟨Nat.le_of_ble_eq_true rfl, Nat.le_of_ble_eq_true rfl⟩) shX_er (by decide) rfl rfl rfl (Nat.le_of_ble_eq_true rfl) dX8_errands_48 (fun r8 _ => ?_)
          refine g_goto (tgt := 70) B dX8_errands_51 (by decide) ?_
          exact g_iret B hr hk dX8_errands_70
        · refine g_aload_n B dX8_errands_54 0 rfl rfl ?_
          refine g_get (v := .ref (ad 23)) B shX_pw (by decide) in_X8_errands_X8 rfl 4 (by decide) (List.mem_of_getElem? (i := 1) rfl) rfl rfl dX8_errands_55 ?_
          refine g_iload_n B dX8_errands_58 1 rfl rfl ?_
          refine g_aload_n B dX8_errands_59 0 rfl rfl ?_
          refine g_get (v := .ref (ad 6)) B shX_pw (by decide) in_X8_errands_X8 rfl 2 (by decide) (List.mem_of_getElem? (i := 2) rfl) rfl rfl dX8_errands_60 ?_
          refine g_aload_n B dX8_errands_63 0 rfl rfl ?_
          refine g_get (v := .ref (ad 2)) B shX_pw (by decide) in_X8_errands_X8 rfl 1 (by decide) (List.mem_of_getElem? (i := 3) rfl) rfl rfl dX8_errands_64 ?_
          refine g_callVIp (q := (RX1, TX1, 1)) (As := [.int v1, .ref (ad 6), .ref (ad 2)]) (st := []) B (k_X1_goalOf l D cA ad B.2.2.2.2.2.2.1 v1 6 co6 M5) (cwV 3 B.2.2.2.2.1 gX8_errands_X1_goalOf rfl rfl rfl (by decide +kernel) ⟨Nat.le_of_ble_eq_true rfl, Nat.le_of_ble_eq_true rfl⟩) shX_er (by decide) rfl rfl rfl (Nat.le_of_ble_eq_true rfl) dX8_errands_67 (fun r7 _ => ?_)
          exact g_iret B hr hk dX8_errands_70
      · refine g_bipush (v := -2) B dX8_errands_21 (by decide) ?_
        exact g_iret B hr hk dX8_errands_23

abbrev rm_X3_add : Room := { frames := 0, cells := 0, slots := 0, locals := 0 }
set_option maxHeartbeats 4000000 in
set_option maxRecDepth 100000 in
theorem k_X3_add (l : Launch) (D : va_G) (cA : Nat → ClassId) (ad : Nat → Nat) (had : adOK ad 37) (v1 : Int32) (v2 : Int32) (v3 : Int32) (M : Mem) : CV l yX3_add wsX3_add rm_X3_add D cA ad (shX ad cA) 37 [.ref (ad 25), .int v1, .int v2, .int v3] M (d_X3_add v1 v2 v3 M) := by
  refine CV_of (own := RX3) (cc := cX3_add) (maxL := 4) had (by decide) rfl rfl (Nat.le_of_ble_eq_true rfl) ?_
  intro p e s m args below meth c R0 B hr hk
  unfold d_X3_add
  show GG p l e (headSpec wsX3_add rm_X3_add).room s m args below meth c D ad (shX ad cA) 37 4 (MQ below (QV D ad (shX ad cA) 37 s.heap.size R0) args s 0 0 (AX ad 37 s.heap.size)) R0 M 0 [(0, .ref (ad 25)), (1, .int v1), (2, .int v2), (3, .int v3)] [] _
  refine g_aload_n B dX3_add_0 0 rfl rfl ?_
  refine g_get (v := .int (M 25 3)) B shX_re (by decide) in_X3_add_X3 rfl 3 (by decide) (List.mem_of_getElem? (i := 1) rfl) rfl rfl dX3_add_1 ?_
  refine g_bipush (v := 8) B dX3_add_4 (by decide) ?_
  refine g_icmp_ge (tgt := 49) B dX3_add_6 (by decide) (fun c1 => ?_) (fun c1 => ?_)
  · exact g_vret B hr hk dX3_add_49
  · refine g_aload_n B dX3_add_9 0 rfl rfl ?_
    refine g_get (v := .ref (ad 26)) B shX_re (by decide) in_X3_add_X3 rfl 0 (by decide) (List.mem_of_getElem? (i := 2) rfl) rfl rfl dX3_add_10 ?_
    refine g_aload_n B dX3_add_13 0 rfl rfl ?_
    refine g_get (v := .int (M 25 3)) B shX_re (by decide) in_X3_add_X3 rfl 3 (by decide) (List.mem_of_getElem? (i := 1) rfl) rfl rfl dX3_add_14 ?_
    refine g_iload_n B dX3_add_17 1 rfl rfl ?_
    refine g_iast B shX_26 (by decide) dX3_add_18 (g_lmM (fun M2 => ?_))
    refine g_aload_n B dX3_add_19 0 rfl rfl ?_
    refine g_get (v := .ref (ad 27)) B shX_re (by decide) in_X3_add_X3 rfl 1 (by decide) (List.mem_of_getElem? (i := 3) rfl) rfl rfl dX3_add_20 ?_
    refine g_aload_n B dX3_add_23 0 rfl rfl ?_
    refine g_get (v := .int (M2 25 3)) B shX_re (by decide) in_X3_add_X3 rfl 3 (by decide) (List.mem_of_getElem? (i := 1) rfl) rfl rfl dX3_add_24 ?_
    refine g_iload_n B dX3_add_27 2 rfl rfl ?_
    refine g_iast B shX_27 (by decide) dX3_add_28 (g_lmM (fun M3 => ?_))
    refine g_aload_n B dX3_add_29 0 rfl rfl ?_
    refine g_get (v := .ref (ad 28)) B shX_re (by decide) in_X3_add_X3 rfl 2 (by decide) (List.mem_of_getElem? (i := 4) rfl) rfl rfl dX3_add_30 ?_
    refine g_aload_n B dX3_add_33 0 rfl rfl ?_
    refine g_get (v := .int (M3 25 3)) B shX_re (by decide) in_X3_add_X3 rfl 3 (by decide) (List.mem_of_getElem? (i := 1) rfl) rfl rfl dX3_add_34 ?_
    refine g_iload_n B dX3_add_37 3 rfl rfl ?_
    refine g_iast B shX_28 (by decide) dX3_add_38 (g_lmM (fun M4 => ?_))
    refine g_aload_n B dX3_add_39 0 rfl rfl ?_
    refine g_dup B dX3_add_40 rfl ?_
    refine g_get (v := .int (M4 25 3)) B shX_re (by decide) in_X3_add_X3 rfl 3 (by decide) (List.mem_of_getElem? (i := 1) rfl) rfl rfl dX3_add_41 ?_
    refine g_iconst (v := 1) B dX3_add_44 (by decide) ?_
    refine g_iadd B dX3_add_45 ?_
    refine g_put (ty := .int) B shX_re (by decide) in_X3_add_X3 tyX3_ok nmX3 rfl 3 (by decide) (List.mem_of_getElem? (i := 1) rfl) rfl rfl (by decide +kernel) rfl rfl (fun _ => Nat.le_of_ble_eq_true rfl) (fun _ _ => rfl) dX3_add_46 (g_lmM (fun M5 => ?_))
    exact g_vret B hr hk dX3_add_49

abbrev rm_X8_reading : Room := { frames := 1, cells := 0, slots := 0, locals := 23 }
set_option maxHeartbeats 4000000 in
set_option maxRecDepth 100000 in
theorem k_X8_reading (l : Launch) (D : va_G) (cA : Nat → ClassId) (ad : Nat → Nat) (had : adOK ad 37) (v1 : Int32) (v2 : Int32) (v3 : Int32) (M : Mem) : CI l yX8_reading wsX8_reading rm_X8_reading D cA ad (shX ad cA) 37 [.ref (ad 0), .int v1, .int v2, .int v3] M (d_X8_reading v1 v2 v3 M) := by
  refine CI_of (own := RX8) (cc := cX8_reading) (maxL := 4) (rt := .int) had (by decide) rfl rfl (Nat.le_of_ble_eq_true rfl) ?_
  intro p e s m args below meth c R0 B hr hk
  unfold d_X8_reading
  show GG p l e (headSpec wsX8_reading rm_X8_reading).room s m args below meth c D ad (shX ad cA) 37 4 (MQ below (QI D ad (shX ad cA) 37 s.heap.size R0) args s 0 0 (AX ad 37 s.heap.size)) R0 M 0 [(0, .ref (ad 0)), (1, .int v1), (2, .int v2), (3, .int v3)] [] _
  refine g_aload_n B dX8_reading_0 0 rfl rfl ?_
  refine g_get (v := .ref (ad 6)) B shX_pw (by decide) in_X8_reading_X8 rfl 2 (by decide) (List.mem_of_getElem? (i := 1) rfl) rfl rfl dX8_reading_1 ?_
  refine g_iload_n B dX8_reading_4 1 rfl rfl ?_
  refine g_callVIp (q := (RX0, TX0, 2)) (As := [.int v1]) (st := []) B (k_X0_has l D cA ad B.2.2.2.2.2.2.1 6 co6 v1 M) (cwV 1 B.2.2.2.2.1 gX8_reading_X0_has rfl rfl rfl (by decide +kernel) ⟨Nat.le_of_ble_eq_true rfl, Nat.le_of_ble_eq_true rfl⟩) (shX_co co6) (co_lt co6) rfl rfl rfl (Nat.le_of_ble_eq_true rfl) dX8_reading_5 (fun r1 _ => ?_)
  refine g_if_ne (tgt := 13) B dX8_reading_8 (by decide) (fun c2 => ?_) (fun c2 => ?_)
  · refine g_iconst (v := -1) B dX8_reading_11 (by decide) ?_
    exact g_iret B hr hk dX8_reading_12
  · refine g_iload_n B dX8_reading_13 2 rfl rfl ?_
    refine g_if_lt (tgt := 34) B dX8_reading_14 (by decide) (fun c3 => ?_) (fun c3 => ?_)
    · refine g_bipush (v := -2) B dX8_reading_34 (by decide) ?_
      exact g_iret B hr hk dX8_reading_36
    · refine g_iload_n B dX8_reading_17 2 rfl rfl ?_
      refine g_bipush (v := 99) B dX8_reading_18 (by decide) ?_
      refine g_icmp_gt (tgt := 34) B dX8_reading_20 (by decide) (fun c4 => ?_) (fun c4 => ?_)
      · refine g_bipush (v := -2) B dX8_reading_34 (by decide) ?_
        exact g_iret B hr hk dX8_reading_36
      · refine g_iload_n B dX8_reading_23 3 rfl rfl ?_
        refine g_if_lt (tgt := 34) B dX8_reading_24 (by decide) (fun c5 => ?_) (fun c5 => ?_)
        · refine g_bipush (v := -2) B dX8_reading_34 (by decide) ?_
          exact g_iret B hr hk dX8_reading_36
        · refine g_iload_n B dX8_reading_27 3 rfl rfl ?_
          refine g_sipush (v := 999) B dX8_reading_28 (by decide) ?_
          refine g_icmp_le (tgt := 37) B dX8_reading_31 (by decide) (fun c6 => ?_) (fun c6 => ?_)
          · refine g_aload_n B dX8_reading_37 0 rfl rfl ?_
            refine g_get (v := .ref (ad 25)) B shX_pw (by decide) in_X8_reading_X8 rfl 5 (by decide) (List.mem_of_getElem? (i := 2) rfl) rfl rfl dX8_reading_38 ?_
            refine g_getN (v := .int (M 25 3)) B shX_re (by decide) in_X8_reading_X3 rfl 3 (by decide) 23 rfl rfl rfl dX8_reading_41 ?_
            refine g_bipush (v := 8) B dX8_reading_44 (by decide) ?_
            refine g_icmp_lt (tgt := 52) B dX8_reading_46 (by decide) (fun c7 => ?_) (fun c7 => ?_)
            · refine g_aload_n B dX8_reading_52 0 rfl rfl ?_
              refine g_get (v := .ref (ad 25)) B shX_pw (by decide) in_X8_reading_X8 rfl 5 (by decide) (List.mem_of_getElem? (i := 2) rfl) rfl rfl dX8_reading_53 ?_
              refine g_iload_n B dX8_reading_56 1 rfl rfl ?_
              refine g_iload_n B dX8_reading_57 2 rfl rfl ?_
              refine g_iload_n B dX8_reading_58 3 rfl rfl ?_
              refine g_callVVe (q := (RX3, TX3, 4)) (As := [.int v1, .int v2, .int v3]) (st := []) B (k_X3_add l D cA ad B.2.2.2.2.2.2.1 v1 v2 v3 M) (cwV 3 B.2.2.2.2.1 gX8_reading_X3_add rfl rfl rfl (by decide +kernel) ⟨Nat.le_of_ble_eq_true rfl, Nat.le_of_ble_eq_true rfl⟩) shX_re (by decide) rfl rfl rfl (Nat.le_of_ble_eq_true rfl) dX8_reading_59 (fun M8 _ => ?_)
              refine g_aload_n B dX8_reading_62 0 rfl rfl ?_
              refine g_get (v := .ref (ad 25)) B shX_pw (by decide) in_X8_reading_X8 rfl 5 (by decide) (List.mem_of_getElem? (i := 2) rfl) rfl rfl dX8_reading_63 ?_
              refine g_getN (v := .int (M8 25 3)) B shX_re (by decide) in_X8_reading_X3 rfl 3 (by decide) 23 rfl rfl rfl dX8_reading_66 ?_
              refine g_iconst (v := 1) B dX8_reading_69 (by decide) ?_
              refine g_isub B dX8_reading_70 ?_
              exact g_iret B hr hk dX8_reading_71
            · refine g_bipush (v := -4) B dX8_reading_49 (by decide) ?_
              exact g_iret B hr hk dX8_reading_51
          · refine g_bipush (v := -2) B dX8_reading_34 (by decide) ?_
            exact g_iret B hr hk dX8_reading_36

abbrev rm_X8_back : Room := { frames := 0, cells := 0, slots := 0, locals := 0 }
set_option maxHeartbeats 4000000 in
set_option maxRecDepth 100000 in
theorem k_X8_back (l : Launch) (D : va_G) (cA : Nat → ClassId) (ad : Nat → Nat) (had : adOK ad 37) (v1 : Int32) (M : Mem) : CI l yX8_back wsX8_back rm_X8_back D cA ad (shX ad cA) 37 [.ref (ad 0), .int v1] M (d_X8_back v1 M) := by
  refine CI_of (own := RX8) (cc := cX8_back) (maxL := 2) (rt := .int) had (by decide) rfl rfl (Nat.le_of_ble_eq_true rfl) ?_
  intro p e s m args below meth c R0 B hr hk
  unfold d_X8_back
  show GG p l e (headSpec wsX8_back rm_X8_back).room s m args below meth c D ad (shX ad cA) 37 2 (MQ below (QI D ad (shX ad cA) 37 s.heap.size R0) args s 0 0 (AX ad 37 s.heap.size)) R0 M 0 [(0, .ref (ad 0)), (1, .int v1)] [] _
  refine g_iload_n B dX8_back_0 1 rfl rfl ?_
  refine g_if_lt (tgt := 15) B dX8_back_1 (by decide) (fun c1 => ?_) (fun c1 => ?_)
  · refine g_bipush (v := -2) B dX8_back_15 (by decide) ?_
    exact g_iret B hr hk dX8_back_17
  · refine g_iload_n B dX8_back_4 1 rfl rfl ?_
    refine g_aload_n B dX8_back_5 0 rfl rfl ?_
    refine g_get (v := .ref (ad 25)) B shX_pw (by decide) in_X8_back_X8 rfl 5 (by decide) (List.mem_of_getElem? (i := 1) rfl) rfl rfl dX8_back_6 ?_
    refine g_getN (v := .int (M 25 3)) B shX_re (by decide) in_X8_back_X3 rfl 3 (by decide) 23 rfl rfl rfl dX8_back_9 ?_
    refine g_icmp_le (tgt := 18) B dX8_back_12 (by decide) (fun c2 => ?_) (fun c2 => ?_)
    · refine g_aload_n B dX8_back_18 0 rfl rfl ?_
      refine g_get (v := .ref (ad 25)) B shX_pw (by decide) in_X8_back_X8 rfl 5 (by decide) (List.mem_of_getElem? (i := 1) rfl) rfl rfl dX8_back_19 ?_
      refine g_dup B dX8_back_22 rfl ?_
      refine g_getN (v := .int (M 25 3)) B shX_re (by decide) in_X8_back_X3 rfl 3 (by decide) 23 rfl rfl rfl dX8_back_23 ?_
      refine g_iload_n B dX8_back_26 1 rfl rfl ?_
      refine g_isub B dX8_back_27 ?_
      refine g_putN (ty := .int) B shX_re (by decide) in_X8_back_X3 tyX3_ok nmX3 rfl 3 (by decide) 23 rfl rfl rfl (by decide +kernel) rfl rfl (fun _ => Nat.le_of_ble_eq_true rfl) (fun _ _ => rfl) dX8_back_28 (g_lmM (fun M3 => ?_))
      refine g_aload_n B dX8_back_31 0 rfl rfl ?_
      refine g_get (v := .ref (ad 25)) B shX_pw (by decide) in_X8_back_X8 rfl 5 (by decide) (List.mem_of_getElem? (i := 1) rfl) rfl rfl dX8_back_32 ?_
      refine g_getN (v := .int (M3 25 3)) B shX_re (by decide) in_X8_back_X3 rfl 3 (by decide) 23 rfl rfl rfl dX8_back_35 ?_
      exact g_iret B hr hk dX8_back_38
    · refine g_bipush (v := -2) B dX8_back_15 (by decide) ?_
      exact g_iret B hr hk dX8_back_17

abbrev rm_X3_allAreSo : Room := { frames := 2, cells := 0, slots := 0, locals := 41 }
set_option maxHeartbeats 4000000 in
set_option maxRecDepth 100000 in
theorem k_X3_allAreSo (l : Launch) (D : va_G) (cA : Nat → ClassId) (ad : Nat → Nat) (had : adOK ad 37) (o1 : Nat) (ho1 : isCo o1) (v2 : Int32) (v3 : Int32) (M : Mem) : CI l yX3_allAreSo wsX3_allAreSo rm_X3_allAreSo D cA ad (shX ad cA) 37 [.ref (ad 25), .ref (ad o1), .int v2, .int v3] M (wM M (d_X3_allAreSo o1 v2 v3 M)) := by
  refine CI_ofp (own := RX3) (cc := cX3_allAreSo) (maxL := 7) (rt := .boolean) had (by decide) rfl rfl (Nat.le_of_ble_eq_true rfl) ?_
  intro p e s m args below meth c R0 B hr hk
  have hJ52 : ∀ (rec3 : Int32 → Option Int32) (o1 : Nat) (v2 : Int32) (v3 : Int32) (v4 : Int32) (s0 : Int32)  (ho1 : isCo o1)  (hrec3 : ∀ (w4 : Int32), GG p l e (headSpec wsX3_allAreSo rm_X3_allAreSo).room s m args below meth c D ad (shX ad cA) 37 7 (MQ below (QI D ad (shX ad cA) 37 s.heap.size (R0, M)) args s 0 0 (AX ad 37 s.heap.size)) R0 M 3 [(0, .ref (ad 25)), (1, .ref (ad o1)), (2, .int v2), (3, .int v3), (4, .int w4)] [] (rec3 w4)), GG p l e (headSpec wsX3_allAreSo rm_X3_allAreSo).room s m args below meth c D ad (shX ad cA) 37 7 (MQ below (QI D ad (shX ad cA) 37 s.heap.size (R0, M)) args s 0 0 (AX ad 37 s.heap.size)) R0 M 52 [(0, .ref (ad 25)), (1, .ref (ad o1)), (2, .int v2), (3, .int v3), (4, .int v4)] [.int s0] (dX3_allAreSo_52j rec3 o1 v2 v3 v4 s0 M) := by
    intro rec3 o1 v2 v3 v4 s0 ho1 hrec3
    unfold dX3_allAreSo_52j
    refine g_istore B dX3_allAreSo_52 (by decide) (lv1 := [(6, .int s0), (0, .ref (ad 25)), (1, .ref (ad o1)), (2, .int v2), (3, .int v3), (4, .int v4)]) rfl ?_
    refine g_iload B dX3_allAreSo_54 0 rfl ?_
    refine g_aload_n B dX3_allAreSo_56 1 rfl rfl ?_
    refine g_get (v := .ref (ad 27)) B shX_re (by decide) in_X3_allAreSo_X3 rfl 1 (by decide) (List.mem_of_getElem? (i := 3) rfl) rfl rfl dX3_allAreSo_57 ?_
    refine g_iload B dX3_allAreSo_60 5 rfl ?_
    refine g_iald B shX_27 (by decide) dX3_allAreSo_62 ?_
    refine g_imul B dX3_allAreSo_63 ?_
    refine g_aload_n B dX3_allAreSo_64 1 rfl rfl ?_
    refine g_get (v := .ref (ad 28)) B shX_re (by decide) in_X3_allAreSo_X3 rfl 2 (by decide) (List.mem_of_getElem? (i := 4) rfl) rfl rfl dX3_allAreSo_65 ?_
    refine g_iload B dX3_allAreSo_68 5 rfl ?_
    refine g_iald B shX_28 (by decide) dX3_allAreSo_70 ?_
    refine g_icmp_eq (tgt := 76) B dX3_allAreSo_71 (by decide) (fun c9 => ?_) (fun c9 => ?_)
    · refine g_iinc B dX3_allAreSo_76 5 (v := v4 + (1 : Int32)) rfl rfl (by decide) (lv1 := [(4, .int (v4 + (1 : Int32))), (6, .int s0), (0, .ref (ad 25)), (1, .ref (ad o1)), (2, .int v2), (3, .int v3)]) rfl ?_
      refine g_goto (tgt := 3) B dX3_allAreSo_79 (by decide) ?_
      exact g_lv [2, 3, 4, 5, 0] rfl (hrec3 _)
    · refine g_iconst (v := 0) B dX3_allAreSo_74 (by decide) ?_
      exact g_zretp B hr hk rfl dX3_allAreSo_75
  have hL3 : ∀ (o1 : Nat) (v2 : Int32) (v3 : Int32)   (ho1 : isCo o1) , ∀ (f : Nat) (v4 : Int32), GG p l e (headSpec wsX3_allAreSo rm_X3_allAreSo).room s m args below meth c D ad (shX ad cA) 37 7 (MQ below (QI D ad (shX ad cA) 37 s.heap.size (R0, M)) args s 0 0 (AX ad 37 s.heap.size)) R0 M 3 [(0, .ref (ad 25)), (1, .ref (ad o1)), (2, .int v2), (3, .int v3), (4, .int v4)] [] (dX3_allAreSo_3l o1 v2 v3 M  f v4 ) := by
    intro o1 v2 v3 ho1
    intro f
    induction f with
    | zero =>
      intro v4
      exact g_none
    | succ f ih =>
      intro v4
      rw [dX3_allAreSo_3l]
      refine g_iload B dX3_allAreSo_3 4 rfl ?_
      refine g_aload_n B dX3_allAreSo_5 0 rfl rfl ?_
      refine g_get (v := .int (M 25 3)) B shX_re (by decide) in_X3_allAreSo_X3 rfl 3 (by decide) (List.mem_of_getElem? (i := 1) rfl) rfl rfl dX3_allAreSo_6 ?_
      refine g_icmp_ge (tgt := 82) B dX3_allAreSo_9 (by decide) (fun c1 => ?_) (fun c1 => ?_)
      · refine g_iconst (v := 1) B dX3_allAreSo_82 (by decide) ?_
        exact g_zretp B hr hk rfl dX3_allAreSo_83
      · refine g_aload_n B dX3_allAreSo_12 0 rfl rfl ?_
        refine g_get (v := .ref (ad 26)) B shX_re (by decide) in_X3_allAreSo_X3 rfl 0 (by decide) (List.mem_of_getElem? (i := 2) rfl) rfl rfl dX3_allAreSo_13 ?_
        refine g_iload B dX3_allAreSo_16 4 rfl ?_
        refine g_iald B shX_26 (by decide) dX3_allAreSo_18 ?_
        refine g_lmI (fun x2 => ?_)
        refine g_istore B dX3_allAreSo_19 (by decide) (lv1 := [(5, .int x2), (0, .ref (ad 25)), (1, .ref (ad o1)), (2, .int v2), (3, .int v3), (4, .int v4)]) rfl ?_
        refine g_aload_n B dX3_allAreSo_21 2 rfl rfl ?_
        refine g_iload B dX3_allAreSo_22 0 rfl ?_
        refine g_callVIp (q := (RX0, TX0, 2)) (As := [.int x2]) (st := []) B (k_X0_has l D cA ad B.2.2.2.2.2.2.1 o1 ho1 x2 M) (cwV 1 B.2.2.2.2.1 gX3_allAreSo_X0_has rfl rfl rfl (by decide +kernel) ⟨Nat.le_of_ble_eq_true rfl, Nat.le_of_ble_eq_true rfl⟩) (shX_co ho1) (co_lt ho1) rfl rfl rfl (Nat.le_of_ble_eq_true rfl) dX3_allAreSo_24 (fun r3 _ => ?_)
        refine g_if_ne (tgt := 32) B dX3_allAreSo_27 (by decide) (fun c4 => ?_) (fun c4 => ?_)
        · refine g_iconst (v := 0) B dX3_allAreSo_30 (by decide) ?_
          exact g_zretp B hr hk rfl dX3_allAreSo_31
        · refine g_iload B dX3_allAreSo_32 0 rfl ?_
          refine g_iload_n B dX3_allAreSo_34 3 rfl rfl ?_
          refine g_icmp_ne (tgt := 42) B dX3_allAreSo_35 (by decide) (fun c5 => ?_) (fun c5 => ?_)
          · refine g_iload_n B dX3_allAreSo_38 4 rfl rfl ?_
            refine g_goto (tgt := 52) B dX3_allAreSo_39 (by decide) ?_
            exact g_lv [1, 2, 3, 4, 5] rfl (hJ52 _ _ _ _ _ _ ho1  ih)
          · refine g_aload_n B dX3_allAreSo_42 2 rfl rfl ?_
            refine g_getN (v := .ref (ad (o1 + 1))) B (shX_co ho1) (co_lt ho1) in_X3_allAreSo_X0 rfl 0 (by decide) 18 rfl rfl rfl dX3_allAreSo_43 ?_
            refine g_iload B dX3_allAreSo_46 0 rfl ?_
            refine g_aald (g := (ft o1)) B 1 rfl (shX_fts ho1) (fts_lt ho1) dX3_allAreSo_48 (fun b6 => ?_)
            have f7 := (ft_ok ho1 b6)
            refine g_callVIp (q := (RX2, TX2, 6)) (As := []) (st := []) B (k_X2_pace l D cA ad B.2.2.2.2.2.2.1 ((ft o1) x2.toNatClampNeg) f7 M) (cwV 0 B.2.2.2.2.1 gX3_allAreSo_X2_pace rfl rfl rfl (by decide +kernel) ⟨Nat.le_of_ble_eq_true rfl, Nat.le_of_ble_eq_true rfl⟩) (shX_ft f7) (ft_lt f7) rfl rfl rfl (Nat.le_of_ble_eq_true rfl) dX3_allAreSo_49 (fun r8 _ => ?_)
            exact g_lv [1, 2, 3, 4, 5] rfl (hJ52 _ _ _ _ _ _ ho1  ih)
  unfold d_X3_allAreSo
  show GG p l e (headSpec wsX3_allAreSo rm_X3_allAreSo).room s m args below meth c D ad (shX ad cA) 37 7 (MQ below (QI D ad (shX ad cA) 37 s.heap.size (R0, M)) args s 0 0 (AX ad 37 s.heap.size)) R0 M 0 [(0, .ref (ad 25)), (1, .ref (ad o1)), (2, .int v2), (3, .int v3)] [] _
  refine g_iconst (v := 0) B dX3_allAreSo_0 (by decide) ?_
  refine g_istore B dX3_allAreSo_1 (by decide) (lv1 := [(4, .int (0 : Int32)), (0, .ref (ad 25)), (1, .ref (ad o1)), (2, .int v2), (3, .int v3)]) rfl ?_
  refine g_lv [1, 2, 3, 4, 0] rfl (hL3 _ _ _ ho1  FU _)

abbrev rm_X8_calves : Room := { frames := 3, cells := 0, slots := 0, locals := 67 }
set_option maxHeartbeats 4000000 in
set_option maxRecDepth 100000 in
theorem k_X8_calves (l : Launch) (D : va_G) (cA : Nat → ClassId) (ad : Nat → Nat) (had : adOK ad 37) (v1 : Int32) (M : Mem) : CI l yX8_calves wsX8_calves rm_X8_calves D cA ad (shX ad cA) 37 [.ref (ad 0), .int v1] M (wM M (d_X8_calves v1 M)) := by
  refine CI_ofp (own := RX8) (cc := cX8_calves) (maxL := 5) (rt := .int) had (by decide) rfl rfl (Nat.le_of_ble_eq_true rfl) ?_
  intro p e s m args below meth c R0 B hr hk
  have hL31 : ∀ (v1 : Int32) (v2 : Int32)    , ∀ (f : Nat) (v3 : Int32) (v4 : Int32), GG p l e (headSpec wsX8_calves rm_X8_calves).room s m args below meth c D ad (shX ad cA) 37 5 (MQ below (QI D ad (shX ad cA) 37 s.heap.size (R0, M)) args s 0 0 (AX ad 37 s.heap.size)) R0 M 31 [(0, .ref (ad 0)), (1, .int v1), (2, .int v2), (3, .int v3), (4, .int v4)] [] (dX8_calves_31l v1 v2 M  f v3 v4 ) := by
    intro v1 v2
    intro f
    induction f with
    | zero =>
      intro v3 v4
      exact g_none
    | succ f ih =>
      intro v3 v4
      rw [dX8_calves_31l]
      refine g_iload B dX8_calves_31 4 rfl ?_
      refine g_bipush (v := 9) B dX8_calves_33 (by decide) ?_
      refine g_icmp_gt (tgt := 72) B dX8_calves_35 (by decide) (fun c6 => ?_) (fun c6 => ?_)
      · refine g_iload_n B dX8_calves_72 3 rfl rfl ?_
        exact g_iretp B hr hk dX8_calves_73
      · refine g_aload_n B dX8_calves_38 0 rfl rfl ?_
        refine g_get (v := .ref (ad 25)) B shX_pw (by decide) in_X8_calves_X8 rfl 5 (by decide) (List.mem_of_getElem? (i := 2) rfl) rfl rfl dX8_calves_39 ?_
        refine g_aload_n B dX8_calves_42 0 rfl rfl ?_
        refine g_get (v := .ref (ad 6)) B shX_pw (by decide) in_X8_calves_X8 rfl 2 (by decide) (List.mem_of_getElem? (i := 1) rfl) rfl rfl dX8_calves_43 ?_
        refine g_iload_n B dX8_calves_46 1 rfl rfl ?_
        refine g_iload_n B dX8_calves_47 2 rfl rfl ?_
        refine g_iload B dX8_calves_48 4 rfl ?_
        refine g_callSIp (As := [.int v2, .int v4]) (st := [.int v1, .ref (ad 6), .ref (ad 25)]) B (k_X8_paceOf l D cA ad B.2.2.2.2.2.2.1 v2 v4 M) (va_cwS 2 B.2.2.2.2.1 gX8_calves_X8_paceOf rfl rfl rfl (by decide +kernel) ⟨Nat.le_of_ble_eq_true rfl, Nat.le_of_ble_eq_true rfl⟩) rfl rfl (Nat.le_of_ble_eq_true rfl) dX8_calves_50 (fun r7 _ => ?_)
        refine g_callVIp (q := (RX3, TX3, 4)) (As := [.ref (ad 6), .int v1, .int r7]) (st := []) B (k_X3_allAreSo l D cA ad B.2.2.2.2.2.2.1 6 co6 v1 r7 M) (cwV 3 B.2.2.2.2.1 gX8_calves_X3_allAreSo rfl rfl rfl (by decide +kernel) ⟨Nat.le_of_ble_eq_true rfl, Nat.le_of_ble_eq_true rfl⟩) shX_re (by decide) rfl rfl rfl (Nat.le_of_ble_eq_true rfl) dX8_calves_53 (fun r8 _ => ?_)
        refine g_if_eq (tgt := 66) B dX8_calves_56 (by decide) (fun c9 => ?_) (fun c9 => ?_)
        · refine g_iinc B dX8_calves_66 4 (v := v4 + (1 : Int32)) rfl rfl (by decide) (lv1 := [(4, .int (v4 + (1 : Int32))), (0, .ref (ad 0)), (1, .int v1), (2, .int v2), (3, .int v3)]) rfl ?_
          refine g_goto (tgt := 31) B dX8_calves_69 (by decide) ?_
          exact g_lv [1, 2, 3, 4, 0] rfl (ih _ _)
        · refine g_iload_n B dX8_calves_59 3 rfl rfl ?_
          refine g_iconst (v := 1) B dX8_calves_60 (by decide) ?_
          refine g_iload B dX8_calves_61 4 rfl ?_
          refine g_ishl B dX8_calves_63 ?_
          refine g_ior B dX8_calves_64 ?_
          refine g_lmI (fun x10 => ?_)
          refine g_istore_n B dX8_calves_65 rfl (by decide) (lv1 := [(3, .int x10), (0, .ref (ad 0)), (1, .int v1), (2, .int v2), (4, .int v4)]) rfl ?_
          refine g_iinc B dX8_calves_66 4 (v := v4 + (1 : Int32)) rfl rfl (by decide) (lv1 := [(4, .int (v4 + (1 : Int32))), (3, .int x10), (0, .ref (ad 0)), (1, .int v1), (2, .int v2)]) rfl ?_
          refine g_goto (tgt := 31) B dX8_calves_69 (by decide) ?_
          exact g_lv [2, 3, 4, 1, 0] rfl (ih _ _)
  unfold d_X8_calves
  show GG p l e (headSpec wsX8_calves rm_X8_calves).room s m args below meth c D ad (shX ad cA) 37 5 (MQ below (QI D ad (shX ad cA) 37 s.heap.size (R0, M)) args s 0 0 (AX ad 37 s.heap.size)) R0 M 0 [(0, .ref (ad 0)), (1, .int v1)] [] _
  refine g_aload_n B dX8_calves_0 0 rfl rfl ?_
  refine g_get (v := .ref (ad 6)) B shX_pw (by decide) in_X8_calves_X8 rfl 2 (by decide) (List.mem_of_getElem? (i := 1) rfl) rfl rfl dX8_calves_1 ?_
  refine g_iload_n B dX8_calves_4 1 rfl rfl ?_
  refine g_callVIp (q := (RX0, TX0, 2)) (As := [.int v1]) (st := []) B (k_X0_has l D cA ad B.2.2.2.2.2.2.1 6 co6 v1 M) (cwV 1 B.2.2.2.2.1 gX8_calves_X0_has rfl rfl rfl (by decide +kernel) ⟨Nat.le_of_ble_eq_true rfl, Nat.le_of_ble_eq_true rfl⟩) (shX_co co6) (co_lt co6) rfl rfl rfl (Nat.le_of_ble_eq_true rfl) dX8_calves_5 (fun r1 _ => ?_)
  refine g_if_ne (tgt := 13) B dX8_calves_8 (by decide) (fun c2 => ?_) (fun c2 => ?_)
  · refine g_iconst (v := -1) B dX8_calves_11 (by decide) ?_
    exact g_iretp B hr hk dX8_calves_12
  · refine g_aload_n B dX8_calves_13 0 rfl rfl ?_
    refine g_get (v := .ref (ad 6)) B shX_pw (by decide) in_X8_calves_X8 rfl 2 (by decide) (List.mem_of_getElem? (i := 1) rfl) rfl rfl dX8_calves_14 ?_
    refine g_getN (v := .ref (ad (6 + 1))) B (shX_co co6) (co_lt co6) in_X8_calves_X0 rfl 0 (by decide) 16 rfl rfl rfl dX8_calves_17 ?_
    refine g_iload_n B dX8_calves_20 1 rfl rfl ?_
    refine g_aald (g := (ft 6)) B 1 rfl (shX_fts co6) (fts_lt co6) dX8_calves_21 (fun b3 => ?_)
    have f4 := (ft_ok co6 b3)
    refine g_getN (v := .int (M ((ft 6) v1.toNatClampNeg) 0)) B (shX_ft f4) (ft_lt f4) in_X8_calves_X2 rfl 0 (by decide) 3 rfl rfl rfl dX8_calves_22 ?_
    refine g_lmI (fun x5 => ?_)
    refine g_istore_n B dX8_calves_25 rfl (by decide) (lv1 := [(2, .int x5), (0, .ref (ad 0)), (1, .int v1)]) rfl ?_
    refine g_iconst (v := 0) B dX8_calves_26 (by decide) ?_
    refine g_istore_n B dX8_calves_27 rfl (by decide) (lv1 := [(3, .int (0 : Int32)), (2, .int x5), (0, .ref (ad 0)), (1, .int v1)]) rfl ?_
    refine g_iconst (v := 1) B dX8_calves_28 (by decide) ?_
    refine g_istore B dX8_calves_29 (by decide) (lv1 := [(4, .int (1 : Int32)), (3, .int (0 : Int32)), (2, .int x5), (0, .ref (ad 0)), (1, .int v1)]) rfl ?_
    refine g_lv [3, 4, 2, 1, 0] rfl (hL31 _ _   FU _ _)

abbrev rm_X8_kinds : Room := { frames := 3, cells := 0, slots := 0, locals := 67 }
set_option maxHeartbeats 4000000 in
set_option maxRecDepth 100000 in
theorem k_X8_kinds (l : Launch) (D : va_G) (cA : Nat → ClassId) (ad : Nat → Nat) (had : adOK ad 37) (v1 : Int32) (M : Mem) : CI l yX8_kinds wsX8_kinds rm_X8_kinds D cA ad (shX ad cA) 37 [.ref (ad 0), .int v1] M (wM M (d_X8_kinds v1 M)) := by
  refine CI_ofp (own := RX8) (cc := cX8_kinds) (maxL := 5) (rt := .int) had (by decide) rfl rfl (Nat.le_of_ble_eq_true rfl) ?_
  intro p e s m args below meth c R0 B hr hk
  have hL31 : ∀ (v1 : Int32) (v2 : Int32)    , ∀ (f : Nat) (v3 : Int32) (v4 : Int32), GG p l e (headSpec wsX8_kinds rm_X8_kinds).room s m args below meth c D ad (shX ad cA) 37 5 (MQ below (QI D ad (shX ad cA) 37 s.heap.size (R0, M)) args s 0 0 (AX ad 37 s.heap.size)) R0 M 31 [(0, .ref (ad 0)), (1, .int v1), (2, .int v2), (3, .int v3), (4, .int v4)] [] (dX8_kinds_31l v1 v2 M  f v3 v4 ) := by
    intro v1 v2
    intro f
    induction f with
    | zero =>
      intro v3 v4
      exact g_none
    | succ f ih =>
      intro v3 v4
      rw [dX8_kinds_31l]
      refine g_iload B dX8_kinds_31 4 rfl ?_
      refine g_iconst (v := 2) B dX8_kinds_33 (by decide) ?_
      refine g_icmp_gt (tgt := 71) B dX8_kinds_34 (by decide) (fun c6 => ?_) (fun c6 => ?_)
      · refine g_iload_n B dX8_kinds_71 3 rfl rfl ?_
        exact g_iretp B hr hk dX8_kinds_72
      · refine g_aload_n B dX8_kinds_37 0 rfl rfl ?_
        refine g_get (v := .ref (ad 25)) B shX_pw (by decide) in_X8_kinds_X8 rfl 5 (by decide) (List.mem_of_getElem? (i := 2) rfl) rfl rfl dX8_kinds_38 ?_
        refine g_aload_n B dX8_kinds_41 0 rfl rfl ?_
        refine g_get (v := .ref (ad 6)) B shX_pw (by decide) in_X8_kinds_X8 rfl 2 (by decide) (List.mem_of_getElem? (i := 1) rfl) rfl rfl dX8_kinds_42 ?_
        refine g_iload_n B dX8_kinds_45 1 rfl rfl ?_
        refine g_iload B dX8_kinds_46 4 rfl ?_
        refine g_iload_n B dX8_kinds_48 2 rfl rfl ?_
        refine g_callSIp (As := [.int v4, .int v2]) (st := [.int v1, .ref (ad 6), .ref (ad 25)]) B (k_X8_paceOf l D cA ad B.2.2.2.2.2.2.1 v4 v2 M) (va_cwS 2 B.2.2.2.2.1 gX8_kinds_X8_paceOf rfl rfl rfl (by decide +kernel) ⟨Nat.le_of_ble_eq_true rfl, Nat.le_of_ble_eq_true rfl⟩) rfl rfl (Nat.le_of_ble_eq_true rfl) dX8_kinds_49 (fun r7 _ => ?_)
        refine g_callVIp (q := (RX3, TX3, 4)) (As := [.ref (ad 6), .int v1, .int r7]) (st := []) B (k_X3_allAreSo l D cA ad B.2.2.2.2.2.2.1 6 co6 v1 r7 M) (cwV 3 B.2.2.2.2.1 gX8_kinds_X3_allAreSo rfl rfl rfl (by decide +kernel) ⟨Nat.le_of_ble_eq_true rfl, Nat.le_of_ble_eq_true rfl⟩) shX_re (by decide) rfl rfl rfl (Nat.le_of_ble_eq_true rfl) dX8_kinds_52 (fun r8 _ => ?_)
        refine g_if_eq (tgt := 65) B dX8_kinds_55 (by decide) (fun c9 => ?_) (fun c9 => ?_)
        · refine g_iinc B dX8_kinds_65 4 (v := v4 + (1 : Int32)) rfl rfl (by decide) (lv1 := [(4, .int (v4 + (1 : Int32))), (0, .ref (ad 0)), (1, .int v1), (2, .int v2), (3, .int v3)]) rfl ?_
          refine g_goto (tgt := 31) B dX8_kinds_68 (by decide) ?_
          exact g_lv [1, 2, 3, 4, 0] rfl (ih _ _)
        · refine g_iload_n B dX8_kinds_58 3 rfl rfl ?_
          refine g_iconst (v := 1) B dX8_kinds_59 (by decide) ?_
          refine g_iload B dX8_kinds_60 4 rfl ?_
          refine g_ishl B dX8_kinds_62 ?_
          refine g_ior B dX8_kinds_63 ?_
          refine g_lmI (fun x10 => ?_)
          refine g_istore_n B dX8_kinds_64 rfl (by decide) (lv1 := [(3, .int x10), (0, .ref (ad 0)), (1, .int v1), (2, .int v2), (4, .int v4)]) rfl ?_
          refine g_iinc B dX8_kinds_65 4 (v := v4 + (1 : Int32)) rfl rfl (by decide) (lv1 := [(4, .int (v4 + (1 : Int32))), (3, .int x10), (0, .ref (ad 0)), (1, .int v1), (2, .int v2)]) rfl ?_
          refine g_goto (tgt := 31) B dX8_kinds_68 (by decide) ?_
          exact g_lv [2, 3, 4, 1, 0] rfl (ih _ _)
  unfold d_X8_kinds
  show GG p l e (headSpec wsX8_kinds rm_X8_kinds).room s m args below meth c D ad (shX ad cA) 37 5 (MQ below (QI D ad (shX ad cA) 37 s.heap.size (R0, M)) args s 0 0 (AX ad 37 s.heap.size)) R0 M 0 [(0, .ref (ad 0)), (1, .int v1)] [] _
  refine g_aload_n B dX8_kinds_0 0 rfl rfl ?_
  refine g_get (v := .ref (ad 6)) B shX_pw (by decide) in_X8_kinds_X8 rfl 2 (by decide) (List.mem_of_getElem? (i := 1) rfl) rfl rfl dX8_kinds_1 ?_
  refine g_iload_n B dX8_kinds_4 1 rfl rfl ?_
  refine g_callVIp (q := (RX0, TX0, 2)) (As := [.int v1]) (st := []) B (k_X0_has l D cA ad B.2.2.2.2.2.2.1 6 co6 v1 M) (cwV 1 B.2.2.2.2.1 gX8_kinds_X0_has rfl rfl rfl (by decide +kernel) ⟨Nat.le_of_ble_eq_true rfl, Nat.le_of_ble_eq_true rfl⟩) (shX_co co6) (co_lt co6) rfl rfl rfl (Nat.le_of_ble_eq_true rfl) dX8_kinds_5 (fun r1 _ => ?_)
  refine g_if_ne (tgt := 13) B dX8_kinds_8 (by decide) (fun c2 => ?_) (fun c2 => ?_)
  · refine g_iconst (v := -1) B dX8_kinds_11 (by decide) ?_
    exact g_iretp B hr hk dX8_kinds_12
  · refine g_aload_n B dX8_kinds_13 0 rfl rfl ?_
    refine g_get (v := .ref (ad 6)) B shX_pw (by decide) in_X8_kinds_X8 rfl 2 (by decide) (List.mem_of_getElem? (i := 1) rfl) rfl rfl dX8_kinds_14 ?_
    refine g_getN (v := .ref (ad (6 + 1))) B (shX_co co6) (co_lt co6) in_X8_kinds_X0 rfl 0 (by decide) 16 rfl rfl rfl dX8_kinds_17 ?_
    refine g_iload_n B dX8_kinds_20 1 rfl rfl ?_
    refine g_aald (g := (ft 6)) B 1 rfl (shX_fts co6) (fts_lt co6) dX8_kinds_21 (fun b3 => ?_)
    have f4 := (ft_ok co6 b3)
    refine g_getN (v := .int (M ((ft 6) v1.toNatClampNeg) 3)) B (shX_ft f4) (ft_lt f4) in_X8_kinds_X2 rfl 3 (by decide) 10 rfl rfl rfl dX8_kinds_22 ?_
    refine g_lmI (fun x5 => ?_)
    refine g_istore_n B dX8_kinds_25 rfl (by decide) (lv1 := [(2, .int x5), (0, .ref (ad 0)), (1, .int v1)]) rfl ?_
    refine g_iconst (v := 0) B dX8_kinds_26 (by decide) ?_
    refine g_istore_n B dX8_kinds_27 rfl (by decide) (lv1 := [(3, .int (0 : Int32)), (2, .int x5), (0, .ref (ad 0)), (1, .int v1)]) rfl ?_
    refine g_iconst (v := 0) B dX8_kinds_28 (by decide) ?_
    refine g_istore B dX8_kinds_29 (by decide) (lv1 := [(4, .int (0 : Int32)), (3, .int (0 : Int32)), (2, .int x5), (0, .ref (ad 0)), (1, .int v1)]) rfl ?_
    refine g_lv [3, 4, 2, 1, 0] rfl (hL31 _ _   FU _ _)

abbrev rm_X8_commonPart : Room := { frames := 0, cells := 0, slots := 0, locals := 0 }
set_option maxHeartbeats 4000000 in
set_option maxRecDepth 100000 in
theorem k_X8_commonPart (l : Launch) (D : va_G) (cA : Nat → ClassId) (ad : Nat → Nat) (had : adOK ad 37) (v0 : Int32) (v1 : Int32) (M : Mem) : CI l yX8_commonPart wsX8_commonPart rm_X8_commonPart D cA ad (shX ad cA) 37 [.int v0, .int v1] M (wM M (d_X8_commonPart v0 v1 M)) := by
  refine CI_ofp (own := RX8) (cc := cX8_commonPart) (maxL := 3) (rt := .int) had (by decide) rfl rfl (Nat.le_of_ble_eq_true rfl) ?_
  intro p e s m args below meth c R0 B hr hk
  have hL2 : ∀ (v0 : Int32) (v1 : Int32)    , ∀ (f : Nat) (v2 : Int32), GG p l e (headSpec wsX8_commonPart rm_X8_commonPart).room s m args below meth c D ad (shX ad cA) 37 3 (MQ below (QI D ad (shX ad cA) 37 s.heap.size (R0, M)) args s 0 0 (AX ad 37 s.heap.size)) R0 M 2 [(0, .int v0), (1, .int v1), (2, .int v2)] [] (dX8_commonPart_2l v0 v1 M  f v2 ) := by
    intro v0 v1
    intro f
    induction f with
    | zero =>
      intro v2
      exact g_none
    | succ f ih =>
      intro v2
      rw [dX8_commonPart_2l]
      refine g_iload_n B dX8_commonPart_2 2 rfl rfl ?_
      refine g_iconst (v := 1) B dX8_commonPart_3 (by decide) ?_
      refine g_icmp_le (tgt := 27) B dX8_commonPart_4 (by decide) (fun c1 => ?_) (fun c1 => ?_)
      · refine g_iconst (v := 1) B dX8_commonPart_27 (by decide) ?_
        exact g_iretp B hr hk dX8_commonPart_28
      · refine g_iload_n B dX8_commonPart_7 0 rfl rfl ?_
        refine g_iload_n B dX8_commonPart_8 2 rfl rfl ?_
        refine g_irem B dX8_commonPart_9 ?_
        refine g_if_ne (tgt := 21) B dX8_commonPart_10 (by decide) (fun c2 => ?_) (fun c2 => ?_)
        · refine g_iload_n B dX8_commonPart_13 1 rfl rfl ?_
          refine g_iload_n B dX8_commonPart_14 2 rfl rfl ?_
          refine g_irem B dX8_commonPart_15 ?_
          refine g_if_ne (tgt := 21) B dX8_commonPart_16 (by decide) (fun c3 => ?_) (fun c3 => ?_)
          · refine g_iload_n B dX8_commonPart_19 2 rfl rfl ?_
            exact g_iretp B hr hk dX8_commonPart_20
          · refine g_iinc B dX8_commonPart_21 2 (v := v2 + (-1 : Int32)) rfl rfl (by decide) (lv1 := [(2, .int (v2 + (-1 : Int32))), (0, .int v0), (1, .int v1)]) rfl ?_
            refine g_goto (tgt := 2) B dX8_commonPart_24 (by decide) ?_
            exact g_lv [1, 2, 0] rfl (ih _)
        · refine g_iinc B dX8_commonPart_21 2 (v := v2 + (-1 : Int32)) rfl rfl (by decide) (lv1 := [(2, .int (v2 + (-1 : Int32))), (0, .int v0), (1, .int v1)]) rfl ?_
          refine g_goto (tgt := 2) B dX8_commonPart_24 (by decide) ?_
          exact g_lv [1, 2, 0] rfl (ih _)
  unfold d_X8_commonPart
  show GG p l e (headSpec wsX8_commonPart rm_X8_commonPart).room s m args below meth c D ad (shX ad cA) 37 3 (MQ below (QI D ad (shX ad cA) 37 s.heap.size (R0, M)) args s 0 0 (AX ad 37 s.heap.size)) R0 M 0 [(0, .int v0), (1, .int v1)] [] _
  refine g_iload_n B dX8_commonPart_0 1 rfl rfl ?_
  refine g_istore_n B dX8_commonPart_1 rfl (by decide) (lv1 := [(2, .int v1), (0, .int v0), (1, .int v1)]) rfl ?_
  refine g_lv [1, 2, 0] rfl (hL2 _ _   FU _)

abbrev rm_X8_odds : Room := { frames := 3, cells := 0, slots := 0, locals := 67 }
set_option maxHeartbeats 4000000 in
set_option maxRecDepth 100000 in
theorem k_X8_odds (l : Launch) (D : va_G) (cA : Nat → ClassId) (ad : Nat → Nat) (had : adOK ad 37) (v1 : Int32) (v2 : Int32) (v3 : Int32) (M : Mem) : CL l yX8_odds wsX8_odds rm_X8_odds D cA ad (shX ad cA) 37 [.ref (ad 0), .int v1, .int v2, .int v3] M (wM M (d_X8_odds v1 v2 v3 M)) := by
  refine CL_ofp (own := RX8) (cc := cX8_odds) (maxL := 8) (rt := .long) had (by decide) rfl rfl (Nat.le_of_ble_eq_true rfl) ?_
  intro p e s m args below meth c R0 B hr hk
  have hL51 : ∀ (v2 : Int32) (v3 : Int32) (o4 : Nat)  (k51_97 : Int32 → Option Int64) (ho4 : isFt o4) (hk51_97 : ∀ (w5 : Int32), GG p l e (headSpec wsX8_odds rm_X8_odds).room s m args below meth c D ad (shX ad cA) 37 8 (MQ below (QL D ad (shX ad cA) 37 s.heap.size (R0, M)) args s 0 0 (AX ad 37 s.heap.size)) R0 M 97 [(0, .ref (ad 0)), (3, .int v3), (5, .int w5)] [] (k51_97 w5)), ∀ (f : Nat) (v5 : Int32) (v6 : Int32), GG p l e (headSpec wsX8_odds rm_X8_odds).room s m args below meth c D ad (shX ad cA) 37 8 (MQ below (QL D ad (shX ad cA) 37 s.heap.size (R0, M)) args s 0 0 (AX ad 37 s.heap.size)) R0 M 51 [(0, .ref (ad 0)), (2, .int v2), (3, .int v3), (4, .ref (ad o4)), (5, .int v5), (6, .int v6)] [] (dX8_odds_51l v2 v3 o4 M k51_97 f v5 v6 ) := by
    intro v2 v3 o4 k51_97 ho4 hk51_97
    intro f
    induction f with
    | zero =>
      intro v5 v6
      exact g_none
    | succ f ih =>
      intro v5 v6
      rw [dX8_odds_51l]
      refine g_iload B dX8_odds_51 5 rfl ?_
      refine g_aload_n B dX8_odds_53 0 rfl rfl ?_
      refine g_get (v := .ref (ad 2)) B shX_pw (by decide) in_X8_odds_X8 rfl 1 (by decide) (List.mem_of_getElem? (i := 3) rfl) rfl rfl dX8_odds_54 ?_
      refine g_getN (v := .int (M 2 3)) B shX_st (by decide) in_X8_odds_X6 rfl 3 (by decide) 1 rfl rfl rfl dX8_odds_57 ?_
      refine g_icmp_ge (tgt := 97) B dX8_odds_60 (by decide) (fun c9 => ?_) (fun c9 => ?_)
      · exact g_lv [0, 2, 4] rfl (hk51_97 _)
      · refine g_iload B dX8_odds_63 5 rfl ?_
        refine g_aload B dX8_odds_65 3 rfl ?_
        refine g_getN (v := .int (M o4 1)) B (shX_ft ho4) (ft_lt ho4) in_X8_odds_X2 rfl 1 (by decide) 5 rfl rfl rfl dX8_odds_67 ?_
        refine g_icmp_eq (tgt := 91) B dX8_odds_70 (by decide) (fun c10 => ?_) (fun c10 => ?_)
        · refine g_iinc B dX8_odds_91 5 (v := v6 + (1 : Int32)) rfl rfl (by decide) (lv1 := [(6, .int (v6 + (1 : Int32))), (0, .ref (ad 0)), (2, .int v2), (3, .int v3), (4, .ref (ad o4)), (5, .int v5)]) rfl ?_
          refine g_goto (tgt := 51) B dX8_odds_94 (by decide) ?_
          exact g_lv [1, 2, 3, 4, 5, 0] rfl (ih _ _)
        · refine g_aload B dX8_odds_73 3 rfl ?_
          refine g_iload B dX8_odds_75 5 rfl ?_
          refine g_aload_n B dX8_odds_77 0 rfl rfl ?_
          refine g_get (v := .ref (ad 2)) B shX_pw (by decide) in_X8_odds_X8 rfl 1 (by decide) (List.mem_of_getElem? (i := 3) rfl) rfl rfl dX8_odds_78 ?_
          refine g_callVIp (q := (RX2, TX2, 6)) (As := [.int v6, .ref (ad 2)]) (st := []) B (k_X2_daysTo l D cA ad B.2.2.2.2.2.2.1 o4 ho4 v6 M) (cwV 2 B.2.2.2.2.1 gX8_odds_X2_daysTo rfl rfl rfl (by decide +kernel) ⟨Nat.le_of_ble_eq_true rfl, Nat.le_of_ble_eq_true rfl⟩) (shX_ft ho4) (ft_lt ho4) rfl rfl rfl (Nat.le_of_ble_eq_true rfl) dX8_odds_81 (fun r11 _ => ?_)
          refine g_iload_n B dX8_odds_84 1 rfl rfl ?_
          refine g_icmp_gt (tgt := 91) B dX8_odds_85 (by decide) (fun c12 => ?_) (fun c12 => ?_)
          · refine g_iinc B dX8_odds_91 5 (v := v6 + (1 : Int32)) rfl rfl (by decide) (lv1 := [(6, .int (v6 + (1 : Int32))), (0, .ref (ad 0)), (2, .int v2), (3, .int v3), (4, .ref (ad o4)), (5, .int v5)]) rfl ?_
            refine g_goto (tgt := 51) B dX8_odds_94 (by decide) ?_
            exact g_lv [1, 2, 3, 4, 5, 0] rfl (ih _ _)
          · refine g_iinc B dX8_odds_88 4 (v := v5 + (1 : Int32)) rfl rfl (by decide) (lv1 := [(5, .int (v5 + (1 : Int32))), (0, .ref (ad 0)), (2, .int v2), (3, .int v3), (4, .ref (ad o4)), (6, .int v6)]) rfl ?_
            refine g_iinc B dX8_odds_91 5 (v := v6 + (1 : Int32)) rfl rfl (by decide) (lv1 := [(6, .int (v6 + (1 : Int32))), (5, .int (v5 + (1 : Int32))), (0, .ref (ad 0)), (2, .int v2), (3, .int v3), (4, .ref (ad o4))]) rfl ?_
            refine g_goto (tgt := 51) B dX8_odds_94 (by decide) ?_
            exact g_lv [2, 3, 4, 5, 1, 0] rfl (ih _ _)
  unfold d_X8_odds
  show GG p l e (headSpec wsX8_odds rm_X8_odds).room s m args below meth c D ad (shX ad cA) 37 8 (MQ below (QL D ad (shX ad cA) 37 s.heap.size (R0, M)) args s 0 0 (AX ad 37 s.heap.size)) R0 M 0 [(0, .ref (ad 0)), (1, .int v1), (2, .int v2), (3, .int v3)] [] _
  refine g_aload_n B dX8_odds_0 0 rfl rfl ?_
  refine g_get (v := .ref (ad 6)) B shX_pw (by decide) in_X8_odds_X8 rfl 2 (by decide) (List.mem_of_getElem? (i := 1) rfl) rfl rfl dX8_odds_1 ?_
  refine g_iload_n B dX8_odds_4 1 rfl rfl ?_
  refine g_callVIp (q := (RX0, TX0, 2)) (As := [.int v1]) (st := []) B (k_X0_has l D cA ad B.2.2.2.2.2.2.1 6 co6 v1 M) (cwV 1 B.2.2.2.2.1 gX8_odds_X0_has rfl rfl rfl (by decide +kernel) ⟨Nat.le_of_ble_eq_true rfl, Nat.le_of_ble_eq_true rfl⟩) (shX_co co6) (co_lt co6) rfl rfl rfl (Nat.le_of_ble_eq_true rfl) dX8_odds_5 (fun r1 _ => ?_)
  refine g_if_eq (tgt := 30) B dX8_odds_8 (by decide) (fun c2 => ?_) (fun c2 => ?_)
  · refine g_ldc2 (v := -9223372036854775808) B dX8_odds_30 (List.mem_of_getElem? (i := 2) rfl) ?_
    exact g_lretp B hr hk dX8_odds_33
  · refine g_iload_n B dX8_odds_11 2 rfl rfl ?_
    refine g_if_lt (tgt := 30) B dX8_odds_12 (by decide) (fun c3 => ?_) (fun c3 => ?_)
    · refine g_ldc2 (v := -9223372036854775808) B dX8_odds_30 (List.mem_of_getElem? (i := 2) rfl) ?_
      exact g_lretp B hr hk dX8_odds_33
    · refine g_iload_n B dX8_odds_15 2 rfl rfl ?_
      refine g_bipush (v := 99) B dX8_odds_16 (by decide) ?_
      refine g_icmp_gt (tgt := 30) B dX8_odds_18 (by decide) (fun c4 => ?_) (fun c4 => ?_)
      · refine g_ldc2 (v := -9223372036854775808) B dX8_odds_30 (List.mem_of_getElem? (i := 2) rfl) ?_
        exact g_lretp B hr hk dX8_odds_33
      · refine g_iload_n B dX8_odds_21 3 rfl rfl ?_
        refine g_if_lt (tgt := 30) B dX8_odds_22 (by decide) (fun c5 => ?_) (fun c5 => ?_)
        · refine g_ldc2 (v := -9223372036854775808) B dX8_odds_30 (List.mem_of_getElem? (i := 2) rfl) ?_
          exact g_lretp B hr hk dX8_odds_33
        · refine g_iload_n B dX8_odds_25 3 rfl rfl ?_
          refine g_iconst (v := 1) B dX8_odds_26 (by decide) ?_
          refine g_icmp_le (tgt := 34) B dX8_odds_27 (by decide) (fun c6 => ?_) (fun c6 => ?_)
          · refine g_aload_n B dX8_odds_34 0 rfl rfl ?_
            refine g_get (v := .ref (ad 6)) B shX_pw (by decide) in_X8_odds_X8 rfl 2 (by decide) (List.mem_of_getElem? (i := 1) rfl) rfl rfl dX8_odds_35 ?_
            refine g_getN (v := .ref (ad (6 + 1))) B (shX_co co6) (co_lt co6) in_X8_odds_X0 rfl 0 (by decide) 16 rfl rfl rfl dX8_odds_38 ?_
            refine g_iload_n B dX8_odds_41 1 rfl rfl ?_
            refine g_aald (g := (ft 6)) B 1 rfl (shX_fts co6) (fts_lt co6) dX8_odds_42 (fun b7 => ?_)
            have f8 := (ft_ok co6 b7)
            refine g_astore B dX8_odds_43 (by decide) (lv1 := [(4, .ref (ad ((ft 6) v1.toNatClampNeg))), (0, .ref (ad 0)), (1, .int v1), (2, .int v2), (3, .int v3)]) rfl ?_
            refine g_iconst (v := 0) B dX8_odds_45 (by decide) ?_
            refine g_istore B dX8_odds_46 (by decide) (lv1 := [(5, .int (0 : Int32)), (4, .ref (ad ((ft 6) v1.toNatClampNeg))), (0, .ref (ad 0)), (1, .int v1), (2, .int v2), (3, .int v3)]) rfl ?_
            refine g_iconst (v := 0) B dX8_odds_48 (by decide) ?_
            refine g_istore B dX8_odds_49 (by decide) (lv1 := [(6, .int (0 : Int32)), (5, .int (0 : Int32)), (4, .ref (ad ((ft 6) v1.toNatClampNeg))), (0, .ref (ad 0)), (1, .int v1), (2, .int v2), (3, .int v3)]) rfl ?_
            refine g_lv [3, 5, 6, 2, 1, 0] rfl (hL51 _ _ _ _ f8 ?_ FU _ _)
            · intro w13
              refine g_aload_n B dX8_odds_97 0 rfl rfl ?_
              refine g_get (v := .ref (ad 2)) B shX_pw (by decide) in_X8_odds_X8 rfl 1 (by decide) (List.mem_of_getElem? (i := 3) rfl) rfl rfl dX8_odds_98 ?_
              refine g_getN (v := .int (M 2 3)) B shX_st (by decide) in_X8_odds_X6 rfl 3 (by decide) 1 rfl rfl rfl dX8_odds_101 ?_
              refine g_iconst (v := 1) B dX8_odds_104 (by decide) ?_
              refine g_isub B dX8_odds_105 ?_
              refine g_lmI (fun x14 => ?_)
              refine g_istore B dX8_odds_106 (by decide) (lv1 := [(6, .int x14), (0, .ref (ad 0)), (3, .int v3), (5, .int w13)]) rfl ?_
              refine g_iload B dX8_odds_108 3 rfl ?_
              refine g_iload B dX8_odds_110 0 rfl ?_
              refine g_callSIp (As := [.int w13, .int x14]) (st := []) B (k_X8_commonPart l D cA ad B.2.2.2.2.2.2.1 w13 x14 M) (va_cwS 2 B.2.2.2.2.1 gX8_odds_X8_commonPart rfl rfl rfl (by decide +kernel) ⟨Nat.le_of_ble_eq_true rfl, Nat.le_of_ble_eq_true rfl⟩) rfl rfl (Nat.le_of_ble_eq_true rfl) dX8_odds_112 (fun r15 _ => ?_)
              refine g_istore B dX8_odds_115 (by decide) (lv1 := [(7, .int r15), (6, .int x14), (0, .ref (ad 0)), (3, .int v3), (5, .int w13)]) rfl ?_
              refine g_iload_n B dX8_odds_117 3 rfl rfl ?_
              refine g_if_ne (tgt := 130) B dX8_odds_118 (by decide) (fun c16 => ?_) (fun c16 => ?_)
              · refine g_iload B dX8_odds_121 4 rfl ?_
                refine g_iload B dX8_odds_123 0 rfl ?_
                refine g_idiv B dX8_odds_125 ?_
                refine g_i2l B dX8_odds_126 ?_
                refine g_goto (tgt := 136) B dX8_odds_127 (by decide) ?_
                exact g_lretp B hr hk dX8_odds_136
              · refine g_iload B dX8_odds_130 1 rfl ?_
                refine g_iload B dX8_odds_132 0 rfl ?_
                refine g_idiv B dX8_odds_134 ?_
                refine g_i2l B dX8_odds_135 ?_
                exact g_lretp B hr hk dX8_odds_136
          · refine g_ldc2 (v := -9223372036854775808) B dX8_odds_30 (List.mem_of_getElem? (i := 2) rfl) ?_
            exact g_lretp B hr hk dX8_odds_33

abbrev rm_X5_renew : Room := { frames := 1, cells := 0, slots := 0, locals := 24 }
set_option maxHeartbeats 4000000 in
set_option maxRecDepth 100000 in
theorem k_X5_renew (l : Launch) (D : va_G) (cA : Nat → ClassId) (ad : Nat → Nat) (had : adOK ad 37) (o0 : Nat) (ho0 : isSh o0) (v1 : Int32) (v2 : Int32) (M : Mem) : CV l yX5_renew wsX5_renew rm_X5_renew D cA ad (shX ad cA) 37 [.ref (ad o0), .int v1, .int v2] M (d_X5_renew o0 v1 v2 M) := by
  refine CV_of (own := RX5) (cc := cX5_renew) (maxL := 4) had (by decide) rfl rfl (Nat.le_of_ble_eq_true rfl) ?_
  intro p e s m args below meth c R0 B hr hk
  have hL21 : ∀ (o0 : Nat)   (ho0 : isSh o0) , ∀ (f : Nat) (v3 : Int32) (M : Mem), GG p l e (headSpec wsX5_renew rm_X5_renew).room s m args below meth c D ad (shX ad cA) 37 4 (MQ below (QV D ad (shX ad cA) 37 s.heap.size R0) args s 0 0 (AX ad 37 s.heap.size)) R0 M 21 [(0, .ref (ad o0)), (3, .int v3)] [] (dX5_renew_21l o0   f v3 M) := by
    intro o0 ho0
    intro f
    induction f with
    | zero =>
      intro v3 M
      exact g_none
    | succ f ih =>
      intro v3 M
      rw [dX5_renew_21l]
      refine g_iload_n B dX5_renew_21 1 rfl rfl ?_
      refine g_aload_n B dX5_renew_22 0 rfl rfl ?_
      refine g_get (v := .int (M o0 2)) B (shX_sh ho0) (sh_lt ho0) in_X5_renew_X5 rfl 2 (by decide) (List.mem_of_getElem? (i := 9) rfl) rfl rfl dX5_renew_23 ?_
      refine g_icmp_ge (tgt := 42) B dX5_renew_26 (by decide) (fun c3 => ?_) (fun c3 => ?_)
      · exact g_vret B hr hk dX5_renew_42
      · refine g_aload_n B dX5_renew_29 0 rfl rfl ?_
        refine g_get (v := .ref (ad (o0 + 1))) B (shX_sh ho0) (sh_lt ho0) in_X5_renew_X5 rfl 0 (by decide) (List.mem_of_getElem? (i := 10) rfl) rfl rfl dX5_renew_30 ?_
        refine g_iload_n B dX5_renew_33 1 rfl rfl ?_
        refine g_iconst (v := 0) B dX5_renew_34 (by decide) ?_
        refine g_iast B (shX_ce ho0) (ce_lt ho0) dX5_renew_35 (g_lmM (fun M4 => ?_))
        refine g_iinc B dX5_renew_36 1 (v := v3 + (1 : Int32)) rfl rfl (by decide) (lv1 := [(3, .int (v3 + (1 : Int32))), (0, .ref (ad o0))]) rfl ?_
        refine g_goto (tgt := 21) B dX5_renew_39 (by decide) ?_
        exact g_lv [1, 0] rfl (ih _ _)
  unfold d_X5_renew
  show GG p l e (headSpec wsX5_renew rm_X5_renew).room s m args below meth c D ad (shX ad cA) 37 4 (MQ below (QV D ad (shX ad cA) 37 s.heap.size R0) args s 0 0 (AX ad 37 s.heap.size)) R0 M 0 [(0, .ref (ad o0)), (1, .int v1), (2, .int v2)] [] _
  refine g_aload_n B dX5_renew_0 0 rfl rfl ?_
  refine g_iload_n B dX5_renew_1 1 rfl rfl ?_
  refine g_put (ty := .int) B (shX_sh ho0) (sh_lt ho0) in_X5_renew_X5 tyX5_ok nmX5 rfl 1 (by decide) (List.mem_of_getElem? (i := 1) rfl) rfl rfl (by decide +kernel) rfl rfl (fun _ => Nat.le_of_ble_eq_true rfl) (fun _ _ => rfl) dX5_renew_2 (g_lmM (fun M1 => ?_))
  refine g_aload_n B dX5_renew_5 0 rfl rfl ?_
  refine g_iconst (v := 0) B dX5_renew_6 (by decide) ?_
  refine g_iload_n B dX5_renew_7 2 rfl rfl ?_
  refine g_bipush (v := 60) B dX5_renew_8 (by decide) ?_
  refine g_min B dX5_renew_10 (List.mem_of_getElem? (i := 2) rfl) (List.mem_of_getElem? (i := 3) rfl) (List.mem_of_getElem? (i := 4) rfl) (List.mem_of_getElem? (i := 5) rfl) (Nat.le_of_ble_eq_true rfl) (Nat.le_of_ble_eq_true rfl) ?_
  refine g_max B dX5_renew_13 (List.mem_of_getElem? (i := 6) rfl) (List.mem_of_getElem? (i := 7) rfl) (List.mem_of_getElem? (i := 4) rfl) (List.mem_of_getElem? (i := 8) rfl) (Nat.le_of_ble_eq_true rfl) (Nat.le_of_ble_eq_true rfl) ?_
  refine g_put (ty := .int) B (shX_sh ho0) (sh_lt ho0) in_X5_renew_X5 tyX5_ok nmX5 rfl 2 (by decide) (List.mem_of_getElem? (i := 9) rfl) rfl rfl (by decide +kernel) rfl rfl (fun _ => Nat.le_of_ble_eq_true rfl) (fun _ _ => rfl) dX5_renew_16 (g_lmM (fun M2 => ?_))
  refine g_iconst (v := 0) B dX5_renew_19 (by decide) ?_
  refine g_istore_n B dX5_renew_20 rfl (by decide) (lv1 := [(3, .int (0 : Int32)), (0, .ref (ad o0)), (1, .int v1), (2, .int v2)]) rfl ?_
  refine g_lv [1, 0] rfl (hL21 _ ho0  FU _ _)

abbrev rm_X8_sheet : Room := { frames := 2, cells := 0, slots := 0, locals := 47 }
set_option maxHeartbeats 4000000 in
set_option maxRecDepth 100000 in
theorem k_X8_sheet (l : Launch) (D : va_G) (cA : Nat → ClassId) (ad : Nat → Nat) (had : adOK ad 37) (v1 : Int32) (v2 : Int32) (v3 : Int32) (M : Mem) : CI l yX8_sheet wsX8_sheet rm_X8_sheet D cA ad (shX ad cA) 37 [.ref (ad 0), .int v1, .int v2, .int v3] M (d_X8_sheet v1 v2 v3 M) := by
  refine CI_of (own := RX8) (cc := cX8_sheet) (maxL := 4) (rt := .int) had (by decide) rfl rfl (Nat.le_of_ble_eq_true rfl) ?_
  intro p e s m args below meth c R0 B hr hk
  unfold d_X8_sheet
  show GG p l e (headSpec wsX8_sheet rm_X8_sheet).room s m args below meth c D ad (shX ad cA) 37 4 (MQ below (QI D ad (shX ad cA) 37 s.heap.size R0) args s 0 0 (AX ad 37 s.heap.size)) R0 M 0 [(0, .ref (ad 0)), (1, .int v1), (2, .int v2), (3, .int v3)] [] _
  refine g_aload_n B dX8_sheet_0 0 rfl rfl ?_
  refine g_iconst (v := 0) B dX8_sheet_1 (by decide) ?_
  refine g_put (ty := .int) B shX_pw (by decide) in_X8_sheet_X8 tyX8_ok nmX8 rfl 8 (by decide) (List.mem_of_getElem? (i := 1) rfl) rfl rfl (by decide +kernel) rfl rfl (fun _ => Nat.le_of_ble_eq_true rfl) (fun _ _ => rfl) dX8_sheet_2 (g_lmM (fun M1 => ?_))
  refine g_iload_n B dX8_sheet_5 1 rfl rfl ?_
  refine g_callSIp (As := [.int v1]) (st := []) B (k_X8_isSheet l D cA ad B.2.2.2.2.2.2.1 v1 M1) (va_cwS 1 B.2.2.2.2.1 gX8_sheet_X8_isSheet rfl rfl rfl (by decide +kernel) ⟨Nat.le_of_ble_eq_true rfl, Nat.le_of_ble_eq_true rfl⟩) rfl rfl (Nat.le_of_ble_eq_true rfl) dX8_sheet_6 (fun r2 _ => ?_)
  refine g_if_ne (tgt := 14) B dX8_sheet_9 (by decide) (fun c3 => ?_) (fun c3 => ?_)
  · refine g_iconst (v := -1) B dX8_sheet_12 (by decide) ?_
    exact g_iret B hr hk dX8_sheet_13
  · refine g_iload_n B dX8_sheet_14 2 rfl rfl ?_
    refine g_callSIp (As := [.int v2]) (st := []) B (k_X8_isLane l D cA ad B.2.2.2.2.2.2.1 v2 M1) (va_cwS 1 B.2.2.2.2.1 gX8_sheet_X8_isLane rfl rfl rfl (by decide +kernel) ⟨Nat.le_of_ble_eq_true rfl, Nat.le_of_ble_eq_true rfl⟩) rfl rfl (Nat.le_of_ble_eq_true rfl) dX8_sheet_15 (fun r4 _ => ?_)
    refine g_if_eq (tgt := 27) B dX8_sheet_18 (by decide) (fun c5 => ?_) (fun c5 => ?_)
    · refine g_bipush (v := -2) B dX8_sheet_27 (by decide) ?_
      exact g_iret B hr hk dX8_sheet_29
    · refine g_iload_n B dX8_sheet_21 3 rfl rfl ?_
      refine g_bipush (v := 60) B dX8_sheet_22 (by decide) ?_
      refine g_icmp_le (tgt := 30) B dX8_sheet_24 (by decide) (fun c6 => ?_) (fun c6 => ?_)
      · refine g_iload_n B dX8_sheet_30 3 rfl rfl ?_
        refine g_if_ge (tgt := 40) B dX8_sheet_31 (by decide) (fun c7 => ?_) (fun c7 => ?_)
        · refine g_aload_n B dX8_sheet_40 0 rfl rfl ?_
          refine g_get (v := .ref (ad 1)) B shX_pw (by decide) in_X8_sheet_X8 rfl 0 (by decide) (List.mem_of_getElem? (i := 2) rfl) rfl rfl dX8_sheet_41 ?_
          refine g_iload_n B dX8_sheet_44 1 rfl rfl ?_
          refine g_aald (g := shd) B 2 rfl shX_shs (by decide) dX8_sheet_45 (fun b8 => ?_)
          have f9 := (shd_ok b8)
          refine g_iload_n B dX8_sheet_46 2 rfl rfl ?_
          refine g_iload_n B dX8_sheet_47 3 rfl rfl ?_
          refine g_callVVe (q := (RX5, TX5, 3)) (As := [.int v2, .int v3]) (st := []) B (k_X5_renew l D cA ad B.2.2.2.2.2.2.1 (shd v1.toNatClampNeg) f9 v2 v3 M1) (cwV 2 B.2.2.2.2.1 gX8_sheet_X5_renew rfl rfl rfl (by decide +kernel) ⟨Nat.le_of_ble_eq_true rfl, Nat.le_of_ble_eq_true rfl⟩) (shX_sh f9) (sh_lt f9) rfl rfl rfl (Nat.le_of_ble_eq_true rfl) dX8_sheet_48 (fun M10 _ => ?_)
          refine g_iconst (v := 1) B dX8_sheet_51 (by decide) ?_
          exact g_iret B hr hk dX8_sheet_52
        · refine g_aload_n B dX8_sheet_34 0 rfl rfl ?_
          refine g_iconst (v := 4) B dX8_sheet_35 (by decide) ?_
          refine g_callVIe (q := (RX8, TX8, 9)) (As := [.int (4 : Int32)]) (st := []) B (k_X8_faulted l D cA ad B.2.2.2.2.2.2.1 (4 : Int32) M1) (cwV 1 B.2.2.2.2.1 gX8_sheet_X8_faulted rfl rfl rfl (by decide +kernel) ⟨Nat.le_of_ble_eq_true rfl, Nat.le_of_ble_eq_true rfl⟩) shX_pw (by decide) rfl rfl rfl (Nat.le_of_ble_eq_true rfl) dX8_sheet_36 (fun r11 M12 _ => ?_)
          exact g_iret B hr hk dX8_sheet_39
      · refine g_bipush (v := -2) B dX8_sheet_27 (by decide) ?_
        exact g_iret B hr hk dX8_sheet_29

abbrev rm_X5_clear : Room := { frames := 0, cells := 0, slots := 0, locals := 0 }
set_option maxHeartbeats 4000000 in
set_option maxRecDepth 100000 in
theorem k_X5_clear (l : Launch) (D : va_G) (cA : Nat → ClassId) (ad : Nat → Nat) (had : adOK ad 37) (o0 : Nat) (ho0 : isSh o0) (M : Mem) : CV l yX5_clear wsX5_clear rm_X5_clear D cA ad (shX ad cA) 37 [.ref (ad o0)] M (d_X5_clear o0 M) := by
  refine CV_of (own := RX5) (cc := cX5_clear) (maxL := 1) had (by decide) rfl rfl (Nat.le_of_ble_eq_true rfl) ?_
  intro p e s m args below meth c R0 B hr hk
  unfold d_X5_clear
  show GG p l e (headSpec wsX5_clear rm_X5_clear).room s m args below meth c D ad (shX ad cA) 37 1 (MQ below (QV D ad (shX ad cA) 37 s.heap.size R0) args s 0 0 (AX ad 37 s.heap.size)) R0 M 0 [(0, .ref (ad o0))] [] _
  refine g_aload_n B dX5_clear_0 0 rfl rfl ?_
  refine g_bipush (v := -9) B dX5_clear_1 (by decide) ?_
  refine g_put (ty := .int) B (shX_sh ho0) (sh_lt ho0) in_X5_clear_X5 tyX5_ok nmX5 rfl 1 (by decide) (List.mem_of_getElem? (i := 1) rfl) rfl rfl (by decide +kernel) rfl rfl (fun _ => Nat.le_of_ble_eq_true rfl) (fun _ _ => rfl) dX5_clear_3 (g_lmM (fun M1 => ?_))
  refine g_aload_n B dX5_clear_6 0 rfl rfl ?_
  refine g_iconst (v := 0) B dX5_clear_7 (by decide) ?_
  refine g_put (ty := .int) B (shX_sh ho0) (sh_lt ho0) in_X5_clear_X5 tyX5_ok nmX5 rfl 2 (by decide) (List.mem_of_getElem? (i := 2) rfl) rfl rfl (by decide +kernel) rfl rfl (fun _ => Nat.le_of_ble_eq_true rfl) (fun _ _ => rfl) dX5_clear_8 (g_lmM (fun M2 => ?_))
  exact g_vret B hr hk dX5_clear_11

abbrev rm_X8_lose : Room := { frames := 1, cells := 0, slots := 0, locals := 20 }
set_option maxHeartbeats 4000000 in
set_option maxRecDepth 100000 in
theorem k_X8_lose (l : Launch) (D : va_G) (cA : Nat → ClassId) (ad : Nat → Nat) (had : adOK ad 37) (v1 : Int32) (M : Mem) : CI l yX8_lose wsX8_lose rm_X8_lose D cA ad (shX ad cA) 37 [.ref (ad 0), .int v1] M (d_X8_lose v1 M) := by
  refine CI_of (own := RX8) (cc := cX8_lose) (maxL := 3) (rt := .int) had (by decide) rfl rfl (Nat.le_of_ble_eq_true rfl) ?_
  intro p e s m args below meth c R0 B hr hk
  have hJ26 : ∀  (v1 : Int32) (s0 : Int32) (M : Mem)   , GG p l e (headSpec wsX8_lose rm_X8_lose).room s m args below meth c D ad (shX ad cA) 37 3 (MQ below (QI D ad (shX ad cA) 37 s.heap.size R0) args s 0 0 (AX ad 37 s.heap.size)) R0 M 26 [(0, .ref (ad 0)), (1, .int v1)] [.int s0] (dX8_lose_26j  v1 s0 M) := by
    intro v1 s0 M
    unfold dX8_lose_26j
    refine g_istore_n B dX8_lose_26 rfl (by decide) (lv1 := [(2, .int s0), (0, .ref (ad 0)), (1, .int v1)]) rfl ?_
    refine g_aload_n B dX8_lose_27 1 rfl rfl ?_
    refine g_get (v := .ref (ad 1)) B shX_pw (by decide) in_X8_lose_X8 rfl 0 (by decide) (List.mem_of_getElem? (i := 1) rfl) rfl rfl dX8_lose_28 ?_
    refine g_iload_n B dX8_lose_31 2 rfl rfl ?_
    refine g_aald (g := shd) B 2 rfl shX_shs (by decide) dX8_lose_32 (fun b7 => ?_)
    have f8 := (shd_ok b7)
    refine g_callVVe (q := (RX5, TX5, 3)) (As := []) (st := []) B (k_X5_clear l D cA ad B.2.2.2.2.2.2.1 (shd v1.toNatClampNeg) f8 M) (cwV 0 B.2.2.2.2.1 gX8_lose_X5_clear rfl rfl rfl (by decide +kernel) ⟨Nat.le_of_ble_eq_true rfl, Nat.le_of_ble_eq_true rfl⟩) (shX_sh f8) (sh_lt f8) rfl rfl rfl (Nat.le_of_ble_eq_true rfl) dX8_lose_33 (fun M9 _ => ?_)
    refine g_iload_n B dX8_lose_36 0 rfl rfl ?_
    exact g_iret B hr hk dX8_lose_37
  unfold d_X8_lose
  show GG p l e (headSpec wsX8_lose rm_X8_lose).room s m args below meth c D ad (shX ad cA) 37 3 (MQ below (QI D ad (shX ad cA) 37 s.heap.size R0) args s 0 0 (AX ad 37 s.heap.size)) R0 M 0 [(0, .ref (ad 0)), (1, .int v1)] [] _
  refine g_iload_n B dX8_lose_0 1 rfl rfl ?_
  refine g_callSIp (As := [.int v1]) (st := []) B (k_X8_isSheet l D cA ad B.2.2.2.2.2.2.1 v1 M) (va_cwS 1 B.2.2.2.2.1 gX8_lose_X8_isSheet rfl rfl rfl (by decide +kernel) ⟨Nat.le_of_ble_eq_true rfl, Nat.le_of_ble_eq_true rfl⟩) rfl rfl (Nat.le_of_ble_eq_true rfl) dX8_lose_1 (fun r1 _ => ?_)
  refine g_if_ne (tgt := 9) B dX8_lose_4 (by decide) (fun c2 => ?_) (fun c2 => ?_)
  · refine g_iconst (v := -1) B dX8_lose_7 (by decide) ?_
    exact g_iret B hr hk dX8_lose_8
  · refine g_aload_n B dX8_lose_9 0 rfl rfl ?_
    refine g_get (v := .ref (ad 1)) B shX_pw (by decide) in_X8_lose_X8 rfl 0 (by decide) (List.mem_of_getElem? (i := 1) rfl) rfl rfl dX8_lose_10 ?_
    refine g_iload_n B dX8_lose_13 1 rfl rfl ?_
    refine g_aald (g := shd) B 2 rfl shX_shs (by decide) dX8_lose_14 (fun b3 => ?_)
    have f4 := (shd_ok b3)
    refine g_callVIp (q := (RX5, TX5, 3)) (As := []) (st := []) B (k_X5_hasNothing l D cA ad B.2.2.2.2.2.2.1 (shd v1.toNatClampNeg) f4 M) (cwV 0 B.2.2.2.2.1 gX8_lose_X5_hasNothing rfl rfl rfl (by decide +kernel) ⟨Nat.le_of_ble_eq_true rfl, Nat.le_of_ble_eq_true rfl⟩) (shX_sh f4) (sh_lt f4) rfl rfl rfl (Nat.le_of_ble_eq_true rfl) dX8_lose_15 (fun r5 _ => ?_)
    refine g_if_eq (tgt := 25) B dX8_lose_18 (by decide) (fun c6 => ?_) (fun c6 => ?_)
    · refine g_iconst (v := 1) B dX8_lose_25 (by decide) ?_
      exact g_lv [0, 1] rfl (hJ26 _ _ _   )
    · refine g_iconst (v := 0) B dX8_lose_21 (by decide) ?_
      refine g_goto (tgt := 26) B dX8_lose_22 (by decide) ?_
      exact g_lv [0, 1] rfl (hJ26 _ _ _   )

abbrev rm_X5_cut : Room := { frames := 0, cells := 0, slots := 0, locals := 0 }
set_option maxHeartbeats 4000000 in
set_option maxRecDepth 100000 in
theorem k_X5_cut (l : Launch) (D : va_G) (cA : Nat → ClassId) (ad : Nat → Nat) (had : adOK ad 37) (o0 : Nat) (ho0 : isSh o0) (v1 : Int32) (M : Mem) : CI l yX5_cut wsX5_cut rm_X5_cut D cA ad (shX ad cA) 37 [.ref (ad o0), .int v1] M (wM M (d_X5_cut o0 v1 M)) := by
  refine CI_ofp (own := RX5) (cc := cX5_cut) (maxL := 2) (rt := .int) had (by decide) rfl rfl (Nat.le_of_ble_eq_true rfl) ?_
  intro p e s m args below meth c R0 B hr hk
  unfold d_X5_cut
  show GG p l e (headSpec wsX5_cut rm_X5_cut).room s m args below meth c D ad (shX ad cA) 37 2 (MQ below (QI D ad (shX ad cA) 37 s.heap.size (R0, M)) args s 0 0 (AX ad 37 s.heap.size)) R0 M 0 [(0, .ref (ad o0)), (1, .int v1)] [] _
  refine g_aload_n B dX5_cut_0 0 rfl rfl ?_
  refine g_get (v := .int (M o0 1)) B (shX_sh ho0) (sh_lt ho0) in_X5_cut_X5 rfl 1 (by decide) (List.mem_of_getElem? (i := 1) rfl) rfl rfl dX5_cut_1 ?_
  refine g_if (fun c1 => ?_) (fun c1 => ?_)
  · refine g_look (tgt := 32) B dX5_cut_4 (by decide) (by rw [c1] <;> rfl) (by decide) ?_
    refine g_iload_n B dX5_cut_32 1 rfl rfl ?_
    refine g_i2b B dX5_cut_33 ?_
    exact g_iretp B hr hk dX5_cut_34
  · refine g_if (fun c2 => ?_) (fun c2 => ?_)
    · refine g_look (tgt := 35) B dX5_cut_4 (by decide) (by rw [c2] <;> rfl) (by decide) ?_
      refine g_iload_n B dX5_cut_35 1 rfl rfl ?_
      refine g_i2s B dX5_cut_36 ?_
      exact g_iretp B hr hk dX5_cut_37
    · refine g_look (tgt := 38) B dX5_cut_4 (by decide) (lk_no (v := 0) c1 (by decide) (lk_no (v := 1) c2 (by decide) rfl)) (by decide) ?_
      refine g_iload_n B dX5_cut_38 1 rfl rfl ?_
      exact g_iretp B hr hk dX5_cut_39

abbrev rm_X5_set : Room := { frames := 1, cells := 0, slots := 0, locals := 21 }
set_option maxHeartbeats 4000000 in
set_option maxRecDepth 100000 in
theorem k_X5_set (l : Launch) (D : va_G) (cA : Nat → ClassId) (ad : Nat → Nat) (had : adOK ad 37) (o0 : Nat) (ho0 : isSh o0) (v1 : Int32) (v2 : Int32) (M : Mem) : CV l yX5_set wsX5_set rm_X5_set D cA ad (shX ad cA) 37 [.ref (ad o0), .int v1, .int v2] M (d_X5_set o0 v1 v2 M) := by
  refine CV_of (own := RX5) (cc := cX5_set) (maxL := 3) had (by decide) rfl rfl (Nat.le_of_ble_eq_true rfl) ?_
  intro p e s m args below meth c R0 B hr hk
  unfold d_X5_set
  show GG p l e (headSpec wsX5_set rm_X5_set).room s m args below meth c D ad (shX ad cA) 37 3 (MQ below (QV D ad (shX ad cA) 37 s.heap.size R0) args s 0 0 (AX ad 37 s.heap.size)) R0 M 0 [(0, .ref (ad o0)), (1, .int v1), (2, .int v2)] [] _
  refine g_iload_n B dX5_set_0 1 rfl rfl ?_
  refine g_if_lt (tgt := 23) B dX5_set_1 (by decide) (fun c1 => ?_) (fun c1 => ?_)
  · exact g_vret B hr hk dX5_set_23
  · refine g_iload_n B dX5_set_4 1 rfl rfl ?_
    refine g_aload_n B dX5_set_5 0 rfl rfl ?_
    refine g_get (v := .int (M o0 2)) B (shX_sh ho0) (sh_lt ho0) in_X5_set_X5 rfl 2 (by decide) (List.mem_of_getElem? (i := 1) rfl) rfl rfl dX5_set_6 ?_
    refine g_icmp_ge (tgt := 23) B dX5_set_9 (by decide) (fun c2 => ?_) (fun c2 => ?_)
    · exact g_vret B hr hk dX5_set_23
    · refine g_aload_n B dX5_set_12 0 rfl rfl ?_
      refine g_get (v := .ref (ad (o0 + 1))) B (shX_sh ho0) (sh_lt ho0) in_X5_set_X5 rfl 0 (by decide) (List.mem_of_getElem? (i := 2) rfl) rfl rfl dX5_set_13 ?_
      refine g_iload_n B dX5_set_16 1 rfl rfl ?_
      refine g_aload_n B dX5_set_17 0 rfl rfl ?_
      refine g_iload_n B dX5_set_18 2 rfl rfl ?_
      refine g_callVIp (q := (RX5, TX5, 3)) (As := [.int v2]) (st := [.int v1, .ref (ad (o0 + 1))]) B (k_X5_cut l D cA ad B.2.2.2.2.2.2.1 o0 ho0 v2 M) (cwV 1 B.2.2.2.2.1 gX5_set_X5_cut rfl rfl rfl (by decide +kernel) ⟨Nat.le_of_ble_eq_true rfl, Nat.le_of_ble_eq_true rfl⟩) (shX_sh ho0) (sh_lt ho0) rfl rfl rfl (Nat.le_of_ble_eq_true rfl) dX5_set_19 (fun r3 _ => ?_)
      refine g_iast B (shX_ce ho0) (ce_lt ho0) dX5_set_22 (g_lmM (fun M4 => ?_))
      exact g_vret B hr hk dX5_set_23

abbrev rm_X8_put : Room := { frames := 2, cells := 0, slots := 0, locals := 43 }
set_option maxHeartbeats 4000000 in
set_option maxRecDepth 100000 in
theorem k_X8_put (l : Launch) (D : va_G) (cA : Nat → ClassId) (ad : Nat → Nat) (had : adOK ad 37) (v1 : Int32) (v2 : Int32) (v3 : Int32) (M : Mem) : CI l yX8_put wsX8_put rm_X8_put D cA ad (shX ad cA) 37 [.ref (ad 0), .int v1, .int v2, .int v3] M (d_X8_put v1 v2 v3 M) := by
  refine CI_of (own := RX8) (cc := cX8_put) (maxL := 5) (rt := .int) had (by decide) rfl rfl (Nat.le_of_ble_eq_true rfl) ?_
  intro p e s m args below meth c R0 B hr hk
  unfold d_X8_put
  show GG p l e (headSpec wsX8_put rm_X8_put).room s m args below meth c D ad (shX ad cA) 37 5 (MQ below (QI D ad (shX ad cA) 37 s.heap.size R0) args s 0 0 (AX ad 37 s.heap.size)) R0 M 0 [(0, .ref (ad 0)), (1, .int v1), (2, .int v2), (3, .int v3)] [] _
  refine g_aload_n B dX8_put_0 0 rfl rfl ?_
  refine g_iconst (v := 0) B dX8_put_1 (by decide) ?_
  refine g_put (ty := .int) B shX_pw (by decide) in_X8_put_X8 tyX8_ok nmX8 rfl 8 (by decide) (List.mem_of_getElem? (i := 1) rfl) rfl rfl (by decide +kernel) rfl rfl (fun _ => Nat.le_of_ble_eq_true rfl) (fun _ _ => rfl) dX8_put_2 (g_lmM (fun M1 => ?_))
  refine g_iload_n B dX8_put_5 1 rfl rfl ?_
  refine g_callSIp (As := [.int v1]) (st := []) B (k_X8_isSheet l D cA ad B.2.2.2.2.2.2.1 v1 M1) (va_cwS 1 B.2.2.2.2.1 gX8_put_X8_isSheet rfl rfl rfl (by decide +kernel) ⟨Nat.le_of_ble_eq_true rfl, Nat.le_of_ble_eq_true rfl⟩) rfl rfl (Nat.le_of_ble_eq_true rfl) dX8_put_6 (fun r2 _ => ?_)
  refine g_if_ne (tgt := 14) B dX8_put_9 (by decide) (fun c3 => ?_) (fun c3 => ?_)
  · refine g_iconst (v := -1) B dX8_put_12 (by decide) ?_
    exact g_iret B hr hk dX8_put_13
  · refine g_aload_n B dX8_put_14 0 rfl rfl ?_
    refine g_get (v := .ref (ad 1)) B shX_pw (by decide) in_X8_put_X8 rfl 0 (by decide) (List.mem_of_getElem? (i := 2) rfl) rfl rfl dX8_put_15 ?_
    refine g_iload_n B dX8_put_18 1 rfl rfl ?_
    refine g_aald (g := shd) B 2 rfl shX_shs (by decide) dX8_put_19 (fun b4 => ?_)
    have f5 := (shd_ok b4)
    refine g_callVIp (q := (RX5, TX5, 3)) (As := []) (st := []) B (k_X5_hasNothing l D cA ad B.2.2.2.2.2.2.1 (shd v1.toNatClampNeg) f5 M1) (cwV 0 B.2.2.2.2.1 gX8_put_X5_hasNothing rfl rfl rfl (by decide +kernel) ⟨Nat.le_of_ble_eq_true rfl, Nat.le_of_ble_eq_true rfl⟩) (shX_sh f5) (sh_lt f5) rfl rfl rfl (Nat.le_of_ble_eq_true rfl) dX8_put_20 (fun r6 _ => ?_)
    refine g_if_eq (tgt := 32) B dX8_put_23 (by decide) (fun c7 => ?_) (fun c7 => ?_)
    · refine g_aload_n B dX8_put_32 0 rfl rfl ?_
      refine g_get (v := .ref (ad 1)) B shX_pw (by decide) in_X8_put_X8 rfl 0 (by decide) (List.mem_of_getElem? (i := 2) rfl) rfl rfl dX8_put_33 ?_
      refine g_iload_n B dX8_put_36 1 rfl rfl ?_
      refine g_aald (g := shd) B 2 rfl shX_shs (by decide) dX8_put_37 (fun b8 => ?_)
      have f9 := (shd_ok b8)
      refine g_iload_n B dX8_put_38 2 rfl rfl ?_
      refine g_iconst (v := 1) B dX8_put_39 (by decide) ?_
      refine g_callVIp (q := (RX5, TX5, 3)) (As := [.int v2, .int (1 : Int32)]) (st := []) B (k_X5_faultOfCells l D cA ad B.2.2.2.2.2.2.1 (shd v1.toNatClampNeg) f9 v2 (1 : Int32) M1) (cwV 2 B.2.2.2.2.1 gX8_put_X5_faultOfCells rfl rfl rfl (by decide +kernel) ⟨Nat.le_of_ble_eq_true rfl, Nat.le_of_ble_eq_true rfl⟩) (shX_sh f9) (sh_lt f9) rfl rfl rfl (Nat.le_of_ble_eq_true rfl) dX8_put_40 (fun r10 _ => ?_)
      refine g_istore B dX8_put_43 (by decide) (lv1 := [(4, .int r10), (0, .ref (ad 0)), (1, .int v1), (2, .int v2), (3, .int v3)]) rfl ?_
      refine g_iload B dX8_put_45 0 rfl ?_
      refine g_if_eq (tgt := 57) B dX8_put_47 (by decide) (fun c11 => ?_) (fun c11 => ?_)
      · refine g_aload_n B dX8_put_57 1 rfl rfl ?_
        refine g_get (v := .ref (ad 1)) B shX_pw (by decide) in_X8_put_X8 rfl 0 (by decide) (List.mem_of_getElem? (i := 2) rfl) rfl rfl dX8_put_58 ?_
        refine g_iload_n B dX8_put_61 2 rfl rfl ?_
        refine g_aald (g := shd) B 2 rfl shX_shs (by decide) dX8_put_62 (fun b12 => ?_)
        have f13 := (shd_ok b12)
        refine g_iload_n B dX8_put_63 3 rfl rfl ?_
        refine g_iload_n B dX8_put_64 4 rfl rfl ?_
        refine g_callVVe (q := (RX5, TX5, 3)) (As := [.int v2, .int v3]) (st := []) B (k_X5_set l D cA ad B.2.2.2.2.2.2.1 (shd v1.toNatClampNeg) f13 v2 v3 M1) (cwV 2 B.2.2.2.2.1 gX8_put_X5_set rfl rfl rfl (by decide +kernel) ⟨Nat.le_of_ble_eq_true rfl, Nat.le_of_ble_eq_true rfl⟩) (shX_sh f13) (sh_lt f13) rfl rfl rfl (Nat.le_of_ble_eq_true rfl) dX8_put_65 (fun M14 _ => ?_)
        refine g_iconst (v := 1) B dX8_put_68 (by decide) ?_
        exact g_iret B hr hk dX8_put_69
      · refine g_aload_n B dX8_put_50 1 rfl rfl ?_
        refine g_iload B dX8_put_51 0 rfl ?_
        refine g_callVIe (q := (RX8, TX8, 9)) (As := [.int r10]) (st := []) B (k_X8_faulted l D cA ad B.2.2.2.2.2.2.1 r10 M1) (cwV 1 B.2.2.2.2.1 gX8_put_X8_faulted rfl rfl rfl (by decide +kernel) ⟨Nat.le_of_ble_eq_true rfl, Nat.le_of_ble_eq_true rfl⟩) shX_pw (by decide) rfl rfl rfl (Nat.le_of_ble_eq_true rfl) dX8_put_53 (fun r15 M16 _ => ?_)
        exact g_iret B hr hk dX8_put_56
    · refine g_aload_n B dX8_put_26 0 rfl rfl ?_
      refine g_iconst (v := 1) B dX8_put_27 (by decide) ?_
      refine g_callVIe (q := (RX8, TX8, 9)) (As := [.int (1 : Int32)]) (st := []) B (k_X8_faulted l D cA ad B.2.2.2.2.2.2.1 (1 : Int32) M1) (cwV 1 B.2.2.2.2.1 gX8_put_X8_faulted rfl rfl rfl (by decide +kernel) ⟨Nat.le_of_ble_eq_true rfl, Nat.le_of_ble_eq_true rfl⟩) shX_pw (by decide) rfl rfl rfl (Nat.le_of_ble_eq_true rfl) dX8_put_28 (fun r17 M18 _ => ?_)
      exact g_iret B hr hk dX8_put_31

abbrev rm_X8_cell : Room := { frames := 2, cells := 0, slots := 0, locals := 45 }
set_option maxHeartbeats 4000000 in
set_option maxRecDepth 100000 in
theorem k_X8_cell (l : Launch) (D : va_G) (cA : Nat → ClassId) (ad : Nat → Nat) (had : adOK ad 37) (v1 : Int32) (v2 : Int32) (v3 : Int32) (M : Mem) : CL l yX8_cell wsX8_cell rm_X8_cell D cA ad (shX ad cA) 37 [.ref (ad 0), .int v1, .int v2, .int v3] M (d_X8_cell v1 v2 v3 M) := by
  refine CL_of (own := RX8) (cc := cX8_cell) (maxL := 4) (rt := .long) had (by decide) rfl rfl (Nat.le_of_ble_eq_true rfl) ?_
  intro p e s m args below meth c R0 B hr hk
  unfold d_X8_cell
  show GG p l e (headSpec wsX8_cell rm_X8_cell).room s m args below meth c D ad (shX ad cA) 37 4 (MQ below (QL D ad (shX ad cA) 37 s.heap.size R0) args s 0 0 (AX ad 37 s.heap.size)) R0 M 0 [(0, .ref (ad 0)), (1, .int v1), (2, .int v2), (3, .int v3)] [] _
  refine g_aload_n B dX8_cell_0 0 rfl rfl ?_
  refine g_iconst (v := 0) B dX8_cell_1 (by decide) ?_
  refine g_put (ty := .int) B shX_pw (by decide) in_X8_cell_X8 tyX8_ok nmX8 rfl 8 (by decide) (List.mem_of_getElem? (i := 1) rfl) rfl rfl (by decide +kernel) rfl rfl (fun _ => Nat.le_of_ble_eq_true rfl) (fun _ _ => rfl) dX8_cell_2 (g_lmM (fun M1 => ?_))
  refine g_iload_n B dX8_cell_5 1 rfl rfl ?_
  refine g_callSIp (As := [.int v1]) (st := []) B (k_X8_isSheet l D cA ad B.2.2.2.2.2.2.1 v1 M1) (va_cwS 1 B.2.2.2.2.1 gX8_cell_X8_isSheet rfl rfl rfl (by decide +kernel) ⟨Nat.le_of_ble_eq_true rfl, Nat.le_of_ble_eq_true rfl⟩) rfl rfl (Nat.le_of_ble_eq_true rfl) dX8_cell_6 (fun r2 _ => ?_)
  refine g_if_eq (tgt := 19) B dX8_cell_9 (by decide) (fun c3 => ?_) (fun c3 => ?_)
  · refine g_ldc2 (v := -9223372036854775808) B dX8_cell_19 (List.mem_of_getElem? (i := 2) rfl) ?_
    exact g_lret B hr hk dX8_cell_22
  · refine g_iload_n B dX8_cell_12 3 rfl rfl ?_
    refine g_callSIp (As := [.int v3]) (st := []) B (k_X8_isLane l D cA ad B.2.2.2.2.2.2.1 v3 M1) (va_cwS 1 B.2.2.2.2.1 gX8_cell_X8_isLane rfl rfl rfl (by decide +kernel) ⟨Nat.le_of_ble_eq_true rfl, Nat.le_of_ble_eq_true rfl⟩) rfl rfl (Nat.le_of_ble_eq_true rfl) dX8_cell_13 (fun r4 _ => ?_)
    refine g_if_ne (tgt := 23) B dX8_cell_16 (by decide) (fun c5 => ?_) (fun c5 => ?_)
    · refine g_ldc2 (v := -9223372036854775808) B dX8_cell_19 (List.mem_of_getElem? (i := 2) rfl) ?_
      exact g_lret B hr hk dX8_cell_22
    · refine g_aload_n B dX8_cell_23 0 rfl rfl ?_
      refine g_aload_n B dX8_cell_24 0 rfl rfl ?_
      refine g_get (v := .ref (ad 1)) B shX_pw (by decide) in_X8_cell_X8 rfl 0 (by decide) (List.mem_of_getElem? (i := 3) rfl) rfl rfl dX8_cell_25 ?_
      refine g_iload_n B dX8_cell_28 1 rfl rfl ?_
      refine g_aald (g := shd) B 2 rfl shX_shs (by decide) dX8_cell_29 (fun b6 => ?_)
      have f7 := (shd_ok b6)
      refine g_iload_n B dX8_cell_30 3 rfl rfl ?_
      refine g_iload_n B dX8_cell_31 2 rfl rfl ?_
      refine g_iconst (v := 1) B dX8_cell_32 (by decide) ?_
      refine g_callVIp (q := (RX5, TX5, 3)) (As := [.int v3, .int v2, .int (1 : Int32)]) (st := [.ref (ad 0)]) B (k_X5_faultAsRow l D cA ad B.2.2.2.2.2.2.1 (shd v1.toNatClampNeg) f7 v3 v2 (1 : Int32) M1) (cwV 3 B.2.2.2.2.1 gX8_cell_X5_faultAsRow rfl rfl rfl (by decide +kernel) ⟨Nat.le_of_ble_eq_true rfl, Nat.le_of_ble_eq_true rfl⟩) (shX_sh f7) (sh_lt f7) rfl rfl rfl (Nat.le_of_ble_eq_true rfl) dX8_cell_33 (fun r8 _ => ?_)
      refine g_put (ty := .int) B shX_pw (by decide) in_X8_cell_X8 tyX8_ok nmX8 rfl 8 (by decide) (List.mem_of_getElem? (i := 1) rfl) rfl rfl (by decide +kernel) rfl rfl (fun _ => Nat.le_of_ble_eq_true rfl) (fun _ _ => rfl) dX8_cell_36 (g_lmM (fun M9 => ?_))
      refine g_aload_n B dX8_cell_39 0 rfl rfl ?_
      refine g_get (v := .int (M9 0 8)) B shX_pw (by decide) in_X8_cell_X8 rfl 8 (by decide) (List.mem_of_getElem? (i := 1) rfl) rfl rfl dX8_cell_40 ?_
      refine g_if_ne (tgt := 60) B dX8_cell_43 (by decide) (fun c10 => ?_) (fun c10 => ?_)
      · refine g_aload_n B dX8_cell_46 0 rfl rfl ?_
        refine g_get (v := .ref (ad 1)) B shX_pw (by decide) in_X8_cell_X8 rfl 0 (by decide) (List.mem_of_getElem? (i := 3) rfl) rfl rfl dX8_cell_47 ?_
        refine g_iload_n B dX8_cell_50 1 rfl rfl ?_
        refine g_aald (g := shd) B 2 rfl shX_shs (by decide) dX8_cell_51 (fun b11 => ?_)
        have f12 := (shd_ok b11)
        refine g_iload_n B dX8_cell_52 2 rfl rfl ?_
        refine g_callVIp (q := (RX5, TX5, 3)) (As := [.int v2]) (st := []) B (k_X5_at l D cA ad B.2.2.2.2.2.2.1 (shd v1.toNatClampNeg) f12 v2 M9) (cwV 1 B.2.2.2.2.1 gX8_cell_X5_at rfl rfl rfl (by decide +kernel) ⟨Nat.le_of_ble_eq_true rfl, Nat.le_of_ble_eq_true rfl⟩) (shX_sh f12) (sh_lt f12) rfl rfl rfl (Nat.le_of_ble_eq_true rfl) dX8_cell_53 (fun r13 _ => ?_)
        refine g_i2l B dX8_cell_56 ?_
        refine g_goto (tgt := 63) B dX8_cell_57 (by decide) ?_
        exact g_lret B hr hk dX8_cell_63
      · refine g_ldc2 (v := -9223372036854775808) B dX8_cell_60 (List.mem_of_getElem? (i := 2) rfl) ?_
        exact g_lret B hr hk dX8_cell_63

abbrev rm_X8_copy : Room := { frames := 1, cells := 0, slots := 0, locals := 80 }
set_option maxHeartbeats 4000000 in
set_option maxRecDepth 100000 in
theorem k_X8_copy (l : Launch) (D : va_G) (cA : Nat → ClassId) (ad : Nat → Nat) (had : adOK ad 37) (v1 : Int32) (v2 : Int32) (v3 : Int32) (v4 : Int32) (v5 : Int32) (M : Mem) : CI l yX8_copy wsX8_copy rm_X8_copy D cA ad (shX ad cA) 37 [.ref (ad 0), .int v1, .int v2, .int v3, .int v4, .int v5] M (d_X8_copy v1 v2 v3 v4 v5 M) := by
  refine CI_of (own := RX8) (cc := cX8_copy) (maxL := 8) (rt := .int) had (by decide) rfl rfl (Nat.le_of_ble_eq_true rfl) ?_
  intro p e s m args below meth c R0 B hr hk
  have hJ53 : ∀    (M : Mem)   , GG p l e (headSpec wsX8_copy rm_X8_copy).room s m args below meth c D ad (shX ad cA) 37 8 (MQ below (QI D ad (shX ad cA) 37 s.heap.size R0) args s 0 0 (AX ad 37 s.heap.size)) R0 M 53 [(0, .ref (ad 0))] [] (dX8_copy_53j    M) := by
    intro M
    unfold dX8_copy_53j
    refine g_aload_n B dX8_copy_53 0 rfl rfl ?_
    refine g_iconst (v := 1) B dX8_copy_54 (by decide) ?_
    refine g_callVIe (q := (RX8, TX8, 9)) (As := [.int (1 : Int32)]) (st := []) B (k_X8_faulted l D cA ad B.2.2.2.2.2.2.1 (1 : Int32) M) (cwV 1 B.2.2.2.2.1 gX8_copy_X8_faulted rfl rfl rfl (by decide +kernel) ⟨Nat.le_of_ble_eq_true rfl, Nat.le_of_ble_eq_true rfl⟩) shX_pw (by decide) rfl rfl rfl (Nat.le_of_ble_eq_true rfl) dX8_copy_55 (fun r12 M13 _ => ?_)
    exact g_iret B hr hk dX8_copy_58
  have hJ101 : ∀    (M : Mem)   , GG p l e (headSpec wsX8_copy rm_X8_copy).room s m args below meth c D ad (shX ad cA) 37 8 (MQ below (QI D ad (shX ad cA) 37 s.heap.size R0) args s 0 0 (AX ad 37 s.heap.size)) R0 M 101 [(0, .ref (ad 0))] [] (dX8_copy_101j    M) := by
    intro M
    unfold dX8_copy_101j
    refine g_aload_n B dX8_copy_101 0 rfl rfl ?_
    refine g_iconst (v := 3) B dX8_copy_102 (by decide) ?_
    refine g_callVIe (q := (RX8, TX8, 9)) (As := [.int (3 : Int32)]) (st := []) B (k_X8_faulted l D cA ad B.2.2.2.2.2.2.1 (3 : Int32) M) (cwV 1 B.2.2.2.2.1 gX8_copy_X8_faulted rfl rfl rfl (by decide +kernel) ⟨Nat.le_of_ble_eq_true rfl, Nat.le_of_ble_eq_true rfl⟩) shX_pw (by decide) rfl rfl rfl (Nat.le_of_ble_eq_true rfl) dX8_copy_103 (fun r19 M20 _ => ?_)
    exact g_iret B hr hk dX8_copy_106
  unfold d_X8_copy
  show GG p l e (headSpec wsX8_copy rm_X8_copy).room s m args below meth c D ad (shX ad cA) 37 8 (MQ below (QI D ad (shX ad cA) 37 s.heap.size R0) args s 0 0 (AX ad 37 s.heap.size)) R0 M 0 [(0, .ref (ad 0)), (1, .int v1), (2, .int v2), (3, .int v3), (4, .int v4), (5, .int v5)] [] _
  refine g_aload_n B dX8_copy_0 0 rfl rfl ?_
  refine g_iconst (v := 0) B dX8_copy_1 (by decide) ?_
  refine g_put (ty := .int) B shX_pw (by decide) in_X8_copy_X8 tyX8_ok nmX8 rfl 8 (by decide) (List.mem_of_getElem? (i := 1) rfl) rfl rfl (by decide +kernel) rfl rfl (fun _ => Nat.le_of_ble_eq_true rfl) (fun _ _ => rfl) dX8_copy_2 (g_lmM (fun M1 => ?_))
  refine g_iload_n B dX8_copy_5 1 rfl rfl ?_
  refine g_callSIp (As := [.int v1]) (st := []) B (k_X8_isSheet l D cA ad B.2.2.2.2.2.2.1 v1 M1) (va_cwS 1 B.2.2.2.2.1 gX8_copy_X8_isSheet rfl rfl rfl (by decide +kernel) ⟨Nat.le_of_ble_eq_true rfl, Nat.le_of_ble_eq_true rfl⟩) rfl rfl (Nat.le_of_ble_eq_true rfl) dX8_copy_6 (fun r2 _ => ?_)
  refine g_if_eq (tgt := 19) B dX8_copy_9 (by decide) (fun c3 => ?_) (fun c3 => ?_)
  · refine g_iconst (v := -1) B dX8_copy_19 (by decide) ?_
    exact g_iret B hr hk dX8_copy_20
  · refine g_iload_n B dX8_copy_12 3 rfl rfl ?_
    refine g_callSIp (As := [.int v3]) (st := []) B (k_X8_isSheet l D cA ad B.2.2.2.2.2.2.1 v3 M1) (va_cwS 1 B.2.2.2.2.1 gX8_copy_X8_isSheet rfl rfl rfl (by decide +kernel) ⟨Nat.le_of_ble_eq_true rfl, Nat.le_of_ble_eq_true rfl⟩) rfl rfl (Nat.le_of_ble_eq_true rfl) dX8_copy_13 (fun r4 _ => ?_)
    refine g_if_ne (tgt := 21) B dX8_copy_16 (by decide) (fun c5 => ?_) (fun c5 => ?_)
    · refine g_iconst (v := -1) B dX8_copy_19 (by decide) ?_
      exact g_iret B hr hk dX8_copy_20
    · refine g_aload_n B dX8_copy_21 0 rfl rfl ?_
      refine g_get (v := .ref (ad 1)) B shX_pw (by decide) in_X8_copy_X8 rfl 0 (by decide) (List.mem_of_getElem? (i := 2) rfl) rfl rfl dX8_copy_22 ?_
      refine g_iload_n B dX8_copy_25 1 rfl rfl ?_
      refine g_aald (g := shd) B 2 rfl shX_shs (by decide) dX8_copy_26 (fun b6 => ?_)
      have f7 := (shd_ok b6)
      refine g_astore B dX8_copy_27 (by decide) (lv1 := [(6, .ref (ad (shd v1.toNatClampNeg))), (0, .ref (ad 0)), (1, .int v1), (2, .int v2), (3, .int v3), (4, .int v4), (5, .int v5)]) rfl ?_
      refine g_aload_n B dX8_copy_29 1 rfl rfl ?_
      refine g_get (v := .ref (ad 1)) B shX_pw (by decide) in_X8_copy_X8 rfl 0 (by decide) (List.mem_of_getElem? (i := 2) rfl) rfl rfl dX8_copy_30 ?_
      refine g_iload_n B dX8_copy_33 4 rfl rfl ?_
      refine g_aald (g := shd) B 2 rfl shX_shs (by decide) dX8_copy_34 (fun b8 => ?_)
      have f9 := (shd_ok b8)
      refine g_astore B dX8_copy_35 (by decide) (lv1 := [(7, .ref (ad (shd v3.toNatClampNeg))), (6, .ref (ad (shd v1.toNatClampNeg))), (0, .ref (ad 0)), (1, .int v1), (2, .int v2), (3, .int v3), (4, .int v4), (5, .int v5)]) rfl ?_
      refine g_aload B dX8_copy_37 1 rfl ?_
      refine g_callVIp (q := (RX5, TX5, 3)) (As := []) (st := []) B (k_X5_hasNothing l D cA ad B.2.2.2.2.2.2.1 (shd v1.toNatClampNeg) f7 M1) (cwV 0 B.2.2.2.2.1 gX8_copy_X5_hasNothing rfl rfl rfl (by decide +kernel) ⟨Nat.le_of_ble_eq_true rfl, Nat.le_of_ble_eq_true rfl⟩) (shX_sh f7) (sh_lt f7) rfl rfl rfl (Nat.le_of_ble_eq_true rfl) dX8_copy_39 (fun r10 _ => ?_)
      refine g_if_ne (tgt := 53) B dX8_copy_42 (by decide) (fun c11 => ?_) (fun c11 => ?_)
      · refine g_aload B dX8_copy_45 0 rfl ?_
        refine g_callVIp (q := (RX5, TX5, 3)) (As := []) (st := []) B (k_X5_hasNothing l D cA ad B.2.2.2.2.2.2.1 (shd v3.toNatClampNeg) f9 M1) (cwV 0 B.2.2.2.2.1 gX8_copy_X5_hasNothing rfl rfl rfl (by decide +kernel) ⟨Nat.le_of_ble_eq_true rfl, Nat.le_of_ble_eq_true rfl⟩) (shX_sh f9) (sh_lt f9) rfl rfl rfl (Nat.le_of_ble_eq_true rfl) dX8_copy_47 (fun r14 _ => ?_)
        refine g_if_eq (tgt := 59) B dX8_copy_50 (by decide) (fun c15 => ?_) (fun c15 => ?_)
        · refine g_aload B dX8_copy_59 1 rfl ?_
          refine g_getN (v := .int (M1 (shd v1.toNatClampNeg) 1)) B (shX_sh f7) (sh_lt f7) in_X8_copy_X5 rfl 1 (by decide) 25 rfl rfl rfl dX8_copy_61 ?_
          refine g_aload B dX8_copy_64 0 rfl ?_
          refine g_getN (v := .int (M1 (shd v3.toNatClampNeg) 1)) B (shX_sh f9) (sh_lt f9) in_X8_copy_X5 rfl 1 (by decide) 25 rfl rfl rfl dX8_copy_66 ?_
          refine g_icmp_eq (tgt := 78) B dX8_copy_69 (by decide) (fun c16 => ?_) (fun c16 => ?_)
          · refine g_aload B dX8_copy_78 1 rfl ?_
            refine g_iload_n B dX8_copy_80 4 rfl rfl ?_
            refine g_iload B dX8_copy_81 7 rfl ?_
            refine g_callVIp (q := (RX5, TX5, 3)) (As := [.int v2, .int v5]) (st := []) B (k_X5_faultOfCells l D cA ad B.2.2.2.2.2.2.1 (shd v1.toNatClampNeg) f7 v2 v5 M1) (cwV 2 B.2.2.2.2.1 gX8_copy_X5_faultOfCells rfl rfl rfl (by decide +kernel) ⟨Nat.le_of_ble_eq_true rfl, Nat.le_of_ble_eq_true rfl⟩) (shX_sh f7) (sh_lt f7) rfl rfl rfl (Nat.le_of_ble_eq_true rfl) dX8_copy_83 (fun r17 _ => ?_)
            refine g_if_ne (tgt := 101) B dX8_copy_86 (by decide) (fun c18 => ?_) (fun c18 => ?_)
            · refine g_aload B dX8_copy_89 0 rfl ?_
              refine g_iload B dX8_copy_91 6 rfl ?_
              refine g_iload B dX8_copy_93 7 rfl ?_
              refine g_callVIp (q := (RX5, TX5, 3)) (As := [.int v4, .int v5]) (st := []) B (k_X5_faultOfCells l D cA ad B.2.2.2.2.2.2.1 (shd v3.toNatClampNeg) f9 v4 v5 M1) (cwV 2 B.2.2.2.2.1 gX8_copy_X5_faultOfCells rfl rfl rfl (by decide +kernel) ⟨Nat.le_of_ble_eq_true rfl, Nat.le_of_ble_eq_true rfl⟩) (shX_sh f9) (sh_lt f9) rfl rfl rfl (Nat.le_of_ble_eq_true rfl) dX8_copy_95 (fun r21 _ => ?_)
              refine g_if_eq (tgt := 107) B dX8_copy_98 (by decide) (fun c22 => ?_) (fun c22 => ?_)
              · refine g_aload B dX8_copy_107 1 rfl ?_
                refine g_getN (v := .ref (ad ((shd v1.toNatClampNeg) + 1))) B (shX_sh f7) (sh_lt f7) in_X8_copy_X5 rfl 0 (by decide) 24 rfl rfl rfl dX8_copy_109 ?_
                refine g_iload_n B dX8_copy_112 4 rfl rfl ?_
                refine g_aload B dX8_copy_113 0 rfl ?_
                refine g_getN (v := .ref (ad ((shd v3.toNatClampNeg) + 1))) B (shX_sh f9) (sh_lt f9) in_X8_copy_X5 rfl 0 (by decide) 24 rfl rfl rfl dX8_copy_115 ?_
                refine g_iload B dX8_copy_118 6 rfl ?_
                refine g_iload B dX8_copy_120 7 rfl ?_
                refine g_copy B (shX_ce f7) (ce_lt f7) (shX_ce f9) (ce_lt f9) dX8_copy_122 (List.mem_of_getElem? (i := 3) rfl) (List.mem_of_getElem? (i := 4) rfl) (List.mem_of_getElem? (i := 5) rfl) (List.mem_of_getElem? (i := 6) rfl) (Nat.le_of_ble_eq_true rfl) (by decide +kernel) (g_lmM (fun M23 => ?_))
                refine g_iload B dX8_copy_125 7 rfl ?_
                exact g_iret B hr hk dX8_copy_127
              · exact g_lv [2] rfl (hJ101 _   )
            · exact g_lv [2] rfl (hJ101 _   )
          · refine g_aload_n B dX8_copy_72 2 rfl rfl ?_
            refine g_iconst (v := 2) B dX8_copy_73 (by decide) ?_
            refine g_callVIe (q := (RX8, TX8, 9)) (As := [.int (2 : Int32)]) (st := []) B (k_X8_faulted l D cA ad B.2.2.2.2.2.2.1 (2 : Int32) M1) (cwV 1 B.2.2.2.2.1 gX8_copy_X8_faulted rfl rfl rfl (by decide +kernel) ⟨Nat.le_of_ble_eq_true rfl, Nat.le_of_ble_eq_true rfl⟩) shX_pw (by decide) rfl rfl rfl (Nat.le_of_ble_eq_true rfl) dX8_copy_74 (fun r24 M25 _ => ?_)
            exact g_iret B hr hk dX8_copy_77
        · exact g_lv [2] rfl (hJ53 _   )
      · exact g_lv [2] rfl (hJ53 _   )

abbrev rm_X8_leave : Room := { frames := 0, cells := 0, slots := 0, locals := 0 }
set_option maxHeartbeats 4000000 in
set_option maxRecDepth 100000 in
theorem k_X8_leave (l : Launch) (D : va_G) (cA : Nat → ClassId) (ad : Nat → Nat) (had : adOK ad 37) (v1 : Int32) (M : Mem) : CV l yX8_leave wsX8_leave rm_X8_leave D cA ad (shX ad cA) 37 [.ref (ad 0), .int v1] M (d_X8_leave v1 M) := by
  refine CV_of (own := RX8) (cc := cX8_leave) (maxL := 2) had (by decide) rfl rfl (Nat.le_of_ble_eq_true rfl) ?_
  intro p e s m args below meth c R0 B hr hk
  unfold d_X8_leave
  show GG p l e (headSpec wsX8_leave rm_X8_leave).room s m args below meth c D ad (shX ad cA) 37 2 (MQ below (QV D ad (shX ad cA) 37 s.heap.size R0) args s 0 0 (AX ad 37 s.heap.size)) R0 M 0 [(0, .ref (ad 0)), (1, .int v1)] [] _
  refine g_aload_n B dX8_leave_0 0 rfl rfl ?_
  refine g_bipush (v := 31) B dX8_leave_1 (by decide) ?_
  refine g_aload_n B dX8_leave_3 0 rfl rfl ?_
  refine g_get (v := .int (M 0 7)) B shX_pw (by decide) in_X8_leave_X8 rfl 7 (by decide) (List.mem_of_getElem? (i := 1) rfl) rfl rfl dX8_leave_4 ?_
  refine g_imul B dX8_leave_7 ?_
  refine g_iload_n B dX8_leave_8 1 rfl rfl ?_
  refine g_iadd B dX8_leave_9 ?_
  refine g_put (ty := .int) B shX_pw (by decide) in_X8_leave_X8 tyX8_ok nmX8 rfl 7 (by decide) (List.mem_of_getElem? (i := 1) rfl) rfl rfl (by decide +kernel) rfl rfl (fun _ => Nat.le_of_ble_eq_true rfl) (fun _ _ => rfl) dX8_leave_10 (g_lmM (fun M1 => ?_))
  exact g_vret B hr hk dX8_leave_13

abbrev rm_X8_tellBoy : Room := { frames := 1, cells := 0, slots := 0, locals := 21 }
set_option maxHeartbeats 4000000 in
set_option maxRecDepth 100000 in
theorem k_X8_tellBoy (l : Launch) (D : va_G) (cA : Nat → ClassId) (ad : Nat → Nat) (had : adOK ad 37) (o1 : Nat) (ho1 : isFt o1) (M : Mem) : CI l yX8_tellBoy wsX8_tellBoy rm_X8_tellBoy D cA ad (shX ad cA) 37 [.ref (ad 0), .ref (ad o1)] M (d_X8_tellBoy o1 M) := by
  refine CI_of (own := RX8) (cc := cX8_tellBoy) (maxL := 2) (rt := .int) had (by decide) rfl rfl (Nat.le_of_ble_eq_true rfl) ?_
  intro p e s m args below meth c R0 B hr hk
  unfold d_X8_tellBoy
  show GG p l e (headSpec wsX8_tellBoy rm_X8_tellBoy).room s m args below meth c D ad (shX ad cA) 37 2 (MQ below (QI D ad (shX ad cA) 37 s.heap.size R0) args s 0 0 (AX ad 37 s.heap.size)) R0 M 0 [(0, .ref (ad 0)), (1, .ref (ad o1))] [] _
  refine g_aload_n B dX8_tellBoy_0 0 rfl rfl ?_
  refine g_iconst (v := 1) B dX8_tellBoy_1 (by decide) ?_
  refine g_callVVe (q := (RX8, TX8, 9)) (As := [.int (1 : Int32)]) (st := []) B (k_X8_leave l D cA ad B.2.2.2.2.2.2.1 (1 : Int32) M) (cwV 1 B.2.2.2.2.1 gX8_tellBoy_X8_leave rfl rfl rfl (by decide +kernel) ⟨Nat.le_of_ble_eq_true rfl, Nat.le_of_ble_eq_true rfl⟩) shX_pw (by decide) rfl rfl rfl (Nat.le_of_ble_eq_true rfl) dX8_tellBoy_2 (fun M1 _ => ?_)
  refine g_aload_n B dX8_tellBoy_5 1 rfl rfl ?_
  refine g_getN (v := .int (M1 o1 3)) B (shX_ft ho1) (ft_lt ho1) in_X8_tellBoy_X2 rfl 3 (by decide) 10 rfl rfl rfl dX8_tellBoy_6 ?_
  exact g_iret B hr hk dX8_tellBoy_9

abbrev rm_X8_tellMan : Room := { frames := 2, cells := 0, slots := 0, locals := 42 }
set_option maxHeartbeats 4000000 in
set_option maxRecDepth 100000 in
theorem k_X8_tellMan (l : Launch) (D : va_G) (cA : Nat → ClassId) (ad : Nat → Nat) (had : adOK ad 37) (o1 : Nat) (ho1 : isFt o1) (M : Mem) : CI l yX8_tellMan wsX8_tellMan rm_X8_tellMan D cA ad (shX ad cA) 37 [.ref (ad 0), .ref (ad o1)] M (d_X8_tellMan o1 M) := by
  refine CI_of (own := RX8) (cc := cX8_tellMan) (maxL := 2) (rt := .int) had (by decide) rfl rfl (Nat.le_of_ble_eq_true rfl) ?_
  intro p e s m args below meth c R0 B hr hk
  unfold d_X8_tellMan
  show GG p l e (headSpec wsX8_tellMan rm_X8_tellMan).room s m args below meth c D ad (shX ad cA) 37 2 (MQ below (QI D ad (shX ad cA) 37 s.heap.size R0) args s 0 0 (AX ad 37 s.heap.size)) R0 M 0 [(0, .ref (ad 0)), (1, .ref (ad o1))] [] _
  refine g_aload_n B dX8_tellMan_0 0 rfl rfl ?_
  refine g_iconst (v := 2) B dX8_tellMan_1 (by decide) ?_
  refine g_callVVe (q := (RX8, TX8, 9)) (As := [.int (2 : Int32)]) (st := []) B (k_X8_leave l D cA ad B.2.2.2.2.2.2.1 (2 : Int32) M) (cwV 1 B.2.2.2.2.1 gX8_tellMan_X8_leave rfl rfl rfl (by decide +kernel) ⟨Nat.le_of_ble_eq_true rfl, Nat.le_of_ble_eq_true rfl⟩) shX_pw (by decide) rfl rfl rfl (Nat.le_of_ble_eq_true rfl) dX8_tellMan_2 (fun M1 _ => ?_)
  refine g_aload_n B dX8_tellMan_5 0 rfl rfl ?_
  refine g_aload_n B dX8_tellMan_6 1 rfl rfl ?_
  refine g_callVIe (q := (RX8, TX8, 9)) (As := [.ref (ad o1)]) (st := []) B (k_X8_tellBoy l D cA ad B.2.2.2.2.2.2.1 o1 ho1 M1) (cwV 1 B.2.2.2.2.1 gX8_tellMan_X8_tellBoy rfl rfl rfl (by decide +kernel) ⟨Nat.le_of_ble_eq_true rfl, Nat.le_of_ble_eq_true rfl⟩) shX_pw (by decide) rfl rfl rfl (Nat.le_of_ble_eq_true rfl) dX8_tellMan_7 (fun r2 M3 _ => ?_)
  refine g_bipush (v := 100) B dX8_tellMan_10 (by decide) ?_
  refine g_iadd B dX8_tellMan_12 ?_
  exact g_iret B hr hk dX8_tellMan_13

abbrev rm_X8_tellPair : Room := { frames := 3, cells := 0, slots := 0, locals := 63 }
set_option maxHeartbeats 4000000 in
set_option maxRecDepth 100000 in
theorem k_X8_tellPair (l : Launch) (D : va_G) (cA : Nat → ClassId) (ad : Nat → Nat) (had : adOK ad 37) (o1 : Nat) (ho1 : isFt o1) (M : Mem) : CI l yX8_tellPair wsX8_tellPair rm_X8_tellPair D cA ad (shX ad cA) 37 [.ref (ad 0), .ref (ad o1)] M (d_X8_tellPair o1 M) := by
  refine CI_of (own := RX8) (cc := cX8_tellPair) (maxL := 3) (rt := .int) had (by decide) rfl rfl (Nat.le_of_ble_eq_true rfl) ?_
  intro p e s m args below meth c R0 B hr hk
  unfold d_X8_tellPair
  show GG p l e (headSpec wsX8_tellPair rm_X8_tellPair).room s m args below meth c D ad (shX ad cA) 37 3 (MQ below (QI D ad (shX ad cA) 37 s.heap.size R0) args s 0 0 (AX ad 37 s.heap.size)) R0 M 0 [(0, .ref (ad 0)), (1, .ref (ad o1))] [] _
  refine g_aload_n B dX8_tellPair_0 0 rfl rfl ?_
  refine g_iconst (v := 3) B dX8_tellPair_1 (by decide) ?_
  refine g_callVVe (q := (RX8, TX8, 9)) (As := [.int (3 : Int32)]) (st := []) B (k_X8_leave l D cA ad B.2.2.2.2.2.2.1 (3 : Int32) M) (cwV 1 B.2.2.2.2.1 gX8_tellPair_X8_leave rfl rfl rfl (by decide +kernel) ⟨Nat.le_of_ble_eq_true rfl, Nat.le_of_ble_eq_true rfl⟩) shX_pw (by decide) rfl rfl rfl (Nat.le_of_ble_eq_true rfl) dX8_tellPair_2 (fun M1 _ => ?_)
  refine g_aload_n B dX8_tellPair_5 0 rfl rfl ?_
  refine g_aload_n B dX8_tellPair_6 1 rfl rfl ?_
  refine g_callVIe (q := (RX8, TX8, 9)) (As := [.ref (ad o1)]) (st := []) B (k_X8_tellMan l D cA ad B.2.2.2.2.2.2.1 o1 ho1 M1) (cwV 1 B.2.2.2.2.1 gX8_tellPair_X8_tellMan rfl rfl rfl (by decide +kernel) ⟨Nat.le_of_ble_eq_true rfl, Nat.le_of_ble_eq_true rfl⟩) shX_pw (by decide) rfl rfl rfl (Nat.le_of_ble_eq_true rfl) dX8_tellPair_7 (fun r2 M3 _ => ?_)
  refine g_istore_n B dX8_tellPair_10 rfl (by decide) (lv1 := [(2, .int r2), (0, .ref (ad 0)), (1, .ref (ad o1))]) rfl ?_
  refine g_iload_n B dX8_tellPair_11 0 rfl rfl ?_
  refine g_aload_n B dX8_tellPair_12 1 rfl rfl ?_
  refine g_aload_n B dX8_tellPair_13 2 rfl rfl ?_
  refine g_callVIe (q := (RX8, TX8, 9)) (As := [.ref (ad o1)]) (st := [.int r2]) B (k_X8_tellBoy l D cA ad B.2.2.2.2.2.2.1 o1 ho1 M3) (cwV 1 B.2.2.2.2.1 gX8_tellPair_X8_tellBoy rfl rfl rfl (by decide +kernel) ⟨Nat.le_of_ble_eq_true rfl, Nat.le_of_ble_eq_true rfl⟩) shX_pw (by decide) rfl rfl rfl (Nat.le_of_ble_eq_true rfl) dX8_tellPair_14 (fun r4 M5 _ => ?_)
  refine g_iadd B dX8_tellPair_17 ?_
  exact g_iret B hr hk dX8_tellPair_18

abbrev rm_X8_tell : Room := { frames := 4, cells := 0, slots := 0, locals := 85 }
set_option maxHeartbeats 4000000 in
set_option maxRecDepth 100000 in
theorem k_X8_tell (l : Launch) (D : va_G) (cA : Nat → ClassId) (ad : Nat → Nat) (had : adOK ad 37) (v1 : Int32) (M : Mem) : CI l yX8_tell wsX8_tell rm_X8_tell D cA ad (shX ad cA) 37 [.ref (ad 0), .int v1] M (d_X8_tell v1 M) := by
  refine CI_of (own := RX8) (cc := cX8_tell) (maxL := 3) (rt := .int) had (by decide) rfl rfl (Nat.le_of_ble_eq_true rfl) ?_
  intro p e s m args below meth c R0 B hr hk
  unfold d_X8_tell
  show GG p l e (headSpec wsX8_tell rm_X8_tell).room s m args below meth c D ad (shX ad cA) 37 3 (MQ below (QI D ad (shX ad cA) 37 s.heap.size R0) args s 0 0 (AX ad 37 s.heap.size)) R0 M 0 [(0, .ref (ad 0)), (1, .int v1)] [] _
  refine g_aload_n B dX8_tell_0 0 rfl rfl ?_
  refine g_get (v := .ref (ad 6)) B shX_pw (by decide) in_X8_tell_X8 rfl 2 (by decide) (List.mem_of_getElem? (i := 1) rfl) rfl rfl dX8_tell_1 ?_
  refine g_iload_n B dX8_tell_4 1 rfl rfl ?_
  refine g_callVIp (q := (RX0, TX0, 2)) (As := [.int v1]) (st := []) B (k_X0_has l D cA ad B.2.2.2.2.2.2.1 6 co6 v1 M) (cwV 1 B.2.2.2.2.1 gX8_tell_X0_has rfl rfl rfl (by decide +kernel) ⟨Nat.le_of_ble_eq_true rfl, Nat.le_of_ble_eq_true rfl⟩) (shX_co co6) (co_lt co6) rfl rfl rfl (Nat.le_of_ble_eq_true rfl) dX8_tell_5 (fun r1 _ => ?_)
  refine g_if_ne (tgt := 13) B dX8_tell_8 (by decide) (fun c2 => ?_) (fun c2 => ?_)
  · refine g_iconst (v := -1) B dX8_tell_11 (by decide) ?_
    exact g_iret B hr hk dX8_tell_12
  · refine g_aload_n B dX8_tell_13 0 rfl rfl ?_
    refine g_get (v := .ref (ad 6)) B shX_pw (by decide) in_X8_tell_X8 rfl 2 (by decide) (List.mem_of_getElem? (i := 1) rfl) rfl rfl dX8_tell_14 ?_
    refine g_getN (v := .ref (ad (6 + 1))) B (shX_co co6) (co_lt co6) in_X8_tell_X0 rfl 0 (by decide) 16 rfl rfl rfl dX8_tell_17 ?_
    refine g_iload_n B dX8_tell_20 1 rfl rfl ?_
    refine g_aald (g := (ft 6)) B 1 rfl (shX_fts co6) (fts_lt co6) dX8_tell_21 (fun b3 => ?_)
    have f4 := (ft_ok co6 b3)
    refine g_astore_n B dX8_tell_22 rfl (by decide) (lv1 := [(2, .ref (ad ((ft 6) v1.toNatClampNeg))), (0, .ref (ad 0)), (1, .int v1)]) rfl ?_
    refine g_aload_n B dX8_tell_23 0 rfl rfl ?_
    refine g_getN (v := .int (M ((ft 6) v1.toNatClampNeg) 0)) B (shX_ft f4) (ft_lt f4) in_X8_tell_X2 rfl 0 (by decide) 3 rfl rfl rfl dX8_tell_24 ?_
    refine g_if (fun c7 => ?_) (fun c7 => ?_)
    · refine g_look (tgt := 52) B dX8_tell_27 (by decide) (by rw [c7] <;> rfl) (by decide) ?_
      refine g_aload_n B dX8_tell_52 1 rfl rfl ?_
      refine g_aload_n B dX8_tell_53 0 rfl rfl ?_
      refine g_callVIe (q := (RX8, TX8, 9)) (As := [.ref (ad ((ft 6) v1.toNatClampNeg))]) (st := []) B (k_X8_tellBoy l D cA ad B.2.2.2.2.2.2.1 ((ft 6) v1.toNatClampNeg) f4 M) (cwV 1 B.2.2.2.2.1 gX8_tell_X8_tellBoy rfl rfl rfl (by decide +kernel) ⟨Nat.le_of_ble_eq_true rfl, Nat.le_of_ble_eq_true rfl⟩) shX_pw (by decide) rfl rfl rfl (Nat.le_of_ble_eq_true rfl) dX8_tell_54 (fun r8 M9 _ => ?_)
      exact g_iret B hr hk dX8_tell_57
    · refine g_if (fun c10 => ?_) (fun c10 => ?_)
      · refine g_look (tgt := 58) B dX8_tell_27 (by decide) (by rw [c10] <;> rfl) (by decide) ?_
        refine g_aload_n B dX8_tell_58 1 rfl rfl ?_
        refine g_aload_n B dX8_tell_59 0 rfl rfl ?_
        refine g_callVIe (q := (RX8, TX8, 9)) (As := [.ref (ad ((ft 6) v1.toNatClampNeg))]) (st := []) B (k_X8_tellMan l D cA ad B.2.2.2.2.2.2.1 ((ft 6) v1.toNatClampNeg) f4 M) (cwV 1 B.2.2.2.2.1 gX8_tell_X8_tellMan rfl rfl rfl (by decide +kernel) ⟨Nat.le_of_ble_eq_true rfl, Nat.le_of_ble_eq_true rfl⟩) shX_pw (by decide) rfl rfl rfl (Nat.le_of_ble_eq_true rfl) dX8_tell_60 (fun r11 M12 _ => ?_)
        exact g_iret B hr hk dX8_tell_63
      · refine g_look (tgt := 64) B dX8_tell_27 (by decide) (lk_no (v := 0) c7 (by decide) (lk_no (v := 1) c10 (by decide) rfl)) (by decide) ?_
        refine g_aload_n B dX8_tell_64 1 rfl rfl ?_
        refine g_aload_n B dX8_tell_65 0 rfl rfl ?_
        refine g_callVIe (q := (RX8, TX8, 9)) (As := [.ref (ad ((ft 6) v1.toNatClampNeg))]) (st := []) B (k_X8_tellPair l D cA ad B.2.2.2.2.2.2.1 ((ft 6) v1.toNatClampNeg) f4 M) (cwV 1 B.2.2.2.2.1 gX8_tell_X8_tellPair rfl rfl rfl (by decide +kernel) ⟨Nat.le_of_ble_eq_true rfl, Nat.le_of_ble_eq_true rfl⟩) shX_pw (by decide) rfl rfl rfl (Nat.le_of_ble_eq_true rfl) dX8_tell_66 (fun r5 M6 _ => ?_)
        exact g_iret B hr hk dX8_tell_69

abbrev rm_X8_ring : Room := { frames := 1, cells := 0, slots := 0, locals := 21 }
set_option maxHeartbeats 4000000 in
set_option maxRecDepth 100000 in
theorem k_X8_ring (l : Launch) (D : va_G) (cA : Nat → ClassId) (ad : Nat → Nat) (had : adOK ad 37) (v1 : Int32) (M : Mem) : CI l yX8_ring wsX8_ring rm_X8_ring D cA ad (shX ad cA) 37 [.ref (ad 0), .int v1] M (d_X8_ring v1 M) := by
  refine CI_of (own := RX8) (cc := cX8_ring) (maxL := 2) (rt := .int) had (by decide) rfl rfl (Nat.le_of_ble_eq_true rfl) ?_
  intro p e s m args below meth c R0 B hr hk
  unfold d_X8_ring
  show GG p l e (headSpec wsX8_ring rm_X8_ring).room s m args below meth c D ad (shX ad cA) 37 2 (MQ below (QI D ad (shX ad cA) 37 s.heap.size R0) args s 0 0 (AX ad 37 s.heap.size)) R0 M 0 [(0, .ref (ad 0)), (1, .int v1)] [] _
  refine g_aload_n B dX8_ring_0 0 rfl rfl ?_
  refine g_get (v := .ref (ad 6)) B shX_pw (by decide) in_X8_ring_X8 rfl 2 (by decide) (List.mem_of_getElem? (i := 1) rfl) rfl rfl dX8_ring_1 ?_
  refine g_iload_n B dX8_ring_4 1 rfl rfl ?_
  refine g_callVIp (q := (RX0, TX0, 2)) (As := [.int v1]) (st := []) B (k_X0_has l D cA ad B.2.2.2.2.2.2.1 6 co6 v1 M) (cwV 1 B.2.2.2.2.1 gX8_ring_X0_has rfl rfl rfl (by decide +kernel) ⟨Nat.le_of_ble_eq_true rfl, Nat.le_of_ble_eq_true rfl⟩) (shX_co co6) (co_lt co6) rfl rfl rfl (Nat.le_of_ble_eq_true rfl) dX8_ring_5 (fun r1 _ => ?_)
  refine g_if_ne (tgt := 13) B dX8_ring_8 (by decide) (fun c2 => ?_) (fun c2 => ?_)
  · refine g_iconst (v := -1) B dX8_ring_11 (by decide) ?_
    exact g_iret B hr hk dX8_ring_12
  · refine g_aload_n B dX8_ring_13 0 rfl rfl ?_
    refine g_get (v := .ref (ad 6)) B shX_pw (by decide) in_X8_ring_X8 rfl 2 (by decide) (List.mem_of_getElem? (i := 1) rfl) rfl rfl dX8_ring_14 ?_
    refine g_getN (v := .ref (ad (6 + 1))) B (shX_co co6) (co_lt co6) in_X8_ring_X0 rfl 0 (by decide) 16 rfl rfl rfl dX8_ring_17 ?_
    refine g_iload_n B dX8_ring_20 1 rfl rfl ?_
    refine g_aald (g := (ft 6)) B 1 rfl (shX_fts co6) (fts_lt co6) dX8_ring_21 (fun b3 => ?_)
    have f4 := (ft_ok co6 b3)
    refine g_getN (v := .int (M ((ft 6) v1.toNatClampNeg) 0)) B (shX_ft f4) (ft_lt f4) in_X8_ring_X2 rfl 0 (by decide) 3 rfl rfl rfl dX8_ring_22 ?_
    refine g_iconst (v := 2) B dX8_ring_25 (by decide) ?_
    refine g_icmp_ne (tgt := 37) B dX8_ring_26 (by decide) (fun c5 => ?_) (fun c5 => ?_)
    · refine g_aload_n B dX8_ring_29 0 rfl rfl ?_
      refine g_iconst (v := 5) B dX8_ring_30 (by decide) ?_
      refine g_callVVe (q := (RX8, TX8, 9)) (As := [.int (5 : Int32)]) (st := []) B (k_X8_leave l D cA ad B.2.2.2.2.2.2.1 (5 : Int32) M) (cwV 1 B.2.2.2.2.1 gX8_ring_X8_leave rfl rfl rfl (by decide +kernel) ⟨Nat.le_of_ble_eq_true rfl, Nat.le_of_ble_eq_true rfl⟩) shX_pw (by decide) rfl rfl rfl (Nat.le_of_ble_eq_true rfl) dX8_ring_31 (fun M7 _ => ?_)
      refine g_bipush (v := 60) B dX8_ring_34 (by decide) ?_
      exact g_iret B hr hk dX8_ring_36
    · refine g_aload_n B dX8_ring_37 0 rfl rfl ?_
      refine g_iconst (v := 4) B dX8_ring_38 (by decide) ?_
      refine g_callVVe (q := (RX8, TX8, 9)) (As := [.int (4 : Int32)]) (st := []) B (k_X8_leave l D cA ad B.2.2.2.2.2.2.1 (4 : Int32) M) (cwV 1 B.2.2.2.2.1 gX8_ring_X8_leave rfl rfl rfl (by decide +kernel) ⟨Nat.le_of_ble_eq_true rfl, Nat.le_of_ble_eq_true rfl⟩) shX_pw (by decide) rfl rfl rfl (Nat.le_of_ble_eq_true rfl) dX8_ring_39 (fun M6 _ => ?_)
      refine g_iload_n B dX8_ring_42 1 rfl rfl ?_
      exact g_iret B hr hk dX8_ring_43

abbrev rm_X8_as : Room := { frames := 1, cells := 0, slots := 0, locals := 21 }
set_option maxHeartbeats 4000000 in
set_option maxRecDepth 100000 in
theorem k_X8_as (l : Launch) (D : va_G) (cA : Nat → ClassId) (ad : Nat → Nat) (had : adOK ad 37) (v1 : Int32) (v2 : Int32) (M : Mem) : CI l yX8_as wsX8_as rm_X8_as D cA ad (shX ad cA) 37 [.ref (ad 0), .int v1, .int v2] M (d_X8_as v1 v2 M) := by
  refine CI_of (own := RX8) (cc := cX8_as) (maxL := 3) (rt := .int) had (by decide) rfl rfl (Nat.le_of_ble_eq_true rfl) ?_
  intro p e s m args below meth c R0 B hr hk
  unfold d_X8_as
  show GG p l e (headSpec wsX8_as rm_X8_as).room s m args below meth c D ad (shX ad cA) 37 3 (MQ below (QI D ad (shX ad cA) 37 s.heap.size R0) args s 0 0 (AX ad 37 s.heap.size)) R0 M 0 [(0, .ref (ad 0)), (1, .int v1), (2, .int v2)] [] _
  refine g_aload_n B dX8_as_0 0 rfl rfl ?_
  refine g_iconst (v := 0) B dX8_as_1 (by decide) ?_
  refine g_put (ty := .int) B shX_pw (by decide) in_X8_as_X8 tyX8_ok nmX8 rfl 8 (by decide) (List.mem_of_getElem? (i := 1) rfl) rfl rfl (by decide +kernel) rfl rfl (fun _ => Nat.le_of_ble_eq_true rfl) (fun _ _ => rfl) dX8_as_2 (g_lmM (fun M1 => ?_))
  refine g_aload_n B dX8_as_5 0 rfl rfl ?_
  refine g_get (v := .ref (ad 6)) B shX_pw (by decide) in_X8_as_X8 rfl 2 (by decide) (List.mem_of_getElem? (i := 2) rfl) rfl rfl dX8_as_6 ?_
  refine g_iload_n B dX8_as_9 1 rfl rfl ?_
  refine g_callVIp (q := (RX0, TX0, 2)) (As := [.int v1]) (st := []) B (k_X0_has l D cA ad B.2.2.2.2.2.2.1 6 co6 v1 M1) (cwV 1 B.2.2.2.2.1 gX8_as_X0_has rfl rfl rfl (by decide +kernel) ⟨Nat.le_of_ble_eq_true rfl, Nat.le_of_ble_eq_true rfl⟩) (shX_co co6) (co_lt co6) rfl rfl rfl (Nat.le_of_ble_eq_true rfl) dX8_as_10 (fun r2 _ => ?_)
  refine g_if_ne (tgt := 18) B dX8_as_13 (by decide) (fun c3 => ?_) (fun c3 => ?_)
  · refine g_iconst (v := -1) B dX8_as_16 (by decide) ?_
    exact g_iret B hr hk dX8_as_17
  · refine g_iload_n B dX8_as_18 2 rfl rfl ?_
    refine g_callSIp (As := [.int v2]) (st := []) B (k_X8_isKind l D cA ad B.2.2.2.2.2.2.1 v2 M1) (va_cwS 1 B.2.2.2.2.1 gX8_as_X8_isKind rfl rfl rfl (by decide +kernel) ⟨Nat.le_of_ble_eq_true rfl, Nat.le_of_ble_eq_true rfl⟩) rfl rfl (Nat.le_of_ble_eq_true rfl) dX8_as_19 (fun r4 _ => ?_)
    refine g_if_ne (tgt := 28) B dX8_as_22 (by decide) (fun c5 => ?_) (fun c5 => ?_)
    · refine g_bipush (v := -2) B dX8_as_25 (by decide) ?_
      exact g_iret B hr hk dX8_as_27
    · refine g_aload_n B dX8_as_28 0 rfl rfl ?_
      refine g_get (v := .ref (ad 6)) B shX_pw (by decide) in_X8_as_X8 rfl 2 (by decide) (List.mem_of_getElem? (i := 2) rfl) rfl rfl dX8_as_29 ?_
      refine g_getN (v := .ref (ad (6 + 1))) B (shX_co co6) (co_lt co6) in_X8_as_X0 rfl 0 (by decide) 16 rfl rfl rfl dX8_as_32 ?_
      refine g_iload_n B dX8_as_35 1 rfl rfl ?_
      refine g_aald (g := (ft 6)) B 1 rfl (shX_fts co6) (fts_lt co6) dX8_as_36 (fun b6 => ?_)
      have f7 := (ft_ok co6 b6)
      refine g_getN (v := .int (M1 ((ft 6) v1.toNatClampNeg) 0)) B (shX_ft f7) (ft_lt f7) in_X8_as_X2 rfl 0 (by decide) 3 rfl rfl rfl dX8_as_37 ?_
      refine g_iload_n B dX8_as_40 2 rfl rfl ?_
      refine g_icmp_lt (tgt := 48) B dX8_as_41 (by decide) (fun c8 => ?_) (fun c8 => ?_)
      · refine g_aload_n B dX8_as_48 0 rfl rfl ?_
        refine g_iconst (v := 2) B dX8_as_49 (by decide) ?_
        refine g_callVIe (q := (RX8, TX8, 9)) (As := [.int (2 : Int32)]) (st := []) B (k_X8_faulted l D cA ad B.2.2.2.2.2.2.1 (2 : Int32) M1) (cwV 1 B.2.2.2.2.1 gX8_as_X8_faulted rfl rfl rfl (by decide +kernel) ⟨Nat.le_of_ble_eq_true rfl, Nat.le_of_ble_eq_true rfl⟩) shX_pw (by decide) rfl rfl rfl (Nat.le_of_ble_eq_true rfl) dX8_as_50 (fun r9 M10 _ => ?_)
        exact g_iret B hr hk dX8_as_53
      · refine g_iconst (v := 1) B dX8_as_44 (by decide) ?_
        refine g_goto (tgt := 53) B dX8_as_45 (by decide) ?_
        exact g_iret B hr hk dX8_as_53

abbrev rm_X8_trace : Room := { frames := 0, cells := 0, slots := 0, locals := 0 }
set_option maxHeartbeats 4000000 in
set_option maxRecDepth 100000 in
theorem k_X8_trace (l : Launch) (D : va_G) (cA : Nat → ClassId) (ad : Nat → Nat) (had : adOK ad 37)  (M : Mem) : CI l yX8_trace wsX8_trace rm_X8_trace D cA ad (shX ad cA) 37 [.ref (ad 0)] M (wM M (d_X8_trace  M)) := by
  refine CI_ofp (own := RX8) (cc := cX8_trace) (maxL := 1) (rt := .int) had (by decide) rfl rfl (Nat.le_of_ble_eq_true rfl) ?_
  intro p e s m args below meth c R0 B hr hk
  unfold d_X8_trace
  show GG p l e (headSpec wsX8_trace rm_X8_trace).room s m args below meth c D ad (shX ad cA) 37 1 (MQ below (QI D ad (shX ad cA) 37 s.heap.size (R0, M)) args s 0 0 (AX ad 37 s.heap.size)) R0 M 0 [(0, .ref (ad 0))] [] _
  refine g_aload_n B dX8_trace_0 0 rfl rfl ?_
  refine g_get (v := .int (M 0 7)) B shX_pw (by decide) in_X8_trace_X8 rfl 7 (by decide) (List.mem_of_getElem? (i := 1) rfl) rfl rfl dX8_trace_1 ?_
  exact g_iretp B hr hk dX8_trace_4

abbrev rm_X8_fault : Room := { frames := 0, cells := 0, slots := 0, locals := 0 }
set_option maxHeartbeats 4000000 in
set_option maxRecDepth 100000 in
theorem k_X8_fault (l : Launch) (D : va_G) (cA : Nat → ClassId) (ad : Nat → Nat) (had : adOK ad 37)  (M : Mem) : CI l yX8_fault wsX8_fault rm_X8_fault D cA ad (shX ad cA) 37 [.ref (ad 0)] M (wM M (d_X8_fault  M)) := by
  refine CI_ofp (own := RX8) (cc := cX8_fault) (maxL := 1) (rt := .int) had (by decide) rfl rfl (Nat.le_of_ble_eq_true rfl) ?_
  intro p e s m args below meth c R0 B hr hk
  unfold d_X8_fault
  show GG p l e (headSpec wsX8_fault rm_X8_fault).room s m args below meth c D ad (shX ad cA) 37 1 (MQ below (QI D ad (shX ad cA) 37 s.heap.size (R0, M)) args s 0 0 (AX ad 37 s.heap.size)) R0 M 0 [(0, .ref (ad 0))] [] _
  refine g_aload_n B dX8_fault_0 0 rfl rfl ?_
  refine g_get (v := .int (M 0 8)) B shX_pw (by decide) in_X8_fault_X8 rfl 8 (by decide) (List.mem_of_getElem? (i := 1) rfl) rfl rfl dX8_fault_1 ?_
  exact g_iretp B hr hk dX8_fault_4

abbrev rm_X8_many : Room := { frames := 4, cells := 0, slots := 0, locals := 89 }
set_option maxHeartbeats 4000000 in
set_option maxRecDepth 100000 in
theorem k_X8_many (l : Launch) (D : va_G) (cA : Nat → ClassId) (ad : Nat → Nat) (had : adOK ad 37) (v1 : Int32) (M : Mem) : CI l yX8_many wsX8_many rm_X8_many D cA ad (shX ad cA) 37 [.ref (ad 0), .int v1] M (wM M (d_X8_many v1 M)) := by
  refine CI_ofp (own := RX8) (cc := cX8_many) (maxL := 2) (rt := .int) had (by decide) rfl rfl (Nat.le_of_ble_eq_true rfl) ?_
  intro p e s m args below meth c R0 B hr hk
  unfold d_X8_many
  show GG p l e (headSpec wsX8_many rm_X8_many).room s m args below meth c D ad (shX ad cA) 37 2 (MQ below (QI D ad (shX ad cA) 37 s.heap.size (R0, M)) args s 0 0 (AX ad 37 s.heap.size)) R0 M 0 [(0, .ref (ad 0)), (1, .int v1)] [] _
  refine g_iload_n B dX8_many_0 1 rfl rfl ?_
  refine g_if (fun c1 => ?_) (fun c1 => ?_)
  · refine g_tin (tgt := 36) (off := 35) (v := 0) B dX8_many_1 c1 (by decide) (by decide) rfl (by decide) ?_
    refine g_aload_n B dX8_many_36 0 rfl rfl ?_
    refine g_get (v := .ref (ad 6)) B shX_pw (by decide) in_X8_many_X8 rfl 2 (by decide) (List.mem_of_getElem? (i := 1) rfl) rfl rfl dX8_many_37 ?_
    refine g_getN (v := .int (M 6 1)) B (shX_co co6) (co_lt co6) in_X8_many_X0 rfl 1 (by decide) 21 rfl rfl rfl dX8_many_40 ?_
    exact g_iretp B hr hk dX8_many_43
  · refine g_if (fun c2 => ?_) (fun c2 => ?_)
    · refine g_tin (tgt := 44) (off := 43) (v := 1) B dX8_many_1 c2 (by decide) (by decide) rfl (by decide) ?_
      refine g_aload_n B dX8_many_44 0 rfl rfl ?_
      refine g_get (v := .ref (ad 2)) B shX_pw (by decide) in_X8_many_X8 rfl 1 (by decide) (List.mem_of_getElem? (i := 2) rfl) rfl rfl dX8_many_45 ?_
      refine g_getN (v := .int (M 2 3)) B shX_st (by decide) in_X8_many_X6 rfl 3 (by decide) 1 rfl rfl rfl dX8_many_48 ?_
      exact g_iretp B hr hk dX8_many_51
    · refine g_if (fun c3 => ?_) (fun c3 => ?_)
      · refine g_tin (tgt := 52) (off := 51) (v := 2) B dX8_many_1 c3 (by decide) (by decide) rfl (by decide) ?_
        refine g_aload_n B dX8_many_52 0 rfl rfl ?_
        refine g_get (v := .int (M 0 6)) B shX_pw (by decide) in_X8_many_X8 rfl 6 (by decide) (List.mem_of_getElem? (i := 3) rfl) rfl rfl dX8_many_53 ?_
        exact g_iretp B hr hk dX8_many_56
      · refine g_if (fun c4 => ?_) (fun c4 => ?_)
        · refine g_tin (tgt := 57) (off := 56) (v := 3) B dX8_many_1 c4 (by decide) (by decide) rfl (by decide) ?_
          refine g_aload_n B dX8_many_57 0 rfl rfl ?_
          refine g_get (v := .ref (ad 6)) B shX_pw (by decide) in_X8_many_X8 rfl 2 (by decide) (List.mem_of_getElem? (i := 1) rfl) rfl rfl dX8_many_58 ?_
          refine g_aload_n B dX8_many_61 0 rfl rfl ?_
          refine g_get (v := .ref (ad 2)) B shX_pw (by decide) in_X8_many_X8 rfl 1 (by decide) (List.mem_of_getElem? (i := 2) rfl) rfl rfl dX8_many_62 ?_
          refine g_callVIp (q := (RX0, TX0, 2)) (As := [.ref (ad 2)]) (st := []) B (k_X0_countArrived l D cA ad B.2.2.2.2.2.2.1 6 co6 M) (cwV 1 B.2.2.2.2.1 gX8_many_X0_countArrived rfl rfl rfl (by decide +kernel) ⟨Nat.le_of_ble_eq_true rfl, Nat.le_of_ble_eq_true rfl⟩) (shX_co co6) (co_lt co6) rfl rfl rfl (Nat.le_of_ble_eq_true rfl) dX8_many_65 (fun r5 _ => ?_)
          exact g_iretp B hr hk dX8_many_68
        · refine g_if (fun c6 => ?_) (fun c6 => ?_)
          · refine g_tin (tgt := 69) (off := 68) (v := 4) B dX8_many_1 c6 (by decide) (by decide) rfl (by decide) ?_
            refine g_aload_n B dX8_many_69 0 rfl rfl ?_
            refine g_get (v := .ref (ad 25)) B shX_pw (by decide) in_X8_many_X8 rfl 5 (by decide) (List.mem_of_getElem? (i := 4) rfl) rfl rfl dX8_many_70 ?_
            refine g_getN (v := .int (M 25 3)) B shX_re (by decide) in_X8_many_X3 rfl 3 (by decide) 23 rfl rfl rfl dX8_many_73 ?_
            exact g_iretp B hr hk dX8_many_76
          · refine g_tout (tgt := 77) B dX8_many_1 (sw_5 c1 c2 c3 c4 c6) (by decide) ?_
            refine g_bipush (v := -2) B dX8_many_77 (by decide) ?_
            exact g_iretp B hr hk dX8_many_79
