abbrev rm_X8_street : Room := { frames := 2, cells := 0, slots := 0, locals := 43 }
set_option maxHeartbeats 4000000 in
set_option maxRecDepth 100000 in
theorem k_X8_street (l : Launch) (D : va_G) (cA : Nat → ClassId) (ad : Nat → Nat) (had : adOK ad 37) (v1 : Int32) (v2 : Int32) (M : Mem) : CI l yX8_street wsX8_street rm_X8_street D cA ad (shX ad cA) 37 [.ref (ad 0), .int v1, .int v2] M (wM M (d_X8_street v1 v2 M)) := by
  refine CI_ofp (own := RX8) (cc := cX8_street) (maxL := 3) (rt := .int) had (by decide) rfl rfl (Nat.le_of_ble_eq_true rfl) ?_
  intro p e s m args below meth c R0 B hr hk
  unfold d_X8_street
  show GG p l e (headSpec wsX8_street rm_X8_street).room s m args below meth c D ad (shX ad cA) 37 3 (MQ below (QI D ad (shX ad cA) 37 s.heap.size (R0, M)) args s 0 0 (AX ad 37 s.heap.size)) R0 M 0 [(0, .ref (ad 0)), (1, .int v1), (2, .int v2)] [] _
  refine g_aload_n B dX8_street_0 0 rfl rfl ?_
  refine g_get (v := .ref (ad 2)) B shX_pw (by decide) in_X8_street_X8 rfl 1 (by decide) (List.mem_of_getElem? (i := 1) rfl) rfl rfl dX8_street_1 ?_
  refine g_iload_n B dX8_street_4 1 rfl rfl ?_
  refine g_iload_n B dX8_street_5 2 rfl rfl ?_
  refine g_callVIp (q := (RX6, TX6, 4)) (As := [.int v1, .int v2]) (st := []) B (k_X6_hasTwo l D cA ad B.2.2.2.2.2.2.1 v1 v2 M) (cwV 2 B.2.2.2.2.1 gX8_street_X6_hasTwo rfl rfl rfl (by decide +kernel) ⟨Nat.le_of_ble_eq_true rfl, Nat.le_of_ble_eq_true rfl⟩) shX_st (by decide) rfl rfl rfl (Nat.le_of_ble_eq_true rfl) dX8_street_6 (fun r1 _ => ?_)
  refine g_if_ne (tgt := 14) B dX8_street_9 (by decide) (fun c2 => ?_) (fun c2 => ?_)
  · refine g_iconst (v := -1) B dX8_street_12 (by decide) ?_
    exact g_iretp B hr hk dX8_street_13
  · refine g_aload_n B dX8_street_14 0 rfl rfl ?_
    refine g_get (v := .ref (ad 2)) B shX_pw (by decide) in_X8_street_X8 rfl 1 (by decide) (List.mem_of_getElem? (i := 1) rfl) rfl rfl dX8_street_15 ?_
    refine g_iload_n B dX8_street_18 1 rfl rfl ?_
    refine g_iload_n B dX8_street_19 2 rfl rfl ?_
    refine g_callVIp (q := (RX6, TX6, 4)) (As := [.int v1, .int v2]) (st := []) B (k_X6_length l D cA ad B.2.2.2.2.2.2.1 v1 v2 M) (cwV 2 B.2.2.2.2.1 gX8_street_X6_length rfl rfl rfl (by decide +kernel) ⟨Nat.le_of_ble_eq_true rfl, Nat.le_of_ble_eq_true rfl⟩) shX_st (by decide) rfl rfl rfl (Nat.le_of_ble_eq_true rfl) dX8_street_20 (fun r3 _ => ?_)
    exact g_iretp B hr hk dX8_street_23

abbrev rm_X8_pave : Room := { frames := 3, cells := 0, slots := 0, locals := 66 }
set_option maxHeartbeats 4000000 in
set_option maxRecDepth 100000 in
theorem k_X8_pave (l : Launch) (D : va_G) (cA : Nat → ClassId) (ad : Nat → Nat) (had : adOK ad 37) (v1 : Int32) (v2 : Int32) (v3 : Int32) (M : Mem) : CI l yX8_pave wsX8_pave rm_X8_pave D cA ad (shX ad cA) 37 [.ref (ad 0), .int v1, .int v2, .int v3] M (d_X8_pave v1 v2 v3 M) := by
  refine CI_of (own := RX8) (cc := cX8_pave) (maxL := 5) (rt := .int) had (by decide) rfl rfl (Nat.le_of_ble_eq_true rfl) ?_
  intro p e s m args below meth c R0 B hr hk
  unfold d_X8_pave
  show GG p l e (headSpec wsX8_pave rm_X8_pave).room s m args below meth c D ad (shX ad cA) 37 5 (MQ below (QI D ad (shX ad cA) 37 s.heap.size R0) args s 0 0 (AX ad 37 s.heap.size)) R0 M 0 [(0, .ref (ad 0)), (1, .int v1), (2, .int v2), (3, .int v3)] [] _
  refine g_aload_n B dX8_pave_0 0 rfl rfl ?_
  refine g_get (v := .ref (ad 2)) B shX_pw (by decide) in_X8_pave_X8 rfl 1 (by decide) (List.mem_of_getElem? (i := 1) rfl) rfl rfl dX8_pave_1 ?_
  refine g_iload_n B dX8_pave_4 1 rfl rfl ?_
  refine g_iload_n B dX8_pave_5 2 rfl rfl ?_
  refine g_callVIp (q := (RX6, TX6, 4)) (As := [.int v1, .int v2]) (st := []) B (k_X6_hasTwo l D cA ad B.2.2.2.2.2.2.1 v1 v2 M) (cwV 2 B.2.2.2.2.1 gX8_pave_X6_hasTwo rfl rfl rfl (by decide +kernel) ⟨Nat.le_of_ble_eq_true rfl, Nat.le_of_ble_eq_true rfl⟩) shX_st (by decide) rfl rfl rfl (Nat.le_of_ble_eq_true rfl) dX8_pave_6 (fun r1 _ => ?_)
  refine g_if_ne (tgt := 14) B dX8_pave_9 (by decide) (fun c2 => ?_) (fun c2 => ?_)
  · refine g_iconst (v := -1) B dX8_pave_12 (by decide) ?_
    exact g_iret B hr hk dX8_pave_13
  · refine g_iload_n B dX8_pave_14 3 rfl rfl ?_
    refine g_if_lt (tgt := 24) B dX8_pave_15 (by decide) (fun c3 => ?_) (fun c3 => ?_)
    · refine g_bipush (v := -2) B dX8_pave_24 (by decide) ?_
      exact g_iret B hr hk dX8_pave_26
    · refine g_iload_n B dX8_pave_18 3 rfl rfl ?_
      refine g_bipush (v := 9) B dX8_pave_19 (by decide) ?_
      refine g_icmp_le (tgt := 27) B dX8_pave_21 (by decide) (fun c4 => ?_) (fun c4 => ?_)
      · refine g_aload_n B dX8_pave_27 0 rfl rfl ?_
        refine g_get (v := .ref (ad 2)) B shX_pw (by decide) in_X8_pave_X8 rfl 1 (by decide) (List.mem_of_getElem? (i := 1) rfl) rfl rfl dX8_pave_28 ?_
        refine g_iload_n B dX8_pave_31 1 rfl rfl ?_
        refine g_iload_n B dX8_pave_32 2 rfl rfl ?_
        refine g_callVIp (q := (RX6, TX6, 4)) (As := [.int v1, .int v2]) (st := []) B (k_X6_length l D cA ad B.2.2.2.2.2.2.1 v1 v2 M) (cwV 2 B.2.2.2.2.1 gX8_pave_X6_length rfl rfl rfl (by decide +kernel) ⟨Nat.le_of_ble_eq_true rfl, Nat.le_of_ble_eq_true rfl⟩) shX_st (by decide) rfl rfl rfl (Nat.le_of_ble_eq_true rfl) dX8_pave_33 (fun r5 _ => ?_)
        refine g_istore B dX8_pave_36 (by decide) (lv1 := [(4, .int r5), (0, .ref (ad 0)), (1, .int v1), (2, .int v2), (3, .int v3)]) rfl ?_
        refine g_aload_n B dX8_pave_38 1 rfl rfl ?_
        refine g_get (v := .ref (ad 2)) B shX_pw (by decide) in_X8_pave_X8 rfl 1 (by decide) (List.mem_of_getElem? (i := 1) rfl) rfl rfl dX8_pave_39 ?_
        refine g_iload_n B dX8_pave_42 2 rfl rfl ?_
        refine g_iload_n B dX8_pave_43 3 rfl rfl ?_
        refine g_iload_n B dX8_pave_44 4 rfl rfl ?_
        refine g_callVVe (q := (RX6, TX6, 4)) (As := [.int v1, .int v2, .int v3]) (st := []) B (k_X6_lay l D cA ad B.2.2.2.2.2.2.1 v1 v2 v3 M) (cwV 3 B.2.2.2.2.1 gX8_pave_X6_lay rfl rfl rfl (by decide +kernel) ⟨Nat.le_of_ble_eq_true rfl, Nat.le_of_ble_eq_true rfl⟩) shX_st (by decide) rfl rfl rfl (Nat.le_of_ble_eq_true rfl) dX8_pave_45 (fun M6 _ => ?_)
        refine g_aload_n B dX8_pave_48 1 rfl rfl ?_
        refine g_get (v := .ref (ad 2)) B shX_pw (by decide) in_X8_pave_X8 rfl 1 (by decide) (List.mem_of_getElem? (i := 1) rfl) rfl rfl dX8_pave_49 ?_
        refine g_callVVe (q := (RX6, TX6, 4)) (As := []) (st := []) B (k_X6_measure l D cA ad B.2.2.2.2.2.2.1  M6) (cwV 0 B.2.2.2.2.1 gX8_pave_X6_measure rfl rfl rfl (by decide +kernel) ⟨Nat.le_of_ble_eq_true rfl, Nat.le_of_ble_eq_true rfl⟩) shX_st (by decide) rfl rfl rfl (Nat.le_of_ble_eq_true rfl) dX8_pave_52 (fun M7 _ => ?_)
        refine g_iload B dX8_pave_55 0 rfl ?_
        exact g_iret B hr hk dX8_pave_57
      · refine g_bipush (v := -2) B dX8_pave_24 (by decide) ?_
        exact g_iret B hr hk dX8_pave_26

abbrev rm_X8_far : Room := { frames := 2, cells := 0, slots := 0, locals := 44 }
set_option maxHeartbeats 4000000 in
set_option maxRecDepth 100000 in
theorem k_X8_far (l : Launch) (D : va_G) (cA : Nat → ClassId) (ad : Nat → Nat) (had : adOK ad 37) (v1 : Int32) (v2 : Int32) (M : Mem) : CI l yX8_far wsX8_far rm_X8_far D cA ad (shX ad cA) 37 [.ref (ad 0), .int v1, .int v2] M (wM M (d_X8_far v1 v2 M)) := by
  refine CI_ofp (own := RX8) (cc := cX8_far) (maxL := 3) (rt := .int) had (by decide) rfl rfl (Nat.le_of_ble_eq_true rfl) ?_
  intro p e s m args below meth c R0 B hr hk
  unfold d_X8_far
  show GG p l e (headSpec wsX8_far rm_X8_far).room s m args below meth c D ad (shX ad cA) 37 3 (MQ below (QI D ad (shX ad cA) 37 s.heap.size (R0, M)) args s 0 0 (AX ad 37 s.heap.size)) R0 M 0 [(0, .ref (ad 0)), (1, .int v1), (2, .int v2)] [] _
  refine g_aload_n B dX8_far_0 0 rfl rfl ?_
  refine g_get (v := .ref (ad 2)) B shX_pw (by decide) in_X8_far_X8 rfl 1 (by decide) (List.mem_of_getElem? (i := 1) rfl) rfl rfl dX8_far_1 ?_
  refine g_iload_n B dX8_far_4 1 rfl rfl ?_
  refine g_callVIp (q := (RX6, TX6, 4)) (As := [.int v1]) (st := []) B (k_X6_has l D cA ad B.2.2.2.2.2.2.1 v1 M) (cwV 1 B.2.2.2.2.1 gX8_far_X6_has rfl rfl rfl (by decide +kernel) ⟨Nat.le_of_ble_eq_true rfl, Nat.le_of_ble_eq_true rfl⟩) shX_st (by decide) rfl rfl rfl (Nat.le_of_ble_eq_true rfl) dX8_far_5 (fun r1 _ => ?_)
  refine g_if_eq (tgt := 22) B dX8_far_8 (by decide) (fun c2 => ?_) (fun c2 => ?_)
  · refine g_iconst (v := -1) B dX8_far_22 (by decide) ?_
    exact g_iretp B hr hk dX8_far_23
  · refine g_aload_n B dX8_far_11 0 rfl rfl ?_
    refine g_get (v := .ref (ad 2)) B shX_pw (by decide) in_X8_far_X8 rfl 1 (by decide) (List.mem_of_getElem? (i := 1) rfl) rfl rfl dX8_far_12 ?_
    refine g_iload_n B dX8_far_15 2 rfl rfl ?_
    refine g_callVIp (q := (RX6, TX6, 4)) (As := [.int v2]) (st := []) B (k_X6_has l D cA ad B.2.2.2.2.2.2.1 v2 M) (cwV 1 B.2.2.2.2.1 gX8_far_X6_has rfl rfl rfl (by decide +kernel) ⟨Nat.le_of_ble_eq_true rfl, Nat.le_of_ble_eq_true rfl⟩) shX_st (by decide) rfl rfl rfl (Nat.le_of_ble_eq_true rfl) dX8_far_16 (fun r3 _ => ?_)
    refine g_if_ne (tgt := 24) B dX8_far_19 (by decide) (fun c4 => ?_) (fun c4 => ?_)
    · refine g_iconst (v := -1) B dX8_far_22 (by decide) ?_
      exact g_iretp B hr hk dX8_far_23
    · refine g_aload_n B dX8_far_24 0 rfl rfl ?_
      refine g_get (v := .ref (ad 2)) B shX_pw (by decide) in_X8_far_X8 rfl 1 (by decide) (List.mem_of_getElem? (i := 1) rfl) rfl rfl dX8_far_25 ?_
      refine g_iload_n B dX8_far_28 1 rfl rfl ?_
      refine g_iload_n B dX8_far_29 2 rfl rfl ?_
      refine g_callVIp (q := (RX6, TX6, 4)) (As := [.int v1, .int v2]) (st := []) B (k_X6_distance l D cA ad B.2.2.2.2.2.2.1 v1 v2 M) (cwV 2 B.2.2.2.2.1 gX8_far_X6_distance rfl rfl rfl (by decide +kernel) ⟨Nat.le_of_ble_eq_true rfl, Nat.le_of_ble_eq_true rfl⟩) shX_st (by decide) rfl rfl rfl (Nat.le_of_ble_eq_true rfl) dX8_far_30 (fun r5 _ => ?_)
      exact g_iretp B hr hk dX8_far_33

abbrev rm_X8_hasTown : Room := { frames := 0, cells := 0, slots := 0, locals := 0 }
set_option maxHeartbeats 4000000 in
set_option maxRecDepth 100000 in
theorem k_X8_hasTown (l : Launch) (D : va_G) (cA : Nat → ClassId) (ad : Nat → Nat) (had : adOK ad 37)  (M : Mem) : CI l yX8_hasTown wsX8_hasTown rm_X8_hasTown D cA ad (shX ad cA) 37 [.ref (ad 0)] M (wM M (d_X8_hasTown  M)) := by
  refine CI_ofp (own := RX8) (cc := cX8_hasTown) (maxL := 1) (rt := .boolean) had (by decide) rfl rfl (Nat.le_of_ble_eq_true rfl) ?_
  intro p e s m args below meth c R0 B hr hk
  unfold d_X8_hasTown
  show GG p l e (headSpec wsX8_hasTown rm_X8_hasTown).room s m args below meth c D ad (shX ad cA) 37 1 (MQ below (QI D ad (shX ad cA) 37 s.heap.size (R0, M)) args s 0 0 (AX ad 37 s.heap.size)) R0 M 0 [(0, .ref (ad 0))] [] _
  refine g_aload_n B dX8_hasTown_0 0 rfl rfl ?_
  refine g_get (v := .ref (ad 2)) B shX_pw (by decide) in_X8_hasTown_X8 rfl 1 (by decide) (List.mem_of_getElem? (i := 1) rfl) rfl rfl dX8_hasTown_1 ?_
  refine g_getN (v := .int (M 2 3)) B shX_st (by decide) in_X8_hasTown_X6 rfl 3 (by decide) 1 rfl rfl rfl dX8_hasTown_4 ?_
  refine g_if_le (tgt := 14) B dX8_hasTown_7 (by decide) (fun c1 => ?_) (fun c1 => ?_)
  · refine g_iconst (v := 0) B dX8_hasTown_14 (by decide) ?_
    exact g_zretp B hr hk rfl dX8_hasTown_15
  · refine g_iconst (v := 1) B dX8_hasTown_10 (by decide) ?_
    refine g_goto (tgt := 15) B dX8_hasTown_11 (by decide) ?_
    exact g_zretp B hr hk rfl dX8_hasTown_15

abbrev rm_X0_countArrived : Room := { frames := 3, cells := 0, slots := 0, locals := 66 }
set_option maxHeartbeats 4000000 in
set_option maxRecDepth 100000 in
theorem k_X0_countArrived (l : Launch) (D : va_G) (cA : Nat → ClassId) (ad : Nat → Nat) (had : adOK ad 37) (o0 : Nat) (ho0 : isCo o0) (M : Mem) : CI l yX0_countArrived wsX0_countArrived rm_X0_countArrived D cA ad (shX ad cA) 37 [.ref (ad o0), .ref (ad 2)] M (wM M (d_X0_countArrived o0 M)) := by
  refine CI_ofp (own := RX0) (cc := cX0_countArrived) (maxL := 4) (rt := .int) had (by decide) rfl rfl (Nat.le_of_ble_eq_true rfl) ?_
  intro p e s m args below meth c R0 B hr hk
  have hL4 : ∀ (o0 : Nat)   (ho0 : isCo o0) , ∀ (f : Nat) (v2 : Int32) (v3 : Int32), GG p l e (headSpec wsX0_countArrived rm_X0_countArrived).room s m args below meth c D ad (shX ad cA) 37 4 (MQ below (QI D ad (shX ad cA) 37 s.heap.size (R0, M)) args s 0 0 (AX ad 37 s.heap.size)) R0 M 4 [(0, .ref (ad o0)), (1, .ref (ad 2)), (2, .int v2), (3, .int v3)] [] (dX0_countArrived_4l o0 M  f v2 v3 ) := by
    intro o0 ho0
    intro f
    induction f with
    | zero =>
      intro v2 v3
      exact g_none
    | succ f ih =>
      intro v2 v3
      rw [dX0_countArrived_4l]
      refine g_iload_n B dX0_countArrived_4 3 rfl rfl ?_
      refine g_aload_n B dX0_countArrived_5 0 rfl rfl ?_
      refine g_get (v := .int (M o0 1)) B (shX_co ho0) (co_lt ho0) in_X0_countArrived_X0 rfl 1 (by decide) (List.mem_of_getElem? (i := 1) rfl) rfl rfl dX0_countArrived_6 ?_
      refine g_icmp_ge (tgt := 34) B dX0_countArrived_9 (by decide) (fun c1 => ?_) (fun c1 => ?_)
      · refine g_iload_n B dX0_countArrived_34 2 rfl rfl ?_
        exact g_iretp B hr hk dX0_countArrived_35
      · refine g_aload_n B dX0_countArrived_12 0 rfl rfl ?_
        refine g_get (v := .ref (ad (o0 + 1))) B (shX_co ho0) (co_lt ho0) in_X0_countArrived_X0 rfl 0 (by decide) (List.mem_of_getElem? (i := 2) rfl) rfl rfl dX0_countArrived_13 ?_
        refine g_iload_n B dX0_countArrived_16 3 rfl rfl ?_
        refine g_aald (g := (ft o0)) B 1 rfl (shX_fts ho0) (fts_lt ho0) dX0_countArrived_17 (fun b2 => ?_)
        have f3 := (ft_ok ho0 b2)
        refine g_aload_n B dX0_countArrived_18 1 rfl rfl ?_
        refine g_callVIp (q := (RX2, TX2, 6)) (As := [.ref (ad 2)]) (st := []) B (k_X2_hasArrived l D cA ad B.2.2.2.2.2.2.1 ((ft o0) v3.toNatClampNeg) f3 M) (cwV 1 B.2.2.2.2.1 gX0_countArrived_X2_hasArrived rfl rfl rfl (by decide +kernel) ⟨Nat.le_of_ble_eq_true rfl, Nat.le_of_ble_eq_true rfl⟩) (shX_ft f3) (ft_lt f3) rfl rfl rfl (Nat.le_of_ble_eq_true rfl) dX0_countArrived_19 (fun r4 _ => ?_)
        refine g_if_eq (tgt := 28) B dX0_countArrived_22 (by decide) (fun c5 => ?_) (fun c5 => ?_)
        · refine g_iinc B dX0_countArrived_28 3 (v := v3 + (1 : Int32)) rfl rfl (by decide) (lv1 := [(3, .int (v3 + (1 : Int32))), (0, .ref (ad o0)), (1, .ref (ad 2)), (2, .int v2)]) rfl ?_
          refine g_goto (tgt := 4) B dX0_countArrived_31 (by decide) ?_
          exact g_lv [1, 2, 3, 0] rfl (ih _ _)
        · refine g_iinc B dX0_countArrived_25 2 (v := v2 + (1 : Int32)) rfl rfl (by decide) (lv1 := [(2, .int (v2 + (1 : Int32))), (0, .ref (ad o0)), (1, .ref (ad 2)), (3, .int v3)]) rfl ?_
          refine g_iinc B dX0_countArrived_28 3 (v := v3 + (1 : Int32)) rfl rfl (by decide) (lv1 := [(3, .int (v3 + (1 : Int32))), (2, .int (v2 + (1 : Int32))), (0, .ref (ad o0)), (1, .ref (ad 2))]) rfl ?_
          refine g_goto (tgt := 4) B dX0_countArrived_31 (by decide) ?_
          exact g_lv [2, 3, 1, 0] rfl (ih _ _)
  unfold d_X0_countArrived
  show GG p l e (headSpec wsX0_countArrived rm_X0_countArrived).room s m args below meth c D ad (shX ad cA) 37 4 (MQ below (QI D ad (shX ad cA) 37 s.heap.size (R0, M)) args s 0 0 (AX ad 37 s.heap.size)) R0 M 0 [(0, .ref (ad o0)), (1, .ref (ad 2))] [] _
  refine g_iconst (v := 0) B dX0_countArrived_0 (by decide) ?_
  refine g_istore_n B dX0_countArrived_1 rfl (by decide) (lv1 := [(2, .int (0 : Int32)), (0, .ref (ad o0)), (1, .ref (ad 2))]) rfl ?_
  refine g_iconst (v := 0) B dX0_countArrived_2 (by decide) ?_
  refine g_istore_n B dX0_countArrived_3 rfl (by decide) (lv1 := [(3, .int (0 : Int32)), (2, .int (0 : Int32)), (0, .ref (ad o0)), (1, .ref (ad 2))]) rfl ?_
  refine g_lv [2, 3, 1, 0] rfl (hL4 _ ho0  FU _ _)

abbrev rm_X0_passDay : Room := { frames := 3, cells := 0, slots := 0, locals := 66 }
set_option maxHeartbeats 4000000 in
set_option maxRecDepth 100000 in
theorem k_X0_passDay (l : Launch) (D : va_G) (cA : Nat → ClassId) (ad : Nat → Nat) (had : adOK ad 37) (o0 : Nat) (ho0 : isCo o0) (M : Mem) : CV l yX0_passDay wsX0_passDay rm_X0_passDay D cA ad (shX ad cA) 37 [.ref (ad o0), .ref (ad 2)] M (d_X0_passDay o0 M) := by
  refine CV_of (own := RX0) (cc := cX0_passDay) (maxL := 4) had (by decide) rfl rfl (Nat.le_of_ble_eq_true rfl) ?_
  intro p e s m args below meth c R0 B hr hk
  have hL2 : ∀ (o0 : Nat)   (ho0 : isCo o0) , ∀ (f : Nat) (v2 : Int32) (M : Mem), GG p l e (headSpec wsX0_passDay rm_X0_passDay).room s m args below meth c D ad (shX ad cA) 37 4 (MQ below (QV D ad (shX ad cA) 37 s.heap.size R0) args s 0 0 (AX ad 37 s.heap.size)) R0 M 2 [(0, .ref (ad o0)), (1, .ref (ad 2)), (2, .int v2)] [] (dX0_passDay_2l o0   f v2 M) := by
    intro o0 ho0
    intro f
    induction f with
    | zero =>
      intro v2 M
      exact g_none
    | succ f ih =>
      intro v2 M
      rw [dX0_passDay_2l]
      refine g_iload_n B dX0_passDay_2 2 rfl rfl ?_
      refine g_aload_n B dX0_passDay_3 0 rfl rfl ?_
      refine g_get (v := .int (M o0 1)) B (shX_co ho0) (co_lt ho0) in_X0_passDay_X0 rfl 1 (by decide) (List.mem_of_getElem? (i := 1) rfl) rfl rfl dX0_passDay_4 ?_
      refine g_icmp_ge (tgt := 51) B dX0_passDay_7 (by decide) (fun c1 => ?_) (fun c1 => ?_)
      · exact g_vret B hr hk dX0_passDay_51
      · refine g_aload_n B dX0_passDay_10 0 rfl rfl ?_
        refine g_get (v := .ref (ad (o0 + 1))) B (shX_co ho0) (co_lt ho0) in_X0_passDay_X0 rfl 0 (by decide) (List.mem_of_getElem? (i := 2) rfl) rfl rfl dX0_passDay_11 ?_
        refine g_iload_n B dX0_passDay_14 2 rfl rfl ?_
        refine g_aald (g := (ft o0)) B 1 rfl (shX_fts ho0) (fts_lt ho0) dX0_passDay_15 (fun b2 => ?_)
        have f3 := (ft_ok ho0 b2)
        refine g_astore_n B dX0_passDay_16 rfl (by decide) (lv1 := [(3, .ref (ad ((ft o0) v2.toNatClampNeg))), (0, .ref (ad o0)), (1, .ref (ad 2)), (2, .int v2)]) rfl ?_
        refine g_aload_n B dX0_passDay_17 0 rfl rfl ?_
        refine g_getN (v := .int (M ((ft o0) v2.toNatClampNeg) 5)) B (shX_ft f3) (ft_lt f3) in_X0_passDay_X2 rfl 5 (by decide) 14 rfl rfl rfl dX0_passDay_18 ?_
        refine g_if_ne (tgt := 45) B dX0_passDay_21 (by decide) (fun c4 => ?_) (fun c4 => ?_)
        · refine g_aload_n B dX0_passDay_24 0 rfl rfl ?_
          refine g_aload_n B dX0_passDay_25 2 rfl rfl ?_
          refine g_callVIp (q := (RX2, TX2, 6)) (As := [.ref (ad 2)]) (st := []) B (k_X2_hasArrived l D cA ad B.2.2.2.2.2.2.1 ((ft o0) v2.toNatClampNeg) f3 M) (cwV 1 B.2.2.2.2.1 gX0_passDay_X2_hasArrived rfl rfl rfl (by decide +kernel) ⟨Nat.le_of_ble_eq_true rfl, Nat.le_of_ble_eq_true rfl⟩) (shX_ft f3) (ft_lt f3) rfl rfl rfl (Nat.le_of_ble_eq_true rfl) dX0_passDay_26 (fun r5 _ => ?_)
          refine g_if_ne (tgt := 45) B dX0_passDay_29 (by decide) (fun c6 => ?_) (fun c6 => ?_)
          · refine g_aload_n B dX0_passDay_32 0 rfl rfl ?_
            refine g_dup B dX0_passDay_33 rfl ?_
            refine g_getN (v := .int (M ((ft o0) v2.toNatClampNeg) 4)) B (shX_ft f3) (ft_lt f3) in_X0_passDay_X2 rfl 4 (by decide) 11 rfl rfl rfl dX0_passDay_34 ?_
            refine g_aload_n B dX0_passDay_37 0 rfl rfl ?_
            refine g_callVIp (q := (RX2, TX2, 6)) (As := []) (st := [.int (M ((ft o0) v2.toNatClampNeg) 4), .ref (ad ((ft o0) v2.toNatClampNeg))]) B (k_X2_pace l D cA ad B.2.2.2.2.2.2.1 ((ft o0) v2.toNatClampNeg) f3 M) (cwV 0 B.2.2.2.2.1 gX0_passDay_X2_pace rfl rfl rfl (by decide +kernel) ⟨Nat.le_of_ble_eq_true rfl, Nat.le_of_ble_eq_true rfl⟩) (shX_ft f3) (ft_lt f3) rfl rfl rfl (Nat.le_of_ble_eq_true rfl) dX0_passDay_38 (fun r7 _ => ?_)
            refine g_iadd B dX0_passDay_41 ?_
            refine g_putN (ty := .int) B (shX_ft f3) (ft_lt f3) in_X0_passDay_X2 tyX2_ok nmX2 rfl 4 (by decide) 11 rfl rfl rfl (by decide +kernel) rfl rfl (fun _ => Nat.le_of_ble_eq_true rfl) (fun _ _ => rfl) dX0_passDay_42 (g_lmM (fun M8 => ?_))
            refine g_iinc B dX0_passDay_45 3 (v := v2 + (1 : Int32)) rfl rfl (by decide) (lv1 := [(2, .int (v2 + (1 : Int32))), (3, .ref (ad ((ft o0) v2.toNatClampNeg))), (0, .ref (ad o0)), (1, .ref (ad 2))]) rfl ?_
            refine g_goto (tgt := 2) B dX0_passDay_48 (by decide) ?_
            exact g_lv [2, 3, 0] rfl (ih _ _)
          · refine g_iinc B dX0_passDay_45 3 (v := v2 + (1 : Int32)) rfl rfl (by decide) (lv1 := [(2, .int (v2 + (1 : Int32))), (3, .ref (ad ((ft o0) v2.toNatClampNeg))), (0, .ref (ad o0)), (1, .ref (ad 2))]) rfl ?_
            refine g_goto (tgt := 2) B dX0_passDay_48 (by decide) ?_
            exact g_lv [2, 3, 0] rfl (ih _ _)
        · refine g_iinc B dX0_passDay_45 3 (v := v2 + (1 : Int32)) rfl rfl (by decide) (lv1 := [(2, .int (v2 + (1 : Int32))), (3, .ref (ad ((ft o0) v2.toNatClampNeg))), (0, .ref (ad o0)), (1, .ref (ad 2))]) rfl ?_
          refine g_goto (tgt := 2) B dX0_passDay_48 (by decide) ?_
          exact g_lv [2, 3, 0] rfl (ih _ _)
  unfold d_X0_passDay
  show GG p l e (headSpec wsX0_passDay rm_X0_passDay).room s m args below meth c D ad (shX ad cA) 37 4 (MQ below (QV D ad (shX ad cA) 37 s.heap.size R0) args s 0 0 (AX ad 37 s.heap.size)) R0 M 0 [(0, .ref (ad o0)), (1, .ref (ad 2))] [] _
  refine g_iconst (v := 0) B dX0_passDay_0 (by decide) ?_
  refine g_istore_n B dX0_passDay_1 rfl (by decide) (lv1 := [(2, .int (0 : Int32)), (0, .ref (ad o0)), (1, .ref (ad 2))]) rfl ?_
  refine g_lv [1, 2, 0] rfl (hL2 _ ho0  FU _ _)

abbrev rm_X8_days : Room := { frames := 4, cells := 0, slots := 0, locals := 89 }
set_option maxHeartbeats 4000000 in
set_option maxRecDepth 100000 in
theorem k_X8_days (l : Launch) (D : va_G) (cA : Nat → ClassId) (ad : Nat → Nat) (had : adOK ad 37) (v1 : Int32) (M : Mem) : CI l yX8_days wsX8_days rm_X8_days D cA ad (shX ad cA) 37 [.ref (ad 0), .int v1] M (d_X8_days v1 M) := by
  refine CI_of (own := RX8) (cc := cX8_days) (maxL := 4) (rt := .int) had (by decide) rfl rfl (Nat.le_of_ble_eq_true rfl) ?_
  intro p e s m args below meth c R0 B hr hk
  have hL38 : ∀ (v1 : Int32) (v2 : Int32)  (k38_60 : Mem → Option (Int32 × Mem))  (hk38_60 : ∀  (M1 : Mem), GG p l e (headSpec wsX8_days rm_X8_days).room s m args below meth c D ad (shX ad cA) 37 4 (MQ below (QI D ad (shX ad cA) 37 s.heap.size R0) args s 0 0 (AX ad 37 s.heap.size)) R0 M1 60 [(0, .ref (ad 0)), (1, .int v1), (2, .int v2)] [] (k38_60  M1)), ∀ (f : Nat) (v3 : Int32) (M : Mem), GG p l e (headSpec wsX8_days rm_X8_days).room s m args below meth c D ad (shX ad cA) 37 4 (MQ below (QI D ad (shX ad cA) 37 s.heap.size R0) args s 0 0 (AX ad 37 s.heap.size)) R0 M 38 [(0, .ref (ad 0)), (1, .int v1), (2, .int v2), (3, .int v3)] [] (dX8_days_38l v1 v2  k38_60 f v3 M) := by
    intro v1 v2 k38_60 hk38_60
    intro f
    induction f with
    | zero =>
      intro v3 M
      exact g_none
    | succ f ih =>
      intro v3 M
      rw [dX8_days_38l]
      refine g_iload_n B dX8_days_38 3 rfl rfl ?_
      refine g_iload_n B dX8_days_39 1 rfl rfl ?_
      refine g_icmp_ge (tgt := 60) B dX8_days_40 (by decide) (fun c6 => ?_) (fun c6 => ?_)
      · exact g_lv [0, 1, 2] rfl (hk38_60  _)
      · refine g_aload_n B dX8_days_43 0 rfl rfl ?_
        refine g_get (v := .ref (ad 6)) B shX_pw (by decide) in_X8_days_X8 rfl 2 (by decide) (List.mem_of_getElem? (i := 1) rfl) rfl rfl dX8_days_44 ?_
        refine g_aload_n B dX8_days_47 0 rfl rfl ?_
        refine g_get (v := .ref (ad 2)) B shX_pw (by decide) in_X8_days_X8 rfl 1 (by decide) (List.mem_of_getElem? (i := 2) rfl) rfl rfl dX8_days_48 ?_
        refine g_callVVe (q := (RX0, TX0, 2)) (As := [.ref (ad 2)]) (st := []) B (k_X0_passDay l D cA ad B.2.2.2.2.2.2.1 6 co6 M) (cwV 1 B.2.2.2.2.1 gX8_days_X0_passDay rfl rfl rfl (by decide +kernel) ⟨Nat.le_of_ble_eq_true rfl, Nat.le_of_ble_eq_true rfl⟩) (shX_co co6) (co_lt co6) rfl rfl rfl (Nat.le_of_ble_eq_true rfl) dX8_days_51 (fun M7 _ => ?_)
        refine g_iinc B dX8_days_54 3 (v := v3 + (1 : Int32)) rfl rfl (by decide) (lv1 := [(3, .int (v3 + (1 : Int32))), (0, .ref (ad 0)), (1, .int v1), (2, .int v2)]) rfl ?_
        refine g_goto (tgt := 38) B dX8_days_57 (by decide) ?_
        exact g_lv [1, 2, 3, 0] rfl (ih _ _)
  unfold d_X8_days
  show GG p l e (headSpec wsX8_days rm_X8_days).room s m args below meth c D ad (shX ad cA) 37 4 (MQ below (QI D ad (shX ad cA) 37 s.heap.size R0) args s 0 0 (AX ad 37 s.heap.size)) R0 M 0 [(0, .ref (ad 0)), (1, .int v1)] [] _
  refine g_iload_n B dX8_days_0 1 rfl rfl ?_
  refine g_iconst (v := 1) B dX8_days_1 (by decide) ?_
  refine g_icmp_lt (tgt := 11) B dX8_days_2 (by decide) (fun c1 => ?_) (fun c1 => ?_)
  · refine g_bipush (v := -2) B dX8_days_11 (by decide) ?_
    exact g_iret B hr hk dX8_days_13
  · refine g_iload_n B dX8_days_5 1 rfl rfl ?_
    refine g_bipush (v := 99) B dX8_days_6 (by decide) ?_
    refine g_icmp_le (tgt := 14) B dX8_days_8 (by decide) (fun c2 => ?_) (fun c2 => ?_)
    · refine g_aload_n B dX8_days_14 0 rfl rfl ?_
      refine g_callVIp (q := (RX8, TX8, 9)) (As := []) (st := []) B (k_X8_hasTown l D cA ad B.2.2.2.2.2.2.1  M) (cwV 0 B.2.2.2.2.1 gX8_days_X8_hasTown rfl rfl rfl (by decide +kernel) ⟨Nat.le_of_ble_eq_true rfl, Nat.le_of_ble_eq_true rfl⟩) shX_pw (by decide) rfl rfl rfl (Nat.le_of_ble_eq_true rfl) dX8_days_15 (fun r3 _ => ?_)
      refine g_if_ne (tgt := 24) B dX8_days_18 (by decide) (fun c4 => ?_) (fun c4 => ?_)
      · refine g_bipush (v := -3) B dX8_days_21 (by decide) ?_
        exact g_iret B hr hk dX8_days_23
      · refine g_aload_n B dX8_days_24 0 rfl rfl ?_
        refine g_get (v := .ref (ad 6)) B shX_pw (by decide) in_X8_days_X8 rfl 2 (by decide) (List.mem_of_getElem? (i := 1) rfl) rfl rfl dX8_days_25 ?_
        refine g_aload_n B dX8_days_28 0 rfl rfl ?_
        refine g_get (v := .ref (ad 2)) B shX_pw (by decide) in_X8_days_X8 rfl 1 (by decide) (List.mem_of_getElem? (i := 2) rfl) rfl rfl dX8_days_29 ?_
        refine g_callVIp (q := (RX0, TX0, 2)) (As := [.ref (ad 2)]) (st := []) B (k_X0_countArrived l D cA ad B.2.2.2.2.2.2.1 6 co6 M) (cwV 1 B.2.2.2.2.1 gX8_days_X0_countArrived rfl rfl rfl (by decide +kernel) ⟨Nat.le_of_ble_eq_true rfl, Nat.le_of_ble_eq_true rfl⟩) (shX_co co6) (co_lt co6) rfl rfl rfl (Nat.le_of_ble_eq_true rfl) dX8_days_32 (fun r5 _ => ?_)
        refine g_istore_n B dX8_days_35 rfl (by decide) (lv1 := [(2, .int r5), (0, .ref (ad 0)), (1, .int v1)]) rfl ?_
        refine g_iconst (v := 0) B dX8_days_36 (by decide) ?_
        refine g_istore_n B dX8_days_37 rfl (by decide) (lv1 := [(3, .int (0 : Int32)), (2, .int r5), (0, .ref (ad 0)), (1, .int v1)]) rfl ?_
        refine g_lv [2, 3, 1, 0] rfl (hL38 _ _ _  ?_ FU _ _)
        · intro M8
          refine g_aload_n B dX8_days_60 0 rfl rfl ?_
          refine g_dup B dX8_days_61 rfl ?_
          refine g_get (v := .int (M8 0 6)) B shX_pw (by decide) in_X8_days_X8 rfl 6 (by decide) (List.mem_of_getElem? (i := 3) rfl) rfl rfl dX8_days_62 ?_
          refine g_iload_n B dX8_days_65 1 rfl rfl ?_
          refine g_iadd B dX8_days_66 ?_
          refine g_put (ty := .int) B shX_pw (by decide) in_X8_days_X8 tyX8_ok nmX8 rfl 6 (by decide) (List.mem_of_getElem? (i := 3) rfl) rfl rfl (by decide +kernel) rfl rfl (fun _ => Nat.le_of_ble_eq_true rfl) (fun _ _ => rfl) dX8_days_67 (g_lmM (fun M9 => ?_))
          refine g_aload_n B dX8_days_70 0 rfl rfl ?_
          refine g_get (v := .ref (ad 6)) B shX_pw (by decide) in_X8_days_X8 rfl 2 (by decide) (List.mem_of_getElem? (i := 1) rfl) rfl rfl dX8_days_71 ?_
          refine g_aload_n B dX8_days_74 0 rfl rfl ?_
          refine g_get (v := .ref (ad 2)) B shX_pw (by decide) in_X8_days_X8 rfl 1 (by decide) (List.mem_of_getElem? (i := 2) rfl) rfl rfl dX8_days_75 ?_
          refine g_callVIp (q := (RX0, TX0, 2)) (As := [.ref (ad 2)]) (st := []) B (k_X0_countArrived l D cA ad B.2.2.2.2.2.2.1 6 co6 M9) (cwV 1 B.2.2.2.2.1 gX8_days_X0_countArrived rfl rfl rfl (by decide +kernel) ⟨Nat.le_of_ble_eq_true rfl, Nat.le_of_ble_eq_true rfl⟩) (shX_co co6) (co_lt co6) rfl rfl rfl (Nat.le_of_ble_eq_true rfl) dX8_days_78 (fun r10 _ => ?_)
          refine g_iload_n B dX8_days_81 2 rfl rfl ?_
          refine g_isub B dX8_days_82 ?_
          exact g_iret B hr hk dX8_days_83
    · refine g_bipush (v := -2) B dX8_days_11 (by decide) ?_
      exact g_iret B hr hk dX8_days_13

abbrev rm_X0_turn : Room := { frames := 1, cells := 0, slots := 0, locals := 21 }
set_option maxHeartbeats 4000000 in
set_option maxRecDepth 100000 in
theorem k_X0_turn (l : Launch) (D : va_G) (cA : Nat → ClassId) (ad : Nat → Nat) (had : adOK ad 37) (o0 : Nat) (ho0 : isCo o0) (v1 : Int32) (v2 : Int32) (M : Mem) : CI l yX0_turn wsX0_turn rm_X0_turn D cA ad (shX ad cA) 37 [.ref (ad o0), .int v1, .int v2] M (d_X0_turn o0 v1 v2 M) := by
  refine CI_of (own := RX0) (cc := cX0_turn) (maxL := 3) (rt := .boolean) had (by decide) rfl rfl (Nat.le_of_ble_eq_true rfl) ?_
  intro p e s m args below meth c R0 B hr hk
  unfold d_X0_turn
  show GG p l e (headSpec wsX0_turn rm_X0_turn).room s m args below meth c D ad (shX ad cA) 37 3 (MQ below (QI D ad (shX ad cA) 37 s.heap.size R0) args s 0 0 (AX ad 37 s.heap.size)) R0 M 0 [(0, .ref (ad o0)), (1, .int v1), (2, .int v2)] [] _
  refine g_aload_n B dX0_turn_0 0 rfl rfl ?_
  refine g_iload_n B dX0_turn_1 1 rfl rfl ?_
  refine g_callVIp (q := (RX0, TX0, 2)) (As := [.int v1]) (st := []) B (k_X0_has l D cA ad B.2.2.2.2.2.2.1 o0 ho0 v1 M) (cwV 1 B.2.2.2.2.1 gX0_turn_X0_has rfl rfl rfl (by decide +kernel) ⟨Nat.le_of_ble_eq_true rfl, Nat.le_of_ble_eq_true rfl⟩) (shX_co ho0) (co_lt ho0) rfl rfl rfl (Nat.le_of_ble_eq_true rfl) dX0_turn_2 (fun r1 _ => ?_)
  refine g_if_eq (tgt := 21) B dX0_turn_5 (by decide) (fun c2 => ?_) (fun c2 => ?_)
  · refine g_iconst (v := 0) B dX0_turn_21 (by decide) ?_
    exact g_zret B hr hk rfl dX0_turn_22
  · refine g_aload_n B dX0_turn_8 0 rfl rfl ?_
    refine g_get (v := .ref (ad (o0 + 1))) B (shX_co ho0) (co_lt ho0) in_X0_turn_X0 rfl 0 (by decide) (List.mem_of_getElem? (i := 1) rfl) rfl rfl dX0_turn_9 ?_
    refine g_iload_n B dX0_turn_12 1 rfl rfl ?_
    refine g_aald (g := (ft o0)) B 1 rfl (shX_fts ho0) (fts_lt ho0) dX0_turn_13 (fun b3 => ?_)
    have f4 := (ft_ok ho0 b3)
    refine g_getN (v := .int (M ((ft o0) v1.toNatClampNeg) 5)) B (shX_ft f4) (ft_lt f4) in_X0_turn_X2 rfl 5 (by decide) 14 rfl rfl rfl dX0_turn_14 ?_
    refine g_iload_n B dX0_turn_17 2 rfl rfl ?_
    refine g_icmp_ne (tgt := 23) B dX0_turn_18 (by decide) (fun c5 => ?_) (fun c5 => ?_)
    · refine g_iconst (v := 0) B dX0_turn_21 (by decide) ?_
      exact g_zret B hr hk rfl dX0_turn_22
    · refine g_aload_n B dX0_turn_23 0 rfl rfl ?_
      refine g_get (v := .ref (ad (o0 + 1))) B (shX_co ho0) (co_lt ho0) in_X0_turn_X0 rfl 0 (by decide) (List.mem_of_getElem? (i := 1) rfl) rfl rfl dX0_turn_24 ?_
      refine g_iload_n B dX0_turn_27 1 rfl rfl ?_
      refine g_aald (g := (ft o0)) B 1 rfl (shX_fts ho0) (fts_lt ho0) dX0_turn_28 (fun b6 => ?_)
      have f7 := (ft_ok ho0 b6)
      refine g_iload_n B dX0_turn_29 2 rfl rfl ?_
      refine g_gd (fun z8 => ?_)
      refine g_putN (ty := .boolean) B (shX_ft f7) (ft_lt f7) in_X0_turn_X2 tyX2_ok nmX2 rfl 5 (by decide) 14 rfl rfl rfl (by decide +kernel) (nz z8) (fz z8) (fun _ => Nat.le_of_ble_eq_true rfl) (fun _ _ => rfl) dX0_turn_30 (g_lmM (fun M9 => ?_))
      refine g_iconst (v := 1) B dX0_turn_33 (by decide) ?_
      exact g_zret B hr hk rfl dX0_turn_34

abbrev rm_X0_sitters : Room := { frames := 0, cells := 0, slots := 0, locals := 0 }
set_option maxHeartbeats 4000000 in
set_option maxRecDepth 100000 in
theorem k_X0_sitters (l : Launch) (D : va_G) (cA : Nat → ClassId) (ad : Nat → Nat) (had : adOK ad 37) (o0 : Nat) (ho0 : isCo o0) (M : Mem) : CI l yX0_sitters wsX0_sitters rm_X0_sitters D cA ad (shX ad cA) 37 [.ref (ad o0)] M (wM M (d_X0_sitters o0 M)) := by
  refine CI_ofp (own := RX0) (cc := cX0_sitters) (maxL := 3) (rt := .int) had (by decide) rfl rfl (Nat.le_of_ble_eq_true rfl) ?_
  intro p e s m args below meth c R0 B hr hk
  have hL4 : ∀ (o0 : Nat)   (ho0 : isCo o0) , ∀ (f : Nat) (v1 : Int32) (v2 : Int32), GG p l e (headSpec wsX0_sitters rm_X0_sitters).room s m args below meth c D ad (shX ad cA) 37 3 (MQ below (QI D ad (shX ad cA) 37 s.heap.size (R0, M)) args s 0 0 (AX ad 37 s.heap.size)) R0 M 4 [(0, .ref (ad o0)), (1, .int v1), (2, .int v2)] [] (dX0_sitters_4l o0 M  f v1 v2 ) := by
    intro o0 ho0
    intro f
    induction f with
    | zero =>
      intro v1 v2
      exact g_none
    | succ f ih =>
      intro v1 v2
      rw [dX0_sitters_4l]
      refine g_iload_n B dX0_sitters_4 2 rfl rfl ?_
      refine g_aload_n B dX0_sitters_5 0 rfl rfl ?_
      refine g_get (v := .int (M o0 1)) B (shX_co ho0) (co_lt ho0) in_X0_sitters_X0 rfl 1 (by decide) (List.mem_of_getElem? (i := 1) rfl) rfl rfl dX0_sitters_6 ?_
      refine g_icmp_ge (tgt := 36) B dX0_sitters_9 (by decide) (fun c1 => ?_) (fun c1 => ?_)
      · refine g_iload_n B dX0_sitters_36 1 rfl rfl ?_
        exact g_iretp B hr hk dX0_sitters_37
      · refine g_aload_n B dX0_sitters_12 0 rfl rfl ?_
        refine g_get (v := .ref (ad (o0 + 1))) B (shX_co ho0) (co_lt ho0) in_X0_sitters_X0 rfl 0 (by decide) (List.mem_of_getElem? (i := 2) rfl) rfl rfl dX0_sitters_13 ?_
        refine g_iload_n B dX0_sitters_16 2 rfl rfl ?_
        refine g_aald (g := (ft o0)) B 1 rfl (shX_fts ho0) (fts_lt ho0) dX0_sitters_17 (fun b2 => ?_)
        have f3 := (ft_ok ho0 b2)
        refine g_getN (v := .int (M ((ft o0) v2.toNatClampNeg) 5)) B (shX_ft f3) (ft_lt f3) in_X0_sitters_X2 rfl 5 (by decide) 14 rfl rfl rfl dX0_sitters_18 ?_
        refine g_if_eq (tgt := 30) B dX0_sitters_21 (by decide) (fun c4 => ?_) (fun c4 => ?_)
        · refine g_iinc B dX0_sitters_30 2 (v := v2 + (1 : Int32)) rfl rfl (by decide) (lv1 := [(2, .int (v2 + (1 : Int32))), (0, .ref (ad o0)), (1, .int v1)]) rfl ?_
          refine g_goto (tgt := 4) B dX0_sitters_33 (by decide) ?_
          exact g_lv [1, 2, 0] rfl (ih _ _)
        · refine g_iload_n B dX0_sitters_24 1 rfl rfl ?_
          refine g_iconst (v := 1) B dX0_sitters_25 (by decide) ?_
          refine g_iload_n B dX0_sitters_26 2 rfl rfl ?_
          refine g_ishl B dX0_sitters_27 ?_
          refine g_ior B dX0_sitters_28 ?_
          refine g_lmI (fun x5 => ?_)
          refine g_istore_n B dX0_sitters_29 rfl (by decide) (lv1 := [(1, .int x5), (0, .ref (ad o0)), (2, .int v2)]) rfl ?_
          refine g_iinc B dX0_sitters_30 2 (v := v2 + (1 : Int32)) rfl rfl (by decide) (lv1 := [(2, .int (v2 + (1 : Int32))), (1, .int x5), (0, .ref (ad o0))]) rfl ?_
          refine g_goto (tgt := 4) B dX0_sitters_33 (by decide) ?_
          exact g_lv [2, 1, 0] rfl (ih _ _)
  unfold d_X0_sitters
  show GG p l e (headSpec wsX0_sitters rm_X0_sitters).room s m args below meth c D ad (shX ad cA) 37 3 (MQ below (QI D ad (shX ad cA) 37 s.heap.size (R0, M)) args s 0 0 (AX ad 37 s.heap.size)) R0 M 0 [(0, .ref (ad o0))] [] _
  refine g_iconst (v := 0) B dX0_sitters_0 (by decide) ?_
  refine g_istore_n B dX0_sitters_1 rfl (by decide) (lv1 := [(1, .int (0 : Int32)), (0, .ref (ad o0))]) rfl ?_
  refine g_iconst (v := 0) B dX0_sitters_2 (by decide) ?_
  refine g_istore_n B dX0_sitters_3 rfl (by decide) (lv1 := [(2, .int (0 : Int32)), (1, .int (0 : Int32)), (0, .ref (ad o0))]) rfl ?_
  refine g_lv [2, 1, 0] rfl (hL4 _ ho0  FU _ _)

abbrev rm_J6_bitCount_0f7a4 : Room := { frames := 0, cells := 0, slots := 0, locals := 0 }
set_option maxHeartbeats 4000000 in
set_option maxRecDepth 100000 in
theorem k_J6_bitCount_0f7a4 (l : Launch) (D : va_G) (cA : Nat → ClassId) (ad : Nat → Nat) (had : adOK ad 37) (v0 : Int32) (M : Mem) : CI l yJ6_bitCount_0f7a4 wsJ6_bitCount_0f7a4 rm_J6_bitCount_0f7a4 D cA ad (shX ad cA) 37 [.int v0] M (wM M (d_J6_bitCount_0f7a4 v0 M)) := by
  refine CI_ofp (own := RJ6) (cc := cJ6_bitCount_0f7a4) (maxL := 1) (rt := .int) had (by decide) rfl rfl (Nat.le_of_ble_eq_true rfl) ?_
  intro p e s m args below meth c R0 B hr hk
  unfold d_J6_bitCount_0f7a4
  show GG p l e (headSpec wsJ6_bitCount_0f7a4 rm_J6_bitCount_0f7a4).room s m args below meth c D ad (shX ad cA) 37 1 (MQ below (QI D ad (shX ad cA) 37 s.heap.size (R0, M)) args s 0 0 (AX ad 37 s.heap.size)) R0 M 0 [(0, .int v0)] [] _
  refine g_iload_n B dJ6_bitCount_0f7a4_0 0 rfl rfl ?_
  refine g_iload_n B dJ6_bitCount_0f7a4_1 0 rfl rfl ?_
  refine g_iconst (v := 1) B dJ6_bitCount_0f7a4_2 (by decide) ?_
  refine g_iushr B dJ6_bitCount_0f7a4_3 ?_
  refine g_ldcw (v := 1431655765) B dJ6_bitCount_0f7a4_4 (List.mem_of_getElem? (i := 1) rfl) ?_
  refine g_iand B dJ6_bitCount_0f7a4_7 ?_
  refine g_isub B dJ6_bitCount_0f7a4_8 ?_
  refine g_lmI (fun x1 => ?_)
  refine g_istore_n B dJ6_bitCount_0f7a4_9 rfl (by decide) (lv1 := [(0, .int x1)]) rfl ?_
  refine g_iload_n B dJ6_bitCount_0f7a4_10 0 rfl rfl ?_
  refine g_ldcw (v := 858993459) B dJ6_bitCount_0f7a4_11 (List.mem_of_getElem? (i := 2) rfl) ?_
  refine g_iand B dJ6_bitCount_0f7a4_14 ?_
  refine g_iload_n B dJ6_bitCount_0f7a4_15 0 rfl rfl ?_
  refine g_iconst (v := 2) B dJ6_bitCount_0f7a4_16 (by decide) ?_
  refine g_iushr B dJ6_bitCount_0f7a4_17 ?_
  refine g_ldcw (v := 858993459) B dJ6_bitCount_0f7a4_18 (List.mem_of_getElem? (i := 2) rfl) ?_
  refine g_iand B dJ6_bitCount_0f7a4_21 ?_
  refine g_iadd B dJ6_bitCount_0f7a4_22 ?_
  refine g_lmI (fun x2 => ?_)
  refine g_istore_n B dJ6_bitCount_0f7a4_23 rfl (by decide) (lv1 := [(0, .int x2)]) rfl ?_
  refine g_iload_n B dJ6_bitCount_0f7a4_24 0 rfl rfl ?_
  refine g_iload_n B dJ6_bitCount_0f7a4_25 0 rfl rfl ?_
  refine g_iconst (v := 4) B dJ6_bitCount_0f7a4_26 (by decide) ?_
  refine g_iushr B dJ6_bitCount_0f7a4_27 ?_
  refine g_iadd B dJ6_bitCount_0f7a4_28 ?_
  refine g_ldcw (v := 252645135) B dJ6_bitCount_0f7a4_29 (List.mem_of_getElem? (i := 3) rfl) ?_
  refine g_iand B dJ6_bitCount_0f7a4_32 ?_
  refine g_lmI (fun x3 => ?_)
  refine g_istore_n B dJ6_bitCount_0f7a4_33 rfl (by decide) (lv1 := [(0, .int x3)]) rfl ?_
  refine g_iload_n B dJ6_bitCount_0f7a4_34 0 rfl rfl ?_
  refine g_iload_n B dJ6_bitCount_0f7a4_35 0 rfl rfl ?_
  refine g_bipush (v := 8) B dJ6_bitCount_0f7a4_36 (by decide) ?_
  refine g_iushr B dJ6_bitCount_0f7a4_38 ?_
  refine g_iadd B dJ6_bitCount_0f7a4_39 ?_
  refine g_lmI (fun x4 => ?_)
  refine g_istore_n B dJ6_bitCount_0f7a4_40 rfl (by decide) (lv1 := [(0, .int x4)]) rfl ?_
  refine g_iload_n B dJ6_bitCount_0f7a4_41 0 rfl rfl ?_
  refine g_iload_n B dJ6_bitCount_0f7a4_42 0 rfl rfl ?_
  refine g_bipush (v := 16) B dJ6_bitCount_0f7a4_43 (by decide) ?_
  refine g_iushr B dJ6_bitCount_0f7a4_45 ?_
  refine g_iadd B dJ6_bitCount_0f7a4_46 ?_
  refine g_lmI (fun x5 => ?_)
  refine g_istore_n B dJ6_bitCount_0f7a4_47 rfl (by decide) (lv1 := [(0, .int x5)]) rfl ?_
  refine g_iload_n B dJ6_bitCount_0f7a4_48 0 rfl rfl ?_
  refine g_bipush (v := 63) B dJ6_bitCount_0f7a4_49 (by decide) ?_
  refine g_iand B dJ6_bitCount_0f7a4_51 ?_
  exact g_iretp B hr hk dJ6_bitCount_0f7a4_52

abbrev rm_X8_sit : Room := { frames := 2, cells := 0, slots := 0, locals := 43 }
set_option maxHeartbeats 4000000 in
set_option maxRecDepth 100000 in
theorem k_X8_sit (l : Launch) (D : va_G) (cA : Nat → ClassId) (ad : Nat → Nat) (had : adOK ad 37) (v1 : Int32) (M : Mem) : CI l yX8_sit wsX8_sit rm_X8_sit D cA ad (shX ad cA) 37 [.ref (ad 0), .int v1] M (d_X8_sit v1 M) := by
  refine CI_of (own := RX8) (cc := cX8_sit) (maxL := 2) (rt := .int) had (by decide) rfl rfl (Nat.le_of_ble_eq_true rfl) ?_
  intro p e s m args below meth c R0 B hr hk
  unfold d_X8_sit
  show GG p l e (headSpec wsX8_sit rm_X8_sit).room s m args below meth c D ad (shX ad cA) 37 2 (MQ below (QI D ad (shX ad cA) 37 s.heap.size R0) args s 0 0 (AX ad 37 s.heap.size)) R0 M 0 [(0, .ref (ad 0)), (1, .int v1)] [] _
  refine g_aload_n B dX8_sit_0 0 rfl rfl ?_
  refine g_get (v := .ref (ad 6)) B shX_pw (by decide) in_X8_sit_X8 rfl 2 (by decide) (List.mem_of_getElem? (i := 1) rfl) rfl rfl dX8_sit_1 ?_
  refine g_iload_n B dX8_sit_4 1 rfl rfl ?_
  refine g_callVIp (q := (RX0, TX0, 2)) (As := [.int v1]) (st := []) B (k_X0_has l D cA ad B.2.2.2.2.2.2.1 6 co6 v1 M) (cwV 1 B.2.2.2.2.1 gX8_sit_X0_has rfl rfl rfl (by decide +kernel) ⟨Nat.le_of_ble_eq_true rfl, Nat.le_of_ble_eq_true rfl⟩) (shX_co co6) (co_lt co6) rfl rfl rfl (Nat.le_of_ble_eq_true rfl) dX8_sit_5 (fun r1 _ => ?_)
  refine g_if_ne (tgt := 13) B dX8_sit_8 (by decide) (fun c2 => ?_) (fun c2 => ?_)
  · refine g_iconst (v := -1) B dX8_sit_11 (by decide) ?_
    exact g_iret B hr hk dX8_sit_12
  · refine g_aload_n B dX8_sit_13 0 rfl rfl ?_
    refine g_get (v := .ref (ad 6)) B shX_pw (by decide) in_X8_sit_X8 rfl 2 (by decide) (List.mem_of_getElem? (i := 1) rfl) rfl rfl dX8_sit_14 ?_
    refine g_iload_n B dX8_sit_17 1 rfl rfl ?_
    refine g_iconst (v := 1) B dX8_sit_18 (by decide) ?_
    refine g_callVIe (q := (RX0, TX0, 2)) (As := [.int v1, .int (1 : Int32)]) (st := []) B (k_X0_turn l D cA ad B.2.2.2.2.2.2.1 6 co6 v1 (1 : Int32) M) (cwV 2 B.2.2.2.2.1 gX8_sit_X0_turn rfl rfl rfl (by decide +kernel) ⟨Nat.le_of_ble_eq_true rfl, Nat.le_of_ble_eq_true rfl⟩) (shX_co co6) (co_lt co6) rfl rfl rfl (Nat.le_of_ble_eq_true rfl) dX8_sit_19 (fun r3 M4 _ => ?_)
    refine g_if_eq (tgt := 38) B dX8_sit_22 (by decide) (fun c5 => ?_) (fun c5 => ?_)
    · refine g_bipush (v := -3) B dX8_sit_38 (by decide) ?_
      exact g_iret B hr hk dX8_sit_40
    · refine g_aload_n B dX8_sit_25 0 rfl rfl ?_
      refine g_get (v := .ref (ad 6)) B shX_pw (by decide) in_X8_sit_X8 rfl 2 (by decide) (List.mem_of_getElem? (i := 1) rfl) rfl rfl dX8_sit_26 ?_
      refine g_callVIp (q := (RX0, TX0, 2)) (As := []) (st := []) B (k_X0_sitters l D cA ad B.2.2.2.2.2.2.1 6 co6 M4) (cwV 0 B.2.2.2.2.1 gX8_sit_X0_sitters rfl rfl rfl (by decide +kernel) ⟨Nat.le_of_ble_eq_true rfl, Nat.le_of_ble_eq_true rfl⟩) (shX_co co6) (co_lt co6) rfl rfl rfl (Nat.le_of_ble_eq_true rfl) dX8_sit_29 (fun r6 _ => ?_)
      refine g_callSIp (As := [.int r6]) (st := []) B (k_J6_bitCount_0f7a4 l D cA ad B.2.2.2.2.2.2.1 r6 M4) (va_cwS 1 B.2.2.2.2.1 gX8_sit_J6_bitCount_0f7a4 rfl rfl rfl (by decide +kernel) ⟨Nat.le_of_ble_eq_true rfl, Nat.le_of_ble_eq_true rfl⟩) rfl rfl (Nat.le_of_ble_eq_true rfl) dX8_sit_32 (fun r7 _ => ?_)
      refine g_goto (tgt := 40) B dX8_sit_35 (by decide) ?_
      exact g_iret B hr hk dX8_sit_40

abbrev rm_X8_rise : Room := { frames := 2, cells := 0, slots := 0, locals := 43 }
set_option maxHeartbeats 4000000 in
set_option maxRecDepth 100000 in
theorem k_X8_rise (l : Launch) (D : va_G) (cA : Nat → ClassId) (ad : Nat → Nat) (had : adOK ad 37) (v1 : Int32) (M : Mem) : CI l yX8_rise wsX8_rise rm_X8_rise D cA ad (shX ad cA) 37 [.ref (ad 0), .int v1] M (d_X8_rise v1 M) := by
  refine CI_of (own := RX8) (cc := cX8_rise) (maxL := 2) (rt := .int) had (by decide) rfl rfl (Nat.le_of_ble_eq_true rfl) ?_
  intro p e s m args below meth c R0 B hr hk
  unfold d_X8_rise
  show GG p l e (headSpec wsX8_rise rm_X8_rise).room s m args below meth c D ad (shX ad cA) 37 2 (MQ below (QI D ad (shX ad cA) 37 s.heap.size R0) args s 0 0 (AX ad 37 s.heap.size)) R0 M 0 [(0, .ref (ad 0)), (1, .int v1)] [] _
  refine g_aload_n B dX8_rise_0 0 rfl rfl ?_
  refine g_get (v := .ref (ad 6)) B shX_pw (by decide) in_X8_rise_X8 rfl 2 (by decide) (List.mem_of_getElem? (i := 1) rfl) rfl rfl dX8_rise_1 ?_
  refine g_iload_n B dX8_rise_4 1 rfl rfl ?_
  refine g_callVIp (q := (RX0, TX0, 2)) (As := [.int v1]) (st := []) B (k_X0_has l D cA ad B.2.2.2.2.2.2.1 6 co6 v1 M) (cwV 1 B.2.2.2.2.1 gX8_rise_X0_has rfl rfl rfl (by decide +kernel) ⟨Nat.le_of_ble_eq_true rfl, Nat.le_of_ble_eq_true rfl⟩) (shX_co co6) (co_lt co6) rfl rfl rfl (Nat.le_of_ble_eq_true rfl) dX8_rise_5 (fun r1 _ => ?_)
  refine g_if_ne (tgt := 13) B dX8_rise_8 (by decide) (fun c2 => ?_) (fun c2 => ?_)
  · refine g_iconst (v := -1) B dX8_rise_11 (by decide) ?_
    exact g_iret B hr hk dX8_rise_12
  · refine g_aload_n B dX8_rise_13 0 rfl rfl ?_
    refine g_get (v := .ref (ad 6)) B shX_pw (by decide) in_X8_rise_X8 rfl 2 (by decide) (List.mem_of_getElem? (i := 1) rfl) rfl rfl dX8_rise_14 ?_
    refine g_iload_n B dX8_rise_17 1 rfl rfl ?_
    refine g_iconst (v := 0) B dX8_rise_18 (by decide) ?_
    refine g_callVIe (q := (RX0, TX0, 2)) (As := [.int v1, .int (0 : Int32)]) (st := []) B (k_X0_turn l D cA ad B.2.2.2.2.2.2.1 6 co6 v1 (0 : Int32) M) (cwV 2 B.2.2.2.2.1 gX8_rise_X0_turn rfl rfl rfl (by decide +kernel) ⟨Nat.le_of_ble_eq_true rfl, Nat.le_of_ble_eq_true rfl⟩) (shX_co co6) (co_lt co6) rfl rfl rfl (Nat.le_of_ble_eq_true rfl) dX8_rise_19 (fun r3 M4 _ => ?_)
    refine g_if_eq (tgt := 38) B dX8_rise_22 (by decide) (fun c5 => ?_) (fun c5 => ?_)
    · refine g_bipush (v := -3) B dX8_rise_38 (by decide) ?_
      exact g_iret B hr hk dX8_rise_40
    · refine g_aload_n B dX8_rise_25 0 rfl rfl ?_
      refine g_get (v := .ref (ad 6)) B shX_pw (by decide) in_X8_rise_X8 rfl 2 (by decide) (List.mem_of_getElem? (i := 1) rfl) rfl rfl dX8_rise_26 ?_
      refine g_callVIp (q := (RX0, TX0, 2)) (As := []) (st := []) B (k_X0_sitters l D cA ad B.2.2.2.2.2.2.1 6 co6 M4) (cwV 0 B.2.2.2.2.1 gX8_rise_X0_sitters rfl rfl rfl (by decide +kernel) ⟨Nat.le_of_ble_eq_true rfl, Nat.le_of_ble_eq_true rfl⟩) (shX_co co6) (co_lt co6) rfl rfl rfl (Nat.le_of_ble_eq_true rfl) dX8_rise_29 (fun r6 _ => ?_)
      refine g_callSIp (As := [.int r6]) (st := []) B (k_J6_bitCount_0f7a4 l D cA ad B.2.2.2.2.2.2.1 r6 M4) (va_cwS 1 B.2.2.2.2.1 gX8_rise_J6_bitCount_0f7a4 rfl rfl rfl (by decide +kernel) ⟨Nat.le_of_ble_eq_true rfl, Nat.le_of_ble_eq_true rfl⟩) rfl rfl (Nat.le_of_ble_eq_true rfl) dX8_rise_32 (fun r7 _ => ?_)
      refine g_goto (tgt := 40) B dX8_rise_35 (by decide) ?_
      exact g_iret B hr hk dX8_rise_40

abbrev rm_X8_isKind : Room := { frames := 0, cells := 0, slots := 0, locals := 0 }
set_option maxHeartbeats 4000000 in
set_option maxRecDepth 100000 in
theorem k_X8_isKind (l : Launch) (D : va_G) (cA : Nat → ClassId) (ad : Nat → Nat) (had : adOK ad 37) (v0 : Int32) (M : Mem) : CI l yX8_isKind wsX8_isKind rm_X8_isKind D cA ad (shX ad cA) 37 [.int v0] M (wM M (d_X8_isKind v0 M)) := by
  refine CI_ofp (own := RX8) (cc := cX8_isKind) (maxL := 1) (rt := .boolean) had (by decide) rfl rfl (Nat.le_of_ble_eq_true rfl) ?_
  intro p e s m args below meth c R0 B hr hk
  unfold d_X8_isKind
  show GG p l e (headSpec wsX8_isKind rm_X8_isKind).room s m args below meth c D ad (shX ad cA) 37 1 (MQ below (QI D ad (shX ad cA) 37 s.heap.size (R0, M)) args s 0 0 (AX ad 37 s.heap.size)) R0 M 0 [(0, .int v0)] [] _
  refine g_iload_n B dX8_isKind_0 0 rfl rfl ?_
  refine g_if_lt (tgt := 13) B dX8_isKind_1 (by decide) (fun c1 => ?_) (fun c1 => ?_)
  · refine g_iconst (v := 0) B dX8_isKind_13 (by decide) ?_
    exact g_zretp B hr hk rfl dX8_isKind_14
  · refine g_iload_n B dX8_isKind_4 0 rfl rfl ?_
    refine g_iconst (v := 2) B dX8_isKind_5 (by decide) ?_
    refine g_icmp_gt (tgt := 13) B dX8_isKind_6 (by decide) (fun c2 => ?_) (fun c2 => ?_)
    · refine g_iconst (v := 0) B dX8_isKind_13 (by decide) ?_
      exact g_zretp B hr hk rfl dX8_isKind_14
    · refine g_iconst (v := 1) B dX8_isKind_9 (by decide) ?_
      refine g_goto (tgt := 14) B dX8_isKind_10 (by decide) ?_
      exact g_zretp B hr hk rfl dX8_isKind_14

abbrev rm_X8_give : Room := { frames := 1, cells := 0, slots := 0, locals := 25 }
set_option maxHeartbeats 4000000 in
set_option maxRecDepth 100000 in
theorem k_X8_give (l : Launch) (D : va_G) (cA : Nat → ClassId) (ad : Nat → Nat) (had : adOK ad 37) (v1 : Int32) (v2 : Int32) (v3 : Int32) (v4 : Int32) (M : Mem) : CI l yX8_give wsX8_give rm_X8_give D cA ad (shX ad cA) 37 [.ref (ad 0), .int v1, .int v2, .int v3, .int v4] M (d_X8_give v1 v2 v3 v4 M) := by
  refine CI_of (own := RX8) (cc := cX8_give) (maxL := 5) (rt := .int) had (by decide) rfl rfl (Nat.le_of_ble_eq_true rfl) ?_
  intro p e s m args below meth c R0 B hr hk
  unfold d_X8_give
  show GG p l e (headSpec wsX8_give rm_X8_give).room s m args below meth c D ad (shX ad cA) 37 5 (MQ below (QI D ad (shX ad cA) 37 s.heap.size R0) args s 0 0 (AX ad 37 s.heap.size)) R0 M 0 [(0, .ref (ad 0)), (1, .int v1), (2, .int v2), (3, .int v3), (4, .int v4)] [] _
  refine g_iload_n B dX8_give_0 1 rfl rfl ?_
  refine g_callSIp (As := [.int v1]) (st := []) B (k_X8_isKind l D cA ad B.2.2.2.2.2.2.1 v1 M) (va_cwS 1 B.2.2.2.2.1 gX8_give_X8_isKind rfl rfl rfl (by decide +kernel) ⟨Nat.le_of_ble_eq_true rfl, Nat.le_of_ble_eq_true rfl⟩) rfl rfl (Nat.le_of_ble_eq_true rfl) dX8_give_1 (fun r1 _ => ?_)
  refine g_if_eq (tgt := 20) B dX8_give_4 (by decide) (fun c2 => ?_) (fun c2 => ?_)
  · refine g_bipush (v := -2) B dX8_give_20 (by decide) ?_
    exact g_iret B hr hk dX8_give_22
  · refine g_iload B dX8_give_7 4 rfl ?_
    refine g_iconst (v := 1) B dX8_give_9 (by decide) ?_
    refine g_icmp_lt (tgt := 20) B dX8_give_10 (by decide) (fun c3 => ?_) (fun c3 => ?_)
    · refine g_bipush (v := -2) B dX8_give_20 (by decide) ?_
      exact g_iret B hr hk dX8_give_22
    · refine g_iload B dX8_give_13 4 rfl ?_
      refine g_bipush (v := 9) B dX8_give_15 (by decide) ?_
      refine g_icmp_le (tgt := 23) B dX8_give_17 (by decide) (fun c4 => ?_) (fun c4 => ?_)
      · refine g_aload_n B dX8_give_23 0 rfl rfl ?_
        refine g_get (v := .ref (ad 2)) B shX_pw (by decide) in_X8_give_X8 rfl 1 (by decide) (List.mem_of_getElem? (i := 1) rfl) rfl rfl dX8_give_24 ?_
        refine g_iload_n B dX8_give_27 2 rfl rfl ?_
        refine g_callVIp (q := (RX6, TX6, 4)) (As := [.int v2]) (st := []) B (k_X6_has l D cA ad B.2.2.2.2.2.2.1 v2 M) (cwV 1 B.2.2.2.2.1 gX8_give_X6_has rfl rfl rfl (by decide +kernel) ⟨Nat.le_of_ble_eq_true rfl, Nat.le_of_ble_eq_true rfl⟩) shX_st (by decide) rfl rfl rfl (Nat.le_of_ble_eq_true rfl) dX8_give_28 (fun r5 _ => ?_)
        refine g_if_eq (tgt := 45) B dX8_give_31 (by decide) (fun c6 => ?_) (fun c6 => ?_)
        · refine g_iconst (v := -1) B dX8_give_45 (by decide) ?_
          exact g_iret B hr hk dX8_give_46
        · refine g_aload_n B dX8_give_34 0 rfl rfl ?_
          refine g_get (v := .ref (ad 2)) B shX_pw (by decide) in_X8_give_X8 rfl 1 (by decide) (List.mem_of_getElem? (i := 1) rfl) rfl rfl dX8_give_35 ?_
          refine g_iload_n B dX8_give_38 3 rfl rfl ?_
          refine g_callVIp (q := (RX6, TX6, 4)) (As := [.int v3]) (st := []) B (k_X6_has l D cA ad B.2.2.2.2.2.2.1 v3 M) (cwV 1 B.2.2.2.2.1 gX8_give_X6_has rfl rfl rfl (by decide +kernel) ⟨Nat.le_of_ble_eq_true rfl, Nat.le_of_ble_eq_true rfl⟩) shX_st (by decide) rfl rfl rfl (Nat.le_of_ble_eq_true rfl) dX8_give_39 (fun r7 _ => ?_)
          refine g_if_ne (tgt := 47) B dX8_give_42 (by decide) (fun c8 => ?_) (fun c8 => ?_)
          · refine g_iconst (v := -1) B dX8_give_45 (by decide) ?_
            exact g_iret B hr hk dX8_give_46
          · refine g_aload_n B dX8_give_47 0 rfl rfl ?_
            refine g_get (v := .ref (ad 6)) B shX_pw (by decide) in_X8_give_X8 rfl 2 (by decide) (List.mem_of_getElem? (i := 2) rfl) rfl rfl dX8_give_48 ?_
            refine g_getN (v := .int (M 6 1)) B (shX_co co6) (co_lt co6) in_X8_give_X0 rfl 1 (by decide) 21 rfl rfl rfl dX8_give_51 ?_
            refine g_bipush (v := 6) B dX8_give_54 (by decide) ?_
            refine g_icmp_lt (tgt := 62) B dX8_give_56 (by decide) (fun c9 => ?_) (fun c9 => ?_)
            · refine g_aload_n B dX8_give_62 0 rfl rfl ?_
              refine g_get (v := .ref (ad 6)) B shX_pw (by decide) in_X8_give_X8 rfl 2 (by decide) (List.mem_of_getElem? (i := 2) rfl) rfl rfl dX8_give_63 ?_
              refine g_iload_n B dX8_give_66 1 rfl rfl ?_
              refine g_iload_n B dX8_give_67 2 rfl rfl ?_
              refine g_iload_n B dX8_give_68 3 rfl rfl ?_
              refine g_iload B dX8_give_69 4 rfl ?_
              refine g_callVVe (q := (RX0, TX0, 2)) (As := [.int v1, .int v2, .int v3, .int v4]) (st := []) B (k_X0_add l D cA ad B.2.2.2.2.2.2.1 6 co6 v1 v2 v3 v4 M) (cwV 4 B.2.2.2.2.1 gX8_give_X0_add rfl rfl rfl (by decide +kernel) ⟨Nat.le_of_ble_eq_true rfl, Nat.le_of_ble_eq_true rfl⟩) (shX_co co6) (co_lt co6) rfl rfl rfl (Nat.le_of_ble_eq_true rfl) dX8_give_71 (fun M10 _ => ?_)
              refine g_aload_n B dX8_give_74 0 rfl rfl ?_
              refine g_get (v := .ref (ad 6)) B shX_pw (by decide) in_X8_give_X8 rfl 2 (by decide) (List.mem_of_getElem? (i := 2) rfl) rfl rfl dX8_give_75 ?_
              refine g_getN (v := .int (M10 6 1)) B (shX_co co6) (co_lt co6) in_X8_give_X0 rfl 1 (by decide) 21 rfl rfl rfl dX8_give_78 ?_
              refine g_iconst (v := 1) B dX8_give_81 (by decide) ?_
              refine g_isub B dX8_give_82 ?_
              exact g_iret B hr hk dX8_give_83
            · refine g_bipush (v := -4) B dX8_give_59 (by decide) ?_
              exact g_iret B hr hk dX8_give_61
      · refine g_bipush (v := -2) B dX8_give_20 (by decide) ?_
        exact g_iret B hr hk dX8_give_22

abbrev rm_X4_canTell : Room := { frames := 0, cells := 0, slots := 0, locals := 0 }
set_option maxHeartbeats 4000000 in
set_option maxRecDepth 100000 in
theorem k_X4_canTell (l : Launch) (D : va_G) (cA : Nat → ClassId) (ad : Nat → Nat) (had : adOK ad 37) (v0 : Int32) (M : Mem) : CI l yX4_canTell wsX4_canTell rm_X4_canTell D cA ad (shX ad cA) 37 [.int v0] M (wM M (d_X4_canTell v0 M)) := by
  refine CI_ofp (own := RX4) (cc := cX4_canTell) (maxL := 1) (rt := .boolean) had (by decide) rfl rfl (Nat.le_of_ble_eq_true rfl) ?_
  intro p e s m args below meth c R0 B hr hk
  have hJ9 : ∀  (v0 : Int32)     , GG p l e (headSpec wsX4_canTell rm_X4_canTell).room s m args below meth c D ad (shX ad cA) 37 1 (MQ below (QI D ad (shX ad cA) 37 s.heap.size (R0, M)) args s 0 0 (AX ad 37 s.heap.size)) R0 M 9 [(0, .int v0)] [] (dX4_canTell_9j  v0  M) := by
    intro v0
    unfold dX4_canTell_9j
    refine g_iload_n B dX4_canTell_9 0 rfl rfl ?_
    refine g_bipush (v := 10) B dX4_canTell_10 (by decide) ?_
    refine g_icmp_lt (tgt := 25) B dX4_canTell_12 (by decide) (fun c2 => ?_) (fun c2 => ?_)
    · refine g_iconst (v := 0) B dX4_canTell_25 (by decide) ?_
      exact g_zretp B hr hk rfl dX4_canTell_26
    · refine g_iload_n B dX4_canTell_15 0 rfl rfl ?_
      refine g_bipush (v := 16) B dX4_canTell_16 (by decide) ?_
      refine g_icmp_ge (tgt := 25) B dX4_canTell_18 (by decide) (fun c3 => ?_) (fun c3 => ?_)
      · refine g_iconst (v := 0) B dX4_canTell_25 (by decide) ?_
        exact g_zretp B hr hk rfl dX4_canTell_26
      · refine g_iconst (v := 1) B dX4_canTell_21 (by decide) ?_
        refine g_goto (tgt := 26) B dX4_canTell_22 (by decide) ?_
        exact g_zretp B hr hk rfl dX4_canTell_26
  unfold d_X4_canTell
  show GG p l e (headSpec wsX4_canTell rm_X4_canTell).room s m args below meth c D ad (shX ad cA) 37 1 (MQ below (QI D ad (shX ad cA) 37 s.heap.size (R0, M)) args s 0 0 (AX ad 37 s.heap.size)) R0 M 0 [(0, .int v0)] [] _
  refine g_iload_n B dX4_canTell_0 0 rfl rfl ?_
  refine g_if_lt (tgt := 9) B dX4_canTell_1 (by decide) (fun c1 => ?_) (fun c1 => ?_)
  · exact g_lv [0] rfl (hJ9 _   )
  · refine g_iload_n B dX4_canTell_4 0 rfl rfl ?_
    refine g_iconst (v := 4) B dX4_canTell_5 (by decide) ?_
    refine g_icmp_le (tgt := 21) B dX4_canTell_6 (by decide) (fun c4 => ?_) (fun c4 => ?_)
    · refine g_iconst (v := 1) B dX4_canTell_21 (by decide) ?_
      refine g_goto (tgt := 26) B dX4_canTell_22 (by decide) ?_
      exact g_zretp B hr hk rfl dX4_canTell_26
    · exact g_lv [0] rfl (hJ9 _   )

abbrev rm_X4_refusal : Room := { frames := 1, cells := 0, slots := 0, locals := 21 }
set_option maxHeartbeats 4000000 in
set_option maxRecDepth 100000 in
theorem k_X4_refusal (l : Launch) (D : va_G) (cA : Nat → ClassId) (ad : Nat → Nat) (had : adOK ad 37) (o0 : Nat) (ho0 : isSh o0) (v1 : Int32) (v2 : Int32) (o3 : Nat) (ho3 : isCo o3) (M : Mem) : CI l yX4_refusal wsX4_refusal rm_X4_refusal D cA ad (shX ad cA) 37 [.ref (ad o0), .int v1, .int v2, .ref (ad o3)] M (wM M (d_X4_refusal o0 v1 v2 o3 M)) := by
  refine CI_ofp (own := RX4) (cc := cX4_refusal) (maxL := 7) (rt := .int) had (by decide) rfl rfl (Nat.le_of_ble_eq_true rfl) ?_
  intro p e s m args below meth c R0 B hr hk
  have hJ70 : ∀ (rec3 : Int32 → Option Int32) (o0 : Nat) (v1 : Int32) (v2 : Int32) (o3 : Nat) (v4 : Int32) (v5 : Int32) (v6 : Int32)   (ho0 : isSh o0) (ho3 : isCo o3)  (hrec3 : ∀ (w4 : Int32), GG p l e (headSpec wsX4_refusal rm_X4_refusal).room s m args below meth c D ad (shX ad cA) 37 7 (MQ below (QI D ad (shX ad cA) 37 s.heap.size (R0, M)) args s 0 0 (AX ad 37 s.heap.size)) R0 M 3 [(0, .ref (ad o0)), (1, .int v1), (2, .int v2), (3, .ref (ad o3)), (4, .int w4)] [] (rec3 w4)), GG p l e (headSpec wsX4_refusal rm_X4_refusal).room s m args below meth c D ad (shX ad cA) 37 7 (MQ below (QI D ad (shX ad cA) 37 s.heap.size (R0, M)) args s 0 0 (AX ad 37 s.heap.size)) R0 M 70 [(0, .ref (ad o0)), (1, .int v1), (2, .int v2), (3, .ref (ad o3)), (4, .int v4), (5, .int v5), (6, .int v6)] [] (dX4_refusal_70j rec3 o0 v1 v2 o3 v4 v5 v6  M) := by
    intro rec3 o0 v1 v2 o3 v4 v5 v6 ho0 ho3 hrec3
    unfold dX4_refusal_70j
    refine g_iload B dX4_refusal_70 6 rfl ?_
    refine g_iconst (v := 2) B dX4_refusal_72 (by decide) ?_
    refine g_icmp_eq (tgt := 87) B dX4_refusal_73 (by decide) (fun c7 => ?_) (fun c7 => ?_)
    · refine g_iinc B dX4_refusal_87 4 (v := v4 + (1 : Int32)) rfl rfl (by decide) (lv1 := [(4, .int (v4 + (1 : Int32))), (0, .ref (ad o0)), (1, .int v1), (2, .int v2), (3, .ref (ad o3)), (5, .int v5), (6, .int v6)]) rfl ?_
      refine g_goto (tgt := 3) B dX4_refusal_90 (by decide) ?_
      exact g_lv [1, 2, 3, 4, 0] rfl (hrec3 _)
    · refine g_aload_n B dX4_refusal_76 3 rfl rfl ?_
      refine g_iload B dX4_refusal_77 5 rfl ?_
      refine g_callVIp (q := (RX0, TX0, 2)) (As := [.int v5]) (st := []) B (k_X0_has l D cA ad B.2.2.2.2.2.2.1 o3 ho3 v5 M) (cwV 1 B.2.2.2.2.1 gX4_refusal_X0_has rfl rfl rfl (by decide +kernel) ⟨Nat.le_of_ble_eq_true rfl, Nat.le_of_ble_eq_true rfl⟩) (shX_co ho3) (co_lt ho3) rfl rfl rfl (Nat.le_of_ble_eq_true rfl) dX4_refusal_79 (fun r8 _ => ?_)
      refine g_if_ne (tgt := 87) B dX4_refusal_82 (by decide) (fun c9 => ?_) (fun c9 => ?_)
      · refine g_iconst (v := -1) B dX4_refusal_85 (by decide) ?_
        exact g_iretp B hr hk dX4_refusal_86
      · refine g_iinc B dX4_refusal_87 4 (v := v4 + (1 : Int32)) rfl rfl (by decide) (lv1 := [(4, .int (v4 + (1 : Int32))), (0, .ref (ad o0)), (1, .int v1), (2, .int v2), (3, .ref (ad o3)), (5, .int v5), (6, .int v6)]) rfl ?_
        refine g_goto (tgt := 3) B dX4_refusal_90 (by decide) ?_
        exact g_lv [1, 2, 3, 4, 0] rfl (hrec3 _)
  have hL3 : ∀ (o0 : Nat) (v1 : Int32) (v2 : Int32) (o3 : Nat)   (ho0 : isSh o0) (ho3 : isCo o3) , ∀ (f : Nat) (v4 : Int32), GG p l e (headSpec wsX4_refusal rm_X4_refusal).room s m args below meth c D ad (shX ad cA) 37 7 (MQ below (QI D ad (shX ad cA) 37 s.heap.size (R0, M)) args s 0 0 (AX ad 37 s.heap.size)) R0 M 3 [(0, .ref (ad o0)), (1, .int v1), (2, .int v2), (3, .ref (ad o3)), (4, .int v4)] [] (dX4_refusal_3l o0 v1 v2 o3 M  f v4 ) := by
    intro o0 v1 v2 o3 ho0 ho3
    intro f
    induction f with
    | zero =>
      intro v4
      exact g_none
    | succ f ih =>
      intro v4
      rw [dX4_refusal_3l]
      refine g_iload B dX4_refusal_3 4 rfl ?_
      refine g_iload_n B dX4_refusal_5 2 rfl rfl ?_
      refine g_icmp_ge (tgt := 93) B dX4_refusal_6 (by decide) (fun c1 => ?_) (fun c1 => ?_)
      · refine g_iconst (v := 0) B dX4_refusal_93 (by decide) ?_
        exact g_iretp B hr hk dX4_refusal_94
      · refine g_aload_n B dX4_refusal_9 0 rfl rfl ?_
        refine g_iload_n B dX4_refusal_10 1 rfl rfl ?_
        refine g_iconst (v := 2) B dX4_refusal_11 (by decide) ?_
        refine g_iload B dX4_refusal_12 4 rfl ?_
        refine g_imul B dX4_refusal_14 ?_
        refine g_iadd B dX4_refusal_15 ?_
        refine g_callVIp (q := (RX5, TX5, 3)) (As := [.int (v1 + ((2 : Int32) * v4))]) (st := []) B (k_X5_at l D cA ad B.2.2.2.2.2.2.1 o0 ho0 (v1 + ((2 : Int32) * v4)) M) (cwV 1 B.2.2.2.2.1 gX4_refusal_X5_at rfl rfl rfl (by decide +kernel) ⟨Nat.le_of_ble_eq_true rfl, Nat.le_of_ble_eq_true rfl⟩) (shX_sh ho0) (sh_lt ho0) rfl rfl rfl (Nat.le_of_ble_eq_true rfl) dX4_refusal_16 (fun r2 _ => ?_)
        refine g_istore B dX4_refusal_19 (by decide) (lv1 := [(5, .int r2), (0, .ref (ad o0)), (1, .int v1), (2, .int v2), (3, .ref (ad o3)), (4, .int v4)]) rfl ?_
        refine g_aload_n B dX4_refusal_21 1 rfl rfl ?_
        refine g_iload_n B dX4_refusal_22 2 rfl rfl ?_
        refine g_iconst (v := 2) B dX4_refusal_23 (by decide) ?_
        refine g_iload B dX4_refusal_24 5 rfl ?_
        refine g_imul B dX4_refusal_26 ?_
        refine g_iadd B dX4_refusal_27 ?_
        refine g_iconst (v := 1) B dX4_refusal_28 (by decide) ?_
        refine g_iadd B dX4_refusal_29 ?_
        refine g_callVIp (q := (RX5, TX5, 3)) (As := [.int ((v1 + ((2 : Int32) * v4)) + (1 : Int32))]) (st := []) B (k_X5_at l D cA ad B.2.2.2.2.2.2.1 o0 ho0 ((v1 + ((2 : Int32) * v4)) + (1 : Int32)) M) (cwV 1 B.2.2.2.2.1 gX4_refusal_X5_at rfl rfl rfl (by decide +kernel) ⟨Nat.le_of_ble_eq_true rfl, Nat.le_of_ble_eq_true rfl⟩) (shX_sh ho0) (sh_lt ho0) rfl rfl rfl (Nat.le_of_ble_eq_true rfl) dX4_refusal_30 (fun r3 _ => ?_)
        refine g_istore B dX4_refusal_33 (by decide) (lv1 := [(6, .int r3), (5, .int r2), (0, .ref (ad o0)), (1, .int v1), (2, .int v2), (3, .ref (ad o3)), (4, .int v4)]) rfl ?_
        refine g_iload B dX4_refusal_35 0 rfl ?_
        refine g_if_lt (tgt := 46) B dX4_refusal_37 (by decide) (fun c4 => ?_) (fun c4 => ?_)
        · refine g_bipush (v := -2) B dX4_refusal_46 (by decide) ?_
          exact g_iretp B hr hk dX4_refusal_48
        · refine g_iload B dX4_refusal_40 0 rfl ?_
          refine g_iconst (v := 2) B dX4_refusal_42 (by decide) ?_
          refine g_icmp_le (tgt := 49) B dX4_refusal_43 (by decide) (fun c5 => ?_) (fun c5 => ?_)
          · refine g_iload B dX4_refusal_49 0 rfl ?_
            refine g_iconst (v := 2) B dX4_refusal_51 (by decide) ?_
            refine g_icmp_ne (tgt := 70) B dX4_refusal_52 (by decide) (fun c6 => ?_) (fun c6 => ?_)
            · refine g_iload B dX4_refusal_55 1 rfl ?_
              refine g_if_lt (tgt := 67) B dX4_refusal_57 (by decide) (fun c10 => ?_) (fun c10 => ?_)
              · refine g_bipush (v := -2) B dX4_refusal_67 (by decide) ?_
                exact g_iretp B hr hk dX4_refusal_69
              · refine g_iload B dX4_refusal_60 1 rfl ?_
                refine g_bipush (v := 9) B dX4_refusal_62 (by decide) ?_
                refine g_icmp_le (tgt := 70) B dX4_refusal_64 (by decide) (fun c11 => ?_) (fun c11 => ?_)
                · exact g_lv [2, 3, 4, 5, 6, 1, 0] rfl (hJ70 _ _ _ _ _ _ _ _ ho0 ho3  ih)
                · refine g_bipush (v := -2) B dX4_refusal_67 (by decide) ?_
                  exact g_iretp B hr hk dX4_refusal_69
            · exact g_lv [2, 3, 4, 5, 6, 1, 0] rfl (hJ70 _ _ _ _ _ _ _ _ ho0 ho3  ih)
          · refine g_bipush (v := -2) B dX4_refusal_46 (by decide) ?_
            exact g_iretp B hr hk dX4_refusal_48
  unfold d_X4_refusal
  show GG p l e (headSpec wsX4_refusal rm_X4_refusal).room s m args below meth c D ad (shX ad cA) 37 7 (MQ below (QI D ad (shX ad cA) 37 s.heap.size (R0, M)) args s 0 0 (AX ad 37 s.heap.size)) R0 M 0 [(0, .ref (ad o0)), (1, .int v1), (2, .int v2), (3, .ref (ad o3))] [] _
  refine g_iconst (v := 0) B dX4_refusal_0 (by decide) ?_
  refine g_istore B dX4_refusal_1 (by decide) (lv1 := [(4, .int (0 : Int32)), (0, .ref (ad o0)), (1, .int v1), (2, .int v2), (3, .ref (ad o3))]) rfl ?_
  refine g_lv [1, 2, 3, 4, 0] rfl (hL3 _ _ _ _ ho0 ho3  FU _)

abbrev rm_X2_copyFrom : Room := { frames := 0, cells := 0, slots := 0, locals := 0 }
set_option maxHeartbeats 4000000 in
set_option maxRecDepth 100000 in
theorem k_X2_copyFrom (l : Launch) (D : va_G) (cA : Nat → ClassId) (ad : Nat → Nat) (had : adOK ad 37) (o0 : Nat) (ho0 : isFt o0) (o1 : Nat) (ho1 : isFt o1) (M : Mem) : CV l yX2_copyFrom wsX2_copyFrom rm_X2_copyFrom D cA ad (shX ad cA) 37 [.ref (ad o0), .ref (ad o1)] M (d_X2_copyFrom o0 o1 M) := by
  refine CV_of (own := RX2) (cc := cX2_copyFrom) (maxL := 2) had (by decide) rfl rfl (Nat.le_of_ble_eq_true rfl) ?_
  intro p e s m args below meth c R0 B hr hk
  unfold d_X2_copyFrom
  show GG p l e (headSpec wsX2_copyFrom rm_X2_copyFrom).room s m args below meth c D ad (shX ad cA) 37 2 (MQ below (QV D ad (shX ad cA) 37 s.heap.size R0) args s 0 0 (AX ad 37 s.heap.size)) R0 M 0 [(0, .ref (ad o0)), (1, .ref (ad o1))] [] _
  refine g_aload_n B dX2_copyFrom_0 0 rfl rfl ?_
  refine g_aload_n B dX2_copyFrom_1 1 rfl rfl ?_
  refine g_get (v := .int (M o1 0)) B (shX_ft ho1) (ft_lt ho1) in_X2_copyFrom_X2 rfl 0 (by decide) (List.mem_of_getElem? (i := 1) rfl) rfl rfl dX2_copyFrom_2 ?_
  refine g_put (ty := .int) B (shX_ft ho0) (ft_lt ho0) in_X2_copyFrom_X2 tyX2_ok nmX2 rfl 0 (by decide) (List.mem_of_getElem? (i := 1) rfl) rfl rfl (by decide +kernel) rfl rfl (fun _ => Nat.le_of_ble_eq_true rfl) (fun _ _ => rfl) dX2_copyFrom_5 (g_lmM (fun M1 => ?_))
  refine g_aload_n B dX2_copyFrom_8 0 rfl rfl ?_
  refine g_aload_n B dX2_copyFrom_9 1 rfl rfl ?_
  refine g_get (v := .int (M1 o1 1)) B (shX_ft ho1) (ft_lt ho1) in_X2_copyFrom_X2 rfl 1 (by decide) (List.mem_of_getElem? (i := 2) rfl) rfl rfl dX2_copyFrom_10 ?_
  refine g_put (ty := .int) B (shX_ft ho0) (ft_lt ho0) in_X2_copyFrom_X2 tyX2_ok nmX2 rfl 1 (by decide) (List.mem_of_getElem? (i := 2) rfl) rfl rfl (by decide +kernel) rfl rfl (fun _ => Nat.le_of_ble_eq_true rfl) (fun _ _ => rfl) dX2_copyFrom_13 (g_lmM (fun M2 => ?_))
  refine g_aload_n B dX2_copyFrom_16 0 rfl rfl ?_
  refine g_aload_n B dX2_copyFrom_17 1 rfl rfl ?_
  refine g_get (v := .int (M2 o1 2)) B (shX_ft ho1) (ft_lt ho1) in_X2_copyFrom_X2 rfl 2 (by decide) (List.mem_of_getElem? (i := 3) rfl) rfl rfl dX2_copyFrom_18 ?_
  refine g_put (ty := .int) B (shX_ft ho0) (ft_lt ho0) in_X2_copyFrom_X2 tyX2_ok nmX2 rfl 2 (by decide) (List.mem_of_getElem? (i := 3) rfl) rfl rfl (by decide +kernel) rfl rfl (fun _ => Nat.le_of_ble_eq_true rfl) (fun _ _ => rfl) dX2_copyFrom_21 (g_lmM (fun M3 => ?_))
  refine g_aload_n B dX2_copyFrom_24 0 rfl rfl ?_
  refine g_aload_n B dX2_copyFrom_25 1 rfl rfl ?_
  refine g_get (v := .int (M3 o1 3)) B (shX_ft ho1) (ft_lt ho1) in_X2_copyFrom_X2 rfl 3 (by decide) (List.mem_of_getElem? (i := 4) rfl) rfl rfl dX2_copyFrom_26 ?_
  refine g_put (ty := .int) B (shX_ft ho0) (ft_lt ho0) in_X2_copyFrom_X2 tyX2_ok nmX2 rfl 3 (by decide) (List.mem_of_getElem? (i := 4) rfl) rfl rfl (by decide +kernel) rfl rfl (fun _ => Nat.le_of_ble_eq_true rfl) (fun _ _ => rfl) dX2_copyFrom_29 (g_lmM (fun M4 => ?_))
  refine g_aload_n B dX2_copyFrom_32 0 rfl rfl ?_
  refine g_aload_n B dX2_copyFrom_33 1 rfl rfl ?_
  refine g_get (v := .int (M4 o1 4)) B (shX_ft ho1) (ft_lt ho1) in_X2_copyFrom_X2 rfl 4 (by decide) (List.mem_of_getElem? (i := 5) rfl) rfl rfl dX2_copyFrom_34 ?_
  refine g_put (ty := .int) B (shX_ft ho0) (ft_lt ho0) in_X2_copyFrom_X2 tyX2_ok nmX2 rfl 4 (by decide) (List.mem_of_getElem? (i := 5) rfl) rfl rfl (by decide +kernel) rfl rfl (fun _ => Nat.le_of_ble_eq_true rfl) (fun _ _ => rfl) dX2_copyFrom_37 (g_lmM (fun M5 => ?_))
  refine g_aload_n B dX2_copyFrom_40 0 rfl rfl ?_
  refine g_aload_n B dX2_copyFrom_41 1 rfl rfl ?_
  refine g_get (v := .int (M5 o1 5)) B (shX_ft ho1) (ft_lt ho1) in_X2_copyFrom_X2 rfl 5 (by decide) (List.mem_of_getElem? (i := 6) rfl) rfl rfl dX2_copyFrom_42 ?_
  refine g_gd (fun z6 => ?_)
  refine g_put (ty := .boolean) B (shX_ft ho0) (ft_lt ho0) in_X2_copyFrom_X2 tyX2_ok nmX2 rfl 5 (by decide) (List.mem_of_getElem? (i := 6) rfl) rfl rfl (by decide +kernel) (nz z6) (fz z6) (fun _ => Nat.le_of_ble_eq_true rfl) (fun _ _ => rfl) dX2_copyFrom_45 (g_lmM (fun M7 => ?_))
  exact g_vret B hr hk dX2_copyFrom_48

abbrev rm_X0_copyFrom : Room := { frames := 1, cells := 0, slots := 0, locals := 21 }
set_option maxHeartbeats 4000000 in
set_option maxRecDepth 100000 in
theorem k_X0_copyFrom (l : Launch) (D : va_G) (cA : Nat → ClassId) (ad : Nat → Nat) (had : adOK ad 37) (o0 : Nat) (ho0 : isCo o0) (o1 : Nat) (ho1 : isCo o1) (M : Mem) : CV l yX0_copyFrom wsX0_copyFrom rm_X0_copyFrom D cA ad (shX ad cA) 37 [.ref (ad o0), .ref (ad o1)] M (d_X0_copyFrom o0 o1 M) := by
  refine CV_of (own := RX0) (cc := cX0_copyFrom) (maxL := 3) had (by decide) rfl rfl (Nat.le_of_ble_eq_true rfl) ?_
  intro p e s m args below meth c R0 B hr hk
  have hL10 : ∀ (o0 : Nat) (o1 : Nat)   (ho0 : isCo o0) (ho1 : isCo o1) , ∀ (f : Nat) (v2 : Int32) (M : Mem), GG p l e (headSpec wsX0_copyFrom rm_X0_copyFrom).room s m args below meth c D ad (shX ad cA) 37 3 (MQ below (QV D ad (shX ad cA) 37 s.heap.size R0) args s 0 0 (AX ad 37 s.heap.size)) R0 M 10 [(0, .ref (ad o0)), (1, .ref (ad o1)), (2, .int v2)] [] (dX0_copyFrom_10l o0 o1   f v2 M) := by
    intro o0 o1 ho0 ho1
    intro f
    induction f with
    | zero =>
      intro v2 M
      exact g_none
    | succ f ih =>
      intro v2 M
      rw [dX0_copyFrom_10l]
      refine g_iload_n B dX0_copyFrom_10 2 rfl rfl ?_
      refine g_aload_n B dX0_copyFrom_11 0 rfl rfl ?_
      refine g_get (v := .int (M o0 1)) B (shX_co ho0) (co_lt ho0) in_X0_copyFrom_X0 rfl 1 (by decide) (List.mem_of_getElem? (i := 1) rfl) rfl rfl dX0_copyFrom_12 ?_
      refine g_icmp_ge (tgt := 39) B dX0_copyFrom_15 (by decide) (fun c2 => ?_) (fun c2 => ?_)
      · exact g_vret B hr hk dX0_copyFrom_39
      · refine g_aload_n B dX0_copyFrom_18 0 rfl rfl ?_
        refine g_get (v := .ref (ad (o0 + 1))) B (shX_co ho0) (co_lt ho0) in_X0_copyFrom_X0 rfl 0 (by decide) (List.mem_of_getElem? (i := 2) rfl) rfl rfl dX0_copyFrom_19 ?_
        refine g_iload_n B dX0_copyFrom_22 2 rfl rfl ?_
        refine g_aald (g := (ft o0)) B 1 rfl (shX_fts ho0) (fts_lt ho0) dX0_copyFrom_23 (fun b3 => ?_)
        have f4 := (ft_ok ho0 b3)
        refine g_aload_n B dX0_copyFrom_24 1 rfl rfl ?_
        refine g_get (v := .ref (ad (o1 + 1))) B (shX_co ho1) (co_lt ho1) in_X0_copyFrom_X0 rfl 0 (by decide) (List.mem_of_getElem? (i := 2) rfl) rfl rfl dX0_copyFrom_25 ?_
        refine g_iload_n B dX0_copyFrom_28 2 rfl rfl ?_
        refine g_aald (g := (ft o1)) B 1 rfl (shX_fts ho1) (fts_lt ho1) dX0_copyFrom_29 (fun b5 => ?_)
        have f6 := (ft_ok ho1 b5)
        refine g_callVVe (q := (RX2, TX2, 6)) (As := [.ref (ad ((ft o1) v2.toNatClampNeg))]) (st := []) B (k_X2_copyFrom l D cA ad B.2.2.2.2.2.2.1 ((ft o0) v2.toNatClampNeg) f4 ((ft o1) v2.toNatClampNeg) f6 M) (cwV 1 B.2.2.2.2.1 gX0_copyFrom_X2_copyFrom rfl rfl rfl (by decide +kernel) ⟨Nat.le_of_ble_eq_true rfl, Nat.le_of_ble_eq_true rfl⟩) (shX_ft f4) (ft_lt f4) rfl rfl rfl (Nat.le_of_ble_eq_true rfl) dX0_copyFrom_30 (fun M7 _ => ?_)
        refine g_iinc B dX0_copyFrom_33 2 (v := v2 + (1 : Int32)) rfl rfl (by decide) (lv1 := [(2, .int (v2 + (1 : Int32))), (0, .ref (ad o0)), (1, .ref (ad o1))]) rfl ?_
        refine g_goto (tgt := 10) B dX0_copyFrom_36 (by decide) ?_
        exact g_lv [1, 2, 0] rfl (ih _ _)
  unfold d_X0_copyFrom
  show GG p l e (headSpec wsX0_copyFrom rm_X0_copyFrom).room s m args below meth c D ad (shX ad cA) 37 3 (MQ below (QV D ad (shX ad cA) 37 s.heap.size R0) args s 0 0 (AX ad 37 s.heap.size)) R0 M 0 [(0, .ref (ad o0)), (1, .ref (ad o1))] [] _
  refine g_aload_n B dX0_copyFrom_0 0 rfl rfl ?_
  refine g_aload_n B dX0_copyFrom_1 1 rfl rfl ?_
  refine g_get (v := .int (M o1 1)) B (shX_co ho1) (co_lt ho1) in_X0_copyFrom_X0 rfl 1 (by decide) (List.mem_of_getElem? (i := 1) rfl) rfl rfl dX0_copyFrom_2 ?_
  refine g_put (ty := .int) B (shX_co ho0) (co_lt ho0) in_X0_copyFrom_X0 tyX0_ok nmX0 rfl 1 (by decide) (List.mem_of_getElem? (i := 1) rfl) rfl rfl (by decide +kernel) rfl rfl (fun _ => Nat.le_of_ble_eq_true rfl) (fun _ _ => rfl) dX0_copyFrom_5 (g_lmM (fun M1 => ?_))
  refine g_iconst (v := 0) B dX0_copyFrom_8 (by decide) ?_
  refine g_istore_n B dX0_copyFrom_9 rfl (by decide) (lv1 := [(2, .int (0 : Int32)), (0, .ref (ad o0)), (1, .ref (ad o1))]) rfl ?_
  refine g_lv [1, 2, 0] rfl (hL10 _ _ ho0 ho1  FU _ _)

abbrev rm_X0_allArrived : Room := { frames := 4, cells := 0, slots := 0, locals := 89 }
set_option maxHeartbeats 4000000 in
set_option maxRecDepth 100000 in
theorem k_X0_allArrived (l : Launch) (D : va_G) (cA : Nat → ClassId) (ad : Nat → Nat) (had : adOK ad 37) (o0 : Nat) (ho0 : isCo o0) (M : Mem) : CI l yX0_allArrived wsX0_allArrived rm_X0_allArrived D cA ad (shX ad cA) 37 [.ref (ad o0), .ref (ad 2)] M (wM M (d_X0_allArrived o0 M)) := by
  refine CI_ofp (own := RX0) (cc := cX0_allArrived) (maxL := 2) (rt := .boolean) had (by decide) rfl rfl (Nat.le_of_ble_eq_true rfl) ?_
  intro p e s m args below meth c R0 B hr hk
  unfold d_X0_allArrived
  show GG p l e (headSpec wsX0_allArrived rm_X0_allArrived).room s m args below meth c D ad (shX ad cA) 37 2 (MQ below (QI D ad (shX ad cA) 37 s.heap.size (R0, M)) args s 0 0 (AX ad 37 s.heap.size)) R0 M 0 [(0, .ref (ad o0)), (1, .ref (ad 2))] [] _
  refine g_aload_n B dX0_allArrived_0 0 rfl rfl ?_
  refine g_aload_n B dX0_allArrived_1 1 rfl rfl ?_
  refine g_callVIp (q := (RX0, TX0, 2)) (As := [.ref (ad 2)]) (st := []) B (k_X0_countArrived l D cA ad B.2.2.2.2.2.2.1 o0 ho0 M) (cwV 1 B.2.2.2.2.1 gX0_allArrived_X0_countArrived rfl rfl rfl (by decide +kernel) ⟨Nat.le_of_ble_eq_true rfl, Nat.le_of_ble_eq_true rfl⟩) (shX_co ho0) (co_lt ho0) rfl rfl rfl (Nat.le_of_ble_eq_true rfl) dX0_allArrived_2 (fun r1 _ => ?_)
  refine g_aload_n B dX0_allArrived_5 0 rfl rfl ?_
  refine g_get (v := .int (M o0 1)) B (shX_co ho0) (co_lt ho0) in_X0_allArrived_X0 rfl 1 (by decide) (List.mem_of_getElem? (i := 1) rfl) rfl rfl dX0_allArrived_6 ?_
  refine g_icmp_ne (tgt := 16) B dX0_allArrived_9 (by decide) (fun c2 => ?_) (fun c2 => ?_)
  · refine g_iconst (v := 1) B dX0_allArrived_12 (by decide) ?_
    refine g_goto (tgt := 17) B dX0_allArrived_13 (by decide) ?_
    exact g_zretp B hr hk rfl dX0_allArrived_17
  · refine g_iconst (v := 0) B dX0_allArrived_16 (by decide) ?_
    exact g_zretp B hr hk rfl dX0_allArrived_17

abbrev rm_X0_walkedTogether : Room := { frames := 0, cells := 0, slots := 0, locals := 0 }
set_option maxHeartbeats 4000000 in
set_option maxRecDepth 100000 in
theorem k_X0_walkedTogether (l : Launch) (D : va_G) (cA : Nat → ClassId) (ad : Nat → Nat) (had : adOK ad 37) (o0 : Nat) (ho0 : isCo o0) (M : Mem) : CI l yX0_walkedTogether wsX0_walkedTogether rm_X0_walkedTogether D cA ad (shX ad cA) 37 [.ref (ad o0)] M (wM M (d_X0_walkedTogether o0 M)) := by
  refine CI_ofp (own := RX0) (cc := cX0_walkedTogether) (maxL := 3) (rt := .int) had (by decide) rfl rfl (Nat.le_of_ble_eq_true rfl) ?_
  intro p e s m args below meth c R0 B hr hk
  have hL4 : ∀ (o0 : Nat)   (ho0 : isCo o0) , ∀ (f : Nat) (v1 : Int32) (v2 : Int32), GG p l e (headSpec wsX0_walkedTogether rm_X0_walkedTogether).room s m args below meth c D ad (shX ad cA) 37 3 (MQ below (QI D ad (shX ad cA) 37 s.heap.size (R0, M)) args s 0 0 (AX ad 37 s.heap.size)) R0 M 4 [(0, .ref (ad o0)), (1, .int v1), (2, .int v2)] [] (dX0_walkedTogether_4l o0 M  f v1 v2 ) := by
    intro o0 ho0
    intro f
    induction f with
    | zero =>
      intro v1 v2
      exact g_none
    | succ f ih =>
      intro v1 v2
      rw [dX0_walkedTogether_4l]
      refine g_iload_n B dX0_walkedTogether_4 2 rfl rfl ?_
      refine g_aload_n B dX0_walkedTogether_5 0 rfl rfl ?_
      refine g_get (v := .int (M o0 1)) B (shX_co ho0) (co_lt ho0) in_X0_walkedTogether_X0 rfl 1 (by decide) (List.mem_of_getElem? (i := 1) rfl) rfl rfl dX0_walkedTogether_6 ?_
      refine g_icmp_ge (tgt := 30) B dX0_walkedTogether_9 (by decide) (fun c1 => ?_) (fun c1 => ?_)
      · refine g_iload_n B dX0_walkedTogether_30 1 rfl rfl ?_
        exact g_iretp B hr hk dX0_walkedTogether_31
      · refine g_iload_n B dX0_walkedTogether_12 1 rfl rfl ?_
        refine g_aload_n B dX0_walkedTogether_13 0 rfl rfl ?_
        refine g_get (v := .ref (ad (o0 + 1))) B (shX_co ho0) (co_lt ho0) in_X0_walkedTogether_X0 rfl 0 (by decide) (List.mem_of_getElem? (i := 2) rfl) rfl rfl dX0_walkedTogether_14 ?_
        refine g_iload_n B dX0_walkedTogether_17 2 rfl rfl ?_
        refine g_aald (g := (ft o0)) B 1 rfl (shX_fts ho0) (fts_lt ho0) dX0_walkedTogether_18 (fun b2 => ?_)
        have f3 := (ft_ok ho0 b2)
        refine g_getN (v := .int (M ((ft o0) v2.toNatClampNeg) 4)) B (shX_ft f3) (ft_lt f3) in_X0_walkedTogether_X2 rfl 4 (by decide) 11 rfl rfl rfl dX0_walkedTogether_19 ?_
        refine g_iadd B dX0_walkedTogether_22 ?_
        refine g_lmI (fun x4 => ?_)
        refine g_istore_n B dX0_walkedTogether_23 rfl (by decide) (lv1 := [(1, .int x4), (0, .ref (ad o0)), (2, .int v2)]) rfl ?_
        refine g_iinc B dX0_walkedTogether_24 2 (v := v2 + (1 : Int32)) rfl rfl (by decide) (lv1 := [(2, .int (v2 + (1 : Int32))), (1, .int x4), (0, .ref (ad o0))]) rfl ?_
        refine g_goto (tgt := 4) B dX0_walkedTogether_27 (by decide) ?_
        exact g_lv [2, 1, 0] rfl (ih _ _)
  unfold d_X0_walkedTogether
  show GG p l e (headSpec wsX0_walkedTogether rm_X0_walkedTogether).room s m args below meth c D ad (shX ad cA) 37 3 (MQ below (QI D ad (shX ad cA) 37 s.heap.size (R0, M)) args s 0 0 (AX ad 37 s.heap.size)) R0 M 0 [(0, .ref (ad o0))] [] _
  refine g_iconst (v := 0) B dX0_walkedTogether_0 (by decide) ?_
  refine g_istore_n B dX0_walkedTogether_1 rfl (by decide) (lv1 := [(1, .int (0 : Int32)), (0, .ref (ad o0))]) rfl ?_
  refine g_iconst (v := 0) B dX0_walkedTogether_2 (by decide) ?_
  refine g_istore_n B dX0_walkedTogether_3 rfl (by decide) (lv1 := [(2, .int (0 : Int32)), (1, .int (0 : Int32)), (0, .ref (ad o0))]) rfl ?_
  refine g_lv [2, 1, 0] rfl (hL4 _ ho0  FU _ _)

abbrev rm_X4_passDays : Room := { frames := 5, cells := 0, slots := 0, locals := 110 }
set_option maxHeartbeats 4000000 in
set_option maxRecDepth 100000 in
theorem k_X4_passDays (l : Launch) (D : va_G) (cA : Nat → ClassId) (ad : Nat → Nat) (had : adOK ad 37) (v1 : Int32) (M : Mem) : CV l yX4_passDays wsX4_passDays rm_X4_passDays D cA ad (shX ad cA) 37 [.ref (ad 14), .int v1, .ref (ad 2)] M (d_X4_passDays v1 M) := by
  refine CV_of (own := RX4) (cc := cX4_passDays) (maxL := 4) had (by decide) rfl rfl (Nat.le_of_ble_eq_true rfl) ?_
  intro p e s m args below meth c R0 B hr hk
  have hL2 : ∀ (v1 : Int32)    , ∀ (f : Nat) (v3 : Int32) (M : Mem), GG p l e (headSpec wsX4_passDays rm_X4_passDays).room s m args below meth c D ad (shX ad cA) 37 4 (MQ below (QV D ad (shX ad cA) 37 s.heap.size R0) args s 0 0 (AX ad 37 s.heap.size)) R0 M 2 [(0, .ref (ad 14)), (1, .int v1), (2, .ref (ad 2)), (3, .int v3)] [] (dX4_passDays_2l v1   f v3 M) := by
    intro v1
    intro f
    induction f with
    | zero =>
      intro v3 M
      exact g_none
    | succ f ih =>
      intro v3 M
      rw [dX4_passDays_2l]
      refine g_iload_n B dX4_passDays_2 3 rfl rfl ?_
      refine g_iload_n B dX4_passDays_3 1 rfl rfl ?_
      refine g_icmp_ge (tgt := 59) B dX4_passDays_4 (by decide) (fun c1 => ?_) (fun c1 => ?_)
      · exact g_vret B hr hk dX4_passDays_59
      · refine g_aload_n B dX4_passDays_7 0 rfl rfl ?_
        refine g_get (v := .ref (ad 15)) B shX_se (by decide) in_X4_passDays_X4 rfl 0 (by decide) (List.mem_of_getElem? (i := 1) rfl) rfl rfl dX4_passDays_8 ?_
        refine g_aload_n B dX4_passDays_11 2 rfl rfl ?_
        refine g_callVVe (q := (RX0, TX0, 2)) (As := [.ref (ad 2)]) (st := []) B (k_X0_passDay l D cA ad B.2.2.2.2.2.2.1 15 co15 M) (cwV 1 B.2.2.2.2.1 gX4_passDays_X0_passDay rfl rfl rfl (by decide +kernel) ⟨Nat.le_of_ble_eq_true rfl, Nat.le_of_ble_eq_true rfl⟩) (shX_co co15) (co_lt co15) rfl rfl rfl (Nat.le_of_ble_eq_true rfl) dX4_passDays_12 (fun M2 _ => ?_)
        refine g_aload_n B dX4_passDays_15 0 rfl rfl ?_
        refine g_dup B dX4_passDays_16 rfl ?_
        refine g_get (v := .int (M2 14 2)) B shX_se (by decide) in_X4_passDays_X4 rfl 2 (by decide) (List.mem_of_getElem? (i := 2) rfl) rfl rfl dX4_passDays_17 ?_
        refine g_iconst (v := 1) B dX4_passDays_20 (by decide) ?_
        refine g_iadd B dX4_passDays_21 ?_
        refine g_put (ty := .int) B shX_se (by decide) in_X4_passDays_X4 tyX4_ok nmX4 rfl 2 (by decide) (List.mem_of_getElem? (i := 2) rfl) rfl rfl (by decide +kernel) rfl rfl (fun _ => Nat.le_of_ble_eq_true rfl) (fun _ _ => rfl) dX4_passDays_22 (g_lmM (fun M3 => ?_))
        refine g_aload_n B dX4_passDays_25 0 rfl rfl ?_
        refine g_get (v := .int (M3 14 3)) B shX_se (by decide) in_X4_passDays_X4 rfl 3 (by decide) (List.mem_of_getElem? (i := 3) rfl) rfl rfl dX4_passDays_26 ?_
        refine g_bipush (v := -9) B dX4_passDays_29 (by decide) ?_
        refine g_icmp_ne (tgt := 53) B dX4_passDays_31 (by decide) (fun c4 => ?_) (fun c4 => ?_)
        · refine g_aload_n B dX4_passDays_34 0 rfl rfl ?_
          refine g_get (v := .ref (ad 15)) B shX_se (by decide) in_X4_passDays_X4 rfl 0 (by decide) (List.mem_of_getElem? (i := 1) rfl) rfl rfl dX4_passDays_35 ?_
          refine g_aload_n B dX4_passDays_38 2 rfl rfl ?_
          refine g_callVIp (q := (RX0, TX0, 2)) (As := [.ref (ad 2)]) (st := []) B (k_X0_allArrived l D cA ad B.2.2.2.2.2.2.1 15 co15 M3) (cwV 1 B.2.2.2.2.1 gX4_passDays_X0_allArrived rfl rfl rfl (by decide +kernel) ⟨Nat.le_of_ble_eq_true rfl, Nat.le_of_ble_eq_true rfl⟩) (shX_co co15) (co_lt co15) rfl rfl rfl (Nat.le_of_ble_eq_true rfl) dX4_passDays_39 (fun r5 _ => ?_)
          refine g_if_eq (tgt := 53) B dX4_passDays_42 (by decide) (fun c6 => ?_) (fun c6 => ?_)
          · refine g_iinc B dX4_passDays_53 3 (v := v3 + (1 : Int32)) rfl rfl (by decide) (lv1 := [(3, .int (v3 + (1 : Int32))), (0, .ref (ad 14)), (1, .int v1), (2, .ref (ad 2))]) rfl ?_
            refine g_goto (tgt := 2) B dX4_passDays_56 (by decide) ?_
            exact g_lv [1, 2, 3, 0] rfl (ih _ _)
          · refine g_aload_n B dX4_passDays_45 0 rfl rfl ?_
            refine g_aload_n B dX4_passDays_46 0 rfl rfl ?_
            refine g_get (v := .int (M3 14 2)) B shX_se (by decide) in_X4_passDays_X4 rfl 2 (by decide) (List.mem_of_getElem? (i := 2) rfl) rfl rfl dX4_passDays_47 ?_
            refine g_put (ty := .int) B shX_se (by decide) in_X4_passDays_X4 tyX4_ok nmX4 rfl 3 (by decide) (List.mem_of_getElem? (i := 3) rfl) rfl rfl (by decide +kernel) rfl rfl (fun _ => Nat.le_of_ble_eq_true rfl) (fun _ _ => rfl) dX4_passDays_50 (g_lmM (fun M7 => ?_))
            refine g_iinc B dX4_passDays_53 3 (v := v3 + (1 : Int32)) rfl rfl (by decide) (lv1 := [(3, .int (v3 + (1 : Int32))), (0, .ref (ad 14)), (1, .int v1), (2, .ref (ad 2))]) rfl ?_
            refine g_goto (tgt := 2) B dX4_passDays_56 (by decide) ?_
            exact g_lv [1, 2, 3, 0] rfl (ih _ _)
        · refine g_iinc B dX4_passDays_53 3 (v := v3 + (1 : Int32)) rfl rfl (by decide) (lv1 := [(3, .int (v3 + (1 : Int32))), (0, .ref (ad 14)), (1, .int v1), (2, .ref (ad 2))]) rfl ?_
          refine g_goto (tgt := 2) B dX4_passDays_56 (by decide) ?_
          exact g_lv [1, 2, 3, 0] rfl (ih _ _)
  unfold d_X4_passDays
  show GG p l e (headSpec wsX4_passDays rm_X4_passDays).room s m args below meth c D ad (shX ad cA) 37 4 (MQ below (QV D ad (shX ad cA) 37 s.heap.size R0) args s 0 0 (AX ad 37 s.heap.size)) R0 M 0 [(0, .ref (ad 14)), (1, .int v1), (2, .ref (ad 2))] [] _
  refine g_iconst (v := 0) B dX4_passDays_0 (by decide) ?_
  refine g_istore_n B dX4_passDays_1 rfl (by decide) (lv1 := [(3, .int (0 : Int32)), (0, .ref (ad 14)), (1, .int v1), (2, .ref (ad 2))]) rfl ?_
  refine g_lv [1, 2, 3, 0] rfl (hL2 _   FU _ _)

abbrev rm_X4_play : Room := { frames := 6, cells := 0, slots := 0, locals := 133 }
set_option maxHeartbeats 4000000 in
set_option maxRecDepth 100000 in
theorem k_X4_play (l : Launch) (D : va_G) (cA : Nat → ClassId) (ad : Nat → Nat) (had : adOK ad 37) (o1 : Nat) (ho1 : isSh o1) (v2 : Int32) (v3 : Int32) (o4 : Nat) (ho4 : isCo o4) (M : Mem) : CV l yX4_play wsX4_play rm_X4_play D cA ad (shX ad cA) 37 [.ref (ad 14), .ref (ad o1), .int v2, .int v3, .ref (ad o4), .ref (ad 2)] M (d_X4_play o1 v2 v3 o4 M) := by
  refine CV_of (own := RX4) (cc := cX4_play) (maxL := 9) had (by decide) rfl rfl (Nat.le_of_ble_eq_true rfl) ?_
  intro p e s m args below meth c R0 B hr hk
  have hJ130 : ∀ (rec56 : Int32 → Mem → Option Mem) (o1 : Nat) (v2 : Int32) (v3 : Int32) (v6 : Int32) (s0 : Int32) (s1 : Int32) (M : Mem) (ho1 : isSh o1)  (hrec56 : ∀ (w6 : Int32) (M1 : Mem), GG p l e (headSpec wsX4_play rm_X4_play).room s m args below meth c D ad (shX ad cA) 37 9 (MQ below (QV D ad (shX ad cA) 37 s.heap.size R0) args s 0 0 (AX ad 37 s.heap.size)) R0 M1 56 [(0, .ref (ad 14)), (1, .ref (ad o1)), (2, .int v2), (3, .int v3), (5, .ref (ad 2)), (6, .int w6)] [] (rec56 w6 M1)), GG p l e (headSpec wsX4_play rm_X4_play).room s m args below meth c D ad (shX ad cA) 37 9 (MQ below (QV D ad (shX ad cA) 37 s.heap.size R0) args s 0 0 (AX ad 37 s.heap.size)) R0 M 130 [(0, .ref (ad 14)), (1, .ref (ad o1)), (2, .int v2), (3, .int v3), (5, .ref (ad 2)), (6, .int v6)] [.int s0, .int s1, .ref (ad 15)] (dX4_play_130j rec56 o1 v2 v3 v6 s0 s1 M) := by
    intro rec56 o1 v2 v3 v6 s0 s1 M ho1 hrec56
    unfold dX4_play_130j
    refine g_callVIe (q := (RX0, TX0, 2)) (As := [.int s1, .int s0]) (st := []) B (k_X0_turn l D cA ad B.2.2.2.2.2.2.1 15 co15 s1 s0 M) (cwV 2 B.2.2.2.2.1 gX4_play_X0_turn rfl rfl rfl (by decide +kernel) ⟨Nat.le_of_ble_eq_true rfl, Nat.le_of_ble_eq_true rfl⟩) (shX_co co15) (co_lt co15) rfl rfl rfl (Nat.le_of_ble_eq_true rfl) dX4_play_130 (fun r15 M16 _ => ?_)
    refine g_if_ne (tgt := 142) B dX4_play_133 (by decide) (fun c17 => ?_) (fun c17 => ?_)
    · refine g_aload_n B dX4_play_136 0 rfl rfl ?_
      refine g_iload B dX4_play_137 5 rfl ?_
      refine g_put (ty := .int) B shX_se (by decide) in_X4_play_X4 tyX4_ok nmX4 rfl 1 (by decide) (List.mem_of_getElem? (i := 2) rfl) rfl rfl (by decide +kernel) rfl rfl (fun _ => Nat.le_of_ble_eq_true rfl) (fun _ _ => rfl) dX4_play_139 (g_lmM (fun M18 => ?_))
      refine g_iinc B dX4_play_142 5 (v := v6 + (1 : Int32)) rfl rfl (by decide) (lv1 := [(6, .int (v6 + (1 : Int32))), (0, .ref (ad 14)), (1, .ref (ad o1)), (2, .int v2), (3, .int v3), (5, .ref (ad 2))]) rfl ?_
      refine g_goto (tgt := 56) B dX4_play_145 (by decide) ?_
      exact g_lv [1, 2, 3, 4, 5, 0] rfl (hrec56 _ _)
    · refine g_iinc B dX4_play_142 5 (v := v6 + (1 : Int32)) rfl rfl (by decide) (lv1 := [(6, .int (v6 + (1 : Int32))), (0, .ref (ad 14)), (1, .ref (ad o1)), (2, .int v2), (3, .int v3), (5, .ref (ad 2))]) rfl ?_
      refine g_goto (tgt := 56) B dX4_play_145 (by decide) ?_
      exact g_lv [1, 2, 3, 4, 5, 0] rfl (hrec56 _ _)
  have hL56 : ∀ (o1 : Nat) (v2 : Int32) (v3 : Int32)   (ho1 : isSh o1) , ∀ (f : Nat) (v6 : Int32) (M : Mem), GG p l e (headSpec wsX4_play rm_X4_play).room s m args below meth c D ad (shX ad cA) 37 9 (MQ below (QV D ad (shX ad cA) 37 s.heap.size R0) args s 0 0 (AX ad 37 s.heap.size)) R0 M 56 [(0, .ref (ad 14)), (1, .ref (ad o1)), (2, .int v2), (3, .int v3), (5, .ref (ad 2)), (6, .int v6)] [] (dX4_play_56l o1 v2 v3   f v6 M) := by
    intro o1 v2 v3 ho1
    intro f
    induction f with
    | zero =>
      intro v6 M
      exact g_none
    | succ f ih =>
      intro v6 M
      rw [dX4_play_56l]
      refine g_iload B dX4_play_56 5 rfl ?_
      refine g_iload_n B dX4_play_58 3 rfl rfl ?_
      refine g_icmp_ge (tgt := 148) B dX4_play_59 (by decide) (fun c9 => ?_) (fun c9 => ?_)
      · exact g_vret B hr hk dX4_play_148
      · refine g_aload_n B dX4_play_62 0 rfl rfl ?_
        refine g_get (v := .int (M 14 1)) B shX_se (by decide) in_X4_play_X4 rfl 1 (by decide) (List.mem_of_getElem? (i := 2) rfl) rfl rfl dX4_play_63 ?_
        refine g_bipush (v := -9) B dX4_play_66 (by decide) ?_
        refine g_icmp_ne (tgt := 148) B dX4_play_68 (by decide) (fun c10 => ?_) (fun c10 => ?_)
        · refine g_aload_n B dX4_play_71 1 rfl rfl ?_
          refine g_iload_n B dX4_play_72 2 rfl rfl ?_
          refine g_iconst (v := 2) B dX4_play_73 (by decide) ?_
          refine g_iload B dX4_play_74 5 rfl ?_
          refine g_imul B dX4_play_76 ?_
          refine g_iadd B dX4_play_77 ?_
          refine g_callVIp (q := (RX5, TX5, 3)) (As := [.int (v2 + ((2 : Int32) * v6))]) (st := []) B (k_X5_at l D cA ad B.2.2.2.2.2.2.1 o1 ho1 (v2 + ((2 : Int32) * v6)) M) (cwV 1 B.2.2.2.2.1 gX4_play_X5_at rfl rfl rfl (by decide +kernel) ⟨Nat.le_of_ble_eq_true rfl, Nat.le_of_ble_eq_true rfl⟩) (shX_sh ho1) (sh_lt ho1) rfl rfl rfl (Nat.le_of_ble_eq_true rfl) dX4_play_78 (fun r11 _ => ?_)
          refine g_istore B dX4_play_81 (by decide) (lv1 := [(7, .int r11), (0, .ref (ad 14)), (1, .ref (ad o1)), (2, .int v2), (3, .int v3), (5, .ref (ad 2)), (6, .int v6)]) rfl ?_
          refine g_aload_n B dX4_play_83 2 rfl rfl ?_
          refine g_iload_n B dX4_play_84 3 rfl rfl ?_
          refine g_iconst (v := 2) B dX4_play_85 (by decide) ?_
          refine g_iload B dX4_play_86 6 rfl ?_
          refine g_imul B dX4_play_88 ?_
          refine g_iadd B dX4_play_89 ?_
          refine g_iconst (v := 1) B dX4_play_90 (by decide) ?_
          refine g_iadd B dX4_play_91 ?_
          refine g_callVIp (q := (RX5, TX5, 3)) (As := [.int ((v2 + ((2 : Int32) * v6)) + (1 : Int32))]) (st := []) B (k_X5_at l D cA ad B.2.2.2.2.2.2.1 o1 ho1 ((v2 + ((2 : Int32) * v6)) + (1 : Int32)) M) (cwV 1 B.2.2.2.2.1 gX4_play_X5_at rfl rfl rfl (by decide +kernel) ⟨Nat.le_of_ble_eq_true rfl, Nat.le_of_ble_eq_true rfl⟩) (shX_sh ho1) (sh_lt ho1) rfl rfl rfl (Nat.le_of_ble_eq_true rfl) dX4_play_92 (fun r12 _ => ?_)
          refine g_istore B dX4_play_95 (by decide) (lv1 := [(8, .int r12), (7, .int r11), (0, .ref (ad 14)), (1, .ref (ad o1)), (2, .int v2), (3, .int v3), (5, .ref (ad 2)), (6, .int v6)]) rfl ?_
          refine g_iload B dX4_play_97 0 rfl ?_
          refine g_iconst (v := 2) B dX4_play_99 (by decide) ?_
          refine g_icmp_ne (tgt := 114) B dX4_play_100 (by decide) (fun c13 => ?_) (fun c13 => ?_)
          · refine g_aload_n B dX4_play_103 2 rfl rfl ?_
            refine g_iload B dX4_play_104 1 rfl ?_
            refine g_aload B dX4_play_106 6 rfl ?_
            refine g_callVVe (q := (RX4, TX4, 5)) (As := [.int r11, .ref (ad 2)]) (st := []) B (k_X4_passDays l D cA ad B.2.2.2.2.2.2.1 r11 M) (cwV 2 B.2.2.2.2.1 gX4_play_X4_passDays rfl rfl rfl (by decide +kernel) ⟨Nat.le_of_ble_eq_true rfl, Nat.le_of_ble_eq_true rfl⟩) shX_se (by decide) rfl rfl rfl (Nat.le_of_ble_eq_true rfl) dX4_play_108 (fun M19 _ => ?_)
            refine g_goto (tgt := 142) B dX4_play_111 (by decide) ?_
            refine g_iinc B dX4_play_142 7 (v := v6 + (1 : Int32)) rfl rfl (by decide) (lv1 := [(6, .int (v6 + (1 : Int32))), (8, .int r12), (7, .int r11), (0, .ref (ad 14)), (1, .ref (ad o1)), (2, .int v2), (3, .int v3), (5, .ref (ad 2))]) rfl ?_
            refine g_goto (tgt := 56) B dX4_play_145 (by decide) ?_
            exact g_lv [3, 4, 5, 6, 7, 0] rfl (ih _ _)
          · refine g_aload_n B dX4_play_114 2 rfl rfl ?_
            refine g_get (v := .ref (ad 15)) B shX_se (by decide) in_X4_play_X4 rfl 0 (by decide) (List.mem_of_getElem? (i := 1) rfl) rfl rfl dX4_play_115 ?_
            refine g_iload B dX4_play_118 1 rfl ?_
            refine g_iload B dX4_play_120 0 rfl ?_
            refine g_if_ne (tgt := 129) B dX4_play_122 (by decide) (fun c14 => ?_) (fun c14 => ?_)
            · refine g_iconst (v := 1) B dX4_play_125 (by decide) ?_
              refine g_goto (tgt := 130) B dX4_play_126 (by decide) ?_
              exact g_lv [2, 3, 4, 5, 6, 7] rfl (hJ130 _ _ _ _ _ _ _ _ ho1  ih)
            · refine g_iconst (v := 0) B dX4_play_129 (by decide) ?_
              exact g_lv [2, 3, 4, 5, 6, 7] rfl (hJ130 _ _ _ _ _ _ _ _ ho1  ih)
        · exact g_vret B hr hk dX4_play_148
  have hJ39 : ∀  (o1 : Nat) (v2 : Int32) (v3 : Int32) (s0 : Int32) (M : Mem) (ho1 : isSh o1)  , GG p l e (headSpec wsX4_play rm_X4_play).room s m args below meth c D ad (shX ad cA) 37 9 (MQ below (QV D ad (shX ad cA) 37 s.heap.size R0) args s 0 0 (AX ad 37 s.heap.size)) R0 M 39 [(0, .ref (ad 14)), (1, .ref (ad o1)), (2, .int v2), (3, .int v3), (5, .ref (ad 2))] [.int s0, .ref (ad 14)] (dX4_play_39j  o1 v2 v3 s0 M) := by
    intro o1 v2 v3 s0 M ho1
    unfold dX4_play_39j
    refine g_put (ty := .int) B shX_se (by decide) in_X4_play_X4 tyX4_ok nmX4 rfl 3 (by decide) (List.mem_of_getElem? (i := 4) rfl) rfl rfl (by decide +kernel) rfl rfl (fun _ => Nat.le_of_ble_eq_true rfl) (fun _ _ => rfl) dX4_play_39 (g_lmM (fun M6 => ?_))
    refine g_aload_n B dX4_play_42 0 rfl rfl ?_
    refine g_aload_n B dX4_play_43 0 rfl rfl ?_
    refine g_get (v := .ref (ad 15)) B shX_se (by decide) in_X4_play_X4 rfl 0 (by decide) (List.mem_of_getElem? (i := 1) rfl) rfl rfl dX4_play_44 ?_
    refine g_callVIp (q := (RX0, TX0, 2)) (As := []) (st := [.ref (ad 14)]) B (k_X0_walkedTogether l D cA ad B.2.2.2.2.2.2.1 15 co15 M6) (cwV 0 B.2.2.2.2.1 gX4_play_X0_walkedTogether rfl rfl rfl (by decide +kernel) ⟨Nat.le_of_ble_eq_true rfl, Nat.le_of_ble_eq_true rfl⟩) (shX_co co15) (co_lt co15) rfl rfl rfl (Nat.le_of_ble_eq_true rfl) dX4_play_47 (fun r7 _ => ?_)
    refine g_put (ty := .int) B shX_se (by decide) in_X4_play_X4 tyX4_ok nmX4 rfl 4 (by decide) (List.mem_of_getElem? (i := 5) rfl) rfl rfl (by decide +kernel) rfl rfl (fun _ => Nat.le_of_ble_eq_true rfl) (fun _ _ => rfl) dX4_play_50 (g_lmM (fun M8 => ?_))
    refine g_iconst (v := 0) B dX4_play_53 (by decide) ?_
    refine g_istore B dX4_play_54 (by decide) (lv1 := [(6, .int (0 : Int32)), (0, .ref (ad 14)), (1, .ref (ad o1)), (2, .int v2), (3, .int v3), (5, .ref (ad 2))]) rfl ?_
    refine g_lv [1, 2, 3, 4, 5, 0] rfl (hL56 _ _ _ ho1  FU _ _)
  unfold d_X4_play
  show GG p l e (headSpec wsX4_play rm_X4_play).room s m args below meth c D ad (shX ad cA) 37 9 (MQ below (QV D ad (shX ad cA) 37 s.heap.size R0) args s 0 0 (AX ad 37 s.heap.size)) R0 M 0 [(0, .ref (ad 14)), (1, .ref (ad o1)), (2, .int v2), (3, .int v3), (4, .ref (ad o4)), (5, .ref (ad 2))] [] _
  refine g_aload_n B dX4_play_0 0 rfl rfl ?_
  refine g_get (v := .ref (ad 15)) B shX_se (by decide) in_X4_play_X4 rfl 0 (by decide) (List.mem_of_getElem? (i := 1) rfl) rfl rfl dX4_play_1 ?_
  refine g_aload B dX4_play_4 4 rfl ?_
  refine g_callVVe (q := (RX0, TX0, 2)) (As := [.ref (ad o4)]) (st := []) B (k_X0_copyFrom l D cA ad B.2.2.2.2.2.2.1 15 co15 o4 ho4 M) (cwV 1 B.2.2.2.2.1 gX4_play_X0_copyFrom rfl rfl rfl (by decide +kernel) ⟨Nat.le_of_ble_eq_true rfl, Nat.le_of_ble_eq_true rfl⟩) (shX_co co15) (co_lt co15) rfl rfl rfl (Nat.le_of_ble_eq_true rfl) dX4_play_6 (fun M1 _ => ?_)
  refine g_aload_n B dX4_play_9 0 rfl rfl ?_
  refine g_bipush (v := -9) B dX4_play_10 (by decide) ?_
  refine g_put (ty := .int) B shX_se (by decide) in_X4_play_X4 tyX4_ok nmX4 rfl 1 (by decide) (List.mem_of_getElem? (i := 2) rfl) rfl rfl (by decide +kernel) rfl rfl (fun _ => Nat.le_of_ble_eq_true rfl) (fun _ _ => rfl) dX4_play_12 (g_lmM (fun M2 => ?_))
  refine g_aload_n B dX4_play_15 0 rfl rfl ?_
  refine g_iconst (v := 0) B dX4_play_16 (by decide) ?_
  refine g_put (ty := .int) B shX_se (by decide) in_X4_play_X4 tyX4_ok nmX4 rfl 2 (by decide) (List.mem_of_getElem? (i := 3) rfl) rfl rfl (by decide +kernel) rfl rfl (fun _ => Nat.le_of_ble_eq_true rfl) (fun _ _ => rfl) dX4_play_17 (g_lmM (fun M3 => ?_))
  refine g_aload_n B dX4_play_20 0 rfl rfl ?_
  refine g_aload_n B dX4_play_21 0 rfl rfl ?_
  refine g_get (v := .ref (ad 15)) B shX_se (by decide) in_X4_play_X4 rfl 0 (by decide) (List.mem_of_getElem? (i := 1) rfl) rfl rfl dX4_play_22 ?_
  refine g_aload B dX4_play_25 5 rfl ?_
  refine g_callVIp (q := (RX0, TX0, 2)) (As := [.ref (ad 2)]) (st := [.ref (ad 14)]) B (k_X0_allArrived l D cA ad B.2.2.2.2.2.2.1 15 co15 M3) (cwV 1 B.2.2.2.2.1 gX4_play_X0_allArrived rfl rfl rfl (by decide +kernel) ⟨Nat.le_of_ble_eq_true rfl, Nat.le_of_ble_eq_true rfl⟩) (shX_co co15) (co_lt co15) rfl rfl rfl (Nat.le_of_ble_eq_true rfl) dX4_play_27 (fun r4 _ => ?_)
  refine g_if_eq (tgt := 37) B dX4_play_30 (by decide) (fun c5 => ?_) (fun c5 => ?_)
  · refine g_bipush (v := -9) B dX4_play_37 (by decide) ?_
    exact g_lv [0, 1, 2, 3, 5] rfl (hJ39 _ _ _ _ _ ho1  )
  · refine g_iconst (v := 0) B dX4_play_33 (by decide) ?_
    refine g_goto (tgt := 39) B dX4_play_34 (by decide) ?_
    exact g_lv [0, 1, 2, 3, 5] rfl (hJ39 _ _ _ _ _ ho1  )

abbrev rm_X4_told : Room := { frames := 4, cells := 0, slots := 0, locals := 89 }
set_option maxHeartbeats 4000000 in
set_option maxRecDepth 100000 in
theorem k_X4_told (l : Launch) (D : va_G) (cA : Nat → ClassId) (ad : Nat → Nat) (had : adOK ad 37) (v1 : Int32) (M : Mem) : CI l yX4_told wsX4_told rm_X4_told D cA ad (shX ad cA) 37 [.ref (ad 14), .int v1, .ref (ad 2)] M (wM M (d_X4_told v1 M)) := by
  refine CI_ofp (own := RX4) (cc := cX4_told) (maxL := 3) (rt := .int) had (by decide) rfl rfl (Nat.le_of_ble_eq_true rfl) ?_
  intro p e s m args below meth c R0 B hr hk
  unfold d_X4_told
  show GG p l e (headSpec wsX4_told rm_X4_told).room s m args below meth c D ad (shX ad cA) 37 3 (MQ below (QI D ad (shX ad cA) 37 s.heap.size (R0, M)) args s 0 0 (AX ad 37 s.heap.size)) R0 M 0 [(0, .ref (ad 14)), (1, .int v1), (2, .ref (ad 2))] [] _
  refine g_iload_n B dX4_told_0 1 rfl rfl ?_
  refine g_iconst (v := 1) B dX4_told_1 (by decide) ?_
  refine g_icmp_ne (tgt := 10) B dX4_told_2 (by decide) (fun c1 => ?_) (fun c1 => ?_)
  · refine g_aload_n B dX4_told_5 0 rfl rfl ?_
    refine g_get (v := .int (M 14 1)) B shX_se (by decide) in_X4_told_X4 rfl 1 (by decide) (List.mem_of_getElem? (i := 1) rfl) rfl rfl dX4_told_6 ?_
    exact g_iretp B hr hk dX4_told_9
  · refine g_aload_n B dX4_told_10 0 rfl rfl ?_
    refine g_get (v := .int (M 14 1)) B shX_se (by decide) in_X4_told_X4 rfl 1 (by decide) (List.mem_of_getElem? (i := 1) rfl) rfl rfl dX4_told_11 ?_
    refine g_bipush (v := -9) B dX4_told_14 (by decide) ?_
    refine g_icmp_eq (tgt := 27) B dX4_told_16 (by decide) (fun c2 => ?_) (fun c2 => ?_)
    · refine g_iload_n B dX4_told_27 1 rfl rfl ?_
      refine g_if (fun c7 => ?_) (fun c7 => ?_)
      · refine g_tin (tgt := 64) (off := 36) (v := 0) B dX4_told_28 c7 (by decide) (by decide) rfl (by decide) ?_
        refine g_aload_n B dX4_told_64 0 rfl rfl ?_
        refine g_get (v := .ref (ad 15)) B shX_se (by decide) in_X4_told_X4 rfl 0 (by decide) (List.mem_of_getElem? (i := 2) rfl) rfl rfl dX4_told_65 ?_
        refine g_aload_n B dX4_told_68 2 rfl rfl ?_
        refine g_callVIp (q := (RX0, TX0, 2)) (As := [.ref (ad 2)]) (st := []) B (k_X0_countArrived l D cA ad B.2.2.2.2.2.2.1 15 co15 M) (cwV 1 B.2.2.2.2.1 gX4_told_X0_countArrived rfl rfl rfl (by decide +kernel) ⟨Nat.le_of_ble_eq_true rfl, Nat.le_of_ble_eq_true rfl⟩) (shX_co co15) (co_lt co15) rfl rfl rfl (Nat.le_of_ble_eq_true rfl) dX4_told_69 (fun r8 _ => ?_)
        exact g_iretp B hr hk dX4_told_72
      · refine g_if (fun c9 => ?_) (fun c9 => ?_)
        · refine g_tin (tgt := 99) (off := 71) (v := 1) B dX4_told_28 c9 (by decide) (by decide) rfl (by decide) ?_
          refine g_aload_n B dX4_told_99 0 rfl rfl ?_
          refine g_get (v := .ref (ad 15)) B shX_se (by decide) in_X4_told_X4 rfl 0 (by decide) (List.mem_of_getElem? (i := 2) rfl) rfl rfl dX4_told_100 ?_
          refine g_iload_n B dX4_told_103 1 rfl rfl ?_
          refine g_bipush (v := 10) B dX4_told_104 (by decide) ?_
          refine g_isub B dX4_told_106 ?_
          refine g_callVIp (q := (RX0, TX0, 2)) (As := [.int (v1 - (10 : Int32))]) (st := []) B (k_X0_has l D cA ad B.2.2.2.2.2.2.1 15 co15 (v1 - (10 : Int32)) M) (cwV 1 B.2.2.2.2.1 gX4_told_X0_has rfl rfl rfl (by decide +kernel) ⟨Nat.le_of_ble_eq_true rfl, Nat.le_of_ble_eq_true rfl⟩) (shX_co co15) (co_lt co15) rfl rfl rfl (Nat.le_of_ble_eq_true rfl) dX4_told_107 (fun r10 _ => ?_)
          refine g_if_eq (tgt := 131) B dX4_told_110 (by decide) (fun c11 => ?_) (fun c11 => ?_)
          · refine g_bipush (v := -9) B dX4_told_131 (by decide) ?_
            exact g_iretp B hr hk dX4_told_133
          · refine g_aload_n B dX4_told_113 0 rfl rfl ?_
            refine g_get (v := .ref (ad 15)) B shX_se (by decide) in_X4_told_X4 rfl 0 (by decide) (List.mem_of_getElem? (i := 2) rfl) rfl rfl dX4_told_114 ?_
            refine g_getN (v := .ref (ad (15 + 1))) B (shX_co co15) (co_lt co15) in_X4_told_X0 rfl 0 (by decide) 19 rfl rfl rfl dX4_told_117 ?_
            refine g_iload_n B dX4_told_120 1 rfl rfl ?_
            refine g_bipush (v := 10) B dX4_told_121 (by decide) ?_
            refine g_isub B dX4_told_123 ?_
            refine g_aald (g := (ft 15)) B 1 rfl (shX_fts co15) (fts_lt co15) dX4_told_124 (fun b12 => ?_)
            have f13 := (ft_ok co15 b12)
            refine g_getN (v := .int (M ((ft 15) (v1 - (10 : Int32)).toNatClampNeg) 4)) B (shX_ft f13) (ft_lt f13) in_X4_told_X2 rfl 4 (by decide) 13 rfl rfl rfl dX4_told_125 ?_
            refine g_goto (tgt := 133) B dX4_told_128 (by decide) ?_
            exact g_iretp B hr hk dX4_told_133
        · refine g_if (fun c14 => ?_) (fun c14 => ?_)
          · refine g_tin (tgt := 73) (off := 45) (v := 2) B dX4_told_28 c14 (by decide) (by decide) rfl (by decide) ?_
            refine g_aload_n B dX4_told_73 0 rfl rfl ?_
            refine g_get (v := .ref (ad 15)) B shX_se (by decide) in_X4_told_X4 rfl 0 (by decide) (List.mem_of_getElem? (i := 2) rfl) rfl rfl dX4_told_74 ?_
            refine g_callVIp (q := (RX0, TX0, 2)) (As := []) (st := []) B (k_X0_sitters l D cA ad B.2.2.2.2.2.2.1 15 co15 M) (cwV 0 B.2.2.2.2.1 gX4_told_X0_sitters rfl rfl rfl (by decide +kernel) ⟨Nat.le_of_ble_eq_true rfl, Nat.le_of_ble_eq_true rfl⟩) (shX_co co15) (co_lt co15) rfl rfl rfl (Nat.le_of_ble_eq_true rfl) dX4_told_77 (fun r15 _ => ?_)
            exact g_iretp B hr hk dX4_told_80
          · refine g_if (fun c16 => ?_) (fun c16 => ?_)
            · refine g_tin (tgt := 81) (off := 53) (v := 3) B dX4_told_28 c16 (by decide) (by decide) rfl (by decide) ?_
              refine g_aload_n B dX4_told_81 0 rfl rfl ?_
              refine g_get (v := .ref (ad 15)) B shX_se (by decide) in_X4_told_X4 rfl 0 (by decide) (List.mem_of_getElem? (i := 2) rfl) rfl rfl dX4_told_82 ?_
              refine g_callVIp (q := (RX0, TX0, 2)) (As := []) (st := []) B (k_X0_walkedTogether l D cA ad B.2.2.2.2.2.2.1 15 co15 M) (cwV 0 B.2.2.2.2.1 gX4_told_X0_walkedTogether rfl rfl rfl (by decide +kernel) ⟨Nat.le_of_ble_eq_true rfl, Nat.le_of_ble_eq_true rfl⟩) (shX_co co15) (co_lt co15) rfl rfl rfl (Nat.le_of_ble_eq_true rfl) dX4_told_85 (fun r17 _ => ?_)
              refine g_aload_n B dX4_told_88 0 rfl rfl ?_
              refine g_get (v := .int (M 14 4)) B shX_se (by decide) in_X4_told_X4 rfl 4 (by decide) (List.mem_of_getElem? (i := 3) rfl) rfl rfl dX4_told_89 ?_
              refine g_isub B dX4_told_92 ?_
              exact g_iretp B hr hk dX4_told_93
            · refine g_if (fun c18 => ?_) (fun c18 => ?_)
              · refine g_tin (tgt := 94) (off := 66) (v := 4) B dX4_told_28 c18 (by decide) (by decide) rfl (by decide) ?_
                refine g_aload_n B dX4_told_94 0 rfl rfl ?_
                refine g_get (v := .int (M 14 3)) B shX_se (by decide) in_X4_told_X4 rfl 3 (by decide) (List.mem_of_getElem? (i := 4) rfl) rfl rfl dX4_told_95 ?_
                exact g_iretp B hr hk dX4_told_98
              · refine g_tout (tgt := 99) B dX4_told_28 (sw_5 c7 c9 c14 c16 c18) (by decide) ?_
                refine g_aload_n B dX4_told_99 0 rfl rfl ?_
                refine g_get (v := .ref (ad 15)) B shX_se (by decide) in_X4_told_X4 rfl 0 (by decide) (List.mem_of_getElem? (i := 2) rfl) rfl rfl dX4_told_100 ?_
                refine g_iload_n B dX4_told_103 1 rfl rfl ?_
                refine g_bipush (v := 10) B dX4_told_104 (by decide) ?_
                refine g_isub B dX4_told_106 ?_
                refine g_callVIp (q := (RX0, TX0, 2)) (As := [.int (v1 - (10 : Int32))]) (st := []) B (k_X0_has l D cA ad B.2.2.2.2.2.2.1 15 co15 (v1 - (10 : Int32)) M) (cwV 1 B.2.2.2.2.1 gX4_told_X0_has rfl rfl rfl (by decide +kernel) ⟨Nat.le_of_ble_eq_true rfl, Nat.le_of_ble_eq_true rfl⟩) (shX_co co15) (co_lt co15) rfl rfl rfl (Nat.le_of_ble_eq_true rfl) dX4_told_107 (fun r3 _ => ?_)
                refine g_if_eq (tgt := 131) B dX4_told_110 (by decide) (fun c4 => ?_) (fun c4 => ?_)
                · refine g_bipush (v := -9) B dX4_told_131 (by decide) ?_
                  exact g_iretp B hr hk dX4_told_133
                · refine g_aload_n B dX4_told_113 0 rfl rfl ?_
                  refine g_get (v := .ref (ad 15)) B shX_se (by decide) in_X4_told_X4 rfl 0 (by decide) (List.mem_of_getElem? (i := 2) rfl) rfl rfl dX4_told_114 ?_
                  refine g_getN (v := .ref (ad (15 + 1))) B (shX_co co15) (co_lt co15) in_X4_told_X0 rfl 0 (by decide) 19 rfl rfl rfl dX4_told_117 ?_
                  refine g_iload_n B dX4_told_120 1 rfl rfl ?_
                  refine g_bipush (v := 10) B dX4_told_121 (by decide) ?_
                  refine g_isub B dX4_told_123 ?_
                  refine g_aald (g := (ft 15)) B 1 rfl (shX_fts co15) (fts_lt co15) dX4_told_124 (fun b5 => ?_)
                  have f6 := (ft_ok co15 b5)
                  refine g_getN (v := .int (M ((ft 15) (v1 - (10 : Int32)).toNatClampNeg) 4)) B (shX_ft f6) (ft_lt f6) in_X4_told_X2 rfl 4 (by decide) 13 rfl rfl rfl dX4_told_125 ?_
                  refine g_goto (tgt := 133) B dX4_told_128 (by decide) ?_
                  exact g_iretp B hr hk dX4_told_133
    · refine g_bipush (v := -100) B dX4_told_19 (by decide) ?_
      refine g_aload_n B dX4_told_21 0 rfl rfl ?_
      refine g_get (v := .int (M 14 1)) B shX_se (by decide) in_X4_told_X4 rfl 1 (by decide) (List.mem_of_getElem? (i := 1) rfl) rfl rfl dX4_told_22 ?_
      refine g_isub B dX4_told_25 ?_
      exact g_iretp B hr hk dX4_told_26

abbrev rm_X8_season : Room := { frames := 7, cells := 0, slots := 0, locals := 161 }
set_option maxHeartbeats 4000000 in
set_option maxRecDepth 100000 in
theorem k_X8_season (l : Launch) (D : va_G) (cA : Nat → ClassId) (ad : Nat → Nat) (had : adOK ad 37) (v1 : Int32) (v2 : Int32) (v3 : Int32) (v4 : Int32) (v5 : Int32) (M : Mem) : CI l yX8_season wsX8_season rm_X8_season D cA ad (shX ad cA) 37 [.ref (ad 0), .int v1, .int v2, .int v3, .int v4, .int v5] M (d_X8_season v1 v2 v3 v4 v5 M) := by
  refine CI_of (own := RX8) (cc := cX8_season) (maxL := 9) (rt := .int) had (by decide) rfl rfl (Nat.le_of_ble_eq_true rfl) ?_
  intro p e s m args below meth c R0 B hr hk
  unfold d_X8_season
  show GG p l e (headSpec wsX8_season rm_X8_season).room s m args below meth c D ad (shX ad cA) 37 9 (MQ below (QI D ad (shX ad cA) 37 s.heap.size R0) args s 0 0 (AX ad 37 s.heap.size)) R0 M 0 [(0, .ref (ad 0)), (1, .int v1), (2, .int v2), (3, .int v3), (4, .int v4), (5, .int v5)] [] _
  refine g_aload_n B dX8_season_0 0 rfl rfl ?_
  refine g_iconst (v := 0) B dX8_season_1 (by decide) ?_
  refine g_put (ty := .int) B shX_pw (by decide) in_X8_season_X8 tyX8_ok nmX8 rfl 8 (by decide) (List.mem_of_getElem? (i := 1) rfl) rfl rfl (by decide +kernel) rfl rfl (fun _ => Nat.le_of_ble_eq_true rfl) (fun _ _ => rfl) dX8_season_2 (g_lmM (fun M1 => ?_))
  refine g_iload_n B dX8_season_5 1 rfl rfl ?_
  refine g_callSIp (As := [.int v1]) (st := []) B (k_X8_isSheet l D cA ad B.2.2.2.2.2.2.1 v1 M1) (va_cwS 1 B.2.2.2.2.1 gX8_season_X8_isSheet rfl rfl rfl (by decide +kernel) ⟨Nat.le_of_ble_eq_true rfl, Nat.le_of_ble_eq_true rfl⟩) rfl rfl (Nat.le_of_ble_eq_true rfl) dX8_season_6 (fun r2 _ => ?_)
  refine g_if_ne (tgt := 14) B dX8_season_9 (by decide) (fun c3 => ?_) (fun c3 => ?_)
  · refine g_iconst (v := -1) B dX8_season_12 (by decide) ?_
    exact g_iret B hr hk dX8_season_13
  · refine g_iload_n B dX8_season_14 2 rfl rfl ?_
    refine g_callSIp (As := [.int v2]) (st := []) B (k_X8_isLane l D cA ad B.2.2.2.2.2.2.1 v2 M1) (va_cwS 1 B.2.2.2.2.1 gX8_season_X8_isLane rfl rfl rfl (by decide +kernel) ⟨Nat.le_of_ble_eq_true rfl, Nat.le_of_ble_eq_true rfl⟩) rfl rfl (Nat.le_of_ble_eq_true rfl) dX8_season_15 (fun r4 _ => ?_)
    refine g_if_eq (tgt := 41) B dX8_season_18 (by decide) (fun c5 => ?_) (fun c5 => ?_)
    · refine g_bipush (v := -2) B dX8_season_41 (by decide) ?_
      exact g_iret B hr hk dX8_season_43
    · refine g_iload B dX8_season_21 4 rfl ?_
      refine g_if_lt (tgt := 41) B dX8_season_23 (by decide) (fun c6 => ?_) (fun c6 => ?_)
      · refine g_bipush (v := -2) B dX8_season_41 (by decide) ?_
        exact g_iret B hr hk dX8_season_43
      · refine g_iload B dX8_season_26 4 rfl ?_
        refine g_bipush (v := 20) B dX8_season_28 (by decide) ?_
        refine g_icmp_gt (tgt := 41) B dX8_season_30 (by decide) (fun c7 => ?_) (fun c7 => ?_)
        · refine g_bipush (v := -2) B dX8_season_41 (by decide) ?_
          exact g_iret B hr hk dX8_season_43
        · refine g_iload B dX8_season_33 5 rfl ?_
          refine g_callSIp (As := [.int v5]) (st := []) B (k_X4_canTell l D cA ad B.2.2.2.2.2.2.1 v5 M1) (va_cwS 1 B.2.2.2.2.1 gX8_season_X4_canTell rfl rfl rfl (by decide +kernel) ⟨Nat.le_of_ble_eq_true rfl, Nat.le_of_ble_eq_true rfl⟩) rfl rfl (Nat.le_of_ble_eq_true rfl) dX8_season_35 (fun r8 _ => ?_)
          refine g_if_ne (tgt := 44) B dX8_season_38 (by decide) (fun c9 => ?_) (fun c9 => ?_)
          · refine g_bipush (v := -2) B dX8_season_41 (by decide) ?_
            exact g_iret B hr hk dX8_season_43
          · refine g_aload_n B dX8_season_44 0 rfl rfl ?_
            refine g_callVIp (q := (RX8, TX8, 9)) (As := []) (st := []) B (k_X8_hasTown l D cA ad B.2.2.2.2.2.2.1  M1) (cwV 0 B.2.2.2.2.1 gX8_season_X8_hasTown rfl rfl rfl (by decide +kernel) ⟨Nat.le_of_ble_eq_true rfl, Nat.le_of_ble_eq_true rfl⟩) shX_pw (by decide) rfl rfl rfl (Nat.le_of_ble_eq_true rfl) dX8_season_45 (fun r10 _ => ?_)
            refine g_if_ne (tgt := 54) B dX8_season_48 (by decide) (fun c11 => ?_) (fun c11 => ?_)
            · refine g_bipush (v := -3) B dX8_season_51 (by decide) ?_
              exact g_iret B hr hk dX8_season_53
            · refine g_aload_n B dX8_season_54 0 rfl rfl ?_
              refine g_get (v := .ref (ad 1)) B shX_pw (by decide) in_X8_season_X8 rfl 0 (by decide) (List.mem_of_getElem? (i := 2) rfl) rfl rfl dX8_season_55 ?_
              refine g_iload_n B dX8_season_58 1 rfl rfl ?_
              refine g_aald (g := shd) B 2 rfl shX_shs (by decide) dX8_season_59 (fun b12 => ?_)
              have f13 := (shd_ok b12)
              refine g_astore B dX8_season_60 (by decide) (lv1 := [(6, .ref (ad (shd v1.toNatClampNeg))), (0, .ref (ad 0)), (1, .int v1), (2, .int v2), (3, .int v3), (4, .int v4), (5, .int v5)]) rfl ?_
              refine g_aload B dX8_season_62 0 rfl ?_
              refine g_iload_n B dX8_season_64 3 rfl rfl ?_
              refine g_iload_n B dX8_season_65 4 rfl rfl ?_
              refine g_iconst (v := 2) B dX8_season_66 (by decide) ?_
              refine g_iload B dX8_season_67 5 rfl ?_
              refine g_imul B dX8_season_69 ?_
              refine g_callVIp (q := (RX5, TX5, 3)) (As := [.int v2, .int v3, .int ((2 : Int32) * v4)]) (st := []) B (k_X5_faultAsRow l D cA ad B.2.2.2.2.2.2.1 (shd v1.toNatClampNeg) f13 v2 v3 ((2 : Int32) * v4) M1) (cwV 3 B.2.2.2.2.1 gX8_season_X5_faultAsRow rfl rfl rfl (by decide +kernel) ⟨Nat.le_of_ble_eq_true rfl, Nat.le_of_ble_eq_true rfl⟩) (shX_sh f13) (sh_lt f13) rfl rfl rfl (Nat.le_of_ble_eq_true rfl) dX8_season_70 (fun r14 _ => ?_)
              refine g_istore B dX8_season_73 (by decide) (lv1 := [(7, .int r14), (6, .ref (ad (shd v1.toNatClampNeg))), (0, .ref (ad 0)), (1, .int v1), (2, .int v2), (3, .int v3), (4, .int v4), (5, .int v5)]) rfl ?_
              refine g_iload B dX8_season_75 0 rfl ?_
              refine g_if_eq (tgt := 87) B dX8_season_77 (by decide) (fun c15 => ?_) (fun c15 => ?_)
              · refine g_aload B dX8_season_87 1 rfl ?_
                refine g_iload_n B dX8_season_89 5 rfl rfl ?_
                refine g_iload B dX8_season_90 6 rfl ?_
                refine g_aload_n B dX8_season_92 2 rfl rfl ?_
                refine g_get (v := .ref (ad 6)) B shX_pw (by decide) in_X8_season_X8 rfl 2 (by decide) (List.mem_of_getElem? (i := 3) rfl) rfl rfl dX8_season_93 ?_
                refine g_callSIp (As := [.ref (ad (shd v1.toNatClampNeg)), .int v3, .int v4, .ref (ad 6)]) (st := []) B (k_X4_refusal l D cA ad B.2.2.2.2.2.2.1 (shd v1.toNatClampNeg) f13 v3 v4 6 co6 M1) (va_cwS 4 B.2.2.2.2.1 gX8_season_X4_refusal rfl rfl rfl (by decide +kernel) ⟨Nat.le_of_ble_eq_true rfl, Nat.le_of_ble_eq_true rfl⟩) rfl rfl (Nat.le_of_ble_eq_true rfl) dX8_season_96 (fun r16 _ => ?_)
                refine g_istore B dX8_season_99 (by decide) (lv1 := [(8, .int r16), (7, .int r14), (6, .ref (ad (shd v1.toNatClampNeg))), (0, .ref (ad 0)), (1, .int v1), (2, .int v2), (3, .int v3), (4, .int v4), (5, .int v5)]) rfl ?_
                refine g_iload B dX8_season_101 0 rfl ?_
                refine g_if_eq (tgt := 109) B dX8_season_103 (by decide) (fun c17 => ?_) (fun c17 => ?_)
                · refine g_aload_n B dX8_season_109 3 rfl rfl ?_
                  refine g_get (v := .ref (ad 14)) B shX_pw (by decide) in_X8_season_X8 rfl 3 (by decide) (List.mem_of_getElem? (i := 4) rfl) rfl rfl dX8_season_110 ?_
                  refine g_aload B dX8_season_113 2 rfl ?_
                  refine g_iload_n B dX8_season_115 6 rfl rfl ?_
                  refine g_iload B dX8_season_116 7 rfl ?_
                  refine g_aload_n B dX8_season_118 3 rfl rfl ?_
                  refine g_get (v := .ref (ad 6)) B shX_pw (by decide) in_X8_season_X8 rfl 2 (by decide) (List.mem_of_getElem? (i := 3) rfl) rfl rfl dX8_season_119 ?_
                  refine g_aload_n B dX8_season_122 3 rfl rfl ?_
                  refine g_get (v := .ref (ad 2)) B shX_pw (by decide) in_X8_season_X8 rfl 1 (by decide) (List.mem_of_getElem? (i := 5) rfl) rfl rfl dX8_season_123 ?_
                  refine g_callVVe (q := (RX4, TX4, 5)) (As := [.ref (ad (shd v1.toNatClampNeg)), .int v3, .int v4, .ref (ad 6), .ref (ad 2)]) (st := []) B (k_X4_play l D cA ad B.2.2.2.2.2.2.1 (shd v1.toNatClampNeg) f13 v3 v4 6 co6 M1) (cwV 5 B.2.2.2.2.1 gX8_season_X4_play rfl rfl rfl (by decide +kernel) ⟨Nat.le_of_ble_eq_true rfl, Nat.le_of_ble_eq_true rfl⟩) shX_se (by decide) rfl rfl rfl (Nat.le_of_ble_eq_true rfl) dX8_season_126 (fun M18 _ => ?_)
                  refine g_aload_n B dX8_season_129 3 rfl rfl ?_
                  refine g_get (v := .ref (ad 14)) B shX_pw (by decide) in_X8_season_X8 rfl 3 (by decide) (List.mem_of_getElem? (i := 4) rfl) rfl rfl dX8_season_130 ?_
                  refine g_iload B dX8_season_133 8 rfl ?_
                  refine g_aload_n B dX8_season_135 3 rfl rfl ?_
                  refine g_get (v := .ref (ad 2)) B shX_pw (by decide) in_X8_season_X8 rfl 1 (by decide) (List.mem_of_getElem? (i := 5) rfl) rfl rfl dX8_season_136 ?_
                  refine g_callVIp (q := (RX4, TX4, 5)) (As := [.int v5, .ref (ad 2)]) (st := []) B (k_X4_told l D cA ad B.2.2.2.2.2.2.1 v5 M18) (cwV 2 B.2.2.2.2.1 gX8_season_X4_told rfl rfl rfl (by decide +kernel) ⟨Nat.le_of_ble_eq_true rfl, Nat.le_of_ble_eq_true rfl⟩) shX_se (by decide) rfl rfl rfl (Nat.le_of_ble_eq_true rfl) dX8_season_139 (fun r19 _ => ?_)
                  exact g_iret B hr hk dX8_season_142
                · refine g_iload B dX8_season_106 0 rfl ?_
                  exact g_iret B hr hk dX8_season_108
              · refine g_aload_n B dX8_season_80 2 rfl rfl ?_
                refine g_iload B dX8_season_81 0 rfl ?_
                refine g_callVIe (q := (RX8, TX8, 9)) (As := [.int r14]) (st := []) B (k_X8_faulted l D cA ad B.2.2.2.2.2.2.1 r14 M1) (cwV 1 B.2.2.2.2.1 gX8_season_X8_faulted rfl rfl rfl (by decide +kernel) ⟨Nat.le_of_ble_eq_true rfl, Nat.le_of_ble_eq_true rfl⟩) shX_pw (by decide) rfl rfl rfl (Nat.le_of_ble_eq_true rfl) dX8_season_83 (fun r20 M21 _ => ?_)
                exact g_iret B hr hk dX8_season_86
