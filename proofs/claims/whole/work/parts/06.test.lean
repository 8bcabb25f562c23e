abbrev rm_X5_at : Room := { frames := 0, cells := 0, slots := 0, locals := 0 }
set_option maxHeartbeats 4000000 in
set_option maxRecDepth 100000 in
theorem k_X5_at (l : Launch) (D : va_G) (cA : Nat → ClassId) (ad : Nat → Nat) (had : adOK ad 37) (o0 : Nat) (ho0 : isSh o0) (v1 : Int32) (M : Mem) : CI l yX5_at wsX5_at rm_X5_at D cA ad (shX ad cA) 37 [.ref (ad o0), .int v1] M (wM M (d_X5_at o0 v1 M)) := by
  refine CI_ofp (cc := cX5_at) (maxL := 2) (rt := .int) had (by decide) rfl rfl (Nat.le_of_ble_eq_true rfl) ?_
  intro p e s m args below meth c R0 B hr hk
  unfold d_X5_at
  show GG p l e (headSpec wsX5_at rm_X5_at).room s m args below meth c D ad (shX ad cA) 37 2 (MQ below (QI D ad (shX ad cA) 37 s.heap.size (R0, M)) args s 0 0 (AX ad 37 s.heap.size)) R0 M 0 [(0, .ref (ad o0)), (1, .int v1)] [] _
  refine g_iload_n B dX5_at_0 1 rfl rfl ?_
  refine g_if_lt (tgt := 21) B dX5_at_1 (by decide) (fun c1 => ?_) (fun c1 => ?_)
  · refine g_iconst (v := 0) B dX5_at_21 (by decide) ?_
    exact g_iretp B hr hk dX5_at_22
  · refine g_iload_n B dX5_at_4 1 rfl rfl ?_
    refine g_aload_n B dX5_at_5 0 rfl rfl ?_
    refine g_get (v := .int (M o0 2)) B (shX_sh ho0) (sh_lt ho0) in_X5_at_X5 rfl 2 (by decide) (List.mem_of_getElem? (i := 1) rfl) rfl rfl dX5_at_6 ?_
    refine g_icmp_ge (tgt := 21) B dX5_at_9 (by decide) (fun c2 => ?_) (fun c2 => ?_)
    · refine g_iconst (v := 0) B dX5_at_21 (by decide) ?_
      exact g_iretp B hr hk dX5_at_22
    · refine g_aload_n B dX5_at_12 0 rfl rfl ?_
      refine g_get (v := .ref (ad (o0 + 1))) B (shX_sh ho0) (sh_lt ho0) in_X5_at_X5 rfl 0 (by decide) (List.mem_of_getElem? (i := 2) rfl) rfl rfl dX5_at_13 ?_
      refine g_iload_n B dX5_at_16 1 rfl rfl ?_
      refine g_iald B (shX_ce ho0) (ce_lt ho0) dX5_at_17 ?_
      refine g_goto (tgt := 22) B dX5_at_18 (by decide) ?_
      exact g_iretp B hr hk dX5_at_22

abbrev rm_X6_has : Room := { frames := 0, cells := 0, slots := 0, locals := 0 }
set_option maxHeartbeats 4000000 in
set_option maxRecDepth 100000 in
theorem k_X6_has (l : Launch) (D : va_G) (cA : Nat → ClassId) (ad : Nat → Nat) (had : adOK ad 37) (v1 : Int32) (M : Mem) : CI l yX6_has wsX6_has rm_X6_has D cA ad (shX ad cA) 37 [.ref (ad 2), .int v1] M (wM M (d_X6_has v1 M)) := by
  refine CI_ofp (cc := cX6_has) (maxL := 2) (rt := .boolean) had (by decide) rfl rfl (Nat.le_of_ble_eq_true rfl) ?_
  intro p e s m args below meth c R0 B hr hk
  unfold d_X6_has
  show GG p l e (headSpec wsX6_has rm_X6_has).room s m args below meth c D ad (shX ad cA) 37 2 (MQ below (QI D ad (shX ad cA) 37 s.heap.size (R0, M)) args s 0 0 (AX ad 37 s.heap.size)) R0 M 0 [(0, .ref (ad 2)), (1, .int v1)] [] _
  refine g_iload_n B dX6_has_0 1 rfl rfl ?_
  refine g_if_lt (tgt := 16) B dX6_has_1 (by decide) (fun c1 => ?_) (fun c1 => ?_)
  · refine g_iconst (v := 0) B dX6_has_16 (by decide) ?_
    exact g_zretp B hr hk rfl dX6_has_17
  · refine g_iload_n B dX6_has_4 1 rfl rfl ?_
    refine g_aload_n B dX6_has_5 0 rfl rfl ?_
    refine g_get (v := .int (M 2 3)) B shX_st (by decide) in_X6_has_X6 rfl 3 (by decide) (List.mem_of_getElem? (i := 1) rfl) rfl rfl dX6_has_6 ?_
    refine g_icmp_ge (tgt := 16) B dX6_has_9 (by decide) (fun c2 => ?_) (fun c2 => ?_)
    · refine g_iconst (v := 0) B dX6_has_16 (by decide) ?_
      exact g_zretp B hr hk rfl dX6_has_17
    · refine g_iconst (v := 1) B dX6_has_12 (by decide) ?_
      refine g_goto (tgt := 17) B dX6_has_13 (by decide) ?_
      exact g_zretp B hr hk rfl dX6_has_17

abbrev rm_X8_paceOf : Room := { frames := 0, cells := 0, slots := 0, locals := 0 }
set_option maxHeartbeats 4000000 in
set_option maxRecDepth 100000 in
theorem k_X8_paceOf (l : Launch) (D : va_G) (cA : Nat → ClassId) (ad : Nat → Nat) (had : adOK ad 37) (v0 : Int32) (v1 : Int32) (M : Mem) : CI l yX8_paceOf wsX8_paceOf rm_X8_paceOf D cA ad (shX ad cA) 37 [.int v0, .int v1] M (wM M (d_X8_paceOf v0 v1 M)) := by
  refine CI_ofp (cc := cX8_paceOf) (maxL := 2) (rt := .int) had (by decide) rfl rfl (Nat.le_of_ble_eq_true rfl) ?_
  intro p e s m args below meth c R0 B hr hk
  unfold d_X8_paceOf
  show GG p l e (headSpec wsX8_paceOf rm_X8_paceOf).room s m args below meth c D ad (shX ad cA) 37 2 (MQ below (QI D ad (shX ad cA) 37 s.heap.size (R0, M)) args s 0 0 (AX ad 37 s.heap.size)) R0 M 0 [(0, .int v0), (1, .int v1)] [] _
  refine g_iload_n B dX8_paceOf_0 0 rfl rfl ?_
  refine g_if (fun c1 => ?_) (fun c1 => ?_)
  · refine g_look (tgt := 28) B dX8_paceOf_1 (by decide) (by rw [c1]; rfl) (by decide) ?_
    refine g_iload_n B dX8_paceOf_28 1 rfl rfl ?_
    exact g_iretp B hr hk dX8_paceOf_29
  · refine g_if (fun c2 => ?_) (fun c2 => ?_)
    · refine g_look (tgt := 30) B dX8_paceOf_1 (by decide) (by rw [c2]; rfl) (by decide) ?_
      refine g_iload_n B dX8_paceOf_30 1 rfl rfl ?_
      refine g_iconst (v := 1) B dX8_paceOf_31 (by decide) ?_
      refine g_iadd B dX8_paceOf_32 ?_
      exact g_iretp B hr hk dX8_paceOf_33
    · refine g_look (tgt := 34) B dX8_paceOf_1 (by decide) (lk_no (v := 0) c1 (by decide) (lk_no (v := 1) c2 (by decide) rfl)) (by decide) ?_
      refine g_iload_n B dX8_paceOf_34 1 rfl rfl ?_
      refine g_iconst (v := 1) B dX8_paceOf_35 (by decide) ?_
      refine g_iadd B dX8_paceOf_36 ?_
      refine g_iconst (v := 2) B dX8_paceOf_37 (by decide) ?_
      refine g_idiv B dX8_paceOf_38 ?_
      exact g_iretp B hr hk dX8_paceOf_39

abbrev rm_X2_pace : Room := { frames := 1, cells := 0, slots := 0, locals := 21 }
set_option maxHeartbeats 4000000 in
set_option maxRecDepth 100000 in
theorem k_X2_pace (l : Launch) (D : va_G) (cA : Nat → ClassId) (ad : Nat → Nat) (had : adOK ad 37) (o0 : Nat) (ho0 : isFt o0) (M : Mem) : CI l yX2_pace wsX2_pace rm_X2_pace D cA ad (shX ad cA) 37 [.ref (ad o0)] M (wM M (d_X2_pace o0 M)) := by
  refine CI_ofp (cc := cX2_pace) (maxL := 1) (rt := .int) had (by decide) rfl rfl (Nat.le_of_ble_eq_true rfl) ?_
  intro p e s m args below meth c R0 B hr hk
  unfold d_X2_pace
  show GG p l e (headSpec wsX2_pace rm_X2_pace).room s m args below meth c D ad (shX ad cA) 37 1 (MQ below (QI D ad (shX ad cA) 37 s.heap.size (R0, M)) args s 0 0 (AX ad 37 s.heap.size)) R0 M 0 [(0, .ref (ad o0))] [] _
  refine g_aload_n B dX2_pace_0 0 rfl rfl ?_
  refine g_get (v := .int (M o0 0)) B (shX_ft ho0) (ft_lt ho0) in_X2_pace_X2 rfl 0 (by decide) (List.mem_of_getElem? (i := 1) rfl) rfl rfl dX2_pace_1 ?_
  refine g_aload_n B dX2_pace_4 0 rfl rfl ?_
  refine g_get (v := .int (M o0 3)) B (shX_ft ho0) (ft_lt ho0) in_X2_pace_X2 rfl 3 (by decide) (List.mem_of_getElem? (i := 2) rfl) rfl rfl dX2_pace_5 ?_
  refine g_callSNIp (As := [.int (M o0 0), .int (M o0 3)]) (st := []) B (k_X8_paceOf l D cA ad B.2.2.2.2.2.2.1 (M o0 0) (M o0 3) M) ⟨va_cnB (host := "PromiseWalk") 2 B.2.2.2.2.1 gX2_pace_X8_paceOf_n31 rfl rfl rfl (B.2.2.2.2.2.2.2.m 6 rfl) (B.2.2.2.2.1 _ (List.mem_of_getElem? (i := 4) rfl)) (by decide +kernel) ⟨Nat.le_of_ble_eq_true rfl, Nat.le_of_ble_eq_true rfl⟩, B.2.2.2.2.1 _ (List.mem_of_getElem? (i := 3) rfl), trivial⟩ rfl rfl (Nat.le_of_ble_eq_true rfl) dX2_pace_8 (fun r1 _ => ?_)
  exact g_iretp B hr hk dX2_pace_11

abbrev rm_X6_distance : Room := { frames := 1, cells := 0, slots := 0, locals := 21 }
set_option maxHeartbeats 4000000 in
set_option maxRecDepth 100000 in
theorem k_X6_distance (l : Launch) (D : va_G) (cA : Nat → ClassId) (ad : Nat → Nat) (had : adOK ad 37) (v1 : Int32) (v2 : Int32) (M : Mem) : CI l yX6_distance wsX6_distance rm_X6_distance D cA ad (shX ad cA) 37 [.ref (ad 2), .int v1, .int v2] M (wM M (d_X6_distance v1 v2 M)) := by
  refine CI_ofp (cc := cX6_distance) (maxL := 4) (rt := .int) had (by decide) rfl rfl (Nat.le_of_ble_eq_true rfl) ?_
  intro p e s m args below meth c R0 B hr hk
  unfold d_X6_distance
  show GG p l e (headSpec wsX6_distance rm_X6_distance).room s m args below meth c D ad (shX ad cA) 37 4 (MQ below (QI D ad (shX ad cA) 37 s.heap.size (R0, M)) args s 0 0 (AX ad 37 s.heap.size)) R0 M 0 [(0, .ref (ad 2)), (1, .int v1), (2, .int v2)] [] _
  refine g_aload_n B dX6_distance_0 0 rfl rfl ?_
  refine g_iload_n B dX6_distance_1 1 rfl rfl ?_
  refine g_callVIp (As := [.int v1]) (st := []) B (k_X6_has l D cA ad B.2.2.2.2.2.2.1 v1 M) (cwV 1 B.2.2.2.2.1 gX6_distance_X6_has rfl rfl rfl (by decide +kernel) ⟨Nat.le_of_ble_eq_true rfl, Nat.le_of_ble_eq_true rfl⟩) shX_st (by decide) rfl rfl rfl (Nat.le_of_ble_eq_true rfl) dX6_distance_2 (fun r1 _ => ?_)
  refine g_if_eq (tgt := 16) B dX6_distance_5 (by decide) (fun c2 => ?_) (fun c2 => ?_)
  · refine g_bipush (v := -9) B dX6_distance_16 (by decide) ?_
    exact g_iretp B hr hk dX6_distance_18
  · refine g_aload_n B dX6_distance_8 0 rfl rfl ?_
    refine g_iload_n B dX6_distance_9 2 rfl rfl ?_
    refine g_callVIp (As := [.int v2]) (st := []) B (k_X6_has l D cA ad B.2.2.2.2.2.2.1 v2 M) (cwV 1 B.2.2.2.2.1 gX6_distance_X6_has rfl rfl rfl (by decide +kernel) ⟨Nat.le_of_ble_eq_true rfl, Nat.le_of_ble_eq_true rfl⟩) shX_st (by decide) rfl rfl rfl (Nat.le_of_ble_eq_true rfl) dX6_distance_10 (fun r3 _ => ?_)
    refine g_if_ne (tgt := 19) B dX6_distance_13 (by decide) (fun c4 => ?_) (fun c4 => ?_)
    · refine g_bipush (v := -9) B dX6_distance_16 (by decide) ?_
      exact g_iretp B hr hk dX6_distance_18
    · refine g_aload_n B dX6_distance_19 0 rfl rfl ?_
      refine g_get (v := .ref (ad 4)) B shX_st (by decide) in_X6_distance_X6 rfl 1 (by decide) (List.mem_of_getElem? (i := 1) rfl) rfl rfl dX6_distance_20 ?_
      refine g_iload_n B dX6_distance_23 1 rfl rfl ?_
      refine g_bipush (v := 6) B dX6_distance_24 (by decide) ?_
      refine g_imul B dX6_distance_26 ?_
      refine g_iload_n B dX6_distance_27 2 rfl rfl ?_
      refine g_iadd B dX6_distance_28 ?_
      refine g_iald B shX_4 (by decide) dX6_distance_29 ?_
      refine g_lmI (fun x5 => ?_)
      refine g_istore_n B dX6_distance_30 rfl (by decide) (lv1 := [(3, .int x5), (0, .ref (ad 2)), (1, .int v1), (2, .int v2)]) rfl ?_
      refine g_iload_n B dX6_distance_31 0 rfl rfl ?_
      refine g_ldc (v := 1000000) B dX6_distance_32 (List.mem_of_getElem? (i := 2) rfl) ?_
      refine g_icmp_ge (tgt := 41) B dX6_distance_34 (by decide) (fun c6 => ?_) (fun c6 => ?_)
      · refine g_bipush (v := -9) B dX6_distance_41 (by decide) ?_
        exact g_iretp B hr hk dX6_distance_43
      · refine g_iload_n B dX6_distance_37 0 rfl rfl ?_
        refine g_goto (tgt := 43) B dX6_distance_38 (by decide) ?_
        exact g_iretp B hr hk dX6_distance_43

abbrev rm_X2_hasArrived : Room := { frames := 2, cells := 0, slots := 0, locals := 44 }
set_option maxHeartbeats 4000000 in
set_option maxRecDepth 100000 in
theorem k_X2_hasArrived (l : Launch) (D : va_G) (cA : Nat → ClassId) (ad : Nat → Nat) (had : adOK ad 37) (o0 : Nat) (ho0 : isFt o0) (M : Mem) : CI l yX2_hasArrived wsX2_hasArrived rm_X2_hasArrived D cA ad (shX ad cA) 37 [.ref (ad o0), .ref (ad 2)] M (wM M (d_X2_hasArrived o0 M)) := by
  refine CI_ofp (cc := cX2_hasArrived) (maxL := 3) (rt := .boolean) had (by decide) rfl rfl (Nat.le_of_ble_eq_true rfl) ?_
  intro p e s m args below meth c R0 B hr hk
  unfold d_X2_hasArrived
  show GG p l e (headSpec wsX2_hasArrived rm_X2_hasArrived).room s m args below meth c D ad (shX ad cA) 37 3 (MQ below (QI D ad (shX ad cA) 37 s.heap.size (R0, M)) args s 0 0 (AX ad 37 s.heap.size)) R0 M 0 [(0, .ref (ad o0)), (1, .ref (ad 2))] [] _
  refine g_aload_n B dX2_hasArrived_0 1 rfl rfl ?_
  refine g_aload_n B dX2_hasArrived_1 0 rfl rfl ?_
  refine g_get (v := .int (M o0 1)) B (shX_ft ho0) (ft_lt ho0) in_X2_hasArrived_X2 rfl 1 (by decide) (List.mem_of_getElem? (i := 1) rfl) rfl rfl dX2_hasArrived_2 ?_
  refine g_aload_n B dX2_hasArrived_5 0 rfl rfl ?_
  refine g_get (v := .int (M o0 2)) B (shX_ft ho0) (ft_lt ho0) in_X2_hasArrived_X2 rfl 2 (by decide) (List.mem_of_getElem? (i := 2) rfl) rfl rfl dX2_hasArrived_6 ?_
  refine g_callVIp (As := [.int (M o0 1), .int (M o0 2)]) (st := []) B (k_X6_distance l D cA ad B.2.2.2.2.2.2.1 (M o0 1) (M o0 2) M) (cwV 2 B.2.2.2.2.1 gX2_hasArrived_X6_distance rfl rfl rfl (by decide +kernel) ⟨Nat.le_of_ble_eq_true rfl, Nat.le_of_ble_eq_true rfl⟩) shX_st (by decide) rfl rfl rfl (Nat.le_of_ble_eq_true rfl) dX2_hasArrived_9 (fun r1 _ => ?_)
  refine g_istore_n B dX2_hasArrived_12 rfl (by decide) (lv1 := [(2, .int r1), (0, .ref (ad o0)), (1, .ref (ad 2))]) rfl ?_
  refine g_iload_n B dX2_hasArrived_13 0 rfl rfl ?_
  refine g_bipush (v := -9) B dX2_hasArrived_14 (by decide) ?_
  refine g_icmp_eq (tgt := 31) B dX2_hasArrived_16 (by decide) (fun c2 => ?_) (fun c2 => ?_)
  · refine g_iconst (v := 0) B dX2_hasArrived_31 (by decide) ?_
    exact g_zretp B hr hk rfl dX2_hasArrived_32
  · refine g_aload_n B dX2_hasArrived_19 1 rfl rfl ?_
    refine g_get (v := .int (M o0 4)) B (shX_ft ho0) (ft_lt ho0) in_X2_hasArrived_X2 rfl 4 (by decide) (List.mem_of_getElem? (i := 3) rfl) rfl rfl dX2_hasArrived_20 ?_
    refine g_iload_n B dX2_hasArrived_23 0 rfl rfl ?_
    refine g_icmp_lt (tgt := 31) B dX2_hasArrived_24 (by decide) (fun c3 => ?_) (fun c3 => ?_)
    · refine g_iconst (v := 0) B dX2_hasArrived_31 (by decide) ?_
      exact g_zretp B hr hk rfl dX2_hasArrived_32
    · refine g_iconst (v := 1) B dX2_hasArrived_27 (by decide) ?_
      refine g_goto (tgt := 32) B dX2_hasArrived_28 (by decide) ?_
      exact g_zretp B hr hk rfl dX2_hasArrived_32

abbrev rm_X0_countArrived : Room := { frames := 3, cells := 0, slots := 0, locals := 66 }
set_option maxHeartbeats 4000000 in
set_option maxRecDepth 100000 in
theorem k_X0_countArrived (l : Launch) (D : va_G) (cA : Nat → ClassId) (ad : Nat → Nat) (had : adOK ad 37) (o0 : Nat) (ho0 : isCo o0) (M : Mem) : CI l yX0_countArrived wsX0_countArrived rm_X0_countArrived D cA ad (shX ad cA) 37 [.ref (ad o0), .ref (ad 2)] M (wM M (d_X0_countArrived o0 M)) := by
  refine CI_ofp (cc := cX0_countArrived) (maxL := 4) (rt := .int) had (by decide) rfl rfl (Nat.le_of_ble_eq_true rfl) ?_
  intro p e s m args below meth c R0 B hr hk
  have hL4 : ∀ (o0 : Nat)   (ho0 : isCo o0) , ∀ (f : Nat) (v2 : Int32) (v3 : Int32), GG p l e (headSpec wsX0_countArrived rm_X0_countArrived).room s m args below meth c D ad (shX ad cA) 37 4 (MQ below (QI D ad (shX ad cA) 37 s.heap.size (R0, M)) args s 0 0 (AX ad 37 s.heap.size)) R0 M 4 [(0, .ref (ad o0)), (1, .ref (ad 2)), (2, .int v2), (3, .int v3)] [] (dX0_countArrived_4l o0 M  f v2 v3 ) := by
    intro o0 ho0
    intro f
    induction f with
    | zero =>
      intro v2 v3
      exact g_none
    | succ f ih =>
      intro v2 v3
      rw [dX0_countArrived_4l]
      refine g_iload_n B dX0_countArrived_4 3 rfl rfl ?_
      refine g_aload_n B dX0_countArrived_5 0 rfl rfl ?_
      refine g_get (v := .int (M o0 1)) B (shX_co ho0) (co_lt ho0) in_X0_countArrived_X0 rfl 1 (by decide) (List.mem_of_getElem? (i := 1) rfl) rfl rfl dX0_countArrived_6 ?_
      refine g_icmp_ge (tgt := 34) B dX0_countArrived_9 (by decide) (fun c1 => ?_) (fun c1 => ?_)
      · refine g_iload_n B dX0_countArrived_34 2 rfl rfl ?_
        exact g_iretp B hr hk dX0_countArrived_35
      · refine g_aload_n B dX0_countArrived_12 0 rfl rfl ?_
        refine g_get (v := .ref (ad (o0 + 1))) B (shX_co ho0) (co_lt ho0) in_X0_countArrived_X0 rfl 0 (by decide) (List.mem_of_getElem? (i := 2) rfl) rfl rfl dX0_countArrived_13 ?_
        refine g_iload_n B dX0_countArrived_16 3 rfl rfl ?_
        refine g_aald (g := (ft o0)) B 1 rfl (shX_fts ho0) (fts_lt ho0) dX0_countArrived_17 (fun b2 => ?_)
        have f3 := (ft_ok ho0 b2)
        refine g_aload_n B dX0_countArrived_18 1 rfl rfl ?_
        refine g_callVIp (As := [.ref (ad 2)]) (st := []) B (k_X2_hasArrived l D cA ad B.2.2.2.2.2.2.1 ((ft o0) v3.toNatClampNeg) f3 M) (cwV 1 B.2.2.2.2.1 gX0_countArrived_X2_hasArrived rfl rfl rfl (by decide +kernel) ⟨Nat.le_of_ble_eq_true rfl, Nat.le_of_ble_eq_true rfl⟩) (shX_ft f3) (ft_lt f3) rfl rfl rfl (Nat.le_of_ble_eq_true rfl) dX0_countArrived_19 (fun r4 _ => ?_)
        refine g_if_eq (tgt := 28) B dX0_countArrived_22 (by decide) (fun c5 => ?_) (fun c5 => ?_)
        · refine g_iinc B dX0_countArrived_28 3 (v := v3 + (1 : Int32)) rfl rfl (by decide) (lv1 := [(3, .int (v3 + (1 : Int32))), (0, .ref (ad o0)), (1, .ref (ad 2)), (2, .int v2)]) rfl ?_
          refine g_goto (tgt := 4) B dX0_countArrived_31 (by decide) ?_
          exact g_lv [1, 2, 3, 0] rfl (ih _ _)
        · refine g_iinc B dX0_countArrived_25 2 (v := v2 + (1 : Int32)) rfl rfl (by decide) (lv1 := [(2, .int (v2 + (1 : Int32))), (0, .ref (ad o0)), (1, .ref (ad 2)), (3, .int v3)]) rfl ?_
          refine g_iinc B dX0_countArrived_28 3 (v := v3 + (1 : Int32)) rfl rfl (by decide) (lv1 := [(3, .int (v3 + (1 : Int32))), (2, .int (v2 + (1 : Int32))), (0, .ref (ad o0)), (1, .ref (ad 2))]) rfl ?_
          refine g_goto (tgt := 4) B dX0_countArrived_31 (by decide) ?_
          exact g_lv [2, 3, 1, 0] rfl (ih _ _)
  unfold d_X0_countArrived
  show GG p l e (headSpec wsX0_countArrived rm_X0_countArrived).room s m args below meth c D ad (shX ad cA) 37 4 (MQ below (QI D ad (shX ad cA) 37 s.heap.size (R0, M)) args s 0 0 (AX ad 37 s.heap.size)) R0 M 0 [(0, .ref (ad o0)), (1, .ref (ad 2))] [] _
  refine g_iconst (v := 0) B dX0_countArrived_0 (by decide) ?_
  refine g_istore_n B dX0_countArrived_1 rfl (by decide) (lv1 := [(2, .int (0 : Int32)), (0, .ref (ad o0)), (1, .ref (ad 2))]) rfl ?_
  refine g_iconst (v := 0) B dX0_countArrived_2 (by decide) ?_
  refine g_istore_n B dX0_countArrived_3 rfl (by decide) (lv1 := [(3, .int (0 : Int32)), (2, .int (0 : Int32)), (0, .ref (ad o0)), (1, .ref (ad 2))]) rfl ?_
  refine g_lv [2, 3, 1, 0] rfl (hL4 _ ho0  FU _ _)

abbrev rm_X0_passDay : Room := { frames := 3, cells := 0, slots := 0, locals := 66 }
set_option maxHeartbeats 4000000 in
set_option maxRecDepth 100000 in
theorem k_X0_passDay (l : Launch) (D : va_G) (cA : Nat → ClassId) (ad : Nat → Nat) (had : adOK ad 37) (o0 : Nat) (ho0 : isCo o0) (M : Mem) : CV l yX0_passDay wsX0_passDay rm_X0_passDay D cA ad (shX ad cA) 37 [.ref (ad o0), .ref (ad 2)] M (d_X0_passDay o0 M) := by
  refine CV_of (cc := cX0_passDay) (maxL := 4) had (by decide) rfl rfl (Nat.le_of_ble_eq_true rfl) ?_
  intro p e s m args below meth c R0 B hr hk
  have hL2 : ∀ (o0 : Nat)   (ho0 : isCo o0) , ∀ (f : Nat) (v2 : Int32) (M : Mem), GG p l e (headSpec wsX0_passDay rm_X0_passDay).room s m args below meth c D ad (shX ad cA) 37 4 (MQ below (QV D ad (shX ad cA) 37 s.heap.size R0) args s 0 0 (AX ad 37 s.heap.size)) R0 M 2 [(0, .ref (ad o0)), (1, .ref (ad 2)), (2, .int v2)] [] (dX0_passDay_2l o0   f v2 M) := by
    intro o0 ho0
    intro f
    induction f with
    | zero =>
      intro v2 M
      exact g_none
    | succ f ih =>
      intro v2 M
      rw [dX0_passDay_2l]
      refine g_iload_n B dX0_passDay_2 2 rfl rfl ?_
      refine g_aload_n B dX0_passDay_3 0 rfl rfl ?_
      refine g_get (v := .int (M o0 1)) B (shX_co ho0) (co_lt ho0) in_X0_passDay_X0 rfl 1 (by decide) (List.mem_of_getElem? (i := 1) rfl) rfl rfl dX0_passDay_4 ?_
      refine g_icmp_ge (tgt := 51) B dX0_passDay_7 (by decide) (fun c1 => ?_) (fun c1 => ?_)
      · exact g_vret B hr hk dX0_passDay_51
      · refine g_aload_n B dX0_passDay_10 0 rfl rfl ?_
        refine g_get (v := .ref (ad (o0 + 1))) B (shX_co ho0) (co_lt ho0) in_X0_passDay_X0 rfl 0 (by decide) (List.mem_of_getElem? (i := 2) rfl) rfl rfl dX0_passDay_11 ?_
        refine g_iload_n B dX0_passDay_14 2 rfl rfl ?_
        refine g_aald (g := (ft o0)) B 1 rfl (shX_fts ho0) (fts_lt ho0) dX0_passDay_15 (fun b2 => ?_)
        have f3 := (ft_ok ho0 b2)
        refine g_astore_n B dX0_passDay_16 rfl (by decide) (lv1 := [(3, .ref (ad ((ft o0) v2.toNatClampNeg))), (0, .ref (ad o0)), (1, .ref (ad 2)), (2, .int v2)]) rfl ?_
        refine g_aload_n B dX0_passDay_17 0 rfl rfl ?_
        refine g_getN (v := .int (M ((ft o0) v2.toNatClampNeg) 5)) B (shX_ft f3) (ft_lt f3) in_X0_passDay_X2 rfl 5 (by decide) 14 rfl rfl rfl dX0_passDay_18 ?_
        refine g_if_ne (tgt := 45) B dX0_passDay_21 (by decide) (fun c4 => ?_) (fun c4 => ?_)
        · refine g_aload_n B dX0_passDay_24 0 rfl rfl ?_
          refine g_aload_n B dX0_passDay_25 2 rfl rfl ?_
          refine g_callVIp (As := [.ref (ad 2)]) (st := []) B (k_X2_hasArrived l D cA ad B.2.2.2.2.2.2.1 ((ft o0) v2.toNatClampNeg) f3 M) (cwV 1 B.2.2.2.2.1 gX0_passDay_X2_hasArrived rfl rfl rfl (by decide +kernel) ⟨Nat.le_of_ble_eq_true rfl, Nat.le_of_ble_eq_true rfl⟩) (shX_ft f3) (ft_lt f3) rfl rfl rfl (Nat.le_of_ble_eq_true rfl) dX0_passDay_26 (fun r5 _ => ?_)
          refine g_if_ne (tgt := 45) B dX0_passDay_29 (by decide) (fun c6 => ?_) (fun c6 => ?_)
          · refine g_aload_n B dX0_passDay_32 0 rfl rfl ?_
            refine g_dup B dX0_passDay_33 rfl ?_
            refine g_getN (v := .int (M ((ft o0) v2.toNatClampNeg) 4)) B (shX_ft f3) (ft_lt f3) in_X0_passDay_X2 rfl 4 (by decide) 11 rfl rfl rfl dX0_passDay_34 ?_
            refine g_aload_n B dX0_passDay_37 0 rfl rfl ?_
            refine g_callVIp (As := []) (st := [.int (M ((ft o0) v2.toNatClampNeg) 4), .ref (ad ((ft o0) v2.toNatClampNeg))]) B (k_X2_pace l D cA ad B.2.2.2.2.2.2.1 ((ft o0) v2.toNatClampNeg) f3 M) (cwV 0 B.2.2.2.2.1 gX0_passDay_X2_pace rfl rfl rfl (by decide +kernel) ⟨Nat.le_of_ble_eq_true rfl, Nat.le_of_ble_eq_true rfl⟩) (shX_ft f3) (ft_lt f3) rfl rfl rfl (Nat.le_of_ble_eq_true rfl) dX0_passDay_38 (fun r7 _ => ?_)
            refine g_iadd B dX0_passDay_41 ?_
            refine g_putN B (shX_ft f3) (ft_lt f3) in_X0_passDay_X2 tyX2_ok nmX2 rfl 4 (by decide) 11 rfl rfl rfl (by decide +kernel) rfl rfl (fun _ => by decide) (fun _ _ => rfl) dX0_passDay_42 (g_lmM (fun M8 => ?_))
            refine g_iinc B dX0_passDay_45 3 (v := v2 + (1 : Int32)) rfl rfl (by decide) (lv1 := [(2, .int (v2 + (1 : Int32))), (3, .ref (ad ((ft o0) v2.toNatClampNeg))), (0, .ref (ad o0)), (1, .ref (ad 2))]) rfl ?_
            refine g_goto (tgt := 2) B dX0_passDay_48 (by decide) ?_
            exact g_lv [2, 3, 0] rfl (ih _ _)
          · refine g_iinc B dX0_passDay_45 3 (v := v2 + (1 : Int32)) rfl rfl (by decide) (lv1 := [(2, .int (v2 + (1 : Int32))), (3, .ref (ad ((ft o0) v2.toNatClampNeg))), (0, .ref (ad o0)), (1, .ref (ad 2))]) rfl ?_
            refine g_goto (tgt := 2) B dX0_passDay_48 (by decide) ?_
            exact g_lv [2, 3, 0] rfl (ih _ _)
        · refine g_iinc B dX0_passDay_45 3 (v := v2 + (1 : Int32)) rfl rfl (by decide) (lv1 := [(2, .int (v2 + (1 : Int32))), (3, .ref (ad ((ft o0) v2.toNatClampNeg))), (0, .ref (ad o0)), (1, .ref (ad 2))]) rfl ?_
          refine g_goto (tgt := 2) B dX0_passDay_48 (by decide) ?_
          exact g_lv [2, 3, 0] rfl (ih _ _)
  unfold d_X0_passDay
  show GG p l e (headSpec wsX0_passDay rm_X0_passDay).room s m args below meth c D ad (shX ad cA) 37 4 (MQ below (QV D ad (shX ad cA) 37 s.heap.size R0) args s 0 0 (AX ad 37 s.heap.size)) R0 M 0 [(0, .ref (ad o0)), (1, .ref (ad 2))] [] _
  refine g_iconst (v := 0) B dX0_passDay_0 (by decide) ?_
  refine g_istore_n B dX0_passDay_1 rfl (by decide) (lv1 := [(2, .int (0 : Int32)), (0, .ref (ad o0)), (1, .ref (ad 2))]) rfl ?_
  refine g_lv [1, 2, 0] rfl (hL2 _ ho0  FU _ _)

abbrev rm_J6_bitCount_0f7a4 : Room := { frames := 0, cells := 0, slots := 0, locals := 0 }
set_option maxHeartbeats 4000000 in
set_option maxRecDepth 100000 in
theorem k_J6_bitCount_0f7a4 (l : Launch) (D : va_G) (cA : Nat → ClassId) (ad : Nat → Nat) (had : adOK ad 37) (v0 : Int32) (M : Mem) : CI l yJ6_bitCount_0f7a4 wsJ6_bitCount_0f7a4 rm_J6_bitCount_0f7a4 D cA ad (shX ad cA) 37 [.int v0] M (wM M (d_J6_bitCount_0f7a4 v0 M)) := by
  refine CI_ofp (cc := cJ6_bitCount_0f7a4) (maxL := 1) (rt := .int) had (by decide) rfl rfl (Nat.le_of_ble_eq_true rfl) ?_
  intro p e s m args below meth c R0 B hr hk
  unfold d_J6_bitCount_0f7a4
  show GG p l e (headSpec wsJ6_bitCount_0f7a4 rm_J6_bitCount_0f7a4).room s m args below meth c D ad (shX ad cA) 37 1 (MQ below (QI D ad (shX ad cA) 37 s.heap.size (R0, M)) args s 0 0 (AX ad 37 s.heap.size)) R0 M 0 [(0, .int v0)] [] _
  refine g_iload_n B dJ6_bitCount_0f7a4_0 0 rfl rfl ?_
  refine g_iload_n B dJ6_bitCount_0f7a4_1 0 rfl rfl ?_
  refine g_iconst (v := 1) B dJ6_bitCount_0f7a4_2 (by decide) ?_
  refine g_iushr B dJ6_bitCount_0f7a4_3 ?_
  refine g_ldcw (v := 1431655765) B dJ6_bitCount_0f7a4_4 (List.mem_of_getElem? (i := 1) rfl) ?_
  refine g_iand B dJ6_bitCount_0f7a4_7 ?_
  refine g_isub B dJ6_bitCount_0f7a4_8 ?_
  refine g_lmI (fun x1 => ?_)
  refine g_istore_n B dJ6_bitCount_0f7a4_9 rfl (by decide) (lv1 := [(0, .int x1)]) rfl ?_
  refine g_iload_n B dJ6_bitCount_0f7a4_10 0 rfl rfl ?_
  refine g_ldcw (v := 858993459) B dJ6_bitCount_0f7a4_11 (List.mem_of_getElem? (i := 2) rfl) ?_
  refine g_iand B dJ6_bitCount_0f7a4_14 ?_
  refine g_iload_n B dJ6_bitCount_0f7a4_15 0 rfl rfl ?_
  refine g_iconst (v := 2) B dJ6_bitCount_0f7a4_16 (by decide) ?_
  refine g_iushr B dJ6_bitCount_0f7a4_17 ?_
  refine g_ldcw (v := 858993459) B dJ6_bitCount_0f7a4_18 (List.mem_of_getElem? (i := 2) rfl) ?_
  refine g_iand B dJ6_bitCount_0f7a4_21 ?_
  refine g_iadd B dJ6_bitCount_0f7a4_22 ?_
  refine g_lmI (fun x2 => ?_)
  refine g_istore_n B dJ6_bitCount_0f7a4_23 rfl (by decide) (lv1 := [(0, .int x2)]) rfl ?_
  refine g_iload_n B dJ6_bitCount_0f7a4_24 0 rfl rfl ?_
  refine g_iload_n B dJ6_bitCount_0f7a4_25 0 rfl rfl ?_
  refine g_iconst (v := 4) B dJ6_bitCount_0f7a4_26 (by decide) ?_
  refine g_iushr B dJ6_bitCount_0f7a4_27 ?_
  refine g_iadd B dJ6_bitCount_0f7a4_28 ?_
  refine g_ldcw (v := 252645135) B dJ6_bitCount_0f7a4_29 (List.mem_of_getElem? (i := 3) rfl) ?_
  refine g_iand B dJ6_bitCount_0f7a4_32 ?_
  refine g_lmI (fun x3 => ?_)
  refine g_istore_n B dJ6_bitCount_0f7a4_33 rfl (by decide) (lv1 := [(0, .int x3)]) rfl ?_
  refine g_iload_n B dJ6_bitCount_0f7a4_34 0 rfl rfl ?_
  refine g_iload_n B dJ6_bitCount_0f7a4_35 0 rfl rfl ?_
  refine g_bipush (v := 8) B dJ6_bitCount_0f7a4_36 (by decide) ?_
  refine g_iushr B dJ6_bitCount_0f7a4_38 ?_
  refine g_iadd B dJ6_bitCount_0f7a4_39 ?_
  refine g_lmI (fun x4 => ?_)
  refine g_istore_n B dJ6_bitCount_0f7a4_40 rfl (by decide) (lv1 := [(0, .int x4)]) rfl ?_
  refine g_iload_n B dJ6_bitCount_0f7a4_41 0 rfl rfl ?_
  refine g_iload_n B dJ6_bitCount_0f7a4_42 0 rfl rfl ?_
  refine g_bipush (v := 16) B dJ6_bitCount_0f7a4_43 (by decide) ?_
  refine g_iushr B dJ6_bitCount_0f7a4_45 ?_
  refine g_iadd B dJ6_bitCount_0f7a4_46 ?_
  refine g_lmI (fun x5 => ?_)
  refine g_istore_n B dJ6_bitCount_0f7a4_47 rfl (by decide) (lv1 := [(0, .int x5)]) rfl ?_
  refine g_iload_n B dJ6_bitCount_0f7a4_48 0 rfl rfl ?_
  refine g_bipush (v := 63) B dJ6_bitCount_0f7a4_49 (by decide) ?_
  refine g_iand B dJ6_bitCount_0f7a4_51 ?_
  exact g_iretp B hr hk dJ6_bitCount_0f7a4_52

abbrev rm_X5_cut : Room := { frames := 0, cells := 0, slots := 0, locals := 0 }
set_option maxHeartbeats 4000000 in
set_option maxRecDepth 100000 in
theorem k_X5_cut (l : Launch) (D : va_G) (cA : Nat → ClassId) (ad : Nat → Nat) (had : adOK ad 37) (o0 : Nat) (ho0 : isSh o0) (v1 : Int32) (M : Mem) : CI l yX5_cut wsX5_cut rm_X5_cut D cA ad (shX ad cA) 37 [.ref (ad o0), .int v1] M (wM M (d_X5_cut o0 v1 M)) := by
  refine CI_ofp (cc := cX5_cut) (maxL := 2) (rt := .int) had (by decide) rfl rfl (Nat.le_of_ble_eq_true rfl) ?_
  intro p e s m args below meth c R0 B hr hk
  unfold d_X5_cut
  show GG p l e (headSpec wsX5_cut rm_X5_cut).room s m args below meth c D ad (shX ad cA) 37 2 (MQ below (QI D ad (shX ad cA) 37 s.heap.size (R0, M)) args s 0 0 (AX ad 37 s.heap.size)) R0 M 0 [(0, .ref (ad o0)), (1, .int v1)] [] _
  refine g_aload_n B dX5_cut_0 0 rfl rfl ?_
  refine g_get (v := .int (M o0 1)) B (shX_sh ho0) (sh_lt ho0) in_X5_cut_X5 rfl 1 (by decide) (List.mem_of_getElem? (i := 1) rfl) rfl rfl dX5_cut_1 ?_
  refine g_if (fun c1 => ?_) (fun c1 => ?_)
  · refine g_look (tgt := 32) B dX5_cut_4 (by decide) (by rw [c1]; rfl) (by decide) ?_
    refine g_iload_n B dX5_cut_32 1 rfl rfl ?_
    refine g_i2b B dX5_cut_33 ?_
    exact g_iretp B hr hk dX5_cut_34
  · refine g_if (fun c2 => ?_) (fun c2 => ?_)
    · refine g_look (tgt := 35) B dX5_cut_4 (by decide) (by rw [c2]; rfl) (by decide) ?_
      refine g_iload_n B dX5_cut_35 1 rfl rfl ?_
      refine g_i2s B dX5_cut_36 ?_
      exact g_iretp B hr hk dX5_cut_37
    · refine g_look (tgt := 38) B dX5_cut_4 (by decide) (lk_no (v := 0) c1 (by decide) (lk_no (v := 1) c2 (by decide) rfl)) (by decide) ?_
      refine g_iload_n B dX5_cut_38 1 rfl rfl ?_
      exact g_iretp B hr hk dX5_cut_39

abbrev rm_X5_set : Room := { frames := 1, cells := 0, slots := 0, locals := 21 }
set_option maxHeartbeats 4000000 in
set_option maxRecDepth 100000 in
theorem k_X5_set (l : Launch) (D : va_G) (cA : Nat → ClassId) (ad : Nat → Nat) (had : adOK ad 37) (o0 : Nat) (ho0 : isSh o0) (v1 : Int32) (v2 : Int32) (M : Mem) : CV l yX5_set wsX5_set rm_X5_set D cA ad (shX ad cA) 37 [.ref (ad o0), .int v1, .int v2] M (d_X5_set o0 v1 v2 M) := by
  refine CV_of (cc := cX5_set) (maxL := 3) had (by decide) rfl rfl (Nat.le_of_ble_eq_true rfl) ?_
  intro p e s m args below meth c R0 B hr hk
  unfold d_X5_set
  show GG p l e (headSpec wsX5_set rm_X5_set).room s m args below meth c D ad (shX ad cA) 37 3 (MQ below (QV D ad (shX ad cA) 37 s.heap.size R0) args s 0 0 (AX ad 37 s.heap.size)) R0 M 0 [(0, .ref (ad o0)), (1, .int v1), (2, .int v2)] [] _
  refine g_iload_n B dX5_set_0 1 rfl rfl ?_
  refine g_if_lt (tgt := 23) B dX5_set_1 (by decide) (fun c1 => ?_) (fun c1 => ?_)
  · exact g_vret B hr hk dX5_set_23
  · refine g_iload_n B dX5_set_4 1 rfl rfl ?_
    refine g_aload_n B dX5_set_5 0 rfl rfl ?_
    refine g_get (v := .int (M o0 2)) B (shX_sh ho0) (sh_lt ho0) in_X5_set_X5 rfl 2 (by decide) (List.mem_of_getElem? (i := 1) rfl) rfl rfl dX5_set_6 ?_
    refine g_icmp_ge (tgt := 23) B dX5_set_9 (by decide) (fun c2 => ?_) (fun c2 => ?_)
    · exact g_vret B hr hk dX5_set_23
    · refine g_aload_n B dX5_set_12 0 rfl rfl ?_
      refine g_get (v := .ref (ad (o0 + 1))) B (shX_sh ho0) (sh_lt ho0) in_X5_set_X5 rfl 0 (by decide) (List.mem_of_getElem? (i := 2) rfl) rfl rfl dX5_set_13 ?_
      refine g_iload_n B dX5_set_16 1 rfl rfl ?_
      refine g_aload_n B dX5_set_17 0 rfl rfl ?_
      refine g_iload_n B dX5_set_18 2 rfl rfl ?_
      refine g_callVIp (As := [.int v2]) (st := [.int v1, .ref (ad (o0 + 1))]) B (k_X5_cut l D cA ad B.2.2.2.2.2.2.1 o0 ho0 v2 M) (cwV 1 B.2.2.2.2.1 gX5_set_X5_cut rfl rfl rfl (by decide +kernel) ⟨Nat.le_of_ble_eq_true rfl, Nat.le_of_ble_eq_true rfl⟩) (shX_sh ho0) (sh_lt ho0) rfl rfl rfl (Nat.le_of_ble_eq_true rfl) dX5_set_19 (fun r3 _ => ?_)
      refine g_iast B (shX_ce ho0) (ce_lt ho0) dX5_set_22 (g_lmM (fun M4 => ?_))
      exact g_vret B hr hk dX5_set_23

abbrev rm_X9_measures : Room := { frames := 0, cells := 0, slots := 0, locals := 0 }
set_option maxHeartbeats 4000000 in
set_option maxRecDepth 100000 in
theorem k_X9_measures (l : Launch) (D : va_G) (cA : Nat → ClassId) (ad : Nat → Nat) (had : adOK ad 25)  (M : Mem) : CV l yX9_measures wsX9_measures rm_X9_measures D cA ad (shM ad cA) 25 [.ref (ad 0)] M (d_X9_measures  M) := by
  refine CV_of (cc := cX9_measures) (maxL := 8) had (by decide) rfl rfl (Nat.le_of_ble_eq_true rfl) ?_
  intro p e s m args below meth c R0 B hr hk
  have hJ44 : ∀ (rec2 : Int32 → Mem → Option Mem) (v1 : Int32) (s0 : Int32) (s1 : Int32) (M : Mem)   (hrec2 : ∀ (w1 : Int32) (M1 : Mem), GG p l e (headSpec wsX9_measures rm_X9_measures).room s m args below meth c D ad (shM ad cA) 25 8 (MQ below (QV D ad (shM ad cA) 25 s.heap.size R0) args s 0 0 (AX ad 25 s.heap.size)) R0 M1 2 [(0, .ref (ad 0)), (1, .int w1)] [] (rec2 w1 M1)), GG p l e (headSpec wsX9_measures rm_X9_measures).room s m args below meth c D ad (shM ad cA) 25 8 (MQ below (QV D ad (shM ad cA) 25 s.heap.size R0) args s 0 0 (AX ad 25 s.heap.size)) R0 M 44 [(0, .ref (ad 0)), (1, .int v1)] [.int s0, .int s1, .ref (ad 2)] (dX9_measures_44j rec2 v1 s0 s1 M) := by
    intro rec2 v1 s0 s1 M hrec2
    unfold dX9_measures_44j
    refine g_iast B shM_a2 (by decide) dX9_measures_44 (g_lmM (fun M4 => ?_))
    refine g_iinc B dX9_measures_45 1 (v := v1 + (1 : Int32)) rfl rfl (by decide) (lv1 := [(1, .int (v1 + (1 : Int32))), (0, .ref (ad 0))]) rfl ?_
    refine g_goto (tgt := 2) B dX9_measures_48 (by decide) ?_
    exact g_lv [1, 0] rfl (hrec2 _ _)
  have hL2 : ∀   (k2_51 : Mem → Option Mem)  (hk2_51 : ∀  (M1 : Mem), GG p l e (headSpec wsX9_measures rm_X9_measures).room s m args below meth c D ad (shM ad cA) 25 8 (MQ below (QV D ad (shM ad cA) 25 s.heap.size R0) args s 0 0 (AX ad 25 s.heap.size)) R0 M1 51 [(0, .ref (ad 0))] [] (k2_51  M1)), ∀ (f : Nat) (v1 : Int32) (M : Mem), GG p l e (headSpec wsX9_measures rm_X9_measures).room s m args below meth c D ad (shM ad cA) 25 8 (MQ below (QV D ad (shM ad cA) 25 s.heap.size R0) args s 0 0 (AX ad 25 s.heap.size)) R0 M 2 [(0, .ref (ad 0)), (1, .int v1)] [] (dX9_measures_2l   k2_51 f v1 M) := by
    intro k2_51 hk2_51
    intro f
    induction f with
    | zero =>
      intro v1 M
      exact g_none
    | succ f ih =>
      intro v1 M
      rw [dX9_measures_2l]
      refine g_iload_n B dX9_measures_2 1 rfl rfl ?_
      refine g_bipush (v := 36) B dX9_measures_3 (by decide) ?_
      refine g_icmp_ge (tgt := 51) B dX9_measures_5 (by decide) (fun c1 => ?_) (fun c1 => ?_)
      · exact g_lv [0] rfl (hk2_51  _)
      · refine g_aload_n B dX9_measures_8 0 rfl rfl ?_
        refine g_get (v := .ref (ad 2)) B shM_o (by decide) in_X9_measures_X9 rfl 6 (by decide) (List.mem_of_getElem? (i := 1) rfl) rfl rfl dX9_measures_9 ?_
        refine g_iload_n B dX9_measures_12 1 rfl rfl ?_
        refine g_iload_n B dX9_measures_13 1 rfl rfl ?_
        refine g_bipush (v := 7) B dX9_measures_14 (by decide) ?_
        refine g_irem B dX9_measures_16 ?_
        refine g_if_ne (tgt := 24) B dX9_measures_17 (by decide) (fun c2 => ?_) (fun c2 => ?_)
        · refine g_iconst (v := 0) B dX9_measures_20 (by decide) ?_
          refine g_goto (tgt := 44) B dX9_measures_21 (by decide) ?_
          exact g_lv [0, 1] rfl (hJ44 _ _ _ _ _   ih)
        · refine g_aload_n B dX9_measures_24 0 rfl rfl ?_
          refine g_get (v := .ref (ad 1)) B shM_o (by decide) in_X9_measures_X9 rfl 5 (by decide) (List.mem_of_getElem? (i := 2) rfl) rfl rfl dX9_measures_25 ?_
          refine g_iload_n B dX9_measures_28 1 rfl rfl ?_
          refine g_iald B shM_a1 (by decide) dX9_measures_29 ?_
          refine g_if_le (tgt := 42) B dX9_measures_30 (by decide) (fun c3 => ?_) (fun c3 => ?_)
          · refine g_bipush (v := -9) B dX9_measures_42 (by decide) ?_
            exact g_lv [0, 1] rfl (hJ44 _ _ _ _ _   ih)
          · refine g_aload_n B dX9_measures_33 0 rfl rfl ?_
            refine g_get (v := .ref (ad 1)) B shM_o (by decide) in_X9_measures_X9 rfl 5 (by decide) (List.mem_of_getElem? (i := 2) rfl) rfl rfl dX9_measures_34 ?_
            refine g_iload_n B dX9_measures_37 1 rfl rfl ?_
            refine g_iald B shM_a1 (by decide) dX9_measures_38 ?_
            refine g_goto (tgt := 44) B dX9_measures_39 (by decide) ?_
            exact g_lv [0, 1] rfl (hJ44 _ _ _ _ _   ih)
  have hJ203 : ∀ (rec73 : Int32 → Mem → Option Mem) (v1 : Int32) (v2 : Int32) (v3 : Int32) (s0 : Int32) (s1 : Int32) (M : Mem)   (hrec73 : ∀ (w3 : Int32) (M1 : Mem), GG p l e (headSpec wsX9_measures rm_X9_measures).room s m args below meth c D ad (shM ad cA) 25 8 (MQ below (QV D ad (shM ad cA) 25 s.heap.size R0) args s 0 0 (AX ad 25 s.heap.size)) R0 M1 73 [(0, .ref (ad 0)), (1, .int v1), (2, .int v2), (3, .int w3)] [] (rec73 w3 M1)), GG p l e (headSpec wsX9_measures rm_X9_measures).room s m args below meth c D ad (shM ad cA) 25 8 (MQ below (QV D ad (shM ad cA) 25 s.heap.size R0) args s 0 0 (AX ad 25 s.heap.size)) R0 M 203 [(0, .ref (ad 0)), (1, .int v1), (2, .int v2), (3, .int v3)] [.int s0, .int s1, .ref (ad 2)] (dX9_measures_203j rec73 v1 v2 v3 s0 s1 M) := by
    intro rec73 v1 v2 v3 s0 s1 M hrec73
    unfold dX9_measures_203j
    refine g_iast B shM_a2 (by decide) dX9_measures_203 (g_lmM (fun M14 => ?_))
    refine g_iinc B dX9_measures_204 3 (v := v3 + (1 : Int32)) rfl rfl (by decide) (lv1 := [(3, .int (v3 + (1 : Int32))), (0, .ref (ad 0)), (1, .int v1), (2, .int v2)]) rfl ?_
    refine g_goto (tgt := 73) B dX9_measures_207 (by decide) ?_
    exact g_lv [1, 2, 3, 0] rfl (hrec73 _ _)
  have hJ167 : ∀ (rec73 : Int32 → Mem → Option Mem) (v1 : Int32) (v2 : Int32) (v3 : Int32) (v4 : Int32) (v5 : Int32) (s0 : Int32) (M : Mem)   (hrec73 : ∀ (w3 : Int32) (M1 : Mem), GG p l e (headSpec wsX9_measures rm_X9_measures).room s m args below meth c D ad (shM ad cA) 25 8 (MQ below (QV D ad (shM ad cA) 25 s.heap.size R0) args s 0 0 (AX ad 25 s.heap.size)) R0 M1 73 [(0, .ref (ad 0)), (1, .int v1), (2, .int v2), (3, .int w3)] [] (rec73 w3 M1)), GG p l e (headSpec wsX9_measures rm_X9_measures).room s m args below meth c D ad (shM ad cA) 25 8 (MQ below (QV D ad (shM ad cA) 25 s.heap.size R0) args s 0 0 (AX ad 25 s.heap.size)) R0 M 167 [(0, .ref (ad 0)), (1, .int v1), (2, .int v2), (3, .int v3), (4, .int v4), (5, .int v5)] [.int s0] (dX9_measures_167j rec73 v1 v2 v3 v4 v5 s0 M) := by
    intro rec73 v1 v2 v3 v4 v5 s0 M hrec73
    unfold dX9_measures_167j
    refine g_istore B dX9_measures_167 (by decide) (lv1 := [(7, .int s0), (0, .ref (ad 0)), (1, .int v1), (2, .int v2), (3, .int v3), (4, .int v4), (5, .int v5)]) rfl ?_
    refine g_aload_n B dX9_measures_169 1 rfl rfl ?_
    refine g_get (v := .ref (ad 2)) B shM_o (by decide) in_X9_measures_X9 rfl 6 (by decide) (List.mem_of_getElem? (i := 1) rfl) rfl rfl dX9_measures_170 ?_
    refine g_bipush (v := 6) B dX9_measures_173 (by decide) ?_
    refine g_iload_n B dX9_measures_175 3 rfl rfl ?_
    refine g_imul B dX9_measures_176 ?_
    refine g_iload_n B dX9_measures_177 4 rfl rfl ?_
    refine g_iadd B dX9_measures_178 ?_
    refine g_iload B dX9_measures_179 0 rfl ?_
    refine g_if_eq (tgt := 192) B dX9_measures_181 (by decide) (fun c13 => ?_) (fun c13 => ?_)
    · refine g_aload_n B dX9_measures_192 1 rfl rfl ?_
      refine g_get (v := .ref (ad 2)) B shM_o (by decide) in_X9_measures_X9 rfl 6 (by decide) (List.mem_of_getElem? (i := 1) rfl) rfl rfl dX9_measures_193 ?_
      refine g_bipush (v := 6) B dX9_measures_196 (by decide) ?_
      refine g_iload_n B dX9_measures_198 3 rfl rfl ?_
      refine g_imul B dX9_measures_199 ?_
      refine g_iload_n B dX9_measures_200 4 rfl rfl ?_
      refine g_iadd B dX9_measures_201 ?_
      refine g_iald B shM_a2 (by decide) dX9_measures_202 ?_
      exact g_lv [1, 2, 3, 4] rfl (hJ203 _ _ _ _ _ _ _   hrec73)
    · refine g_iload B dX9_measures_184 5 rfl ?_
      refine g_iload B dX9_measures_186 6 rfl ?_
      refine g_iadd B dX9_measures_188 ?_
      refine g_goto (tgt := 203) B dX9_measures_189 (by decide) ?_
      exact g_lv [1, 2, 3, 4] rfl (hJ203 _ _ _ _ _ _ _   hrec73)
  have hJ166 : ∀ (rec73 : Int32 → Mem → Option Mem) (v1 : Int32) (v2 : Int32) (v3 : Int32) (v4 : Int32) (v5 : Int32)  (M : Mem)   (hrec73 : ∀ (w3 : Int32) (M1 : Mem), GG p l e (headSpec wsX9_measures rm_X9_measures).room s m args below meth c D ad (shM ad cA) 25 8 (MQ below (QV D ad (shM ad cA) 25 s.heap.size R0) args s 0 0 (AX ad 25 s.heap.size)) R0 M1 73 [(0, .ref (ad 0)), (1, .int v1), (2, .int v2), (3, .int w3)] [] (rec73 w3 M1)), GG p l e (headSpec wsX9_measures rm_X9_measures).room s m args below meth c D ad (shM ad cA) 25 8 (MQ below (QV D ad (shM ad cA) 25 s.heap.size R0) args s 0 0 (AX ad 25 s.heap.size)) R0 M 166 [(0, .ref (ad 0)), (1, .int v1), (2, .int v2), (3, .int v3), (4, .int v4), (5, .int v5)] [] (dX9_measures_166j rec73 v1 v2 v3 v4 v5  M) := by
    intro rec73 v1 v2 v3 v4 v5 M hrec73
    unfold dX9_measures_166j
    refine g_iconst (v := 0) B dX9_measures_166 (by decide) ?_
    exact g_lv [0, 1, 2, 3, 4, 5] rfl (hJ167 _ _ _ _ _ _ _ _   hrec73)
  have hJ162 : ∀ (rec73 : Int32 → Mem → Option Mem) (v1 : Int32) (v2 : Int32) (v3 : Int32) (v4 : Int32) (v5 : Int32)  (M : Mem)   (hrec73 : ∀ (w3 : Int32) (M1 : Mem), GG p l e (headSpec wsX9_measures rm_X9_measures).room s m args below meth c D ad (shM ad cA) 25 8 (MQ below (QV D ad (shM ad cA) 25 s.heap.size R0) args s 0 0 (AX ad 25 s.heap.size)) R0 M1 73 [(0, .ref (ad 0)), (1, .int v1), (2, .int v2), (3, .int w3)] [] (rec73 w3 M1)), GG p l e (headSpec wsX9_measures rm_X9_measures).room s m args below meth c D ad (shM ad cA) 25 8 (MQ below (QV D ad (shM ad cA) 25 s.heap.size R0) args s 0 0 (AX ad 25 s.heap.size)) R0 M 162 [(0, .ref (ad 0)), (1, .int v1), (2, .int v2), (3, .int v3), (4, .int v4), (5, .int v5)] [] (dX9_measures_162j rec73 v1 v2 v3 v4 v5  M) := by
    intro rec73 v1 v2 v3 v4 v5 M hrec73
    unfold dX9_measures_162j
    refine g_iconst (v := 1) B dX9_measures_162 (by decide) ?_
    refine g_goto (tgt := 167) B dX9_measures_163 (by decide) ?_
    exact g_lv [0, 1, 2, 3, 4, 5] rfl (hJ167 _ _ _ _ _ _ _ _   hrec73)
  have hJ122 : ∀ (rec73 : Int32 → Mem → Option Mem) (v1 : Int32) (v2 : Int32) (v3 : Int32) (v4 : Int32) (v5 : Int32) (s0 : Int32) (M : Mem)   (hrec73 : ∀ (w3 : Int32) (M1 : Mem), GG p l e (headSpec wsX9_measures rm_X9_measures).room s m args below meth c D ad (shM ad cA) 25 8 (MQ below (QV D ad (shM ad cA) 25 s.heap.size R0) args s 0 0 (AX ad 25 s.heap.size)) R0 M1 73 [(0, .ref (ad 0)), (1, .int v1), (2, .int v2), (3, .int w3)] [] (rec73 w3 M1)), GG p l e (headSpec wsX9_measures rm_X9_measures).room s m args below meth c D ad (shM ad cA) 25 8 (MQ below (QV D ad (shM ad cA) 25 s.heap.size R0) args s 0 0 (AX ad 25 s.heap.size)) R0 M 122 [(0, .ref (ad 0)), (1, .int v1), (2, .int v2), (3, .int v3), (4, .int v4), (5, .int v5)] [.int s0] (dX9_measures_122j rec73 v1 v2 v3 v4 v5 s0 M) := by
    intro rec73 v1 v2 v3 v4 v5 s0 M hrec73
    unfold dX9_measures_122j
    refine g_istore B dX9_measures_122 (by decide) (lv1 := [(6, .int s0), (0, .ref (ad 0)), (1, .int v1), (2, .int v2), (3, .int v3), (4, .int v4), (5, .int v5)]) rfl ?_
    refine g_iload B dX9_measures_124 0 rfl ?_
    refine g_if_eq (tgt := 166) B dX9_measures_126 (by decide) (fun c12 => ?_) (fun c12 => ?_)
    · exact g_lv [1, 2, 3, 4, 5, 6] rfl (hJ166 _ _ _ _ _ _ _   hrec73)
    · refine g_aload_n B dX9_measures_129 1 rfl rfl ?_
      refine g_get (v := .ref (ad 2)) B shM_o (by decide) in_X9_measures_X9 rfl 6 (by decide) (List.mem_of_getElem? (i := 1) rfl) rfl rfl dX9_measures_130 ?_
      refine g_bipush (v := 6) B dX9_measures_133 (by decide) ?_
      refine g_iload_n B dX9_measures_135 3 rfl rfl ?_
      refine g_imul B dX9_measures_136 ?_
      refine g_iload_n B dX9_measures_137 4 rfl rfl ?_
      refine g_iadd B dX9_measures_138 ?_
      refine g_iald B shM_a2 (by decide) dX9_measures_139 ?_
      refine g_if_lt (tgt := 162) B dX9_measures_140 (by decide) (fun c15 => ?_) (fun c15 => ?_)
      · exact g_lv [1, 2, 3, 4, 5, 6] rfl (hJ162 _ _ _ _ _ _ _   hrec73)
      · refine g_iload B dX9_measures_143 5 rfl ?_
        refine g_iload B dX9_measures_145 6 rfl ?_
        refine g_iadd B dX9_measures_147 ?_
        refine g_aload_n B dX9_measures_148 1 rfl rfl ?_
        refine g_get (v := .ref (ad 2)) B shM_o (by decide) in_X9_measures_X9 rfl 6 (by decide) (List.mem_of_getElem? (i := 1) rfl) rfl rfl dX9_measures_149 ?_
        refine g_bipush (v := 6) B dX9_measures_152 (by decide) ?_
        refine g_iload_n B dX9_measures_154 3 rfl rfl ?_
        refine g_imul B dX9_measures_155 ?_
        refine g_iload_n B dX9_measures_156 4 rfl rfl ?_
        refine g_iadd B dX9_measures_157 ?_
        refine g_iald B shM_a2 (by decide) dX9_measures_158 ?_
        refine g_icmp_ge (tgt := 166) B dX9_measures_159 (by decide) (fun c16 => ?_) (fun c16 => ?_)
        · exact g_lv [1, 2, 3, 4, 5, 6] rfl (hJ166 _ _ _ _ _ _ _   hrec73)
        · exact g_lv [1, 2, 3, 4, 5, 6] rfl (hJ162 _ _ _ _ _ _ _   hrec73)
  have hJ121 : ∀ (rec73 : Int32 → Mem → Option Mem) (v1 : Int32) (v2 : Int32) (v3 : Int32) (v4 : Int32) (v5 : Int32)  (M : Mem)   (hrec73 : ∀ (w3 : Int32) (M1 : Mem), GG p l e (headSpec wsX9_measures rm_X9_measures).room s m args below meth c D ad (shM ad cA) 25 8 (MQ below (QV D ad (shM ad cA) 25 s.heap.size R0) args s 0 0 (AX ad 25 s.heap.size)) R0 M1 73 [(0, .ref (ad 0)), (1, .int v1), (2, .int v2), (3, .int w3)] [] (rec73 w3 M1)), GG p l e (headSpec wsX9_measures rm_X9_measures).room s m args below meth c D ad (shM ad cA) 25 8 (MQ below (QV D ad (shM ad cA) 25 s.heap.size R0) args s 0 0 (AX ad 25 s.heap.size)) R0 M 121 [(0, .ref (ad 0)), (1, .int v1), (2, .int v2), (3, .int v3), (4, .int v4), (5, .int v5)] [] (dX9_measures_121j rec73 v1 v2 v3 v4 v5  M) := by
    intro rec73 v1 v2 v3 v4 v5 M hrec73
    unfold dX9_measures_121j
    refine g_iconst (v := 0) B dX9_measures_121 (by decide) ?_
    exact g_lv [0, 1, 2, 3, 4, 5] rfl (hJ122 _ _ _ _ _ _ _ _   hrec73)
  have hL73 : ∀ (v1 : Int32) (v2 : Int32)  (k73_210 : Mem → Option Mem)  (hk73_210 : ∀  (M1 : Mem), GG p l e (headSpec wsX9_measures rm_X9_measures).room s m args below meth c D ad (shM ad cA) 25 8 (MQ below (QV D ad (shM ad cA) 25 s.heap.size R0) args s 0 0 (AX ad 25 s.heap.size)) R0 M1 210 [(0, .ref (ad 0)), (1, .int v1), (2, .int v2)] [] (k73_210  M1)), ∀ (f : Nat) (v3 : Int32) (M : Mem), GG p l e (headSpec wsX9_measures rm_X9_measures).room s m args below meth c D ad (shM ad cA) 25 8 (MQ below (QV D ad (shM ad cA) 25 s.heap.size R0) args s 0 0 (AX ad 25 s.heap.size)) R0 M 73 [(0, .ref (ad 0)), (1, .int v1), (2, .int v2), (3, .int v3)] [] (dX9_measures_73l v1 v2  k73_210 f v3 M) := by
    intro v1 v2 k73_210 hk73_210
    intro f
    induction f with
    | zero =>
      intro v3 M
      exact g_none
    | succ f ih =>
      intro v3 M
      rw [dX9_measures_73l]
      refine g_iload_n B dX9_measures_73 3 rfl rfl ?_
      refine g_aload_n B dX9_measures_74 0 rfl rfl ?_
      refine g_get (v := .int (M 0 1)) B shM_o (by decide) in_X9_measures_X9 rfl 1 (by decide) (List.mem_of_getElem? (i := 3) rfl) rfl rfl dX9_measures_75 ?_
      refine g_icmp_ge (tgt := 210) B dX9_measures_78 (by decide) (fun c8 => ?_) (fun c8 => ?_)
      · exact g_lv [0, 1, 2] rfl (hk73_210  _)
      · refine g_aload_n B dX9_measures_81 0 rfl rfl ?_
        refine g_get (v := .ref (ad 2)) B shM_o (by decide) in_X9_measures_X9 rfl 6 (by decide) (List.mem_of_getElem? (i := 1) rfl) rfl rfl dX9_measures_82 ?_
        refine g_bipush (v := 6) B dX9_measures_85 (by decide) ?_
        refine g_iload_n B dX9_measures_87 2 rfl rfl ?_
        refine g_imul B dX9_measures_88 ?_
        refine g_iload_n B dX9_measures_89 1 rfl rfl ?_
        refine g_iadd B dX9_measures_90 ?_
        refine g_iald B shM_a2 (by decide) dX9_measures_91 ?_
        refine g_lmI (fun x9 => ?_)
        refine g_istore B dX9_measures_92 (by decide) (lv1 := [(4, .int x9), (0, .ref (ad 0)), (1, .int v1), (2, .int v2), (3, .int v3)]) rfl ?_
        refine g_aload_n B dX9_measures_94 1 rfl rfl ?_
        refine g_get (v := .ref (ad 2)) B shM_o (by decide) in_X9_measures_X9 rfl 6 (by decide) (List.mem_of_getElem? (i := 1) rfl) rfl rfl dX9_measures_95 ?_
        refine g_bipush (v := 6) B dX9_measures_98 (by decide) ?_
        refine g_iload_n B dX9_measures_100 2 rfl rfl ?_
        refine g_imul B dX9_measures_101 ?_
        refine g_iload_n B dX9_measures_102 4 rfl rfl ?_
        refine g_iadd B dX9_measures_103 ?_
        refine g_iald B shM_a2 (by decide) dX9_measures_104 ?_
        refine g_lmI (fun x10 => ?_)
        refine g_istore B dX9_measures_105 (by decide) (lv1 := [(5, .int x10), (4, .int x9), (0, .ref (ad 0)), (1, .int v1), (2, .int v2), (3, .int v3)]) rfl ?_
        refine g_iload B dX9_measures_107 1 rfl ?_
        refine g_if_lt (tgt := 121) B dX9_measures_109 (by decide) (fun c11 => ?_) (fun c11 => ?_)
        · exact g_lv [2, 3, 4, 5, 1, 0] rfl (hJ121 _ _ _ _ _ _ _   ih)
        · refine g_iload B dX9_measures_112 0 rfl ?_
          refine g_if_lt (tgt := 121) B dX9_measures_114 (by decide) (fun c17 => ?_) (fun c17 => ?_)
          · exact g_lv [2, 3, 4, 5, 1, 0] rfl (hJ121 _ _ _ _ _ _ _   ih)
          · refine g_iconst (v := 1) B dX9_measures_117 (by decide) ?_
            refine g_goto (tgt := 122) B dX9_measures_118 (by decide) ?_
            exact g_lv [2, 3, 4, 5, 1, 0] rfl (hJ122 _ _ _ _ _ _ _ _   ih)
  have hL63 : ∀ (v1 : Int32)  (k63_216 : Mem → Option Mem)  (hk63_216 : ∀  (M1 : Mem), GG p l e (headSpec wsX9_measures rm_X9_measures).room s m args below meth c D ad (shM ad cA) 25 8 (MQ below (QV D ad (shM ad cA) 25 s.heap.size R0) args s 0 0 (AX ad 25 s.heap.size)) R0 M1 216 [(0, .ref (ad 0)), (1, .int v1)] [] (k63_216  M1)), ∀ (f : Nat) (v2 : Int32) (M : Mem), GG p l e (headSpec wsX9_measures rm_X9_measures).room s m args below meth c D ad (shM ad cA) 25 8 (MQ below (QV D ad (shM ad cA) 25 s.heap.size R0) args s 0 0 (AX ad 25 s.heap.size)) R0 M 63 [(0, .ref (ad 0)), (1, .int v1), (2, .int v2)] [] (dX9_measures_63l v1  k63_216 f v2 M) := by
    intro v1 k63_216 hk63_216
    intro f
    induction f with
    | zero =>
      intro v2 M
      exact g_none
    | succ f ih =>
      intro v2 M
      rw [dX9_measures_63l]
      refine g_iload_n B dX9_measures_63 2 rfl rfl ?_
      refine g_aload_n B dX9_measures_64 0 rfl rfl ?_
      refine g_get (v := .int (M 0 1)) B shM_o (by decide) in_X9_measures_X9 rfl 1 (by decide) (List.mem_of_getElem? (i := 3) rfl) rfl rfl dX9_measures_65 ?_
      refine g_icmp_ge (tgt := 216) B dX9_measures_68 (by decide) (fun c7 => ?_) (fun c7 => ?_)
      · exact g_lv [0, 1] rfl (hk63_216  _)
      · refine g_iconst (v := 0) B dX9_measures_71 (by decide) ?_
        refine g_istore_n B dX9_measures_72 rfl (by decide) (lv1 := [(3, .int (0 : Int32)), (0, .ref (ad 0)), (1, .int v1), (2, .int v2)]) rfl ?_
        refine g_lv [1, 2, 3, 0] rfl (hL73 _ _ _  ?_ FU _ _)
        · intro M18
          refine g_iinc B dX9_measures_210 2 (v := v2 + (1 : Int32)) rfl rfl (by decide) (lv1 := [(2, .int (v2 + (1 : Int32))), (0, .ref (ad 0)), (1, .int v1)]) rfl ?_
          refine g_goto (tgt := 63) B dX9_measures_213 (by decide) ?_
          exact g_lv [1, 2, 0] rfl (ih _ _)
  have hL53 : ∀ (f : Nat) (v1 : Int32) (M : Mem), GG p l e (headSpec wsX9_measures rm_X9_measures).room s m args below meth c D ad (shM ad cA) 25 8 (MQ below (QV D ad (shM ad cA) 25 s.heap.size R0) args s 0 0 (AX ad 25 s.heap.size)) R0 M 53 [(0, .ref (ad 0)), (1, .int v1)] [] (dX9_measures_53l    f v1 M) := by
    intro f
    induction f with
    | zero =>
      intro v1 M
      exact g_none
    | succ f ih =>
      intro v1 M
      rw [dX9_measures_53l]
      refine g_iload_n B dX9_measures_53 1 rfl rfl ?_
      refine g_aload_n B dX9_measures_54 0 rfl rfl ?_
      refine g_get (v := .int (M 0 1)) B shM_o (by decide) in_X9_measures_X9 rfl 1 (by decide) (List.mem_of_getElem? (i := 3) rfl) rfl rfl dX9_measures_55 ?_
      refine g_icmp_ge (tgt := 222) B dX9_measures_58 (by decide) (fun c6 => ?_) (fun c6 => ?_)
      · exact g_vret B hr hk dX9_measures_222
      · refine g_iconst (v := 0) B dX9_measures_61 (by decide) ?_
        refine g_istore_n B dX9_measures_62 rfl (by decide) (lv1 := [(2, .int (0 : Int32)), (0, .ref (ad 0)), (1, .int v1)]) rfl ?_
        refine g_lv [1, 2, 0] rfl (hL63 _ _  ?_ FU _ _)
        · intro M19
          refine g_iinc B dX9_measures_216 1 (v := v1 + (1 : Int32)) rfl rfl (by decide) (lv1 := [(1, .int (v1 + (1 : Int32))), (0, .ref (ad 0))]) rfl ?_
          refine g_goto (tgt := 53) B dX9_measures_219 (by decide) ?_
          exact g_lv [1, 0] rfl (ih _ _)
  unfold d_X9_measures
  show GG p l e (headSpec wsX9_measures rm_X9_measures).room s m args below meth c D ad (shM ad cA) 25 8 (MQ below (QV D ad (shM ad cA) 25 s.heap.size R0) args s 0 0 (AX ad 25 s.heap.size)) R0 M 0 [(0, .ref (ad 0))] [] _
  refine g_iconst (v := 0) B dX9_measures_0 (by decide) ?_
  refine g_istore_n B dX9_measures_1 rfl (by decide) (lv1 := [(1, .int (0 : Int32)), (0, .ref (ad 0))]) rfl ?_
  refine g_lv [1, 0] rfl (hL2 _  ?_ FU _ _)
  · intro M5
    refine g_iconst (v := 0) B dX9_measures_51 (by decide) ?_
    refine g_istore_n B dX9_measures_52 rfl (by decide) (lv1 := [(1, .int (0 : Int32)), (0, .ref (ad 0))]) rfl ?_
    refine g_lv [1, 0] rfl (hL53    FU _ _)
