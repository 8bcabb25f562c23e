abbrev rm_X6_nextOnWay : Room := { frames := 2, cells := 0, slots := 0, locals := 44 }
set_option maxHeartbeats 4000000 in
set_option maxRecDepth 100000 in
theorem k_X6_nextOnWay (l : Launch) (D : va_G) (cA : Nat → ClassId) (ad : Nat → Nat) (had : adOK ad 37) (v1 : Int32) (v2 : Int32) (M : Mem) : CI l yX6_nextOnWay wsX6_nextOnWay rm_X6_nextOnWay D cA ad (shX ad cA) 37 [.ref (ad 2), .int v1, .int v2] M (wM M (d_X6_nextOnWay v1 v2 M)) := by
  refine CI_ofp (own := RX6) (cc := cX6_nextOnWay) (maxL := 7) (rt := .int) had (by decide) rfl rfl (Nat.le_of_ble_eq_true rfl) ?_
  intro p e s m args below meth c R0 B hr hk
  have hL10 : ∀ (v1 : Int32) (v2 : Int32) (v3 : Int32)    , ∀ (f : Nat) (v4 : Int32), GG p l e (headSpec wsX6_nextOnWay rm_X6_nextOnWay).room s m args below meth c D ad (shX ad cA) 37 7 (MQ below (QI D ad (shX ad cA) 37 s.heap.size (R0, M)) args s 0 0 (AX ad 37 s.heap.size)) R0 M 10 [(0, .ref (ad 2)), (1, .int v1), (2, .int v2), (3, .int v3), (4, .int v4)] [] (dX6_nextOnWay_10l v1 v2 v3 M  f v4 ) := by
    intro v1 v2 v3
    intro f
    induction f with
    | zero =>
      intro v4
      exact g_none
    | succ f ih =>
      intro v4
      rw [dX6_nextOnWay_10l]
      refine g_iload B dX6_nextOnWay_10 4 rfl ?_
      refine g_aload_n B dX6_nextOnWay_12 0 rfl rfl ?_
      refine g_get (v := .int (M 2 3)) B shX_st (by decide) in_X6_nextOnWay_X6 rfl 3 (by decide) (List.mem_of_getElem? (i := 1) rfl) rfl rfl dX6_nextOnWay_13 ?_
      refine g_icmp_ge (tgt := 73) B dX6_nextOnWay_16 (by decide) (fun c2 => ?_) (fun c2 => ?_)
      · refine g_bipush (v := -9) B dX6_nextOnWay_73 (by decide) ?_
        exact g_iretp B hr hk dX6_nextOnWay_75
      · refine g_aload_n B dX6_nextOnWay_19 0 rfl rfl ?_
        refine g_iload_n B dX6_nextOnWay_20 1 rfl rfl ?_
        refine g_iload B dX6_nextOnWay_21 4 rfl ?_
        refine g_callVIp (q := (RX6, TX6, 4)) (As := [.int v1, .int v4]) (st := []) B (k_X6_length l D cA ad B.2.2.2.2.2.2.1 v1 v4 M) (cwV 2 B.2.2.2.2.1 gX6_nextOnWay_X6_length rfl rfl rfl (by decide +kernel) ⟨Nat.le_of_ble_eq_true rfl, Nat.le_of_ble_eq_true rfl⟩) shX_st (by decide) rfl rfl rfl (Nat.le_of_ble_eq_true rfl) dX6_nextOnWay_23 (fun r3 _ => ?_)
        refine g_istore B dX6_nextOnWay_26 (by decide) (lv1 := [(5, .int r3), (0, .ref (ad 2)), (1, .int v1), (2, .int v2), (3, .int v3), (4, .int v4)]) rfl ?_
        refine g_aload_n B dX6_nextOnWay_28 1 rfl rfl ?_
        refine g_iload B dX6_nextOnWay_29 5 rfl ?_
        refine g_iload_n B dX6_nextOnWay_31 3 rfl rfl ?_
        refine g_callVIp (q := (RX6, TX6, 4)) (As := [.int v4, .int v2]) (st := []) B (k_X6_distance l D cA ad B.2.2.2.2.2.2.1 v4 v2 M) (cwV 2 B.2.2.2.2.1 gX6_nextOnWay_X6_distance rfl rfl rfl (by decide +kernel) ⟨Nat.le_of_ble_eq_true rfl, Nat.le_of_ble_eq_true rfl⟩) shX_st (by decide) rfl rfl rfl (Nat.le_of_ble_eq_true rfl) dX6_nextOnWay_32 (fun r4 _ => ?_)
        refine g_istore B dX6_nextOnWay_35 (by decide) (lv1 := [(6, .int r4), (5, .int r3), (0, .ref (ad 2)), (1, .int v1), (2, .int v2), (3, .int v3), (4, .int v4)]) rfl ?_
        refine g_iload B dX6_nextOnWay_37 1 rfl ?_
        refine g_if_le (tgt := 67) B dX6_nextOnWay_39 (by decide) (fun c5 => ?_) (fun c5 => ?_)
        · refine g_iinc B dX6_nextOnWay_67 6 (v := v4 + (1 : Int32)) rfl rfl (by decide) (lv1 := [(4, .int (v4 + (1 : Int32))), (6, .int r4), (5, .int r3), (0, .ref (ad 2)), (1, .int v1), (2, .int v2), (3, .int v3)]) rfl ?_
          refine g_goto (tgt := 10) B dX6_nextOnWay_70 (by decide) ?_
          exact g_lv [3, 4, 5, 6, 0] rfl (ih _)
        · refine g_iload_n B dX6_nextOnWay_42 5 rfl rfl ?_
          refine g_bipush (v := -9) B dX6_nextOnWay_43 (by decide) ?_
          refine g_icmp_eq (tgt := 67) B dX6_nextOnWay_45 (by decide) (fun c6 => ?_) (fun c6 => ?_)
          · refine g_iinc B dX6_nextOnWay_67 6 (v := v4 + (1 : Int32)) rfl rfl (by decide) (lv1 := [(4, .int (v4 + (1 : Int32))), (6, .int r4), (5, .int r3), (0, .ref (ad 2)), (1, .int v1), (2, .int v2), (3, .int v3)]) rfl ?_
            refine g_goto (tgt := 10) B dX6_nextOnWay_70 (by decide) ?_
            exact g_lv [3, 4, 5, 6, 0] rfl (ih _)
          · refine g_iload B dX6_nextOnWay_48 0 rfl ?_
            refine g_bipush (v := -9) B dX6_nextOnWay_50 (by decide) ?_
            refine g_icmp_eq (tgt := 67) B dX6_nextOnWay_52 (by decide) (fun c7 => ?_) (fun c7 => ?_)
            · refine g_iinc B dX6_nextOnWay_67 6 (v := v4 + (1 : Int32)) rfl rfl (by decide) (lv1 := [(4, .int (v4 + (1 : Int32))), (6, .int r4), (5, .int r3), (0, .ref (ad 2)), (1, .int v1), (2, .int v2), (3, .int v3)]) rfl ?_
              refine g_goto (tgt := 10) B dX6_nextOnWay_70 (by decide) ?_
              exact g_lv [3, 4, 5, 6, 0] rfl (ih _)
            · refine g_iload B dX6_nextOnWay_55 1 rfl ?_
              refine g_iload B dX6_nextOnWay_57 0 rfl ?_
              refine g_iadd B dX6_nextOnWay_59 ?_
              refine g_iload_n B dX6_nextOnWay_60 5 rfl rfl ?_
              refine g_icmp_ne (tgt := 67) B dX6_nextOnWay_61 (by decide) (fun c8 => ?_) (fun c8 => ?_)
              · refine g_iload B dX6_nextOnWay_64 6 rfl ?_
                exact g_iretp B hr hk dX6_nextOnWay_66
              · refine g_iinc B dX6_nextOnWay_67 6 (v := v4 + (1 : Int32)) rfl rfl (by decide) (lv1 := [(4, .int (v4 + (1 : Int32))), (6, .int r4), (5, .int r3), (0, .ref (ad 2)), (1, .int v1), (2, .int v2), (3, .int v3)]) rfl ?_
                refine g_goto (tgt := 10) B dX6_nextOnWay_70 (by decide) ?_
                exact g_lv [3, 4, 5, 6, 0] rfl (ih _)
  unfold d_X6_nextOnWay
  show GG p l e (headSpec wsX6_nextOnWay rm_X6_nextOnWay).room s m args below meth c D ad (shX ad cA) 37 7 (MQ below (QI D ad (shX ad cA) 37 s.heap.size (R0, M)) args s 0 0 (AX ad 37 s.heap.size)) R0 M 0 [(0, .ref (ad 2)), (1, .int v1), (2, .int v2)] [] _
  refine g_aload_n B dX6_nextOnWay_0 0 rfl rfl ?_
  refine g_iload_n B dX6_nextOnWay_1 1 rfl rfl ?_
  refine g_iload_n B dX6_nextOnWay_2 2 rfl rfl ?_
  refine g_callVIp (q := (RX6, TX6, 4)) (As := [.int v1, .int v2]) (st := []) B (k_X6_distance l D cA ad B.2.2.2.2.2.2.1 v1 v2 M) (cwV 2 B.2.2.2.2.1 gX6_nextOnWay_X6_distance rfl rfl rfl (by decide +kernel) ⟨Nat.le_of_ble_eq_true rfl, Nat.le_of_ble_eq_true rfl⟩) shX_st (by decide) rfl rfl rfl (Nat.le_of_ble_eq_true rfl) dX6_nextOnWay_3 (fun r1 _ => ?_)
  refine g_istore_n B dX6_nextOnWay_6 rfl (by decide) (lv1 := [(3, .int r1), (0, .ref (ad 2)), (1, .int v1), (2, .int v2)]) rfl ?_
  refine g_iconst (v := 0) B dX6_nextOnWay_7 (by decide) ?_
  refine g_istore B dX6_nextOnWay_8 (by decide) (lv1 := [(4, .int (0 : Int32)), (3, .int r1), (0, .ref (ad 2)), (1, .int v1), (2, .int v2)]) rfl ?_
  refine g_lv [2, 3, 4, 1, 0] rfl (hL10 _ _ _   FU _)

abbrev rm_X6_cornersOnWay : Room := { frames := 3, cells := 0, slots := 0, locals := 70 }
set_option maxHeartbeats 4000000 in
set_option maxRecDepth 100000 in
theorem k_X6_cornersOnWay (l : Launch) (D : va_G) (cA : Nat → ClassId) (ad : Nat → Nat) (had : adOK ad 37) (v1 : Int32) (v2 : Int32) (M : Mem) : CI l yX6_cornersOnWay wsX6_cornersOnWay rm_X6_cornersOnWay D cA ad (shX ad cA) 37 [.ref (ad 2), .int v1, .int v2] M (wM M (d_X6_cornersOnWay v1 v2 M)) := by
  refine CI_ofp (own := RX6) (cc := cX6_cornersOnWay) (maxL := 5) (rt := .int) had (by decide) rfl rfl (Nat.le_of_ble_eq_true rfl) ?_
  intro p e s m args below meth c R0 B hr hk
  have hL5 : ∀ (v2 : Int32)    , ∀ (f : Nat) (v3 : Int32) (v4 : Int32), GG p l e (headSpec wsX6_cornersOnWay rm_X6_cornersOnWay).room s m args below meth c D ad (shX ad cA) 37 5 (MQ below (QI D ad (shX ad cA) 37 s.heap.size (R0, M)) args s 0 0 (AX ad 37 s.heap.size)) R0 M 5 [(0, .ref (ad 2)), (2, .int v2), (3, .int v3), (4, .int v4)] [] (dX6_cornersOnWay_5l v2 M  f v3 v4 ) := by
    intro v2
    intro f
    induction f with
    | zero =>
      intro v3 v4
      exact g_none
    | succ f ih =>
      intro v3 v4
      rw [dX6_cornersOnWay_5l]
      refine g_iload B dX6_cornersOnWay_5 3 rfl ?_
      refine g_iload_n B dX6_cornersOnWay_7 1 rfl rfl ?_
      refine g_icmp_eq (tgt := 42) B dX6_cornersOnWay_8 (by decide) (fun c1 => ?_) (fun c1 => ?_)
      · refine g_iload_n B dX6_cornersOnWay_42 2 rfl rfl ?_
        exact g_iretp B hr hk dX6_cornersOnWay_43
      · refine g_iload_n B dX6_cornersOnWay_11 2 rfl rfl ?_
        refine g_bipush (v := 6) B dX6_cornersOnWay_12 (by decide) ?_
        refine g_icmp_gt (tgt := 42) B dX6_cornersOnWay_14 (by decide) (fun c2 => ?_) (fun c2 => ?_)
        · refine g_iload_n B dX6_cornersOnWay_42 2 rfl rfl ?_
          exact g_iretp B hr hk dX6_cornersOnWay_43
        · refine g_aload_n B dX6_cornersOnWay_17 0 rfl rfl ?_
          refine g_iload B dX6_cornersOnWay_18 3 rfl ?_
          refine g_iload_n B dX6_cornersOnWay_20 1 rfl rfl ?_
          refine g_callVIp (q := (RX6, TX6, 4)) (As := [.int v4, .int v2]) (st := []) B (k_X6_nextOnWay l D cA ad B.2.2.2.2.2.2.1 v4 v2 M) (cwV 2 B.2.2.2.2.1 gX6_cornersOnWay_X6_nextOnWay rfl rfl rfl (by decide +kernel) ⟨Nat.le_of_ble_eq_true rfl, Nat.le_of_ble_eq_true rfl⟩) shX_st (by decide) rfl rfl rfl (Nat.le_of_ble_eq_true rfl) dX6_cornersOnWay_21 (fun r3 _ => ?_)
          refine g_istore B dX6_cornersOnWay_24 (by decide) (lv1 := [(4, .int r3), (0, .ref (ad 2)), (2, .int v2), (3, .int v3)]) rfl ?_
          refine g_iload B dX6_cornersOnWay_26 0 rfl ?_
          refine g_bipush (v := -9) B dX6_cornersOnWay_28 (by decide) ?_
          refine g_icmp_ne (tgt := 36) B dX6_cornersOnWay_30 (by decide) (fun c4 => ?_) (fun c4 => ?_)
          · refine g_bipush (v := -9) B dX6_cornersOnWay_33 (by decide) ?_
            exact g_iretp B hr hk dX6_cornersOnWay_35
          · refine g_iinc B dX6_cornersOnWay_36 3 (v := v3 + (1 : Int32)) rfl rfl (by decide) (lv1 := [(3, .int (v3 + (1 : Int32))), (4, .int r3), (0, .ref (ad 2)), (2, .int v2)]) rfl ?_
            refine g_goto (tgt := 5) B dX6_cornersOnWay_39 (by decide) ?_
            exact g_lv [2, 3, 0, 1] rfl (ih _ _)
  unfold d_X6_cornersOnWay
  show GG p l e (headSpec wsX6_cornersOnWay rm_X6_cornersOnWay).room s m args below meth c D ad (shX ad cA) 37 5 (MQ below (QI D ad (shX ad cA) 37 s.heap.size (R0, M)) args s 0 0 (AX ad 37 s.heap.size)) R0 M 0 [(0, .ref (ad 2)), (1, .int v1), (2, .int v2)] [] _
  refine g_iconst (v := 1) B dX6_cornersOnWay_0 (by decide) ?_
  refine g_istore_n B dX6_cornersOnWay_1 rfl (by decide) (lv1 := [(3, .int (1 : Int32)), (0, .ref (ad 2)), (1, .int v1), (2, .int v2)]) rfl ?_
  refine g_iload_n B dX6_cornersOnWay_2 2 rfl rfl ?_
  refine g_istore B dX6_cornersOnWay_3 (by decide) (lv1 := [(4, .int v1), (3, .int (1 : Int32)), (0, .ref (ad 2)), (1, .int v1), (2, .int v2)]) rfl ?_
  refine g_lv [2, 4, 1, 0] rfl (hL5 _   FU _ _)

abbrev rm_X6_cornerOnWay : Room := { frames := 3, cells := 0, slots := 0, locals := 70 }
set_option maxHeartbeats 4000000 in
set_option maxRecDepth 100000 in
theorem k_X6_cornerOnWay (l : Launch) (D : va_G) (cA : Nat → ClassId) (ad : Nat → Nat) (had : adOK ad 37) (v1 : Int32) (v2 : Int32) (v3 : Int32) (M : Mem) : CI l yX6_cornerOnWay wsX6_cornerOnWay rm_X6_cornerOnWay D cA ad (shX ad cA) 37 [.ref (ad 2), .int v1, .int v2, .int v3] M (wM M (d_X6_cornerOnWay v1 v2 v3 M)) := by
  refine CI_ofp (own := RX6) (cc := cX6_cornerOnWay) (maxL := 6) (rt := .int) had (by decide) rfl rfl (Nat.le_of_ble_eq_true rfl) ?_
  intro p e s m args below meth c R0 B hr hk
  have hL20 : ∀ (v2 : Int32) (v3 : Int32)    , ∀ (f : Nat) (v4 : Int32) (v5 : Int32), GG p l e (headSpec wsX6_cornerOnWay rm_X6_cornerOnWay).room s m args below meth c D ad (shX ad cA) 37 6 (MQ below (QI D ad (shX ad cA) 37 s.heap.size (R0, M)) args s 0 0 (AX ad 37 s.heap.size)) R0 M 20 [(0, .ref (ad 2)), (2, .int v2), (3, .int v3), (4, .int v4), (5, .int v5)] [] (dX6_cornerOnWay_20l v2 v3 M  f v4 v5 ) := by
    intro v2 v3
    intro f
    induction f with
    | zero =>
      intro v4 v5
      exact g_none
    | succ f ih =>
      intro v4 v5
      rw [dX6_cornerOnWay_20l]
      refine g_iload B dX6_cornerOnWay_20 4 rfl ?_
      refine g_iload_n B dX6_cornerOnWay_22 2 rfl rfl ?_
      refine g_icmp_ge (tgt := 48) B dX6_cornerOnWay_23 (by decide) (fun c3 => ?_) (fun c3 => ?_)
      · refine g_iload B dX6_cornerOnWay_48 3 rfl ?_
        exact g_iretp B hr hk dX6_cornerOnWay_50
      · refine g_iload B dX6_cornerOnWay_26 3 rfl ?_
        refine g_bipush (v := -9) B dX6_cornerOnWay_28 (by decide) ?_
        refine g_icmp_eq (tgt := 48) B dX6_cornerOnWay_30 (by decide) (fun c4 => ?_) (fun c4 => ?_)
        · refine g_iload B dX6_cornerOnWay_48 3 rfl ?_
          exact g_iretp B hr hk dX6_cornerOnWay_50
        · refine g_aload_n B dX6_cornerOnWay_33 0 rfl rfl ?_
          refine g_iload B dX6_cornerOnWay_34 3 rfl ?_
          refine g_iload_n B dX6_cornerOnWay_36 1 rfl rfl ?_
          refine g_callVIp (q := (RX6, TX6, 4)) (As := [.int v4, .int v2]) (st := []) B (k_X6_nextOnWay l D cA ad B.2.2.2.2.2.2.1 v4 v2 M) (cwV 2 B.2.2.2.2.1 gX6_cornerOnWay_X6_nextOnWay rfl rfl rfl (by decide +kernel) ⟨Nat.le_of_ble_eq_true rfl, Nat.le_of_ble_eq_true rfl⟩) shX_st (by decide) rfl rfl rfl (Nat.le_of_ble_eq_true rfl) dX6_cornerOnWay_37 (fun r5 _ => ?_)
          refine g_istore B dX6_cornerOnWay_40 (by decide) (lv1 := [(4, .int r5), (0, .ref (ad 2)), (2, .int v2), (3, .int v3), (5, .int v5)]) rfl ?_
          refine g_iinc B dX6_cornerOnWay_42 4 (v := v5 + (1 : Int32)) rfl rfl (by decide) (lv1 := [(5, .int (v5 + (1 : Int32))), (4, .int r5), (0, .ref (ad 2)), (2, .int v2), (3, .int v3)]) rfl ?_
          refine g_goto (tgt := 20) B dX6_cornerOnWay_45 (by decide) ?_
          exact g_lv [2, 3, 4, 1, 0] rfl (ih _ _)
  unfold d_X6_cornerOnWay
  show GG p l e (headSpec wsX6_cornerOnWay rm_X6_cornerOnWay).room s m args below meth c D ad (shX ad cA) 37 6 (MQ below (QI D ad (shX ad cA) 37 s.heap.size (R0, M)) args s 0 0 (AX ad 37 s.heap.size)) R0 M 0 [(0, .ref (ad 2)), (1, .int v1), (2, .int v2), (3, .int v3)] [] _
  refine g_aload_n B dX6_cornerOnWay_0 0 rfl rfl ?_
  refine g_iload_n B dX6_cornerOnWay_1 1 rfl rfl ?_
  refine g_iload_n B dX6_cornerOnWay_2 2 rfl rfl ?_
  refine g_callVIp (q := (RX6, TX6, 4)) (As := [.int v1, .int v2]) (st := []) B (k_X6_distance l D cA ad B.2.2.2.2.2.2.1 v1 v2 M) (cwV 2 B.2.2.2.2.1 gX6_cornerOnWay_X6_distance rfl rfl rfl (by decide +kernel) ⟨Nat.le_of_ble_eq_true rfl, Nat.le_of_ble_eq_true rfl⟩) shX_st (by decide) rfl rfl rfl (Nat.le_of_ble_eq_true rfl) dX6_cornerOnWay_3 (fun r1 _ => ?_)
  refine g_bipush (v := -9) B dX6_cornerOnWay_6 (by decide) ?_
  refine g_icmp_ne (tgt := 14) B dX6_cornerOnWay_8 (by decide) (fun c2 => ?_) (fun c2 => ?_)
  · refine g_bipush (v := -9) B dX6_cornerOnWay_11 (by decide) ?_
    exact g_iretp B hr hk dX6_cornerOnWay_13
  · refine g_iload_n B dX6_cornerOnWay_14 1 rfl rfl ?_
    refine g_istore B dX6_cornerOnWay_15 (by decide) (lv1 := [(4, .int v1), (0, .ref (ad 2)), (1, .int v1), (2, .int v2), (3, .int v3)]) rfl ?_
    refine g_iconst (v := 0) B dX6_cornerOnWay_17 (by decide) ?_
    refine g_istore B dX6_cornerOnWay_18 (by decide) (lv1 := [(5, .int (0 : Int32)), (4, .int v1), (0, .ref (ad 2)), (1, .int v1), (2, .int v2), (3, .int v3)]) rfl ?_
    refine g_lv [2, 4, 5, 1, 0] rfl (hL20 _ _   FU _ _)

abbrev rm_X8_way : Room := { frames := 4, cells := 0, slots := 0, locals := 95 }
set_option maxHeartbeats 4000000 in
set_option maxRecDepth 100000 in
theorem k_X8_way (l : Launch) (D : va_G) (cA : Nat → ClassId) (ad : Nat → Nat) (had : adOK ad 37) (v1 : Int32) (v2 : Int32) (v3 : Int32) (M : Mem) : CI l yX8_way wsX8_way rm_X8_way D cA ad (shX ad cA) 37 [.ref (ad 0), .int v1, .int v2, .int v3] M (wM M (d_X8_way v1 v2 v3 M)) := by
  refine CI_ofp (own := RX8) (cc := cX8_way) (maxL := 4) (rt := .int) had (by decide) rfl rfl (Nat.le_of_ble_eq_true rfl) ?_
  intro p e s m args below meth c R0 B hr hk
  unfold d_X8_way
  show GG p l e (headSpec wsX8_way rm_X8_way).room s m args below meth c D ad (shX ad cA) 37 4 (MQ below (QI D ad (shX ad cA) 37 s.heap.size (R0, M)) args s 0 0 (AX ad 37 s.heap.size)) R0 M 0 [(0, .ref (ad 0)), (1, .int v1), (2, .int v2), (3, .int v3)] [] _
  refine g_aload_n B dX8_way_0 0 rfl rfl ?_
  refine g_get (v := .ref (ad 2)) B shX_pw (by decide) in_X8_way_X8 rfl 1 (by decide) (List.mem_of_getElem? (i := 1) rfl) rfl rfl dX8_way_1 ?_
  refine g_iload_n B dX8_way_4 1 rfl rfl ?_
  refine g_callVIp (q := (RX6, TX6, 4)) (As := [.int v1]) (st := []) B (k_X6_has l D cA ad B.2.2.2.2.2.2.1 v1 M) (cwV 1 B.2.2.2.2.1 gX8_way_X6_has rfl rfl rfl (by decide +kernel) ⟨Nat.le_of_ble_eq_true rfl, Nat.le_of_ble_eq_true rfl⟩) shX_st (by decide) rfl rfl rfl (Nat.le_of_ble_eq_true rfl) dX8_way_5 (fun r1 _ => ?_)
  refine g_if_eq (tgt := 22) B dX8_way_8 (by decide) (fun c2 => ?_) (fun c2 => ?_)
  · refine g_iconst (v := -1) B dX8_way_22 (by decide) ?_
    exact g_iretp B hr hk dX8_way_23
  · refine g_aload_n B dX8_way_11 0 rfl rfl ?_
    refine g_get (v := .ref (ad 2)) B shX_pw (by decide) in_X8_way_X8 rfl 1 (by decide) (List.mem_of_getElem? (i := 1) rfl) rfl rfl dX8_way_12 ?_
    refine g_iload_n B dX8_way_15 2 rfl rfl ?_
    refine g_callVIp (q := (RX6, TX6, 4)) (As := [.int v2]) (st := []) B (k_X6_has l D cA ad B.2.2.2.2.2.2.1 v2 M) (cwV 1 B.2.2.2.2.1 gX8_way_X6_has rfl rfl rfl (by decide +kernel) ⟨Nat.le_of_ble_eq_true rfl, Nat.le_of_ble_eq_true rfl⟩) shX_st (by decide) rfl rfl rfl (Nat.le_of_ble_eq_true rfl) dX8_way_16 (fun r3 _ => ?_)
    refine g_if_ne (tgt := 24) B dX8_way_19 (by decide) (fun c4 => ?_) (fun c4 => ?_)
    · refine g_iconst (v := -1) B dX8_way_22 (by decide) ?_
      exact g_iretp B hr hk dX8_way_23
    · refine g_iload_n B dX8_way_24 3 rfl rfl ?_
      refine g_iconst (v := -1) B dX8_way_25 (by decide) ?_
      refine g_icmp_lt (tgt := 35) B dX8_way_26 (by decide) (fun c5 => ?_) (fun c5 => ?_)
      · refine g_bipush (v := -2) B dX8_way_35 (by decide) ?_
        exact g_iretp B hr hk dX8_way_37
      · refine g_iload_n B dX8_way_29 3 rfl rfl ?_
        refine g_bipush (v := 6) B dX8_way_30 (by decide) ?_
        refine g_icmp_lt (tgt := 38) B dX8_way_32 (by decide) (fun c6 => ?_) (fun c6 => ?_)
        · refine g_iload_n B dX8_way_38 3 rfl rfl ?_
          refine g_iconst (v := -1) B dX8_way_39 (by decide) ?_
          refine g_icmp_ne (tgt := 55) B dX8_way_40 (by decide) (fun c7 => ?_) (fun c7 => ?_)
          · refine g_aload_n B dX8_way_43 0 rfl rfl ?_
            refine g_get (v := .ref (ad 2)) B shX_pw (by decide) in_X8_way_X8 rfl 1 (by decide) (List.mem_of_getElem? (i := 1) rfl) rfl rfl dX8_way_44 ?_
            refine g_iload_n B dX8_way_47 1 rfl rfl ?_
            refine g_iload_n B dX8_way_48 2 rfl rfl ?_
            refine g_callVIp (q := (RX6, TX6, 4)) (As := [.int v1, .int v2]) (st := []) B (k_X6_cornersOnWay l D cA ad B.2.2.2.2.2.2.1 v1 v2 M) (cwV 2 B.2.2.2.2.1 gX8_way_X6_cornersOnWay rfl rfl rfl (by decide +kernel) ⟨Nat.le_of_ble_eq_true rfl, Nat.le_of_ble_eq_true rfl⟩) shX_st (by decide) rfl rfl rfl (Nat.le_of_ble_eq_true rfl) dX8_way_49 (fun r9 _ => ?_)
            refine g_goto (tgt := 65) B dX8_way_52 (by decide) ?_
            exact g_iretp B hr hk dX8_way_65
          · refine g_aload_n B dX8_way_55 0 rfl rfl ?_
            refine g_get (v := .ref (ad 2)) B shX_pw (by decide) in_X8_way_X8 rfl 1 (by decide) (List.mem_of_getElem? (i := 1) rfl) rfl rfl dX8_way_56 ?_
            refine g_iload_n B dX8_way_59 1 rfl rfl ?_
            refine g_iload_n B dX8_way_60 2 rfl rfl ?_
            refine g_iload_n B dX8_way_61 3 rfl rfl ?_
            refine g_callVIp (q := (RX6, TX6, 4)) (As := [.int v1, .int v2, .int v3]) (st := []) B (k_X6_cornerOnWay l D cA ad B.2.2.2.2.2.2.1 v1 v2 v3 M) (cwV 3 B.2.2.2.2.1 gX8_way_X6_cornerOnWay rfl rfl rfl (by decide +kernel) ⟨Nat.le_of_ble_eq_true rfl, Nat.le_of_ble_eq_true rfl⟩) shX_st (by decide) rfl rfl rfl (Nat.le_of_ble_eq_true rfl) dX8_way_62 (fun r8 _ => ?_)
            exact g_iretp B hr hk dX8_way_65
        · refine g_bipush (v := -2) B dX8_way_35 (by decide) ?_
          exact g_iretp B hr hk dX8_way_37

abbrev rm_X8_round : Room := { frames := 2, cells := 0, slots := 0, locals := 44 }
set_option maxHeartbeats 4000000 in
set_option maxRecDepth 100000 in
theorem k_X8_round (l : Launch) (D : va_G) (cA : Nat → ClassId) (ad : Nat → Nat) (had : adOK ad 37) (v1 : Int32) (v2 : Int32) (M : Mem) : CI l yX8_round wsX8_round rm_X8_round D cA ad (shX ad cA) 37 [.ref (ad 0), .int v1, .int v2] M (wM M (d_X8_round v1 v2 M)) := by
  refine CI_ofp (own := RX8) (cc := cX8_round) (maxL := 7) (rt := .int) had (by decide) rfl rfl (Nat.le_of_ble_eq_true rfl) ?_
  intro p e s m args below meth c R0 B hr hk
  unfold d_X8_round
  show GG p l e (headSpec wsX8_round rm_X8_round).room s m args below meth c D ad (shX ad cA) 37 7 (MQ below (QI D ad (shX ad cA) 37 s.heap.size (R0, M)) args s 0 0 (AX ad 37 s.heap.size)) R0 M 0 [(0, .ref (ad 0)), (1, .int v1), (2, .int v2)] [] _
  refine g_aload_n B dX8_round_0 0 rfl rfl ?_
  refine g_get (v := .ref (ad 6)) B shX_pw (by decide) in_X8_round_X8 rfl 2 (by decide) (List.mem_of_getElem? (i := 1) rfl) rfl rfl dX8_round_1 ?_
  refine g_iload_n B dX8_round_4 1 rfl rfl ?_
  refine g_callVIp (q := (RX0, TX0, 2)) (As := [.int v1]) (st := []) B (k_X0_has l D cA ad B.2.2.2.2.2.2.1 6 co6 v1 M) (cwV 1 B.2.2.2.2.1 gX8_round_X0_has rfl rfl rfl (by decide +kernel) ⟨Nat.le_of_ble_eq_true rfl, Nat.le_of_ble_eq_true rfl⟩) (shX_co co6) (co_lt co6) rfl rfl rfl (Nat.le_of_ble_eq_true rfl) dX8_round_5 (fun r1 _ => ?_)
  refine g_if_eq (tgt := 22) B dX8_round_8 (by decide) (fun c2 => ?_) (fun c2 => ?_)
  · refine g_iconst (v := -1) B dX8_round_22 (by decide) ?_
    exact g_iretp B hr hk dX8_round_23
  · refine g_aload_n B dX8_round_11 0 rfl rfl ?_
    refine g_get (v := .ref (ad 2)) B shX_pw (by decide) in_X8_round_X8 rfl 1 (by decide) (List.mem_of_getElem? (i := 2) rfl) rfl rfl dX8_round_12 ?_
    refine g_iload_n B dX8_round_15 2 rfl rfl ?_
    refine g_callVIp (q := (RX6, TX6, 4)) (As := [.int v2]) (st := []) B (k_X6_has l D cA ad B.2.2.2.2.2.2.1 v2 M) (cwV 1 B.2.2.2.2.1 gX8_round_X6_has rfl rfl rfl (by decide +kernel) ⟨Nat.le_of_ble_eq_true rfl, Nat.le_of_ble_eq_true rfl⟩) shX_st (by decide) rfl rfl rfl (Nat.le_of_ble_eq_true rfl) dX8_round_16 (fun r3 _ => ?_)
    refine g_if_ne (tgt := 24) B dX8_round_19 (by decide) (fun c4 => ?_) (fun c4 => ?_)
    · refine g_iconst (v := -1) B dX8_round_22 (by decide) ?_
      exact g_iretp B hr hk dX8_round_23
    · refine g_aload_n B dX8_round_24 0 rfl rfl ?_
      refine g_get (v := .ref (ad 6)) B shX_pw (by decide) in_X8_round_X8 rfl 2 (by decide) (List.mem_of_getElem? (i := 1) rfl) rfl rfl dX8_round_25 ?_
      refine g_getN (v := .ref (ad (6 + 1))) B (shX_co co6) (co_lt co6) in_X8_round_X0 rfl 0 (by decide) 16 rfl rfl rfl dX8_round_28 ?_
      refine g_iload_n B dX8_round_31 1 rfl rfl ?_
      refine g_aald (g := (ft 6)) B 1 rfl (shX_fts co6) (fts_lt co6) dX8_round_32 (fun b5 => ?_)
      have f6 := (ft_ok co6 b5)
      refine g_astore_n B dX8_round_33 rfl (by decide) (lv1 := [(3, .ref (ad ((ft 6) v1.toNatClampNeg))), (0, .ref (ad 0)), (1, .int v1), (2, .int v2)]) rfl ?_
      refine g_aload_n B dX8_round_34 1 rfl rfl ?_
      refine g_get (v := .ref (ad 2)) B shX_pw (by decide) in_X8_round_X8 rfl 1 (by decide) (List.mem_of_getElem? (i := 2) rfl) rfl rfl dX8_round_35 ?_
      refine g_aload_n B dX8_round_38 0 rfl rfl ?_
      refine g_getN (v := .int (M ((ft 6) v1.toNatClampNeg) 1)) B (shX_ft f6) (ft_lt f6) in_X8_round_X2 rfl 1 (by decide) 5 rfl rfl rfl dX8_round_39 ?_
      refine g_aload_n B dX8_round_42 0 rfl rfl ?_
      refine g_getN (v := .int (M ((ft 6) v1.toNatClampNeg) 2)) B (shX_ft f6) (ft_lt f6) in_X8_round_X2 rfl 2 (by decide) 8 rfl rfl rfl dX8_round_43 ?_
      refine g_callVIp (q := (RX6, TX6, 4)) (As := [.int (M ((ft 6) v1.toNatClampNeg) 1), .int (M ((ft 6) v1.toNatClampNeg) 2)]) (st := []) B (k_X6_distance l D cA ad B.2.2.2.2.2.2.1 (M ((ft 6) v1.toNatClampNeg) 1) (M ((ft 6) v1.toNatClampNeg) 2) M) (cwV 2 B.2.2.2.2.1 gX8_round_X6_distance rfl rfl rfl (by decide +kernel) ⟨Nat.le_of_ble_eq_true rfl, Nat.le_of_ble_eq_true rfl⟩) shX_st (by decide) rfl rfl rfl (Nat.le_of_ble_eq_true rfl) dX8_round_46 (fun r7 _ => ?_)
      refine g_istore B dX8_round_49 (by decide) (lv1 := [(4, .int r7), (3, .ref (ad ((ft 6) v1.toNatClampNeg))), (0, .ref (ad 0)), (1, .int v1), (2, .int v2)]) rfl ?_
      refine g_aload_n B dX8_round_51 2 rfl rfl ?_
      refine g_get (v := .ref (ad 2)) B shX_pw (by decide) in_X8_round_X8 rfl 1 (by decide) (List.mem_of_getElem? (i := 2) rfl) rfl rfl dX8_round_52 ?_
      refine g_aload_n B dX8_round_55 1 rfl rfl ?_
      refine g_getN (v := .int (M ((ft 6) v1.toNatClampNeg) 1)) B (shX_ft f6) (ft_lt f6) in_X8_round_X2 rfl 1 (by decide) 5 rfl rfl rfl dX8_round_56 ?_
      refine g_iload_n B dX8_round_59 4 rfl rfl ?_
      refine g_callVIp (q := (RX6, TX6, 4)) (As := [.int (M ((ft 6) v1.toNatClampNeg) 1), .int v2]) (st := []) B (k_X6_distance l D cA ad B.2.2.2.2.2.2.1 (M ((ft 6) v1.toNatClampNeg) 1) v2 M) (cwV 2 B.2.2.2.2.1 gX8_round_X6_distance rfl rfl rfl (by decide +kernel) ⟨Nat.le_of_ble_eq_true rfl, Nat.le_of_ble_eq_true rfl⟩) shX_st (by decide) rfl rfl rfl (Nat.le_of_ble_eq_true rfl) dX8_round_60 (fun r8 _ => ?_)
      refine g_istore B dX8_round_63 (by decide) (lv1 := [(5, .int r8), (4, .int r7), (3, .ref (ad ((ft 6) v1.toNatClampNeg))), (0, .ref (ad 0)), (1, .int v1), (2, .int v2)]) rfl ?_
      refine g_aload_n B dX8_round_65 3 rfl rfl ?_
      refine g_get (v := .ref (ad 2)) B shX_pw (by decide) in_X8_round_X8 rfl 1 (by decide) (List.mem_of_getElem? (i := 2) rfl) rfl rfl dX8_round_66 ?_
      refine g_iload_n B dX8_round_69 5 rfl rfl ?_
      refine g_aload_n B dX8_round_70 2 rfl rfl ?_
      refine g_getN (v := .int (M ((ft 6) v1.toNatClampNeg) 2)) B (shX_ft f6) (ft_lt f6) in_X8_round_X2 rfl 2 (by decide) 8 rfl rfl rfl dX8_round_71 ?_
      refine g_callVIp (q := (RX6, TX6, 4)) (As := [.int v2, .int (M ((ft 6) v1.toNatClampNeg) 2)]) (st := []) B (k_X6_distance l D cA ad B.2.2.2.2.2.2.1 v2 (M ((ft 6) v1.toNatClampNeg) 2) M) (cwV 2 B.2.2.2.2.1 gX8_round_X6_distance rfl rfl rfl (by decide +kernel) ⟨Nat.le_of_ble_eq_true rfl, Nat.le_of_ble_eq_true rfl⟩) shX_st (by decide) rfl rfl rfl (Nat.le_of_ble_eq_true rfl) dX8_round_74 (fun r9 _ => ?_)
      refine g_istore B dX8_round_77 (by decide) (lv1 := [(6, .int r9), (5, .int r8), (4, .int r7), (3, .ref (ad ((ft 6) v1.toNatClampNeg))), (0, .ref (ad 0)), (1, .int v1), (2, .int v2)]) rfl ?_
      refine g_iload B dX8_round_79 2 rfl ?_
      refine g_bipush (v := -9) B dX8_round_81 (by decide) ?_
      refine g_icmp_eq (tgt := 100) B dX8_round_83 (by decide) (fun c10 => ?_) (fun c10 => ?_)
      · refine g_bipush (v := -9) B dX8_round_100 (by decide) ?_
        exact g_iretp B hr hk dX8_round_102
      · refine g_iload B dX8_round_86 1 rfl ?_
        refine g_bipush (v := -9) B dX8_round_88 (by decide) ?_
        refine g_icmp_eq (tgt := 100) B dX8_round_90 (by decide) (fun c11 => ?_) (fun c11 => ?_)
        · refine g_bipush (v := -9) B dX8_round_100 (by decide) ?_
          exact g_iretp B hr hk dX8_round_102
        · refine g_iload B dX8_round_93 0 rfl ?_
          refine g_bipush (v := -9) B dX8_round_95 (by decide) ?_
          refine g_icmp_ne (tgt := 103) B dX8_round_97 (by decide) (fun c12 => ?_) (fun c12 => ?_)
          · refine g_bipush (v := -9) B dX8_round_100 (by decide) ?_
            exact g_iretp B hr hk dX8_round_102
          · refine g_iload B dX8_round_103 1 rfl ?_
            refine g_iload B dX8_round_105 0 rfl ?_
            refine g_iadd B dX8_round_107 ?_
            refine g_iload B dX8_round_108 2 rfl ?_
            refine g_isub B dX8_round_110 ?_
            exact g_iretp B hr hk dX8_round_111

abbrev rm_X8_daysFor : Room := { frames := 0, cells := 0, slots := 0, locals := 0 }
set_option maxHeartbeats 4000000 in
set_option maxRecDepth 100000 in
theorem k_X8_daysFor (l : Launch) (D : va_G) (cA : Nat → ClassId) (ad : Nat → Nat) (had : adOK ad 37) (v0 : Int32) (v1 : Int32) (M : Mem) : CI l yX8_daysFor wsX8_daysFor rm_X8_daysFor D cA ad (shX ad cA) 37 [.int v0, .int v1] M (wM M (d_X8_daysFor v0 v1 M)) := by
  refine CI_ofp (own := RX8) (cc := cX8_daysFor) (maxL := 2) (rt := .int) had (by decide) rfl rfl (Nat.le_of_ble_eq_true rfl) ?_
  intro p e s m args below meth c R0 B hr hk
  unfold d_X8_daysFor
  show GG p l e (headSpec wsX8_daysFor rm_X8_daysFor).room s m args below meth c D ad (shX ad cA) 37 2 (MQ below (QI D ad (shX ad cA) 37 s.heap.size (R0, M)) args s 0 0 (AX ad 37 s.heap.size)) R0 M 0 [(0, .int v0), (1, .int v1)] [] _
  refine g_iload_n B dX8_daysFor_0 0 rfl rfl ?_
  refine g_if_gt (tgt := 6) B dX8_daysFor_1 (by decide) (fun c1 => ?_) (fun c1 => ?_)
  · refine g_iload_n B dX8_daysFor_6 1 rfl rfl ?_
    refine g_iconst (v := 1) B dX8_daysFor_7 (by decide) ?_
    refine g_icmp_ge (tgt := 15) B dX8_daysFor_8 (by decide) (fun c2 => ?_) (fun c2 => ?_)
    · refine g_iload_n B dX8_daysFor_15 0 rfl rfl ?_
      refine g_iload_n B dX8_daysFor_16 1 rfl rfl ?_
      refine g_iadd B dX8_daysFor_17 ?_
      refine g_iconst (v := 1) B dX8_daysFor_18 (by decide) ?_
      refine g_isub B dX8_daysFor_19 ?_
      refine g_iload_n B dX8_daysFor_20 1 rfl rfl ?_
      refine g_idiv B dX8_daysFor_21 ?_
      exact g_iretp B hr hk dX8_daysFor_22
    · refine g_ldcw (v := 1000000) B dX8_daysFor_11 (List.mem_of_getElem? (i := 1) rfl) ?_
      exact g_iretp B hr hk dX8_daysFor_14
  · refine g_iconst (v := 0) B dX8_daysFor_4 (by decide) ?_
    exact g_iretp B hr hk dX8_daysFor_5

abbrev rm_X8_kept : Room := { frames := 3, cells := 0, slots := 0, locals := 66 }
set_option maxHeartbeats 4000000 in
set_option maxRecDepth 100000 in
theorem k_X8_kept (l : Launch) (D : va_G) (cA : Nat → ClassId) (ad : Nat → Nat) (had : adOK ad 37) (v1 : Int32) (M : Mem) : CI l yX8_kept wsX8_kept rm_X8_kept D cA ad (shX ad cA) 37 [.ref (ad 0), .int v1] M (wM M (d_X8_kept v1 M)) := by
  refine CI_ofp (own := RX8) (cc := cX8_kept) (maxL := 4) (rt := .int) had (by decide) rfl rfl (Nat.le_of_ble_eq_true rfl) ?_
  intro p e s m args below meth c R0 B hr hk
  unfold d_X8_kept
  show GG p l e (headSpec wsX8_kept rm_X8_kept).room s m args below meth c D ad (shX ad cA) 37 4 (MQ below (QI D ad (shX ad cA) 37 s.heap.size (R0, M)) args s 0 0 (AX ad 37 s.heap.size)) R0 M 0 [(0, .ref (ad 0)), (1, .int v1)] [] _
  refine g_aload_n B dX8_kept_0 0 rfl rfl ?_
  refine g_get (v := .ref (ad 6)) B shX_pw (by decide) in_X8_kept_X8 rfl 2 (by decide) (List.mem_of_getElem? (i := 1) rfl) rfl rfl dX8_kept_1 ?_
  refine g_iload_n B dX8_kept_4 1 rfl rfl ?_
  refine g_callVIp (q := (RX0, TX0, 2)) (As := [.int v1]) (st := []) B (k_X0_has l D cA ad B.2.2.2.2.2.2.1 6 co6 v1 M) (cwV 1 B.2.2.2.2.1 gX8_kept_X0_has rfl rfl rfl (by decide +kernel) ⟨Nat.le_of_ble_eq_true rfl, Nat.le_of_ble_eq_true rfl⟩) (shX_co co6) (co_lt co6) rfl rfl rfl (Nat.le_of_ble_eq_true rfl) dX8_kept_5 (fun r1 _ => ?_)
  refine g_if_ne (tgt := 13) B dX8_kept_8 (by decide) (fun c2 => ?_) (fun c2 => ?_)
  · refine g_iconst (v := -1) B dX8_kept_11 (by decide) ?_
    exact g_iretp B hr hk dX8_kept_12
  · refine g_aload_n B dX8_kept_13 0 rfl rfl ?_
    refine g_get (v := .ref (ad 6)) B shX_pw (by decide) in_X8_kept_X8 rfl 2 (by decide) (List.mem_of_getElem? (i := 1) rfl) rfl rfl dX8_kept_14 ?_
    refine g_getN (v := .ref (ad (6 + 1))) B (shX_co co6) (co_lt co6) in_X8_kept_X0 rfl 0 (by decide) 16 rfl rfl rfl dX8_kept_17 ?_
    refine g_iload_n B dX8_kept_20 1 rfl rfl ?_
    refine g_aald (g := (ft 6)) B 1 rfl (shX_fts co6) (fts_lt co6) dX8_kept_21 (fun b3 => ?_)
    have f4 := (ft_ok co6 b3)
    refine g_astore_n B dX8_kept_22 rfl (by decide) (lv1 := [(2, .ref (ad ((ft 6) v1.toNatClampNeg))), (0, .ref (ad 0)), (1, .int v1)]) rfl ?_
    refine g_aload_n B dX8_kept_23 0 rfl rfl ?_
    refine g_aload_n B dX8_kept_24 1 rfl rfl ?_
    refine g_get (v := .ref (ad 2)) B shX_pw (by decide) in_X8_kept_X8 rfl 1 (by decide) (List.mem_of_getElem? (i := 2) rfl) rfl rfl dX8_kept_25 ?_
    refine g_callVIp (q := (RX2, TX2, 6)) (As := [.ref (ad 2)]) (st := []) B (k_X2_hasArrived l D cA ad B.2.2.2.2.2.2.1 ((ft 6) v1.toNatClampNeg) f4 M) (cwV 1 B.2.2.2.2.1 gX8_kept_X2_hasArrived rfl rfl rfl (by decide +kernel) ⟨Nat.le_of_ble_eq_true rfl, Nat.le_of_ble_eq_true rfl⟩) (shX_ft f4) (ft_lt f4) rfl rfl rfl (Nat.le_of_ble_eq_true rfl) dX8_kept_28 (fun r5 _ => ?_)
    refine g_if_eq (tgt := 36) B dX8_kept_31 (by decide) (fun c6 => ?_) (fun c6 => ?_)
    · refine g_aload_n B dX8_kept_36 1 rfl rfl ?_
      refine g_get (v := .ref (ad 2)) B shX_pw (by decide) in_X8_kept_X8 rfl 1 (by decide) (List.mem_of_getElem? (i := 2) rfl) rfl rfl dX8_kept_37 ?_
      refine g_aload_n B dX8_kept_40 0 rfl rfl ?_
      refine g_getN (v := .int (M ((ft 6) v1.toNatClampNeg) 1)) B (shX_ft f4) (ft_lt f4) in_X8_kept_X2 rfl 1 (by decide) 5 rfl rfl rfl dX8_kept_41 ?_
      refine g_aload_n B dX8_kept_44 0 rfl rfl ?_
      refine g_getN (v := .int (M ((ft 6) v1.toNatClampNeg) 2)) B (shX_ft f4) (ft_lt f4) in_X8_kept_X2 rfl 2 (by decide) 8 rfl rfl rfl dX8_kept_45 ?_
      refine g_callVIp (q := (RX6, TX6, 4)) (As := [.int (M ((ft 6) v1.toNatClampNeg) 1), .int (M ((ft 6) v1.toNatClampNeg) 2)]) (st := []) B (k_X6_distance l D cA ad B.2.2.2.2.2.2.1 (M ((ft 6) v1.toNatClampNeg) 1) (M ((ft 6) v1.toNatClampNeg) 2) M) (cwV 2 B.2.2.2.2.1 gX8_kept_X6_distance rfl rfl rfl (by decide +kernel) ⟨Nat.le_of_ble_eq_true rfl, Nat.le_of_ble_eq_true rfl⟩) shX_st (by decide) rfl rfl rfl (Nat.le_of_ble_eq_true rfl) dX8_kept_48 (fun r7 _ => ?_)
      refine g_istore_n B dX8_kept_51 rfl (by decide) (lv1 := [(3, .int r7), (2, .ref (ad ((ft 6) v1.toNatClampNeg))), (0, .ref (ad 0)), (1, .int v1)]) rfl ?_
      refine g_aload_n B dX8_kept_52 1 rfl rfl ?_
      refine g_getN (v := .int (M ((ft 6) v1.toNatClampNeg) 5)) B (shX_ft f4) (ft_lt f4) in_X8_kept_X2 rfl 5 (by decide) 15 rfl rfl rfl dX8_kept_53 ?_
      refine g_if_ne (tgt := 65) B dX8_kept_56 (by decide) (fun c8 => ?_) (fun c8 => ?_)
      · refine g_iload_n B dX8_kept_59 0 rfl rfl ?_
        refine g_bipush (v := -9) B dX8_kept_60 (by decide) ?_
        refine g_icmp_ne (tgt := 68) B dX8_kept_62 (by decide) (fun c9 => ?_) (fun c9 => ?_)
        · refine g_bipush (v := -9) B dX8_kept_65 (by decide) ?_
          exact g_iretp B hr hk dX8_kept_67
        · refine g_iload_n B dX8_kept_68 0 rfl rfl ?_
          refine g_aload_n B dX8_kept_69 1 rfl rfl ?_
          refine g_getN (v := .int (M ((ft 6) v1.toNatClampNeg) 4)) B (shX_ft f4) (ft_lt f4) in_X8_kept_X2 rfl 4 (by decide) 12 rfl rfl rfl dX8_kept_70 ?_
          refine g_isub B dX8_kept_73 ?_
          refine g_aload_n B dX8_kept_74 1 rfl rfl ?_
          refine g_callVIp (q := (RX2, TX2, 6)) (As := []) (st := [.int (r7 - (M ((ft 6) v1.toNatClampNeg) 4))]) B (k_X2_pace l D cA ad B.2.2.2.2.2.2.1 ((ft 6) v1.toNatClampNeg) f4 M) (cwV 0 B.2.2.2.2.1 gX8_kept_X2_pace rfl rfl rfl (by decide +kernel) ⟨Nat.le_of_ble_eq_true rfl, Nat.le_of_ble_eq_true rfl⟩) (shX_ft f4) (ft_lt f4) rfl rfl rfl (Nat.le_of_ble_eq_true rfl) dX8_kept_75 (fun r10 _ => ?_)
          refine g_callSIp (As := [.int (r7 - (M ((ft 6) v1.toNatClampNeg) 4)), .int r10]) (st := []) B (k_X8_daysFor l D cA ad B.2.2.2.2.2.2.1 (r7 - (M ((ft 6) v1.toNatClampNeg) 4)) r10 M) (va_cwS 2 B.2.2.2.2.1 gX8_kept_X8_daysFor rfl rfl rfl (by decide +kernel) ⟨Nat.le_of_ble_eq_true rfl, Nat.le_of_ble_eq_true rfl⟩) rfl rfl (Nat.le_of_ble_eq_true rfl) dX8_kept_78 (fun r11 _ => ?_)
          exact g_iretp B hr hk dX8_kept_81
      · refine g_bipush (v := -9) B dX8_kept_65 (by decide) ?_
        exact g_iretp B hr hk dX8_kept_67
    · refine g_iconst (v := 0) B dX8_kept_34 (by decide) ?_
      exact g_iretp B hr hk dX8_kept_35

abbrev rm_X6_farthestFrom : Room := { frames := 2, cells := 0, slots := 0, locals := 44 }
set_option maxHeartbeats 4000000 in
set_option maxRecDepth 100000 in
theorem k_X6_farthestFrom (l : Launch) (D : va_G) (cA : Nat → ClassId) (ad : Nat → Nat) (had : adOK ad 37) (v1 : Int32) (M : Mem) : CI l yX6_farthestFrom wsX6_farthestFrom rm_X6_farthestFrom D cA ad (shX ad cA) 37 [.ref (ad 2), .int v1] M (wM M (d_X6_farthestFrom v1 M)) := by
  refine CI_ofp (own := RX6) (cc := cX6_farthestFrom) (maxL := 5) (rt := .int) had (by decide) rfl rfl (Nat.le_of_ble_eq_true rfl) ?_
  intro p e s m args below meth c R0 B hr hk
  have hL4 : ∀ (v1 : Int32)    , ∀ (f : Nat) (v2 : Int32) (v3 : Int32), GG p l e (headSpec wsX6_farthestFrom rm_X6_farthestFrom).room s m args below meth c D ad (shX ad cA) 37 5 (MQ below (QI D ad (shX ad cA) 37 s.heap.size (R0, M)) args s 0 0 (AX ad 37 s.heap.size)) R0 M 4 [(0, .ref (ad 2)), (1, .int v1), (2, .int v2), (3, .int v3)] [] (dX6_farthestFrom_4l v1 M  f v2 v3 ) := by
    intro v1
    intro f
    induction f with
    | zero =>
      intro v2 v3
      exact g_none
    | succ f ih =>
      intro v2 v3
      rw [dX6_farthestFrom_4l]
      refine g_iload_n B dX6_farthestFrom_4 3 rfl rfl ?_
      refine g_aload_n B dX6_farthestFrom_5 0 rfl rfl ?_
      refine g_get (v := .int (M 2 3)) B shX_st (by decide) in_X6_farthestFrom_X6 rfl 3 (by decide) (List.mem_of_getElem? (i := 1) rfl) rfl rfl dX6_farthestFrom_6 ?_
      refine g_icmp_ge (tgt := 43) B dX6_farthestFrom_9 (by decide) (fun c1 => ?_) (fun c1 => ?_)
      · refine g_iload_n B dX6_farthestFrom_43 2 rfl rfl ?_
        exact g_iretp B hr hk dX6_farthestFrom_44
      · refine g_aload_n B dX6_farthestFrom_12 0 rfl rfl ?_
        refine g_iload_n B dX6_farthestFrom_13 1 rfl rfl ?_
        refine g_iload_n B dX6_farthestFrom_14 3 rfl rfl ?_
        refine g_callVIp (q := (RX6, TX6, 4)) (As := [.int v1, .int v3]) (st := []) B (k_X6_distance l D cA ad B.2.2.2.2.2.2.1 v1 v3 M) (cwV 2 B.2.2.2.2.1 gX6_farthestFrom_X6_distance rfl rfl rfl (by decide +kernel) ⟨Nat.le_of_ble_eq_true rfl, Nat.le_of_ble_eq_true rfl⟩) shX_st (by decide) rfl rfl rfl (Nat.le_of_ble_eq_true rfl) dX6_farthestFrom_15 (fun r2 _ => ?_)
        refine g_istore B dX6_farthestFrom_18 (by decide) (lv1 := [(4, .int r2), (0, .ref (ad 2)), (1, .int v1), (2, .int v2), (3, .int v3)]) rfl ?_
        refine g_iload B dX6_farthestFrom_20 0 rfl ?_
        refine g_bipush (v := -9) B dX6_farthestFrom_22 (by decide) ?_
        refine g_icmp_ne (tgt := 30) B dX6_farthestFrom_24 (by decide) (fun c3 => ?_) (fun c3 => ?_)
        · refine g_bipush (v := -9) B dX6_farthestFrom_27 (by decide) ?_
          exact g_iretp B hr hk dX6_farthestFrom_29
        · refine g_iload_n B dX6_farthestFrom_30 3 rfl rfl ?_
          refine g_iload B dX6_farthestFrom_31 0 rfl ?_
          refine g_max B dX6_farthestFrom_33 (List.mem_of_getElem? (i := 2) rfl) (List.mem_of_getElem? (i := 3) rfl) (List.mem_of_getElem? (i := 4) rfl) (List.mem_of_getElem? (i := 5) rfl) (Nat.le_of_ble_eq_true rfl) (Nat.le_of_ble_eq_true rfl) ?_
          refine g_lmI (fun x4 => ?_)
          refine g_istore_n B dX6_farthestFrom_36 rfl (by decide) (lv1 := [(2, .int x4), (4, .int r2), (0, .ref (ad 2)), (1, .int v1), (3, .int v3)]) rfl ?_
          refine g_iinc B dX6_farthestFrom_37 4 (v := v3 + (1 : Int32)) rfl rfl (by decide) (lv1 := [(3, .int (v3 + (1 : Int32))), (2, .int x4), (4, .int r2), (0, .ref (ad 2)), (1, .int v1)]) rfl ?_
          refine g_goto (tgt := 4) B dX6_farthestFrom_40 (by decide) ?_
          exact g_lv [3, 4, 1, 0] rfl (ih _ _)
  unfold d_X6_farthestFrom
  show GG p l e (headSpec wsX6_farthestFrom rm_X6_farthestFrom).room s m args below meth c D ad (shX ad cA) 37 5 (MQ below (QI D ad (shX ad cA) 37 s.heap.size (R0, M)) args s 0 0 (AX ad 37 s.heap.size)) R0 M 0 [(0, .ref (ad 2)), (1, .int v1)] [] _
  refine g_iconst (v := 0) B dX6_farthestFrom_0 (by decide) ?_
  refine g_istore_n B dX6_farthestFrom_1 rfl (by decide) (lv1 := [(2, .int (0 : Int32)), (0, .ref (ad 2)), (1, .int v1)]) rfl ?_
  refine g_iconst (v := 0) B dX6_farthestFrom_2 (by decide) ?_
  refine g_istore_n B dX6_farthestFrom_3 rfl (by decide) (lv1 := [(3, .int (0 : Int32)), (2, .int (0 : Int32)), (0, .ref (ad 2)), (1, .int v1)]) rfl ?_
  refine g_lv [2, 3, 1, 0] rfl (hL4 _   FU _ _)

abbrev rm_X6_middleCorner : Room := { frames := 3, cells := 0, slots := 0, locals := 68 }
set_option maxHeartbeats 4000000 in
set_option maxRecDepth 100000 in
theorem k_X6_middleCorner (l : Launch) (D : va_G) (cA : Nat → ClassId) (ad : Nat → Nat) (had : adOK ad 37)  (M : Mem) : CI l yX6_middleCorner wsX6_middleCorner rm_X6_middleCorner D cA ad (shX ad cA) 37 [.ref (ad 2)] M (wM M (d_X6_middleCorner  M)) := by
  refine CI_ofp (own := RX6) (cc := cX6_middleCorner) (maxL := 5) (rt := .int) had (by decide) rfl rfl (Nat.le_of_ble_eq_true rfl) ?_
  intro p e s m args below meth c R0 B hr hk
  have hL8 : ∀ (f : Nat) (v1 : Int32) (v2 : Int32) (v3 : Int32), GG p l e (headSpec wsX6_middleCorner rm_X6_middleCorner).room s m args below meth c D ad (shX ad cA) 37 5 (MQ below (QI D ad (shX ad cA) 37 s.heap.size (R0, M)) args s 0 0 (AX ad 37 s.heap.size)) R0 M 8 [(0, .ref (ad 2)), (1, .int v1), (2, .int v2), (3, .int v3)] [] (dX6_middleCorner_8l  M  f v1 v2 v3 ) := by
    intro f
    induction f with
    | zero =>
      intro v1 v2 v3
      exact g_none
    | succ f ih =>
      intro v1 v2 v3
      rw [dX6_middleCorner_8l]
      refine g_iload_n B dX6_middleCorner_8 3 rfl rfl ?_
      refine g_aload_n B dX6_middleCorner_9 0 rfl rfl ?_
      refine g_get (v := .int (M 2 3)) B shX_st (by decide) in_X6_middleCorner_X6 rfl 3 (by decide) (List.mem_of_getElem? (i := 2) rfl) rfl rfl dX6_middleCorner_10 ?_
      refine g_icmp_ge (tgt := 47) B dX6_middleCorner_13 (by decide) (fun c1 => ?_) (fun c1 => ?_)
      · refine g_iload_n B dX6_middleCorner_47 1 rfl rfl ?_
        exact g_iretp B hr hk dX6_middleCorner_48
      · refine g_aload_n B dX6_middleCorner_16 0 rfl rfl ?_
        refine g_iload_n B dX6_middleCorner_17 3 rfl rfl ?_
        refine g_callVIp (q := (RX6, TX6, 4)) (As := [.int v3]) (st := []) B (k_X6_farthestFrom l D cA ad B.2.2.2.2.2.2.1 v3 M) (cwV 1 B.2.2.2.2.1 gX6_middleCorner_X6_farthestFrom rfl rfl rfl (by decide +kernel) ⟨Nat.le_of_ble_eq_true rfl, Nat.le_of_ble_eq_true rfl⟩) shX_st (by decide) rfl rfl rfl (Nat.le_of_ble_eq_true rfl) dX6_middleCorner_18 (fun r2 _ => ?_)
        refine g_istore B dX6_middleCorner_21 (by decide) (lv1 := [(4, .int r2), (0, .ref (ad 2)), (1, .int v1), (2, .int v2), (3, .int v3)]) rfl ?_
        refine g_iload B dX6_middleCorner_23 0 rfl ?_
        refine g_bipush (v := -9) B dX6_middleCorner_25 (by decide) ?_
        refine g_icmp_eq (tgt := 41) B dX6_middleCorner_27 (by decide) (fun c3 => ?_) (fun c3 => ?_)
        · refine g_iinc B dX6_middleCorner_41 4 (v := v3 + (1 : Int32)) rfl rfl (by decide) (lv1 := [(3, .int (v3 + (1 : Int32))), (4, .int r2), (0, .ref (ad 2)), (1, .int v1), (2, .int v2)]) rfl ?_
          refine g_goto (tgt := 8) B dX6_middleCorner_44 (by decide) ?_
          exact g_lv [2, 3, 4, 0] rfl (ih _ _ _)
        · refine g_iload B dX6_middleCorner_30 0 rfl ?_
          refine g_iload_n B dX6_middleCorner_32 3 rfl rfl ?_
          refine g_icmp_ge (tgt := 41) B dX6_middleCorner_33 (by decide) (fun c4 => ?_) (fun c4 => ?_)
          · refine g_iinc B dX6_middleCorner_41 4 (v := v3 + (1 : Int32)) rfl rfl (by decide) (lv1 := [(3, .int (v3 + (1 : Int32))), (4, .int r2), (0, .ref (ad 2)), (1, .int v1), (2, .int v2)]) rfl ?_
            refine g_goto (tgt := 8) B dX6_middleCorner_44 (by decide) ?_
            exact g_lv [2, 3, 4, 0] rfl (ih _ _ _)
          · refine g_iload_n B dX6_middleCorner_36 4 rfl rfl ?_
            refine g_istore_n B dX6_middleCorner_37 rfl (by decide) (lv1 := [(1, .int v3), (4, .int r2), (0, .ref (ad 2)), (2, .int v2), (3, .int v3)]) rfl ?_
            refine g_iload B dX6_middleCorner_38 1 rfl ?_
            refine g_istore_n B dX6_middleCorner_40 rfl (by decide) (lv1 := [(2, .int r2), (1, .int v3), (4, .int r2), (0, .ref (ad 2)), (3, .int v3)]) rfl ?_
            refine g_iinc B dX6_middleCorner_41 4 (v := v3 + (1 : Int32)) rfl rfl (by decide) (lv1 := [(3, .int (v3 + (1 : Int32))), (2, .int r2), (1, .int v3), (4, .int r2), (0, .ref (ad 2))]) rfl ?_
            refine g_goto (tgt := 8) B dX6_middleCorner_44 (by decide) ?_
            exact g_lv [4, 2, 1, 0] rfl (ih _ _ _)
  unfold d_X6_middleCorner
  show GG p l e (headSpec wsX6_middleCorner rm_X6_middleCorner).room s m args below meth c D ad (shX ad cA) 37 5 (MQ below (QI D ad (shX ad cA) 37 s.heap.size (R0, M)) args s 0 0 (AX ad 37 s.heap.size)) R0 M 0 [(0, .ref (ad 2))] [] _
  refine g_bipush (v := -9) B dX6_middleCorner_0 (by decide) ?_
  refine g_istore_n B dX6_middleCorner_2 rfl (by decide) (lv1 := [(1, .int (-9 : Int32)), (0, .ref (ad 2))]) rfl ?_
  refine g_ldc (v := 1000000) B dX6_middleCorner_3 (List.mem_of_getElem? (i := 1) rfl) ?_
  refine g_istore_n B dX6_middleCorner_5 rfl (by decide) (lv1 := [(2, .int (1000000 : Int32)), (1, .int (-9 : Int32)), (0, .ref (ad 2))]) rfl ?_
  refine g_iconst (v := 0) B dX6_middleCorner_6 (by decide) ?_
  refine g_istore_n B dX6_middleCorner_7 rfl (by decide) (lv1 := [(3, .int (0 : Int32)), (2, .int (1000000 : Int32)), (1, .int (-9 : Int32)), (0, .ref (ad 2))]) rfl ?_
  refine g_lv [3, 2, 1, 0] rfl (hL8    FU _ _ _)

abbrev rm_X8_middle : Room := { frames := 4, cells := 0, slots := 0, locals := 92 }
set_option maxHeartbeats 4000000 in
set_option maxRecDepth 100000 in
theorem k_X8_middle (l : Launch) (D : va_G) (cA : Nat → ClassId) (ad : Nat → Nat) (had : adOK ad 37) (v1 : Int32) (M : Mem) : CI l yX8_middle wsX8_middle rm_X8_middle D cA ad (shX ad cA) 37 [.ref (ad 0), .int v1] M (wM M (d_X8_middle v1 M)) := by
  refine CI_ofp (own := RX8) (cc := cX8_middle) (maxL := 3) (rt := .int) had (by decide) rfl rfl (Nat.le_of_ble_eq_true rfl) ?_
  intro p e s m args below meth c R0 B hr hk
  unfold d_X8_middle
  show GG p l e (headSpec wsX8_middle rm_X8_middle).room s m args below meth c D ad (shX ad cA) 37 3 (MQ below (QI D ad (shX ad cA) 37 s.heap.size (R0, M)) args s 0 0 (AX ad 37 s.heap.size)) R0 M 0 [(0, .ref (ad 0)), (1, .int v1)] [] _
  refine g_aload_n B dX8_middle_0 0 rfl rfl ?_
  refine g_callVIp (q := (RX8, TX8, 9)) (As := []) (st := []) B (k_X8_hasTown l D cA ad B.2.2.2.2.2.2.1  M) (cwV 0 B.2.2.2.2.1 gX8_middle_X8_hasTown rfl rfl rfl (by decide +kernel) ⟨Nat.le_of_ble_eq_true rfl, Nat.le_of_ble_eq_true rfl⟩) shX_pw (by decide) rfl rfl rfl (Nat.le_of_ble_eq_true rfl) dX8_middle_1 (fun r1 _ => ?_)
  refine g_if_ne (tgt := 10) B dX8_middle_4 (by decide) (fun c2 => ?_) (fun c2 => ?_)
  · refine g_bipush (v := -3) B dX8_middle_7 (by decide) ?_
    exact g_iretp B hr hk dX8_middle_9
  · refine g_iload_n B dX8_middle_10 1 rfl rfl ?_
    refine g_if_lt (tgt := 19) B dX8_middle_11 (by decide) (fun c3 => ?_) (fun c3 => ?_)
    · refine g_bipush (v := -2) B dX8_middle_19 (by decide) ?_
      exact g_iretp B hr hk dX8_middle_21
    · refine g_iload_n B dX8_middle_14 1 rfl rfl ?_
      refine g_iconst (v := 1) B dX8_middle_15 (by decide) ?_
      refine g_icmp_le (tgt := 22) B dX8_middle_16 (by decide) (fun c4 => ?_) (fun c4 => ?_)
      · refine g_aload_n B dX8_middle_22 0 rfl rfl ?_
        refine g_get (v := .ref (ad 2)) B shX_pw (by decide) in_X8_middle_X8 rfl 1 (by decide) (List.mem_of_getElem? (i := 1) rfl) rfl rfl dX8_middle_23 ?_
        refine g_callVIp (q := (RX6, TX6, 4)) (As := []) (st := []) B (k_X6_middleCorner l D cA ad B.2.2.2.2.2.2.1  M) (cwV 0 B.2.2.2.2.1 gX8_middle_X6_middleCorner rfl rfl rfl (by decide +kernel) ⟨Nat.le_of_ble_eq_true rfl, Nat.le_of_ble_eq_true rfl⟩) shX_st (by decide) rfl rfl rfl (Nat.le_of_ble_eq_true rfl) dX8_middle_26 (fun r5 _ => ?_)
        refine g_istore_n B dX8_middle_29 rfl (by decide) (lv1 := [(2, .int r5), (0, .ref (ad 0)), (1, .int v1)]) rfl ?_
        refine g_iload_n B dX8_middle_30 0 rfl rfl ?_
        refine g_bipush (v := -9) B dX8_middle_31 (by decide) ?_
        refine g_icmp_eq (tgt := 40) B dX8_middle_33 (by decide) (fun c6 => ?_) (fun c6 => ?_)
        · refine g_iload_n B dX8_middle_40 0 rfl rfl ?_
          refine g_goto (tgt := 52) B dX8_middle_41 (by decide) ?_
          exact g_iretp B hr hk dX8_middle_52
        · refine g_iload_n B dX8_middle_36 2 rfl rfl ?_
          refine g_if_ne (tgt := 44) B dX8_middle_37 (by decide) (fun c7 => ?_) (fun c7 => ?_)
          · refine g_iload_n B dX8_middle_40 0 rfl rfl ?_
            refine g_goto (tgt := 52) B dX8_middle_41 (by decide) ?_
            exact g_iretp B hr hk dX8_middle_52
          · refine g_aload_n B dX8_middle_44 1 rfl rfl ?_
            refine g_get (v := .ref (ad 2)) B shX_pw (by decide) in_X8_middle_X8 rfl 1 (by decide) (List.mem_of_getElem? (i := 1) rfl) rfl rfl dX8_middle_45 ?_
            refine g_iload_n B dX8_middle_48 0 rfl rfl ?_
            refine g_callVIp (q := (RX6, TX6, 4)) (As := [.int r5]) (st := []) B (k_X6_farthestFrom l D cA ad B.2.2.2.2.2.2.1 r5 M) (cwV 1 B.2.2.2.2.1 gX8_middle_X6_farthestFrom rfl rfl rfl (by decide +kernel) ⟨Nat.le_of_ble_eq_true rfl, Nat.le_of_ble_eq_true rfl⟩) shX_st (by decide) rfl rfl rfl (Nat.le_of_ble_eq_true rfl) dX8_middle_49 (fun r8 _ => ?_)
            exact g_iretp B hr hk dX8_middle_52
      · refine g_bipush (v := -2) B dX8_middle_19 (by decide) ?_
        exact g_iretp B hr hk dX8_middle_21

abbrev rm_X6_joinGroups : Room := { frames := 0, cells := 0, slots := 0, locals := 0 }
set_option maxHeartbeats 4000000 in
set_option maxRecDepth 100000 in
theorem k_X6_joinGroups (l : Launch) (D : va_G) (cA : Nat → ClassId) (ad : Nat → Nat) (had : adOK ad 37) (v1 : Int32) (v2 : Int32) (M : Mem) : CV l yX6_joinGroups wsX6_joinGroups rm_X6_joinGroups D cA ad (shX ad cA) 37 [.ref (ad 2), .int v1, .int v2] M (d_X6_joinGroups v1 v2 M) := by
  refine CV_of (own := RX6) (cc := cX6_joinGroups) (maxL := 4) had (by decide) rfl rfl (Nat.le_of_ble_eq_true rfl) ?_
  intro p e s m args below meth c R0 B hr hk
  have hL2 : ∀ (v1 : Int32) (v2 : Int32)    , ∀ (f : Nat) (v3 : Int32) (M : Mem), GG p l e (headSpec wsX6_joinGroups rm_X6_joinGroups).room s m args below meth c D ad (shX ad cA) 37 4 (MQ below (QV D ad (shX ad cA) 37 s.heap.size R0) args s 0 0 (AX ad 37 s.heap.size)) R0 M 2 [(0, .ref (ad 2)), (1, .int v1), (2, .int v2), (3, .int v3)] [] (dX6_joinGroups_2l v1 v2   f v3 M) := by
    intro v1 v2
    intro f
    induction f with
    | zero =>
      intro v3 M
      exact g_none
    | succ f ih =>
      intro v3 M
      rw [dX6_joinGroups_2l]
      refine g_iload_n B dX6_joinGroups_2 3 rfl rfl ?_
      refine g_aload_n B dX6_joinGroups_3 0 rfl rfl ?_
      refine g_get (v := .int (M 2 3)) B shX_st (by decide) in_X6_joinGroups_X6 rfl 3 (by decide) (List.mem_of_getElem? (i := 1) rfl) rfl rfl dX6_joinGroups_4 ?_
      refine g_icmp_ge (tgt := 33) B dX6_joinGroups_7 (by decide) (fun c1 => ?_) (fun c1 => ?_)
      · exact g_vret B hr hk dX6_joinGroups_33
      · refine g_aload_n B dX6_joinGroups_10 0 rfl rfl ?_
        refine g_get (v := .ref (ad 5)) B shX_st (by decide) in_X6_joinGroups_X6 rfl 2 (by decide) (List.mem_of_getElem? (i := 2) rfl) rfl rfl dX6_joinGroups_11 ?_
        refine g_iload_n B dX6_joinGroups_14 3 rfl rfl ?_
        refine g_iald B shX_5 (by decide) dX6_joinGroups_15 ?_
        refine g_iload_n B dX6_joinGroups_16 2 rfl rfl ?_
        refine g_icmp_ne (tgt := 27) B dX6_joinGroups_17 (by decide) (fun c2 => ?_) (fun c2 => ?_)
        · refine g_aload_n B dX6_joinGroups_20 0 rfl rfl ?_
          refine g_get (v := .ref (ad 5)) B shX_st (by decide) in_X6_joinGroups_X6 rfl 2 (by decide) (List.mem_of_getElem? (i := 2) rfl) rfl rfl dX6_joinGroups_21 ?_
          refine g_iload_n B dX6_joinGroups_24 3 rfl rfl ?_
          refine g_iload_n B dX6_joinGroups_25 1 rfl rfl ?_
          refine g_iast B shX_5 (by decide) dX6_joinGroups_26 (g_lmM (fun M3 => ?_))
          refine g_iinc B dX6_joinGroups_27 3 (v := v3 + (1 : Int32)) rfl rfl (by decide) (lv1 := [(3, .int (v3 + (1 : Int32))), (0, .ref (ad 2)), (1, .int v1), (2, .int v2)]) rfl ?_
          refine g_goto (tgt := 2) B dX6_joinGroups_30 (by decide) ?_
          exact g_lv [1, 2, 3, 0] rfl (ih _ _)
        · refine g_iinc B dX6_joinGroups_27 3 (v := v3 + (1 : Int32)) rfl rfl (by decide) (lv1 := [(3, .int (v3 + (1 : Int32))), (0, .ref (ad 2)), (1, .int v1), (2, .int v2)]) rfl ?_
          refine g_goto (tgt := 2) B dX6_joinGroups_30 (by decide) ?_
          exact g_lv [1, 2, 3, 0] rfl (ih _ _)
  unfold d_X6_joinGroups
  show GG p l e (headSpec wsX6_joinGroups rm_X6_joinGroups).room s m args below meth c D ad (shX ad cA) 37 4 (MQ below (QV D ad (shX ad cA) 37 s.heap.size R0) args s 0 0 (AX ad 37 s.heap.size)) R0 M 0 [(0, .ref (ad 2)), (1, .int v1), (2, .int v2)] [] _
  refine g_iconst (v := 0) B dX6_joinGroups_0 (by decide) ?_
  refine g_istore_n B dX6_joinGroups_1 rfl (by decide) (lv1 := [(3, .int (0 : Int32)), (0, .ref (ad 2)), (1, .int v1), (2, .int v2)]) rfl ?_
  refine g_lv [1, 2, 3, 0] rfl (hL2 _ _   FU _ _)

abbrev rm_X6_joinBy : Room := { frames := 2, cells := 0, slots := 0, locals := 43 }
set_option maxHeartbeats 4000000 in
set_option maxRecDepth 100000 in
theorem k_X6_joinBy (l : Launch) (D : va_G) (cA : Nat → ClassId) (ad : Nat → Nat) (had : adOK ad 37) (v1 : Int32) (M : Mem) : CI l yX6_joinBy wsX6_joinBy rm_X6_joinBy D cA ad (shX ad cA) 37 [.ref (ad 2), .int v1] M (d_X6_joinBy v1 M) := by
  refine CI_of (own := RX6) (cc := cX6_joinBy) (maxL := 6) (rt := .int) had (by decide) rfl rfl (Nat.le_of_ble_eq_true rfl) ?_
  intro p e s m args below meth c R0 B hr hk
  have hL22 : ∀ (v1 : Int32) (v4 : Int32)  (k22_93 : Int32 → Int32 → Mem → Option (Int32 × Mem))  (hk22_93 : ∀ (w2 : Int32) (w3 : Int32) (M1 : Mem), GG p l e (headSpec wsX6_joinBy rm_X6_joinBy).room s m args below meth c D ad (shX ad cA) 37 6 (MQ below (QI D ad (shX ad cA) 37 s.heap.size R0) args s 0 0 (AX ad 37 s.heap.size)) R0 M1 93 [(0, .ref (ad 2)), (1, .int v1), (2, .int w2), (3, .int w3), (4, .int v4)] [] (k22_93 w2 w3 M1)), ∀ (f : Nat) (v2 : Int32) (v3 : Int32) (v5 : Int32) (M : Mem), GG p l e (headSpec wsX6_joinBy rm_X6_joinBy).room s m args below meth c D ad (shX ad cA) 37 6 (MQ below (QI D ad (shX ad cA) 37 s.heap.size R0) args s 0 0 (AX ad 37 s.heap.size)) R0 M 22 [(0, .ref (ad 2)), (1, .int v1), (2, .int v2), (3, .int v3), (4, .int v4), (5, .int v5)] [] (dX6_joinBy_22l v1 v4  k22_93 f v2 v3 v5 M) := by
    intro v1 v4 k22_93 hk22_93
    intro f
    induction f with
    | zero =>
      intro v2 v3 v5 M
      exact g_none
    | succ f ih =>
      intro v2 v3 v5 M
      rw [dX6_joinBy_22l]
      refine g_iload B dX6_joinBy_22 5 rfl ?_
      refine g_aload_n B dX6_joinBy_24 0 rfl rfl ?_
      refine g_get (v := .int (M 2 3)) B shX_st (by decide) in_X6_joinBy_X6 rfl 3 (by decide) (List.mem_of_getElem? (i := 1) rfl) rfl rfl dX6_joinBy_25 ?_
      refine g_icmp_ge (tgt := 93) B dX6_joinBy_28 (by decide) (fun c3 => ?_) (fun c3 => ?_)
      · exact g_lv [0, 1, 2, 3, 4] rfl (hk22_93 _ _ _)
      · refine g_aload_n B dX6_joinBy_31 0 rfl rfl ?_
        refine g_iload B dX6_joinBy_32 4 rfl ?_
        refine g_iload B dX6_joinBy_34 5 rfl ?_
        refine g_callVIp (q := (RX6, TX6, 4)) (As := [.int v4, .int v5]) (st := []) B (k_X6_length l D cA ad B.2.2.2.2.2.2.1 v4 v5 M) (cwV 2 B.2.2.2.2.1 gX6_joinBy_X6_length rfl rfl rfl (by decide +kernel) ⟨Nat.le_of_ble_eq_true rfl, Nat.le_of_ble_eq_true rfl⟩) shX_st (by decide) rfl rfl rfl (Nat.le_of_ble_eq_true rfl) dX6_joinBy_36 (fun r4 _ => ?_)
        refine g_iload_n B dX6_joinBy_39 1 rfl rfl ?_
        refine g_icmp_ne (tgt := 84) B dX6_joinBy_40 (by decide) (fun c5 => ?_) (fun c5 => ?_)
        · refine g_aload_n B dX6_joinBy_43 0 rfl rfl ?_
          refine g_get (v := .ref (ad 5)) B shX_st (by decide) in_X6_joinBy_X6 rfl 2 (by decide) (List.mem_of_getElem? (i := 2) rfl) rfl rfl dX6_joinBy_44 ?_
          refine g_iload B dX6_joinBy_47 4 rfl ?_
          refine g_iald B shX_5 (by decide) dX6_joinBy_49 ?_
          refine g_aload_n B dX6_joinBy_50 0 rfl rfl ?_
          refine g_get (v := .ref (ad 5)) B shX_st (by decide) in_X6_joinBy_X6 rfl 2 (by decide) (List.mem_of_getElem? (i := 2) rfl) rfl rfl dX6_joinBy_51 ?_
          refine g_iload B dX6_joinBy_54 5 rfl ?_
          refine g_iald B shX_5 (by decide) dX6_joinBy_56 ?_
          refine g_icmp_eq (tgt := 84) B dX6_joinBy_57 (by decide) (fun c6 => ?_) (fun c6 => ?_)
          · refine g_iinc B dX6_joinBy_84 3 (v := v3 + (1 : Int32)) rfl rfl (by decide) (lv1 := [(3, .int (v3 + (1 : Int32))), (0, .ref (ad 2)), (1, .int v1), (2, .int v2), (4, .int v4), (5, .int v5)]) rfl ?_
            refine g_iinc B dX6_joinBy_87 5 (v := v5 + (1 : Int32)) rfl rfl (by decide) (lv1 := [(5, .int (v5 + (1 : Int32))), (3, .int (v3 + (1 : Int32))), (0, .ref (ad 2)), (1, .int v1), (2, .int v2), (4, .int v4)]) rfl ?_
            refine g_goto (tgt := 22) B dX6_joinBy_90 (by decide) ?_
            exact g_lv [2, 3, 4, 1, 5, 0] rfl (ih _ _ _ _)
          · refine g_aload_n B dX6_joinBy_60 0 rfl rfl ?_
            refine g_aload_n B dX6_joinBy_61 0 rfl rfl ?_
            refine g_get (v := .ref (ad 5)) B shX_st (by decide) in_X6_joinBy_X6 rfl 2 (by decide) (List.mem_of_getElem? (i := 2) rfl) rfl rfl dX6_joinBy_62 ?_
            refine g_iload B dX6_joinBy_65 4 rfl ?_
            refine g_iald B shX_5 (by decide) dX6_joinBy_67 ?_
            refine g_aload_n B dX6_joinBy_68 0 rfl rfl ?_
            refine g_get (v := .ref (ad 5)) B shX_st (by decide) in_X6_joinBy_X6 rfl 2 (by decide) (List.mem_of_getElem? (i := 2) rfl) rfl rfl dX6_joinBy_69 ?_
            refine g_iload B dX6_joinBy_72 5 rfl ?_
            refine g_iald B shX_5 (by decide) dX6_joinBy_74 ?_
            refine g_callVVe (q := (RX6, TX6, 4)) (As := [.int (M 5 v4.toNatClampNeg), .int (M 5 v5.toNatClampNeg)]) (st := []) B (k_X6_joinGroups l D cA ad B.2.2.2.2.2.2.1 (M 5 v4.toNatClampNeg) (M 5 v5.toNatClampNeg) M) (cwV 2 B.2.2.2.2.1 gX6_joinBy_X6_joinGroups rfl rfl rfl (by decide +kernel) ⟨Nat.le_of_ble_eq_true rfl, Nat.le_of_ble_eq_true rfl⟩) shX_st (by decide) rfl rfl rfl (Nat.le_of_ble_eq_true rfl) dX6_joinBy_75 (fun M7 _ => ?_)
            refine g_iload_n B dX6_joinBy_78 2 rfl rfl ?_
            refine g_iconst (v := 1) B dX6_joinBy_79 (by decide) ?_
            refine g_iload_n B dX6_joinBy_80 3 rfl rfl ?_
            refine g_ishl B dX6_joinBy_81 ?_
            refine g_ior B dX6_joinBy_82 ?_
            refine g_lmI (fun x8 => ?_)
            refine g_istore_n B dX6_joinBy_83 rfl (by decide) (lv1 := [(2, .int x8), (0, .ref (ad 2)), (1, .int v1), (3, .int v3), (4, .int v4), (5, .int v5)]) rfl ?_
            refine g_iinc B dX6_joinBy_84 3 (v := v3 + (1 : Int32)) rfl rfl (by decide) (lv1 := [(3, .int (v3 + (1 : Int32))), (2, .int x8), (0, .ref (ad 2)), (1, .int v1), (4, .int v4), (5, .int v5)]) rfl ?_
            refine g_iinc B dX6_joinBy_87 5 (v := v5 + (1 : Int32)) rfl rfl (by decide) (lv1 := [(5, .int (v5 + (1 : Int32))), (3, .int (v3 + (1 : Int32))), (2, .int x8), (0, .ref (ad 2)), (1, .int v1), (4, .int v4)]) rfl ?_
            refine g_goto (tgt := 22) B dX6_joinBy_90 (by decide) ?_
            exact g_lv [3, 4, 2, 1, 5, 0] rfl (ih _ _ _ _)
        · refine g_iinc B dX6_joinBy_84 3 (v := v3 + (1 : Int32)) rfl rfl (by decide) (lv1 := [(3, .int (v3 + (1 : Int32))), (0, .ref (ad 2)), (1, .int v1), (2, .int v2), (4, .int v4), (5, .int v5)]) rfl ?_
          refine g_iinc B dX6_joinBy_87 5 (v := v5 + (1 : Int32)) rfl rfl (by decide) (lv1 := [(5, .int (v5 + (1 : Int32))), (3, .int (v3 + (1 : Int32))), (0, .ref (ad 2)), (1, .int v1), (2, .int v2), (4, .int v4)]) rfl ?_
          refine g_goto (tgt := 22) B dX6_joinBy_90 (by decide) ?_
          exact g_lv [2, 3, 4, 1, 5, 0] rfl (ih _ _ _ _)
  have hL7 : ∀ (v1 : Int32)    , ∀ (f : Nat) (v2 : Int32) (v3 : Int32) (v4 : Int32) (M : Mem), GG p l e (headSpec wsX6_joinBy rm_X6_joinBy).room s m args below meth c D ad (shX ad cA) 37 6 (MQ below (QI D ad (shX ad cA) 37 s.heap.size R0) args s 0 0 (AX ad 37 s.heap.size)) R0 M 7 [(0, .ref (ad 2)), (1, .int v1), (2, .int v2), (3, .int v3), (4, .int v4)] [] (dX6_joinBy_7l v1   f v2 v3 v4 M) := by
    intro v1
    intro f
    induction f with
    | zero =>
      intro v2 v3 v4 M
      exact g_none
    | succ f ih =>
      intro v2 v3 v4 M
      rw [dX6_joinBy_7l]
      refine g_iload B dX6_joinBy_7 4 rfl ?_
      refine g_aload_n B dX6_joinBy_9 0 rfl rfl ?_
      refine g_get (v := .int (M 2 3)) B shX_st (by decide) in_X6_joinBy_X6 rfl 3 (by decide) (List.mem_of_getElem? (i := 1) rfl) rfl rfl dX6_joinBy_10 ?_
      refine g_icmp_ge (tgt := 99) B dX6_joinBy_13 (by decide) (fun c1 => ?_) (fun c1 => ?_)
      · refine g_iload_n B dX6_joinBy_99 2 rfl rfl ?_
        exact g_iret B hr hk dX6_joinBy_100
      · refine g_iload B dX6_joinBy_16 4 rfl ?_
        refine g_iconst (v := 1) B dX6_joinBy_18 (by decide) ?_
        refine g_iadd B dX6_joinBy_19 ?_
        refine g_lmI (fun x2 => ?_)
        refine g_istore B dX6_joinBy_20 (by decide) (lv1 := [(5, .int x2), (0, .ref (ad 2)), (1, .int v1), (2, .int v2), (3, .int v3), (4, .int v4)]) rfl ?_
        refine g_lv [1, 2, 3, 4, 5, 0] rfl (hL22 _ _ _  ?_ FU _ _ _ _)
        · intro w9 w10 M11
          refine g_iinc B dX6_joinBy_93 4 (v := v4 + (1 : Int32)) rfl rfl (by decide) (lv1 := [(4, .int (v4 + (1 : Int32))), (0, .ref (ad 2)), (1, .int v1), (2, .int w9), (3, .int w10)]) rfl ?_
          refine g_goto (tgt := 7) B dX6_joinBy_96 (by decide) ?_
          exact g_lv [1, 2, 3, 4, 0] rfl (ih _ _ _ _)
  unfold d_X6_joinBy
  show GG p l e (headSpec wsX6_joinBy rm_X6_joinBy).room s m args below meth c D ad (shX ad cA) 37 6 (MQ below (QI D ad (shX ad cA) 37 s.heap.size R0) args s 0 0 (AX ad 37 s.heap.size)) R0 M 0 [(0, .ref (ad 2)), (1, .int v1)] [] _
  refine g_iconst (v := 0) B dX6_joinBy_0 (by decide) ?_
  refine g_istore_n B dX6_joinBy_1 rfl (by decide) (lv1 := [(2, .int (0 : Int32)), (0, .ref (ad 2)), (1, .int v1)]) rfl ?_
  refine g_iconst (v := 0) B dX6_joinBy_2 (by decide) ?_
  refine g_istore_n B dX6_joinBy_3 rfl (by decide) (lv1 := [(3, .int (0 : Int32)), (2, .int (0 : Int32)), (0, .ref (ad 2)), (1, .int v1)]) rfl ?_
  refine g_iconst (v := 0) B dX6_joinBy_4 (by decide) ?_
  refine g_istore B dX6_joinBy_5 (by decide) (lv1 := [(4, .int (0 : Int32)), (3, .int (0 : Int32)), (2, .int (0 : Int32)), (0, .ref (ad 2)), (1, .int v1)]) rfl ?_
  refine g_lv [3, 4, 2, 1, 0] rfl (hL7 _   FU _ _ _ _)

abbrev rm_X6_leastTree : Room := { frames := 3, cells := 0, slots := 0, locals := 68 }
set_option maxHeartbeats 4000000 in
set_option maxRecDepth 100000 in
theorem k_X6_leastTree (l : Launch) (D : va_G) (cA : Nat → ClassId) (ad : Nat → Nat) (had : adOK ad 37)  (M : Mem) : CI l yX6_leastTree wsX6_leastTree rm_X6_leastTree D cA ad (shX ad cA) 37 [.ref (ad 2)] M (d_X6_leastTree  M) := by
  refine CI_of (own := RX6) (cc := cX6_leastTree) (maxL := 3) (rt := .int) had (by decide) rfl rfl (Nat.le_of_ble_eq_true rfl) ?_
  intro p e s m args below meth c R0 B hr hk
  have hL2 : ∀   (k2_23 : Mem → Option (Int32 × Mem))  (hk2_23 : ∀  (M1 : Mem), GG p l e (headSpec wsX6_leastTree rm_X6_leastTree).room s m args below meth c D ad (shX ad cA) 37 3 (MQ below (QI D ad (shX ad cA) 37 s.heap.size R0) args s 0 0 (AX ad 37 s.heap.size)) R0 M1 23 [(0, .ref (ad 2))] [] (k2_23  M1)), ∀ (f : Nat) (v1 : Int32) (M : Mem), GG p l e (headSpec wsX6_leastTree rm_X6_leastTree).room s m args below meth c D ad (shX ad cA) 37 3 (MQ below (QI D ad (shX ad cA) 37 s.heap.size R0) args s 0 0 (AX ad 37 s.heap.size)) R0 M 2 [(0, .ref (ad 2)), (1, .int v1)] [] (dX6_leastTree_2l   k2_23 f v1 M) := by
    intro k2_23 hk2_23
    intro f
    induction f with
    | zero =>
      intro v1 M
      exact g_none
    | succ f ih =>
      intro v1 M
      rw [dX6_leastTree_2l]
      refine g_iload_n B dX6_leastTree_2 1 rfl rfl ?_
      refine g_aload_n B dX6_leastTree_3 0 rfl rfl ?_
      refine g_get (v := .int (M 2 3)) B shX_st (by decide) in_X6_leastTree_X6 rfl 3 (by decide) (List.mem_of_getElem? (i := 1) rfl) rfl rfl dX6_leastTree_4 ?_
      refine g_icmp_ge (tgt := 23) B dX6_leastTree_7 (by decide) (fun c1 => ?_) (fun c1 => ?_)
      · exact g_lv [0] rfl (hk2_23  _)
      · refine g_aload_n B dX6_leastTree_10 0 rfl rfl ?_
        refine g_get (v := .ref (ad 5)) B shX_st (by decide) in_X6_leastTree_X6 rfl 2 (by decide) (List.mem_of_getElem? (i := 2) rfl) rfl rfl dX6_leastTree_11 ?_
        refine g_iload_n B dX6_leastTree_14 1 rfl rfl ?_
        refine g_iload_n B dX6_leastTree_15 1 rfl rfl ?_
        refine g_iast B shX_5 (by decide) dX6_leastTree_16 (g_lmM (fun M2 => ?_))
        refine g_iinc B dX6_leastTree_17 1 (v := v1 + (1 : Int32)) rfl rfl (by decide) (lv1 := [(1, .int (v1 + (1 : Int32))), (0, .ref (ad 2))]) rfl ?_
        refine g_goto (tgt := 2) B dX6_leastTree_20 (by decide) ?_
        exact g_lv [1, 0] rfl (ih _ _)
  have hL27 : ∀   (k27_47 : Int32 → Mem → Option (Int32 × Mem))  (hk27_47 : ∀ (w1 : Int32) (M1 : Mem), GG p l e (headSpec wsX6_leastTree rm_X6_leastTree).room s m args below meth c D ad (shX ad cA) 37 3 (MQ below (QI D ad (shX ad cA) 37 s.heap.size R0) args s 0 0 (AX ad 37 s.heap.size)) R0 M1 47 [(0, .ref (ad 2)), (1, .int w1)] [] (k27_47 w1 M1)), ∀ (f : Nat) (v1 : Int32) (v2 : Int32) (M : Mem), GG p l e (headSpec wsX6_leastTree rm_X6_leastTree).room s m args below meth c D ad (shX ad cA) 37 3 (MQ below (QI D ad (shX ad cA) 37 s.heap.size R0) args s 0 0 (AX ad 37 s.heap.size)) R0 M 27 [(0, .ref (ad 2)), (1, .int v1), (2, .int v2)] [] (dX6_leastTree_27l   k27_47 f v1 v2 M) := by
    intro k27_47 hk27_47
    intro f
    induction f with
    | zero =>
      intro v1 v2 M
      exact g_none
    | succ f ih =>
      intro v1 v2 M
      rw [dX6_leastTree_27l]
      refine g_iload_n B dX6_leastTree_27 2 rfl rfl ?_
      refine g_bipush (v := 9) B dX6_leastTree_28 (by decide) ?_
      refine g_icmp_gt (tgt := 47) B dX6_leastTree_30 (by decide) (fun c4 => ?_) (fun c4 => ?_)
      · exact g_lv [0, 1] rfl (hk27_47 _ _)
      · refine g_iload_n B dX6_leastTree_33 1 rfl rfl ?_
        refine g_aload_n B dX6_leastTree_34 0 rfl rfl ?_
        refine g_iload_n B dX6_leastTree_35 2 rfl rfl ?_
        refine g_callVIe (q := (RX6, TX6, 4)) (As := [.int v2]) (st := [.int v1]) B (k_X6_joinBy l D cA ad B.2.2.2.2.2.2.1 v2 M) (cwV 1 B.2.2.2.2.1 gX6_leastTree_X6_joinBy rfl rfl rfl (by decide +kernel) ⟨Nat.le_of_ble_eq_true rfl, Nat.le_of_ble_eq_true rfl⟩) shX_st (by decide) rfl rfl rfl (Nat.le_of_ble_eq_true rfl) dX6_leastTree_36 (fun r5 M6 _ => ?_)
        refine g_ior B dX6_leastTree_39 ?_
        refine g_lmI (fun x7 => ?_)
        refine g_istore_n B dX6_leastTree_40 rfl (by decide) (lv1 := [(1, .int x7), (0, .ref (ad 2)), (2, .int v2)]) rfl ?_
        refine g_iinc B dX6_leastTree_41 2 (v := v2 + (1 : Int32)) rfl rfl (by decide) (lv1 := [(2, .int (v2 + (1 : Int32))), (1, .int x7), (0, .ref (ad 2))]) rfl ?_
        refine g_goto (tgt := 27) B dX6_leastTree_44 (by decide) ?_
        exact g_lv [2, 1, 0] rfl (ih _ _ _)
  unfold d_X6_leastTree
  show GG p l e (headSpec wsX6_leastTree rm_X6_leastTree).room s m args below meth c D ad (shX ad cA) 37 3 (MQ below (QI D ad (shX ad cA) 37 s.heap.size R0) args s 0 0 (AX ad 37 s.heap.size)) R0 M 0 [(0, .ref (ad 2))] [] _
  refine g_iconst (v := 0) B dX6_leastTree_0 (by decide) ?_
  refine g_istore_n B dX6_leastTree_1 rfl (by decide) (lv1 := [(1, .int (0 : Int32)), (0, .ref (ad 2))]) rfl ?_
  refine g_lv [1, 0] rfl (hL2 _  ?_ FU _ _)
  · intro M3
    refine g_iconst (v := 0) B dX6_leastTree_23 (by decide) ?_
    refine g_istore_n B dX6_leastTree_24 rfl (by decide) (lv1 := [(1, .int (0 : Int32)), (0, .ref (ad 2))]) rfl ?_
    refine g_iconst (v := 1) B dX6_leastTree_25 (by decide) ?_
    refine g_istore_n B dX6_leastTree_26 rfl (by decide) (lv1 := [(2, .int (1 : Int32)), (1, .int (0 : Int32)), (0, .ref (ad 2))]) rfl ?_
    refine g_lv [2, 1, 0] rfl (hL27 _  ?_ FU _ _ _)
    · intro w8 M9
      refine g_iload_n B dX6_leastTree_47 1 rfl rfl ?_
      refine g_callSIp (As := [.int w8]) (st := []) B (k_J6_bitCount_0f7a4 l D cA ad B.2.2.2.2.2.2.1 w8 M9) (va_cwS 1 B.2.2.2.2.1 gX6_leastTree_J6_bitCount_0f7a4 rfl rfl rfl (by decide +kernel) ⟨Nat.le_of_ble_eq_true rfl, Nat.le_of_ble_eq_true rfl⟩) rfl rfl (Nat.le_of_ble_eq_true rfl) dX6_leastTree_48 (fun r10 _ => ?_)
      refine g_aload_n B dX6_leastTree_51 0 rfl rfl ?_
      refine g_get (v := .int (M9 2 3)) B shX_st (by decide) in_X6_leastTree_X6 rfl 3 (by decide) (List.mem_of_getElem? (i := 1) rfl) rfl rfl dX6_leastTree_52 ?_
      refine g_iconst (v := 1) B dX6_leastTree_55 (by decide) ?_
      refine g_isub B dX6_leastTree_56 ?_
      refine g_icmp_ne (tgt := 64) B dX6_leastTree_57 (by decide) (fun c11 => ?_) (fun c11 => ?_)
      · refine g_iload_n B dX6_leastTree_60 1 rfl rfl ?_
        refine g_goto (tgt := 66) B dX6_leastTree_61 (by decide) ?_
        exact g_iret B hr hk dX6_leastTree_66
      · refine g_bipush (v := -9) B dX6_leastTree_64 (by decide) ?_
        exact g_iret B hr hk dX6_leastTree_66

abbrev rm_X6_lengthOf : Room := { frames := 2, cells := 0, slots := 0, locals := 43 }
set_option maxHeartbeats 4000000 in
set_option maxRecDepth 100000 in
theorem k_X6_lengthOf (l : Launch) (D : va_G) (cA : Nat → ClassId) (ad : Nat → Nat) (had : adOK ad 37) (v1 : Int32) (M : Mem) : CI l yX6_lengthOf wsX6_lengthOf rm_X6_lengthOf D cA ad (shX ad cA) 37 [.ref (ad 2), .int v1] M (wM M (d_X6_lengthOf v1 M)) := by
  refine CI_ofp (own := RX6) (cc := cX6_lengthOf) (maxL := 6) (rt := .int) had (by decide) rfl rfl (Nat.le_of_ble_eq_true rfl) ?_
  intro p e s m args below meth c R0 B hr hk
  have hL22 : ∀ (v1 : Int32) (v4 : Int32)  (k22_60 : Int32 → Int32 → Option Int32)  (hk22_60 : ∀ (w2 : Int32) (w3 : Int32), GG p l e (headSpec wsX6_lengthOf rm_X6_lengthOf).room s m args below meth c D ad (shX ad cA) 37 6 (MQ below (QI D ad (shX ad cA) 37 s.heap.size (R0, M)) args s 0 0 (AX ad 37 s.heap.size)) R0 M 60 [(0, .ref (ad 2)), (1, .int v1), (2, .int w2), (3, .int w3), (4, .int v4)] [] (k22_60 w2 w3)), ∀ (f : Nat) (v2 : Int32) (v3 : Int32) (v5 : Int32), GG p l e (headSpec wsX6_lengthOf rm_X6_lengthOf).room s m args below meth c D ad (shX ad cA) 37 6 (MQ below (QI D ad (shX ad cA) 37 s.heap.size (R0, M)) args s 0 0 (AX ad 37 s.heap.size)) R0 M 22 [(0, .ref (ad 2)), (1, .int v1), (2, .int v2), (3, .int v3), (4, .int v4), (5, .int v5)] [] (dX6_lengthOf_22l v1 v4 M k22_60 f v2 v3 v5 ) := by
    intro v1 v4 k22_60 hk22_60
    intro f
    induction f with
    | zero =>
      intro v2 v3 v5
      exact g_none
    | succ f ih =>
      intro v2 v3 v5
      rw [dX6_lengthOf_22l]
      refine g_iload B dX6_lengthOf_22 5 rfl ?_
      refine g_aload_n B dX6_lengthOf_24 0 rfl rfl ?_
      refine g_get (v := .int (M 2 3)) B shX_st (by decide) in_X6_lengthOf_X6 rfl 3 (by decide) (List.mem_of_getElem? (i := 1) rfl) rfl rfl dX6_lengthOf_25 ?_
      refine g_icmp_ge (tgt := 60) B dX6_lengthOf_28 (by decide) (fun c3 => ?_) (fun c3 => ?_)
      · exact g_lv [0, 1, 2, 3, 4] rfl (hk22_60 _ _)
      · refine g_iload_n B dX6_lengthOf_31 1 rfl rfl ?_
        refine g_iload_n B dX6_lengthOf_32 3 rfl rfl ?_
        refine g_ishr B dX6_lengthOf_33 ?_
        refine g_iconst (v := 1) B dX6_lengthOf_34 (by decide) ?_
        refine g_iand B dX6_lengthOf_35 ?_
        refine g_iconst (v := 1) B dX6_lengthOf_36 (by decide) ?_
        refine g_icmp_ne (tgt := 51) B dX6_lengthOf_37 (by decide) (fun c4 => ?_) (fun c4 => ?_)
        · refine g_iload_n B dX6_lengthOf_40 2 rfl rfl ?_
          refine g_aload_n B dX6_lengthOf_41 0 rfl rfl ?_
          refine g_iload B dX6_lengthOf_42 4 rfl ?_
          refine g_iload B dX6_lengthOf_44 5 rfl ?_
          refine g_callVIp (q := (RX6, TX6, 4)) (As := [.int v4, .int v5]) (st := [.int v2]) B (k_X6_length l D cA ad B.2.2.2.2.2.2.1 v4 v5 M) (cwV 2 B.2.2.2.2.1 gX6_lengthOf_X6_length rfl rfl rfl (by decide +kernel) ⟨Nat.le_of_ble_eq_true rfl, Nat.le_of_ble_eq_true rfl⟩) shX_st (by decide) rfl rfl rfl (Nat.le_of_ble_eq_true rfl) dX6_lengthOf_46 (fun r5 _ => ?_)
          refine g_iadd B dX6_lengthOf_49 ?_
          refine g_lmI (fun x6 => ?_)
          refine g_istore_n B dX6_lengthOf_50 rfl (by decide) (lv1 := [(2, .int x6), (0, .ref (ad 2)), (1, .int v1), (3, .int v3), (4, .int v4), (5, .int v5)]) rfl ?_
          refine g_iinc B dX6_lengthOf_51 3 (v := v3 + (1 : Int32)) rfl rfl (by decide) (lv1 := [(3, .int (v3 + (1 : Int32))), (2, .int x6), (0, .ref (ad 2)), (1, .int v1), (4, .int v4), (5, .int v5)]) rfl ?_
          refine g_iinc B dX6_lengthOf_54 5 (v := v5 + (1 : Int32)) rfl rfl (by decide) (lv1 := [(5, .int (v5 + (1 : Int32))), (3, .int (v3 + (1 : Int32))), (2, .int x6), (0, .ref (ad 2)), (1, .int v1), (4, .int v4)]) rfl ?_
          refine g_goto (tgt := 22) B dX6_lengthOf_57 (by decide) ?_
          exact g_lv [3, 4, 2, 1, 5, 0] rfl (ih _ _ _)
        · refine g_iinc B dX6_lengthOf_51 3 (v := v3 + (1 : Int32)) rfl rfl (by decide) (lv1 := [(3, .int (v3 + (1 : Int32))), (0, .ref (ad 2)), (1, .int v1), (2, .int v2), (4, .int v4), (5, .int v5)]) rfl ?_
          refine g_iinc B dX6_lengthOf_54 5 (v := v5 + (1 : Int32)) rfl rfl (by decide) (lv1 := [(5, .int (v5 + (1 : Int32))), (3, .int (v3 + (1 : Int32))), (0, .ref (ad 2)), (1, .int v1), (2, .int v2), (4, .int v4)]) rfl ?_
          refine g_goto (tgt := 22) B dX6_lengthOf_57 (by decide) ?_
          exact g_lv [2, 3, 4, 1, 5, 0] rfl (ih _ _ _)
  have hL7 : ∀ (v1 : Int32)    , ∀ (f : Nat) (v2 : Int32) (v3 : Int32) (v4 : Int32), GG p l e (headSpec wsX6_lengthOf rm_X6_lengthOf).room s m args below meth c D ad (shX ad cA) 37 6 (MQ below (QI D ad (shX ad cA) 37 s.heap.size (R0, M)) args s 0 0 (AX ad 37 s.heap.size)) R0 M 7 [(0, .ref (ad 2)), (1, .int v1), (2, .int v2), (3, .int v3), (4, .int v4)] [] (dX6_lengthOf_7l v1 M  f v2 v3 v4 ) := by
    intro v1
    intro f
    induction f with
    | zero =>
      intro v2 v3 v4
      exact g_none
    | succ f ih =>
      intro v2 v3 v4
      rw [dX6_lengthOf_7l]
      refine g_iload B dX6_lengthOf_7 4 rfl ?_
      refine g_aload_n B dX6_lengthOf_9 0 rfl rfl ?_
      refine g_get (v := .int (M 2 3)) B shX_st (by decide) in_X6_lengthOf_X6 rfl 3 (by decide) (List.mem_of_getElem? (i := 1) rfl) rfl rfl dX6_lengthOf_10 ?_
      refine g_icmp_ge (tgt := 66) B dX6_lengthOf_13 (by decide) (fun c1 => ?_) (fun c1 => ?_)
      · refine g_iload_n B dX6_lengthOf_66 2 rfl rfl ?_
        exact g_iretp B hr hk dX6_lengthOf_67
      · refine g_iload B dX6_lengthOf_16 4 rfl ?_
        refine g_iconst (v := 1) B dX6_lengthOf_18 (by decide) ?_
        refine g_iadd B dX6_lengthOf_19 ?_
        refine g_lmI (fun x2 => ?_)
        refine g_istore B dX6_lengthOf_20 (by decide) (lv1 := [(5, .int x2), (0, .ref (ad 2)), (1, .int v1), (2, .int v2), (3, .int v3), (4, .int v4)]) rfl ?_
        refine g_lv [1, 2, 3, 4, 5, 0] rfl (hL22 _ _ _  ?_ FU _ _ _)
        · intro w7 w8
          refine g_iinc B dX6_lengthOf_60 4 (v := v4 + (1 : Int32)) rfl rfl (by decide) (lv1 := [(4, .int (v4 + (1 : Int32))), (0, .ref (ad 2)), (1, .int v1), (2, .int w7), (3, .int w8)]) rfl ?_
          refine g_goto (tgt := 7) B dX6_lengthOf_63 (by decide) ?_
          exact g_lv [1, 2, 3, 4, 0] rfl (ih _ _ _)
  unfold d_X6_lengthOf
  show GG p l e (headSpec wsX6_lengthOf rm_X6_lengthOf).room s m args below meth c D ad (shX ad cA) 37 6 (MQ below (QI D ad (shX ad cA) 37 s.heap.size (R0, M)) args s 0 0 (AX ad 37 s.heap.size)) R0 M 0 [(0, .ref (ad 2)), (1, .int v1)] [] _
  refine g_iconst (v := 0) B dX6_lengthOf_0 (by decide) ?_
  refine g_istore_n B dX6_lengthOf_1 rfl (by decide) (lv1 := [(2, .int (0 : Int32)), (0, .ref (ad 2)), (1, .int v1)]) rfl ?_
  refine g_iconst (v := 0) B dX6_lengthOf_2 (by decide) ?_
  refine g_istore_n B dX6_lengthOf_3 rfl (by decide) (lv1 := [(3, .int (0 : Int32)), (2, .int (0 : Int32)), (0, .ref (ad 2)), (1, .int v1)]) rfl ?_
  refine g_iconst (v := 0) B dX6_lengthOf_4 (by decide) ?_
  refine g_istore B dX6_lengthOf_5 (by decide) (lv1 := [(4, .int (0 : Int32)), (3, .int (0 : Int32)), (2, .int (0 : Int32)), (0, .ref (ad 2)), (1, .int v1)]) rfl ?_
  refine g_lv [3, 4, 2, 1, 0] rfl (hL7 _   FU _ _ _)

abbrev rm_X8_tree : Room := { frames := 4, cells := 0, slots := 0, locals := 90 }
set_option maxHeartbeats 4000000 in
set_option maxRecDepth 100000 in
theorem k_X8_tree (l : Launch) (D : va_G) (cA : Nat → ClassId) (ad : Nat → Nat) (had : adOK ad 37) (v1 : Int32) (M : Mem) : CI l yX8_tree wsX8_tree rm_X8_tree D cA ad (shX ad cA) 37 [.ref (ad 0), .int v1] M (d_X8_tree v1 M) := by
  refine CI_of (own := RX8) (cc := cX8_tree) (maxL := 3) (rt := .int) had (by decide) rfl rfl (Nat.le_of_ble_eq_true rfl) ?_
  intro p e s m args below meth c R0 B hr hk
  unfold d_X8_tree
  show GG p l e (headSpec wsX8_tree rm_X8_tree).room s m args below meth c D ad (shX ad cA) 37 3 (MQ below (QI D ad (shX ad cA) 37 s.heap.size R0) args s 0 0 (AX ad 37 s.heap.size)) R0 M 0 [(0, .ref (ad 0)), (1, .int v1)] [] _
  refine g_aload_n B dX8_tree_0 0 rfl rfl ?_
  refine g_callVIp (q := (RX8, TX8, 9)) (As := []) (st := []) B (k_X8_hasTown l D cA ad B.2.2.2.2.2.2.1  M) (cwV 0 B.2.2.2.2.1 gX8_tree_X8_hasTown rfl rfl rfl (by decide +kernel) ⟨Nat.le_of_ble_eq_true rfl, Nat.le_of_ble_eq_true rfl⟩) shX_pw (by decide) rfl rfl rfl (Nat.le_of_ble_eq_true rfl) dX8_tree_1 (fun r1 _ => ?_)
  refine g_if_ne (tgt := 10) B dX8_tree_4 (by decide) (fun c2 => ?_) (fun c2 => ?_)
  · refine g_bipush (v := -3) B dX8_tree_7 (by decide) ?_
    exact g_iret B hr hk dX8_tree_9
  · refine g_iload_n B dX8_tree_10 1 rfl rfl ?_
    refine g_if_lt (tgt := 19) B dX8_tree_11 (by decide) (fun c3 => ?_) (fun c3 => ?_)
    · refine g_bipush (v := -2) B dX8_tree_19 (by decide) ?_
      exact g_iret B hr hk dX8_tree_21
    · refine g_iload_n B dX8_tree_14 1 rfl rfl ?_
      refine g_iconst (v := 1) B dX8_tree_15 (by decide) ?_
      refine g_icmp_le (tgt := 22) B dX8_tree_16 (by decide) (fun c4 => ?_) (fun c4 => ?_)
      · refine g_aload_n B dX8_tree_22 0 rfl rfl ?_
        refine g_get (v := .ref (ad 2)) B shX_pw (by decide) in_X8_tree_X8 rfl 1 (by decide) (List.mem_of_getElem? (i := 1) rfl) rfl rfl dX8_tree_23 ?_
        refine g_callVIe (q := (RX6, TX6, 4)) (As := []) (st := []) B (k_X6_leastTree l D cA ad B.2.2.2.2.2.2.1  M) (cwV 0 B.2.2.2.2.1 gX8_tree_X6_leastTree rfl rfl rfl (by decide +kernel) ⟨Nat.le_of_ble_eq_true rfl, Nat.le_of_ble_eq_true rfl⟩) shX_st (by decide) rfl rfl rfl (Nat.le_of_ble_eq_true rfl) dX8_tree_26 (fun r5 M6 _ => ?_)
        refine g_istore_n B dX8_tree_29 rfl (by decide) (lv1 := [(2, .int r5), (0, .ref (ad 0)), (1, .int v1)]) rfl ?_
        refine g_iload_n B dX8_tree_30 0 rfl rfl ?_
        refine g_bipush (v := -9) B dX8_tree_31 (by decide) ?_
        refine g_icmp_eq (tgt := 41) B dX8_tree_33 (by decide) (fun c7 => ?_) (fun c7 => ?_)
        · refine g_iload_n B dX8_tree_41 0 rfl rfl ?_
          refine g_goto (tgt := 53) B dX8_tree_42 (by decide) ?_
          exact g_iret B hr hk dX8_tree_53
        · refine g_iload_n B dX8_tree_36 2 rfl rfl ?_
          refine g_iconst (v := 1) B dX8_tree_37 (by decide) ?_
          refine g_icmp_ne (tgt := 45) B dX8_tree_38 (by decide) (fun c8 => ?_) (fun c8 => ?_)
          · refine g_iload_n B dX8_tree_41 0 rfl rfl ?_
            refine g_goto (tgt := 53) B dX8_tree_42 (by decide) ?_
            exact g_iret B hr hk dX8_tree_53
          · refine g_aload_n B dX8_tree_45 1 rfl rfl ?_
            refine g_get (v := .ref (ad 2)) B shX_pw (by decide) in_X8_tree_X8 rfl 1 (by decide) (List.mem_of_getElem? (i := 1) rfl) rfl rfl dX8_tree_46 ?_
            refine g_iload_n B dX8_tree_49 0 rfl rfl ?_
            refine g_callVIp (q := (RX6, TX6, 4)) (As := [.int r5]) (st := []) B (k_X6_lengthOf l D cA ad B.2.2.2.2.2.2.1 r5 M6) (cwV 1 B.2.2.2.2.1 gX8_tree_X6_lengthOf rfl rfl rfl (by decide +kernel) ⟨Nat.le_of_ble_eq_true rfl, Nat.le_of_ble_eq_true rfl⟩) shX_st (by decide) rfl rfl rfl (Nat.le_of_ble_eq_true rfl) dX8_tree_50 (fun r9 _ => ?_)
            exact g_iret B hr hk dX8_tree_53
      · refine g_bipush (v := -2) B dX8_tree_19 (by decide) ?_
        exact g_iret B hr hk dX8_tree_21

abbrev rm_X2_daysTo : Room := { frames := 2, cells := 0, slots := 0, locals := 44 }
set_option maxHeartbeats 4000000 in
set_option maxRecDepth 100000 in
theorem k_X2_daysTo (l : Launch) (D : va_G) (cA : Nat → ClassId) (ad : Nat → Nat) (had : adOK ad 37) (o0 : Nat) (ho0 : isFt o0) (v1 : Int32) (M : Mem) : CI l yX2_daysTo wsX2_daysTo rm_X2_daysTo D cA ad (shX ad cA) 37 [.ref (ad o0), .int v1, .ref (ad 2)] M (wM M (d_X2_daysTo o0 v1 M)) := by
  refine CI_ofp (own := RX2) (cc := cX2_daysTo) (maxL := 4) (rt := .int) had (by decide) rfl rfl (Nat.le_of_ble_eq_true rfl) ?_
  intro p e s m args below meth c R0 B hr hk
  unfold d_X2_daysTo
  show GG p l e (headSpec wsX2_daysTo rm_X2_daysTo).room s m args below meth c D ad (shX ad cA) 37 4 (MQ below (QI D ad (shX ad cA) 37 s.heap.size (R0, M)) args s 0 0 (AX ad 37 s.heap.size)) R0 M 0 [(0, .ref (ad o0)), (1, .int v1), (2, .ref (ad 2))] [] _
  refine g_aload_n B dX2_daysTo_0 2 rfl rfl ?_
  refine g_aload_n B dX2_daysTo_1 0 rfl rfl ?_
  refine g_get (v := .int (M o0 1)) B (shX_ft ho0) (ft_lt ho0) in_X2_daysTo_X2 rfl 1 (by decide) (List.mem_of_getElem? (i := 1) rfl) rfl rfl dX2_daysTo_2 ?_
  refine g_iload_n B dX2_daysTo_5 1 rfl rfl ?_
  refine g_callVIp (q := (RX6, TX6, 4)) (As := [.int (M o0 1), .int v1]) (st := []) B (k_X6_distance l D cA ad B.2.2.2.2.2.2.1 (M o0 1) v1 M) (cwV 2 B.2.2.2.2.1 gX2_daysTo_X6_distance rfl rfl rfl (by decide +kernel) ⟨Nat.le_of_ble_eq_true rfl, Nat.le_of_ble_eq_true rfl⟩) shX_st (by decide) rfl rfl rfl (Nat.le_of_ble_eq_true rfl) dX2_daysTo_6 (fun r1 _ => ?_)
  refine g_istore_n B dX2_daysTo_9 rfl (by decide) (lv1 := [(3, .int r1), (0, .ref (ad o0)), (1, .int v1), (2, .ref (ad 2))]) rfl ?_
  refine g_iload_n B dX2_daysTo_10 0 rfl rfl ?_
  refine g_bipush (v := -9) B dX2_daysTo_11 (by decide) ?_
  refine g_icmp_ne (tgt := 21) B dX2_daysTo_13 (by decide) (fun c2 => ?_) (fun c2 => ?_)
  · refine g_ldc (v := 1000000) B dX2_daysTo_16 (List.mem_of_getElem? (i := 2) rfl) ?_
    refine g_goto (tgt := 29) B dX2_daysTo_18 (by decide) ?_
    exact g_iretp B hr hk dX2_daysTo_29
  · refine g_iload_n B dX2_daysTo_21 0 rfl rfl ?_
    refine g_aload_n B dX2_daysTo_22 1 rfl rfl ?_
    refine g_callVIp (q := (RX2, TX2, 6)) (As := []) (st := [.int r1]) B (k_X2_pace l D cA ad B.2.2.2.2.2.2.1 o0 ho0 M) (cwV 0 B.2.2.2.2.1 gX2_daysTo_X2_pace rfl rfl rfl (by decide +kernel) ⟨Nat.le_of_ble_eq_true rfl, Nat.le_of_ble_eq_true rfl⟩) (shX_ft ho0) (ft_lt ho0) rfl rfl rfl (Nat.le_of_ble_eq_true rfl) dX2_daysTo_23 (fun r3 _ => ?_)
    refine g_callSNIp (As := [.int r1, .int r3]) (st := []) B (k_X8_daysFor l D cA ad B.2.2.2.2.2.2.1 r1 r3 M) ⟨va_cnB (host := "PromiseWalk") 2 B.2.2.2.2.1 gX2_daysTo_X8_daysFor_n45 rfl rfl rfl (B.2.2.2.2.2.2.2.m 7 rfl) (B.2.2.2.2.1 _ (List.mem_of_getElem? (i := 23) rfl)) (by decide +kernel) ⟨Nat.le_of_ble_eq_true rfl, Nat.le_of_ble_eq_true rfl⟩, B.2.2.2.2.1 _ (List.mem_of_getElem? (i := 25) rfl), trivial⟩ rfl rfl (Nat.le_of_ble_eq_true rfl) dX2_daysTo_26 (fun r4 _ => ?_)
    exact g_iretp B hr hk dX2_daysTo_29

abbrev rm_X1_arrivalWith : Room := { frames := 3, cells := 0, slots := 0, locals := 67 }
set_option maxHeartbeats 4000000 in
set_option maxRecDepth 100000 in
theorem k_X1_arrivalWith (l : Launch) (D : va_G) (cA : Nat → ClassId) (ad : Nat → Nat) (had : adOK ad 37) (v1 : Int32) (v2 : Int32) (o3 : Nat) (ho3 : isCo o3) (M : Mem) : CI l yX1_arrivalWith wsX1_arrivalWith rm_X1_arrivalWith D cA ad (shX ad cA) 37 [.ref (ad 23), .int v1, .int v2, .ref (ad o3), .ref (ad 2)] M (wM M (d_X1_arrivalWith v1 v2 o3 M)) := by
  refine CI_ofp (own := RX1) (cc := cX1_arrivalWith) (maxL := 7) (rt := .int) had (by decide) rfl rfl (Nat.le_of_ble_eq_true rfl) ?_
  intro p e s m args below meth c R0 B hr hk
  unfold d_X1_arrivalWith
  show GG p l e (headSpec wsX1_arrivalWith rm_X1_arrivalWith).room s m args below meth c D ad (shX ad cA) 37 7 (MQ below (QI D ad (shX ad cA) 37 s.heap.size (R0, M)) args s 0 0 (AX ad 37 s.heap.size)) R0 M 0 [(0, .ref (ad 23)), (1, .int v1), (2, .int v2), (3, .ref (ad o3)), (4, .ref (ad 2))] [] _
  refine g_iload_n B dX1_arrivalWith_0 1 rfl rfl ?_
  refine g_callSIp (As := [.int v1]) (st := []) B (k_J6_bitCount_0f7a4 l D cA ad B.2.2.2.2.2.2.1 v1 M) (va_cwS 1 B.2.2.2.2.1 gX1_arrivalWith_J6_bitCount_0f7a4 rfl rfl rfl (by decide +kernel) ⟨Nat.le_of_ble_eq_true rfl, Nat.le_of_ble_eq_true rfl⟩) rfl rfl (Nat.le_of_ble_eq_true rfl) dX1_arrivalWith_1 (fun r1 _ => ?_)
  refine g_istore B dX1_arrivalWith_4 (by decide) (lv1 := [(5, .int r1), (0, .ref (ad 23)), (1, .int v1), (2, .int v2), (3, .ref (ad o3)), (4, .ref (ad 2))]) rfl ?_
  refine g_aload_n B dX1_arrivalWith_6 4 rfl rfl ?_
  refine g_iload B dX1_arrivalWith_7 0 rfl ?_
  refine g_callVIp (q := (RX0, TX0, 2)) (As := [.int r1]) (st := []) B (k_X0_has l D cA ad B.2.2.2.2.2.2.1 o3 ho3 r1 M) (cwV 1 B.2.2.2.2.1 gX1_arrivalWith_X0_has rfl rfl rfl (by decide +kernel) ⟨Nat.le_of_ble_eq_true rfl, Nat.le_of_ble_eq_true rfl⟩) (shX_co ho3) (co_lt ho3) rfl rfl rfl (Nat.le_of_ble_eq_true rfl) dX1_arrivalWith_9 (fun r2 _ => ?_)
  refine g_if_eq (tgt := 23) B dX1_arrivalWith_12 (by decide) (fun c3 => ?_) (fun c3 => ?_)
  · refine g_ldc (v := 1000000) B dX1_arrivalWith_23 (List.mem_of_getElem? (i := 1) rfl) ?_
    exact g_iretp B hr hk dX1_arrivalWith_25
  · refine g_aload_n B dX1_arrivalWith_15 4 rfl rfl ?_
    refine g_iload_n B dX1_arrivalWith_16 3 rfl rfl ?_
    refine g_callVIp (q := (RX0, TX0, 2)) (As := [.int v2]) (st := []) B (k_X0_has l D cA ad B.2.2.2.2.2.2.1 o3 ho3 v2 M) (cwV 1 B.2.2.2.2.1 gX1_arrivalWith_X0_has rfl rfl rfl (by decide +kernel) ⟨Nat.le_of_ble_eq_true rfl, Nat.le_of_ble_eq_true rfl⟩) (shX_co ho3) (co_lt ho3) rfl rfl rfl (Nat.le_of_ble_eq_true rfl) dX1_arrivalWith_17 (fun r4 _ => ?_)
    refine g_if_ne (tgt := 26) B dX1_arrivalWith_20 (by decide) (fun c5 => ?_) (fun c5 => ?_)
    · refine g_ldc (v := 1000000) B dX1_arrivalWith_23 (List.mem_of_getElem? (i := 1) rfl) ?_
      exact g_iretp B hr hk dX1_arrivalWith_25
    · refine g_aload_n B dX1_arrivalWith_26 4 rfl rfl ?_
      refine g_getN (v := .ref (ad (o3 + 1))) B (shX_co ho3) (co_lt ho3) in_X1_arrivalWith_X0 rfl 0 (by decide) 17 rfl rfl rfl dX1_arrivalWith_27 ?_
      refine g_iload B dX1_arrivalWith_30 0 rfl ?_
      refine g_aald (g := (ft o3)) B 1 rfl (shX_fts ho3) (fts_lt ho3) dX1_arrivalWith_32 (fun b6 => ?_)
      have f7 := (ft_ok ho3 b6)
      refine g_aload_n B dX1_arrivalWith_33 4 rfl rfl ?_
      refine g_getN (v := .ref (ad (o3 + 1))) B (shX_co ho3) (co_lt ho3) in_X1_arrivalWith_X0 rfl 0 (by decide) 17 rfl rfl rfl dX1_arrivalWith_34 ?_
      refine g_iload_n B dX1_arrivalWith_37 3 rfl rfl ?_
      refine g_aald (g := (ft o3)) B 1 rfl (shX_fts ho3) (fts_lt ho3) dX1_arrivalWith_38 (fun b8 => ?_)
      have f9 := (ft_ok ho3 b8)
      refine g_getN (v := .int (M ((ft o3) v2.toNatClampNeg) 2)) B (shX_ft f9) (ft_lt f9) in_X1_arrivalWith_X2 rfl 2 (by decide) 7 rfl rfl rfl dX1_arrivalWith_39 ?_
      refine g_aload B dX1_arrivalWith_42 5 rfl ?_
      refine g_callVIp (q := (RX2, TX2, 6)) (As := [.int (M ((ft o3) v2.toNatClampNeg) 2), .ref (ad 2)]) (st := []) B (k_X2_daysTo l D cA ad B.2.2.2.2.2.2.1 ((ft o3) r1.toNatClampNeg) f7 (M ((ft o3) v2.toNatClampNeg) 2) M) (cwV 2 B.2.2.2.2.1 gX1_arrivalWith_X2_daysTo rfl rfl rfl (by decide +kernel) ⟨Nat.le_of_ble_eq_true rfl, Nat.le_of_ble_eq_true rfl⟩) (shX_ft f7) (ft_lt f7) rfl rfl rfl (Nat.le_of_ble_eq_true rfl) dX1_arrivalWith_44 (fun r10 _ => ?_)
      refine g_istore B dX1_arrivalWith_47 (by decide) (lv1 := [(6, .int r10), (5, .int r1), (0, .ref (ad 23)), (1, .int v1), (2, .int v2), (3, .ref (ad o3)), (4, .ref (ad 2))]) rfl ?_
      refine g_iload B dX1_arrivalWith_49 0 rfl ?_
      refine g_aload_n B dX1_arrivalWith_51 2 rfl rfl ?_
      refine g_get (v := .ref (ad 24)) B shX_er (by decide) in_X1_arrivalWith_X1 rfl 0 (by decide) (List.mem_of_getElem? (i := 2) rfl) rfl rfl dX1_arrivalWith_52 ?_
      refine g_iload_n B dX1_arrivalWith_55 3 rfl rfl ?_
      refine g_iconst (v := 1) B dX1_arrivalWith_56 (by decide) ?_
      refine g_iload_n B dX1_arrivalWith_57 4 rfl rfl ?_
      refine g_ishl B dX1_arrivalWith_58 ?_
      refine g_ior B dX1_arrivalWith_59 ?_
      refine g_iald B shX_24 (by decide) dX1_arrivalWith_60 ?_
      refine g_max B dX1_arrivalWith_61 (List.mem_of_getElem? (i := 3) rfl) (List.mem_of_getElem? (i := 4) rfl) (List.mem_of_getElem? (i := 5) rfl) (List.mem_of_getElem? (i := 6) rfl) (Nat.le_of_ble_eq_true rfl) (Nat.le_of_ble_eq_true rfl) ?_
      exact g_iretp B hr hk dX1_arrivalWith_64

abbrev rm_X1_weigh : Room := { frames := 4, cells := 0, slots := 0, locals := 93 }
set_option maxHeartbeats 4000000 in
set_option maxRecDepth 100000 in
theorem k_X1_weigh (l : Launch) (D : va_G) (cA : Nat → ClassId) (ad : Nat → Nat) (had : adOK ad 37) (o1 : Nat) (ho1 : isCo o1) (M : Mem) : CV l yX1_weigh wsX1_weigh rm_X1_weigh D cA ad (shX ad cA) 37 [.ref (ad 23), .ref (ad o1), .ref (ad 2)] M (d_X1_weigh o1 M) := by
  refine CV_of (own := RX1) (cc := cX1_weigh) (maxL := 6) had (by decide) rfl rfl (Nat.le_of_ble_eq_true rfl) ?_
  intro p e s m args below meth c R0 B hr hk
  have hL38 : ∀ (o1 : Nat) (v4 : Int32)  (k38_90 : Mem → Option Mem) (ho1 : isCo o1) (hk38_90 : ∀  (M1 : Mem), GG p l e (headSpec wsX1_weigh rm_X1_weigh).room s m args below meth c D ad (shX ad cA) 37 6 (MQ below (QV D ad (shX ad cA) 37 s.heap.size R0) args s 0 0 (AX ad 37 s.heap.size)) R0 M1 90 [(0, .ref (ad 23)), (1, .ref (ad o1)), (2, .ref (ad 2)), (4, .int v4)] [] (k38_90  M1)), ∀ (f : Nat) (v5 : Int32) (M : Mem), GG p l e (headSpec wsX1_weigh rm_X1_weigh).room s m args below meth c D ad (shX ad cA) 37 6 (MQ below (QV D ad (shX ad cA) 37 s.heap.size R0) args s 0 0 (AX ad 37 s.heap.size)) R0 M 38 [(0, .ref (ad 23)), (1, .ref (ad o1)), (2, .ref (ad 2)), (4, .int v4), (5, .int v5)] [] (dX1_weigh_38l o1 v4  k38_90 f v5 M) := by
    intro o1 v4 k38_90 ho1 hk38_90
    intro f
    induction f with
    | zero =>
      intro v5 M
      exact g_none
    | succ f ih =>
      intro v5 M
      rw [dX1_weigh_38l]
      refine g_iload B dX1_weigh_38 4 rfl ?_
      refine g_aload_n B dX1_weigh_40 1 rfl rfl ?_
      refine g_getN (v := .int (M o1 1)) B (shX_co ho1) (co_lt ho1) in_X1_weigh_X0 rfl 1 (by decide) 20 rfl rfl rfl dX1_weigh_41 ?_
      refine g_icmp_ge (tgt := 90) B dX1_weigh_44 (by decide) (fun c6 => ?_) (fun c6 => ?_)
      · exact g_lv [0, 1, 2, 3] rfl (hk38_90  _)
      · refine g_iload B dX1_weigh_47 3 rfl ?_
        refine g_iload B dX1_weigh_49 4 rfl ?_
        refine g_ishr B dX1_weigh_51 ?_
        refine g_iconst (v := 1) B dX1_weigh_52 (by decide) ?_
        refine g_iand B dX1_weigh_53 ?_
        refine g_if_ne (tgt := 84) B dX1_weigh_54 (by decide) (fun c7 => ?_) (fun c7 => ?_)
        · refine g_aload_n B dX1_weigh_57 0 rfl rfl ?_
          refine g_get (v := .ref (ad 24)) B shX_er (by decide) in_X1_weigh_X1 rfl 0 (by decide) (List.mem_of_getElem? (i := 1) rfl) rfl rfl dX1_weigh_58 ?_
          refine g_iload B dX1_weigh_61 3 rfl ?_
          refine g_aload_n B dX1_weigh_63 0 rfl rfl ?_
          refine g_get (v := .ref (ad 24)) B shX_er (by decide) in_X1_weigh_X1 rfl 0 (by decide) (List.mem_of_getElem? (i := 1) rfl) rfl rfl dX1_weigh_64 ?_
          refine g_iload B dX1_weigh_67 3 rfl ?_
          refine g_iald B shX_24 (by decide) dX1_weigh_69 ?_
          refine g_aload_n B dX1_weigh_70 0 rfl rfl ?_
          refine g_iload B dX1_weigh_71 3 rfl ?_
          refine g_iload B dX1_weigh_73 4 rfl ?_
          refine g_aload_n B dX1_weigh_75 1 rfl rfl ?_
          refine g_aload_n B dX1_weigh_76 2 rfl rfl ?_
          refine g_callVIp (q := (RX1, TX1, 1)) (As := [.int v4, .int v5, .ref (ad o1), .ref (ad 2)]) (st := [.int (M 24 v4.toNatClampNeg), .int v4, .ref (ad 24)]) B (k_X1_arrivalWith l D cA ad B.2.2.2.2.2.2.1 v4 v5 o1 ho1 M) (cwV 4 B.2.2.2.2.1 gX1_weigh_X1_arrivalWith rfl rfl rfl (by decide +kernel) ⟨Nat.le_of_ble_eq_true rfl, Nat.le_of_ble_eq_true rfl⟩) shX_er (by decide) rfl rfl rfl (Nat.le_of_ble_eq_true rfl) dX1_weigh_77 (fun r8 _ => ?_)
          refine g_min B dX1_weigh_80 (List.mem_of_getElem? (i := 3) rfl) (List.mem_of_getElem? (i := 4) rfl) (List.mem_of_getElem? (i := 5) rfl) (List.mem_of_getElem? (i := 6) rfl) (Nat.le_of_ble_eq_true rfl) (Nat.le_of_ble_eq_true rfl) ?_
          refine g_iast B shX_24 (by decide) dX1_weigh_83 (g_lmM (fun M9 => ?_))
          refine g_iinc B dX1_weigh_84 4 (v := v5 + (1 : Int32)) rfl rfl (by decide) (lv1 := [(5, .int (v5 + (1 : Int32))), (0, .ref (ad 23)), (1, .ref (ad o1)), (2, .ref (ad 2)), (4, .int v4)]) rfl ?_
          refine g_goto (tgt := 38) B dX1_weigh_87 (by decide) ?_
          exact g_lv [1, 2, 3, 4, 0] rfl (ih _ _)
        · refine g_iinc B dX1_weigh_84 4 (v := v5 + (1 : Int32)) rfl rfl (by decide) (lv1 := [(5, .int (v5 + (1 : Int32))), (0, .ref (ad 23)), (1, .ref (ad o1)), (2, .ref (ad 2)), (4, .int v4)]) rfl ?_
          refine g_goto (tgt := 38) B dX1_weigh_87 (by decide) ?_
          exact g_lv [1, 2, 3, 4, 0] rfl (ih _ _)
  have hL21 : ∀ (o1 : Nat)   (ho1 : isCo o1) , ∀ (f : Nat) (v4 : Int32) (M : Mem), GG p l e (headSpec wsX1_weigh rm_X1_weigh).room s m args below meth c D ad (shX ad cA) 37 6 (MQ below (QV D ad (shX ad cA) 37 s.heap.size R0) args s 0 0 (AX ad 37 s.heap.size)) R0 M 21 [(0, .ref (ad 23)), (1, .ref (ad o1)), (2, .ref (ad 2)), (4, .int v4)] [] (dX1_weigh_21l o1   f v4 M) := by
    intro o1 ho1
    intro f
    induction f with
    | zero =>
      intro v4 M
      exact g_none
    | succ f ih =>
      intro v4 M
      rw [dX1_weigh_21l]
      refine g_iload B dX1_weigh_21 3 rfl ?_
      refine g_if_lt (tgt := 96) B dX1_weigh_23 (by decide) (fun c4 => ?_) (fun c4 => ?_)
      · exact g_vret B hr hk dX1_weigh_96
      · refine g_aload_n B dX1_weigh_26 0 rfl rfl ?_
        refine g_get (v := .ref (ad 24)) B shX_er (by decide) in_X1_weigh_X1 rfl 0 (by decide) (List.mem_of_getElem? (i := 1) rfl) rfl rfl dX1_weigh_27 ?_
        refine g_iload B dX1_weigh_30 3 rfl ?_
        refine g_ldc (v := 1000000) B dX1_weigh_32 (List.mem_of_getElem? (i := 2) rfl) ?_
        refine g_iast B shX_24 (by decide) dX1_weigh_34 (g_lmM (fun M5 => ?_))
        refine g_iconst (v := 0) B dX1_weigh_35 (by decide) ?_
        refine g_istore B dX1_weigh_36 (by decide) (lv1 := [(5, .int (0 : Int32)), (0, .ref (ad 23)), (1, .ref (ad o1)), (2, .ref (ad 2)), (4, .int v4)]) rfl ?_
        refine g_lv [1, 2, 3, 4, 0] rfl (hL38 _ _ _ ho1 ?_ FU _ _)
        · intro M10
          refine g_iinc B dX1_weigh_90 3 (v := v4 + (-1 : Int32)) rfl rfl (by decide) (lv1 := [(4, .int (v4 + (-1 : Int32))), (0, .ref (ad 23)), (1, .ref (ad o1)), (2, .ref (ad 2))]) rfl ?_
          refine g_goto (tgt := 21) B dX1_weigh_93 (by decide) ?_
          exact g_lv [1, 2, 3, 0] rfl (ih _ _)
  unfold d_X1_weigh
  show GG p l e (headSpec wsX1_weigh rm_X1_weigh).room s m args below meth c D ad (shX ad cA) 37 6 (MQ below (QV D ad (shX ad cA) 37 s.heap.size R0) args s 0 0 (AX ad 37 s.heap.size)) R0 M 0 [(0, .ref (ad 23)), (1, .ref (ad o1)), (2, .ref (ad 2))] [] _
  refine g_iconst (v := 1) B dX1_weigh_0 (by decide) ?_
  refine g_aload_n B dX1_weigh_1 1 rfl rfl ?_
  refine g_getN (v := .int (M o1 1)) B (shX_co ho1) (co_lt ho1) in_X1_weigh_X0 rfl 1 (by decide) 20 rfl rfl rfl dX1_weigh_2 ?_
  refine g_ishl B dX1_weigh_5 ?_
  refine g_iconst (v := 1) B dX1_weigh_6 (by decide) ?_
  refine g_isub B dX1_weigh_7 ?_
  refine g_lmI (fun x1 => ?_)
  refine g_istore_n B dX1_weigh_8 rfl (by decide) (lv1 := [(3, .int x1), (0, .ref (ad 23)), (1, .ref (ad o1)), (2, .ref (ad 2))]) rfl ?_
  refine g_aload_n B dX1_weigh_9 1 rfl rfl ?_
  refine g_get (v := .ref (ad 24)) B shX_er (by decide) in_X1_weigh_X1 rfl 0 (by decide) (List.mem_of_getElem? (i := 1) rfl) rfl rfl dX1_weigh_10 ?_
  refine g_iload_n B dX1_weigh_13 0 rfl rfl ?_
  refine g_iconst (v := 0) B dX1_weigh_14 (by decide) ?_
  refine g_iast B shX_24 (by decide) dX1_weigh_15 (g_lmM (fun M2 => ?_))
  refine g_iload_n B dX1_weigh_16 0 rfl rfl ?_
  refine g_iconst (v := 1) B dX1_weigh_17 (by decide) ?_
  refine g_isub B dX1_weigh_18 ?_
  refine g_lmI (fun x3 => ?_)
  refine g_istore B dX1_weigh_19 (by decide) (lv1 := [(4, .int x3), (3, .int x1), (0, .ref (ad 23)), (1, .ref (ad o1)), (2, .ref (ad 2))]) rfl ?_
  refine g_lv [2, 3, 4, 0] rfl (hL21 _ ho1  FU _ _)

abbrev rm_X1_lastArrival : Room := { frames := 0, cells := 0, slots := 0, locals := 0 }
set_option maxHeartbeats 4000000 in
set_option maxRecDepth 100000 in
theorem k_X1_lastArrival (l : Launch) (D : va_G) (cA : Nat → ClassId) (ad : Nat → Nat) (had : adOK ad 37)  (M : Mem) : CI l yX1_lastArrival wsX1_lastArrival rm_X1_lastArrival D cA ad (shX ad cA) 37 [.ref (ad 23)] M (wM M (d_X1_lastArrival  M)) := by
  refine CI_ofp (own := RX1) (cc := cX1_lastArrival) (maxL := 1) (rt := .int) had (by decide) rfl rfl (Nat.le_of_ble_eq_true rfl) ?_
  intro p e s m args below meth c R0 B hr hk
  unfold d_X1_lastArrival
  show GG p l e (headSpec wsX1_lastArrival rm_X1_lastArrival).room s m args below meth c D ad (shX ad cA) 37 1 (MQ below (QI D ad (shX ad cA) 37 s.heap.size (R0, M)) args s 0 0 (AX ad 37 s.heap.size)) R0 M 0 [(0, .ref (ad 23))] [] _
  refine g_aload_n B dX1_lastArrival_0 0 rfl rfl ?_
  refine g_get (v := .ref (ad 24)) B shX_er (by decide) in_X1_lastArrival_X1 rfl 0 (by decide) (List.mem_of_getElem? (i := 1) rfl) rfl rfl dX1_lastArrival_1 ?_
  refine g_iconst (v := 0) B dX1_lastArrival_4 (by decide) ?_
  refine g_iald B shX_24 (by decide) dX1_lastArrival_5 ?_
  refine g_ldc (v := 1000000) B dX1_lastArrival_6 (List.mem_of_getElem? (i := 2) rfl) ?_
  refine g_icmp_ge (tgt := 20) B dX1_lastArrival_8 (by decide) (fun c1 => ?_) (fun c1 => ?_)
  · refine g_bipush (v := -9) B dX1_lastArrival_20 (by decide) ?_
    exact g_iretp B hr hk dX1_lastArrival_22
  · refine g_aload_n B dX1_lastArrival_11 0 rfl rfl ?_
    refine g_get (v := .ref (ad 24)) B shX_er (by decide) in_X1_lastArrival_X1 rfl 0 (by decide) (List.mem_of_getElem? (i := 1) rfl) rfl rfl dX1_lastArrival_12 ?_
    refine g_iconst (v := 0) B dX1_lastArrival_15 (by decide) ?_
    refine g_iald B shX_24 (by decide) dX1_lastArrival_16 ?_
    refine g_goto (tgt := 22) B dX1_lastArrival_17 (by decide) ?_
    exact g_iretp B hr hk dX1_lastArrival_22

abbrev rm_X1_leastGoal : Room := { frames := 4, cells := 0, slots := 0, locals := 93 }
set_option maxHeartbeats 4000000 in
set_option maxRecDepth 100000 in
theorem k_X1_leastGoal (l : Launch) (D : va_G) (cA : Nat → ClassId) (ad : Nat → Nat) (had : adOK ad 37) (v1 : Int32) (o2 : Nat) (ho2 : isCo o2) (M : Mem) : CI l yX1_leastGoal wsX1_leastGoal rm_X1_leastGoal D cA ad (shX ad cA) 37 [.ref (ad 23), .int v1, .ref (ad o2), .ref (ad 2)] M (wM M (d_X1_leastGoal v1 o2 M)) := by
  refine CI_ofp (own := RX1) (cc := cX1_leastGoal) (maxL := 7) (rt := .int) had (by decide) rfl rfl (Nat.le_of_ble_eq_true rfl) ?_
  intro p e s m args below meth c R0 B hr hk
  have hJ85 : ∀ (rec7 : Int32 → Int32 → Option Int32) (v1 : Int32) (o2 : Nat) (v5 : Int32)   (ho2 : isCo o2)  (hrec7 : ∀ (w4 : Int32) (w5 : Int32), GG p l e (headSpec wsX1_leastGoal rm_X1_leastGoal).room s m args below meth c D ad (shX ad cA) 37 7 (MQ below (QI D ad (shX ad cA) 37 s.heap.size (R0, M)) args s 0 0 (AX ad 37 s.heap.size)) R0 M 7 [(0, .ref (ad 23)), (1, .int v1), (2, .ref (ad o2)), (3, .ref (ad 2)), (4, .int w4), (5, .int w5)] [] (rec7 w4 w5)), GG p l e (headSpec wsX1_leastGoal rm_X1_leastGoal).room s m args below meth c D ad (shX ad cA) 37 7 (MQ below (QI D ad (shX ad cA) 37 s.heap.size (R0, M)) args s 0 0 (AX ad 37 s.heap.size)) R0 M 85 [(0, .ref (ad 23)), (1, .int v1), (2, .ref (ad o2)), (3, .ref (ad 2)), (5, .int v5)] [] (dX1_leastGoal_85j rec7 v1 o2 v5  M) := by
    intro rec7 v1 o2 v5 ho2 hrec7
    unfold dX1_leastGoal_85j
    refine g_iload B dX1_leastGoal_85 4 rfl ?_
    refine g_istore B dX1_leastGoal_87 (by decide) (lv1 := [(4, .int v5), (0, .ref (ad 23)), (1, .int v1), (2, .ref (ad o2)), (3, .ref (ad 2)), (5, .int v5)]) rfl ?_
    refine g_iinc B dX1_leastGoal_89 5 (v := v5 + (1 : Int32)) rfl rfl (by decide) (lv1 := [(5, .int (v5 + (1 : Int32))), (4, .int v5), (0, .ref (ad 23)), (1, .int v1), (2, .ref (ad o2)), (3, .ref (ad 2))]) rfl ?_
    refine g_goto (tgt := 7) B dX1_leastGoal_92 (by decide) ?_
    exact g_lv [2, 3, 4, 5, 1, 0] rfl (hrec7 _ _)
  have hJ30 : ∀ (rec7 : Int32 → Int32 → Option Int32) (v1 : Int32) (o2 : Nat) (v4 : Int32) (v5 : Int32) (s0 : Int32)  (ho2 : isCo o2)  (hrec7 : ∀ (w4 : Int32) (w5 : Int32), GG p l e (headSpec wsX1_leastGoal rm_X1_leastGoal).room s m args below meth c D ad (shX ad cA) 37 7 (MQ below (QI D ad (shX ad cA) 37 s.heap.size (R0, M)) args s 0 0 (AX ad 37 s.heap.size)) R0 M 7 [(0, .ref (ad 23)), (1, .int v1), (2, .ref (ad o2)), (3, .ref (ad 2)), (4, .int w4), (5, .int w5)] [] (rec7 w4 w5)), GG p l e (headSpec wsX1_leastGoal rm_X1_leastGoal).room s m args below meth c D ad (shX ad cA) 37 7 (MQ below (QI D ad (shX ad cA) 37 s.heap.size (R0, M)) args s 0 0 (AX ad 37 s.heap.size)) R0 M 30 [(0, .ref (ad 23)), (1, .int v1), (2, .ref (ad o2)), (3, .ref (ad 2)), (4, .int v4), (5, .int v5)] [.int s0] (dX1_leastGoal_30j rec7 v1 o2 v4 v5 s0 M) := by
    intro rec7 v1 o2 v4 v5 s0 ho2 hrec7
    unfold dX1_leastGoal_30j
    refine g_istore B dX1_leastGoal_30 (by decide) (lv1 := [(6, .int s0), (0, .ref (ad 23)), (1, .int v1), (2, .ref (ad o2)), (3, .ref (ad 2)), (4, .int v4), (5, .int v5)]) rfl ?_
    refine g_iload B dX1_leastGoal_32 0 rfl ?_
    refine g_if_eq (tgt := 89) B dX1_leastGoal_34 (by decide) (fun c3 => ?_) (fun c3 => ?_)
    · refine g_iinc B dX1_leastGoal_89 6 (v := v5 + (1 : Int32)) rfl rfl (by decide) (lv1 := [(5, .int (v5 + (1 : Int32))), (6, .int s0), (0, .ref (ad 23)), (1, .int v1), (2, .ref (ad o2)), (3, .ref (ad 2)), (4, .int v4)]) rfl ?_
      refine g_goto (tgt := 7) B dX1_leastGoal_92 (by decide) ?_
      exact g_lv [2, 3, 4, 5, 6, 0] rfl (hrec7 _ _)
    · refine g_aload_n B dX1_leastGoal_37 1 rfl rfl ?_
      refine g_iload_n B dX1_leastGoal_38 2 rfl rfl ?_
      refine g_iload B dX1_leastGoal_39 6 rfl ?_
      refine g_aload_n B dX1_leastGoal_41 3 rfl rfl ?_
      refine g_aload_n B dX1_leastGoal_42 4 rfl rfl ?_
      refine g_callVIp (q := (RX1, TX1, 1)) (As := [.int v1, .int v5, .ref (ad o2), .ref (ad 2)]) (st := []) B (k_X1_arrivalWith l D cA ad B.2.2.2.2.2.2.1 v1 v5 o2 ho2 M) (cwV 4 B.2.2.2.2.1 gX1_leastGoal_X1_arrivalWith rfl rfl rfl (by decide +kernel) ⟨Nat.le_of_ble_eq_true rfl, Nat.le_of_ble_eq_true rfl⟩) shX_er (by decide) rfl rfl rfl (Nat.le_of_ble_eq_true rfl) dX1_leastGoal_43 (fun r4 _ => ?_)
      refine g_aload_n B dX1_leastGoal_46 1 rfl rfl ?_
      refine g_get (v := .ref (ad 24)) B shX_er (by decide) in_X1_leastGoal_X1 rfl 0 (by decide) (List.mem_of_getElem? (i := 1) rfl) rfl rfl dX1_leastGoal_47 ?_
      refine g_iconst (v := 0) B dX1_leastGoal_50 (by decide) ?_
      refine g_iald B shX_24 (by decide) dX1_leastGoal_51 ?_
      refine g_icmp_gt (tgt := 89) B dX1_leastGoal_52 (by decide) (fun c5 => ?_) (fun c5 => ?_)
      · refine g_iinc B dX1_leastGoal_89 6 (v := v5 + (1 : Int32)) rfl rfl (by decide) (lv1 := [(5, .int (v5 + (1 : Int32))), (6, .int s0), (0, .ref (ad 23)), (1, .int v1), (2, .ref (ad o2)), (3, .ref (ad 2)), (4, .int v4)]) rfl ?_
        refine g_goto (tgt := 7) B dX1_leastGoal_92 (by decide) ?_
        exact g_lv [2, 3, 4, 5, 6, 0] rfl (hrec7 _ _)
      · refine g_iload B dX1_leastGoal_55 5 rfl ?_
        refine g_bipush (v := -9) B dX1_leastGoal_57 (by decide) ?_
        refine g_icmp_eq (tgt := 85) B dX1_leastGoal_59 (by decide) (fun c6 => ?_) (fun c6 => ?_)
        · exact g_lv [1, 2, 3, 4, 6] rfl (hJ85 _ _ _ _ ho2  hrec7)
        · refine g_aload_n B dX1_leastGoal_62 3 rfl rfl ?_
          refine g_getN (v := .ref (ad (o2 + 1))) B (shX_co ho2) (co_lt ho2) in_X1_leastGoal_X0 rfl 0 (by decide) 17 rfl rfl rfl dX1_leastGoal_63 ?_
          refine g_iload B dX1_leastGoal_66 6 rfl ?_
          refine g_aald (g := (ft o2)) B 1 rfl (shX_fts ho2) (fts_lt ho2) dX1_leastGoal_68 (fun b7 => ?_)
          have f8 := (ft_ok ho2 b7)
          refine g_getN (v := .int (M ((ft o2) v5.toNatClampNeg) 2)) B (shX_ft f8) (ft_lt f8) in_X1_leastGoal_X2 rfl 2 (by decide) 7 rfl rfl rfl dX1_leastGoal_69 ?_
          refine g_aload_n B dX1_leastGoal_72 3 rfl rfl ?_
          refine g_getN (v := .ref (ad (o2 + 1))) B (shX_co ho2) (co_lt ho2) in_X1_leastGoal_X0 rfl 0 (by decide) 17 rfl rfl rfl dX1_leastGoal_73 ?_
          refine g_iload B dX1_leastGoal_76 5 rfl ?_
          refine g_aald (g := (ft o2)) B 1 rfl (shX_fts ho2) (fts_lt ho2) dX1_leastGoal_78 (fun b9 => ?_)
          have f10 := (ft_ok ho2 b9)
          refine g_getN (v := .int (M ((ft o2) v4.toNatClampNeg) 2)) B (shX_ft f10) (ft_lt f10) in_X1_leastGoal_X2 rfl 2 (by decide) 7 rfl rfl rfl dX1_leastGoal_79 ?_
          refine g_icmp_ge (tgt := 89) B dX1_leastGoal_82 (by decide) (fun c11 => ?_) (fun c11 => ?_)
          · refine g_iinc B dX1_leastGoal_89 6 (v := v5 + (1 : Int32)) rfl rfl (by decide) (lv1 := [(5, .int (v5 + (1 : Int32))), (6, .int s0), (0, .ref (ad 23)), (1, .int v1), (2, .ref (ad o2)), (3, .ref (ad 2)), (4, .int v4)]) rfl ?_
            refine g_goto (tgt := 7) B dX1_leastGoal_92 (by decide) ?_
            exact g_lv [2, 3, 4, 5, 6, 0] rfl (hrec7 _ _)
          · exact g_lv [1, 2, 3, 4, 6] rfl (hJ85 _ _ _ _ ho2  hrec7)
  have hL7 : ∀ (v1 : Int32) (o2 : Nat)   (ho2 : isCo o2) , ∀ (f : Nat) (v4 : Int32) (v5 : Int32), GG p l e (headSpec wsX1_leastGoal rm_X1_leastGoal).room s m args below meth c D ad (shX ad cA) 37 7 (MQ below (QI D ad (shX ad cA) 37 s.heap.size (R0, M)) args s 0 0 (AX ad 37 s.heap.size)) R0 M 7 [(0, .ref (ad 23)), (1, .int v1), (2, .ref (ad o2)), (3, .ref (ad 2)), (4, .int v4), (5, .int v5)] [] (dX1_leastGoal_7l v1 o2 M  f v4 v5 ) := by
    intro v1 o2 ho2
    intro f
    induction f with
    | zero =>
      intro v4 v5
      exact g_none
    | succ f ih =>
      intro v4 v5
      rw [dX1_leastGoal_7l]
      refine g_iload B dX1_leastGoal_7 5 rfl ?_
      refine g_aload_n B dX1_leastGoal_9 2 rfl rfl ?_
      refine g_getN (v := .int (M o2 1)) B (shX_co ho2) (co_lt ho2) in_X1_leastGoal_X0 rfl 1 (by decide) 20 rfl rfl rfl dX1_leastGoal_10 ?_
      refine g_icmp_ge (tgt := 95) B dX1_leastGoal_13 (by decide) (fun c1 => ?_) (fun c1 => ?_)
      · refine g_iload B dX1_leastGoal_95 4 rfl ?_
        exact g_iretp B hr hk dX1_leastGoal_97
      · refine g_iload_n B dX1_leastGoal_16 1 rfl rfl ?_
        refine g_iload B dX1_leastGoal_17 5 rfl ?_
        refine g_ishr B dX1_leastGoal_19 ?_
        refine g_iconst (v := 1) B dX1_leastGoal_20 (by decide) ?_
        refine g_iand B dX1_leastGoal_21 ?_
        refine g_if_ne (tgt := 29) B dX1_leastGoal_22 (by decide) (fun c2 => ?_) (fun c2 => ?_)
        · refine g_iconst (v := 1) B dX1_leastGoal_25 (by decide) ?_
          refine g_goto (tgt := 30) B dX1_leastGoal_26 (by decide) ?_
          exact g_lv [0, 1, 2, 3, 4, 5] rfl (hJ30 _ _ _ _ _ _ ho2  ih)
        · refine g_iconst (v := 0) B dX1_leastGoal_29 (by decide) ?_
          exact g_lv [0, 1, 2, 3, 4, 5] rfl (hJ30 _ _ _ _ _ _ ho2  ih)
  unfold d_X1_leastGoal
  show GG p l e (headSpec wsX1_leastGoal rm_X1_leastGoal).room s m args below meth c D ad (shX ad cA) 37 7 (MQ below (QI D ad (shX ad cA) 37 s.heap.size (R0, M)) args s 0 0 (AX ad 37 s.heap.size)) R0 M 0 [(0, .ref (ad 23)), (1, .int v1), (2, .ref (ad o2)), (3, .ref (ad 2))] [] _
  refine g_bipush (v := -9) B dX1_leastGoal_0 (by decide) ?_
  refine g_istore B dX1_leastGoal_2 (by decide) (lv1 := [(4, .int (-9 : Int32)), (0, .ref (ad 23)), (1, .int v1), (2, .ref (ad o2)), (3, .ref (ad 2))]) rfl ?_
  refine g_iconst (v := 0) B dX1_leastGoal_4 (by decide) ?_
  refine g_istore B dX1_leastGoal_5 (by decide) (lv1 := [(5, .int (0 : Int32)), (4, .int (-9 : Int32)), (0, .ref (ad 23)), (1, .int v1), (2, .ref (ad o2)), (3, .ref (ad 2))]) rfl ?_
  refine g_lv [2, 3, 4, 5, 1, 0] rfl (hL7 _ _ ho2  FU _ _)

abbrev rm_X1_goalOf : Room := { frames := 5, cells := 0, slots := 0, locals := 119 }
set_option maxHeartbeats 4000000 in
set_option maxRecDepth 100000 in
theorem k_X1_goalOf (l : Launch) (D : va_G) (cA : Nat → ClassId) (ad : Nat → Nat) (had : adOK ad 37) (v1 : Int32) (o2 : Nat) (ho2 : isCo o2) (M : Mem) : CI l yX1_goalOf wsX1_goalOf rm_X1_goalOf D cA ad (shX ad cA) 37 [.ref (ad 23), .int v1, .ref (ad o2), .ref (ad 2)] M (wM M (d_X1_goalOf v1 o2 M)) := by
  refine CI_ofp (own := RX1) (cc := cX1_goalOf) (maxL := 8) (rt := .int) had (by decide) rfl rfl (Nat.le_of_ble_eq_true rfl) ?_
  intro p e s m args below meth c R0 B hr hk
  have hL32 : ∀ (v1 : Int32) (o2 : Nat)   (ho2 : isCo o2) , ∀ (f : Nat) (v4 : Int32) (v5 : Int32) (v6 : Int32), GG p l e (headSpec wsX1_goalOf rm_X1_goalOf).room s m args below meth c D ad (shX ad cA) 37 8 (MQ below (QI D ad (shX ad cA) 37 s.heap.size (R0, M)) args s 0 0 (AX ad 37 s.heap.size)) R0 M 32 [(0, .ref (ad 23)), (1, .int v1), (2, .ref (ad o2)), (3, .ref (ad 2)), (4, .int v4), (5, .int v5), (6, .int v6)] [] (dX1_goalOf_32l v1 o2 M  f v4 v5 v6 ) := by
    intro v1 o2 ho2
    intro f
    induction f with
    | zero =>
      intro v4 v5 v6
      exact g_none
    | succ f ih =>
      intro v4 v5 v6
      rw [dX1_goalOf_32l]
      refine g_iload B dX1_goalOf_32 6 rfl ?_
      refine g_iload_n B dX1_goalOf_34 1 rfl rfl ?_
      refine g_icmp_gt (tgt := 85) B dX1_goalOf_35 (by decide) (fun c4 => ?_) (fun c4 => ?_)
      · refine g_iload B dX1_goalOf_85 5 rfl ?_
        exact g_iretp B hr hk dX1_goalOf_87
      · refine g_aload_n B dX1_goalOf_38 0 rfl rfl ?_
        refine g_iload B dX1_goalOf_39 4 rfl ?_
        refine g_aload_n B dX1_goalOf_41 2 rfl rfl ?_
        refine g_aload_n B dX1_goalOf_42 3 rfl rfl ?_
        refine g_callVIp (q := (RX1, TX1, 1)) (As := [.int v4, .ref (ad o2), .ref (ad 2)]) (st := []) B (k_X1_leastGoal l D cA ad B.2.2.2.2.2.2.1 v4 o2 ho2 M) (cwV 3 B.2.2.2.2.1 gX1_goalOf_X1_leastGoal rfl rfl rfl (by decide +kernel) ⟨Nat.le_of_ble_eq_true rfl, Nat.le_of_ble_eq_true rfl⟩) shX_er (by decide) rfl rfl rfl (Nat.le_of_ble_eq_true rfl) dX1_goalOf_43 (fun r5 _ => ?_)
        refine g_istore B dX1_goalOf_46 (by decide) (lv1 := [(7, .int r5), (0, .ref (ad 23)), (1, .int v1), (2, .ref (ad o2)), (3, .ref (ad 2)), (4, .int v4), (5, .int v5), (6, .int v6)]) rfl ?_
        refine g_iload B dX1_goalOf_48 0 rfl ?_
        refine g_bipush (v := -9) B dX1_goalOf_50 (by decide) ?_
        refine g_icmp_ne (tgt := 58) B dX1_goalOf_52 (by decide) (fun c6 => ?_) (fun c6 => ?_)
        · refine g_bipush (v := -9) B dX1_goalOf_55 (by decide) ?_
          exact g_iretp B hr hk dX1_goalOf_57
        · refine g_iload B dX1_goalOf_58 5 rfl ?_
          refine g_iconst (v := 1) B dX1_goalOf_60 (by decide) ?_
          refine g_iload B dX1_goalOf_61 0 rfl ?_
          refine g_ishl B dX1_goalOf_63 ?_
          refine g_ior B dX1_goalOf_64 ?_
          refine g_lmI (fun x7 => ?_)
          refine g_istore B dX1_goalOf_65 (by decide) (lv1 := [(4, .int x7), (7, .int r5), (0, .ref (ad 23)), (1, .int v1), (2, .ref (ad o2)), (3, .ref (ad 2)), (5, .int v5), (6, .int v6)]) rfl ?_
          refine g_aload_n B dX1_goalOf_67 4 rfl rfl ?_
          refine g_getN (v := .ref (ad (o2 + 1))) B (shX_co ho2) (co_lt ho2) in_X1_goalOf_X0 rfl 0 (by decide) 17 rfl rfl rfl dX1_goalOf_68 ?_
          refine g_iload B dX1_goalOf_71 1 rfl ?_
          refine g_aald (g := (ft o2)) B 1 rfl (shX_fts ho2) (fts_lt ho2) dX1_goalOf_73 (fun b8 => ?_)
          have f9 := (ft_ok ho2 b8)
          refine g_getN (v := .int (M ((ft o2) r5.toNatClampNeg) 2)) B (shX_ft f9) (ft_lt f9) in_X1_goalOf_X2 rfl 2 (by decide) 7 rfl rfl rfl dX1_goalOf_74 ?_
          refine g_lmI (fun x10 => ?_)
          refine g_istore B dX1_goalOf_77 (by decide) (lv1 := [(5, .int x10), (4, .int x7), (7, .int r5), (0, .ref (ad 23)), (1, .int v1), (2, .ref (ad o2)), (3, .ref (ad 2)), (6, .int v6)]) rfl ?_
          refine g_iinc B dX1_goalOf_79 7 (v := v6 + (1 : Int32)) rfl rfl (by decide) (lv1 := [(6, .int (v6 + (1 : Int32))), (5, .int x10), (4, .int x7), (7, .int r5), (0, .ref (ad 23)), (1, .int v1), (2, .ref (ad o2)), (3, .ref (ad 2))]) rfl ?_
          refine g_goto (tgt := 32) B dX1_goalOf_82 (by decide) ?_
          exact g_lv [4, 5, 6, 7, 2, 1, 0] rfl (ih _ _ _)
  unfold d_X1_goalOf
  show GG p l e (headSpec wsX1_goalOf rm_X1_goalOf).room s m args below meth c D ad (shX ad cA) 37 8 (MQ below (QI D ad (shX ad cA) 37 s.heap.size (R0, M)) args s 0 0 (AX ad 37 s.heap.size)) R0 M 0 [(0, .ref (ad 23)), (1, .int v1), (2, .ref (ad o2)), (3, .ref (ad 2))] [] _
  refine g_aload_n B dX1_goalOf_0 2 rfl rfl ?_
  refine g_iload_n B dX1_goalOf_1 1 rfl rfl ?_
  refine g_callVIp (q := (RX0, TX0, 2)) (As := [.int v1]) (st := []) B (k_X0_has l D cA ad B.2.2.2.2.2.2.1 o2 ho2 v1 M) (cwV 1 B.2.2.2.2.1 gX1_goalOf_X0_has rfl rfl rfl (by decide +kernel) ⟨Nat.le_of_ble_eq_true rfl, Nat.le_of_ble_eq_true rfl⟩) (shX_co ho2) (co_lt ho2) rfl rfl rfl (Nat.le_of_ble_eq_true rfl) dX1_goalOf_2 (fun r1 _ => ?_)
  refine g_if_eq (tgt := 19) B dX1_goalOf_5 (by decide) (fun c2 => ?_) (fun c2 => ?_)
  · refine g_bipush (v := -9) B dX1_goalOf_19 (by decide) ?_
    exact g_iretp B hr hk dX1_goalOf_21
  · refine g_aload_n B dX1_goalOf_8 0 rfl rfl ?_
    refine g_get (v := .ref (ad 24)) B shX_er (by decide) in_X1_goalOf_X1 rfl 0 (by decide) (List.mem_of_getElem? (i := 1) rfl) rfl rfl dX1_goalOf_9 ?_
    refine g_iconst (v := 0) B dX1_goalOf_12 (by decide) ?_
    refine g_iald B shX_24 (by decide) dX1_goalOf_13 ?_
    refine g_ldc (v := 1000000) B dX1_goalOf_14 (List.mem_of_getElem? (i := 2) rfl) ?_
    refine g_icmp_lt (tgt := 22) B dX1_goalOf_16 (by decide) (fun c3 => ?_) (fun c3 => ?_)
    · refine g_iconst (v := 0) B dX1_goalOf_22 (by decide) ?_
      refine g_istore B dX1_goalOf_23 (by decide) (lv1 := [(4, .int (0 : Int32)), (0, .ref (ad 23)), (1, .int v1), (2, .ref (ad o2)), (3, .ref (ad 2))]) rfl ?_
      refine g_bipush (v := -9) B dX1_goalOf_25 (by decide) ?_
      refine g_istore B dX1_goalOf_27 (by decide) (lv1 := [(5, .int (-9 : Int32)), (4, .int (0 : Int32)), (0, .ref (ad 23)), (1, .int v1), (2, .ref (ad o2)), (3, .ref (ad 2))]) rfl ?_
      refine g_iconst (v := 0) B dX1_goalOf_29 (by decide) ?_
      refine g_istore B dX1_goalOf_30 (by decide) (lv1 := [(6, .int (0 : Int32)), (5, .int (-9 : Int32)), (4, .int (0 : Int32)), (0, .ref (ad 23)), (1, .int v1), (2, .ref (ad o2)), (3, .ref (ad 2))]) rfl ?_
      refine g_lv [3, 4, 5, 6, 2, 1, 0] rfl (hL32 _ _ ho2  FU _ _ _)
    · refine g_bipush (v := -9) B dX1_goalOf_19 (by decide) ?_
      exact g_iretp B hr hk dX1_goalOf_21
