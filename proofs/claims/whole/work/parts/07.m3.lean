abbrev rm_X9_way : Room := { frames := 2, cells := 0, slots := 0, locals := 48 }
set_option maxHeartbeats 4000000 in
set_option maxRecDepth 100000 in
theorem k_X9_way (l : Launch) (D : va_G) (cA : Nat → ClassId) (ad : Nat → Nat) (had : adOK ad 25) (v1 : Int32) (v2 : Int32) (v3 : Int32) (M : Mem) : CI l yX9_way wsX9_way rm_X9_way D cA ad (shM ad cA) 25 [.ref (ad 0), .int v1, .int v2, .int v3] M (wM M (d_X9_way v1 v2 v3 M)) := by
  refine CI_ofp (own := RX9) (cc := cX9_way) (maxL := 6) (rt := .int) had (by decide) rfl rfl (Nat.le_of_ble_eq_true rfl) ?_
  intro p e s m args below meth c R0 B hr hk
  have hL53 : ∀ (v2 : Int32) (v3 : Int32)  (k53_82 : Int32 → Int32 → Option Int32)  (hk53_82 : ∀ (w4 : Int32) (w5 : Int32), GG p l e (headSpec wsX9_way rm_X9_way).room s m args below meth c D ad (shM ad cA) 25 6 (MQ below (QI D ad (shM ad cA) 25 s.heap.size (R0, M)) args s 0 0 (AX ad 25 s.heap.size)) R0 M 82 [(3, .int v3), (4, .int w4), (5, .int w5)] [] (k53_82 w4 w5)), ∀ (f : Nat) (v4 : Int32) (v5 : Int32), GG p l e (headSpec wsX9_way rm_X9_way).room s m args below meth c D ad (shM ad cA) 25 6 (MQ below (QI D ad (shM ad cA) 25 s.heap.size (R0, M)) args s 0 0 (AX ad 25 s.heap.size)) R0 M 53 [(0, .ref (ad 0)), (2, .int v2), (3, .int v3), (4, .int v4), (5, .int v5)] [] (dX9_way_53l v2 v3 M k53_82 f v4 v5 ) := by
    intro v2 v3 k53_82 hk53_82
    intro f
    induction f with
    | zero =>
      intro v4 v5
      exact g_none
    | succ f ih =>
      intro v4 v5
      rw [dX9_way_53l]
      refine g_iload B dX9_way_53 3 rfl ?_
      refine g_iload_n B dX9_way_55 1 rfl rfl ?_
      refine g_icmp_eq (tgt := 82) B dX9_way_56 (by decide) (fun c9 => ?_) (fun c9 => ?_)
      · exact g_lv [2, 3, 4] rfl (hk53_82 _ _)
      · refine g_iload B dX9_way_59 4 rfl ?_
        refine g_iload_n B dX9_way_61 2 rfl rfl ?_
        refine g_iconst (v := 1) B dX9_way_62 (by decide) ?_
        refine g_iadd B dX9_way_63 ?_
        refine g_icmp_eq (tgt := 82) B dX9_way_64 (by decide) (fun c10 => ?_) (fun c10 => ?_)
        · exact g_lv [2, 3, 4] rfl (hk53_82 _ _)
        · refine g_aload_n B dX9_way_67 0 rfl rfl ?_
          refine g_iload B dX9_way_68 3 rfl ?_
          refine g_iload_n B dX9_way_70 1 rfl rfl ?_
          refine g_callVIp (q := (RX9, TX9, 39)) (As := [.int v4, .int v2]) (st := []) B (k_X9_nextTo l D cA ad B.2.2.2.2.2.2.1 v4 v2 M) (cwV 2 B.2.2.2.2.1 gX9_way_X9_nextTo rfl rfl rfl (by decide +kernel) ⟨Nat.le_of_ble_eq_true rfl, Nat.le_of_ble_eq_true rfl⟩) shM_o (by decide) rfl rfl rfl (Nat.le_of_ble_eq_true rfl) dX9_way_71 (fun r11 _ => ?_)
          refine g_istore B dX9_way_74 (by decide) (lv1 := [(4, .int r11), (0, .ref (ad 0)), (2, .int v2), (3, .int v3), (5, .int v5)]) rfl ?_
          refine g_iinc B dX9_way_76 4 (v := v5 + (1 : Int32)) rfl rfl (by decide) (lv1 := [(5, .int (v5 + (1 : Int32))), (4, .int r11), (0, .ref (ad 0)), (2, .int v2), (3, .int v3)]) rfl ?_
          refine g_goto (tgt := 53) B dX9_way_79 (by decide) ?_
          exact g_lv [2, 3, 4, 1, 0] rfl (ih _ _)
  unfold d_X9_way
  show GG p l e (headSpec wsX9_way rm_X9_way).room s m args below meth c D ad (shM ad cA) 25 6 (MQ below (QI D ad (shM ad cA) 25 s.heap.size (R0, M)) args s 0 0 (AX ad 25 s.heap.size)) R0 M 0 [(0, .ref (ad 0)), (1, .int v1), (2, .int v2), (3, .int v3)] [] _
  refine g_aload_n B dX9_way_0 0 rfl rfl ?_
  refine g_iload_n B dX9_way_1 1 rfl rfl ?_
  refine g_callVIp (q := (RX9, TX9, 39)) (As := [.int v1]) (st := []) B (k_X9_noCorner l D cA ad B.2.2.2.2.2.2.1 v1 M) (cwV 1 B.2.2.2.2.1 gX9_way_X9_noCorner rfl rfl rfl (by decide +kernel) ⟨Nat.le_of_ble_eq_true rfl, Nat.le_of_ble_eq_true rfl⟩) shM_o (by decide) rfl rfl rfl (Nat.le_of_ble_eq_true rfl) dX9_way_2 (fun r1 _ => ?_)
  refine g_if_ne (tgt := 16) B dX9_way_5 (by decide) (fun c2 => ?_) (fun c2 => ?_)
  · refine g_aload_n B dX9_way_8 0 rfl rfl ?_
    refine g_iload_n B dX9_way_9 2 rfl rfl ?_
    refine g_callVIp (q := (RX9, TX9, 39)) (As := [.int v2]) (st := []) B (k_X9_noCorner l D cA ad B.2.2.2.2.2.2.1 v2 M) (cwV 1 B.2.2.2.2.1 gX9_way_X9_noCorner rfl rfl rfl (by decide +kernel) ⟨Nat.le_of_ble_eq_true rfl, Nat.le_of_ble_eq_true rfl⟩) shM_o (by decide) rfl rfl rfl (Nat.le_of_ble_eq_true rfl) dX9_way_10 (fun r3 _ => ?_)
    refine g_if_eq (tgt := 18) B dX9_way_13 (by decide) (fun c4 => ?_) (fun c4 => ?_)
    · refine g_iload_n B dX9_way_18 3 rfl rfl ?_
      refine g_i2l B dX9_way_19 ?_
      refine g_ldc2 (v := -1) B dX9_way_20 (List.mem_of_getElem? (i := 1) rfl) ?_
      refine g_ldc2 (v := 5) B dX9_way_23 (List.mem_of_getElem? (i := 2) rfl) ?_
      refine g_callSIp (As := [.long v3.toInt64, .long (-1 : Int64), .long (5 : Int64)]) (st := []) B (k_X9_in l D cA ad B.2.2.2.2.2.2.1 v3.toInt64 (-1 : Int64) (5 : Int64) M) (va_cwS 3 B.2.2.2.2.1 gX9_way_X9_in rfl rfl rfl (by decide +kernel) ⟨Nat.le_of_ble_eq_true rfl, Nat.le_of_ble_eq_true rfl⟩) rfl rfl (Nat.le_of_ble_eq_true rfl) dX9_way_26 (fun r5 _ => ?_)
      refine g_if_ne (tgt := 35) B dX9_way_29 (by decide) (fun c6 => ?_) (fun c6 => ?_)
      · refine g_bipush (v := -2) B dX9_way_32 (by decide) ?_
        exact g_iretp B hr hk dX9_way_34
      · refine g_aload_n B dX9_way_35 0 rfl rfl ?_
        refine g_iload_n B dX9_way_36 1 rfl rfl ?_
        refine g_iload_n B dX9_way_37 2 rfl rfl ?_
        refine g_callVIp (q := (RX9, TX9, 39)) (As := [.int v1, .int v2]) (st := []) B (k_X9_farFrom l D cA ad B.2.2.2.2.2.2.1 v1 v2 M) (cwV 2 B.2.2.2.2.1 gX9_way_X9_farFrom rfl rfl rfl (by decide +kernel) ⟨Nat.le_of_ble_eq_true rfl, Nat.le_of_ble_eq_true rfl⟩) shM_o (by decide) rfl rfl rfl (Nat.le_of_ble_eq_true rfl) dX9_way_38 (fun r7 _ => ?_)
        refine g_if_ge (tgt := 47) B dX9_way_41 (by decide) (fun c8 => ?_) (fun c8 => ?_)
        · refine g_iload_n B dX9_way_47 1 rfl rfl ?_
          refine g_istore B dX9_way_48 (by decide) (lv1 := [(4, .int v1), (0, .ref (ad 0)), (1, .int v1), (2, .int v2), (3, .int v3)]) rfl ?_
          refine g_iconst (v := 1) B dX9_way_50 (by decide) ?_
          refine g_istore B dX9_way_51 (by decide) (lv1 := [(5, .int (1 : Int32)), (4, .int v1), (0, .ref (ad 0)), (1, .int v1), (2, .int v2), (3, .int v3)]) rfl ?_
          refine g_lv [2, 4, 5, 1, 0] rfl (hL53 _ _ _  ?_ FU _ _)
          · intro w12 w13
            refine g_iload_n B dX9_way_82 0 rfl rfl ?_
            refine g_if_ge (tgt := 91) B dX9_way_83 (by decide) (fun c14 => ?_) (fun c14 => ?_)
            · refine g_iload B dX9_way_91 2 rfl ?_
              refine g_iload_n B dX9_way_93 0 rfl rfl ?_
              refine g_iconst (v := 1) B dX9_way_94 (by decide) ?_
              refine g_iadd B dX9_way_95 ?_
              refine g_icmp_ne (tgt := 104) B dX9_way_96 (by decide) (fun c15 => ?_) (fun c15 => ?_)
              · refine g_iload B dX9_way_99 1 rfl ?_
                refine g_goto (tgt := 106) B dX9_way_101 (by decide) ?_
                exact g_iretp B hr hk dX9_way_106
              · refine g_bipush (v := -9) B dX9_way_104 (by decide) ?_
                exact g_iretp B hr hk dX9_way_106
            · refine g_iload B dX9_way_86 2 rfl ?_
              refine g_goto (tgt := 106) B dX9_way_88 (by decide) ?_
              exact g_iretp B hr hk dX9_way_106
        · refine g_bipush (v := -9) B dX9_way_44 (by decide) ?_
          exact g_iretp B hr hk dX9_way_46
    · refine g_iconst (v := -1) B dX9_way_16 (by decide) ?_
      exact g_iretp B hr hk dX9_way_17
  · refine g_iconst (v := -1) B dX9_way_16 (by decide) ?_
    exact g_iretp B hr hk dX9_way_17

abbrev rm_X9_round : Room := { frames := 2, cells := 0, slots := 0, locals := 46 }
set_option maxHeartbeats 4000000 in
set_option maxRecDepth 100000 in
theorem k_X9_round (l : Launch) (D : va_G) (cA : Nat → ClassId) (ad : Nat → Nat) (had : adOK ad 25) (v1 : Int32) (v2 : Int32) (M : Mem) : CI l yX9_round wsX9_round rm_X9_round D cA ad (shM ad cA) 25 [.ref (ad 0), .int v1, .int v2] M (wM M (d_X9_round v1 v2 M)) := by
  refine CI_ofp (own := RX9) (cc := cX9_round) (maxL := 5) (rt := .int) had (by decide) rfl rfl (Nat.le_of_ble_eq_true rfl) ?_
  intro p e s m args below meth c R0 B hr hk
  unfold d_X9_round
  show GG p l e (headSpec wsX9_round rm_X9_round).room s m args below meth c D ad (shM ad cA) 25 5 (MQ below (QI D ad (shM ad cA) 25 s.heap.size (R0, M)) args s 0 0 (AX ad 25 s.heap.size)) R0 M 0 [(0, .ref (ad 0)), (1, .int v1), (2, .int v2)] [] _
  refine g_aload_n B dX9_round_0 0 rfl rfl ?_
  refine g_iload_n B dX9_round_1 1 rfl rfl ?_
  refine g_callVIp (q := (RX9, TX9, 39)) (As := [.int v1]) (st := []) B (k_X9_noFootman l D cA ad B.2.2.2.2.2.2.1 v1 M) (cwV 1 B.2.2.2.2.1 gX9_round_X9_noFootman rfl rfl rfl (by decide +kernel) ⟨Nat.le_of_ble_eq_true rfl, Nat.le_of_ble_eq_true rfl⟩) shM_o (by decide) rfl rfl rfl (Nat.le_of_ble_eq_true rfl) dX9_round_2 (fun r1 _ => ?_)
  refine g_if_ne (tgt := 16) B dX9_round_5 (by decide) (fun c2 => ?_) (fun c2 => ?_)
  · refine g_aload_n B dX9_round_8 0 rfl rfl ?_
    refine g_iload_n B dX9_round_9 2 rfl rfl ?_
    refine g_callVIp (q := (RX9, TX9, 39)) (As := [.int v2]) (st := []) B (k_X9_noCorner l D cA ad B.2.2.2.2.2.2.1 v2 M) (cwV 1 B.2.2.2.2.1 gX9_round_X9_noCorner rfl rfl rfl (by decide +kernel) ⟨Nat.le_of_ble_eq_true rfl, Nat.le_of_ble_eq_true rfl⟩) shM_o (by decide) rfl rfl rfl (Nat.le_of_ble_eq_true rfl) dX9_round_10 (fun r3 _ => ?_)
    refine g_if_eq (tgt := 18) B dX9_round_13 (by decide) (fun c4 => ?_) (fun c4 => ?_)
    · refine g_aload_n B dX9_round_18 0 rfl rfl ?_
      refine g_aload_n B dX9_round_19 0 rfl rfl ?_
      refine g_get (v := .ref (ad 4)) B shM_o (by decide) in_X9_round_X9 rfl 8 (by decide) (List.mem_of_getElem? (i := 1) rfl) rfl rfl dX9_round_20 ?_
      refine g_iload_n B dX9_round_23 1 rfl rfl ?_
      refine g_iald B shM_a4 (by decide) dX9_round_24 ?_
      refine g_iload_n B dX9_round_25 2 rfl rfl ?_
      refine g_callVIp (q := (RX9, TX9, 39)) (As := [.int (M 4 v1.toNatClampNeg), .int v2]) (st := []) B (k_X9_farFrom l D cA ad B.2.2.2.2.2.2.1 (M 4 v1.toNatClampNeg) v2 M) (cwV 2 B.2.2.2.2.1 gX9_round_X9_farFrom rfl rfl rfl (by decide +kernel) ⟨Nat.le_of_ble_eq_true rfl, Nat.le_of_ble_eq_true rfl⟩) shM_o (by decide) rfl rfl rfl (Nat.le_of_ble_eq_true rfl) dX9_round_26 (fun r5 _ => ?_)
      refine g_istore_n B dX9_round_29 rfl (by decide) (lv1 := [(3, .int r5), (0, .ref (ad 0)), (1, .int v1), (2, .int v2)]) rfl ?_
      refine g_aload_n B dX9_round_30 1 rfl rfl ?_
      refine g_iload_n B dX9_round_31 3 rfl rfl ?_
      refine g_aload_n B dX9_round_32 1 rfl rfl ?_
      refine g_get (v := .ref (ad 5)) B shM_o (by decide) in_X9_round_X9 rfl 9 (by decide) (List.mem_of_getElem? (i := 2) rfl) rfl rfl dX9_round_33 ?_
      refine g_iload_n B dX9_round_36 2 rfl rfl ?_
      refine g_iald B shM_a5 (by decide) dX9_round_37 ?_
      refine g_callVIp (q := (RX9, TX9, 39)) (As := [.int v2, .int (M 5 v1.toNatClampNeg)]) (st := []) B (k_X9_farFrom l D cA ad B.2.2.2.2.2.2.1 v2 (M 5 v1.toNatClampNeg) M) (cwV 2 B.2.2.2.2.1 gX9_round_X9_farFrom rfl rfl rfl (by decide +kernel) ⟨Nat.le_of_ble_eq_true rfl, Nat.le_of_ble_eq_true rfl⟩) shM_o (by decide) rfl rfl rfl (Nat.le_of_ble_eq_true rfl) dX9_round_38 (fun r6 _ => ?_)
      refine g_istore B dX9_round_41 (by decide) (lv1 := [(4, .int r6), (3, .int r5), (0, .ref (ad 0)), (1, .int v1), (2, .int v2)]) rfl ?_
      refine g_iload_n B dX9_round_43 1 rfl rfl ?_
      refine g_if_lt (tgt := 52) B dX9_round_44 (by decide) (fun c7 => ?_) (fun c7 => ?_)
      · refine g_bipush (v := -9) B dX9_round_52 (by decide) ?_
        refine g_goto (tgt := 78) B dX9_round_54 (by decide) ?_
        exact g_iretp B hr hk dX9_round_78
      · refine g_iload B dX9_round_47 0 rfl ?_
        refine g_if_ge (tgt := 57) B dX9_round_49 (by decide) (fun c8 => ?_) (fun c8 => ?_)
        · refine g_iload_n B dX9_round_57 1 rfl rfl ?_
          refine g_iload B dX9_round_58 0 rfl ?_
          refine g_iadd B dX9_round_60 ?_
          refine g_aload_n B dX9_round_61 2 rfl rfl ?_
          refine g_aload_n B dX9_round_62 2 rfl rfl ?_
          refine g_get (v := .ref (ad 4)) B shM_o (by decide) in_X9_round_X9 rfl 8 (by decide) (List.mem_of_getElem? (i := 1) rfl) rfl rfl dX9_round_63 ?_
          refine g_iload_n B dX9_round_66 3 rfl rfl ?_
          refine g_iald B shM_a4 (by decide) dX9_round_67 ?_
          refine g_aload_n B dX9_round_68 2 rfl rfl ?_
          refine g_get (v := .ref (ad 5)) B shM_o (by decide) in_X9_round_X9 rfl 9 (by decide) (List.mem_of_getElem? (i := 2) rfl) rfl rfl dX9_round_69 ?_
          refine g_iload_n B dX9_round_72 3 rfl rfl ?_
          refine g_iald B shM_a5 (by decide) dX9_round_73 ?_
          refine g_callVIp (q := (RX9, TX9, 39)) (As := [.int (M 4 v1.toNatClampNeg), .int (M 5 v1.toNatClampNeg)]) (st := [.int (r5 + r6)]) B (k_X9_farFrom l D cA ad B.2.2.2.2.2.2.1 (M 4 v1.toNatClampNeg) (M 5 v1.toNatClampNeg) M) (cwV 2 B.2.2.2.2.1 gX9_round_X9_farFrom rfl rfl rfl (by decide +kernel) ⟨Nat.le_of_ble_eq_true rfl, Nat.le_of_ble_eq_true rfl⟩) shM_o (by decide) rfl rfl rfl (Nat.le_of_ble_eq_true rfl) dX9_round_74 (fun r9 _ => ?_)
          refine g_isub B dX9_round_77 ?_
          exact g_iretp B hr hk dX9_round_78
        · refine g_bipush (v := -9) B dX9_round_52 (by decide) ?_
          refine g_goto (tgt := 78) B dX9_round_54 (by decide) ?_
          exact g_iretp B hr hk dX9_round_78
    · refine g_iconst (v := -1) B dX9_round_16 (by decide) ?_
      exact g_iretp B hr hk dX9_round_17
  · refine g_iconst (v := -1) B dX9_round_16 (by decide) ?_
    exact g_iretp B hr hk dX9_round_17

abbrev rm_X9_kept : Room := { frames := 3, cells := 0, slots := 0, locals := 65 }
set_option maxHeartbeats 4000000 in
set_option maxRecDepth 100000 in
theorem k_X9_kept (l : Launch) (D : va_G) (cA : Nat → ClassId) (ad : Nat → Nat) (had : adOK ad 25) (v1 : Int32) (M : Mem) : CI l yX9_kept wsX9_kept rm_X9_kept D cA ad (shM ad cA) 25 [.ref (ad 0), .int v1] M (d_X9_kept v1 M) := by
  refine CI_of (own := RX9) (cc := cX9_kept) (maxL := 3) (rt := .int) had (by decide) rfl rfl (Nat.le_of_ble_eq_true rfl) ?_
  intro p e s m args below meth c R0 B hr hk
  have hL16 : ∀ (v1 : Int32)  (k16_41 : Int32 → Mem → Option (Int32 × Mem))  (hk16_41 : ∀ (w2 : Int32) (M1 : Mem), GG p l e (headSpec wsX9_kept rm_X9_kept).room s m args below meth c D ad (shM ad cA) 25 3 (MQ below (QI D ad (shM ad cA) 25 s.heap.size R0) args s 0 0 (AX ad 25 s.heap.size)) R0 M1 41 [(0, .ref (ad 0)), (2, .int w2)] [] (k16_41 w2 M1)), ∀ (f : Nat) (v2 : Int32) (M : Mem), GG p l e (headSpec wsX9_kept rm_X9_kept).room s m args below meth c D ad (shM ad cA) 25 3 (MQ below (QI D ad (shM ad cA) 25 s.heap.size R0) args s 0 0 (AX ad 25 s.heap.size)) R0 M 16 [(0, .ref (ad 0)), (1, .int v1), (2, .int v2)] [] (dX9_kept_16l v1  k16_41 f v2 M) := by
    intro v1 k16_41 hk16_41
    intro f
    induction f with
    | zero =>
      intro v2 M
      exact g_none
    | succ f ih =>
      intro v2 M
      rw [dX9_kept_16l]
      refine g_iload_n B dX9_kept_16 2 rfl rfl ?_
      refine g_sipush (v := 999) B dX9_kept_17 (by decide) ?_
      refine g_icmp_gt (tgt := 41) B dX9_kept_20 (by decide) (fun c4 => ?_) (fun c4 => ?_)
      · exact g_lv [0, 2] rfl (hk16_41 _ _)
      · refine g_aload_n B dX9_kept_23 0 rfl rfl ?_
        refine g_iload_n B dX9_kept_24 1 rfl rfl ?_
        refine g_callVIp (q := (RX9, TX9, 39)) (As := [.int v1]) (st := []) B (k_X9_hasArrived l D cA ad B.2.2.2.2.2.2.1 v1 M) (cwV 1 B.2.2.2.2.1 gX9_kept_X9_hasArrived rfl rfl rfl (by decide +kernel) ⟨Nat.le_of_ble_eq_true rfl, Nat.le_of_ble_eq_true rfl⟩) shM_o (by decide) rfl rfl rfl (Nat.le_of_ble_eq_true rfl) dX9_kept_25 (fun r5 _ => ?_)
        refine g_if_ne (tgt := 41) B dX9_kept_28 (by decide) (fun c6 => ?_) (fun c6 => ?_)
        · refine g_aload_n B dX9_kept_31 0 rfl rfl ?_
          refine g_callVVe (q := (RX9, TX9, 39)) (As := []) (st := []) B (k_X9_passes l D cA ad B.2.2.2.2.2.2.1  M) (cwV 0 B.2.2.2.2.1 gX9_kept_X9_passes rfl rfl rfl (by decide +kernel) ⟨Nat.le_of_ble_eq_true rfl, Nat.le_of_ble_eq_true rfl⟩) shM_o (by decide) rfl rfl rfl (Nat.le_of_ble_eq_true rfl) dX9_kept_32 (fun M7 _ => ?_)
          refine g_iinc B dX9_kept_35 2 (v := v2 + (1 : Int32)) rfl rfl (by decide) (lv1 := [(2, .int (v2 + (1 : Int32))), (0, .ref (ad 0)), (1, .int v1)]) rfl ?_
          refine g_goto (tgt := 16) B dX9_kept_38 (by decide) ?_
          exact g_lv [1, 2, 0] rfl (ih _ _)
        · exact g_lv [0, 2] rfl (hk16_41 _ _)
  unfold d_X9_kept
  show GG p l e (headSpec wsX9_kept rm_X9_kept).room s m args below meth c D ad (shM ad cA) 25 3 (MQ below (QI D ad (shM ad cA) 25 s.heap.size R0) args s 0 0 (AX ad 25 s.heap.size)) R0 M 0 [(0, .ref (ad 0)), (1, .int v1)] [] _
  refine g_aload_n B dX9_kept_0 0 rfl rfl ?_
  refine g_iload_n B dX9_kept_1 1 rfl rfl ?_
  refine g_callVIp (q := (RX9, TX9, 39)) (As := [.int v1]) (st := []) B (k_X9_noFootman l D cA ad B.2.2.2.2.2.2.1 v1 M) (cwV 1 B.2.2.2.2.1 gX9_kept_X9_noFootman rfl rfl rfl (by decide +kernel) ⟨Nat.le_of_ble_eq_true rfl, Nat.le_of_ble_eq_true rfl⟩) shM_o (by decide) rfl rfl rfl (Nat.le_of_ble_eq_true rfl) dX9_kept_2 (fun r1 _ => ?_)
  refine g_if_eq (tgt := 10) B dX9_kept_5 (by decide) (fun c2 => ?_) (fun c2 => ?_)
  · refine g_aload_n B dX9_kept_10 0 rfl rfl ?_
    refine g_callVVe (q := (RX9, TX9, 39)) (As := []) (st := []) B (k_X9_keepAll l D cA ad B.2.2.2.2.2.2.1  M) (cwV 0 B.2.2.2.2.1 gX9_kept_X9_keepAll rfl rfl rfl (by decide +kernel) ⟨Nat.le_of_ble_eq_true rfl, Nat.le_of_ble_eq_true rfl⟩) shM_o (by decide) rfl rfl rfl (Nat.le_of_ble_eq_true rfl) dX9_kept_11 (fun M3 _ => ?_)
    refine g_iconst (v := 0) B dX9_kept_14 (by decide) ?_
    refine g_istore_n B dX9_kept_15 rfl (by decide) (lv1 := [(2, .int (0 : Int32)), (0, .ref (ad 0)), (1, .int v1)]) rfl ?_
    refine g_lv [1, 2, 0] rfl (hL16 _ _  ?_ FU _ _)
    · intro w8 M9
      refine g_aload_n B dX9_kept_41 0 rfl rfl ?_
      refine g_callVVe (q := (RX9, TX9, 39)) (As := []) (st := []) B (k_X9_bringBack l D cA ad B.2.2.2.2.2.2.1  M9) (cwV 0 B.2.2.2.2.1 gX9_kept_X9_bringBack rfl rfl rfl (by decide +kernel) ⟨Nat.le_of_ble_eq_true rfl, Nat.le_of_ble_eq_true rfl⟩) shM_o (by decide) rfl rfl rfl (Nat.le_of_ble_eq_true rfl) dX9_kept_42 (fun M10 _ => ?_)
      refine g_iload_n B dX9_kept_45 1 rfl rfl ?_
      refine g_sipush (v := 999) B dX9_kept_46 (by decide) ?_
      refine g_icmp_le (tgt := 57) B dX9_kept_49 (by decide) (fun c11 => ?_) (fun c11 => ?_)
      · refine g_iload_n B dX9_kept_57 1 rfl rfl ?_
        exact g_iret B hr hk dX9_kept_58
      · refine g_bipush (v := -9) B dX9_kept_52 (by decide) ?_
        refine g_goto (tgt := 58) B dX9_kept_54 (by decide) ?_
        exact g_iret B hr hk dX9_kept_58
  · refine g_iconst (v := -1) B dX9_kept_8 (by decide) ?_
    exact g_iret B hr hk dX9_kept_9

abbrev rm_X9_farthest : Room := { frames := 1, cells := 0, slots := 0, locals := 22 }
set_option maxHeartbeats 4000000 in
set_option maxRecDepth 100000 in
theorem k_X9_farthest (l : Launch) (D : va_G) (cA : Nat → ClassId) (ad : Nat → Nat) (had : adOK ad 25) (v1 : Int32) (M : Mem) : CI l yX9_farthest wsX9_farthest rm_X9_farthest D cA ad (shM ad cA) 25 [.ref (ad 0), .int v1] M (wM M (d_X9_farthest v1 M)) := by
  refine CI_ofp (own := RX9) (cc := cX9_farthest) (maxL := 5) (rt := .int) had (by decide) rfl rfl (Nat.le_of_ble_eq_true rfl) ?_
  intro p e s m args below meth c R0 B hr hk
  have hL4 : ∀ (v1 : Int32)    , ∀ (f : Nat) (v2 : Int32) (v3 : Int32), GG p l e (headSpec wsX9_farthest rm_X9_farthest).room s m args below meth c D ad (shM ad cA) 25 5 (MQ below (QI D ad (shM ad cA) 25 s.heap.size (R0, M)) args s 0 0 (AX ad 25 s.heap.size)) R0 M 4 [(0, .ref (ad 0)), (1, .int v1), (2, .int v2), (3, .int v3)] [] (dX9_farthest_4l v1 M  f v2 v3 ) := by
    intro v1
    intro f
    induction f with
    | zero =>
      intro v2 v3
      exact g_none
    | succ f ih =>
      intro v2 v3
      rw [dX9_farthest_4l]
      refine g_iload_n B dX9_farthest_4 3 rfl rfl ?_
      refine g_aload_n B dX9_farthest_5 0 rfl rfl ?_
      refine g_get (v := .int (M 0 1)) B shM_o (by decide) in_X9_farthest_X9 rfl 1 (by decide) (List.mem_of_getElem? (i := 1) rfl) rfl rfl dX9_farthest_6 ?_
      refine g_icmp_ge (tgt := 53) B dX9_farthest_9 (by decide) (fun c1 => ?_) (fun c1 => ?_)
      · refine g_iload_n B dX9_farthest_53 2 rfl rfl ?_
        exact g_iretp B hr hk dX9_farthest_54
      · refine g_aload_n B dX9_farthest_12 0 rfl rfl ?_
        refine g_iload_n B dX9_farthest_13 1 rfl rfl ?_
        refine g_iload_n B dX9_farthest_14 3 rfl rfl ?_
        refine g_callVIp (q := (RX9, TX9, 39)) (As := [.int v1, .int v3]) (st := []) B (k_X9_farFrom l D cA ad B.2.2.2.2.2.2.1 v1 v3 M) (cwV 2 B.2.2.2.2.1 gX9_farthest_X9_farFrom rfl rfl rfl (by decide +kernel) ⟨Nat.le_of_ble_eq_true rfl, Nat.le_of_ble_eq_true rfl⟩) shM_o (by decide) rfl rfl rfl (Nat.le_of_ble_eq_true rfl) dX9_farthest_15 (fun r2 _ => ?_)
        refine g_istore B dX9_farthest_18 (by decide) (lv1 := [(4, .int r2), (0, .ref (ad 0)), (1, .int v1), (2, .int v2), (3, .int v3)]) rfl ?_
        refine g_iload_n B dX9_farthest_20 3 rfl rfl ?_
        refine g_if_lt (tgt := 29) B dX9_farthest_21 (by decide) (fun c3 => ?_) (fun c3 => ?_)
        · refine g_bipush (v := -9) B dX9_farthest_29 (by decide) ?_
          refine g_goto (tgt := 46) B dX9_farthest_31 (by decide) ?_
          refine g_istore_n B dX9_farthest_46 rfl (by decide) (lv1 := [(2, .int (-9 : Int32)), (4, .int r2), (0, .ref (ad 0)), (1, .int v1), (3, .int v3)]) rfl ?_
          refine g_iinc B dX9_farthest_47 4 (v := v3 + (1 : Int32)) rfl rfl (by decide) (lv1 := [(3, .int (v3 + (1 : Int32))), (2, .int (-9 : Int32)), (4, .int r2), (0, .ref (ad 0)), (1, .int v1)]) rfl ?_
          refine g_goto (tgt := 4) B dX9_farthest_50 (by decide) ?_
          exact g_lv [3, 4, 1, 0] rfl (ih _ _)
        · refine g_iload B dX9_farthest_24 0 rfl ?_
          refine g_if_ge (tgt := 34) B dX9_farthest_26 (by decide) (fun c4 => ?_) (fun c4 => ?_)
          · refine g_iload B dX9_farthest_34 0 rfl ?_
            refine g_iload_n B dX9_farthest_36 3 rfl rfl ?_
            refine g_icmp_le (tgt := 45) B dX9_farthest_37 (by decide) (fun c5 => ?_) (fun c5 => ?_)
            · refine g_iload_n B dX9_farthest_45 3 rfl rfl ?_
              refine g_istore_n B dX9_farthest_46 rfl (by decide) (lv1 := [(2, .int v2), (4, .int r2), (0, .ref (ad 0)), (1, .int v1), (3, .int v3)]) rfl ?_
              refine g_iinc B dX9_farthest_47 4 (v := v3 + (1 : Int32)) rfl rfl (by decide) (lv1 := [(3, .int (v3 + (1 : Int32))), (2, .int v2), (4, .int r2), (0, .ref (ad 0)), (1, .int v1)]) rfl ?_
              refine g_goto (tgt := 4) B dX9_farthest_50 (by decide) ?_
              exact g_lv [3, 4, 1, 0] rfl (ih _ _)
            · refine g_iload B dX9_farthest_40 0 rfl ?_
              refine g_goto (tgt := 46) B dX9_farthest_42 (by decide) ?_
              refine g_istore_n B dX9_farthest_46 rfl (by decide) (lv1 := [(2, .int r2), (4, .int r2), (0, .ref (ad 0)), (1, .int v1), (3, .int v3)]) rfl ?_
              refine g_iinc B dX9_farthest_47 4 (v := v3 + (1 : Int32)) rfl rfl (by decide) (lv1 := [(3, .int (v3 + (1 : Int32))), (2, .int r2), (4, .int r2), (0, .ref (ad 0)), (1, .int v1)]) rfl ?_
              refine g_goto (tgt := 4) B dX9_farthest_50 (by decide) ?_
              exact g_lv [3, 4, 1, 0] rfl (ih _ _)
          · refine g_bipush (v := -9) B dX9_farthest_29 (by decide) ?_
            refine g_goto (tgt := 46) B dX9_farthest_31 (by decide) ?_
            refine g_istore_n B dX9_farthest_46 rfl (by decide) (lv1 := [(2, .int (-9 : Int32)), (4, .int r2), (0, .ref (ad 0)), (1, .int v1), (3, .int v3)]) rfl ?_
            refine g_iinc B dX9_farthest_47 4 (v := v3 + (1 : Int32)) rfl rfl (by decide) (lv1 := [(3, .int (v3 + (1 : Int32))), (2, .int (-9 : Int32)), (4, .int r2), (0, .ref (ad 0)), (1, .int v1)]) rfl ?_
            refine g_goto (tgt := 4) B dX9_farthest_50 (by decide) ?_
            exact g_lv [3, 4, 1, 0] rfl (ih _ _)
  unfold d_X9_farthest
  show GG p l e (headSpec wsX9_farthest rm_X9_farthest).room s m args below meth c D ad (shM ad cA) 25 5 (MQ below (QI D ad (shM ad cA) 25 s.heap.size (R0, M)) args s 0 0 (AX ad 25 s.heap.size)) R0 M 0 [(0, .ref (ad 0)), (1, .int v1)] [] _
  refine g_iconst (v := 0) B dX9_farthest_0 (by decide) ?_
  refine g_istore_n B dX9_farthest_1 rfl (by decide) (lv1 := [(2, .int (0 : Int32)), (0, .ref (ad 0)), (1, .int v1)]) rfl ?_
  refine g_iconst (v := 0) B dX9_farthest_2 (by decide) ?_
  refine g_istore_n B dX9_farthest_3 rfl (by decide) (lv1 := [(3, .int (0 : Int32)), (2, .int (0 : Int32)), (0, .ref (ad 0)), (1, .int v1)]) rfl ?_
  refine g_lv [2, 3, 1, 0] rfl (hL4 _   FU _ _)

abbrev rm_X9_middle : Room := { frames := 2, cells := 0, slots := 0, locals := 46 }
set_option maxHeartbeats 4000000 in
set_option maxRecDepth 100000 in
theorem k_X9_middle (l : Launch) (D : va_G) (cA : Nat → ClassId) (ad : Nat → Nat) (had : adOK ad 25) (v1 : Int32) (M : Mem) : CI l yX9_middle wsX9_middle rm_X9_middle D cA ad (shM ad cA) 25 [.ref (ad 0), .int v1] M (wM M (d_X9_middle v1 M)) := by
  refine CI_ofp (own := RX9) (cc := cX9_middle) (maxL := 7) (rt := .int) had (by decide) rfl rfl (Nat.le_of_ble_eq_true rfl) ?_
  intro p e s m args below meth c R0 B hr hk
  have hJ82 : ∀ (rec32 : Int32 → Int32 → Int32 → Option Int32) (v1 : Int32) (v3 : Int32) (v4 : Int32) (v5 : Int32) (v6 : Int32) (s0 : Int32)    (hrec32 : ∀ (w2 : Int32) (w3 : Int32) (w4 : Int32), GG p l e (headSpec wsX9_middle rm_X9_middle).room s m args below meth c D ad (shM ad cA) 25 7 (MQ below (QI D ad (shM ad cA) 25 s.heap.size (R0, M)) args s 0 0 (AX ad 25 s.heap.size)) R0 M 32 [(0, .ref (ad 0)), (1, .int v1), (2, .int w2), (3, .int w3), (4, .int w4)] [] (rec32 w2 w3 w4)), GG p l e (headSpec wsX9_middle rm_X9_middle).room s m args below meth c D ad (shM ad cA) 25 7 (MQ below (QI D ad (shM ad cA) 25 s.heap.size (R0, M)) args s 0 0 (AX ad 25 s.heap.size)) R0 M 82 [(0, .ref (ad 0)), (1, .int v1), (3, .int v3), (4, .int v4), (5, .int v5), (6, .int v6)] [.int s0] (dX9_middle_82j rec32 v1 v3 v4 v5 v6 s0 M) := by
    intro rec32 v1 v3 v4 v5 v6 s0 hrec32
    unfold dX9_middle_82j
    refine g_istore_n B dX9_middle_82 rfl (by decide) (lv1 := [(2, .int s0), (0, .ref (ad 0)), (1, .int v1), (3, .int v3), (4, .int v4), (5, .int v5), (6, .int v6)]) rfl ?_
    refine g_iload B dX9_middle_83 6 rfl ?_
    refine g_if_eq (tgt := 93) B dX9_middle_85 (by decide) (fun c8 => ?_) (fun c8 => ?_)
    · refine g_iload_n B dX9_middle_93 3 rfl rfl ?_
      refine g_istore_n B dX9_middle_94 rfl (by decide) (lv1 := [(3, .int v3), (2, .int s0), (0, .ref (ad 0)), (1, .int v1), (4, .int v4), (5, .int v5), (6, .int v6)]) rfl ?_
      refine g_iinc B dX9_middle_95 4 (v := v4 + (1 : Int32)) rfl rfl (by decide) (lv1 := [(4, .int (v4 + (1 : Int32))), (3, .int v3), (2, .int s0), (0, .ref (ad 0)), (1, .int v1), (5, .int v5), (6, .int v6)]) rfl ?_
      refine g_goto (tgt := 32) B dX9_middle_98 (by decide) ?_
      exact g_lv [3, 4, 2, 1, 0] rfl (hrec32 _ _ _)
    · refine g_iload B dX9_middle_88 5 rfl ?_
      refine g_goto (tgt := 94) B dX9_middle_90 (by decide) ?_
      refine g_istore_n B dX9_middle_94 rfl (by decide) (lv1 := [(3, .int v5), (2, .int s0), (0, .ref (ad 0)), (1, .int v1), (4, .int v4), (5, .int v5), (6, .int v6)]) rfl ?_
      refine g_iinc B dX9_middle_95 4 (v := v4 + (1 : Int32)) rfl rfl (by decide) (lv1 := [(4, .int (v4 + (1 : Int32))), (3, .int v5), (2, .int s0), (0, .ref (ad 0)), (1, .int v1), (5, .int v5), (6, .int v6)]) rfl ?_
      refine g_goto (tgt := 32) B dX9_middle_98 (by decide) ?_
      exact g_lv [3, 4, 2, 1, 0] rfl (hrec32 _ _ _)
  have hJ69 : ∀ (rec32 : Int32 → Int32 → Int32 → Option Int32) (v1 : Int32) (v2 : Int32) (v3 : Int32) (v4 : Int32) (v5 : Int32) (s0 : Int32)    (hrec32 : ∀ (w2 : Int32) (w3 : Int32) (w4 : Int32), GG p l e (headSpec wsX9_middle rm_X9_middle).room s m args below meth c D ad (shM ad cA) 25 7 (MQ below (QI D ad (shM ad cA) 25 s.heap.size (R0, M)) args s 0 0 (AX ad 25 s.heap.size)) R0 M 32 [(0, .ref (ad 0)), (1, .int v1), (2, .int w2), (3, .int w3), (4, .int w4)] [] (rec32 w2 w3 w4)), GG p l e (headSpec wsX9_middle rm_X9_middle).room s m args below meth c D ad (shM ad cA) 25 7 (MQ below (QI D ad (shM ad cA) 25 s.heap.size (R0, M)) args s 0 0 (AX ad 25 s.heap.size)) R0 M 69 [(0, .ref (ad 0)), (1, .int v1), (2, .int v2), (3, .int v3), (4, .int v4), (5, .int v5)] [.int s0] (dX9_middle_69j rec32 v1 v2 v3 v4 v5 s0 M) := by
    intro rec32 v1 v2 v3 v4 v5 s0 hrec32
    unfold dX9_middle_69j
    refine g_istore B dX9_middle_69 (by decide) (lv1 := [(6, .int s0), (0, .ref (ad 0)), (1, .int v1), (2, .int v2), (3, .int v3), (4, .int v4), (5, .int v5)]) rfl ?_
    refine g_iload B dX9_middle_71 0 rfl ?_
    refine g_if_eq (tgt := 81) B dX9_middle_73 (by decide) (fun c7 => ?_) (fun c7 => ?_)
    · refine g_iload_n B dX9_middle_81 3 rfl rfl ?_
      exact g_lv [1, 2, 4, 5, 6, 0] rfl (hJ82 _ _ _ _ _ _ _   hrec32)
    · refine g_iload B dX9_middle_76 5 rfl ?_
      refine g_goto (tgt := 82) B dX9_middle_78 (by decide) ?_
      exact g_lv [1, 2, 4, 5, 6, 0] rfl (hJ82 _ _ _ _ _ _ _   hrec32)
  have hJ68 : ∀ (rec32 : Int32 → Int32 → Int32 → Option Int32) (v1 : Int32) (v2 : Int32) (v3 : Int32) (v4 : Int32) (v5 : Int32)     (hrec32 : ∀ (w2 : Int32) (w3 : Int32) (w4 : Int32), GG p l e (headSpec wsX9_middle rm_X9_middle).room s m args below meth c D ad (shM ad cA) 25 7 (MQ below (QI D ad (shM ad cA) 25 s.heap.size (R0, M)) args s 0 0 (AX ad 25 s.heap.size)) R0 M 32 [(0, .ref (ad 0)), (1, .int v1), (2, .int w2), (3, .int w3), (4, .int w4)] [] (rec32 w2 w3 w4)), GG p l e (headSpec wsX9_middle rm_X9_middle).room s m args below meth c D ad (shM ad cA) 25 7 (MQ below (QI D ad (shM ad cA) 25 s.heap.size (R0, M)) args s 0 0 (AX ad 25 s.heap.size)) R0 M 68 [(0, .ref (ad 0)), (1, .int v1), (2, .int v2), (3, .int v3), (4, .int v4), (5, .int v5)] [] (dX9_middle_68j rec32 v1 v2 v3 v4 v5  M) := by
    intro rec32 v1 v2 v3 v4 v5 hrec32
    unfold dX9_middle_68j
    refine g_iconst (v := 0) B dX9_middle_68 (by decide) ?_
    exact g_lv [0, 1, 2, 3, 4, 5] rfl (hJ69 _ _ _ _ _ _ _   hrec32)
  have hJ64 : ∀ (rec32 : Int32 → Int32 → Int32 → Option Int32) (v1 : Int32) (v2 : Int32) (v3 : Int32) (v4 : Int32) (v5 : Int32)     (hrec32 : ∀ (w2 : Int32) (w3 : Int32) (w4 : Int32), GG p l e (headSpec wsX9_middle rm_X9_middle).room s m args below meth c D ad (shM ad cA) 25 7 (MQ below (QI D ad (shM ad cA) 25 s.heap.size (R0, M)) args s 0 0 (AX ad 25 s.heap.size)) R0 M 32 [(0, .ref (ad 0)), (1, .int v1), (2, .int w2), (3, .int w3), (4, .int w4)] [] (rec32 w2 w3 w4)), GG p l e (headSpec wsX9_middle rm_X9_middle).room s m args below meth c D ad (shM ad cA) 25 7 (MQ below (QI D ad (shM ad cA) 25 s.heap.size (R0, M)) args s 0 0 (AX ad 25 s.heap.size)) R0 M 64 [(0, .ref (ad 0)), (1, .int v1), (2, .int v2), (3, .int v3), (4, .int v4), (5, .int v5)] [] (dX9_middle_64j rec32 v1 v2 v3 v4 v5  M) := by
    intro rec32 v1 v2 v3 v4 v5 hrec32
    unfold dX9_middle_64j
    refine g_iconst (v := 1) B dX9_middle_64 (by decide) ?_
    refine g_goto (tgt := 69) B dX9_middle_65 (by decide) ?_
    exact g_lv [0, 1, 2, 3, 4, 5] rfl (hJ69 _ _ _ _ _ _ _   hrec32)
  have hL32 : ∀ (v1 : Int32)  (k32_101 : Int32 → Int32 → Option Int32)  (hk32_101 : ∀ (w2 : Int32) (w3 : Int32), GG p l e (headSpec wsX9_middle rm_X9_middle).room s m args below meth c D ad (shM ad cA) 25 7 (MQ below (QI D ad (shM ad cA) 25 s.heap.size (R0, M)) args s 0 0 (AX ad 25 s.heap.size)) R0 M 101 [(1, .int v1), (2, .int w2), (3, .int w3)] [] (k32_101 w2 w3)), ∀ (f : Nat) (v2 : Int32) (v3 : Int32) (v4 : Int32), GG p l e (headSpec wsX9_middle rm_X9_middle).room s m args below meth c D ad (shM ad cA) 25 7 (MQ below (QI D ad (shM ad cA) 25 s.heap.size (R0, M)) args s 0 0 (AX ad 25 s.heap.size)) R0 M 32 [(0, .ref (ad 0)), (1, .int v1), (2, .int v2), (3, .int v3), (4, .int v4)] [] (dX9_middle_32l v1 M k32_101 f v2 v3 v4 ) := by
    intro v1 k32_101 hk32_101
    intro f
    induction f with
    | zero =>
      intro v2 v3 v4
      exact g_none
    | succ f ih =>
      intro v2 v3 v4
      rw [dX9_middle_32l]
      refine g_iload B dX9_middle_32 4 rfl ?_
      refine g_aload_n B dX9_middle_34 0 rfl rfl ?_
      refine g_get (v := .int (M 0 1)) B shM_o (by decide) in_X9_middle_X9 rfl 1 (by decide) (List.mem_of_getElem? (i := 2) rfl) rfl rfl dX9_middle_35 ?_
      refine g_icmp_ge (tgt := 101) B dX9_middle_38 (by decide) (fun c4 => ?_) (fun c4 => ?_)
      · exact g_lv [1, 2, 3] rfl (hk32_101 _ _)
      · refine g_aload_n B dX9_middle_41 0 rfl rfl ?_
        refine g_iload B dX9_middle_42 4 rfl ?_
        refine g_callVIp (q := (RX9, TX9, 39)) (As := [.int v4]) (st := []) B (k_X9_farthest l D cA ad B.2.2.2.2.2.2.1 v4 M) (cwV 1 B.2.2.2.2.1 gX9_middle_X9_farthest rfl rfl rfl (by decide +kernel) ⟨Nat.le_of_ble_eq_true rfl, Nat.le_of_ble_eq_true rfl⟩) shM_o (by decide) rfl rfl rfl (Nat.le_of_ble_eq_true rfl) dX9_middle_44 (fun r5 _ => ?_)
        refine g_istore B dX9_middle_47 (by decide) (lv1 := [(5, .int r5), (0, .ref (ad 0)), (1, .int v1), (2, .int v2), (3, .int v3), (4, .int v4)]) rfl ?_
        refine g_iload B dX9_middle_49 0 rfl ?_
        refine g_if_lt (tgt := 68) B dX9_middle_51 (by decide) (fun c6 => ?_) (fun c6 => ?_)
        · exact g_lv [1, 2, 3, 4, 5, 0] rfl (hJ68 _ _ _ _ _ _   ih)
        · refine g_iload_n B dX9_middle_54 3 rfl rfl ?_
          refine g_if_lt (tgt := 64) B dX9_middle_55 (by decide) (fun c9 => ?_) (fun c9 => ?_)
          · exact g_lv [1, 2, 3, 4, 5, 0] rfl (hJ64 _ _ _ _ _ _   ih)
          · refine g_iload B dX9_middle_58 0 rfl ?_
            refine g_iload_n B dX9_middle_60 4 rfl rfl ?_
            refine g_icmp_ge (tgt := 68) B dX9_middle_61 (by decide) (fun c10 => ?_) (fun c10 => ?_)
            · exact g_lv [1, 2, 3, 4, 5, 0] rfl (hJ68 _ _ _ _ _ _   ih)
            · exact g_lv [1, 2, 3, 4, 5, 0] rfl (hJ64 _ _ _ _ _ _   ih)
  unfold d_X9_middle
  show GG p l e (headSpec wsX9_middle rm_X9_middle).room s m args below meth c D ad (shM ad cA) 25 7 (MQ below (QI D ad (shM ad cA) 25 s.heap.size (R0, M)) args s 0 0 (AX ad 25 s.heap.size)) R0 M 0 [(0, .ref (ad 0)), (1, .int v1)] [] _
  refine g_aload_n B dX9_middle_0 0 rfl rfl ?_
  refine g_get (v := .int (M 0 2)) B shM_o (by decide) in_X9_middle_X9 rfl 2 (by decide) (List.mem_of_getElem? (i := 1) rfl) rfl rfl dX9_middle_1 ?_
  refine g_if_ne (tgt := 10) B dX9_middle_4 (by decide) (fun c1 => ?_) (fun c1 => ?_)
  · refine g_bipush (v := -3) B dX9_middle_7 (by decide) ?_
    exact g_iretp B hr hk dX9_middle_9
  · refine g_iload_n B dX9_middle_10 1 rfl rfl ?_
    refine g_i2l B dX9_middle_11 ?_
    refine g_lconst (v := 0) B dX9_middle_12 (by decide) ?_
    refine g_lconst (v := 1) B dX9_middle_13 (by decide) ?_
    refine g_callSIp (As := [.long v1.toInt64, .long (0 : Int64), .long (1 : Int64)]) (st := []) B (k_X9_in l D cA ad B.2.2.2.2.2.2.1 v1.toInt64 (0 : Int64) (1 : Int64) M) (va_cwS 3 B.2.2.2.2.1 gX9_middle_X9_in rfl rfl rfl (by decide +kernel) ⟨Nat.le_of_ble_eq_true rfl, Nat.le_of_ble_eq_true rfl⟩) rfl rfl (Nat.le_of_ble_eq_true rfl) dX9_middle_14 (fun r2 _ => ?_)
    refine g_if_ne (tgt := 23) B dX9_middle_17 (by decide) (fun c3 => ?_) (fun c3 => ?_)
    · refine g_bipush (v := -2) B dX9_middle_20 (by decide) ?_
      exact g_iretp B hr hk dX9_middle_22
    · refine g_bipush (v := -9) B dX9_middle_23 (by decide) ?_
      refine g_istore_n B dX9_middle_25 rfl (by decide) (lv1 := [(2, .int (-9 : Int32)), (0, .ref (ad 0)), (1, .int v1)]) rfl ?_
      refine g_bipush (v := -9) B dX9_middle_26 (by decide) ?_
      refine g_istore_n B dX9_middle_28 rfl (by decide) (lv1 := [(3, .int (-9 : Int32)), (2, .int (-9 : Int32)), (0, .ref (ad 0)), (1, .int v1)]) rfl ?_
      refine g_iconst (v := 0) B dX9_middle_29 (by decide) ?_
      refine g_istore B dX9_middle_30 (by decide) (lv1 := [(4, .int (0 : Int32)), (3, .int (-9 : Int32)), (2, .int (-9 : Int32)), (0, .ref (ad 0)), (1, .int v1)]) rfl ?_
      refine g_lv [3, 4, 2, 1, 0] rfl (hL32 _ _  ?_ FU _ _ _)
      · intro w11 w12
        refine g_iload_n B dX9_middle_101 0 rfl rfl ?_
        refine g_if_ne (tgt := 109) B dX9_middle_102 (by decide) (fun c13 => ?_) (fun c13 => ?_)
        · refine g_iload_n B dX9_middle_105 1 rfl rfl ?_
          refine g_goto (tgt := 110) B dX9_middle_106 (by decide) ?_
          exact g_iretp B hr hk dX9_middle_110
        · refine g_iload_n B dX9_middle_109 2 rfl rfl ?_
          exact g_iretp B hr hk dX9_middle_110

abbrev rm_X9_joins : Room := { frames := 0, cells := 0, slots := 0, locals := 0 }
set_option maxHeartbeats 4000000 in
set_option maxRecDepth 100000 in
theorem k_X9_joins (l : Launch) (D : va_G) (cA : Nat → ClassId) (ad : Nat → Nat) (had : adOK ad 25) (v1 : Int32) (v2 : Int32) (v3 : Int32) (M : Mem) : CV l yX9_joins wsX9_joins rm_X9_joins D cA ad (shM ad cA) 25 [.ref (ad 0), .int v1, .int v2, .int v3] M (d_X9_joins v1 v2 v3 M) := by
  refine CV_of (own := RX9) (cc := cX9_joins) (maxL := 6) had (by decide) rfl rfl (Nat.le_of_ble_eq_true rfl) ?_
  intro p e s m args below meth c R0 B hr hk
  have hJ54 : ∀ (rec11 : Int32 → Mem → Option Mem) (v1 : Int32) (v2 : Int32) (v3 : Int32) (v4 : Int32) (v5 : Int32) (s0 : Int32) (s1 : Int32) (M : Mem)   (hrec11 : ∀ (w5 : Int32) (M1 : Mem), GG p l e (headSpec wsX9_joins rm_X9_joins).room s m args below meth c D ad (shM ad cA) 25 6 (MQ below (QV D ad (shM ad cA) 25 s.heap.size R0) args s 0 0 (AX ad 25 s.heap.size)) R0 M1 11 [(0, .ref (ad 0)), (1, .int v1), (2, .int v2), (3, .int v3), (4, .int v4), (5, .int w5)] [] (rec11 w5 M1)), GG p l e (headSpec wsX9_joins rm_X9_joins).room s m args below meth c D ad (shM ad cA) 25 6 (MQ below (QV D ad (shM ad cA) 25 s.heap.size R0) args s 0 0 (AX ad 25 s.heap.size)) R0 M 54 [(0, .ref (ad 0)), (1, .int v1), (2, .int v2), (3, .int v3), (4, .int v4), (5, .int v5)] [.int s0, .int s1, .ref (ad 14)] (dX9_joins_54j rec11 v1 v2 v3 v4 v5 s0 s1 M) := by
    intro rec11 v1 v2 v3 v4 v5 s0 s1 M hrec11
    unfold dX9_joins_54j
    refine g_iast B shM_a14 (by decide) dX9_joins_54 (g_lmM (fun M4 => ?_))
    refine g_iinc B dX9_joins_55 5 (v := v5 + (1 : Int32)) rfl rfl (by decide) (lv1 := [(5, .int (v5 + (1 : Int32))), (0, .ref (ad 0)), (1, .int v1), (2, .int v2), (3, .int v3), (4, .int v4)]) rfl ?_
    refine g_goto (tgt := 11) B dX9_joins_58 (by decide) ?_
    exact g_lv [1, 2, 3, 4, 5, 0] rfl (hrec11 _ _)
  have hL11 : ∀ (v1 : Int32) (v2 : Int32) (v3 : Int32) (v4 : Int32)  (k11_61 : Mem → Option Mem)  (hk11_61 : ∀  (M1 : Mem), GG p l e (headSpec wsX9_joins rm_X9_joins).room s m args below meth c D ad (shM ad cA) 25 6 (MQ below (QV D ad (shM ad cA) 25 s.heap.size R0) args s 0 0 (AX ad 25 s.heap.size)) R0 M1 61 [(0, .ref (ad 0)), (1, .int v1), (2, .int v2), (3, .int v3)] [] (k11_61  M1)), ∀ (f : Nat) (v5 : Int32) (M : Mem), GG p l e (headSpec wsX9_joins rm_X9_joins).room s m args below meth c D ad (shM ad cA) 25 6 (MQ below (QV D ad (shM ad cA) 25 s.heap.size R0) args s 0 0 (AX ad 25 s.heap.size)) R0 M 11 [(0, .ref (ad 0)), (1, .int v1), (2, .int v2), (3, .int v3), (4, .int v4), (5, .int v5)] [] (dX9_joins_11l v1 v2 v3 v4  k11_61 f v5 M) := by
    intro v1 v2 v3 v4 k11_61 hk11_61
    intro f
    induction f with
    | zero =>
      intro v5 M
      exact g_none
    | succ f ih =>
      intro v5 M
      rw [dX9_joins_11l]
      refine g_iload B dX9_joins_11 5 rfl ?_
      refine g_aload_n B dX9_joins_13 0 rfl rfl ?_
      refine g_get (v := .int (M 0 1)) B shM_o (by decide) in_X9_joins_X9 rfl 1 (by decide) (List.mem_of_getElem? (i := 2) rfl) rfl rfl dX9_joins_14 ?_
      refine g_icmp_ge (tgt := 61) B dX9_joins_17 (by decide) (fun c2 => ?_) (fun c2 => ?_)
      · exact g_lv [0, 1, 2, 3] rfl (hk11_61  _)
      · refine g_aload_n B dX9_joins_20 0 rfl rfl ?_
        refine g_get (v := .ref (ad 14)) B shM_o (by decide) in_X9_joins_X9 rfl 24 (by decide) (List.mem_of_getElem? (i := 1) rfl) rfl rfl dX9_joins_21 ?_
        refine g_iload B dX9_joins_24 5 rfl ?_
        refine g_aload_n B dX9_joins_26 0 rfl rfl ?_
        refine g_get (v := .ref (ad 14)) B shM_o (by decide) in_X9_joins_X9 rfl 24 (by decide) (List.mem_of_getElem? (i := 1) rfl) rfl rfl dX9_joins_27 ?_
        refine g_iload B dX9_joins_30 5 rfl ?_
        refine g_iald B shM_a14 (by decide) dX9_joins_32 ?_
        refine g_iload B dX9_joins_33 4 rfl ?_
        refine g_icmp_ne (tgt := 47) B dX9_joins_35 (by decide) (fun c3 => ?_) (fun c3 => ?_)
        · refine g_aload_n B dX9_joins_38 0 rfl rfl ?_
          refine g_get (v := .ref (ad 14)) B shM_o (by decide) in_X9_joins_X9 rfl 24 (by decide) (List.mem_of_getElem? (i := 1) rfl) rfl rfl dX9_joins_39 ?_
          refine g_iload_n B dX9_joins_42 1 rfl rfl ?_
          refine g_iald B shM_a14 (by decide) dX9_joins_43 ?_
          refine g_goto (tgt := 54) B dX9_joins_44 (by decide) ?_
          exact g_lv [0, 1, 2, 3, 4, 5] rfl (hJ54 _ _ _ _ _ _ _ _ _   ih)
        · refine g_aload_n B dX9_joins_47 0 rfl rfl ?_
          refine g_get (v := .ref (ad 14)) B shM_o (by decide) in_X9_joins_X9 rfl 24 (by decide) (List.mem_of_getElem? (i := 1) rfl) rfl rfl dX9_joins_48 ?_
          refine g_iload B dX9_joins_51 5 rfl ?_
          refine g_iald B shM_a14 (by decide) dX9_joins_53 ?_
          exact g_lv [0, 1, 2, 3, 4, 5] rfl (hJ54 _ _ _ _ _ _ _ _ _   ih)
  unfold d_X9_joins
  show GG p l e (headSpec wsX9_joins rm_X9_joins).room s m args below meth c D ad (shM ad cA) 25 6 (MQ below (QV D ad (shM ad cA) 25 s.heap.size R0) args s 0 0 (AX ad 25 s.heap.size)) R0 M 0 [(0, .ref (ad 0)), (1, .int v1), (2, .int v2), (3, .int v3)] [] _
  refine g_aload_n B dX9_joins_0 0 rfl rfl ?_
  refine g_get (v := .ref (ad 14)) B shM_o (by decide) in_X9_joins_X9 rfl 24 (by decide) (List.mem_of_getElem? (i := 1) rfl) rfl rfl dX9_joins_1 ?_
  refine g_iload_n B dX9_joins_4 2 rfl rfl ?_
  refine g_iald B shM_a14 (by decide) dX9_joins_5 ?_
  refine g_lmI (fun x1 => ?_)
  refine g_istore B dX9_joins_6 (by decide) (lv1 := [(4, .int x1), (0, .ref (ad 0)), (1, .int v1), (2, .int v2), (3, .int v3)]) rfl ?_
  refine g_iconst (v := 0) B dX9_joins_8 (by decide) ?_
  refine g_istore B dX9_joins_9 (by decide) (lv1 := [(5, .int (0 : Int32)), (4, .int x1), (0, .ref (ad 0)), (1, .int v1), (2, .int v2), (3, .int v3)]) rfl ?_
  refine g_lv [2, 3, 4, 5, 1, 0] rfl (hL11 _ _ _ _ _  ?_ FU _ _)
  · intro M5
    refine g_aload_n B dX9_joins_61 0 rfl rfl ?_
    refine g_dup B dX9_joins_62 rfl ?_
    refine g_get (v := .int (M5 0 25)) B shM_o (by decide) in_X9_joins_X9 rfl 25 (by decide) (List.mem_of_getElem? (i := 3) rfl) rfl rfl dX9_joins_63 ?_
    refine g_iconst (v := 1) B dX9_joins_66 (by decide) ?_
    refine g_iload_n B dX9_joins_67 3 rfl rfl ?_
    refine g_ishl B dX9_joins_68 ?_
    refine g_ior B dX9_joins_69 ?_
    refine g_put (ty := .int) B shM_o (by decide) in_X9_joins_X9 tyX9_ok nmX9 rfl 25 (by decide) (List.mem_of_getElem? (i := 3) rfl) rfl rfl (by decide +kernel) rfl rfl (fun _ => Nat.le_of_ble_eq_true rfl) (fun _ _ => rfl) dX9_joins_70 (g_lmM (fun M6 => ?_))
    refine g_aload_n B dX9_joins_73 0 rfl rfl ?_
    refine g_dup B dX9_joins_74 rfl ?_
    refine g_get (v := .int (M6 0 26)) B shM_o (by decide) in_X9_joins_X9 rfl 26 (by decide) (List.mem_of_getElem? (i := 4) rfl) rfl rfl dX9_joins_75 ?_
    refine g_aload_n B dX9_joins_78 0 rfl rfl ?_
    refine g_get (v := .ref (ad 1)) B shM_o (by decide) in_X9_joins_X9 rfl 5 (by decide) (List.mem_of_getElem? (i := 5) rfl) rfl rfl dX9_joins_79 ?_
    refine g_bipush (v := 6) B dX9_joins_82 (by decide) ?_
    refine g_iload_n B dX9_joins_84 1 rfl rfl ?_
    refine g_imul B dX9_joins_85 ?_
    refine g_iload_n B dX9_joins_86 2 rfl rfl ?_
    refine g_iadd B dX9_joins_87 ?_
    refine g_iald B shM_a1 (by decide) dX9_joins_88 ?_
    refine g_iadd B dX9_joins_89 ?_
    refine g_put (ty := .int) B shM_o (by decide) in_X9_joins_X9 tyX9_ok nmX9 rfl 26 (by decide) (List.mem_of_getElem? (i := 4) rfl) rfl rfl (by decide +kernel) rfl rfl (fun _ => Nat.le_of_ble_eq_true rfl) (fun _ _ => rfl) dX9_joins_90 (g_lmM (fun M7 => ?_))
    exact g_vret B hr hk dX9_joins_93

abbrev rm_X9_joinsAll : Room := { frames := 1, cells := 0, slots := 0, locals := 25 }
set_option maxHeartbeats 4000000 in
set_option maxRecDepth 100000 in
theorem k_X9_joinsAll (l : Launch) (D : va_G) (cA : Nat → ClassId) (ad : Nat → Nat) (had : adOK ad 25) (v1 : Int32) (M : Mem) : CV l yX9_joinsAll wsX9_joinsAll rm_X9_joinsAll D cA ad (shM ad cA) 25 [.ref (ad 0), .int v1] M (d_X9_joinsAll v1 M) := by
  refine CV_of (own := RX9) (cc := cX9_joinsAll) (maxL := 5) had (by decide) rfl rfl (Nat.le_of_ble_eq_true rfl) ?_
  intro p e s m args below meth c R0 B hr hk
  have hL17 : ∀ (v1 : Int32) (v3 : Int32)  (k17_75 : Int32 → Mem → Option Mem)  (hk17_75 : ∀ (w2 : Int32) (M1 : Mem), GG p l e (headSpec wsX9_joinsAll rm_X9_joinsAll).room s m args below meth c D ad (shM ad cA) 25 5 (MQ below (QV D ad (shM ad cA) 25 s.heap.size R0) args s 0 0 (AX ad 25 s.heap.size)) R0 M1 75 [(0, .ref (ad 0)), (1, .int v1), (2, .int w2), (3, .int v3)] [] (k17_75 w2 M1)), ∀ (f : Nat) (v2 : Int32) (v4 : Int32) (M : Mem), GG p l e (headSpec wsX9_joinsAll rm_X9_joinsAll).room s m args below meth c D ad (shM ad cA) 25 5 (MQ below (QV D ad (shM ad cA) 25 s.heap.size R0) args s 0 0 (AX ad 25 s.heap.size)) R0 M 17 [(0, .ref (ad 0)), (1, .int v1), (2, .int v2), (3, .int v3), (4, .int v4)] [] (dX9_joinsAll_17l v1 v3  k17_75 f v2 v4 M) := by
    intro v1 v3 k17_75 hk17_75
    intro f
    induction f with
    | zero =>
      intro v2 v4 M
      exact g_none
    | succ f ih =>
      intro v2 v4 M
      rw [dX9_joinsAll_17l]
      refine g_iload B dX9_joinsAll_17 4 rfl ?_
      refine g_aload_n B dX9_joinsAll_19 0 rfl rfl ?_
      refine g_get (v := .int (M 0 1)) B shM_o (by decide) in_X9_joinsAll_X9 rfl 1 (by decide) (List.mem_of_getElem? (i := 1) rfl) rfl rfl dX9_joinsAll_20 ?_
      refine g_icmp_ge (tgt := 75) B dX9_joinsAll_23 (by decide) (fun c3 => ?_) (fun c3 => ?_)
      · exact g_lv [0, 1, 2, 3] rfl (hk17_75 _ _)
      · refine g_aload_n B dX9_joinsAll_26 0 rfl rfl ?_
        refine g_get (v := .ref (ad 1)) B shM_o (by decide) in_X9_joinsAll_X9 rfl 5 (by decide) (List.mem_of_getElem? (i := 2) rfl) rfl rfl dX9_joinsAll_27 ?_
        refine g_bipush (v := 6) B dX9_joinsAll_30 (by decide) ?_
        refine g_iload_n B dX9_joinsAll_32 3 rfl rfl ?_
        refine g_imul B dX9_joinsAll_33 ?_
        refine g_iload B dX9_joinsAll_34 4 rfl ?_
        refine g_iadd B dX9_joinsAll_36 ?_
        refine g_iald B shM_a1 (by decide) dX9_joinsAll_37 ?_
        refine g_iload_n B dX9_joinsAll_38 1 rfl rfl ?_
        refine g_icmp_ne (tgt := 66) B dX9_joinsAll_39 (by decide) (fun c4 => ?_) (fun c4 => ?_)
        · refine g_aload_n B dX9_joinsAll_42 0 rfl rfl ?_
          refine g_get (v := .ref (ad 14)) B shM_o (by decide) in_X9_joinsAll_X9 rfl 24 (by decide) (List.mem_of_getElem? (i := 3) rfl) rfl rfl dX9_joinsAll_43 ?_
          refine g_iload_n B dX9_joinsAll_46 3 rfl rfl ?_
          refine g_iald B shM_a14 (by decide) dX9_joinsAll_47 ?_
          refine g_aload_n B dX9_joinsAll_48 0 rfl rfl ?_
          refine g_get (v := .ref (ad 14)) B shM_o (by decide) in_X9_joinsAll_X9 rfl 24 (by decide) (List.mem_of_getElem? (i := 3) rfl) rfl rfl dX9_joinsAll_49 ?_
          refine g_iload B dX9_joinsAll_52 4 rfl ?_
          refine g_iald B shM_a14 (by decide) dX9_joinsAll_54 ?_
          refine g_icmp_eq (tgt := 66) B dX9_joinsAll_55 (by decide) (fun c5 => ?_) (fun c5 => ?_)
          · refine g_iinc B dX9_joinsAll_66 2 (v := v2 + (1 : Int32)) rfl rfl (by decide) (lv1 := [(2, .int (v2 + (1 : Int32))), (0, .ref (ad 0)), (1, .int v1), (3, .int v3), (4, .int v4)]) rfl ?_
            refine g_iinc B dX9_joinsAll_69 4 (v := v4 + (1 : Int32)) rfl rfl (by decide) (lv1 := [(4, .int (v4 + (1 : Int32))), (2, .int (v2 + (1 : Int32))), (0, .ref (ad 0)), (1, .int v1), (3, .int v3)]) rfl ?_
            refine g_goto (tgt := 17) B dX9_joinsAll_72 (by decide) ?_
            exact g_lv [2, 3, 1, 4, 0] rfl (ih _ _ _)
          · refine g_aload_n B dX9_joinsAll_58 0 rfl rfl ?_
            refine g_iload_n B dX9_joinsAll_59 3 rfl rfl ?_
            refine g_iload B dX9_joinsAll_60 4 rfl ?_
            refine g_iload_n B dX9_joinsAll_62 2 rfl rfl ?_
            refine g_callVVe (q := (RX9, TX9, 39)) (As := [.int v3, .int v4, .int v2]) (st := []) B (k_X9_joins l D cA ad B.2.2.2.2.2.2.1 v3 v4 v2 M) (cwV 3 B.2.2.2.2.1 gX9_joinsAll_X9_joins rfl rfl rfl (by decide +kernel) ⟨Nat.le_of_ble_eq_true rfl, Nat.le_of_ble_eq_true rfl⟩) shM_o (by decide) rfl rfl rfl (Nat.le_of_ble_eq_true rfl) dX9_joinsAll_63 (fun M6 _ => ?_)
            refine g_iinc B dX9_joinsAll_66 2 (v := v2 + (1 : Int32)) rfl rfl (by decide) (lv1 := [(2, .int (v2 + (1 : Int32))), (0, .ref (ad 0)), (1, .int v1), (3, .int v3), (4, .int v4)]) rfl ?_
            refine g_iinc B dX9_joinsAll_69 4 (v := v4 + (1 : Int32)) rfl rfl (by decide) (lv1 := [(4, .int (v4 + (1 : Int32))), (2, .int (v2 + (1 : Int32))), (0, .ref (ad 0)), (1, .int v1), (3, .int v3)]) rfl ?_
            refine g_goto (tgt := 17) B dX9_joinsAll_72 (by decide) ?_
            exact g_lv [2, 3, 1, 4, 0] rfl (ih _ _ _)
        · refine g_iinc B dX9_joinsAll_66 2 (v := v2 + (1 : Int32)) rfl rfl (by decide) (lv1 := [(2, .int (v2 + (1 : Int32))), (0, .ref (ad 0)), (1, .int v1), (3, .int v3), (4, .int v4)]) rfl ?_
          refine g_iinc B dX9_joinsAll_69 4 (v := v4 + (1 : Int32)) rfl rfl (by decide) (lv1 := [(4, .int (v4 + (1 : Int32))), (2, .int (v2 + (1 : Int32))), (0, .ref (ad 0)), (1, .int v1), (3, .int v3)]) rfl ?_
          refine g_goto (tgt := 17) B dX9_joinsAll_72 (by decide) ?_
          exact g_lv [2, 3, 1, 4, 0] rfl (ih _ _ _)
  have hL4 : ∀ (v1 : Int32)    , ∀ (f : Nat) (v2 : Int32) (v3 : Int32) (M : Mem), GG p l e (headSpec wsX9_joinsAll rm_X9_joinsAll).room s m args below meth c D ad (shM ad cA) 25 5 (MQ below (QV D ad (shM ad cA) 25 s.heap.size R0) args s 0 0 (AX ad 25 s.heap.size)) R0 M 4 [(0, .ref (ad 0)), (1, .int v1), (2, .int v2), (3, .int v3)] [] (dX9_joinsAll_4l v1   f v2 v3 M) := by
    intro v1
    intro f
    induction f with
    | zero =>
      intro v2 v3 M
      exact g_none
    | succ f ih =>
      intro v2 v3 M
      rw [dX9_joinsAll_4l]
      refine g_iload_n B dX9_joinsAll_4 3 rfl rfl ?_
      refine g_aload_n B dX9_joinsAll_5 0 rfl rfl ?_
      refine g_get (v := .int (M 0 1)) B shM_o (by decide) in_X9_joinsAll_X9 rfl 1 (by decide) (List.mem_of_getElem? (i := 1) rfl) rfl rfl dX9_joinsAll_6 ?_
      refine g_icmp_ge (tgt := 81) B dX9_joinsAll_9 (by decide) (fun c1 => ?_) (fun c1 => ?_)
      · exact g_vret B hr hk dX9_joinsAll_81
      · refine g_iload_n B dX9_joinsAll_12 3 rfl rfl ?_
        refine g_iconst (v := 1) B dX9_joinsAll_13 (by decide) ?_
        refine g_iadd B dX9_joinsAll_14 ?_
        refine g_lmI (fun x2 => ?_)
        refine g_istore B dX9_joinsAll_15 (by decide) (lv1 := [(4, .int x2), (0, .ref (ad 0)), (1, .int v1), (2, .int v2), (3, .int v3)]) rfl ?_
        refine g_lv [1, 2, 3, 4, 0] rfl (hL17 _ _ _  ?_ FU _ _ _)
        · intro w7 M8
          refine g_iinc B dX9_joinsAll_75 3 (v := v3 + (1 : Int32)) rfl rfl (by decide) (lv1 := [(3, .int (v3 + (1 : Int32))), (0, .ref (ad 0)), (1, .int v1), (2, .int w7)]) rfl ?_
          refine g_goto (tgt := 4) B dX9_joinsAll_78 (by decide) ?_
          exact g_lv [1, 2, 3, 0] rfl (ih _ _ _)
  unfold d_X9_joinsAll
  show GG p l e (headSpec wsX9_joinsAll rm_X9_joinsAll).room s m args below meth c D ad (shM ad cA) 25 5 (MQ below (QV D ad (shM ad cA) 25 s.heap.size R0) args s 0 0 (AX ad 25 s.heap.size)) R0 M 0 [(0, .ref (ad 0)), (1, .int v1)] [] _
  refine g_iconst (v := 0) B dX9_joinsAll_0 (by decide) ?_
  refine g_istore_n B dX9_joinsAll_1 rfl (by decide) (lv1 := [(2, .int (0 : Int32)), (0, .ref (ad 0)), (1, .int v1)]) rfl ?_
  refine g_iconst (v := 0) B dX9_joinsAll_2 (by decide) ?_
  refine g_istore_n B dX9_joinsAll_3 rfl (by decide) (lv1 := [(3, .int (0 : Int32)), (2, .int (0 : Int32)), (0, .ref (ad 0)), (1, .int v1)]) rfl ?_
  refine g_lv [2, 3, 1, 0] rfl (hL4 _   FU _ _ _)

abbrev rm_X9_tree : Room := { frames := 2, cells := 0, slots := 0, locals := 49 }
set_option maxHeartbeats 4000000 in
set_option maxRecDepth 100000 in
theorem k_X9_tree (l : Launch) (D : va_G) (cA : Nat → ClassId) (ad : Nat → Nat) (had : adOK ad 25) (v1 : Int32) (M : Mem) : CI l yX9_tree wsX9_tree rm_X9_tree D cA ad (shM ad cA) 25 [.ref (ad 0), .int v1] M (d_X9_tree v1 M) := by
  refine CI_of (own := RX9) (cc := cX9_tree) (maxL := 3) (rt := .int) had (by decide) rfl rfl (Nat.le_of_ble_eq_true rfl) ?_
  intro p e s m args below meth c R0 B hr hk
  have hL25 : ∀ (v1 : Int32)  (k25_46 : Mem → Option (Int32 × Mem))  (hk25_46 : ∀  (M1 : Mem), GG p l e (headSpec wsX9_tree rm_X9_tree).room s m args below meth c D ad (shM ad cA) 25 3 (MQ below (QI D ad (shM ad cA) 25 s.heap.size R0) args s 0 0 (AX ad 25 s.heap.size)) R0 M1 46 [(0, .ref (ad 0)), (1, .int v1)] [] (k25_46  M1)), ∀ (f : Nat) (v2 : Int32) (M : Mem), GG p l e (headSpec wsX9_tree rm_X9_tree).room s m args below meth c D ad (shM ad cA) 25 3 (MQ below (QI D ad (shM ad cA) 25 s.heap.size R0) args s 0 0 (AX ad 25 s.heap.size)) R0 M 25 [(0, .ref (ad 0)), (1, .int v1), (2, .int v2)] [] (dX9_tree_25l v1  k25_46 f v2 M) := by
    intro v1 k25_46 hk25_46
    intro f
    induction f with
    | zero =>
      intro v2 M
      exact g_none
    | succ f ih =>
      intro v2 M
      rw [dX9_tree_25l]
      refine g_iload_n B dX9_tree_25 2 rfl rfl ?_
      refine g_aload_n B dX9_tree_26 0 rfl rfl ?_
      refine g_get (v := .int (M 0 1)) B shM_o (by decide) in_X9_tree_X9 rfl 1 (by decide) (List.mem_of_getElem? (i := 2) rfl) rfl rfl dX9_tree_27 ?_
      refine g_icmp_ge (tgt := 46) B dX9_tree_30 (by decide) (fun c4 => ?_) (fun c4 => ?_)
      · exact g_lv [0, 1] rfl (hk25_46  _)
      · refine g_aload_n B dX9_tree_33 0 rfl rfl ?_
        refine g_get (v := .ref (ad 14)) B shM_o (by decide) in_X9_tree_X9 rfl 24 (by decide) (List.mem_of_getElem? (i := 3) rfl) rfl rfl dX9_tree_34 ?_
        refine g_iload_n B dX9_tree_37 2 rfl rfl ?_
        refine g_iload_n B dX9_tree_38 2 rfl rfl ?_
        refine g_iast B shM_a14 (by decide) dX9_tree_39 (g_lmM (fun M5 => ?_))
        refine g_iinc B dX9_tree_40 2 (v := v2 + (1 : Int32)) rfl rfl (by decide) (lv1 := [(2, .int (v2 + (1 : Int32))), (0, .ref (ad 0)), (1, .int v1)]) rfl ?_
        refine g_goto (tgt := 25) B dX9_tree_43 (by decide) ?_
        exact g_lv [1, 2, 0] rfl (ih _ _)
  have hL58 : ∀ (v1 : Int32)  (k58_75 : Mem → Option (Int32 × Mem))  (hk58_75 : ∀  (M1 : Mem), GG p l e (headSpec wsX9_tree rm_X9_tree).room s m args below meth c D ad (shM ad cA) 25 3 (MQ below (QI D ad (shM ad cA) 25 s.heap.size R0) args s 0 0 (AX ad 25 s.heap.size)) R0 M1 75 [(0, .ref (ad 0)), (1, .int v1)] [] (k58_75  M1)), ∀ (f : Nat) (v2 : Int32) (M : Mem), GG p l e (headSpec wsX9_tree rm_X9_tree).room s m args below meth c D ad (shM ad cA) 25 3 (MQ below (QI D ad (shM ad cA) 25 s.heap.size R0) args s 0 0 (AX ad 25 s.heap.size)) R0 M 58 [(0, .ref (ad 0)), (1, .int v1), (2, .int v2)] [] (dX9_tree_58l v1  k58_75 f v2 M) := by
    intro v1 k58_75 hk58_75
    intro f
    induction f with
    | zero =>
      intro v2 M
      exact g_none
    | succ f ih =>
      intro v2 M
      rw [dX9_tree_58l]
      refine g_iload_n B dX9_tree_58 2 rfl rfl ?_
      refine g_bipush (v := 10) B dX9_tree_59 (by decide) ?_
      refine g_icmp_ge (tgt := 75) B dX9_tree_61 (by decide) (fun c9 => ?_) (fun c9 => ?_)
      · exact g_lv [0, 1] rfl (hk58_75  _)
      · refine g_aload_n B dX9_tree_64 0 rfl rfl ?_
        refine g_iload_n B dX9_tree_65 2 rfl rfl ?_
        refine g_callVVe (q := (RX9, TX9, 39)) (As := [.int v2]) (st := []) B (k_X9_joinsAll l D cA ad B.2.2.2.2.2.2.1 v2 M) (cwV 1 B.2.2.2.2.1 gX9_tree_X9_joinsAll rfl rfl rfl (by decide +kernel) ⟨Nat.le_of_ble_eq_true rfl, Nat.le_of_ble_eq_true rfl⟩) shM_o (by decide) rfl rfl rfl (Nat.le_of_ble_eq_true rfl) dX9_tree_66 (fun M10 _ => ?_)
        refine g_iinc B dX9_tree_69 2 (v := v2 + (1 : Int32)) rfl rfl (by decide) (lv1 := [(2, .int (v2 + (1 : Int32))), (0, .ref (ad 0)), (1, .int v1)]) rfl ?_
        refine g_goto (tgt := 58) B dX9_tree_72 (by decide) ?_
        exact g_lv [1, 2, 0] rfl (ih _ _)
  unfold d_X9_tree
  show GG p l e (headSpec wsX9_tree rm_X9_tree).room s m args below meth c D ad (shM ad cA) 25 3 (MQ below (QI D ad (shM ad cA) 25 s.heap.size R0) args s 0 0 (AX ad 25 s.heap.size)) R0 M 0 [(0, .ref (ad 0)), (1, .int v1)] [] _
  refine g_aload_n B dX9_tree_0 0 rfl rfl ?_
  refine g_get (v := .int (M 0 2)) B shM_o (by decide) in_X9_tree_X9 rfl 2 (by decide) (List.mem_of_getElem? (i := 1) rfl) rfl rfl dX9_tree_1 ?_
  refine g_if_ne (tgt := 10) B dX9_tree_4 (by decide) (fun c1 => ?_) (fun c1 => ?_)
  · refine g_bipush (v := -3) B dX9_tree_7 (by decide) ?_
    exact g_iret B hr hk dX9_tree_9
  · refine g_iload_n B dX9_tree_10 1 rfl rfl ?_
    refine g_i2l B dX9_tree_11 ?_
    refine g_lconst (v := 0) B dX9_tree_12 (by decide) ?_
    refine g_lconst (v := 1) B dX9_tree_13 (by decide) ?_
    refine g_callSIp (As := [.long v1.toInt64, .long (0 : Int64), .long (1 : Int64)]) (st := []) B (k_X9_in l D cA ad B.2.2.2.2.2.2.1 v1.toInt64 (0 : Int64) (1 : Int64) M) (va_cwS 3 B.2.2.2.2.1 gX9_tree_X9_in rfl rfl rfl (by decide +kernel) ⟨Nat.le_of_ble_eq_true rfl, Nat.le_of_ble_eq_true rfl⟩) rfl rfl (Nat.le_of_ble_eq_true rfl) dX9_tree_14 (fun r2 _ => ?_)
    refine g_if_ne (tgt := 23) B dX9_tree_17 (by decide) (fun c3 => ?_) (fun c3 => ?_)
    · refine g_bipush (v := -2) B dX9_tree_20 (by decide) ?_
      exact g_iret B hr hk dX9_tree_22
    · refine g_iconst (v := 0) B dX9_tree_23 (by decide) ?_
      refine g_istore_n B dX9_tree_24 rfl (by decide) (lv1 := [(2, .int (0 : Int32)), (0, .ref (ad 0)), (1, .int v1)]) rfl ?_
      refine g_lv [1, 2, 0] rfl (hL25 _ _  ?_ FU _ _)
      · intro M6
        refine g_aload_n B dX9_tree_46 0 rfl rfl ?_
        refine g_iconst (v := 0) B dX9_tree_47 (by decide) ?_
        refine g_put (ty := .int) B shM_o (by decide) in_X9_tree_X9 tyX9_ok nmX9 rfl 25 (by decide) (List.mem_of_getElem? (i := 4) rfl) rfl rfl (by decide +kernel) rfl rfl (fun _ => Nat.le_of_ble_eq_true rfl) (fun _ _ => rfl) dX9_tree_48 (g_lmM (fun M7 => ?_))
        refine g_aload_n B dX9_tree_51 0 rfl rfl ?_
        refine g_iconst (v := 0) B dX9_tree_52 (by decide) ?_
        refine g_put (ty := .int) B shM_o (by decide) in_X9_tree_X9 tyX9_ok nmX9 rfl 26 (by decide) (List.mem_of_getElem? (i := 5) rfl) rfl rfl (by decide +kernel) rfl rfl (fun _ => Nat.le_of_ble_eq_true rfl) (fun _ _ => rfl) dX9_tree_53 (g_lmM (fun M8 => ?_))
        refine g_iconst (v := 1) B dX9_tree_56 (by decide) ?_
        refine g_istore_n B dX9_tree_57 rfl (by decide) (lv1 := [(2, .int (1 : Int32)), (0, .ref (ad 0)), (1, .int v1)]) rfl ?_
        refine g_lv [1, 2, 0] rfl (hL58 _ _  ?_ FU _ _)
        · intro M11
          refine g_aload_n B dX9_tree_75 0 rfl rfl ?_
          refine g_get (v := .int (M11 0 25)) B shM_o (by decide) in_X9_tree_X9 rfl 25 (by decide) (List.mem_of_getElem? (i := 4) rfl) rfl rfl dX9_tree_76 ?_
          refine g_callSIp (As := [.int (M11 0 25)]) (st := []) B (k_X9_bits l D cA ad B.2.2.2.2.2.2.1 (M11 0 25) M11) (va_cwS 1 B.2.2.2.2.1 gX9_tree_X9_bits rfl rfl rfl (by decide +kernel) ⟨Nat.le_of_ble_eq_true rfl, Nat.le_of_ble_eq_true rfl⟩) rfl rfl (Nat.le_of_ble_eq_true rfl) dX9_tree_79 (fun r12 _ => ?_)
          refine g_aload_n B dX9_tree_82 0 rfl rfl ?_
          refine g_get (v := .int (M11 0 1)) B shM_o (by decide) in_X9_tree_X9 rfl 1 (by decide) (List.mem_of_getElem? (i := 2) rfl) rfl rfl dX9_tree_83 ?_
          refine g_iconst (v := 1) B dX9_tree_86 (by decide) ?_
          refine g_isub B dX9_tree_87 ?_
          refine g_icmp_ge (tgt := 96) B dX9_tree_88 (by decide) (fun c13 => ?_) (fun c13 => ?_)
          · refine g_iload_n B dX9_tree_96 1 rfl rfl ?_
            refine g_if_ne (tgt := 107) B dX9_tree_97 (by decide) (fun c14 => ?_) (fun c14 => ?_)
            · refine g_aload_n B dX9_tree_100 0 rfl rfl ?_
              refine g_get (v := .int (M11 0 26)) B shM_o (by decide) in_X9_tree_X9 rfl 26 (by decide) (List.mem_of_getElem? (i := 5) rfl) rfl rfl dX9_tree_101 ?_
              refine g_goto (tgt := 111) B dX9_tree_104 (by decide) ?_
              exact g_iret B hr hk dX9_tree_111
            · refine g_aload_n B dX9_tree_107 0 rfl rfl ?_
              refine g_get (v := .int (M11 0 25)) B shM_o (by decide) in_X9_tree_X9 rfl 25 (by decide) (List.mem_of_getElem? (i := 4) rfl) rfl rfl dX9_tree_108 ?_
              exact g_iret B hr hk dX9_tree_111
          · refine g_bipush (v := -9) B dX9_tree_91 (by decide) ?_
            refine g_goto (tgt := 111) B dX9_tree_93 (by decide) ?_
            exact g_iret B hr hk dX9_tree_111

abbrev rm_X9_sortsCorners : Room := { frames := 0, cells := 0, slots := 0, locals := 0 }
set_option maxHeartbeats 4000000 in
set_option maxRecDepth 100000 in
theorem k_X9_sortsCorners (l : Launch) (D : va_G) (cA : Nat → ClassId) (ad : Nat → Nat) (had : adOK ad 25)  (M : Mem) : CV l yX9_sortsCorners wsX9_sortsCorners rm_X9_sortsCorners D cA ad (shM ad cA) 25 [.ref (ad 0)] M (d_X9_sortsCorners  M) := by
  refine CV_of (own := RX9) (cc := cX9_sortsCorners) (maxL := 4) had (by decide) rfl rfl (Nat.le_of_ble_eq_true rfl) ?_
  intro p e s m args below meth c R0 B hr hk
  have hL14 : ∀ (v2 : Int32)  (k14_55 : Int32 → Mem → Option Mem)  (hk14_55 : ∀ (w1 : Int32) (M1 : Mem), GG p l e (headSpec wsX9_sortsCorners rm_X9_sortsCorners).room s m args below meth c D ad (shM ad cA) 25 4 (MQ below (QV D ad (shM ad cA) 25 s.heap.size R0) args s 0 0 (AX ad 25 s.heap.size)) R0 M1 55 [(0, .ref (ad 0)), (1, .int w1), (2, .int v2)] [] (k14_55 w1 M1)), ∀ (f : Nat) (v1 : Int32) (v3 : Int32) (M : Mem), GG p l e (headSpec wsX9_sortsCorners rm_X9_sortsCorners).room s m args below meth c D ad (shM ad cA) 25 4 (MQ below (QV D ad (shM ad cA) 25 s.heap.size R0) args s 0 0 (AX ad 25 s.heap.size)) R0 M 14 [(0, .ref (ad 0)), (1, .int v1), (2, .int v2), (3, .int v3)] [] (dX9_sortsCorners_14l v2  k14_55 f v1 v3 M) := by
    intro v2 k14_55 hk14_55
    intro f
    induction f with
    | zero =>
      intro v1 v3 M
      exact g_none
    | succ f ih =>
      intro v1 v3 M
      rw [dX9_sortsCorners_14l]
      refine g_iload_n B dX9_sortsCorners_14 3 rfl rfl ?_
      refine g_aload_n B dX9_sortsCorners_15 0 rfl rfl ?_
      refine g_get (v := .int (M 0 2)) B shM_o (by decide) in_X9_sortsCorners_X9 rfl 2 (by decide) (List.mem_of_getElem? (i := 2) rfl) rfl rfl dX9_sortsCorners_16 ?_
      refine g_icmp_ge (tgt := 55) B dX9_sortsCorners_19 (by decide) (fun c2 => ?_) (fun c2 => ?_)
      · exact g_lv [0, 1, 2] rfl (hk14_55 _ _)
      · refine g_aload_n B dX9_sortsCorners_22 0 rfl rfl ?_
        refine g_get (v := .ref (ad 5)) B shM_o (by decide) in_X9_sortsCorners_X9 rfl 9 (by decide) (List.mem_of_getElem? (i := 3) rfl) rfl rfl dX9_sortsCorners_23 ?_
        refine g_iload_n B dX9_sortsCorners_26 3 rfl rfl ?_
        refine g_iald B shM_a5 (by decide) dX9_sortsCorners_27 ?_
        refine g_iload_n B dX9_sortsCorners_28 2 rfl rfl ?_
        refine g_icmp_ne (tgt := 49) B dX9_sortsCorners_29 (by decide) (fun c3 => ?_) (fun c3 => ?_)
        · refine g_aload_n B dX9_sortsCorners_32 0 rfl rfl ?_
          refine g_get (v := .ref (ad 15)) B shM_o (by decide) in_X9_sortsCorners_X9 rfl 27 (by decide) (List.mem_of_getElem? (i := 4) rfl) rfl rfl dX9_sortsCorners_33 ?_
          refine g_iload_n B dX9_sortsCorners_36 1 rfl rfl ?_
          refine g_iload_n B dX9_sortsCorners_37 2 rfl rfl ?_
          refine g_iast B shM_a15 (by decide) dX9_sortsCorners_38 (g_lmM (fun M4 => ?_))
          refine g_aload_n B dX9_sortsCorners_39 0 rfl rfl ?_
          refine g_get (v := .ref (ad 16)) B shM_o (by decide) in_X9_sortsCorners_X9 rfl 28 (by decide) (List.mem_of_getElem? (i := 5) rfl) rfl rfl dX9_sortsCorners_40 ?_
          refine g_iload_n B dX9_sortsCorners_43 1 rfl rfl ?_
          refine g_iload_n B dX9_sortsCorners_44 1 rfl rfl ?_
          refine g_iast B shM_a16 (by decide) dX9_sortsCorners_45 (g_lmM (fun M5 => ?_))
          refine g_iinc B dX9_sortsCorners_46 1 (v := v1 + (1 : Int32)) rfl rfl (by decide) (lv1 := [(1, .int (v1 + (1 : Int32))), (0, .ref (ad 0)), (2, .int v2), (3, .int v3)]) rfl ?_
          refine g_iinc B dX9_sortsCorners_49 3 (v := v3 + (1 : Int32)) rfl rfl (by decide) (lv1 := [(3, .int (v3 + (1 : Int32))), (1, .int (v1 + (1 : Int32))), (0, .ref (ad 0)), (2, .int v2)]) rfl ?_
          refine g_goto (tgt := 14) B dX9_sortsCorners_52 (by decide) ?_
          exact g_lv [2, 1, 3, 0] rfl (ih _ _ _)
        · refine g_iinc B dX9_sortsCorners_49 3 (v := v3 + (1 : Int32)) rfl rfl (by decide) (lv1 := [(3, .int (v3 + (1 : Int32))), (0, .ref (ad 0)), (1, .int v1), (2, .int v2)]) rfl ?_
          refine g_goto (tgt := 14) B dX9_sortsCorners_52 (by decide) ?_
          exact g_lv [1, 2, 3, 0] rfl (ih _ _ _)
  have hL4 : ∀ (f : Nat) (v1 : Int32) (v2 : Int32) (M : Mem), GG p l e (headSpec wsX9_sortsCorners rm_X9_sortsCorners).room s m args below meth c D ad (shM ad cA) 25 4 (MQ below (QV D ad (shM ad cA) 25 s.heap.size R0) args s 0 0 (AX ad 25 s.heap.size)) R0 M 4 [(0, .ref (ad 0)), (1, .int v1), (2, .int v2)] [] (dX9_sortsCorners_4l    f v1 v2 M) := by
    intro f
    induction f with
    | zero =>
      intro v1 v2 M
      exact g_none
    | succ f ih =>
      intro v1 v2 M
      rw [dX9_sortsCorners_4l]
      refine g_iload_n B dX9_sortsCorners_4 2 rfl rfl ?_
      refine g_aload_n B dX9_sortsCorners_5 0 rfl rfl ?_
      refine g_get (v := .int (M 0 1)) B shM_o (by decide) in_X9_sortsCorners_X9 rfl 1 (by decide) (List.mem_of_getElem? (i := 1) rfl) rfl rfl dX9_sortsCorners_6 ?_
      refine g_icmp_ge (tgt := 61) B dX9_sortsCorners_9 (by decide) (fun c1 => ?_) (fun c1 => ?_)
      · exact g_vret B hr hk dX9_sortsCorners_61
      · refine g_iconst (v := 0) B dX9_sortsCorners_12 (by decide) ?_
        refine g_istore_n B dX9_sortsCorners_13 rfl (by decide) (lv1 := [(3, .int (0 : Int32)), (0, .ref (ad 0)), (1, .int v1), (2, .int v2)]) rfl ?_
        refine g_lv [1, 2, 3, 0] rfl (hL14 _ _  ?_ FU _ _ _)
        · intro w6 M7
          refine g_iinc B dX9_sortsCorners_55 2 (v := v2 + (1 : Int32)) rfl rfl (by decide) (lv1 := [(2, .int (v2 + (1 : Int32))), (0, .ref (ad 0)), (1, .int w6)]) rfl ?_
          refine g_goto (tgt := 4) B dX9_sortsCorners_58 (by decide) ?_
          exact g_lv [1, 2, 0] rfl (ih _ _ _)
  unfold d_X9_sortsCorners
  show GG p l e (headSpec wsX9_sortsCorners rm_X9_sortsCorners).room s m args below meth c D ad (shM ad cA) 25 4 (MQ below (QV D ad (shM ad cA) 25 s.heap.size R0) args s 0 0 (AX ad 25 s.heap.size)) R0 M 0 [(0, .ref (ad 0))] [] _
  refine g_iconst (v := 0) B dX9_sortsCorners_0 (by decide) ?_
  refine g_istore_n B dX9_sortsCorners_1 rfl (by decide) (lv1 := [(1, .int (0 : Int32)), (0, .ref (ad 0))]) rfl ?_
  refine g_iconst (v := 0) B dX9_sortsCorners_2 (by decide) ?_
  refine g_istore_n B dX9_sortsCorners_3 rfl (by decide) (lv1 := [(2, .int (0 : Int32)), (1, .int (0 : Int32)), (0, .ref (ad 0))]) rfl ?_
  refine g_lv [2, 1, 0] rfl (hL4    FU _ _ _)

abbrev rm_X9_exchange : Room := { frames := 0, cells := 0, slots := 0, locals := 0 }
set_option maxHeartbeats 4000000 in
set_option maxRecDepth 100000 in
theorem k_X9_exchange (l : Launch) (D : va_G) (cA : Nat → ClassId) (ad : Nat → Nat) (had : adOK ad 25) (v1 : Int32) (v2 : Int32) (M : Mem) : CV l yX9_exchange wsX9_exchange rm_X9_exchange D cA ad (shM ad cA) 25 [.ref (ad 0), .int v1, .int v2] M (d_X9_exchange v1 v2 M) := by
  refine CV_of (own := RX9) (cc := cX9_exchange) (maxL := 4) had (by decide) rfl rfl (Nat.le_of_ble_eq_true rfl) ?_
  intro p e s m args below meth c R0 B hr hk
  unfold d_X9_exchange
  show GG p l e (headSpec wsX9_exchange rm_X9_exchange).room s m args below meth c D ad (shM ad cA) 25 4 (MQ below (QV D ad (shM ad cA) 25 s.heap.size R0) args s 0 0 (AX ad 25 s.heap.size)) R0 M 0 [(0, .ref (ad 0)), (1, .int v1), (2, .int v2)] [] _
  refine g_aload_n B dX9_exchange_0 0 rfl rfl ?_
  refine g_get (v := .ref (ad 16)) B shM_o (by decide) in_X9_exchange_X9 rfl 28 (by decide) (List.mem_of_getElem? (i := 1) rfl) rfl rfl dX9_exchange_1 ?_
  refine g_iload_n B dX9_exchange_4 1 rfl rfl ?_
  refine g_iald B shM_a16 (by decide) dX9_exchange_5 ?_
  refine g_lmI (fun x1 => ?_)
  refine g_istore_n B dX9_exchange_6 rfl (by decide) (lv1 := [(3, .int x1), (0, .ref (ad 0)), (1, .int v1), (2, .int v2)]) rfl ?_
  refine g_aload_n B dX9_exchange_7 1 rfl rfl ?_
  refine g_get (v := .ref (ad 16)) B shM_o (by decide) in_X9_exchange_X9 rfl 28 (by decide) (List.mem_of_getElem? (i := 1) rfl) rfl rfl dX9_exchange_8 ?_
  refine g_iload_n B dX9_exchange_11 2 rfl rfl ?_
  refine g_aload_n B dX9_exchange_12 1 rfl rfl ?_
  refine g_get (v := .ref (ad 16)) B shM_o (by decide) in_X9_exchange_X9 rfl 28 (by decide) (List.mem_of_getElem? (i := 1) rfl) rfl rfl dX9_exchange_13 ?_
  refine g_iload_n B dX9_exchange_16 3 rfl rfl ?_
  refine g_iald B shM_a16 (by decide) dX9_exchange_17 ?_
  refine g_iast B shM_a16 (by decide) dX9_exchange_18 (g_lmM (fun M2 => ?_))
  refine g_aload_n B dX9_exchange_19 1 rfl rfl ?_
  refine g_get (v := .ref (ad 16)) B shM_o (by decide) in_X9_exchange_X9 rfl 28 (by decide) (List.mem_of_getElem? (i := 1) rfl) rfl rfl dX9_exchange_20 ?_
  refine g_iload_n B dX9_exchange_23 3 rfl rfl ?_
  refine g_iload_n B dX9_exchange_24 0 rfl rfl ?_
  refine g_iast B shM_a16 (by decide) dX9_exchange_25 (g_lmM (fun M3 => ?_))
  exact g_vret B hr hk dX9_exchange_26

abbrev rm_X9_nextRow : Room := { frames := 1, cells := 0, slots := 0, locals := 23 }
set_option maxHeartbeats 4000000 in
set_option maxRecDepth 100000 in
theorem k_X9_nextRow (l : Launch) (D : va_G) (cA : Nat → ClassId) (ad : Nat → Nat) (had : adOK ad 25)  (M : Mem) : CI l yX9_nextRow wsX9_nextRow rm_X9_nextRow D cA ad (shM ad cA) 25 [.ref (ad 0)] M (d_X9_nextRow  M) := by
  refine CI_of (own := RX9) (cc := cX9_nextRow) (maxL := 5) (rt := .boolean) had (by decide) rfl rfl (Nat.le_of_ble_eq_true rfl) ?_
  intro p e s m args below meth c R0 B hr hk
  have hL7 : ∀  (M : Mem) (k7_34 : Int32 → Option (Int32 × Mem))  (hk7_34 : ∀ (w1 : Int32), GG p l e (headSpec wsX9_nextRow rm_X9_nextRow).room s m args below meth c D ad (shM ad cA) 25 5 (MQ below (QI D ad (shM ad cA) 25 s.heap.size R0) args s 0 0 (AX ad 25 s.heap.size)) R0 M 34 [(0, .ref (ad 0)), (1, .int w1)] [] (k7_34 w1)), ∀ (f : Nat) (v1 : Int32), GG p l e (headSpec wsX9_nextRow rm_X9_nextRow).room s m args below meth c D ad (shM ad cA) 25 5 (MQ below (QI D ad (shM ad cA) 25 s.heap.size R0) args s 0 0 (AX ad 25 s.heap.size)) R0 M 7 [(0, .ref (ad 0)), (1, .int v1)] [] (dX9_nextRow_7l  M k7_34 f v1 ) := by
    intro M k7_34 hk7_34
    intro f
    induction f with
    | zero =>
      intro v1
      exact g_none
    | succ f ih =>
      intro v1
      rw [dX9_nextRow_7l]
      refine g_iload_n B dX9_nextRow_7 1 rfl rfl ?_
      refine g_if_lt (tgt := 34) B dX9_nextRow_8 (by decide) (fun c2 => ?_) (fun c2 => ?_)
      · exact g_lv [0, 1] rfl (hk7_34 _)
      · refine g_aload_n B dX9_nextRow_11 0 rfl rfl ?_
        refine g_get (v := .ref (ad 16)) B shM_o (by decide) in_X9_nextRow_X9 rfl 28 (by decide) (List.mem_of_getElem? (i := 2) rfl) rfl rfl dX9_nextRow_12 ?_
        refine g_iload_n B dX9_nextRow_15 1 rfl rfl ?_
        refine g_iald B shM_a16 (by decide) dX9_nextRow_16 ?_
        refine g_aload_n B dX9_nextRow_17 0 rfl rfl ?_
        refine g_get (v := .ref (ad 16)) B shM_o (by decide) in_X9_nextRow_X9 rfl 28 (by decide) (List.mem_of_getElem? (i := 2) rfl) rfl rfl dX9_nextRow_18 ?_
        refine g_iload_n B dX9_nextRow_21 1 rfl rfl ?_
        refine g_iconst (v := 1) B dX9_nextRow_22 (by decide) ?_
        refine g_iadd B dX9_nextRow_23 ?_
        refine g_iald B shM_a16 (by decide) dX9_nextRow_24 ?_
        refine g_icmp_le (tgt := 34) B dX9_nextRow_25 (by decide) (fun c3 => ?_) (fun c3 => ?_)
        · exact g_lv [0, 1] rfl (hk7_34 _)
        · refine g_iinc B dX9_nextRow_28 1 (v := v1 + (-1 : Int32)) rfl rfl (by decide) (lv1 := [(1, .int (v1 + (-1 : Int32))), (0, .ref (ad 0))]) rfl ?_
          refine g_goto (tgt := 7) B dX9_nextRow_31 (by decide) ?_
          exact g_lv [1, 0] rfl (ih _)
  have hL47 : ∀ (v1 : Int32) (M : Mem) (k47_68 : Int32 → Option (Int32 × Mem))  (hk47_68 : ∀ (w2 : Int32), GG p l e (headSpec wsX9_nextRow rm_X9_nextRow).room s m args below meth c D ad (shM ad cA) 25 5 (MQ below (QI D ad (shM ad cA) 25 s.heap.size R0) args s 0 0 (AX ad 25 s.heap.size)) R0 M 68 [(0, .ref (ad 0)), (1, .int v1), (2, .int w2)] [] (k47_68 w2)), ∀ (f : Nat) (v2 : Int32), GG p l e (headSpec wsX9_nextRow rm_X9_nextRow).room s m args below meth c D ad (shM ad cA) 25 5 (MQ below (QI D ad (shM ad cA) 25 s.heap.size R0) args s 0 0 (AX ad 25 s.heap.size)) R0 M 47 [(0, .ref (ad 0)), (1, .int v1), (2, .int v2)] [] (dX9_nextRow_47l v1 M k47_68 f v2 ) := by
    intro v1 M k47_68 hk47_68
    intro f
    induction f with
    | zero =>
      intro v2
      exact g_none
    | succ f ih =>
      intro v2
      rw [dX9_nextRow_47l]
      refine g_aload_n B dX9_nextRow_47 0 rfl rfl ?_
      refine g_get (v := .ref (ad 16)) B shM_o (by decide) in_X9_nextRow_X9 rfl 28 (by decide) (List.mem_of_getElem? (i := 2) rfl) rfl rfl dX9_nextRow_48 ?_
      refine g_iload_n B dX9_nextRow_51 2 rfl rfl ?_
      refine g_iald B shM_a16 (by decide) dX9_nextRow_52 ?_
      refine g_aload_n B dX9_nextRow_53 0 rfl rfl ?_
      refine g_get (v := .ref (ad 16)) B shM_o (by decide) in_X9_nextRow_X9 rfl 28 (by decide) (List.mem_of_getElem? (i := 2) rfl) rfl rfl dX9_nextRow_54 ?_
      refine g_iload_n B dX9_nextRow_57 1 rfl rfl ?_
      refine g_iald B shM_a16 (by decide) dX9_nextRow_58 ?_
      refine g_icmp_ge (tgt := 68) B dX9_nextRow_59 (by decide) (fun c7 => ?_) (fun c7 => ?_)
      · exact g_lv [0, 1, 2] rfl (hk47_68 _)
      · refine g_iinc B dX9_nextRow_62 2 (v := v2 + (-1 : Int32)) rfl rfl (by decide) (lv1 := [(2, .int (v2 + (-1 : Int32))), (0, .ref (ad 0)), (1, .int v1)]) rfl ?_
        refine g_goto (tgt := 47) B dX9_nextRow_65 (by decide) ?_
        exact g_lv [1, 2, 0] rfl (ih _)
  have hL86 : ∀ (f : Nat) (v3 : Int32) (v4 : Int32) (M : Mem), GG p l e (headSpec wsX9_nextRow rm_X9_nextRow).room s m args below meth c D ad (shM ad cA) 25 5 (MQ below (QI D ad (shM ad cA) 25 s.heap.size R0) args s 0 0 (AX ad 25 s.heap.size)) R0 M 86 [(0, .ref (ad 0)), (3, .int v3), (4, .int v4)] [] (dX9_nextRow_86l    f v3 v4 M) := by
    intro f
    induction f with
    | zero =>
      intro v3 v4 M
      exact g_none
    | succ f ih =>
      intro v3 v4 M
      rw [dX9_nextRow_86l]
      refine g_iload B dX9_nextRow_86 2 rfl ?_
      refine g_iload_n B dX9_nextRow_88 1 rfl rfl ?_
      refine g_icmp_le (tgt := 108) B dX9_nextRow_89 (by decide) (fun c12 => ?_) (fun c12 => ?_)
      · refine g_iconst (v := 1) B dX9_nextRow_108 (by decide) ?_
        exact g_zret B hr hk rfl dX9_nextRow_109
      · refine g_aload_n B dX9_nextRow_92 0 rfl rfl ?_
        refine g_iload_n B dX9_nextRow_93 1 rfl rfl ?_
        refine g_iload B dX9_nextRow_94 2 rfl ?_
        refine g_callVVe (q := (RX9, TX9, 39)) (As := [.int v3, .int v4]) (st := []) B (k_X9_exchange l D cA ad B.2.2.2.2.2.2.1 v3 v4 M) (cwV 2 B.2.2.2.2.1 gX9_nextRow_X9_exchange rfl rfl rfl (by decide +kernel) ⟨Nat.le_of_ble_eq_true rfl, Nat.le_of_ble_eq_true rfl⟩) shM_o (by decide) rfl rfl rfl (Nat.le_of_ble_eq_true rfl) dX9_nextRow_96 (fun M13 _ => ?_)
        refine g_iinc B dX9_nextRow_99 1 (v := v3 + (1 : Int32)) rfl rfl (by decide) (lv1 := [(3, .int (v3 + (1 : Int32))), (0, .ref (ad 0)), (4, .int v4)]) rfl ?_
        refine g_iinc B dX9_nextRow_102 2 (v := v4 + (-1 : Int32)) rfl rfl (by decide) (lv1 := [(4, .int (v4 + (-1 : Int32))), (3, .int (v3 + (1 : Int32))), (0, .ref (ad 0))]) rfl ?_
        refine g_goto (tgt := 86) B dX9_nextRow_105 (by decide) ?_
        exact g_lv [2, 1, 0] rfl (ih _ _ _)
  unfold d_X9_nextRow
  show GG p l e (headSpec wsX9_nextRow rm_X9_nextRow).room s m args below meth c D ad (shM ad cA) 25 5 (MQ below (QI D ad (shM ad cA) 25 s.heap.size R0) args s 0 0 (AX ad 25 s.heap.size)) R0 M 0 [(0, .ref (ad 0))] [] _
  refine g_aload_n B dX9_nextRow_0 0 rfl rfl ?_
  refine g_get (v := .int (M 0 2)) B shM_o (by decide) in_X9_nextRow_X9 rfl 2 (by decide) (List.mem_of_getElem? (i := 1) rfl) rfl rfl dX9_nextRow_1 ?_
  refine g_iconst (v := 2) B dX9_nextRow_4 (by decide) ?_
  refine g_isub B dX9_nextRow_5 ?_
  refine g_lmI (fun x1 => ?_)
  refine g_istore_n B dX9_nextRow_6 rfl (by decide) (lv1 := [(1, .int x1), (0, .ref (ad 0))]) rfl ?_
  refine g_lv [1, 0] rfl (hL7 _ _  ?_ FU _)
  · intro w4
    refine g_iload_n B dX9_nextRow_34 1 rfl rfl ?_
    refine g_if_ge (tgt := 40) B dX9_nextRow_35 (by decide) (fun c5 => ?_) (fun c5 => ?_)
    · refine g_aload_n B dX9_nextRow_40 0 rfl rfl ?_
      refine g_get (v := .int (M 0 2)) B shM_o (by decide) in_X9_nextRow_X9 rfl 2 (by decide) (List.mem_of_getElem? (i := 1) rfl) rfl rfl dX9_nextRow_41 ?_
      refine g_iconst (v := 1) B dX9_nextRow_44 (by decide) ?_
      refine g_isub B dX9_nextRow_45 ?_
      refine g_lmI (fun x6 => ?_)
      refine g_istore_n B dX9_nextRow_46 rfl (by decide) (lv1 := [(2, .int x6), (0, .ref (ad 0)), (1, .int w4)]) rfl ?_
      refine g_lv [1, 2, 0] rfl (hL47 _ _ _  ?_ FU _)
      · intro w8
        refine g_aload_n B dX9_nextRow_68 0 rfl rfl ?_
        refine g_iload_n B dX9_nextRow_69 1 rfl rfl ?_
        refine g_iload_n B dX9_nextRow_70 2 rfl rfl ?_
        refine g_callVVe (q := (RX9, TX9, 39)) (As := [.int w4, .int w8]) (st := []) B (k_X9_exchange l D cA ad B.2.2.2.2.2.2.1 w4 w8 M) (cwV 2 B.2.2.2.2.1 gX9_nextRow_X9_exchange rfl rfl rfl (by decide +kernel) ⟨Nat.le_of_ble_eq_true rfl, Nat.le_of_ble_eq_true rfl⟩) shM_o (by decide) rfl rfl rfl (Nat.le_of_ble_eq_true rfl) dX9_nextRow_71 (fun M9 _ => ?_)
        refine g_iload_n B dX9_nextRow_74 1 rfl rfl ?_
        refine g_iconst (v := 1) B dX9_nextRow_75 (by decide) ?_
        refine g_iadd B dX9_nextRow_76 ?_
        refine g_lmI (fun x10 => ?_)
        refine g_istore_n B dX9_nextRow_77 rfl (by decide) (lv1 := [(3, .int x10), (0, .ref (ad 0)), (1, .int w4), (2, .int w8)]) rfl ?_
        refine g_aload_n B dX9_nextRow_78 1 rfl rfl ?_
        refine g_get (v := .int (M9 0 2)) B shM_o (by decide) in_X9_nextRow_X9 rfl 2 (by decide) (List.mem_of_getElem? (i := 1) rfl) rfl rfl dX9_nextRow_79 ?_
        refine g_iconst (v := 1) B dX9_nextRow_82 (by decide) ?_
        refine g_isub B dX9_nextRow_83 ?_
        refine g_lmI (fun x11 => ?_)
        refine g_istore B dX9_nextRow_84 (by decide) (lv1 := [(4, .int x11), (3, .int x10), (0, .ref (ad 0)), (1, .int w4), (2, .int w8)]) rfl ?_
        refine g_lv [2, 1, 0] rfl (hL86    FU _ _ _)
    · refine g_iconst (v := 0) B dX9_nextRow_38 (by decide) ?_
      exact g_zret B hr hk rfl dX9_nextRow_39

abbrev rm_X9_lastOne : Room := { frames := 1, cells := 0, slots := 0, locals := 22 }
set_option maxHeartbeats 4000000 in
set_option maxRecDepth 100000 in
theorem k_X9_lastOne (l : Launch) (D : va_G) (cA : Nat → ClassId) (ad : Nat → Nat) (had : adOK ad 25)  (M : Mem) : CI l yX9_lastOne wsX9_lastOne rm_X9_lastOne D cA ad (shM ad cA) 25 [.ref (ad 0)] M (wM M (d_X9_lastOne  M)) := by
  refine CI_ofp (own := RX9) (cc := cX9_lastOne) (maxL := 5) (rt := .int) had (by decide) rfl rfl (Nat.le_of_ble_eq_true rfl) ?_
  intro p e s m args below meth c R0 B hr hk
  have hJ58 : ∀ (rec4 : Int32 → Int32 → Option Int32) (v1 : Int32) (v2 : Int32) (s0 : Int32)    (hrec4 : ∀ (w1 : Int32) (w2 : Int32), GG p l e (headSpec wsX9_lastOne rm_X9_lastOne).room s m args below meth c D ad (shM ad cA) 25 5 (MQ below (QI D ad (shM ad cA) 25 s.heap.size (R0, M)) args s 0 0 (AX ad 25 s.heap.size)) R0 M 4 [(0, .ref (ad 0)), (1, .int w1), (2, .int w2)] [] (rec4 w1 w2)), GG p l e (headSpec wsX9_lastOne rm_X9_lastOne).room s m args below meth c D ad (shM ad cA) 25 5 (MQ below (QI D ad (shM ad cA) 25 s.heap.size (R0, M)) args s 0 0 (AX ad 25 s.heap.size)) R0 M 58 [(0, .ref (ad 0)), (1, .int v1), (2, .int v2)] [.int s0] (dX9_lastOne_58j rec4 v1 v2 s0 M) := by
    intro rec4 v1 v2 s0 hrec4
    unfold dX9_lastOne_58j
    refine g_istore B dX9_lastOne_58 (by decide) (lv1 := [(4, .int s0), (0, .ref (ad 0)), (1, .int v1), (2, .int v2)]) rfl ?_
    refine g_iload_n B dX9_lastOne_60 2 rfl rfl ?_
    refine g_if_lt (tgt := 69) B dX9_lastOne_61 (by decide) (fun c6 => ?_) (fun c6 => ?_)
    · refine g_bipush (v := -9) B dX9_lastOne_69 (by decide) ?_
      refine g_goto (tgt := 86) B dX9_lastOne_71 (by decide) ?_
      refine g_istore_n B dX9_lastOne_86 rfl (by decide) (lv1 := [(1, .int (-9 : Int32)), (4, .int s0), (0, .ref (ad 0)), (2, .int v2)]) rfl ?_
      refine g_iinc B dX9_lastOne_87 3 (v := v2 + (1 : Int32)) rfl rfl (by decide) (lv1 := [(2, .int (v2 + (1 : Int32))), (1, .int (-9 : Int32)), (4, .int s0), (0, .ref (ad 0))]) rfl ?_
      refine g_goto (tgt := 4) B dX9_lastOne_90 (by decide) ?_
      exact g_lv [3, 1, 0] rfl (hrec4 _ _)
    · refine g_iload B dX9_lastOne_64 0 rfl ?_
      refine g_if_ge (tgt := 74) B dX9_lastOne_66 (by decide) (fun c7 => ?_) (fun c7 => ?_)
      · refine g_iload B dX9_lastOne_74 0 rfl ?_
        refine g_iload_n B dX9_lastOne_76 2 rfl rfl ?_
        refine g_icmp_le (tgt := 85) B dX9_lastOne_77 (by decide) (fun c8 => ?_) (fun c8 => ?_)
        · refine g_iload_n B dX9_lastOne_85 2 rfl rfl ?_
          refine g_istore_n B dX9_lastOne_86 rfl (by decide) (lv1 := [(1, .int v1), (4, .int s0), (0, .ref (ad 0)), (2, .int v2)]) rfl ?_
          refine g_iinc B dX9_lastOne_87 3 (v := v2 + (1 : Int32)) rfl rfl (by decide) (lv1 := [(2, .int (v2 + (1 : Int32))), (1, .int v1), (4, .int s0), (0, .ref (ad 0))]) rfl ?_
          refine g_goto (tgt := 4) B dX9_lastOne_90 (by decide) ?_
          exact g_lv [3, 1, 0] rfl (hrec4 _ _)
        · refine g_iload B dX9_lastOne_80 0 rfl ?_
          refine g_goto (tgt := 86) B dX9_lastOne_82 (by decide) ?_
          refine g_istore_n B dX9_lastOne_86 rfl (by decide) (lv1 := [(1, .int s0), (4, .int s0), (0, .ref (ad 0)), (2, .int v2)]) rfl ?_
          refine g_iinc B dX9_lastOne_87 3 (v := v2 + (1 : Int32)) rfl rfl (by decide) (lv1 := [(2, .int (v2 + (1 : Int32))), (1, .int s0), (4, .int s0), (0, .ref (ad 0))]) rfl ?_
          refine g_goto (tgt := 4) B dX9_lastOne_90 (by decide) ?_
          exact g_lv [3, 1, 0] rfl (hrec4 _ _)
      · refine g_bipush (v := -9) B dX9_lastOne_69 (by decide) ?_
        refine g_goto (tgt := 86) B dX9_lastOne_71 (by decide) ?_
        refine g_istore_n B dX9_lastOne_86 rfl (by decide) (lv1 := [(1, .int (-9 : Int32)), (4, .int s0), (0, .ref (ad 0)), (2, .int v2)]) rfl ?_
        refine g_iinc B dX9_lastOne_87 3 (v := v2 + (1 : Int32)) rfl rfl (by decide) (lv1 := [(2, .int (v2 + (1 : Int32))), (1, .int (-9 : Int32)), (4, .int s0), (0, .ref (ad 0))]) rfl ?_
        refine g_goto (tgt := 4) B dX9_lastOne_90 (by decide) ?_
        exact g_lv [3, 1, 0] rfl (hrec4 _ _)
  have hL4 : ∀ (f : Nat) (v1 : Int32) (v2 : Int32), GG p l e (headSpec wsX9_lastOne rm_X9_lastOne).room s m args below meth c D ad (shM ad cA) 25 5 (MQ below (QI D ad (shM ad cA) 25 s.heap.size (R0, M)) args s 0 0 (AX ad 25 s.heap.size)) R0 M 4 [(0, .ref (ad 0)), (1, .int v1), (2, .int v2)] [] (dX9_lastOne_4l  M  f v1 v2 ) := by
    intro f
    induction f with
    | zero =>
      intro v1 v2
      exact g_none
    | succ f ih =>
      intro v1 v2
      rw [dX9_lastOne_4l]
      refine g_iload_n B dX9_lastOne_4 2 rfl rfl ?_
      refine g_aload_n B dX9_lastOne_5 0 rfl rfl ?_
      refine g_get (v := .int (M 0 2)) B shM_o (by decide) in_X9_lastOne_X9 rfl 2 (by decide) (List.mem_of_getElem? (i := 1) rfl) rfl rfl dX9_lastOne_6 ?_
      refine g_icmp_ge (tgt := 93) B dX9_lastOne_9 (by decide) (fun c1 => ?_) (fun c1 => ?_)
      · refine g_iload_n B dX9_lastOne_93 1 rfl rfl ?_
        exact g_iretp B hr hk dX9_lastOne_94
      · refine g_aload_n B dX9_lastOne_12 0 rfl rfl ?_
        refine g_aload_n B dX9_lastOne_13 0 rfl rfl ?_
        refine g_get (v := .ref (ad 4)) B shM_o (by decide) in_X9_lastOne_X9 rfl 8 (by decide) (List.mem_of_getElem? (i := 2) rfl) rfl rfl dX9_lastOne_14 ?_
        refine g_iload_n B dX9_lastOne_17 2 rfl rfl ?_
        refine g_iald B shM_a4 (by decide) dX9_lastOne_18 ?_
        refine g_aload_n B dX9_lastOne_19 0 rfl rfl ?_
        refine g_get (v := .ref (ad 15)) B shM_o (by decide) in_X9_lastOne_X9 rfl 27 (by decide) (List.mem_of_getElem? (i := 3) rfl) rfl rfl dX9_lastOne_20 ?_
        refine g_aload_n B dX9_lastOne_23 0 rfl rfl ?_
        refine g_get (v := .ref (ad 16)) B shM_o (by decide) in_X9_lastOne_X9 rfl 28 (by decide) (List.mem_of_getElem? (i := 4) rfl) rfl rfl dX9_lastOne_24 ?_
        refine g_iload_n B dX9_lastOne_27 2 rfl rfl ?_
        refine g_iald B shM_a16 (by decide) dX9_lastOne_28 ?_
        refine g_iald B shM_a15 (by decide) dX9_lastOne_29 ?_
        refine g_callVIp (q := (RX9, TX9, 39)) (As := [.int (M 4 v2.toNatClampNeg), .int (M 15 (M 16 v2.toNatClampNeg).toNatClampNeg)]) (st := []) B (k_X9_farFrom l D cA ad B.2.2.2.2.2.2.1 (M 4 v2.toNatClampNeg) (M 15 (M 16 v2.toNatClampNeg).toNatClampNeg) M) (cwV 2 B.2.2.2.2.1 gX9_lastOne_X9_farFrom rfl rfl rfl (by decide +kernel) ⟨Nat.le_of_ble_eq_true rfl, Nat.le_of_ble_eq_true rfl⟩) shM_o (by decide) rfl rfl rfl (Nat.le_of_ble_eq_true rfl) dX9_lastOne_30 (fun r2 _ => ?_)
        refine g_istore_n B dX9_lastOne_33 rfl (by decide) (lv1 := [(3, .int r2), (0, .ref (ad 0)), (1, .int v1), (2, .int v2)]) rfl ?_
        refine g_iload_n B dX9_lastOne_34 0 rfl rfl ?_
        refine g_if_ge (tgt := 43) B dX9_lastOne_35 (by decide) (fun c3 => ?_) (fun c3 => ?_)
        · refine g_iload_n B dX9_lastOne_43 0 rfl rfl ?_
          refine g_aload_n B dX9_lastOne_44 1 rfl rfl ?_
          refine g_iload_n B dX9_lastOne_45 3 rfl rfl ?_
          refine g_callVIp (q := (RX9, TX9, 39)) (As := [.int v2]) (st := [.int r2]) B (k_X9_paceOf l D cA ad B.2.2.2.2.2.2.1 v2 M) (cwV 1 B.2.2.2.2.1 gX9_lastOne_X9_paceOf rfl rfl rfl (by decide +kernel) ⟨Nat.le_of_ble_eq_true rfl, Nat.le_of_ble_eq_true rfl⟩) shM_o (by decide) rfl rfl rfl (Nat.le_of_ble_eq_true rfl) dX9_lastOne_46 (fun r4 _ => ?_)
          refine g_iadd B dX9_lastOne_49 ?_
          refine g_iconst (v := 1) B dX9_lastOne_50 (by decide) ?_
          refine g_isub B dX9_lastOne_51 ?_
          refine g_aload_n B dX9_lastOne_52 1 rfl rfl ?_
          refine g_iload_n B dX9_lastOne_53 3 rfl rfl ?_
          refine g_callVIp (q := (RX9, TX9, 39)) (As := [.int v2]) (st := [.int ((r2 + r4) - (1 : Int32))]) B (k_X9_paceOf l D cA ad B.2.2.2.2.2.2.1 v2 M) (cwV 1 B.2.2.2.2.1 gX9_lastOne_X9_paceOf rfl rfl rfl (by decide +kernel) ⟨Nat.le_of_ble_eq_true rfl, Nat.le_of_ble_eq_true rfl⟩) shM_o (by decide) rfl rfl rfl (Nat.le_of_ble_eq_true rfl) dX9_lastOne_54 (fun r5 _ => ?_)
          refine g_idiv B dX9_lastOne_57 ?_
          exact g_lv [1, 2, 3] rfl (hJ58 _ _ _ _   ih)
        · refine g_bipush (v := -9) B dX9_lastOne_38 (by decide) ?_
          refine g_goto (tgt := 58) B dX9_lastOne_40 (by decide) ?_
          exact g_lv [1, 2, 3] rfl (hJ58 _ _ _ _   ih)
  unfold d_X9_lastOne
  show GG p l e (headSpec wsX9_lastOne rm_X9_lastOne).room s m args below meth c D ad (shM ad cA) 25 5 (MQ below (QI D ad (shM ad cA) 25 s.heap.size (R0, M)) args s 0 0 (AX ad 25 s.heap.size)) R0 M 0 [(0, .ref (ad 0))] [] _
  refine g_iconst (v := 0) B dX9_lastOne_0 (by decide) ?_
  refine g_istore_n B dX9_lastOne_1 rfl (by decide) (lv1 := [(1, .int (0 : Int32)), (0, .ref (ad 0))]) rfl ?_
  refine g_iconst (v := 0) B dX9_lastOne_2 (by decide) ?_
  refine g_istore_n B dX9_lastOne_3 rfl (by decide) (lv1 := [(2, .int (0 : Int32)), (1, .int (0 : Int32)), (0, .ref (ad 0))]) rfl ?_
  refine g_lv [2, 1, 0] rfl (hL4    FU _ _)

abbrev rm_X9_bestErrands : Room := { frames := 2, cells := 0, slots := 0, locals := 47 }
set_option maxHeartbeats 4000000 in
set_option maxRecDepth 100000 in
theorem k_X9_bestErrands (l : Launch) (D : va_G) (cA : Nat → ClassId) (ad : Nat → Nat) (had : adOK ad 25)  (M : Mem) : CI l yX9_bestErrands wsX9_bestErrands rm_X9_bestErrands D cA ad (shM ad cA) 25 [.ref (ad 0)] M (d_X9_bestErrands  M) := by
  refine CI_of (own := RX9) (cc := cX9_bestErrands) (maxL := 6) (rt := .int) had (by decide) rfl rfl (Nat.le_of_ble_eq_true rfl) ?_
  intro p e s m args below meth c R0 B hr hk
  have hJ83 : ∀ (rec41 : Int32 → Mem → Option (Int32 × Mem)) (v1 : Int32) (v3 : Int32) (v4 : Int32) (v5 : Int32) (s0 : Int32) (s1 : Int32) (M : Mem)   (hrec41 : ∀ (w5 : Int32) (M1 : Mem), GG p l e (headSpec wsX9_bestErrands rm_X9_bestErrands).room s m args below meth c D ad (shM ad cA) 25 6 (MQ below (QI D ad (shM ad cA) 25 s.heap.size R0) args s 0 0 (AX ad 25 s.heap.size)) R0 M1 41 [(0, .ref (ad 0)), (1, .int v1), (3, .int v3), (4, .int v4), (5, .int w5)] [] (rec41 w5 M1)), GG p l e (headSpec wsX9_bestErrands rm_X9_bestErrands).room s m args below meth c D ad (shM ad cA) 25 6 (MQ below (QI D ad (shM ad cA) 25 s.heap.size R0) args s 0 0 (AX ad 25 s.heap.size)) R0 M 83 [(0, .ref (ad 0)), (1, .int v1), (3, .int v3), (4, .int v4), (5, .int v5)] [.int s0, .int s1, .ref (ad 17)] (dX9_bestErrands_83j rec41 v1 v3 v4 v5 s0 s1 M) := by
    intro rec41 v1 v3 v4 v5 s0 s1 M hrec41
    unfold dX9_bestErrands_83j
    refine g_iast B shM_a17 (by decide) dX9_bestErrands_83 (g_lmM (fun M7 => ?_))
    refine g_iinc B dX9_bestErrands_84 4 (v := v5 + (1 : Int32)) rfl rfl (by decide) (lv1 := [(5, .int (v5 + (1 : Int32))), (0, .ref (ad 0)), (1, .int v1), (3, .int v3), (4, .int v4)]) rfl ?_
    refine g_goto (tgt := 41) B dX9_bestErrands_87 (by decide) ?_
    exact g_lv [1, 2, 3, 4, 0] rfl (hrec41 _ _)
  have hL41 : ∀ (v1 : Int32) (v3 : Int32) (v4 : Int32)  (k41_90 : Mem → Option (Int32 × Mem))  (hk41_90 : ∀  (M1 : Mem), GG p l e (headSpec wsX9_bestErrands rm_X9_bestErrands).room s m args below meth c D ad (shM ad cA) 25 6 (MQ below (QI D ad (shM ad cA) 25 s.heap.size R0) args s 0 0 (AX ad 25 s.heap.size)) R0 M1 90 [(0, .ref (ad 0)), (1, .int v1), (3, .int v3), (4, .int v4)] [] (k41_90  M1)), ∀ (f : Nat) (v5 : Int32) (M : Mem), GG p l e (headSpec wsX9_bestErrands rm_X9_bestErrands).room s m args below meth c D ad (shM ad cA) 25 6 (MQ below (QI D ad (shM ad cA) 25 s.heap.size R0) args s 0 0 (AX ad 25 s.heap.size)) R0 M 41 [(0, .ref (ad 0)), (1, .int v1), (3, .int v3), (4, .int v4), (5, .int v5)] [] (dX9_bestErrands_41l v1 v3 v4  k41_90 f v5 M) := by
    intro v1 v3 v4 k41_90 hk41_90
    intro f
    induction f with
    | zero =>
      intro v5 M
      exact g_none
    | succ f ih =>
      intro v5 M
      rw [dX9_bestErrands_41l]
      refine g_iload B dX9_bestErrands_41 4 rfl ?_
      refine g_aload_n B dX9_bestErrands_43 0 rfl rfl ?_
      refine g_get (v := .int (M 0 2)) B shM_o (by decide) in_X9_bestErrands_X9 rfl 2 (by decide) (List.mem_of_getElem? (i := 1) rfl) rfl rfl dX9_bestErrands_44 ?_
      refine g_icmp_ge (tgt := 90) B dX9_bestErrands_47 (by decide) (fun c5 => ?_) (fun c5 => ?_)
      · exact g_lv [0, 1, 2, 3] rfl (hk41_90  _)
      · refine g_aload_n B dX9_bestErrands_50 0 rfl rfl ?_
        refine g_get (v := .ref (ad 17)) B shM_o (by decide) in_X9_bestErrands_X9 rfl 29 (by decide) (List.mem_of_getElem? (i := 2) rfl) rfl rfl dX9_bestErrands_51 ?_
        refine g_iload B dX9_bestErrands_54 4 rfl ?_
        refine g_iload B dX9_bestErrands_56 3 rfl ?_
        refine g_if_eq (tgt := 76) B dX9_bestErrands_58 (by decide) (fun c6 => ?_) (fun c6 => ?_)
        · refine g_aload_n B dX9_bestErrands_76 0 rfl rfl ?_
          refine g_get (v := .ref (ad 17)) B shM_o (by decide) in_X9_bestErrands_X9 rfl 29 (by decide) (List.mem_of_getElem? (i := 2) rfl) rfl rfl dX9_bestErrands_77 ?_
          refine g_iload B dX9_bestErrands_80 4 rfl ?_
          refine g_iald B shM_a17 (by decide) dX9_bestErrands_82 ?_
          exact g_lv [0, 1, 2, 3, 4] rfl (hJ83 _ _ _ _ _ _ _ _   ih)
        · refine g_aload_n B dX9_bestErrands_61 0 rfl rfl ?_
          refine g_get (v := .ref (ad 15)) B shM_o (by decide) in_X9_bestErrands_X9 rfl 27 (by decide) (List.mem_of_getElem? (i := 3) rfl) rfl rfl dX9_bestErrands_62 ?_
          refine g_aload_n B dX9_bestErrands_65 0 rfl rfl ?_
          refine g_get (v := .ref (ad 16)) B shM_o (by decide) in_X9_bestErrands_X9 rfl 28 (by decide) (List.mem_of_getElem? (i := 4) rfl) rfl rfl dX9_bestErrands_66 ?_
          refine g_iload B dX9_bestErrands_69 4 rfl ?_
          refine g_iald B shM_a16 (by decide) dX9_bestErrands_71 ?_
          refine g_iald B shM_a15 (by decide) dX9_bestErrands_72 ?_
          refine g_goto (tgt := 83) B dX9_bestErrands_73 (by decide) ?_
          exact g_lv [0, 1, 2, 3, 4] rfl (hJ83 _ _ _ _ _ _ _ _   ih)
  have hJ100 : ∀ (rec9 : Int32 → Int32 → Mem → Option (Int32 × Mem))  (s0 : Int32) (M : Mem)   (hrec9 : ∀ (w1 : Int32) (w2 : Int32) (M1 : Mem), GG p l e (headSpec wsX9_bestErrands rm_X9_bestErrands).room s m args below meth c D ad (shM ad cA) 25 6 (MQ below (QI D ad (shM ad cA) 25 s.heap.size R0) args s 0 0 (AX ad 25 s.heap.size)) R0 M1 9 [(0, .ref (ad 0)), (1, .int w1), (2, .int w2)] [] (rec9 w1 w2 M1)), GG p l e (headSpec wsX9_bestErrands rm_X9_bestErrands).room s m args below meth c D ad (shM ad cA) 25 6 (MQ below (QI D ad (shM ad cA) 25 s.heap.size R0) args s 0 0 (AX ad 25 s.heap.size)) R0 M 100 [(0, .ref (ad 0))] [.int s0] (dX9_bestErrands_100j rec9  s0 M) := by
    intro rec9 s0 M hrec9
    unfold dX9_bestErrands_100j
    refine g_istore_n B dX9_bestErrands_100 rfl (by decide) (lv1 := [(1, .int s0), (0, .ref (ad 0))]) rfl ?_
    refine g_aload_n B dX9_bestErrands_101 1 rfl rfl ?_
    refine g_callVIe (q := (RX9, TX9, 39)) (As := []) (st := []) B (k_X9_nextRow l D cA ad B.2.2.2.2.2.2.1  M) (cwV 0 B.2.2.2.2.1 gX9_bestErrands_X9_nextRow rfl rfl rfl (by decide +kernel) ⟨Nat.le_of_ble_eq_true rfl, Nat.le_of_ble_eq_true rfl⟩) shM_o (by decide) rfl rfl rfl (Nat.le_of_ble_eq_true rfl) dX9_bestErrands_102 (fun r10 M11 _ => ?_)
    refine g_istore_n B dX9_bestErrands_105 rfl (by decide) (lv1 := [(2, .int r10), (1, .int s0), (0, .ref (ad 0))]) rfl ?_
    refine g_goto (tgt := 9) B dX9_bestErrands_106 (by decide) ?_
    exact g_lv [2, 1, 0] rfl (hrec9 _ _ _)
  have hJ36 : ∀ (rec9 : Int32 → Int32 → Mem → Option (Int32 × Mem)) (v1 : Int32) (v3 : Int32) (s0 : Int32) (M : Mem)   (hrec9 : ∀ (w1 : Int32) (w2 : Int32) (M1 : Mem), GG p l e (headSpec wsX9_bestErrands rm_X9_bestErrands).room s m args below meth c D ad (shM ad cA) 25 6 (MQ below (QI D ad (shM ad cA) 25 s.heap.size R0) args s 0 0 (AX ad 25 s.heap.size)) R0 M1 9 [(0, .ref (ad 0)), (1, .int w1), (2, .int w2)] [] (rec9 w1 w2 M1)), GG p l e (headSpec wsX9_bestErrands rm_X9_bestErrands).room s m args below meth c D ad (shM ad cA) 25 6 (MQ below (QI D ad (shM ad cA) 25 s.heap.size R0) args s 0 0 (AX ad 25 s.heap.size)) R0 M 36 [(0, .ref (ad 0)), (1, .int v1), (3, .int v3)] [.int s0] (dX9_bestErrands_36j rec9 v1 v3 s0 M) := by
    intro rec9 v1 v3 s0 M hrec9
    unfold dX9_bestErrands_36j
    refine g_istore B dX9_bestErrands_36 (by decide) (lv1 := [(4, .int s0), (0, .ref (ad 0)), (1, .int v1), (3, .int v3)]) rfl ?_
    refine g_iconst (v := 0) B dX9_bestErrands_38 (by decide) ?_
    refine g_istore B dX9_bestErrands_39 (by decide) (lv1 := [(5, .int (0 : Int32)), (4, .int s0), (0, .ref (ad 0)), (1, .int v1), (3, .int v3)]) rfl ?_
    refine g_lv [2, 3, 4, 1, 0] rfl (hL41 _ _ _ _  ?_ FU _ _)
    · intro M8
      refine g_iload B dX9_bestErrands_90 3 rfl ?_
      refine g_if_eq (tgt := 99) B dX9_bestErrands_92 (by decide) (fun c9 => ?_) (fun c9 => ?_)
      · refine g_iload_n B dX9_bestErrands_99 1 rfl rfl ?_
        exact g_lv [0] rfl (hJ100 _ _ _   hrec9)
      · refine g_iload_n B dX9_bestErrands_95 2 rfl rfl ?_
        refine g_goto (tgt := 100) B dX9_bestErrands_96 (by decide) ?_
        exact g_lv [0] rfl (hJ100 _ _ _   hrec9)
  have hJ35 : ∀ (rec9 : Int32 → Int32 → Mem → Option (Int32 × Mem)) (v1 : Int32) (v3 : Int32)  (M : Mem)   (hrec9 : ∀ (w1 : Int32) (w2 : Int32) (M1 : Mem), GG p l e (headSpec wsX9_bestErrands rm_X9_bestErrands).room s m args below meth c D ad (shM ad cA) 25 6 (MQ below (QI D ad (shM ad cA) 25 s.heap.size R0) args s 0 0 (AX ad 25 s.heap.size)) R0 M1 9 [(0, .ref (ad 0)), (1, .int w1), (2, .int w2)] [] (rec9 w1 w2 M1)), GG p l e (headSpec wsX9_bestErrands rm_X9_bestErrands).room s m args below meth c D ad (shM ad cA) 25 6 (MQ below (QI D ad (shM ad cA) 25 s.heap.size R0) args s 0 0 (AX ad 25 s.heap.size)) R0 M 35 [(0, .ref (ad 0)), (1, .int v1), (3, .int v3)] [] (dX9_bestErrands_35j rec9 v1 v3  M) := by
    intro rec9 v1 v3 M hrec9
    unfold dX9_bestErrands_35j
    refine g_iconst (v := 0) B dX9_bestErrands_35 (by decide) ?_
    exact g_lv [0, 1, 2] rfl (hJ36 _ _ _ _ _   hrec9)
  have hJ31 : ∀ (rec9 : Int32 → Int32 → Mem → Option (Int32 × Mem)) (v1 : Int32) (v3 : Int32)  (M : Mem)   (hrec9 : ∀ (w1 : Int32) (w2 : Int32) (M1 : Mem), GG p l e (headSpec wsX9_bestErrands rm_X9_bestErrands).room s m args below meth c D ad (shM ad cA) 25 6 (MQ below (QI D ad (shM ad cA) 25 s.heap.size R0) args s 0 0 (AX ad 25 s.heap.size)) R0 M1 9 [(0, .ref (ad 0)), (1, .int w1), (2, .int w2)] [] (rec9 w1 w2 M1)), GG p l e (headSpec wsX9_bestErrands rm_X9_bestErrands).room s m args below meth c D ad (shM ad cA) 25 6 (MQ below (QI D ad (shM ad cA) 25 s.heap.size R0) args s 0 0 (AX ad 25 s.heap.size)) R0 M 31 [(0, .ref (ad 0)), (1, .int v1), (3, .int v3)] [] (dX9_bestErrands_31j rec9 v1 v3  M) := by
    intro rec9 v1 v3 M hrec9
    unfold dX9_bestErrands_31j
    refine g_iconst (v := 1) B dX9_bestErrands_31 (by decide) ?_
    refine g_goto (tgt := 36) B dX9_bestErrands_32 (by decide) ?_
    exact g_lv [0, 1, 2] rfl (hJ36 _ _ _ _ _   hrec9)
  have hL9 : ∀ (f : Nat) (v1 : Int32) (v2 : Int32) (M : Mem), GG p l e (headSpec wsX9_bestErrands rm_X9_bestErrands).room s m args below meth c D ad (shM ad cA) 25 6 (MQ below (QI D ad (shM ad cA) 25 s.heap.size R0) args s 0 0 (AX ad 25 s.heap.size)) R0 M 9 [(0, .ref (ad 0)), (1, .int v1), (2, .int v2)] [] (dX9_bestErrands_9l    f v1 v2 M) := by
    intro f
    induction f with
    | zero =>
      intro v1 v2 M
      exact g_none
    | succ f ih =>
      intro v1 v2 M
      rw [dX9_bestErrands_9l]
      refine g_iload_n B dX9_bestErrands_9 2 rfl rfl ?_
      refine g_if_eq (tgt := 109) B dX9_bestErrands_10 (by decide) (fun c2 => ?_) (fun c2 => ?_)
      · refine g_iload_n B dX9_bestErrands_109 1 rfl rfl ?_
        exact g_iret B hr hk dX9_bestErrands_110
      · refine g_aload_n B dX9_bestErrands_13 0 rfl rfl ?_
        refine g_callVIp (q := (RX9, TX9, 39)) (As := []) (st := []) B (k_X9_lastOne l D cA ad B.2.2.2.2.2.2.1  M) (cwV 0 B.2.2.2.2.1 gX9_bestErrands_X9_lastOne rfl rfl rfl (by decide +kernel) ⟨Nat.le_of_ble_eq_true rfl, Nat.le_of_ble_eq_true rfl⟩) shM_o (by decide) rfl rfl rfl (Nat.le_of_ble_eq_true rfl) dX9_bestErrands_14 (fun r3 _ => ?_)
        refine g_istore_n B dX9_bestErrands_17 rfl (by decide) (lv1 := [(3, .int r3), (0, .ref (ad 0)), (1, .int v1), (2, .int v2)]) rfl ?_
        refine g_iload_n B dX9_bestErrands_18 0 rfl rfl ?_
        refine g_if_lt (tgt := 35) B dX9_bestErrands_19 (by decide) (fun c4 => ?_) (fun c4 => ?_)
        · exact g_lv [1, 2, 0] rfl (hJ35 _ _ _ _   ih)
        · refine g_iload_n B dX9_bestErrands_22 2 rfl rfl ?_
          refine g_if_lt (tgt := 31) B dX9_bestErrands_23 (by decide) (fun c12 => ?_) (fun c12 => ?_)
          · exact g_lv [1, 2, 0] rfl (hJ31 _ _ _ _   ih)
          · refine g_iload_n B dX9_bestErrands_26 0 rfl rfl ?_
            refine g_iload_n B dX9_bestErrands_27 2 rfl rfl ?_
            refine g_icmp_ge (tgt := 35) B dX9_bestErrands_28 (by decide) (fun c13 => ?_) (fun c13 => ?_)
            · exact g_lv [1, 2, 0] rfl (hJ35 _ _ _ _   ih)
            · exact g_lv [1, 2, 0] rfl (hJ31 _ _ _ _   ih)
  unfold d_X9_bestErrands
  show GG p l e (headSpec wsX9_bestErrands rm_X9_bestErrands).room s m args below meth c D ad (shM ad cA) 25 6 (MQ below (QI D ad (shM ad cA) 25 s.heap.size R0) args s 0 0 (AX ad 25 s.heap.size)) R0 M 0 [(0, .ref (ad 0))] [] _
  refine g_aload_n B dX9_bestErrands_0 0 rfl rfl ?_
  refine g_callVVe (q := (RX9, TX9, 39)) (As := []) (st := []) B (k_X9_sortsCorners l D cA ad B.2.2.2.2.2.2.1  M) (cwV 0 B.2.2.2.2.1 gX9_bestErrands_X9_sortsCorners rfl rfl rfl (by decide +kernel) ⟨Nat.le_of_ble_eq_true rfl, Nat.le_of_ble_eq_true rfl⟩) shM_o (by decide) rfl rfl rfl (Nat.le_of_ble_eq_true rfl) dX9_bestErrands_1 (fun M1 _ => ?_)
  refine g_bipush (v := -9) B dX9_bestErrands_4 (by decide) ?_
  refine g_istore_n B dX9_bestErrands_6 rfl (by decide) (lv1 := [(1, .int (-9 : Int32)), (0, .ref (ad 0))]) rfl ?_
  refine g_iconst (v := 1) B dX9_bestErrands_7 (by decide) ?_
  refine g_istore_n B dX9_bestErrands_8 rfl (by decide) (lv1 := [(2, .int (1 : Int32)), (1, .int (-9 : Int32)), (0, .ref (ad 0))]) rfl ?_
  refine g_lv [2, 1, 0] rfl (hL9    FU _ _ _)

abbrev rm_X9_errands : Room := { frames := 3, cells := 0, slots := 0, locals := 72 }
set_option maxHeartbeats 4000000 in
set_option maxRecDepth 100000 in
theorem k_X9_errands (l : Launch) (D : va_G) (cA : Nat → ClassId) (ad : Nat → Nat) (had : adOK ad 25) (v1 : Int32) (M : Mem) : CI l yX9_errands wsX9_errands rm_X9_errands D cA ad (shM ad cA) 25 [.ref (ad 0), .int v1] M (d_X9_errands v1 M) := by
  refine CI_of (own := RX9) (cc := cX9_errands) (maxL := 3) (rt := .int) had (by decide) rfl rfl (Nat.le_of_ble_eq_true rfl) ?_
  intro p e s m args below meth c R0 B hr hk
  unfold d_X9_errands
  show GG p l e (headSpec wsX9_errands rm_X9_errands).room s m args below meth c D ad (shM ad cA) 25 3 (MQ below (QI D ad (shM ad cA) 25 s.heap.size R0) args s 0 0 (AX ad 25 s.heap.size)) R0 M 0 [(0, .ref (ad 0)), (1, .int v1)] [] _
  refine g_aload_n B dX9_errands_0 0 rfl rfl ?_
  refine g_get (v := .int (M 0 2)) B shM_o (by decide) in_X9_errands_X9 rfl 2 (by decide) (List.mem_of_getElem? (i := 1) rfl) rfl rfl dX9_errands_1 ?_
  refine g_if_ne (tgt := 10) B dX9_errands_4 (by decide) (fun c1 => ?_) (fun c1 => ?_)
  · refine g_bipush (v := -3) B dX9_errands_7 (by decide) ?_
    exact g_iret B hr hk dX9_errands_9
  · refine g_iload_n B dX9_errands_10 1 rfl rfl ?_
    refine g_i2l B dX9_errands_11 ?_
    refine g_ldc2 (v := -1) B dX9_errands_12 (List.mem_of_getElem? (i := 2) rfl) ?_
    refine g_ldc2 (v := 5) B dX9_errands_15 (List.mem_of_getElem? (i := 3) rfl) ?_
    refine g_callSIp (As := [.long v1.toInt64, .long (-1 : Int64), .long (5 : Int64)]) (st := []) B (k_X9_in l D cA ad B.2.2.2.2.2.2.1 v1.toInt64 (-1 : Int64) (5 : Int64) M) (va_cwS 3 B.2.2.2.2.1 gX9_errands_X9_in rfl rfl rfl (by decide +kernel) ⟨Nat.le_of_ble_eq_true rfl, Nat.le_of_ble_eq_true rfl⟩) rfl rfl (Nat.le_of_ble_eq_true rfl) dX9_errands_18 (fun r2 _ => ?_)
    refine g_if_ne (tgt := 27) B dX9_errands_21 (by decide) (fun c3 => ?_) (fun c3 => ?_)
    · refine g_bipush (v := -2) B dX9_errands_24 (by decide) ?_
      exact g_iret B hr hk dX9_errands_26
    · refine g_aload_n B dX9_errands_27 0 rfl rfl ?_
      refine g_callVIe (q := (RX9, TX9, 39)) (As := []) (st := []) B (k_X9_bestErrands l D cA ad B.2.2.2.2.2.2.1  M) (cwV 0 B.2.2.2.2.1 gX9_errands_X9_bestErrands rfl rfl rfl (by decide +kernel) ⟨Nat.le_of_ble_eq_true rfl, Nat.le_of_ble_eq_true rfl⟩) shM_o (by decide) rfl rfl rfl (Nat.le_of_ble_eq_true rfl) dX9_errands_28 (fun r4 M5 _ => ?_)
      refine g_istore_n B dX9_errands_31 rfl (by decide) (lv1 := [(2, .int r4), (0, .ref (ad 0)), (1, .int v1)]) rfl ?_
      refine g_iload_n B dX9_errands_32 0 rfl rfl ?_
      refine g_if_lt (tgt := 40) B dX9_errands_33 (by decide) (fun c6 => ?_) (fun c6 => ?_)
      · refine g_iload_n B dX9_errands_40 0 rfl rfl ?_
        refine g_goto (tgt := 63) B dX9_errands_41 (by decide) ?_
        exact g_iret B hr hk dX9_errands_63
      · refine g_iload_n B dX9_errands_36 2 rfl rfl ?_
        refine g_if_ge (tgt := 44) B dX9_errands_37 (by decide) (fun c7 => ?_) (fun c7 => ?_)
        · refine g_iload_n B dX9_errands_44 2 rfl rfl ?_
          refine g_aload_n B dX9_errands_45 1 rfl rfl ?_
          refine g_get (v := .int (M5 0 2)) B shM_o (by decide) in_X9_errands_X9 rfl 2 (by decide) (List.mem_of_getElem? (i := 1) rfl) rfl rfl dX9_errands_46 ?_
          refine g_icmp_ge (tgt := 61) B dX9_errands_49 (by decide) (fun c8 => ?_) (fun c8 => ?_)
          · refine g_bipush (v := -9) B dX9_errands_61 (by decide) ?_
            exact g_iret B hr hk dX9_errands_63
          · refine g_aload_n B dX9_errands_52 1 rfl rfl ?_
            refine g_get (v := .ref (ad 17)) B shM_o (by decide) in_X9_errands_X9 rfl 29 (by decide) (List.mem_of_getElem? (i := 4) rfl) rfl rfl dX9_errands_53 ?_
            refine g_iload_n B dX9_errands_56 2 rfl rfl ?_
            refine g_iald B shM_a17 (by decide) dX9_errands_57 ?_
            refine g_goto (tgt := 63) B dX9_errands_58 (by decide) ?_
            exact g_iret B hr hk dX9_errands_63
        · refine g_iload_n B dX9_errands_40 0 rfl rfl ?_
          refine g_goto (tgt := 63) B dX9_errands_41 (by decide) ?_
          exact g_iret B hr hk dX9_errands_63

abbrev rm_X9_reading : Room := { frames := 2, cells := 0, slots := 0, locals := 46 }
set_option maxHeartbeats 4000000 in
set_option maxRecDepth 100000 in
theorem k_X9_reading (l : Launch) (D : va_G) (cA : Nat → ClassId) (ad : Nat → Nat) (had : adOK ad 25) (v1 : Int32) (v2 : Int32) (v3 : Int32) (M : Mem) : CI l yX9_reading wsX9_reading rm_X9_reading D cA ad (shM ad cA) 25 [.ref (ad 0), .int v1, .int v2, .int v3] M (d_X9_reading v1 v2 v3 M) := by
  refine CI_of (own := RX9) (cc := cX9_reading) (maxL := 4) (rt := .int) had (by decide) rfl rfl (Nat.le_of_ble_eq_true rfl) ?_
  intro p e s m args below meth c R0 B hr hk
  unfold d_X9_reading
  show GG p l e (headSpec wsX9_reading rm_X9_reading).room s m args below meth c D ad (shM ad cA) 25 4 (MQ below (QI D ad (shM ad cA) 25 s.heap.size R0) args s 0 0 (AX ad 25 s.heap.size)) R0 M 0 [(0, .ref (ad 0)), (1, .int v1), (2, .int v2), (3, .int v3)] [] _
  refine g_aload_n B dX9_reading_0 0 rfl rfl ?_
  refine g_iload_n B dX9_reading_1 1 rfl rfl ?_
  refine g_callVIp (q := (RX9, TX9, 39)) (As := [.int v1]) (st := []) B (k_X9_noFootman l D cA ad B.2.2.2.2.2.2.1 v1 M) (cwV 1 B.2.2.2.2.1 gX9_reading_X9_noFootman rfl rfl rfl (by decide +kernel) ⟨Nat.le_of_ble_eq_true rfl, Nat.le_of_ble_eq_true rfl⟩) shM_o (by decide) rfl rfl rfl (Nat.le_of_ble_eq_true rfl) dX9_reading_2 (fun r1 _ => ?_)
  refine g_if_eq (tgt := 10) B dX9_reading_5 (by decide) (fun c2 => ?_) (fun c2 => ?_)
  · refine g_iload_n B dX9_reading_10 2 rfl rfl ?_
    refine g_i2l B dX9_reading_11 ?_
    refine g_lconst (v := 0) B dX9_reading_12 (by decide) ?_
    refine g_ldc2 (v := 99) B dX9_reading_13 (List.mem_of_getElem? (i := 1) rfl) ?_
    refine g_callSIp (As := [.long v2.toInt64, .long (0 : Int64), .long (99 : Int64)]) (st := []) B (k_X9_in l D cA ad B.2.2.2.2.2.2.1 v2.toInt64 (0 : Int64) (99 : Int64) M) (va_cwS 3 B.2.2.2.2.1 gX9_reading_X9_in rfl rfl rfl (by decide +kernel) ⟨Nat.le_of_ble_eq_true rfl, Nat.le_of_ble_eq_true rfl⟩) rfl rfl (Nat.le_of_ble_eq_true rfl) dX9_reading_16 (fun r3 _ => ?_)
    refine g_if_eq (tgt := 34) B dX9_reading_19 (by decide) (fun c4 => ?_) (fun c4 => ?_)
    · refine g_bipush (v := -2) B dX9_reading_34 (by decide) ?_
      exact g_iret B hr hk dX9_reading_36
    · refine g_iload_n B dX9_reading_22 3 rfl rfl ?_
      refine g_i2l B dX9_reading_23 ?_
      refine g_lconst (v := 0) B dX9_reading_24 (by decide) ?_
      refine g_ldc2 (v := 999) B dX9_reading_25 (List.mem_of_getElem? (i := 2) rfl) ?_
      refine g_callSIp (As := [.long v3.toInt64, .long (0 : Int64), .long (999 : Int64)]) (st := []) B (k_X9_in l D cA ad B.2.2.2.2.2.2.1 v3.toInt64 (0 : Int64) (999 : Int64) M) (va_cwS 3 B.2.2.2.2.1 gX9_reading_X9_in rfl rfl rfl (by decide +kernel) ⟨Nat.le_of_ble_eq_true rfl, Nat.le_of_ble_eq_true rfl⟩) rfl rfl (Nat.le_of_ble_eq_true rfl) dX9_reading_28 (fun r5 _ => ?_)
      refine g_if_ne (tgt := 37) B dX9_reading_31 (by decide) (fun c6 => ?_) (fun c6 => ?_)
      · refine g_bipush (v := -2) B dX9_reading_34 (by decide) ?_
        exact g_iret B hr hk dX9_reading_36
      · refine g_aload_n B dX9_reading_37 0 rfl rfl ?_
        refine g_get (v := .int (M 0 30)) B shM_o (by decide) in_X9_reading_X9 rfl 30 (by decide) (List.mem_of_getElem? (i := 3) rfl) rfl rfl dX9_reading_38 ?_
        refine g_bipush (v := 8) B dX9_reading_41 (by decide) ?_
        refine g_icmp_ne (tgt := 49) B dX9_reading_43 (by decide) (fun c7 => ?_) (fun c7 => ?_)
        · refine g_bipush (v := -4) B dX9_reading_46 (by decide) ?_
          exact g_iret B hr hk dX9_reading_48
        · refine g_aload_n B dX9_reading_49 0 rfl rfl ?_
          refine g_get (v := .ref (ad 18)) B shM_o (by decide) in_X9_reading_X9 rfl 31 (by decide) (List.mem_of_getElem? (i := 4) rfl) rfl rfl dX9_reading_50 ?_
          refine g_aload_n B dX9_reading_53 0 rfl rfl ?_
          refine g_get (v := .int (M 0 30)) B shM_o (by decide) in_X9_reading_X9 rfl 30 (by decide) (List.mem_of_getElem? (i := 3) rfl) rfl rfl dX9_reading_54 ?_
          refine g_iload_n B dX9_reading_57 1 rfl rfl ?_
          refine g_iast B shM_a18 (by decide) dX9_reading_58 (g_lmM (fun M8 => ?_))
          refine g_aload_n B dX9_reading_59 0 rfl rfl ?_
          refine g_get (v := .ref (ad 19)) B shM_o (by decide) in_X9_reading_X9 rfl 32 (by decide) (List.mem_of_getElem? (i := 5) rfl) rfl rfl dX9_reading_60 ?_
          refine g_aload_n B dX9_reading_63 0 rfl rfl ?_
          refine g_get (v := .int (M8 0 30)) B shM_o (by decide) in_X9_reading_X9 rfl 30 (by decide) (List.mem_of_getElem? (i := 3) rfl) rfl rfl dX9_reading_64 ?_
          refine g_iload_n B dX9_reading_67 2 rfl rfl ?_
          refine g_iast B shM_a19 (by decide) dX9_reading_68 (g_lmM (fun M9 => ?_))
          refine g_aload_n B dX9_reading_69 0 rfl rfl ?_
          refine g_get (v := .ref (ad 20)) B shM_o (by decide) in_X9_reading_X9 rfl 33 (by decide) (List.mem_of_getElem? (i := 6) rfl) rfl rfl dX9_reading_70 ?_
          refine g_aload_n B dX9_reading_73 0 rfl rfl ?_
          refine g_get (v := .int (M9 0 30)) B shM_o (by decide) in_X9_reading_X9 rfl 30 (by decide) (List.mem_of_getElem? (i := 3) rfl) rfl rfl dX9_reading_74 ?_
          refine g_iload_n B dX9_reading_77 3 rfl rfl ?_
          refine g_iast B shM_a20 (by decide) dX9_reading_78 (g_lmM (fun M10 => ?_))
          refine g_aload_n B dX9_reading_79 0 rfl rfl ?_
          refine g_dup B dX9_reading_80 rfl ?_
          refine g_get (v := .int (M10 0 30)) B shM_o (by decide) in_X9_reading_X9 rfl 30 (by decide) (List.mem_of_getElem? (i := 3) rfl) rfl rfl dX9_reading_81 ?_
          refine g_iconst (v := 1) B dX9_reading_84 (by decide) ?_
          refine g_iadd B dX9_reading_85 ?_
          refine g_put (ty := .int) B shM_o (by decide) in_X9_reading_X9 tyX9_ok nmX9 rfl 30 (by decide) (List.mem_of_getElem? (i := 3) rfl) rfl rfl (by decide +kernel) rfl rfl (fun _ => Nat.le_of_ble_eq_true rfl) (fun _ _ => rfl) dX9_reading_86 (g_lmM (fun M11 => ?_))
          refine g_aload_n B dX9_reading_89 0 rfl rfl ?_
          refine g_get (v := .int (M11 0 30)) B shM_o (by decide) in_X9_reading_X9 rfl 30 (by decide) (List.mem_of_getElem? (i := 3) rfl) rfl rfl dX9_reading_90 ?_
          refine g_iconst (v := 1) B dX9_reading_93 (by decide) ?_
          refine g_isub B dX9_reading_94 ?_
          exact g_iret B hr hk dX9_reading_95
  · refine g_iconst (v := -1) B dX9_reading_8 (by decide) ?_
    exact g_iret B hr hk dX9_reading_9
