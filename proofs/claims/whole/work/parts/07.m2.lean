abbrev rm_X9_hasArrived : Room := { frames := 1, cells := 0, slots := 0, locals := 22 }
set_option maxHeartbeats 4000000 in
set_option maxRecDepth 100000 in
theorem k_X9_hasArrived (l : Launch) (D : va_G) (cA : Nat → ClassId) (ad : Nat → Nat) (had : adOK ad 25) (v1 : Int32) (M : Mem) : CI l yX9_hasArrived wsX9_hasArrived rm_X9_hasArrived D cA ad (shM ad cA) 25 [.ref (ad 0), .int v1] M (wM M (d_X9_hasArrived v1 M)) := by
  refine CI_ofp (own := RX9) (cc := cX9_hasArrived) (maxL := 3) (rt := .boolean) had (by decide) rfl rfl (Nat.le_of_ble_eq_true rfl) ?_
  intro p e s m args below meth c R0 B hr hk
  unfold d_X9_hasArrived
  show GG p l e (headSpec wsX9_hasArrived rm_X9_hasArrived).room s m args below meth c D ad (shM ad cA) 25 3 (MQ below (QI D ad (shM ad cA) 25 s.heap.size (R0, M)) args s 0 0 (AX ad 25 s.heap.size)) R0 M 0 [(0, .ref (ad 0)), (1, .int v1)] [] _
  refine g_aload_n B dX9_hasArrived_0 0 rfl rfl ?_
  refine g_aload_n B dX9_hasArrived_1 0 rfl rfl ?_
  refine g_get (v := .ref (ad 4)) B shM_o (by decide) in_X9_hasArrived_X9 rfl 8 (by decide) (List.mem_of_getElem? (i := 1) rfl) rfl rfl dX9_hasArrived_2 ?_
  refine g_iload_n B dX9_hasArrived_5 1 rfl rfl ?_
  refine g_iald B shM_a4 (by decide) dX9_hasArrived_6 ?_
  refine g_aload_n B dX9_hasArrived_7 0 rfl rfl ?_
  refine g_get (v := .ref (ad 5)) B shM_o (by decide) in_X9_hasArrived_X9 rfl 9 (by decide) (List.mem_of_getElem? (i := 2) rfl) rfl rfl dX9_hasArrived_8 ?_
  refine g_iload_n B dX9_hasArrived_11 1 rfl rfl ?_
  refine g_iald B shM_a5 (by decide) dX9_hasArrived_12 ?_
  refine g_callVIp (q := (RX9, TX9, 39)) (As := [.int (M 4 v1.toNatClampNeg), .int (M 5 v1.toNatClampNeg)]) (st := []) B (k_X9_farFrom l D cA ad B.2.2.2.2.2.2.1 (M 4 v1.toNatClampNeg) (M 5 v1.toNatClampNeg) M) (cwV 2 B.2.2.2.2.1 gX9_hasArrived_X9_farFrom rfl rfl rfl (by decide +kernel) ⟨Nat.le_of_ble_eq_true rfl, Nat.le_of_ble_eq_true rfl⟩) shM_o (by decide) rfl rfl rfl (Nat.le_of_ble_eq_true rfl) dX9_hasArrived_13 (fun r1 _ => ?_)
  refine g_istore_n B dX9_hasArrived_16 rfl (by decide) (lv1 := [(2, .int r1), (0, .ref (ad 0)), (1, .int v1)]) rfl ?_
  refine g_iload_n B dX9_hasArrived_17 0 rfl rfl ?_
  refine g_if_lt (tgt := 35) B dX9_hasArrived_18 (by decide) (fun c2 => ?_) (fun c2 => ?_)
  · refine g_iconst (v := 0) B dX9_hasArrived_35 (by decide) ?_
    exact g_zretp B hr hk rfl dX9_hasArrived_36
  · refine g_aload_n B dX9_hasArrived_21 1 rfl rfl ?_
    refine g_get (v := .ref (ad 7)) B shM_o (by decide) in_X9_hasArrived_X9 rfl 11 (by decide) (List.mem_of_getElem? (i := 3) rfl) rfl rfl dX9_hasArrived_22 ?_
    refine g_iload_n B dX9_hasArrived_25 2 rfl rfl ?_
    refine g_iald B shM_a7 (by decide) dX9_hasArrived_26 ?_
    refine g_iload_n B dX9_hasArrived_27 0 rfl rfl ?_
    refine g_icmp_lt (tgt := 35) B dX9_hasArrived_28 (by decide) (fun c3 => ?_) (fun c3 => ?_)
    · refine g_iconst (v := 0) B dX9_hasArrived_35 (by decide) ?_
      exact g_zretp B hr hk rfl dX9_hasArrived_36
    · refine g_iconst (v := 1) B dX9_hasArrived_31 (by decide) ?_
      refine g_goto (tgt := 36) B dX9_hasArrived_32 (by decide) ?_
      exact g_zretp B hr hk rfl dX9_hasArrived_36

abbrev rm_X9_ofFootman : Room := { frames := 2, cells := 0, slots := 0, locals := 46 }
set_option maxHeartbeats 4000000 in
set_option maxRecDepth 100000 in
theorem k_X9_ofFootman (l : Launch) (D : va_G) (cA : Nat → ClassId) (ad : Nat → Nat) (had : adOK ad 25) (v1 : Int32) (v2 : Int32) (M : Mem) : CI l yX9_ofFootman wsX9_ofFootman rm_X9_ofFootman D cA ad (shM ad cA) 25 [.ref (ad 0), .int v1, .int v2] M (wM M (d_X9_ofFootman v1 v2 M)) := by
  refine CI_ofp (own := RX9) (cc := cX9_ofFootman) (maxL := 3) (rt := .int) had (by decide) rfl rfl (Nat.le_of_ble_eq_true rfl) ?_
  intro p e s m args below meth c R0 B hr hk
  unfold d_X9_ofFootman
  show GG p l e (headSpec wsX9_ofFootman rm_X9_ofFootman).room s m args below meth c D ad (shM ad cA) 25 3 (MQ below (QI D ad (shM ad cA) 25 s.heap.size (R0, M)) args s 0 0 (AX ad 25 s.heap.size)) R0 M 0 [(0, .ref (ad 0)), (1, .int v1), (2, .int v2)] [] _
  refine g_aload_n B dX9_ofFootman_0 0 rfl rfl ?_
  refine g_iload_n B dX9_ofFootman_1 1 rfl rfl ?_
  refine g_callVIp (q := (RX9, TX9, 39)) (As := [.int v1]) (st := []) B (k_X9_noFootman l D cA ad B.2.2.2.2.2.2.1 v1 M) (cwV 1 B.2.2.2.2.1 gX9_ofFootman_X9_noFootman rfl rfl rfl (by decide +kernel) ⟨Nat.le_of_ble_eq_true rfl, Nat.le_of_ble_eq_true rfl⟩) shM_o (by decide) rfl rfl rfl (Nat.le_of_ble_eq_true rfl) dX9_ofFootman_2 (fun r1 _ => ?_)
  refine g_if_eq (tgt := 10) B dX9_ofFootman_5 (by decide) (fun c2 => ?_) (fun c2 => ?_)
  · refine g_iload_n B dX9_ofFootman_10 2 rfl rfl ?_
    refine g_if (fun c3 => ?_) (fun c3 => ?_)
    · refine g_tin (tgt := 56) (off := 45) (v := 0) B dX9_ofFootman_11 c3 (by decide) (by decide) rfl (by decide) ?_
      refine g_aload_n B dX9_ofFootman_56 0 rfl rfl ?_
      refine g_get (v := .ref (ad 3)) B shM_o (by decide) in_X9_ofFootman_X9 rfl 7 (by decide) (List.mem_of_getElem? (i := 1) rfl) rfl rfl dX9_ofFootman_57 ?_
      refine g_iload_n B dX9_ofFootman_60 1 rfl rfl ?_
      refine g_iald B shM_a3 (by decide) dX9_ofFootman_61 ?_
      exact g_iretp B hr hk dX9_ofFootman_62
    · refine g_if (fun c4 => ?_) (fun c4 => ?_)
      · refine g_tin (tgt := 63) (off := 52) (v := 1) B dX9_ofFootman_11 c4 (by decide) (by decide) rfl (by decide) ?_
        refine g_aload_n B dX9_ofFootman_63 0 rfl rfl ?_
        refine g_get (v := .ref (ad 4)) B shM_o (by decide) in_X9_ofFootman_X9 rfl 8 (by decide) (List.mem_of_getElem? (i := 2) rfl) rfl rfl dX9_ofFootman_64 ?_
        refine g_iload_n B dX9_ofFootman_67 1 rfl rfl ?_
        refine g_iald B shM_a4 (by decide) dX9_ofFootman_68 ?_
        exact g_iretp B hr hk dX9_ofFootman_69
      · refine g_if (fun c5 => ?_) (fun c5 => ?_)
        · refine g_tin (tgt := 70) (off := 59) (v := 2) B dX9_ofFootman_11 c5 (by decide) (by decide) rfl (by decide) ?_
          refine g_aload_n B dX9_ofFootman_70 0 rfl rfl ?_
          refine g_get (v := .ref (ad 5)) B shM_o (by decide) in_X9_ofFootman_X9 rfl 9 (by decide) (List.mem_of_getElem? (i := 3) rfl) rfl rfl dX9_ofFootman_71 ?_
          refine g_iload_n B dX9_ofFootman_74 1 rfl rfl ?_
          refine g_iald B shM_a5 (by decide) dX9_ofFootman_75 ?_
          exact g_iretp B hr hk dX9_ofFootman_76
        · refine g_if (fun c6 => ?_) (fun c6 => ?_)
          · refine g_tin (tgt := 77) (off := 66) (v := 3) B dX9_ofFootman_11 c6 (by decide) (by decide) rfl (by decide) ?_
            refine g_aload_n B dX9_ofFootman_77 0 rfl rfl ?_
            refine g_get (v := .ref (ad 6)) B shM_o (by decide) in_X9_ofFootman_X9 rfl 10 (by decide) (List.mem_of_getElem? (i := 4) rfl) rfl rfl dX9_ofFootman_78 ?_
            refine g_iload_n B dX9_ofFootman_81 1 rfl rfl ?_
            refine g_iald B shM_a6 (by decide) dX9_ofFootman_82 ?_
            exact g_iretp B hr hk dX9_ofFootman_83
          · refine g_if (fun c7 => ?_) (fun c7 => ?_)
            · refine g_tin (tgt := 84) (off := 73) (v := 4) B dX9_ofFootman_11 c7 (by decide) (by decide) rfl (by decide) ?_
              refine g_aload_n B dX9_ofFootman_84 0 rfl rfl ?_
              refine g_iload_n B dX9_ofFootman_85 1 rfl rfl ?_
              refine g_callVIp (q := (RX9, TX9, 39)) (As := [.int v1]) (st := []) B (k_X9_paceOf l D cA ad B.2.2.2.2.2.2.1 v1 M) (cwV 1 B.2.2.2.2.1 gX9_ofFootman_X9_paceOf rfl rfl rfl (by decide +kernel) ⟨Nat.le_of_ble_eq_true rfl, Nat.le_of_ble_eq_true rfl⟩) shM_o (by decide) rfl rfl rfl (Nat.le_of_ble_eq_true rfl) dX9_ofFootman_86 (fun r8 _ => ?_)
              exact g_iretp B hr hk dX9_ofFootman_89
            · refine g_if (fun c9 => ?_) (fun c9 => ?_)
              · refine g_tin (tgt := 90) (off := 79) (v := 5) B dX9_ofFootman_11 c9 (by decide) (by decide) rfl (by decide) ?_
                refine g_aload_n B dX9_ofFootman_90 0 rfl rfl ?_
                refine g_get (v := .ref (ad 7)) B shM_o (by decide) in_X9_ofFootman_X9 rfl 11 (by decide) (List.mem_of_getElem? (i := 5) rfl) rfl rfl dX9_ofFootman_91 ?_
                refine g_iload_n B dX9_ofFootman_94 1 rfl rfl ?_
                refine g_iald B shM_a7 (by decide) dX9_ofFootman_95 ?_
                exact g_iretp B hr hk dX9_ofFootman_96
              · refine g_if (fun c10 => ?_) (fun c10 => ?_)
                · refine g_tin (tgt := 97) (off := 86) (v := 6) B dX9_ofFootman_11 c10 (by decide) (by decide) rfl (by decide) ?_
                  refine g_aload_n B dX9_ofFootman_97 0 rfl rfl ?_
                  refine g_get (v := .int (M 0 4)) B shM_o (by decide) in_X9_ofFootman_X9 rfl 4 (by decide) (List.mem_of_getElem? (i := 6) rfl) rfl rfl dX9_ofFootman_98 ?_
                  refine g_iload_n B dX9_ofFootman_101 1 rfl rfl ?_
                  refine g_ishr B dX9_ofFootman_102 ?_
                  refine g_iconst (v := 1) B dX9_ofFootman_103 (by decide) ?_
                  refine g_iand B dX9_ofFootman_104 ?_
                  exact g_iretp B hr hk dX9_ofFootman_105
                · refine g_if (fun c11 => ?_) (fun c11 => ?_)
                  · refine g_tin (tgt := 106) (off := 95) (v := 7) B dX9_ofFootman_11 c11 (by decide) (by decide) rfl (by decide) ?_
                    refine g_aload_n B dX9_ofFootman_106 0 rfl rfl ?_
                    refine g_iload_n B dX9_ofFootman_107 1 rfl rfl ?_
                    refine g_callVIp (q := (RX9, TX9, 39)) (As := [.int v1]) (st := []) B (k_X9_hasArrived l D cA ad B.2.2.2.2.2.2.1 v1 M) (cwV 1 B.2.2.2.2.1 gX9_ofFootman_X9_hasArrived rfl rfl rfl (by decide +kernel) ⟨Nat.le_of_ble_eq_true rfl, Nat.le_of_ble_eq_true rfl⟩) shM_o (by decide) rfl rfl rfl (Nat.le_of_ble_eq_true rfl) dX9_ofFootman_108 (fun r12 _ => ?_)
                    refine g_if_eq (tgt := 118) B dX9_ofFootman_111 (by decide) (fun c13 => ?_) (fun c13 => ?_)
                    · refine g_iconst (v := 0) B dX9_ofFootman_118 (by decide) ?_
                      exact g_iretp B hr hk dX9_ofFootman_119
                    · refine g_iconst (v := 1) B dX9_ofFootman_114 (by decide) ?_
                      refine g_goto (tgt := 119) B dX9_ofFootman_115 (by decide) ?_
                      exact g_iretp B hr hk dX9_ofFootman_119
                  · refine g_tout (tgt := 120) B dX9_ofFootman_11 (sw_8 c3 c4 c5 c6 c7 c9 c10 c11) (by decide) ?_
                    refine g_bipush (v := -2) B dX9_ofFootman_120 (by decide) ?_
                    exact g_iretp B hr hk dX9_ofFootman_122
  · refine g_iconst (v := -1) B dX9_ofFootman_8 (by decide) ?_
    exact g_iretp B hr hk dX9_ofFootman_9

abbrev rm_X9_street : Room := { frames := 2, cells := 0, slots := 0, locals := 46 }
set_option maxHeartbeats 4000000 in
set_option maxRecDepth 100000 in
theorem k_X9_street (l : Launch) (D : va_G) (cA : Nat → ClassId) (ad : Nat → Nat) (had : adOK ad 25) (v1 : Int32) (v2 : Int32) (M : Mem) : CI l yX9_street wsX9_street rm_X9_street D cA ad (shM ad cA) 25 [.ref (ad 0), .int v1, .int v2] M (wM M (d_X9_street v1 v2 M)) := by
  refine CI_ofp (own := RX9) (cc := cX9_street) (maxL := 3) (rt := .int) had (by decide) rfl rfl (Nat.le_of_ble_eq_true rfl) ?_
  intro p e s m args below meth c R0 B hr hk
  unfold d_X9_street
  show GG p l e (headSpec wsX9_street rm_X9_street).room s m args below meth c D ad (shM ad cA) 25 3 (MQ below (QI D ad (shM ad cA) 25 s.heap.size (R0, M)) args s 0 0 (AX ad 25 s.heap.size)) R0 M 0 [(0, .ref (ad 0)), (1, .int v1), (2, .int v2)] [] _
  refine g_aload_n B dX9_street_0 0 rfl rfl ?_
  refine g_iload_n B dX9_street_1 1 rfl rfl ?_
  refine g_callVIp (q := (RX9, TX9, 39)) (As := [.int v1]) (st := []) B (k_X9_noCorner l D cA ad B.2.2.2.2.2.2.1 v1 M) (cwV 1 B.2.2.2.2.1 gX9_street_X9_noCorner rfl rfl rfl (by decide +kernel) ⟨Nat.le_of_ble_eq_true rfl, Nat.le_of_ble_eq_true rfl⟩) shM_o (by decide) rfl rfl rfl (Nat.le_of_ble_eq_true rfl) dX9_street_2 (fun r1 _ => ?_)
  refine g_if_ne (tgt := 21) B dX9_street_5 (by decide) (fun c2 => ?_) (fun c2 => ?_)
  · refine g_aload_n B dX9_street_8 0 rfl rfl ?_
    refine g_iload_n B dX9_street_9 2 rfl rfl ?_
    refine g_callVIp (q := (RX9, TX9, 39)) (As := [.int v2]) (st := []) B (k_X9_noCorner l D cA ad B.2.2.2.2.2.2.1 v2 M) (cwV 1 B.2.2.2.2.1 gX9_street_X9_noCorner rfl rfl rfl (by decide +kernel) ⟨Nat.le_of_ble_eq_true rfl, Nat.le_of_ble_eq_true rfl⟩) shM_o (by decide) rfl rfl rfl (Nat.le_of_ble_eq_true rfl) dX9_street_10 (fun r3 _ => ?_)
    refine g_if_ne (tgt := 21) B dX9_street_13 (by decide) (fun c4 => ?_) (fun c4 => ?_)
    · refine g_iload_n B dX9_street_16 1 rfl rfl ?_
      refine g_iload_n B dX9_street_17 2 rfl rfl ?_
      refine g_icmp_ne (tgt := 25) B dX9_street_18 (by decide) (fun c5 => ?_) (fun c5 => ?_)
      · refine g_iconst (v := -1) B dX9_street_21 (by decide) ?_
        refine g_goto (tgt := 36) B dX9_street_22 (by decide) ?_
        exact g_iretp B hr hk dX9_street_36
      · refine g_aload_n B dX9_street_25 0 rfl rfl ?_
        refine g_get (v := .ref (ad 1)) B shM_o (by decide) in_X9_street_X9 rfl 5 (by decide) (List.mem_of_getElem? (i := 1) rfl) rfl rfl dX9_street_26 ?_
        refine g_bipush (v := 6) B dX9_street_29 (by decide) ?_
        refine g_iload_n B dX9_street_31 1 rfl rfl ?_
        refine g_imul B dX9_street_32 ?_
        refine g_iload_n B dX9_street_33 2 rfl rfl ?_
        refine g_iadd B dX9_street_34 ?_
        refine g_iald B shM_a1 (by decide) dX9_street_35 ?_
        exact g_iretp B hr hk dX9_street_36
    · refine g_iconst (v := -1) B dX9_street_21 (by decide) ?_
      refine g_goto (tgt := 36) B dX9_street_22 (by decide) ?_
      exact g_iretp B hr hk dX9_street_36
  · refine g_iconst (v := -1) B dX9_street_21 (by decide) ?_
    refine g_goto (tgt := 36) B dX9_street_22 (by decide) ?_
    exact g_iretp B hr hk dX9_street_36

abbrev rm_X9_pave : Room := { frames := 2, cells := 0, slots := 0, locals := 46 }
set_option maxHeartbeats 4000000 in
set_option maxRecDepth 100000 in
theorem k_X9_pave (l : Launch) (D : va_G) (cA : Nat → ClassId) (ad : Nat → Nat) (had : adOK ad 25) (v1 : Int32) (v2 : Int32) (v3 : Int32) (M : Mem) : CI l yX9_pave wsX9_pave rm_X9_pave D cA ad (shM ad cA) 25 [.ref (ad 0), .int v1, .int v2, .int v3] M (d_X9_pave v1 v2 v3 M) := by
  refine CI_of (own := RX9) (cc := cX9_pave) (maxL := 5) (rt := .int) had (by decide) rfl rfl (Nat.le_of_ble_eq_true rfl) ?_
  intro p e s m args below meth c R0 B hr hk
  unfold d_X9_pave
  show GG p l e (headSpec wsX9_pave rm_X9_pave).room s m args below meth c D ad (shM ad cA) 25 5 (MQ below (QI D ad (shM ad cA) 25 s.heap.size R0) args s 0 0 (AX ad 25 s.heap.size)) R0 M 0 [(0, .ref (ad 0)), (1, .int v1), (2, .int v2), (3, .int v3)] [] _
  refine g_aload_n B dX9_pave_0 0 rfl rfl ?_
  refine g_iload_n B dX9_pave_1 1 rfl rfl ?_
  refine g_callVIp (q := (RX9, TX9, 39)) (As := [.int v1]) (st := []) B (k_X9_noCorner l D cA ad B.2.2.2.2.2.2.1 v1 M) (cwV 1 B.2.2.2.2.1 gX9_pave_X9_noCorner rfl rfl rfl (by decide +kernel) ⟨Nat.le_of_ble_eq_true rfl, Nat.le_of_ble_eq_true rfl⟩) shM_o (by decide) rfl rfl rfl (Nat.le_of_ble_eq_true rfl) dX9_pave_2 (fun r1 _ => ?_)
  refine g_if_ne (tgt := 21) B dX9_pave_5 (by decide) (fun c2 => ?_) (fun c2 => ?_)
  · refine g_aload_n B dX9_pave_8 0 rfl rfl ?_
    refine g_iload_n B dX9_pave_9 2 rfl rfl ?_
    refine g_callVIp (q := (RX9, TX9, 39)) (As := [.int v2]) (st := []) B (k_X9_noCorner l D cA ad B.2.2.2.2.2.2.1 v2 M) (cwV 1 B.2.2.2.2.1 gX9_pave_X9_noCorner rfl rfl rfl (by decide +kernel) ⟨Nat.le_of_ble_eq_true rfl, Nat.le_of_ble_eq_true rfl⟩) shM_o (by decide) rfl rfl rfl (Nat.le_of_ble_eq_true rfl) dX9_pave_10 (fun r3 _ => ?_)
    refine g_if_ne (tgt := 21) B dX9_pave_13 (by decide) (fun c4 => ?_) (fun c4 => ?_)
    · refine g_iload_n B dX9_pave_16 1 rfl rfl ?_
      refine g_iload_n B dX9_pave_17 2 rfl rfl ?_
      refine g_icmp_ne (tgt := 23) B dX9_pave_18 (by decide) (fun c5 => ?_) (fun c5 => ?_)
      · refine g_iconst (v := -1) B dX9_pave_21 (by decide) ?_
        exact g_iret B hr hk dX9_pave_22
      · refine g_iload_n B dX9_pave_23 3 rfl rfl ?_
        refine g_i2l B dX9_pave_24 ?_
        refine g_lconst (v := 0) B dX9_pave_25 (by decide) ?_
        refine g_ldc2 (v := 9) B dX9_pave_26 (List.mem_of_getElem? (i := 1) rfl) ?_
        refine g_callSIp (As := [.long v3.toInt64, .long (0 : Int64), .long (9 : Int64)]) (st := []) B (k_X9_in l D cA ad B.2.2.2.2.2.2.1 v3.toInt64 (0 : Int64) (9 : Int64) M) (va_cwS 3 B.2.2.2.2.1 gX9_pave_X9_in rfl rfl rfl (by decide +kernel) ⟨Nat.le_of_ble_eq_true rfl, Nat.le_of_ble_eq_true rfl⟩) rfl rfl (Nat.le_of_ble_eq_true rfl) dX9_pave_29 (fun r6 _ => ?_)
        refine g_if_ne (tgt := 38) B dX9_pave_32 (by decide) (fun c7 => ?_) (fun c7 => ?_)
        · refine g_bipush (v := -2) B dX9_pave_35 (by decide) ?_
          exact g_iret B hr hk dX9_pave_37
        · refine g_aload_n B dX9_pave_38 0 rfl rfl ?_
          refine g_get (v := .ref (ad 1)) B shM_o (by decide) in_X9_pave_X9 rfl 5 (by decide) (List.mem_of_getElem? (i := 2) rfl) rfl rfl dX9_pave_39 ?_
          refine g_bipush (v := 6) B dX9_pave_42 (by decide) ?_
          refine g_iload_n B dX9_pave_44 1 rfl rfl ?_
          refine g_imul B dX9_pave_45 ?_
          refine g_iload_n B dX9_pave_46 2 rfl rfl ?_
          refine g_iadd B dX9_pave_47 ?_
          refine g_iald B shM_a1 (by decide) dX9_pave_48 ?_
          refine g_lmI (fun x8 => ?_)
          refine g_istore B dX9_pave_49 (by decide) (lv1 := [(4, .int x8), (0, .ref (ad 0)), (1, .int v1), (2, .int v2), (3, .int v3)]) rfl ?_
          refine g_aload_n B dX9_pave_51 1 rfl rfl ?_
          refine g_get (v := .ref (ad 1)) B shM_o (by decide) in_X9_pave_X9 rfl 5 (by decide) (List.mem_of_getElem? (i := 2) rfl) rfl rfl dX9_pave_52 ?_
          refine g_bipush (v := 6) B dX9_pave_55 (by decide) ?_
          refine g_iload_n B dX9_pave_57 2 rfl rfl ?_
          refine g_imul B dX9_pave_58 ?_
          refine g_iload_n B dX9_pave_59 3 rfl rfl ?_
          refine g_iadd B dX9_pave_60 ?_
          refine g_iload_n B dX9_pave_61 4 rfl rfl ?_
          refine g_iast B shM_a1 (by decide) dX9_pave_62 (g_lmM (fun M9 => ?_))
          refine g_aload_n B dX9_pave_63 1 rfl rfl ?_
          refine g_get (v := .ref (ad 1)) B shM_o (by decide) in_X9_pave_X9 rfl 5 (by decide) (List.mem_of_getElem? (i := 2) rfl) rfl rfl dX9_pave_64 ?_
          refine g_bipush (v := 6) B dX9_pave_67 (by decide) ?_
          refine g_iload_n B dX9_pave_69 3 rfl rfl ?_
          refine g_imul B dX9_pave_70 ?_
          refine g_iload_n B dX9_pave_71 2 rfl rfl ?_
          refine g_iadd B dX9_pave_72 ?_
          refine g_iload_n B dX9_pave_73 4 rfl rfl ?_
          refine g_iast B shM_a1 (by decide) dX9_pave_74 (g_lmM (fun M10 => ?_))
          refine g_aload_n B dX9_pave_75 1 rfl rfl ?_
          refine g_callVVe (q := (RX9, TX9, 39)) (As := []) (st := []) B (k_X9_measures l D cA ad B.2.2.2.2.2.2.1  M10) (cwV 0 B.2.2.2.2.1 gX9_pave_X9_measures rfl rfl rfl (by decide +kernel) ⟨Nat.le_of_ble_eq_true rfl, Nat.le_of_ble_eq_true rfl⟩) shM_o (by decide) rfl rfl rfl (Nat.le_of_ble_eq_true rfl) dX9_pave_76 (fun M11 _ => ?_)
          refine g_iload B dX9_pave_79 0 rfl ?_
          exact g_iret B hr hk dX9_pave_81
    · refine g_iconst (v := -1) B dX9_pave_21 (by decide) ?_
      exact g_iret B hr hk dX9_pave_22
  · refine g_iconst (v := -1) B dX9_pave_21 (by decide) ?_
    exact g_iret B hr hk dX9_pave_22

abbrev rm_X9_far : Room := { frames := 2, cells := 0, slots := 0, locals := 46 }
set_option maxHeartbeats 4000000 in
set_option maxRecDepth 100000 in
theorem k_X9_far (l : Launch) (D : va_G) (cA : Nat → ClassId) (ad : Nat → Nat) (had : adOK ad 25) (v1 : Int32) (v2 : Int32) (M : Mem) : CI l yX9_far wsX9_far rm_X9_far D cA ad (shM ad cA) 25 [.ref (ad 0), .int v1, .int v2] M (wM M (d_X9_far v1 v2 M)) := by
  refine CI_ofp (own := RX9) (cc := cX9_far) (maxL := 3) (rt := .int) had (by decide) rfl rfl (Nat.le_of_ble_eq_true rfl) ?_
  intro p e s m args below meth c R0 B hr hk
  unfold d_X9_far
  show GG p l e (headSpec wsX9_far rm_X9_far).room s m args below meth c D ad (shM ad cA) 25 3 (MQ below (QI D ad (shM ad cA) 25 s.heap.size (R0, M)) args s 0 0 (AX ad 25 s.heap.size)) R0 M 0 [(0, .ref (ad 0)), (1, .int v1), (2, .int v2)] [] _
  refine g_aload_n B dX9_far_0 0 rfl rfl ?_
  refine g_iload_n B dX9_far_1 1 rfl rfl ?_
  refine g_callVIp (q := (RX9, TX9, 39)) (As := [.int v1]) (st := []) B (k_X9_noCorner l D cA ad B.2.2.2.2.2.2.1 v1 M) (cwV 1 B.2.2.2.2.1 gX9_far_X9_noCorner rfl rfl rfl (by decide +kernel) ⟨Nat.le_of_ble_eq_true rfl, Nat.le_of_ble_eq_true rfl⟩) shM_o (by decide) rfl rfl rfl (Nat.le_of_ble_eq_true rfl) dX9_far_2 (fun r1 _ => ?_)
  refine g_if_ne (tgt := 16) B dX9_far_5 (by decide) (fun c2 => ?_) (fun c2 => ?_)
  · refine g_aload_n B dX9_far_8 0 rfl rfl ?_
    refine g_iload_n B dX9_far_9 2 rfl rfl ?_
    refine g_callVIp (q := (RX9, TX9, 39)) (As := [.int v2]) (st := []) B (k_X9_noCorner l D cA ad B.2.2.2.2.2.2.1 v2 M) (cwV 1 B.2.2.2.2.1 gX9_far_X9_noCorner rfl rfl rfl (by decide +kernel) ⟨Nat.le_of_ble_eq_true rfl, Nat.le_of_ble_eq_true rfl⟩) shM_o (by decide) rfl rfl rfl (Nat.le_of_ble_eq_true rfl) dX9_far_10 (fun r3 _ => ?_)
    refine g_if_eq (tgt := 20) B dX9_far_13 (by decide) (fun c4 => ?_) (fun c4 => ?_)
    · refine g_aload_n B dX9_far_20 0 rfl rfl ?_
      refine g_iload_n B dX9_far_21 1 rfl rfl ?_
      refine g_iload_n B dX9_far_22 2 rfl rfl ?_
      refine g_callVIp (q := (RX9, TX9, 39)) (As := [.int v1, .int v2]) (st := []) B (k_X9_farFrom l D cA ad B.2.2.2.2.2.2.1 v1 v2 M) (cwV 2 B.2.2.2.2.1 gX9_far_X9_farFrom rfl rfl rfl (by decide +kernel) ⟨Nat.le_of_ble_eq_true rfl, Nat.le_of_ble_eq_true rfl⟩) shM_o (by decide) rfl rfl rfl (Nat.le_of_ble_eq_true rfl) dX9_far_23 (fun r5 _ => ?_)
      exact g_iretp B hr hk dX9_far_26
    · refine g_iconst (v := -1) B dX9_far_16 (by decide) ?_
      refine g_goto (tgt := 26) B dX9_far_17 (by decide) ?_
      exact g_iretp B hr hk dX9_far_26
  · refine g_iconst (v := -1) B dX9_far_16 (by decide) ?_
    refine g_goto (tgt := 26) B dX9_far_17 (by decide) ?_
    exact g_iretp B hr hk dX9_far_26

abbrev rm_X9_arrived : Room := { frames := 2, cells := 0, slots := 0, locals := 44 }
set_option maxHeartbeats 4000000 in
set_option maxRecDepth 100000 in
theorem k_X9_arrived (l : Launch) (D : va_G) (cA : Nat → ClassId) (ad : Nat → Nat) (had : adOK ad 25)  (M : Mem) : CI l yX9_arrived wsX9_arrived rm_X9_arrived D cA ad (shM ad cA) 25 [.ref (ad 0)] M (wM M (d_X9_arrived  M)) := by
  refine CI_ofp (own := RX9) (cc := cX9_arrived) (maxL := 3) (rt := .int) had (by decide) rfl rfl (Nat.le_of_ble_eq_true rfl) ?_
  intro p e s m args below meth c R0 B hr hk
  have hL4 : ∀ (f : Nat) (v1 : Int32) (v2 : Int32), GG p l e (headSpec wsX9_arrived rm_X9_arrived).room s m args below meth c D ad (shM ad cA) 25 3 (MQ below (QI D ad (shM ad cA) 25 s.heap.size (R0, M)) args s 0 0 (AX ad 25 s.heap.size)) R0 M 4 [(0, .ref (ad 0)), (1, .int v1), (2, .int v2)] [] (dX9_arrived_4l  M  f v1 v2 ) := by
    intro f
    induction f with
    | zero =>
      intro v1 v2
      exact g_none
    | succ f ih =>
      intro v1 v2
      rw [dX9_arrived_4l]
      refine g_iload_n B dX9_arrived_4 2 rfl rfl ?_
      refine g_aload_n B dX9_arrived_5 0 rfl rfl ?_
      refine g_get (v := .int (M 0 2)) B shM_o (by decide) in_X9_arrived_X9 rfl 2 (by decide) (List.mem_of_getElem? (i := 1) rfl) rfl rfl dX9_arrived_6 ?_
      refine g_icmp_ge (tgt := 34) B dX9_arrived_9 (by decide) (fun c1 => ?_) (fun c1 => ?_)
      · refine g_iload_n B dX9_arrived_34 1 rfl rfl ?_
        exact g_iretp B hr hk dX9_arrived_35
      · refine g_iload_n B dX9_arrived_12 1 rfl rfl ?_
        refine g_aload_n B dX9_arrived_13 0 rfl rfl ?_
        refine g_iload_n B dX9_arrived_14 2 rfl rfl ?_
        refine g_callVIp (q := (RX9, TX9, 39)) (As := [.int v2]) (st := [.int v1]) B (k_X9_hasArrived l D cA ad B.2.2.2.2.2.2.1 v2 M) (cwV 1 B.2.2.2.2.1 gX9_arrived_X9_hasArrived rfl rfl rfl (by decide +kernel) ⟨Nat.le_of_ble_eq_true rfl, Nat.le_of_ble_eq_true rfl⟩) shM_o (by decide) rfl rfl rfl (Nat.le_of_ble_eq_true rfl) dX9_arrived_15 (fun r2 _ => ?_)
        refine g_if_eq (tgt := 25) B dX9_arrived_18 (by decide) (fun c3 => ?_) (fun c3 => ?_)
        · refine g_iconst (v := 0) B dX9_arrived_25 (by decide) ?_
          refine g_iadd B dX9_arrived_26 ?_
          refine g_lmI (fun x4 => ?_)
          refine g_istore_n B dX9_arrived_27 rfl (by decide) (lv1 := [(1, .int x4), (0, .ref (ad 0)), (2, .int v2)]) rfl ?_
          refine g_iinc B dX9_arrived_28 2 (v := v2 + (1 : Int32)) rfl rfl (by decide) (lv1 := [(2, .int (v2 + (1 : Int32))), (1, .int x4), (0, .ref (ad 0))]) rfl ?_
          refine g_goto (tgt := 4) B dX9_arrived_31 (by decide) ?_
          exact g_lv [2, 1, 0] rfl (ih _ _)
        · refine g_iconst (v := 1) B dX9_arrived_21 (by decide) ?_
          refine g_goto (tgt := 26) B dX9_arrived_22 (by decide) ?_
          refine g_iadd B dX9_arrived_26 ?_
          refine g_lmI (fun x5 => ?_)
          refine g_istore_n B dX9_arrived_27 rfl (by decide) (lv1 := [(1, .int x5), (0, .ref (ad 0)), (2, .int v2)]) rfl ?_
          refine g_iinc B dX9_arrived_28 2 (v := v2 + (1 : Int32)) rfl rfl (by decide) (lv1 := [(2, .int (v2 + (1 : Int32))), (1, .int x5), (0, .ref (ad 0))]) rfl ?_
          refine g_goto (tgt := 4) B dX9_arrived_31 (by decide) ?_
          exact g_lv [2, 1, 0] rfl (ih _ _)
  unfold d_X9_arrived
  show GG p l e (headSpec wsX9_arrived rm_X9_arrived).room s m args below meth c D ad (shM ad cA) 25 3 (MQ below (QI D ad (shM ad cA) 25 s.heap.size (R0, M)) args s 0 0 (AX ad 25 s.heap.size)) R0 M 0 [(0, .ref (ad 0))] [] _
  refine g_iconst (v := 0) B dX9_arrived_0 (by decide) ?_
  refine g_istore_n B dX9_arrived_1 rfl (by decide) (lv1 := [(1, .int (0 : Int32)), (0, .ref (ad 0))]) rfl ?_
  refine g_iconst (v := 0) B dX9_arrived_2 (by decide) ?_
  refine g_istore_n B dX9_arrived_3 rfl (by decide) (lv1 := [(2, .int (0 : Int32)), (1, .int (0 : Int32)), (0, .ref (ad 0))]) rfl ?_
  refine g_lv [2, 1, 0] rfl (hL4    FU _ _)

abbrev rm_X9_passes : Room := { frames := 2, cells := 0, slots := 0, locals := 44 }
set_option maxHeartbeats 4000000 in
set_option maxRecDepth 100000 in
theorem k_X9_passes (l : Launch) (D : va_G) (cA : Nat → ClassId) (ad : Nat → Nat) (had : adOK ad 25)  (M : Mem) : CV l yX9_passes wsX9_passes rm_X9_passes D cA ad (shM ad cA) 25 [.ref (ad 0)] M (d_X9_passes  M) := by
  refine CV_of (own := RX9) (cc := cX9_passes) (maxL := 2) had (by decide) rfl rfl (Nat.le_of_ble_eq_true rfl) ?_
  intro p e s m args below meth c R0 B hr hk
  have hJ45 : ∀ (rec2 : Int32 → Mem → Option Mem) (v1 : Int32) (s0 : Int32) (s1 : Int32) (s2 : Int32) (M : Mem)   (hrec2 : ∀ (w1 : Int32) (M1 : Mem), GG p l e (headSpec wsX9_passes rm_X9_passes).room s m args below meth c D ad (shM ad cA) 25 2 (MQ below (QV D ad (shM ad cA) 25 s.heap.size R0) args s 0 0 (AX ad 25 s.heap.size)) R0 M1 2 [(0, .ref (ad 0)), (1, .int w1)] [] (rec2 w1 M1)), GG p l e (headSpec wsX9_passes rm_X9_passes).room s m args below meth c D ad (shM ad cA) 25 2 (MQ below (QV D ad (shM ad cA) 25 s.heap.size R0) args s 0 0 (AX ad 25 s.heap.size)) R0 M 45 [(0, .ref (ad 0)), (1, .int v1)] [.int s0, .int s1, .int s2, .ref (ad 7)] (dX9_passes_45j rec2 v1 s0 s1 s2 M) := by
    intro rec2 v1 s0 s1 s2 M hrec2
    unfold dX9_passes_45j
    refine g_iadd B dX9_passes_45 ?_
    refine g_iast B shM_a7 (by decide) dX9_passes_46 (g_lmM (fun M4 => ?_))
    refine g_iinc B dX9_passes_47 1 (v := v1 + (1 : Int32)) rfl rfl (by decide) (lv1 := [(1, .int (v1 + (1 : Int32))), (0, .ref (ad 0))]) rfl ?_
    refine g_goto (tgt := 2) B dX9_passes_50 (by decide) ?_
    exact g_lv [1, 0] rfl (hrec2 _ _)
  have hJ36 : ∀ (rec2 : Int32 → Mem → Option Mem) (v1 : Int32) (s0 : Int32) (s1 : Int32) (M : Mem)   (hrec2 : ∀ (w1 : Int32) (M1 : Mem), GG p l e (headSpec wsX9_passes rm_X9_passes).room s m args below meth c D ad (shM ad cA) 25 2 (MQ below (QV D ad (shM ad cA) 25 s.heap.size R0) args s 0 0 (AX ad 25 s.heap.size)) R0 M1 2 [(0, .ref (ad 0)), (1, .int w1)] [] (rec2 w1 M1)), GG p l e (headSpec wsX9_passes rm_X9_passes).room s m args below meth c D ad (shM ad cA) 25 2 (MQ below (QV D ad (shM ad cA) 25 s.heap.size R0) args s 0 0 (AX ad 25 s.heap.size)) R0 M 36 [(0, .ref (ad 0)), (1, .int v1)] [.int s0, .int s1, .ref (ad 7)] (dX9_passes_36j rec2 v1 s0 s1 M) := by
    intro rec2 v1 s0 s1 M hrec2
    unfold dX9_passes_36j
    refine g_iconst (v := 0) B dX9_passes_36 (by decide) ?_
    refine g_goto (tgt := 45) B dX9_passes_37 (by decide) ?_
    exact g_lv [0, 1] rfl (hJ45 _ _ _ _ _ _   hrec2)
  have hL2 : ∀   (k2_53 : Mem → Option Mem)  (hk2_53 : ∀  (M1 : Mem), GG p l e (headSpec wsX9_passes rm_X9_passes).room s m args below meth c D ad (shM ad cA) 25 2 (MQ below (QV D ad (shM ad cA) 25 s.heap.size R0) args s 0 0 (AX ad 25 s.heap.size)) R0 M1 53 [(0, .ref (ad 0))] [] (k2_53  M1)), ∀ (f : Nat) (v1 : Int32) (M : Mem), GG p l e (headSpec wsX9_passes rm_X9_passes).room s m args below meth c D ad (shM ad cA) 25 2 (MQ below (QV D ad (shM ad cA) 25 s.heap.size R0) args s 0 0 (AX ad 25 s.heap.size)) R0 M 2 [(0, .ref (ad 0)), (1, .int v1)] [] (dX9_passes_2l   k2_53 f v1 M) := by
    intro k2_53 hk2_53
    intro f
    induction f with
    | zero =>
      intro v1 M
      exact g_none
    | succ f ih =>
      intro v1 M
      rw [dX9_passes_2l]
      refine g_iload_n B dX9_passes_2 1 rfl rfl ?_
      refine g_aload_n B dX9_passes_3 0 rfl rfl ?_
      refine g_get (v := .int (M 0 2)) B shM_o (by decide) in_X9_passes_X9 rfl 2 (by decide) (List.mem_of_getElem? (i := 1) rfl) rfl rfl dX9_passes_4 ?_
      refine g_icmp_ge (tgt := 53) B dX9_passes_7 (by decide) (fun c1 => ?_) (fun c1 => ?_)
      · exact g_lv [0] rfl (hk2_53  _)
      · refine g_aload_n B dX9_passes_10 0 rfl rfl ?_
        refine g_get (v := .ref (ad 7)) B shM_o (by decide) in_X9_passes_X9 rfl 11 (by decide) (List.mem_of_getElem? (i := 2) rfl) rfl rfl dX9_passes_11 ?_
        refine g_iload_n B dX9_passes_14 1 rfl rfl ?_
        refine g_dup2 B dX9_passes_15 rfl rfl ?_
        refine g_iald B shM_a7 (by decide) dX9_passes_16 ?_
        refine g_aload_n B dX9_passes_17 0 rfl rfl ?_
        refine g_get (v := .int (M 0 4)) B shM_o (by decide) in_X9_passes_X9 rfl 4 (by decide) (List.mem_of_getElem? (i := 3) rfl) rfl rfl dX9_passes_18 ?_
        refine g_iload_n B dX9_passes_21 1 rfl rfl ?_
        refine g_callSIp (As := [.int (M 0 4), .int v1]) (st := [.int (M 7 v1.toNatClampNeg), .int v1, .ref (ad 7)]) B (k_X9_isIn l D cA ad B.2.2.2.2.2.2.1 (M 0 4) v1 M) (va_cwS 2 B.2.2.2.2.1 gX9_passes_X9_isIn rfl rfl rfl (by decide +kernel) ⟨Nat.le_of_ble_eq_true rfl, Nat.le_of_ble_eq_true rfl⟩) rfl rfl (Nat.le_of_ble_eq_true rfl) dX9_passes_22 (fun r2 _ => ?_)
        refine g_if_ne (tgt := 36) B dX9_passes_25 (by decide) (fun c3 => ?_) (fun c3 => ?_)
        · refine g_aload_n B dX9_passes_28 0 rfl rfl ?_
          refine g_iload_n B dX9_passes_29 1 rfl rfl ?_
          refine g_callVIp (q := (RX9, TX9, 39)) (As := [.int v1]) (st := [.int (M 7 v1.toNatClampNeg), .int v1, .ref (ad 7)]) B (k_X9_hasArrived l D cA ad B.2.2.2.2.2.2.1 v1 M) (cwV 1 B.2.2.2.2.1 gX9_passes_X9_hasArrived rfl rfl rfl (by decide +kernel) ⟨Nat.le_of_ble_eq_true rfl, Nat.le_of_ble_eq_true rfl⟩) shM_o (by decide) rfl rfl rfl (Nat.le_of_ble_eq_true rfl) dX9_passes_30 (fun r5 _ => ?_)
          refine g_if_eq (tgt := 40) B dX9_passes_33 (by decide) (fun c6 => ?_) (fun c6 => ?_)
          · refine g_aload_n B dX9_passes_40 0 rfl rfl ?_
            refine g_iload_n B dX9_passes_41 1 rfl rfl ?_
            refine g_callVIp (q := (RX9, TX9, 39)) (As := [.int v1]) (st := [.int (M 7 v1.toNatClampNeg), .int v1, .ref (ad 7)]) B (k_X9_paceOf l D cA ad B.2.2.2.2.2.2.1 v1 M) (cwV 1 B.2.2.2.2.1 gX9_passes_X9_paceOf rfl rfl rfl (by decide +kernel) ⟨Nat.le_of_ble_eq_true rfl, Nat.le_of_ble_eq_true rfl⟩) shM_o (by decide) rfl rfl rfl (Nat.le_of_ble_eq_true rfl) dX9_passes_42 (fun r7 _ => ?_)
            exact g_lv [0, 1] rfl (hJ45 _ _ _ _ _ _   ih)
          · exact g_lv [0, 1] rfl (hJ36 _ _ _ _ _   ih)
        · exact g_lv [0, 1] rfl (hJ36 _ _ _ _ _   ih)
  unfold d_X9_passes
  show GG p l e (headSpec wsX9_passes rm_X9_passes).room s m args below meth c D ad (shM ad cA) 25 2 (MQ below (QV D ad (shM ad cA) 25 s.heap.size R0) args s 0 0 (AX ad 25 s.heap.size)) R0 M 0 [(0, .ref (ad 0))] [] _
  refine g_iconst (v := 0) B dX9_passes_0 (by decide) ?_
  refine g_istore_n B dX9_passes_1 rfl (by decide) (lv1 := [(1, .int (0 : Int32)), (0, .ref (ad 0))]) rfl ?_
  refine g_lv [1, 0] rfl (hL2 _  ?_ FU _ _)
  · intro M8
    refine g_aload_n B dX9_passes_53 0 rfl rfl ?_
    refine g_dup B dX9_passes_54 rfl ?_
    refine g_get (v := .int (M8 0 3)) B shM_o (by decide) in_X9_passes_X9 rfl 3 (by decide) (List.mem_of_getElem? (i := 4) rfl) rfl rfl dX9_passes_55 ?_
    refine g_iconst (v := 1) B dX9_passes_58 (by decide) ?_
    refine g_iadd B dX9_passes_59 ?_
    refine g_put (ty := .int) B shM_o (by decide) in_X9_passes_X9 tyX9_ok nmX9 rfl 3 (by decide) (List.mem_of_getElem? (i := 4) rfl) rfl rfl (by decide +kernel) rfl rfl (fun _ => Nat.le_of_ble_eq_true rfl) (fun _ _ => rfl) dX9_passes_60 (g_lmM (fun M9 => ?_))
    exact g_vret B hr hk dX9_passes_63

abbrev rm_X9_days : Room := { frames := 3, cells := 0, slots := 0, locals := 66 }
set_option maxHeartbeats 4000000 in
set_option maxRecDepth 100000 in
theorem k_X9_days (l : Launch) (D : va_G) (cA : Nat → ClassId) (ad : Nat → Nat) (had : adOK ad 25) (v1 : Int32) (M : Mem) : CI l yX9_days wsX9_days rm_X9_days D cA ad (shM ad cA) 25 [.ref (ad 0), .int v1] M (d_X9_days v1 M) := by
  refine CI_of (own := RX9) (cc := cX9_days) (maxL := 4) (rt := .int) had (by decide) rfl rfl (Nat.le_of_ble_eq_true rfl) ?_
  intro p e s m args below meth c R0 B hr hk
  have hL32 : ∀ (v1 : Int32) (v2 : Int32)  (k32_47 : Mem → Option (Int32 × Mem))  (hk32_47 : ∀  (M1 : Mem), GG p l e (headSpec wsX9_days rm_X9_days).room s m args below meth c D ad (shM ad cA) 25 4 (MQ below (QI D ad (shM ad cA) 25 s.heap.size R0) args s 0 0 (AX ad 25 s.heap.size)) R0 M1 47 [(0, .ref (ad 0)), (2, .int v2)] [] (k32_47  M1)), ∀ (f : Nat) (v3 : Int32) (M : Mem), GG p l e (headSpec wsX9_days rm_X9_days).room s m args below meth c D ad (shM ad cA) 25 4 (MQ below (QI D ad (shM ad cA) 25 s.heap.size R0) args s 0 0 (AX ad 25 s.heap.size)) R0 M 32 [(0, .ref (ad 0)), (1, .int v1), (2, .int v2), (3, .int v3)] [] (dX9_days_32l v1 v2  k32_47 f v3 M) := by
    intro v1 v2 k32_47 hk32_47
    intro f
    induction f with
    | zero =>
      intro v3 M
      exact g_none
    | succ f ih =>
      intro v3 M
      rw [dX9_days_32l]
      refine g_iload_n B dX9_days_32 3 rfl rfl ?_
      refine g_iload_n B dX9_days_33 1 rfl rfl ?_
      refine g_icmp_ge (tgt := 47) B dX9_days_34 (by decide) (fun c5 => ?_) (fun c5 => ?_)
      · exact g_lv [0, 2] rfl (hk32_47  _)
      · refine g_aload_n B dX9_days_37 0 rfl rfl ?_
        refine g_callVVe (q := (RX9, TX9, 39)) (As := []) (st := []) B (k_X9_passes l D cA ad B.2.2.2.2.2.2.1  M) (cwV 0 B.2.2.2.2.1 gX9_days_X9_passes rfl rfl rfl (by decide +kernel) ⟨Nat.le_of_ble_eq_true rfl, Nat.le_of_ble_eq_true rfl⟩) shM_o (by decide) rfl rfl rfl (Nat.le_of_ble_eq_true rfl) dX9_days_38 (fun M6 _ => ?_)
        refine g_iinc B dX9_days_41 3 (v := v3 + (1 : Int32)) rfl rfl (by decide) (lv1 := [(3, .int (v3 + (1 : Int32))), (0, .ref (ad 0)), (1, .int v1), (2, .int v2)]) rfl ?_
        refine g_goto (tgt := 32) B dX9_days_44 (by decide) ?_
        exact g_lv [1, 2, 3, 0] rfl (ih _ _)
  unfold d_X9_days
  show GG p l e (headSpec wsX9_days rm_X9_days).room s m args below meth c D ad (shM ad cA) 25 4 (MQ below (QI D ad (shM ad cA) 25 s.heap.size R0) args s 0 0 (AX ad 25 s.heap.size)) R0 M 0 [(0, .ref (ad 0)), (1, .int v1)] [] _
  refine g_iload_n B dX9_days_0 1 rfl rfl ?_
  refine g_i2l B dX9_days_1 ?_
  refine g_lconst (v := 1) B dX9_days_2 (by decide) ?_
  refine g_ldc2 (v := 99) B dX9_days_3 (List.mem_of_getElem? (i := 1) rfl) ?_
  refine g_callSIp (As := [.long v1.toInt64, .long (1 : Int64), .long (99 : Int64)]) (st := []) B (k_X9_in l D cA ad B.2.2.2.2.2.2.1 v1.toInt64 (1 : Int64) (99 : Int64) M) (va_cwS 3 B.2.2.2.2.1 gX9_days_X9_in rfl rfl rfl (by decide +kernel) ⟨Nat.le_of_ble_eq_true rfl, Nat.le_of_ble_eq_true rfl⟩) rfl rfl (Nat.le_of_ble_eq_true rfl) dX9_days_6 (fun r1 _ => ?_)
  refine g_if_ne (tgt := 15) B dX9_days_9 (by decide) (fun c2 => ?_) (fun c2 => ?_)
  · refine g_bipush (v := -2) B dX9_days_12 (by decide) ?_
    exact g_iret B hr hk dX9_days_14
  · refine g_aload_n B dX9_days_15 0 rfl rfl ?_
    refine g_get (v := .int (M 0 2)) B shM_o (by decide) in_X9_days_X9 rfl 2 (by decide) (List.mem_of_getElem? (i := 2) rfl) rfl rfl dX9_days_16 ?_
    refine g_if_ne (tgt := 25) B dX9_days_19 (by decide) (fun c3 => ?_) (fun c3 => ?_)
    · refine g_bipush (v := -3) B dX9_days_22 (by decide) ?_
      exact g_iret B hr hk dX9_days_24
    · refine g_aload_n B dX9_days_25 0 rfl rfl ?_
      refine g_callVIp (q := (RX9, TX9, 39)) (As := []) (st := []) B (k_X9_arrived l D cA ad B.2.2.2.2.2.2.1  M) (cwV 0 B.2.2.2.2.1 gX9_days_X9_arrived rfl rfl rfl (by decide +kernel) ⟨Nat.le_of_ble_eq_true rfl, Nat.le_of_ble_eq_true rfl⟩) shM_o (by decide) rfl rfl rfl (Nat.le_of_ble_eq_true rfl) dX9_days_26 (fun r4 _ => ?_)
      refine g_istore_n B dX9_days_29 rfl (by decide) (lv1 := [(2, .int r4), (0, .ref (ad 0)), (1, .int v1)]) rfl ?_
      refine g_iconst (v := 0) B dX9_days_30 (by decide) ?_
      refine g_istore_n B dX9_days_31 rfl (by decide) (lv1 := [(3, .int (0 : Int32)), (2, .int r4), (0, .ref (ad 0)), (1, .int v1)]) rfl ?_
      refine g_lv [2, 3, 1, 0] rfl (hL32 _ _ _  ?_ FU _ _)
      · intro M7
        refine g_aload_n B dX9_days_47 0 rfl rfl ?_
        refine g_callVIp (q := (RX9, TX9, 39)) (As := []) (st := []) B (k_X9_arrived l D cA ad B.2.2.2.2.2.2.1  M7) (cwV 0 B.2.2.2.2.1 gX9_days_X9_arrived rfl rfl rfl (by decide +kernel) ⟨Nat.le_of_ble_eq_true rfl, Nat.le_of_ble_eq_true rfl⟩) shM_o (by decide) rfl rfl rfl (Nat.le_of_ble_eq_true rfl) dX9_days_48 (fun r8 _ => ?_)
        refine g_iload_n B dX9_days_51 1 rfl rfl ?_
        refine g_isub B dX9_days_52 ?_
        exact g_iret B hr hk dX9_days_53

abbrev rm_X9_sat : Room := { frames := 1, cells := 0, slots := 0, locals := 21 }
set_option maxHeartbeats 4000000 in
set_option maxRecDepth 100000 in
theorem k_X9_sat (l : Launch) (D : va_G) (cA : Nat → ClassId) (ad : Nat → Nat) (had : adOK ad 25) (v1 : Int32) (M : Mem) : CI l yX9_sat wsX9_sat rm_X9_sat D cA ad (shM ad cA) 25 [.ref (ad 0), .int v1] M (d_X9_sat v1 M) := by
  refine CI_of (own := RX9) (cc := cX9_sat) (maxL := 3) (rt := .boolean) had (by decide) rfl rfl (Nat.le_of_ble_eq_true rfl) ?_
  intro p e s m args below meth c R0 B hr hk
  have hJ16 : ∀  (v1 : Int32) (s0 : Int32) (M : Mem)   , GG p l e (headSpec wsX9_sat rm_X9_sat).room s m args below meth c D ad (shM ad cA) 25 3 (MQ below (QI D ad (shM ad cA) 25 s.heap.size R0) args s 0 0 (AX ad 25 s.heap.size)) R0 M 16 [(0, .ref (ad 0)), (1, .int v1)] [.int s0] (dX9_sat_16j  v1 s0 M) := by
    intro v1 s0 M
    unfold dX9_sat_16j
    refine g_istore_n B dX9_sat_16 rfl (by decide) (lv1 := [(2, .int s0), (0, .ref (ad 0)), (1, .int v1)]) rfl ?_
    refine g_aload_n B dX9_sat_17 1 rfl rfl ?_
    refine g_dup B dX9_sat_18 rfl ?_
    refine g_get (v := .int (M 0 4)) B shM_o (by decide) in_X9_sat_X9 rfl 4 (by decide) (List.mem_of_getElem? (i := 1) rfl) rfl rfl dX9_sat_19 ?_
    refine g_iconst (v := 1) B dX9_sat_22 (by decide) ?_
    refine g_iload_n B dX9_sat_23 2 rfl rfl ?_
    refine g_ishl B dX9_sat_24 ?_
    refine g_ior B dX9_sat_25 ?_
    refine g_put (ty := .int) B shM_o (by decide) in_X9_sat_X9 tyX9_ok nmX9 rfl 4 (by decide) (List.mem_of_getElem? (i := 1) rfl) rfl rfl (by decide +kernel) rfl rfl (fun _ => Nat.le_of_ble_eq_true rfl) (fun _ _ => rfl) dX9_sat_26 (g_lmM (fun M3 => ?_))
    refine g_iload_n B dX9_sat_29 0 rfl rfl ?_
    refine g_gd (fun z4 => ?_)
    exact g_zret B hr hk (nz z4) dX9_sat_30
  unfold d_X9_sat
  show GG p l e (headSpec wsX9_sat rm_X9_sat).room s m args below meth c D ad (shM ad cA) 25 3 (MQ below (QI D ad (shM ad cA) 25 s.heap.size R0) args s 0 0 (AX ad 25 s.heap.size)) R0 M 0 [(0, .ref (ad 0)), (1, .int v1)] [] _
  refine g_aload_n B dX9_sat_0 0 rfl rfl ?_
  refine g_get (v := .int (M 0 4)) B shM_o (by decide) in_X9_sat_X9 rfl 4 (by decide) (List.mem_of_getElem? (i := 1) rfl) rfl rfl dX9_sat_1 ?_
  refine g_iload_n B dX9_sat_4 1 rfl rfl ?_
  refine g_callSIp (As := [.int (M 0 4), .int v1]) (st := []) B (k_X9_isIn l D cA ad B.2.2.2.2.2.2.1 (M 0 4) v1 M) (va_cwS 2 B.2.2.2.2.1 gX9_sat_X9_isIn rfl rfl rfl (by decide +kernel) ⟨Nat.le_of_ble_eq_true rfl, Nat.le_of_ble_eq_true rfl⟩) rfl rfl (Nat.le_of_ble_eq_true rfl) dX9_sat_5 (fun r1 _ => ?_)
  refine g_if_ne (tgt := 15) B dX9_sat_8 (by decide) (fun c2 => ?_) (fun c2 => ?_)
  · refine g_iconst (v := 1) B dX9_sat_11 (by decide) ?_
    refine g_goto (tgt := 16) B dX9_sat_12 (by decide) ?_
    exact g_lv [0, 1] rfl (hJ16 _ _ _   )
  · refine g_iconst (v := 0) B dX9_sat_15 (by decide) ?_
    exact g_lv [0, 1] rfl (hJ16 _ _ _   )

abbrev rm_X9_rose : Room := { frames := 1, cells := 0, slots := 0, locals := 21 }
set_option maxHeartbeats 4000000 in
set_option maxRecDepth 100000 in
theorem k_X9_rose (l : Launch) (D : va_G) (cA : Nat → ClassId) (ad : Nat → Nat) (had : adOK ad 25) (v1 : Int32) (M : Mem) : CI l yX9_rose wsX9_rose rm_X9_rose D cA ad (shM ad cA) 25 [.ref (ad 0), .int v1] M (d_X9_rose v1 M) := by
  refine CI_of (own := RX9) (cc := cX9_rose) (maxL := 3) (rt := .boolean) had (by decide) rfl rfl (Nat.le_of_ble_eq_true rfl) ?_
  intro p e s m args below meth c R0 B hr hk
  unfold d_X9_rose
  show GG p l e (headSpec wsX9_rose rm_X9_rose).room s m args below meth c D ad (shM ad cA) 25 3 (MQ below (QI D ad (shM ad cA) 25 s.heap.size R0) args s 0 0 (AX ad 25 s.heap.size)) R0 M 0 [(0, .ref (ad 0)), (1, .int v1)] [] _
  refine g_aload_n B dX9_rose_0 0 rfl rfl ?_
  refine g_get (v := .int (M 0 4)) B shM_o (by decide) in_X9_rose_X9 rfl 4 (by decide) (List.mem_of_getElem? (i := 1) rfl) rfl rfl dX9_rose_1 ?_
  refine g_iload_n B dX9_rose_4 1 rfl rfl ?_
  refine g_callSIp (As := [.int (M 0 4), .int v1]) (st := []) B (k_X9_isIn l D cA ad B.2.2.2.2.2.2.1 (M 0 4) v1 M) (va_cwS 2 B.2.2.2.2.1 gX9_rose_X9_isIn rfl rfl rfl (by decide +kernel) ⟨Nat.le_of_ble_eq_true rfl, Nat.le_of_ble_eq_true rfl⟩) rfl rfl (Nat.le_of_ble_eq_true rfl) dX9_rose_5 (fun r1 _ => ?_)
  refine g_istore_n B dX9_rose_8 rfl (by decide) (lv1 := [(2, .int r1), (0, .ref (ad 0)), (1, .int v1)]) rfl ?_
  refine g_aload_n B dX9_rose_9 1 rfl rfl ?_
  refine g_dup B dX9_rose_10 rfl ?_
  refine g_get (v := .int (M 0 4)) B shM_o (by decide) in_X9_rose_X9 rfl 4 (by decide) (List.mem_of_getElem? (i := 1) rfl) rfl rfl dX9_rose_11 ?_
  refine g_iconst (v := 1) B dX9_rose_14 (by decide) ?_
  refine g_iload_n B dX9_rose_15 2 rfl rfl ?_
  refine g_ishl B dX9_rose_16 ?_
  refine g_iconst (v := -1) B dX9_rose_17 (by decide) ?_
  refine g_ixor B dX9_rose_18 ?_
  refine g_iand B dX9_rose_19 ?_
  refine g_put (ty := .int) B shM_o (by decide) in_X9_rose_X9 tyX9_ok nmX9 rfl 4 (by decide) (List.mem_of_getElem? (i := 1) rfl) rfl rfl (by decide +kernel) rfl rfl (fun _ => Nat.le_of_ble_eq_true rfl) (fun _ _ => rfl) dX9_rose_20 (g_lmM (fun M2 => ?_))
  refine g_iload_n B dX9_rose_23 0 rfl rfl ?_
  refine g_gd (fun z3 => ?_)
  exact g_zret B hr hk (nz z3) dX9_rose_24

abbrev rm_X9_sit : Room := { frames := 2, cells := 0, slots := 0, locals := 46 }
set_option maxHeartbeats 4000000 in
set_option maxRecDepth 100000 in
theorem k_X9_sit (l : Launch) (D : va_G) (cA : Nat → ClassId) (ad : Nat → Nat) (had : adOK ad 25) (v1 : Int32) (M : Mem) : CI l yX9_sit wsX9_sit rm_X9_sit D cA ad (shM ad cA) 25 [.ref (ad 0), .int v1] M (d_X9_sit v1 M) := by
  refine CI_of (own := RX9) (cc := cX9_sit) (maxL := 2) (rt := .int) had (by decide) rfl rfl (Nat.le_of_ble_eq_true rfl) ?_
  intro p e s m args below meth c R0 B hr hk
  unfold d_X9_sit
  show GG p l e (headSpec wsX9_sit rm_X9_sit).room s m args below meth c D ad (shM ad cA) 25 2 (MQ below (QI D ad (shM ad cA) 25 s.heap.size R0) args s 0 0 (AX ad 25 s.heap.size)) R0 M 0 [(0, .ref (ad 0)), (1, .int v1)] [] _
  refine g_aload_n B dX9_sit_0 0 rfl rfl ?_
  refine g_iload_n B dX9_sit_1 1 rfl rfl ?_
  refine g_callVIp (q := (RX9, TX9, 39)) (As := [.int v1]) (st := []) B (k_X9_noFootman l D cA ad B.2.2.2.2.2.2.1 v1 M) (cwV 1 B.2.2.2.2.1 gX9_sit_X9_noFootman rfl rfl rfl (by decide +kernel) ⟨Nat.le_of_ble_eq_true rfl, Nat.le_of_ble_eq_true rfl⟩) shM_o (by decide) rfl rfl rfl (Nat.le_of_ble_eq_true rfl) dX9_sit_2 (fun r1 _ => ?_)
  refine g_if_eq (tgt := 10) B dX9_sit_5 (by decide) (fun c2 => ?_) (fun c2 => ?_)
  · refine g_aload_n B dX9_sit_10 0 rfl rfl ?_
    refine g_iload_n B dX9_sit_11 1 rfl rfl ?_
    refine g_callVIe (q := (RX9, TX9, 39)) (As := [.int v1]) (st := []) B (k_X9_sat l D cA ad B.2.2.2.2.2.2.1 v1 M) (cwV 1 B.2.2.2.2.1 gX9_sit_X9_sat rfl rfl rfl (by decide +kernel) ⟨Nat.le_of_ble_eq_true rfl, Nat.le_of_ble_eq_true rfl⟩) shM_o (by decide) rfl rfl rfl (Nat.le_of_ble_eq_true rfl) dX9_sit_12 (fun r3 M4 _ => ?_)
    refine g_if_eq (tgt := 28) B dX9_sit_15 (by decide) (fun c5 => ?_) (fun c5 => ?_)
    · refine g_bipush (v := -3) B dX9_sit_28 (by decide) ?_
      exact g_iret B hr hk dX9_sit_30
    · refine g_aload_n B dX9_sit_18 0 rfl rfl ?_
      refine g_get (v := .int (M4 0 4)) B shM_o (by decide) in_X9_sit_X9 rfl 4 (by decide) (List.mem_of_getElem? (i := 1) rfl) rfl rfl dX9_sit_19 ?_
      refine g_callSIp (As := [.int (M4 0 4)]) (st := []) B (k_X9_bits l D cA ad B.2.2.2.2.2.2.1 (M4 0 4) M4) (va_cwS 1 B.2.2.2.2.1 gX9_sit_X9_bits rfl rfl rfl (by decide +kernel) ⟨Nat.le_of_ble_eq_true rfl, Nat.le_of_ble_eq_true rfl⟩) rfl rfl (Nat.le_of_ble_eq_true rfl) dX9_sit_22 (fun r6 _ => ?_)
      refine g_goto (tgt := 30) B dX9_sit_25 (by decide) ?_
      exact g_iret B hr hk dX9_sit_30
  · refine g_iconst (v := -1) B dX9_sit_8 (by decide) ?_
    exact g_iret B hr hk dX9_sit_9

abbrev rm_X9_rise : Room := { frames := 2, cells := 0, slots := 0, locals := 46 }
set_option maxHeartbeats 4000000 in
set_option maxRecDepth 100000 in
theorem k_X9_rise (l : Launch) (D : va_G) (cA : Nat → ClassId) (ad : Nat → Nat) (had : adOK ad 25) (v1 : Int32) (M : Mem) : CI l yX9_rise wsX9_rise rm_X9_rise D cA ad (shM ad cA) 25 [.ref (ad 0), .int v1] M (d_X9_rise v1 M) := by
  refine CI_of (own := RX9) (cc := cX9_rise) (maxL := 2) (rt := .int) had (by decide) rfl rfl (Nat.le_of_ble_eq_true rfl) ?_
  intro p e s m args below meth c R0 B hr hk
  unfold d_X9_rise
  show GG p l e (headSpec wsX9_rise rm_X9_rise).room s m args below meth c D ad (shM ad cA) 25 2 (MQ below (QI D ad (shM ad cA) 25 s.heap.size R0) args s 0 0 (AX ad 25 s.heap.size)) R0 M 0 [(0, .ref (ad 0)), (1, .int v1)] [] _
  refine g_aload_n B dX9_rise_0 0 rfl rfl ?_
  refine g_iload_n B dX9_rise_1 1 rfl rfl ?_
  refine g_callVIp (q := (RX9, TX9, 39)) (As := [.int v1]) (st := []) B (k_X9_noFootman l D cA ad B.2.2.2.2.2.2.1 v1 M) (cwV 1 B.2.2.2.2.1 gX9_rise_X9_noFootman rfl rfl rfl (by decide +kernel) ⟨Nat.le_of_ble_eq_true rfl, Nat.le_of_ble_eq_true rfl⟩) shM_o (by decide) rfl rfl rfl (Nat.le_of_ble_eq_true rfl) dX9_rise_2 (fun r1 _ => ?_)
  refine g_if_eq (tgt := 10) B dX9_rise_5 (by decide) (fun c2 => ?_) (fun c2 => ?_)
  · refine g_aload_n B dX9_rise_10 0 rfl rfl ?_
    refine g_iload_n B dX9_rise_11 1 rfl rfl ?_
    refine g_callVIe (q := (RX9, TX9, 39)) (As := [.int v1]) (st := []) B (k_X9_rose l D cA ad B.2.2.2.2.2.2.1 v1 M) (cwV 1 B.2.2.2.2.1 gX9_rise_X9_rose rfl rfl rfl (by decide +kernel) ⟨Nat.le_of_ble_eq_true rfl, Nat.le_of_ble_eq_true rfl⟩) shM_o (by decide) rfl rfl rfl (Nat.le_of_ble_eq_true rfl) dX9_rise_12 (fun r3 M4 _ => ?_)
    refine g_if_eq (tgt := 28) B dX9_rise_15 (by decide) (fun c5 => ?_) (fun c5 => ?_)
    · refine g_bipush (v := -3) B dX9_rise_28 (by decide) ?_
      exact g_iret B hr hk dX9_rise_30
    · refine g_aload_n B dX9_rise_18 0 rfl rfl ?_
      refine g_get (v := .int (M4 0 4)) B shM_o (by decide) in_X9_rise_X9 rfl 4 (by decide) (List.mem_of_getElem? (i := 1) rfl) rfl rfl dX9_rise_19 ?_
      refine g_callSIp (As := [.int (M4 0 4)]) (st := []) B (k_X9_bits l D cA ad B.2.2.2.2.2.2.1 (M4 0 4) M4) (va_cwS 1 B.2.2.2.2.1 gX9_rise_X9_bits rfl rfl rfl (by decide +kernel) ⟨Nat.le_of_ble_eq_true rfl, Nat.le_of_ble_eq_true rfl⟩) rfl rfl (Nat.le_of_ble_eq_true rfl) dX9_rise_22 (fun r6 _ => ?_)
      refine g_goto (tgt := 30) B dX9_rise_25 (by decide) ?_
      exact g_iret B hr hk dX9_rise_30
  · refine g_iconst (v := -1) B dX9_rise_8 (by decide) ?_
    exact g_iret B hr hk dX9_rise_9

abbrev rm_X9_give : Room := { frames := 2, cells := 0, slots := 0, locals := 46 }
set_option maxHeartbeats 4000000 in
set_option maxRecDepth 100000 in
theorem k_X9_give (l : Launch) (D : va_G) (cA : Nat → ClassId) (ad : Nat → Nat) (had : adOK ad 25) (v1 : Int32) (v2 : Int32) (v3 : Int32) (v4 : Int32) (M : Mem) : CI l yX9_give wsX9_give rm_X9_give D cA ad (shM ad cA) 25 [.ref (ad 0), .int v1, .int v2, .int v3, .int v4] M (d_X9_give v1 v2 v3 v4 M) := by
  refine CI_of (own := RX9) (cc := cX9_give) (maxL := 5) (rt := .int) had (by decide) rfl rfl (Nat.le_of_ble_eq_true rfl) ?_
  intro p e s m args below meth c R0 B hr hk
  unfold d_X9_give
  show GG p l e (headSpec wsX9_give rm_X9_give).room s m args below meth c D ad (shM ad cA) 25 5 (MQ below (QI D ad (shM ad cA) 25 s.heap.size R0) args s 0 0 (AX ad 25 s.heap.size)) R0 M 0 [(0, .ref (ad 0)), (1, .int v1), (2, .int v2), (3, .int v3), (4, .int v4)] [] _
  refine g_iload_n B dX9_give_0 1 rfl rfl ?_
  refine g_i2l B dX9_give_1 ?_
  refine g_lconst (v := 0) B dX9_give_2 (by decide) ?_
  refine g_ldc2 (v := 2) B dX9_give_3 (List.mem_of_getElem? (i := 1) rfl) ?_
  refine g_callSIp (As := [.long v1.toInt64, .long (0 : Int64), .long (2 : Int64)]) (st := []) B (k_X9_in l D cA ad B.2.2.2.2.2.2.1 v1.toInt64 (0 : Int64) (2 : Int64) M) (va_cwS 3 B.2.2.2.2.1 gX9_give_X9_in rfl rfl rfl (by decide +kernel) ⟨Nat.le_of_ble_eq_true rfl, Nat.le_of_ble_eq_true rfl⟩) rfl rfl (Nat.le_of_ble_eq_true rfl) dX9_give_6 (fun r1 _ => ?_)
  refine g_if_eq (tgt := 25) B dX9_give_9 (by decide) (fun c2 => ?_) (fun c2 => ?_)
  · refine g_bipush (v := -2) B dX9_give_25 (by decide) ?_
    exact g_iret B hr hk dX9_give_27
  · refine g_iload B dX9_give_12 4 rfl ?_
    refine g_i2l B dX9_give_14 ?_
    refine g_lconst (v := 1) B dX9_give_15 (by decide) ?_
    refine g_ldc2 (v := 9) B dX9_give_16 (List.mem_of_getElem? (i := 2) rfl) ?_
    refine g_callSIp (As := [.long v4.toInt64, .long (1 : Int64), .long (9 : Int64)]) (st := []) B (k_X9_in l D cA ad B.2.2.2.2.2.2.1 v4.toInt64 (1 : Int64) (9 : Int64) M) (va_cwS 3 B.2.2.2.2.1 gX9_give_X9_in rfl rfl rfl (by decide +kernel) ⟨Nat.le_of_ble_eq_true rfl, Nat.le_of_ble_eq_true rfl⟩) rfl rfl (Nat.le_of_ble_eq_true rfl) dX9_give_19 (fun r3 _ => ?_)
    refine g_if_ne (tgt := 28) B dX9_give_22 (by decide) (fun c4 => ?_) (fun c4 => ?_)
    · refine g_bipush (v := -2) B dX9_give_25 (by decide) ?_
      exact g_iret B hr hk dX9_give_27
    · refine g_aload_n B dX9_give_28 0 rfl rfl ?_
      refine g_iload_n B dX9_give_29 2 rfl rfl ?_
      refine g_callVIp (q := (RX9, TX9, 39)) (As := [.int v2]) (st := []) B (k_X9_noCorner l D cA ad B.2.2.2.2.2.2.1 v2 M) (cwV 1 B.2.2.2.2.1 gX9_give_X9_noCorner rfl rfl rfl (by decide +kernel) ⟨Nat.le_of_ble_eq_true rfl, Nat.le_of_ble_eq_true rfl⟩) shM_o (by decide) rfl rfl rfl (Nat.le_of_ble_eq_true rfl) dX9_give_30 (fun r5 _ => ?_)
      refine g_if_ne (tgt := 44) B dX9_give_33 (by decide) (fun c6 => ?_) (fun c6 => ?_)
      · refine g_aload_n B dX9_give_36 0 rfl rfl ?_
        refine g_iload_n B dX9_give_37 3 rfl rfl ?_
        refine g_callVIp (q := (RX9, TX9, 39)) (As := [.int v3]) (st := []) B (k_X9_noCorner l D cA ad B.2.2.2.2.2.2.1 v3 M) (cwV 1 B.2.2.2.2.1 gX9_give_X9_noCorner rfl rfl rfl (by decide +kernel) ⟨Nat.le_of_ble_eq_true rfl, Nat.le_of_ble_eq_true rfl⟩) shM_o (by decide) rfl rfl rfl (Nat.le_of_ble_eq_true rfl) dX9_give_38 (fun r7 _ => ?_)
        refine g_if_eq (tgt := 46) B dX9_give_41 (by decide) (fun c8 => ?_) (fun c8 => ?_)
        · refine g_aload_n B dX9_give_46 0 rfl rfl ?_
          refine g_get (v := .int (M 0 2)) B shM_o (by decide) in_X9_give_X9 rfl 2 (by decide) (List.mem_of_getElem? (i := 3) rfl) rfl rfl dX9_give_47 ?_
          refine g_bipush (v := 6) B dX9_give_50 (by decide) ?_
          refine g_icmp_ne (tgt := 58) B dX9_give_52 (by decide) (fun c9 => ?_) (fun c9 => ?_)
          · refine g_bipush (v := -4) B dX9_give_55 (by decide) ?_
            exact g_iret B hr hk dX9_give_57
          · refine g_aload_n B dX9_give_58 0 rfl rfl ?_
            refine g_get (v := .ref (ad 3)) B shM_o (by decide) in_X9_give_X9 rfl 7 (by decide) (List.mem_of_getElem? (i := 4) rfl) rfl rfl dX9_give_59 ?_
            refine g_aload_n B dX9_give_62 0 rfl rfl ?_
            refine g_get (v := .int (M 0 2)) B shM_o (by decide) in_X9_give_X9 rfl 2 (by decide) (List.mem_of_getElem? (i := 3) rfl) rfl rfl dX9_give_63 ?_
            refine g_iload_n B dX9_give_66 1 rfl rfl ?_
            refine g_iast B shM_a3 (by decide) dX9_give_67 (g_lmM (fun M10 => ?_))
            refine g_aload_n B dX9_give_68 0 rfl rfl ?_
            refine g_get (v := .ref (ad 4)) B shM_o (by decide) in_X9_give_X9 rfl 8 (by decide) (List.mem_of_getElem? (i := 5) rfl) rfl rfl dX9_give_69 ?_
            refine g_aload_n B dX9_give_72 0 rfl rfl ?_
            refine g_get (v := .int (M10 0 2)) B shM_o (by decide) in_X9_give_X9 rfl 2 (by decide) (List.mem_of_getElem? (i := 3) rfl) rfl rfl dX9_give_73 ?_
            refine g_iload_n B dX9_give_76 2 rfl rfl ?_
            refine g_iast B shM_a4 (by decide) dX9_give_77 (g_lmM (fun M11 => ?_))
            refine g_aload_n B dX9_give_78 0 rfl rfl ?_
            refine g_get (v := .ref (ad 5)) B shM_o (by decide) in_X9_give_X9 rfl 9 (by decide) (List.mem_of_getElem? (i := 6) rfl) rfl rfl dX9_give_79 ?_
            refine g_aload_n B dX9_give_82 0 rfl rfl ?_
            refine g_get (v := .int (M11 0 2)) B shM_o (by decide) in_X9_give_X9 rfl 2 (by decide) (List.mem_of_getElem? (i := 3) rfl) rfl rfl dX9_give_83 ?_
            refine g_iload_n B dX9_give_86 3 rfl rfl ?_
            refine g_iast B shM_a5 (by decide) dX9_give_87 (g_lmM (fun M12 => ?_))
            refine g_aload_n B dX9_give_88 0 rfl rfl ?_
            refine g_get (v := .ref (ad 6)) B shM_o (by decide) in_X9_give_X9 rfl 10 (by decide) (List.mem_of_getElem? (i := 7) rfl) rfl rfl dX9_give_89 ?_
            refine g_aload_n B dX9_give_92 0 rfl rfl ?_
            refine g_get (v := .int (M12 0 2)) B shM_o (by decide) in_X9_give_X9 rfl 2 (by decide) (List.mem_of_getElem? (i := 3) rfl) rfl rfl dX9_give_93 ?_
            refine g_iload B dX9_give_96 4 rfl ?_
            refine g_iast B shM_a6 (by decide) dX9_give_98 (g_lmM (fun M13 => ?_))
            refine g_aload_n B dX9_give_99 0 rfl rfl ?_
            refine g_get (v := .ref (ad 7)) B shM_o (by decide) in_X9_give_X9 rfl 11 (by decide) (List.mem_of_getElem? (i := 8) rfl) rfl rfl dX9_give_100 ?_
            refine g_aload_n B dX9_give_103 0 rfl rfl ?_
            refine g_get (v := .int (M13 0 2)) B shM_o (by decide) in_X9_give_X9 rfl 2 (by decide) (List.mem_of_getElem? (i := 3) rfl) rfl rfl dX9_give_104 ?_
            refine g_iconst (v := 0) B dX9_give_107 (by decide) ?_
            refine g_iast B shM_a7 (by decide) dX9_give_108 (g_lmM (fun M14 => ?_))
            refine g_aload_n B dX9_give_109 0 rfl rfl ?_
            refine g_dup B dX9_give_110 rfl ?_
            refine g_get (v := .int (M14 0 2)) B shM_o (by decide) in_X9_give_X9 rfl 2 (by decide) (List.mem_of_getElem? (i := 3) rfl) rfl rfl dX9_give_111 ?_
            refine g_iconst (v := 1) B dX9_give_114 (by decide) ?_
            refine g_iadd B dX9_give_115 ?_
            refine g_put (ty := .int) B shM_o (by decide) in_X9_give_X9 tyX9_ok nmX9 rfl 2 (by decide) (List.mem_of_getElem? (i := 3) rfl) rfl rfl (by decide +kernel) rfl rfl (fun _ => Nat.le_of_ble_eq_true rfl) (fun _ _ => rfl) dX9_give_116 (g_lmM (fun M15 => ?_))
            refine g_aload_n B dX9_give_119 0 rfl rfl ?_
            refine g_get (v := .int (M15 0 2)) B shM_o (by decide) in_X9_give_X9 rfl 2 (by decide) (List.mem_of_getElem? (i := 3) rfl) rfl rfl dX9_give_120 ?_
            refine g_iconst (v := 1) B dX9_give_123 (by decide) ?_
            refine g_isub B dX9_give_124 ?_
            exact g_iret B hr hk dX9_give_125
        · refine g_iconst (v := -1) B dX9_give_44 (by decide) ?_
          exact g_iret B hr hk dX9_give_45
      · refine g_iconst (v := -1) B dX9_give_44 (by decide) ?_
        exact g_iret B hr hk dX9_give_45

abbrev rm_X9_keepAll : Room := { frames := 0, cells := 0, slots := 0, locals := 0 }
set_option maxHeartbeats 4000000 in
set_option maxRecDepth 100000 in
theorem k_X9_keepAll (l : Launch) (D : va_G) (cA : Nat → ClassId) (ad : Nat → Nat) (had : adOK ad 25)  (M : Mem) : CV l yX9_keepAll wsX9_keepAll rm_X9_keepAll D cA ad (shM ad cA) 25 [.ref (ad 0)] M (d_X9_keepAll  M) := by
  refine CV_of (own := RX9) (cc := cX9_keepAll) (maxL := 2) had (by decide) rfl rfl (Nat.le_of_ble_eq_true rfl) ?_
  intro p e s m args below meth c R0 B hr hk
  have hL18 : ∀ (f : Nat) (v1 : Int32) (M : Mem), GG p l e (headSpec wsX9_keepAll rm_X9_keepAll).room s m args below meth c D ad (shM ad cA) 25 2 (MQ below (QV D ad (shM ad cA) 25 s.heap.size R0) args s 0 0 (AX ad 25 s.heap.size)) R0 M 18 [(0, .ref (ad 0)), (1, .int v1)] [] (dX9_keepAll_18l    f v1 M) := by
    intro f
    induction f with
    | zero =>
      intro v1 M
      exact g_none
    | succ f ih =>
      intro v1 M
      rw [dX9_keepAll_18l]
      refine g_iload_n B dX9_keepAll_18 1 rfl rfl ?_
      refine g_aload_n B dX9_keepAll_19 0 rfl rfl ?_
      refine g_get (v := .int (M 0 2)) B shM_o (by decide) in_X9_keepAll_X9 rfl 2 (by decide) (List.mem_of_getElem? (i := 5) rfl) rfl rfl dX9_keepAll_20 ?_
      refine g_icmp_ge (tgt := 44) B dX9_keepAll_23 (by decide) (fun c3 => ?_) (fun c3 => ?_)
      · exact g_vret B hr hk dX9_keepAll_44
      · refine g_aload_n B dX9_keepAll_26 0 rfl rfl ?_
        refine g_get (v := .ref (ad 13)) B shM_o (by decide) in_X9_keepAll_X9 rfl 22 (by decide) (List.mem_of_getElem? (i := 6) rfl) rfl rfl dX9_keepAll_27 ?_
        refine g_iload_n B dX9_keepAll_30 1 rfl rfl ?_
        refine g_aload_n B dX9_keepAll_31 0 rfl rfl ?_
        refine g_get (v := .ref (ad 7)) B shM_o (by decide) in_X9_keepAll_X9 rfl 11 (by decide) (List.mem_of_getElem? (i := 7) rfl) rfl rfl dX9_keepAll_32 ?_
        refine g_iload_n B dX9_keepAll_35 1 rfl rfl ?_
        refine g_iald B shM_a7 (by decide) dX9_keepAll_36 ?_
        refine g_iast B shM_a13 (by decide) dX9_keepAll_37 (g_lmM (fun M4 => ?_))
        refine g_iinc B dX9_keepAll_38 1 (v := v1 + (1 : Int32)) rfl rfl (by decide) (lv1 := [(1, .int (v1 + (1 : Int32))), (0, .ref (ad 0))]) rfl ?_
        refine g_goto (tgt := 18) B dX9_keepAll_41 (by decide) ?_
        exact g_lv [1, 0] rfl (ih _ _)
  unfold d_X9_keepAll
  show GG p l e (headSpec wsX9_keepAll rm_X9_keepAll).room s m args below meth c D ad (shM ad cA) 25 2 (MQ below (QV D ad (shM ad cA) 25 s.heap.size R0) args s 0 0 (AX ad 25 s.heap.size)) R0 M 0 [(0, .ref (ad 0))] [] _
  refine g_aload_n B dX9_keepAll_0 0 rfl rfl ?_
  refine g_aload_n B dX9_keepAll_1 0 rfl rfl ?_
  refine g_get (v := .int (M 0 4)) B shM_o (by decide) in_X9_keepAll_X9 rfl 4 (by decide) (List.mem_of_getElem? (i := 1) rfl) rfl rfl dX9_keepAll_2 ?_
  refine g_put (ty := .int) B shM_o (by decide) in_X9_keepAll_X9 tyX9_ok nmX9 rfl 20 (by decide) (List.mem_of_getElem? (i := 2) rfl) rfl rfl (by decide +kernel) rfl rfl (fun _ => Nat.le_of_ble_eq_true rfl) (fun _ _ => rfl) dX9_keepAll_5 (g_lmM (fun M1 => ?_))
  refine g_aload_n B dX9_keepAll_8 0 rfl rfl ?_
  refine g_aload_n B dX9_keepAll_9 0 rfl rfl ?_
  refine g_get (v := .int (M1 0 3)) B shM_o (by decide) in_X9_keepAll_X9 rfl 3 (by decide) (List.mem_of_getElem? (i := 3) rfl) rfl rfl dX9_keepAll_10 ?_
  refine g_put (ty := .int) B shM_o (by decide) in_X9_keepAll_X9 tyX9_ok nmX9 rfl 21 (by decide) (List.mem_of_getElem? (i := 4) rfl) rfl rfl (by decide +kernel) rfl rfl (fun _ => Nat.le_of_ble_eq_true rfl) (fun _ _ => rfl) dX9_keepAll_13 (g_lmM (fun M2 => ?_))
  refine g_iconst (v := 0) B dX9_keepAll_16 (by decide) ?_
  refine g_istore_n B dX9_keepAll_17 rfl (by decide) (lv1 := [(1, .int (0 : Int32)), (0, .ref (ad 0))]) rfl ?_
  refine g_lv [1, 0] rfl (hL18    FU _ _)

abbrev rm_X9_bringBack : Room := { frames := 0, cells := 0, slots := 0, locals := 0 }
set_option maxHeartbeats 4000000 in
set_option maxRecDepth 100000 in
theorem k_X9_bringBack (l : Launch) (D : va_G) (cA : Nat → ClassId) (ad : Nat → Nat) (had : adOK ad 25)  (M : Mem) : CV l yX9_bringBack wsX9_bringBack rm_X9_bringBack D cA ad (shM ad cA) 25 [.ref (ad 0)] M (d_X9_bringBack  M) := by
  refine CV_of (own := RX9) (cc := cX9_bringBack) (maxL := 2) had (by decide) rfl rfl (Nat.le_of_ble_eq_true rfl) ?_
  intro p e s m args below meth c R0 B hr hk
  have hL18 : ∀ (f : Nat) (v1 : Int32) (M : Mem), GG p l e (headSpec wsX9_bringBack rm_X9_bringBack).room s m args below meth c D ad (shM ad cA) 25 2 (MQ below (QV D ad (shM ad cA) 25 s.heap.size R0) args s 0 0 (AX ad 25 s.heap.size)) R0 M 18 [(0, .ref (ad 0)), (1, .int v1)] [] (dX9_bringBack_18l    f v1 M) := by
    intro f
    induction f with
    | zero =>
      intro v1 M
      exact g_none
    | succ f ih =>
      intro v1 M
      rw [dX9_bringBack_18l]
      refine g_iload_n B dX9_bringBack_18 1 rfl rfl ?_
      refine g_aload_n B dX9_bringBack_19 0 rfl rfl ?_
      refine g_get (v := .int (M 0 2)) B shM_o (by decide) in_X9_bringBack_X9 rfl 2 (by decide) (List.mem_of_getElem? (i := 5) rfl) rfl rfl dX9_bringBack_20 ?_
      refine g_icmp_ge (tgt := 44) B dX9_bringBack_23 (by decide) (fun c3 => ?_) (fun c3 => ?_)
      · exact g_vret B hr hk dX9_bringBack_44
      · refine g_aload_n B dX9_bringBack_26 0 rfl rfl ?_
        refine g_get (v := .ref (ad 7)) B shM_o (by decide) in_X9_bringBack_X9 rfl 11 (by decide) (List.mem_of_getElem? (i := 6) rfl) rfl rfl dX9_bringBack_27 ?_
        refine g_iload_n B dX9_bringBack_30 1 rfl rfl ?_
        refine g_aload_n B dX9_bringBack_31 0 rfl rfl ?_
        refine g_get (v := .ref (ad 13)) B shM_o (by decide) in_X9_bringBack_X9 rfl 22 (by decide) (List.mem_of_getElem? (i := 7) rfl) rfl rfl dX9_bringBack_32 ?_
        refine g_iload_n B dX9_bringBack_35 1 rfl rfl ?_
        refine g_iald B shM_a13 (by decide) dX9_bringBack_36 ?_
        refine g_iast B shM_a7 (by decide) dX9_bringBack_37 (g_lmM (fun M4 => ?_))
        refine g_iinc B dX9_bringBack_38 1 (v := v1 + (1 : Int32)) rfl rfl (by decide) (lv1 := [(1, .int (v1 + (1 : Int32))), (0, .ref (ad 0))]) rfl ?_
        refine g_goto (tgt := 18) B dX9_bringBack_41 (by decide) ?_
        exact g_lv [1, 0] rfl (ih _ _)
  unfold d_X9_bringBack
  show GG p l e (headSpec wsX9_bringBack rm_X9_bringBack).room s m args below meth c D ad (shM ad cA) 25 2 (MQ below (QV D ad (shM ad cA) 25 s.heap.size R0) args s 0 0 (AX ad 25 s.heap.size)) R0 M 0 [(0, .ref (ad 0))] [] _
  refine g_aload_n B dX9_bringBack_0 0 rfl rfl ?_
  refine g_aload_n B dX9_bringBack_1 0 rfl rfl ?_
  refine g_get (v := .int (M 0 20)) B shM_o (by decide) in_X9_bringBack_X9 rfl 20 (by decide) (List.mem_of_getElem? (i := 1) rfl) rfl rfl dX9_bringBack_2 ?_
  refine g_put (ty := .int) B shM_o (by decide) in_X9_bringBack_X9 tyX9_ok nmX9 rfl 4 (by decide) (List.mem_of_getElem? (i := 2) rfl) rfl rfl (by decide +kernel) rfl rfl (fun _ => Nat.le_of_ble_eq_true rfl) (fun _ _ => rfl) dX9_bringBack_5 (g_lmM (fun M1 => ?_))
  refine g_aload_n B dX9_bringBack_8 0 rfl rfl ?_
  refine g_aload_n B dX9_bringBack_9 0 rfl rfl ?_
  refine g_get (v := .int (M1 0 21)) B shM_o (by decide) in_X9_bringBack_X9 rfl 21 (by decide) (List.mem_of_getElem? (i := 3) rfl) rfl rfl dX9_bringBack_10 ?_
  refine g_put (ty := .int) B shM_o (by decide) in_X9_bringBack_X9 tyX9_ok nmX9 rfl 3 (by decide) (List.mem_of_getElem? (i := 4) rfl) rfl rfl (by decide +kernel) rfl rfl (fun _ => Nat.le_of_ble_eq_true rfl) (fun _ _ => rfl) dX9_bringBack_13 (g_lmM (fun M2 => ?_))
  refine g_iconst (v := 0) B dX9_bringBack_16 (by decide) ?_
  refine g_istore_n B dX9_bringBack_17 rfl (by decide) (lv1 := [(1, .int (0 : Int32)), (0, .ref (ad 0))]) rfl ?_
  refine g_lv [1, 0] rfl (hL18    FU _ _)

abbrev rm_X9_pairsBarred : Room := { frames := 2, cells := 0, slots := 0, locals := 46 }
set_option maxHeartbeats 4000000 in
set_option maxRecDepth 100000 in
theorem k_X9_pairsBarred (l : Launch) (D : va_G) (cA : Nat → ClassId) (ad : Nat → Nat) (had : adOK ad 25) (v1 : Int32) (v2 : Int32) (M : Mem) : CI l yX9_pairsBarred wsX9_pairsBarred rm_X9_pairsBarred D cA ad (shM ad cA) 25 [.ref (ad 0), .int v1, .int v2] M (wM M (d_X9_pairsBarred v1 v2 M)) := by
  refine CI_ofp (own := RX9) (cc := cX9_pairsBarred) (maxL := 6) (rt := .int) had (by decide) rfl rfl (Nat.le_of_ble_eq_true rfl) ?_
  intro p e s m args below meth c R0 B hr hk
  have hJ68 : ∀ (rec2 : Int32 → Option Int32) (v1 : Int32) (v2 : Int32) (v3 : Int32) (v4 : Int32) (v5 : Int32)     (hrec2 : ∀ (w3 : Int32), GG p l e (headSpec wsX9_pairsBarred rm_X9_pairsBarred).room s m args below meth c D ad (shM ad cA) 25 6 (MQ below (QI D ad (shM ad cA) 25 s.heap.size (R0, M)) args s 0 0 (AX ad 25 s.heap.size)) R0 M 2 [(0, .ref (ad 0)), (1, .int v1), (2, .int v2), (3, .int w3)] [] (rec2 w3)), GG p l e (headSpec wsX9_pairsBarred rm_X9_pairsBarred).room s m args below meth c D ad (shM ad cA) 25 6 (MQ below (QI D ad (shM ad cA) 25 s.heap.size (R0, M)) args s 0 0 (AX ad 25 s.heap.size)) R0 M 68 [(0, .ref (ad 0)), (1, .int v1), (2, .int v2), (3, .int v3), (4, .int v4), (5, .int v5)] [] (dX9_pairsBarred_68j rec2 v1 v2 v3 v4 v5  M) := by
    intro rec2 v1 v2 v3 v4 v5 hrec2
    unfold dX9_pairsBarred_68j
    refine g_iload B dX9_pairsBarred_68 5 rfl ?_
    refine g_iconst (v := 2) B dX9_pairsBarred_70 (by decide) ?_
    refine g_icmp_ge (tgt := 85) B dX9_pairsBarred_71 (by decide) (fun c7 => ?_) (fun c7 => ?_)
    · refine g_iinc B dX9_pairsBarred_85 3 (v := v3 + (1 : Int32)) rfl rfl (by decide) (lv1 := [(3, .int (v3 + (1 : Int32))), (0, .ref (ad 0)), (1, .int v1), (2, .int v2), (4, .int v4), (5, .int v5)]) rfl ?_
      refine g_goto (tgt := 2) B dX9_pairsBarred_88 (by decide) ?_
      exact g_lv [1, 2, 3, 0] rfl (hrec2 _)
    · refine g_aload_n B dX9_pairsBarred_74 0 rfl rfl ?_
      refine g_iload B dX9_pairsBarred_75 4 rfl ?_
      refine g_callVIp (q := (RX9, TX9, 39)) (As := [.int v4]) (st := []) B (k_X9_noFootman l D cA ad B.2.2.2.2.2.2.1 v4 M) (cwV 1 B.2.2.2.2.1 gX9_pairsBarred_X9_noFootman rfl rfl rfl (by decide +kernel) ⟨Nat.le_of_ble_eq_true rfl, Nat.le_of_ble_eq_true rfl⟩) shM_o (by decide) rfl rfl rfl (Nat.le_of_ble_eq_true rfl) dX9_pairsBarred_77 (fun r8 _ => ?_)
      refine g_if_eq (tgt := 85) B dX9_pairsBarred_80 (by decide) (fun c9 => ?_) (fun c9 => ?_)
      · refine g_iinc B dX9_pairsBarred_85 3 (v := v3 + (1 : Int32)) rfl rfl (by decide) (lv1 := [(3, .int (v3 + (1 : Int32))), (0, .ref (ad 0)), (1, .int v1), (2, .int v2), (4, .int v4), (5, .int v5)]) rfl ?_
        refine g_goto (tgt := 2) B dX9_pairsBarred_88 (by decide) ?_
        exact g_lv [1, 2, 3, 0] rfl (hrec2 _)
      · refine g_iconst (v := -1) B dX9_pairsBarred_83 (by decide) ?_
        exact g_iretp B hr hk dX9_pairsBarred_84
  have hL2 : ∀ (v1 : Int32) (v2 : Int32)    , ∀ (f : Nat) (v3 : Int32), GG p l e (headSpec wsX9_pairsBarred rm_X9_pairsBarred).room s m args below meth c D ad (shM ad cA) 25 6 (MQ below (QI D ad (shM ad cA) 25 s.heap.size (R0, M)) args s 0 0 (AX ad 25 s.heap.size)) R0 M 2 [(0, .ref (ad 0)), (1, .int v1), (2, .int v2), (3, .int v3)] [] (dX9_pairsBarred_2l v1 v2 M  f v3 ) := by
    intro v1 v2
    intro f
    induction f with
    | zero =>
      intro v3
      exact g_none
    | succ f ih =>
      intro v3
      rw [dX9_pairsBarred_2l]
      refine g_iload_n B dX9_pairsBarred_2 3 rfl rfl ?_
      refine g_iload_n B dX9_pairsBarred_3 2 rfl rfl ?_
      refine g_icmp_ge (tgt := 91) B dX9_pairsBarred_4 (by decide) (fun c1 => ?_) (fun c1 => ?_)
      · refine g_iconst (v := 0) B dX9_pairsBarred_91 (by decide) ?_
        exact g_iretp B hr hk dX9_pairsBarred_92
      · refine g_aload_n B dX9_pairsBarred_7 0 rfl rfl ?_
        refine g_get (v := .ref (ad 23)) B shM_o (by decide) in_X9_pairsBarred_X9 rfl 36 (by decide) (List.mem_of_getElem? (i := 1) rfl) rfl rfl dX9_pairsBarred_8 ?_
        refine g_iload_n B dX9_pairsBarred_11 1 rfl rfl ?_
        refine g_iconst (v := 2) B dX9_pairsBarred_12 (by decide) ?_
        refine g_iload_n B dX9_pairsBarred_13 3 rfl rfl ?_
        refine g_imul B dX9_pairsBarred_14 ?_
        refine g_iadd B dX9_pairsBarred_15 ?_
        refine g_iald B shM_a23 (by decide) dX9_pairsBarred_16 ?_
        refine g_lmI (fun x2 => ?_)
        refine g_istore B dX9_pairsBarred_17 (by decide) (lv1 := [(4, .int x2), (0, .ref (ad 0)), (1, .int v1), (2, .int v2), (3, .int v3)]) rfl ?_
        refine g_aload_n B dX9_pairsBarred_19 1 rfl rfl ?_
        refine g_get (v := .ref (ad 23)) B shM_o (by decide) in_X9_pairsBarred_X9 rfl 36 (by decide) (List.mem_of_getElem? (i := 1) rfl) rfl rfl dX9_pairsBarred_20 ?_
        refine g_iload_n B dX9_pairsBarred_23 2 rfl rfl ?_
        refine g_iconst (v := 2) B dX9_pairsBarred_24 (by decide) ?_
        refine g_iload_n B dX9_pairsBarred_25 4 rfl rfl ?_
        refine g_imul B dX9_pairsBarred_26 ?_
        refine g_iadd B dX9_pairsBarred_27 ?_
        refine g_iconst (v := 1) B dX9_pairsBarred_28 (by decide) ?_
        refine g_iadd B dX9_pairsBarred_29 ?_
        refine g_iald B shM_a23 (by decide) dX9_pairsBarred_30 ?_
        refine g_lmI (fun x3 => ?_)
        refine g_istore B dX9_pairsBarred_31 (by decide) (lv1 := [(5, .int x3), (4, .int x2), (0, .ref (ad 0)), (1, .int v1), (2, .int v2), (3, .int v3)]) rfl ?_
        refine g_iload B dX9_pairsBarred_33 0 rfl ?_
        refine g_i2l B dX9_pairsBarred_35 ?_
        refine g_lconst (v := 0) B dX9_pairsBarred_36 (by decide) ?_
        refine g_ldc2 (v := 2) B dX9_pairsBarred_37 (List.mem_of_getElem? (i := 2) rfl) ?_
        refine g_callSIp (As := [.long x3.toInt64, .long (0 : Int64), .long (2 : Int64)]) (st := []) B (k_X9_in l D cA ad B.2.2.2.2.2.2.1 x3.toInt64 (0 : Int64) (2 : Int64) M) (va_cwS 3 B.2.2.2.2.1 gX9_pairsBarred_X9_in rfl rfl rfl (by decide +kernel) ⟨Nat.le_of_ble_eq_true rfl, Nat.le_of_ble_eq_true rfl⟩) rfl rfl (Nat.le_of_ble_eq_true rfl) dX9_pairsBarred_40 (fun r4 _ => ?_)
        refine g_if_eq (tgt := 65) B dX9_pairsBarred_43 (by decide) (fun c5 => ?_) (fun c5 => ?_)
        · refine g_bipush (v := -2) B dX9_pairsBarred_65 (by decide) ?_
          exact g_iretp B hr hk dX9_pairsBarred_67
        · refine g_iload B dX9_pairsBarred_46 0 rfl ?_
          refine g_iconst (v := 2) B dX9_pairsBarred_48 (by decide) ?_
          refine g_icmp_ne (tgt := 68) B dX9_pairsBarred_49 (by decide) (fun c6 => ?_) (fun c6 => ?_)
          · refine g_iload B dX9_pairsBarred_52 1 rfl ?_
            refine g_i2l B dX9_pairsBarred_54 ?_
            refine g_lconst (v := 0) B dX9_pairsBarred_55 (by decide) ?_
            refine g_ldc2 (v := 9) B dX9_pairsBarred_56 (List.mem_of_getElem? (i := 3) rfl) ?_
            refine g_callSIp (As := [.long x2.toInt64, .long (0 : Int64), .long (9 : Int64)]) (st := []) B (k_X9_in l D cA ad B.2.2.2.2.2.2.1 x2.toInt64 (0 : Int64) (9 : Int64) M) (va_cwS 3 B.2.2.2.2.1 gX9_pairsBarred_X9_in rfl rfl rfl (by decide +kernel) ⟨Nat.le_of_ble_eq_true rfl, Nat.le_of_ble_eq_true rfl⟩) rfl rfl (Nat.le_of_ble_eq_true rfl) dX9_pairsBarred_59 (fun r10 _ => ?_)
            refine g_if_ne (tgt := 68) B dX9_pairsBarred_62 (by decide) (fun c11 => ?_) (fun c11 => ?_)
            · refine g_bipush (v := -2) B dX9_pairsBarred_65 (by decide) ?_
              exact g_iretp B hr hk dX9_pairsBarred_67
            · exact g_lv [2, 3, 4, 5, 1, 0] rfl (hJ68 _ _ _ _ _ _   ih)
          · exact g_lv [2, 3, 4, 5, 1, 0] rfl (hJ68 _ _ _ _ _ _   ih)
  unfold d_X9_pairsBarred
  show GG p l e (headSpec wsX9_pairsBarred rm_X9_pairsBarred).room s m args below meth c D ad (shM ad cA) 25 6 (MQ below (QI D ad (shM ad cA) 25 s.heap.size (R0, M)) args s 0 0 (AX ad 25 s.heap.size)) R0 M 0 [(0, .ref (ad 0)), (1, .int v1), (2, .int v2)] [] _
  refine g_iconst (v := 0) B dX9_pairsBarred_0 (by decide) ?_
  refine g_istore_n B dX9_pairsBarred_1 rfl (by decide) (lv1 := [(3, .int (0 : Int32)), (0, .ref (ad 0)), (1, .int v1), (2, .int v2)]) rfl ?_
  refine g_lv [1, 2, 3, 0] rfl (hL2 _ _   FU _)

abbrev rm_X9_looksAround : Room := { frames := 3, cells := 0, slots := 0, locals := 66 }
set_option maxHeartbeats 4000000 in
set_option maxRecDepth 100000 in
theorem k_X9_looksAround (l : Launch) (D : va_G) (cA : Nat → ClassId) (ad : Nat → Nat) (had : adOK ad 25)  (M : Mem) : CV l yX9_looksAround wsX9_looksAround rm_X9_looksAround D cA ad (shM ad cA) 25 [.ref (ad 0)] M (d_X9_looksAround  M) := by
  refine CV_of (own := RX9) (cc := cX9_looksAround) (maxL := 1) had (by decide) rfl rfl (Nat.le_of_ble_eq_true rfl) ?_
  intro p e s m args below meth c R0 B hr hk
  have hJ35 : ∀   (s0 : Int32) (M : Mem)   , GG p l e (headSpec wsX9_looksAround rm_X9_looksAround).room s m args below meth c D ad (shM ad cA) 25 1 (MQ below (QV D ad (shM ad cA) 25 s.heap.size R0) args s 0 0 (AX ad 25 s.heap.size)) R0 M 35 [] [.int s0, .ref (ad 0)] (dX9_looksAround_35j   s0 M) := by
    intro s0 M
    unfold dX9_looksAround_35j
    refine g_put (ty := .int) B shM_o (by decide) in_X9_looksAround_X9 tyX9_ok nmX9 rfl 23 (by decide) (List.mem_of_getElem? (i := 1) rfl) rfl rfl (by decide +kernel) rfl rfl (fun _ => Nat.le_of_ble_eq_true rfl) (fun _ _ => rfl) dX9_looksAround_35 (g_lmM (fun M2 => ?_))
    exact g_vret B hr hk dX9_looksAround_38
  have hJ31 : ∀    (M : Mem)   , GG p l e (headSpec wsX9_looksAround rm_X9_looksAround).room s m args below meth c D ad (shM ad cA) 25 1 (MQ below (QV D ad (shM ad cA) 25 s.heap.size R0) args s 0 0 (AX ad 25 s.heap.size)) R0 M 31 [(0, .ref (ad 0))] [.ref (ad 0)] (dX9_looksAround_31j    M) := by
    intro M
    unfold dX9_looksAround_31j
    refine g_aload_n B dX9_looksAround_31 0 rfl rfl ?_
    refine g_get (v := .int (M 0 23)) B shM_o (by decide) in_X9_looksAround_X9 rfl 23 (by decide) (List.mem_of_getElem? (i := 1) rfl) rfl rfl dX9_looksAround_32 ?_
    exact g_lv [] rfl (hJ35 _ _   )
  unfold d_X9_looksAround
  show GG p l e (headSpec wsX9_looksAround rm_X9_looksAround).room s m args below meth c D ad (shM ad cA) 25 1 (MQ below (QV D ad (shM ad cA) 25 s.heap.size R0) args s 0 0 (AX ad 25 s.heap.size)) R0 M 0 [(0, .ref (ad 0))] [] _
  refine g_aload_n B dX9_looksAround_0 0 rfl rfl ?_
  refine g_aload_n B dX9_looksAround_1 0 rfl rfl ?_
  refine g_get (v := .int (M 0 23)) B shM_o (by decide) in_X9_looksAround_X9 rfl 23 (by decide) (List.mem_of_getElem? (i := 1) rfl) rfl rfl dX9_looksAround_2 ?_
  refine g_if_ge (tgt := 31) B dX9_looksAround_5 (by decide) (fun c1 => ?_) (fun c1 => ?_)
  · exact g_lv [0] rfl (hJ31 _   )
  · refine g_aload_n B dX9_looksAround_8 0 rfl rfl ?_
    refine g_callVIp (q := (RX9, TX9, 39)) (As := []) (st := [.ref (ad 0)]) B (k_X9_arrived l D cA ad B.2.2.2.2.2.2.1  M) (cwV 0 B.2.2.2.2.1 gX9_looksAround_X9_arrived rfl rfl rfl (by decide +kernel) ⟨Nat.le_of_ble_eq_true rfl, Nat.le_of_ble_eq_true rfl⟩) shM_o (by decide) rfl rfl rfl (Nat.le_of_ble_eq_true rfl) dX9_looksAround_9 (fun r3 _ => ?_)
    refine g_aload_n B dX9_looksAround_12 0 rfl rfl ?_
    refine g_get (v := .int (M 0 2)) B shM_o (by decide) in_X9_looksAround_X9 rfl 2 (by decide) (List.mem_of_getElem? (i := 2) rfl) rfl rfl dX9_looksAround_13 ?_
    refine g_icmp_ne (tgt := 31) B dX9_looksAround_16 (by decide) (fun c4 => ?_) (fun c4 => ?_)
    · refine g_aload_n B dX9_looksAround_19 0 rfl rfl ?_
      refine g_get (v := .int (M 0 3)) B shM_o (by decide) in_X9_looksAround_X9 rfl 3 (by decide) (List.mem_of_getElem? (i := 3) rfl) rfl rfl dX9_looksAround_20 ?_
      refine g_aload_n B dX9_looksAround_23 0 rfl rfl ?_
      refine g_get (v := .int (M 0 21)) B shM_o (by decide) in_X9_looksAround_X9 rfl 21 (by decide) (List.mem_of_getElem? (i := 4) rfl) rfl rfl dX9_looksAround_24 ?_
      refine g_isub B dX9_looksAround_27 ?_
      refine g_goto (tgt := 35) B dX9_looksAround_28 (by decide) ?_
      exact g_lv [] rfl (hJ35 _ _   )
    · exact g_lv [0] rfl (hJ31 _   )

abbrev rm_X9_did : Room := { frames := 4, cells := 0, slots := 0, locals := 86 }
set_option maxHeartbeats 4000000 in
set_option maxRecDepth 100000 in
theorem k_X9_did (l : Launch) (D : va_G) (cA : Nat → ClassId) (ad : Nat → Nat) (had : adOK ad 25) (v1 : Int32) (v2 : Int32) (M : Mem) : CI l yX9_did wsX9_did rm_X9_did D cA ad (shM ad cA) 25 [.ref (ad 0), .int v1, .int v2] M (d_X9_did v1 v2 M) := by
  refine CI_of (own := RX9) (cc := cX9_did) (maxL := 4) (rt := .boolean) had (by decide) rfl rfl (Nat.le_of_ble_eq_true rfl) ?_
  intro p e s m args below meth c R0 B hr hk
  have hL23 : ∀ (v1 : Int32)    , ∀ (f : Nat) (v3 : Int32) (M : Mem), GG p l e (headSpec wsX9_did rm_X9_did).room s m args below meth c D ad (shM ad cA) 25 4 (MQ below (QI D ad (shM ad cA) 25 s.heap.size R0) args s 0 0 (AX ad 25 s.heap.size)) R0 M 23 [(0, .ref (ad 0)), (1, .int v1), (3, .int v3)] [] (dX9_did_23l v1   f v3 M) := by
    intro v1
    intro f
    induction f with
    | zero =>
      intro v3 M
      exact g_none
    | succ f ih =>
      intro v3 M
      rw [dX9_did_23l]
      refine g_iload_n B dX9_did_23 2 rfl rfl ?_
      refine g_iload_n B dX9_did_24 1 rfl rfl ?_
      refine g_icmp_ge (tgt := 42) B dX9_did_25 (by decide) (fun c3 => ?_) (fun c3 => ?_)
      · refine g_iconst (v := 1) B dX9_did_42 (by decide) ?_
        exact g_zret B hr hk rfl dX9_did_43
      · refine g_aload_n B dX9_did_28 0 rfl rfl ?_
        refine g_callVVe (q := (RX9, TX9, 39)) (As := []) (st := []) B (k_X9_passes l D cA ad B.2.2.2.2.2.2.1  M) (cwV 0 B.2.2.2.2.1 gX9_did_X9_passes rfl rfl rfl (by decide +kernel) ⟨Nat.le_of_ble_eq_true rfl, Nat.le_of_ble_eq_true rfl⟩) shM_o (by decide) rfl rfl rfl (Nat.le_of_ble_eq_true rfl) dX9_did_29 (fun M4 _ => ?_)
        refine g_aload_n B dX9_did_32 0 rfl rfl ?_
        refine g_callVVe (q := (RX9, TX9, 39)) (As := []) (st := []) B (k_X9_looksAround l D cA ad B.2.2.2.2.2.2.1  M4) (cwV 0 B.2.2.2.2.1 gX9_did_X9_looksAround rfl rfl rfl (by decide +kernel) ⟨Nat.le_of_ble_eq_true rfl, Nat.le_of_ble_eq_true rfl⟩) shM_o (by decide) rfl rfl rfl (Nat.le_of_ble_eq_true rfl) dX9_did_33 (fun M5 _ => ?_)
        refine g_iinc B dX9_did_36 2 (v := v3 + (1 : Int32)) rfl rfl (by decide) (lv1 := [(3, .int (v3 + (1 : Int32))), (0, .ref (ad 0)), (1, .int v1)]) rfl ?_
        refine g_goto (tgt := 23) B dX9_did_39 (by decide) ?_
        exact g_lv [1, 2, 0] rfl (ih _ _)
  unfold d_X9_did
  show GG p l e (headSpec wsX9_did rm_X9_did).room s m args below meth c D ad (shM ad cA) 25 4 (MQ below (QI D ad (shM ad cA) 25 s.heap.size R0) args s 0 0 (AX ad 25 s.heap.size)) R0 M 0 [(0, .ref (ad 0)), (1, .int v1), (2, .int v2)] [] _
  refine g_iload_n B dX9_did_0 2 rfl rfl ?_
  refine g_if_ne (tgt := 10) B dX9_did_1 (by decide) (fun c1 => ?_) (fun c1 => ?_)
  · refine g_aload_n B dX9_did_4 0 rfl rfl ?_
    refine g_iload_n B dX9_did_5 1 rfl rfl ?_
    refine g_callVIe (q := (RX9, TX9, 39)) (As := [.int v1]) (st := []) B (k_X9_sat l D cA ad B.2.2.2.2.2.2.1 v1 M) (cwV 1 B.2.2.2.2.1 gX9_did_X9_sat rfl rfl rfl (by decide +kernel) ⟨Nat.le_of_ble_eq_true rfl, Nat.le_of_ble_eq_true rfl⟩) shM_o (by decide) rfl rfl rfl (Nat.le_of_ble_eq_true rfl) dX9_did_6 (fun r9 M10 _ => ?_)
    refine g_gd (fun z11 => ?_)
    exact g_zret B hr hk (nz z11) dX9_did_9
  · refine g_iload_n B dX9_did_10 2 rfl rfl ?_
    refine g_iconst (v := 1) B dX9_did_11 (by decide) ?_
    refine g_icmp_ne (tgt := 21) B dX9_did_12 (by decide) (fun c2 => ?_) (fun c2 => ?_)
    · refine g_aload_n B dX9_did_15 0 rfl rfl ?_
      refine g_iload_n B dX9_did_16 1 rfl rfl ?_
      refine g_callVIe (q := (RX9, TX9, 39)) (As := [.int v1]) (st := []) B (k_X9_rose l D cA ad B.2.2.2.2.2.2.1 v1 M) (cwV 1 B.2.2.2.2.1 gX9_did_X9_rose rfl rfl rfl (by decide +kernel) ⟨Nat.le_of_ble_eq_true rfl, Nat.le_of_ble_eq_true rfl⟩) shM_o (by decide) rfl rfl rfl (Nat.le_of_ble_eq_true rfl) dX9_did_17 (fun r6 M7 _ => ?_)
      refine g_gd (fun z8 => ?_)
      exact g_zret B hr hk (nz z8) dX9_did_20
    · refine g_iconst (v := 0) B dX9_did_21 (by decide) ?_
      refine g_istore_n B dX9_did_22 rfl (by decide) (lv1 := [(3, .int (0 : Int32)), (0, .ref (ad 0)), (1, .int v1), (2, .int v2)]) rfl ?_
      refine g_lv [1, 2, 0] rfl (hL23 _   FU _ _)

abbrev rm_X9_seasonBy : Room := { frames := 5, cells := 0, slots := 0, locals := 109 }
set_option maxHeartbeats 4000000 in
set_option maxRecDepth 100000 in
theorem k_X9_seasonBy (l : Launch) (D : va_G) (cA : Nat → ClassId) (ad : Nat → Nat) (had : adOK ad 25) (v1 : Int32) (v2 : Int32) (v3 : Int32) (M : Mem) : CI l yX9_seasonBy wsX9_seasonBy rm_X9_seasonBy D cA ad (shM ad cA) 25 [.ref (ad 0), .int v1, .int v2, .int v3] M (d_X9_seasonBy v1 v2 v3 M) := by
  refine CI_of (own := RX9) (cc := cX9_seasonBy) (maxL := 7) (rt := .int) had (by decide) rfl rfl (Nat.le_of_ble_eq_true rfl) ?_
  intro p e s m args below meth c R0 B hr hk
  have hL17 : ∀ (v1 : Int32) (v2 : Int32) (v3 : Int32)  (k17_74 : Int32 → Mem → Option (Int32 × Mem))  (hk17_74 : ∀ (w4 : Int32) (M1 : Mem), GG p l e (headSpec wsX9_seasonBy rm_X9_seasonBy).room s m args below meth c D ad (shM ad cA) 25 7 (MQ below (QI D ad (shM ad cA) 25 s.heap.size R0) args s 0 0 (AX ad 25 s.heap.size)) R0 M1 74 [(0, .ref (ad 0)), (3, .int v3), (4, .int w4)] [] (k17_74 w4 M1)), ∀ (f : Nat) (v4 : Int32) (v5 : Int32) (M : Mem), GG p l e (headSpec wsX9_seasonBy rm_X9_seasonBy).room s m args below meth c D ad (shM ad cA) 25 7 (MQ below (QI D ad (shM ad cA) 25 s.heap.size R0) args s 0 0 (AX ad 25 s.heap.size)) R0 M 17 [(0, .ref (ad 0)), (1, .int v1), (2, .int v2), (3, .int v3), (4, .int v4), (5, .int v5)] [] (dX9_seasonBy_17l v1 v2 v3  k17_74 f v4 v5 M) := by
    intro v1 v2 v3 k17_74 hk17_74
    intro f
    induction f with
    | zero =>
      intro v4 v5 M
      exact g_none
    | succ f ih =>
      intro v4 v5 M
      rw [dX9_seasonBy_17l]
      refine g_iload B dX9_seasonBy_17 5 rfl ?_
      refine g_iload_n B dX9_seasonBy_19 2 rfl rfl ?_
      refine g_icmp_ge (tgt := 74) B dX9_seasonBy_20 (by decide) (fun c3 => ?_) (fun c3 => ?_)
      · exact g_lv [0, 3, 4] rfl (hk17_74 _ _)
      · refine g_iload B dX9_seasonBy_23 4 rfl ?_
        refine g_if_ge (tgt := 74) B dX9_seasonBy_25 (by decide) (fun c4 => ?_) (fun c4 => ?_)
        · exact g_lv [0, 3, 4] rfl (hk17_74 _ _)
        · refine g_aload_n B dX9_seasonBy_28 0 rfl rfl ?_
          refine g_aload_n B dX9_seasonBy_29 0 rfl rfl ?_
          refine g_get (v := .ref (ad 23)) B shM_o (by decide) in_X9_seasonBy_X9 rfl 36 (by decide) (List.mem_of_getElem? (i := 2) rfl) rfl rfl dX9_seasonBy_30 ?_
          refine g_iload_n B dX9_seasonBy_33 1 rfl rfl ?_
          refine g_iconst (v := 2) B dX9_seasonBy_34 (by decide) ?_
          refine g_iload B dX9_seasonBy_35 5 rfl ?_
          refine g_imul B dX9_seasonBy_37 ?_
          refine g_iadd B dX9_seasonBy_38 ?_
          refine g_iald B shM_a23 (by decide) dX9_seasonBy_39 ?_
          refine g_aload_n B dX9_seasonBy_40 0 rfl rfl ?_
          refine g_get (v := .ref (ad 23)) B shM_o (by decide) in_X9_seasonBy_X9 rfl 36 (by decide) (List.mem_of_getElem? (i := 2) rfl) rfl rfl dX9_seasonBy_41 ?_
          refine g_iload_n B dX9_seasonBy_44 1 rfl rfl ?_
          refine g_iconst (v := 2) B dX9_seasonBy_45 (by decide) ?_
          refine g_iload B dX9_seasonBy_46 5 rfl ?_
          refine g_imul B dX9_seasonBy_48 ?_
          refine g_iadd B dX9_seasonBy_49 ?_
          refine g_iconst (v := 1) B dX9_seasonBy_50 (by decide) ?_
          refine g_iadd B dX9_seasonBy_51 ?_
          refine g_iald B shM_a23 (by decide) dX9_seasonBy_52 ?_
          refine g_callVIe (q := (RX9, TX9, 39)) (As := [.int (M 23 (v1 + ((2 : Int32) * v5)).toNatClampNeg), .int (M 23 ((v1 + ((2 : Int32) * v5)) + (1 : Int32)).toNatClampNeg)]) (st := []) B (k_X9_did l D cA ad B.2.2.2.2.2.2.1 (M 23 (v1 + ((2 : Int32) * v5)).toNatClampNeg) (M 23 ((v1 + ((2 : Int32) * v5)) + (1 : Int32)).toNatClampNeg) M) (cwV 2 B.2.2.2.2.1 gX9_seasonBy_X9_did rfl rfl rfl (by decide +kernel) ⟨Nat.le_of_ble_eq_true rfl, Nat.le_of_ble_eq_true rfl⟩) shM_o (by decide) rfl rfl rfl (Nat.le_of_ble_eq_true rfl) dX9_seasonBy_53 (fun r5 M6 _ => ?_)
          refine g_if_eq (tgt := 64) B dX9_seasonBy_56 (by decide) (fun c7 => ?_) (fun c7 => ?_)
          · refine g_iload B dX9_seasonBy_64 5 rfl ?_
            refine g_istore B dX9_seasonBy_66 (by decide) (lv1 := [(4, .int v5), (0, .ref (ad 0)), (1, .int v1), (2, .int v2), (3, .int v3), (5, .int v5)]) rfl ?_
            refine g_iinc B dX9_seasonBy_68 5 (v := v5 + (1 : Int32)) rfl rfl (by decide) (lv1 := [(5, .int (v5 + (1 : Int32))), (4, .int v5), (0, .ref (ad 0)), (1, .int v1), (2, .int v2), (3, .int v3)]) rfl ?_
            refine g_goto (tgt := 17) B dX9_seasonBy_71 (by decide) ?_
            exact g_lv [2, 3, 4, 5, 1, 0] rfl (ih _ _ _)
          · refine g_bipush (v := -9) B dX9_seasonBy_59 (by decide) ?_
            refine g_goto (tgt := 66) B dX9_seasonBy_61 (by decide) ?_
            refine g_istore B dX9_seasonBy_66 (by decide) (lv1 := [(4, .int (-9 : Int32)), (0, .ref (ad 0)), (1, .int v1), (2, .int v2), (3, .int v3), (5, .int v5)]) rfl ?_
            refine g_iinc B dX9_seasonBy_68 5 (v := v5 + (1 : Int32)) rfl rfl (by decide) (lv1 := [(5, .int (v5 + (1 : Int32))), (4, .int (-9 : Int32)), (0, .ref (ad 0)), (1, .int v1), (2, .int v2), (3, .int v3)]) rfl ?_
            refine g_goto (tgt := 17) B dX9_seasonBy_71 (by decide) ?_
            exact g_lv [2, 3, 4, 5, 1, 0] rfl (ih _ _ _)
  have hL131 : ∀ (v3 : Int32) (M : Mem) (k131_166 : Int32 → Option (Int32 × Mem))  (hk131_166 : ∀ (w5 : Int32), GG p l e (headSpec wsX9_seasonBy rm_X9_seasonBy).room s m args below meth c D ad (shM ad cA) 25 7 (MQ below (QI D ad (shM ad cA) 25 s.heap.size R0) args s 0 0 (AX ad 25 s.heap.size)) R0 M 166 [(0, .ref (ad 0)), (3, .int v3), (5, .int w5)] [] (k131_166 w5)), ∀ (f : Nat) (v5 : Int32) (v6 : Int32), GG p l e (headSpec wsX9_seasonBy rm_X9_seasonBy).room s m args below meth c D ad (shM ad cA) 25 7 (MQ below (QI D ad (shM ad cA) 25 s.heap.size R0) args s 0 0 (AX ad 25 s.heap.size)) R0 M 131 [(0, .ref (ad 0)), (3, .int v3), (5, .int v5), (6, .int v6)] [] (dX9_seasonBy_131l v3 M k131_166 f v5 v6 ) := by
    intro v3 M k131_166 hk131_166
    intro f
    induction f with
    | zero =>
      intro v5 v6
      exact g_none
    | succ f ih =>
      intro v5 v6
      rw [dX9_seasonBy_131l]
      refine g_iload B dX9_seasonBy_131 3 rfl ?_
      refine g_aload_n B dX9_seasonBy_133 0 rfl rfl ?_
      refine g_get (v := .int (M 0 2)) B shM_o (by decide) in_X9_seasonBy_X9 rfl 2 (by decide) (List.mem_of_getElem? (i := 4) rfl) rfl rfl dX9_seasonBy_134 ?_
      refine g_icmp_ge (tgt := 166) B dX9_seasonBy_137 (by decide) (fun c13 => ?_) (fun c13 => ?_)
      · exact g_lv [0, 1, 2] rfl (hk131_166 _)
      · refine g_iload B dX9_seasonBy_140 2 rfl ?_
        refine g_aload_n B dX9_seasonBy_142 0 rfl rfl ?_
        refine g_get (v := .ref (ad 7)) B shM_o (by decide) in_X9_seasonBy_X9 rfl 11 (by decide) (List.mem_of_getElem? (i := 3) rfl) rfl rfl dX9_seasonBy_143 ?_
        refine g_iload B dX9_seasonBy_146 3 rfl ?_
        refine g_iald B shM_a7 (by decide) dX9_seasonBy_148 ?_
        refine g_aload_n B dX9_seasonBy_149 0 rfl rfl ?_
        refine g_get (v := .ref (ad 13)) B shM_o (by decide) in_X9_seasonBy_X9 rfl 22 (by decide) (List.mem_of_getElem? (i := 5) rfl) rfl rfl dX9_seasonBy_150 ?_
        refine g_iload B dX9_seasonBy_153 3 rfl ?_
        refine g_iald B shM_a13 (by decide) dX9_seasonBy_155 ?_
        refine g_isub B dX9_seasonBy_156 ?_
        refine g_iadd B dX9_seasonBy_157 ?_
        refine g_lmI (fun x14 => ?_)
        refine g_istore B dX9_seasonBy_158 (by decide) (lv1 := [(5, .int x14), (0, .ref (ad 0)), (3, .int v3), (6, .int v6)]) rfl ?_
        refine g_iinc B dX9_seasonBy_160 3 (v := v6 + (1 : Int32)) rfl rfl (by decide) (lv1 := [(6, .int (v6 + (1 : Int32))), (5, .int x14), (0, .ref (ad 0)), (3, .int v3)]) rfl ?_
        refine g_goto (tgt := 131) B dX9_seasonBy_163 (by decide) ?_
        exact g_lv [2, 3, 1, 0] rfl (ih _ _)
  unfold d_X9_seasonBy
  show GG p l e (headSpec wsX9_seasonBy rm_X9_seasonBy).room s m args below meth c D ad (shM ad cA) 25 7 (MQ below (QI D ad (shM ad cA) 25 s.heap.size R0) args s 0 0 (AX ad 25 s.heap.size)) R0 M 0 [(0, .ref (ad 0)), (1, .int v1), (2, .int v2), (3, .int v3)] [] _
  refine g_bipush (v := -9) B dX9_seasonBy_0 (by decide) ?_
  refine g_istore B dX9_seasonBy_2 (by decide) (lv1 := [(4, .int (-9 : Int32)), (0, .ref (ad 0)), (1, .int v1), (2, .int v2), (3, .int v3)]) rfl ?_
  refine g_aload_n B dX9_seasonBy_4 1 rfl rfl ?_
  refine g_bipush (v := -9) B dX9_seasonBy_5 (by decide) ?_
  refine g_put (ty := .int) B shM_o (by decide) in_X9_seasonBy_X9 tyX9_ok nmX9 rfl 23 (by decide) (List.mem_of_getElem? (i := 1) rfl) rfl rfl (by decide +kernel) rfl rfl (fun _ => Nat.le_of_ble_eq_true rfl) (fun _ _ => rfl) dX9_seasonBy_7 (g_lmM (fun M1 => ?_))
  refine g_aload_n B dX9_seasonBy_10 1 rfl rfl ?_
  refine g_callVVe (q := (RX9, TX9, 39)) (As := []) (st := []) B (k_X9_looksAround l D cA ad B.2.2.2.2.2.2.1  M1) (cwV 0 B.2.2.2.2.1 gX9_seasonBy_X9_looksAround rfl rfl rfl (by decide +kernel) ⟨Nat.le_of_ble_eq_true rfl, Nat.le_of_ble_eq_true rfl⟩) shM_o (by decide) rfl rfl rfl (Nat.le_of_ble_eq_true rfl) dX9_seasonBy_11 (fun M2 _ => ?_)
  refine g_iconst (v := 0) B dX9_seasonBy_14 (by decide) ?_
  refine g_istore B dX9_seasonBy_15 (by decide) (lv1 := [(5, .int (0 : Int32)), (4, .int (-9 : Int32)), (0, .ref (ad 0)), (1, .int v1), (2, .int v2), (3, .int v3)]) rfl ?_
  refine g_lv [2, 3, 4, 5, 1, 0] rfl (hL17 _ _ _ _  ?_ FU _ _ _)
  · intro w8 M9
    refine g_iload_n B dX9_seasonBy_74 1 rfl rfl ?_
    refine g_iconst (v := 1) B dX9_seasonBy_75 (by decide) ?_
    refine g_icmp_ne (tgt := 82) B dX9_seasonBy_76 (by decide) (fun c10 => ?_) (fun c10 => ?_)
    · refine g_iload B dX9_seasonBy_79 2 rfl ?_
      exact g_iret B hr hk dX9_seasonBy_81
    · refine g_iload B dX9_seasonBy_82 2 rfl ?_
      refine g_if_lt (tgt := 93) B dX9_seasonBy_84 (by decide) (fun c11 => ?_) (fun c11 => ?_)
      · refine g_iload_n B dX9_seasonBy_93 1 rfl rfl ?_
        refine g_bipush (v := 10) B dX9_seasonBy_94 (by decide) ?_
        refine g_icmp_lt (tgt := 125) B dX9_seasonBy_96 (by decide) (fun c12 => ?_) (fun c12 => ?_)
        · refine g_iconst (v := 0) B dX9_seasonBy_125 (by decide) ?_
          refine g_istore B dX9_seasonBy_126 (by decide) (lv1 := [(5, .int (0 : Int32)), (0, .ref (ad 0)), (3, .int v3), (4, .int w8)]) rfl ?_
          refine g_iconst (v := 0) B dX9_seasonBy_128 (by decide) ?_
          refine g_istore B dX9_seasonBy_129 (by decide) (lv1 := [(6, .int (0 : Int32)), (5, .int (0 : Int32)), (0, .ref (ad 0)), (3, .int v3), (4, .int w8)]) rfl ?_
          refine g_lv [2, 3, 1, 0] rfl (hL131 _ _ _  ?_ FU _ _)
          · intro w15
            refine g_iload_n B dX9_seasonBy_166 1 rfl rfl ?_
            refine g_if_ne (tgt := 177) B dX9_seasonBy_167 (by decide) (fun c16 => ?_) (fun c16 => ?_)
            · refine g_aload_n B dX9_seasonBy_170 0 rfl rfl ?_
              refine g_callVIp (q := (RX9, TX9, 39)) (As := []) (st := []) B (k_X9_arrived l D cA ad B.2.2.2.2.2.2.1  M9) (cwV 0 B.2.2.2.2.1 gX9_seasonBy_X9_arrived rfl rfl rfl (by decide +kernel) ⟨Nat.le_of_ble_eq_true rfl, Nat.le_of_ble_eq_true rfl⟩) shM_o (by decide) rfl rfl rfl (Nat.le_of_ble_eq_true rfl) dX9_seasonBy_171 (fun r19 _ => ?_)
              refine g_goto (tgt := 203) B dX9_seasonBy_174 (by decide) ?_
              exact g_iret B hr hk dX9_seasonBy_203
            · refine g_iload_n B dX9_seasonBy_177 1 rfl rfl ?_
              refine g_iconst (v := 2) B dX9_seasonBy_178 (by decide) ?_
              refine g_icmp_ne (tgt := 189) B dX9_seasonBy_179 (by decide) (fun c17 => ?_) (fun c17 => ?_)
              · refine g_aload_n B dX9_seasonBy_182 0 rfl rfl ?_
                refine g_get (v := .int (M9 0 4)) B shM_o (by decide) in_X9_seasonBy_X9 rfl 4 (by decide) (List.mem_of_getElem? (i := 6) rfl) rfl rfl dX9_seasonBy_183 ?_
                refine g_goto (tgt := 203) B dX9_seasonBy_186 (by decide) ?_
                exact g_iret B hr hk dX9_seasonBy_203
              · refine g_iload_n B dX9_seasonBy_189 1 rfl rfl ?_
                refine g_iconst (v := 3) B dX9_seasonBy_190 (by decide) ?_
                refine g_icmp_ne (tgt := 199) B dX9_seasonBy_191 (by decide) (fun c18 => ?_) (fun c18 => ?_)
                · refine g_iload B dX9_seasonBy_194 2 rfl ?_
                  refine g_goto (tgt := 203) B dX9_seasonBy_196 (by decide) ?_
                  exact g_iret B hr hk dX9_seasonBy_203
                · refine g_aload_n B dX9_seasonBy_199 0 rfl rfl ?_
                  refine g_get (v := .int (M9 0 23)) B shM_o (by decide) in_X9_seasonBy_X9 rfl 23 (by decide) (List.mem_of_getElem? (i := 1) rfl) rfl rfl dX9_seasonBy_200 ?_
                  exact g_iret B hr hk dX9_seasonBy_203
        · refine g_aload_n B dX9_seasonBy_99 0 rfl rfl ?_
          refine g_iload_n B dX9_seasonBy_100 1 rfl rfl ?_
          refine g_bipush (v := 10) B dX9_seasonBy_101 (by decide) ?_
          refine g_isub B dX9_seasonBy_103 ?_
          refine g_callVIp (q := (RX9, TX9, 39)) (As := [.int (v3 - (10 : Int32))]) (st := []) B (k_X9_noFootman l D cA ad B.2.2.2.2.2.2.1 (v3 - (10 : Int32)) M9) (cwV 1 B.2.2.2.2.1 gX9_seasonBy_X9_noFootman rfl rfl rfl (by decide +kernel) ⟨Nat.le_of_ble_eq_true rfl, Nat.le_of_ble_eq_true rfl⟩) shM_o (by decide) rfl rfl rfl (Nat.le_of_ble_eq_true rfl) dX9_seasonBy_104 (fun r20 _ => ?_)
          refine g_if_eq (tgt := 115) B dX9_seasonBy_107 (by decide) (fun c21 => ?_) (fun c21 => ?_)
          · refine g_aload_n B dX9_seasonBy_115 0 rfl rfl ?_
            refine g_get (v := .ref (ad 7)) B shM_o (by decide) in_X9_seasonBy_X9 rfl 11 (by decide) (List.mem_of_getElem? (i := 3) rfl) rfl rfl dX9_seasonBy_116 ?_
            refine g_iload_n B dX9_seasonBy_119 1 rfl rfl ?_
            refine g_bipush (v := 10) B dX9_seasonBy_120 (by decide) ?_
            refine g_isub B dX9_seasonBy_122 ?_
            refine g_iald B shM_a7 (by decide) dX9_seasonBy_123 ?_
            exact g_iret B hr hk dX9_seasonBy_124
          · refine g_bipush (v := -9) B dX9_seasonBy_110 (by decide) ?_
            refine g_goto (tgt := 124) B dX9_seasonBy_112 (by decide) ?_
            exact g_iret B hr hk dX9_seasonBy_124
      · refine g_bipush (v := -100) B dX9_seasonBy_87 (by decide) ?_
        refine g_iload B dX9_seasonBy_89 2 rfl ?_
        refine g_isub B dX9_seasonBy_91 ?_
        exact g_iret B hr hk dX9_seasonBy_92

abbrev rm_X9_season : Room := { frames := 6, cells := 0, slots := 0, locals := 135 }
set_option maxHeartbeats 4000000 in
set_option maxRecDepth 100000 in
theorem k_X9_season (l : Launch) (D : va_G) (cA : Nat → ClassId) (ad : Nat → Nat) (had : adOK ad 25) (v1 : Int32) (v2 : Int32) (v3 : Int32) (v4 : Int32) (v5 : Int32) (M : Mem) : CI l yX9_season wsX9_season rm_X9_season D cA ad (shM ad cA) 25 [.ref (ad 0), .int v1, .int v2, .int v3, .int v4, .int v5] M (d_X9_season v1 v2 v3 v4 v5 M) := by
  refine CI_of (own := RX9) (cc := cX9_season) (maxL := 8) (rt := .int) had (by decide) rfl rfl (Nat.le_of_ble_eq_true rfl) ?_
  intro p e s m args below meth c R0 B hr hk
  have hJ66 : ∀    (M : Mem)   , GG p l e (headSpec wsX9_season rm_X9_season).room s m args below meth c D ad (shM ad cA) 25 8 (MQ below (QI D ad (shM ad cA) 25 s.heap.size R0) args s 0 0 (AX ad 25 s.heap.size)) R0 M 66 [(0, .ref (ad 0))] [] (dX9_season_66j    M) := by
    intro M
    unfold dX9_season_66j
    refine g_aload_n B dX9_season_66 0 rfl rfl ?_
    refine g_bipush (v := -2) B dX9_season_67 (by decide) ?_
    refine g_callVIe (q := (RX9, TX9, 39)) (As := [.int (-2 : Int32)]) (st := []) B (k_X9_refused l D cA ad B.2.2.2.2.2.2.1 (-2 : Int32) M) (cwV 1 B.2.2.2.2.1 gX9_season_X9_refused rfl rfl rfl (by decide +kernel) ⟨Nat.le_of_ble_eq_true rfl, Nat.le_of_ble_eq_true rfl⟩) shM_o (by decide) rfl rfl rfl (Nat.le_of_ble_eq_true rfl) dX9_season_69 (fun r5 M6 _ => ?_)
    exact g_iret B hr hk dX9_season_72
  have hJ73 : ∀  (v1 : Int32) (v2 : Int32) (v3 : Int32) (v4 : Int32) (v5 : Int32)  (M : Mem)   , GG p l e (headSpec wsX9_season rm_X9_season).room s m args below meth c D ad (shM ad cA) 25 8 (MQ below (QI D ad (shM ad cA) 25 s.heap.size R0) args s 0 0 (AX ad 25 s.heap.size)) R0 M 73 [(0, .ref (ad 0)), (1, .int v1), (2, .int v2), (3, .int v3), (4, .int v4), (5, .int v5)] [] (dX9_season_73j  v1 v2 v3 v4 v5  M) := by
    intro v1 v2 v3 v4 v5 M
    unfold dX9_season_73j
    refine g_aload_n B dX9_season_73 0 rfl rfl ?_
    refine g_get (v := .int (M 0 2)) B shM_o (by decide) in_X9_season_X9 rfl 2 (by decide) (List.mem_of_getElem? (i := 6) rfl) rfl rfl dX9_season_74 ?_
    refine g_if_ne (tgt := 87) B dX9_season_77 (by decide) (fun c11 => ?_) (fun c11 => ?_)
    · refine g_aload_n B dX9_season_80 0 rfl rfl ?_
      refine g_bipush (v := -3) B dX9_season_81 (by decide) ?_
      refine g_callVIe (q := (RX9, TX9, 39)) (As := [.int (-3 : Int32)]) (st := []) B (k_X9_refused l D cA ad B.2.2.2.2.2.2.1 (-3 : Int32) M) (cwV 1 B.2.2.2.2.1 gX9_season_X9_refused rfl rfl rfl (by decide +kernel) ⟨Nat.le_of_ble_eq_true rfl, Nat.le_of_ble_eq_true rfl⟩) shM_o (by decide) rfl rfl rfl (Nat.le_of_ble_eq_true rfl) dX9_season_83 (fun r25 M26 _ => ?_)
      exact g_iret B hr hk dX9_season_86
    · refine g_aload_n B dX9_season_87 0 rfl rfl ?_
      refine g_iload_n B dX9_season_88 1 rfl rfl ?_
      refine g_iload_n B dX9_season_89 2 rfl rfl ?_
      refine g_iload_n B dX9_season_90 3 rfl rfl ?_
      refine g_ldc2 (v := 2) B dX9_season_91 (List.mem_of_getElem? (i := 1) rfl) ?_
      refine g_iload B dX9_season_94 4 rfl ?_
      refine g_i2l B dX9_season_96 ?_
      refine g_lmul B dX9_season_97 ?_
      refine g_callVIe (q := (RX9, TX9, 39)) (As := [.int v1, .int v2, .int v3, .long ((2 : Int64) * v4.toInt64)]) (st := []) B (k_X9_cellsBarred l D cA ad B.2.2.2.2.2.2.1 v1 v2 v3 ((2 : Int64) * v4.toInt64) M) (cwV 4 B.2.2.2.2.1 gX9_season_X9_cellsBarred rfl rfl rfl (by decide +kernel) ⟨Nat.le_of_ble_eq_true rfl, Nat.le_of_ble_eq_true rfl⟩) shM_o (by decide) rfl rfl rfl (Nat.le_of_ble_eq_true rfl) dX9_season_98 (fun r12 M13 _ => ?_)
      refine g_istore B dX9_season_101 (by decide) (lv1 := [(6, .int r12), (0, .ref (ad 0)), (1, .int v1), (2, .int v2), (3, .int v3), (4, .int v4), (5, .int v5)]) rfl ?_
      refine g_iload B dX9_season_103 0 rfl ?_
      refine g_if_ge (tgt := 111) B dX9_season_105 (by decide) (fun c14 => ?_) (fun c14 => ?_)
      · refine g_aload_n B dX9_season_111 1 rfl rfl ?_
        refine g_bipush (v := 60) B dX9_season_112 (by decide) ?_
        refine g_iload_n B dX9_season_114 2 rfl rfl ?_
        refine g_imul B dX9_season_115 ?_
        refine g_iload_n B dX9_season_116 4 rfl rfl ?_
        refine g_iadd B dX9_season_117 ?_
        refine g_iload B dX9_season_118 5 rfl ?_
        refine g_callVIp (q := (RX9, TX9, 39)) (As := [.int (((60 : Int32) * v1) + v3), .int v4]) (st := []) B (k_X9_pairsBarred l D cA ad B.2.2.2.2.2.2.1 (((60 : Int32) * v1) + v3) v4 M13) (cwV 2 B.2.2.2.2.1 gX9_season_X9_pairsBarred rfl rfl rfl (by decide +kernel) ⟨Nat.le_of_ble_eq_true rfl, Nat.le_of_ble_eq_true rfl⟩) shM_o (by decide) rfl rfl rfl (Nat.le_of_ble_eq_true rfl) dX9_season_120 (fun r15 _ => ?_)
        refine g_istore B dX9_season_123 (by decide) (lv1 := [(6, .int r15), (0, .ref (ad 0)), (1, .int v1), (2, .int v2), (3, .int v3), (4, .int v4), (5, .int v5)]) rfl ?_
        refine g_iload B dX9_season_125 0 rfl ?_
        refine g_if_ge (tgt := 137) B dX9_season_127 (by decide) (fun c16 => ?_) (fun c16 => ?_)
        · refine g_aload_n B dX9_season_137 1 rfl rfl ?_
          refine g_callVVe (q := (RX9, TX9, 39)) (As := []) (st := []) B (k_X9_keepAll l D cA ad B.2.2.2.2.2.2.1  M13) (cwV 0 B.2.2.2.2.1 gX9_season_X9_keepAll rfl rfl rfl (by decide +kernel) ⟨Nat.le_of_ble_eq_true rfl, Nat.le_of_ble_eq_true rfl⟩) shM_o (by decide) rfl rfl rfl (Nat.le_of_ble_eq_true rfl) dX9_season_138 (fun M17 _ => ?_)
          refine g_aload_n B dX9_season_141 1 rfl rfl ?_
          refine g_bipush (v := 60) B dX9_season_142 (by decide) ?_
          refine g_iload_n B dX9_season_144 2 rfl rfl ?_
          refine g_imul B dX9_season_145 ?_
          refine g_iload_n B dX9_season_146 4 rfl rfl ?_
          refine g_iadd B dX9_season_147 ?_
          refine g_iload B dX9_season_148 5 rfl ?_
          refine g_iload B dX9_season_150 6 rfl ?_
          refine g_callVIe (q := (RX9, TX9, 39)) (As := [.int (((60 : Int32) * v1) + v3), .int v4, .int v5]) (st := []) B (k_X9_seasonBy l D cA ad B.2.2.2.2.2.2.1 (((60 : Int32) * v1) + v3) v4 v5 M17) (cwV 3 B.2.2.2.2.1 gX9_season_X9_seasonBy rfl rfl rfl (by decide +kernel) ⟨Nat.le_of_ble_eq_true rfl, Nat.le_of_ble_eq_true rfl⟩) shM_o (by decide) rfl rfl rfl (Nat.le_of_ble_eq_true rfl) dX9_season_152 (fun r18 M19 _ => ?_)
          refine g_istore B dX9_season_155 (by decide) (lv1 := [(7, .int r18), (6, .int r15), (0, .ref (ad 0)), (1, .int v1), (2, .int v2), (3, .int v3), (4, .int v4), (5, .int v5)]) rfl ?_
          refine g_aload_n B dX9_season_157 2 rfl rfl ?_
          refine g_callVVe (q := (RX9, TX9, 39)) (As := []) (st := []) B (k_X9_bringBack l D cA ad B.2.2.2.2.2.2.1  M19) (cwV 0 B.2.2.2.2.1 gX9_season_X9_bringBack rfl rfl rfl (by decide +kernel) ⟨Nat.le_of_ble_eq_true rfl, Nat.le_of_ble_eq_true rfl⟩) shM_o (by decide) rfl rfl rfl (Nat.le_of_ble_eq_true rfl) dX9_season_158 (fun M20 _ => ?_)
          refine g_aload_n B dX9_season_161 2 rfl rfl ?_
          refine g_iload B dX9_season_162 0 rfl ?_
          refine g_callVIe (q := (RX9, TX9, 39)) (As := [.int r18]) (st := []) B (k_X9_refused l D cA ad B.2.2.2.2.2.2.1 r18 M20) (cwV 1 B.2.2.2.2.1 gX9_season_X9_refused rfl rfl rfl (by decide +kernel) ⟨Nat.le_of_ble_eq_true rfl, Nat.le_of_ble_eq_true rfl⟩) shM_o (by decide) rfl rfl rfl (Nat.le_of_ble_eq_true rfl) dX9_season_164 (fun r21 M22 _ => ?_)
          exact g_iret B hr hk dX9_season_167
        · refine g_aload_n B dX9_season_130 1 rfl rfl ?_
          refine g_iload B dX9_season_131 0 rfl ?_
          refine g_callVIe (q := (RX9, TX9, 39)) (As := [.int r15]) (st := []) B (k_X9_refused l D cA ad B.2.2.2.2.2.2.1 r15 M13) (cwV 1 B.2.2.2.2.1 gX9_season_X9_refused rfl rfl rfl (by decide +kernel) ⟨Nat.le_of_ble_eq_true rfl, Nat.le_of_ble_eq_true rfl⟩) shM_o (by decide) rfl rfl rfl (Nat.le_of_ble_eq_true rfl) dX9_season_133 (fun r23 M24 _ => ?_)
          exact g_iret B hr hk dX9_season_136
      · refine g_iload B dX9_season_108 0 rfl ?_
        exact g_iret B hr hk dX9_season_110
  unfold d_X9_season
  show GG p l e (headSpec wsX9_season rm_X9_season).room s m args below meth c D ad (shM ad cA) 25 8 (MQ below (QI D ad (shM ad cA) 25 s.heap.size R0) args s 0 0 (AX ad 25 s.heap.size)) R0 M 0 [(0, .ref (ad 0)), (1, .int v1), (2, .int v2), (3, .int v3), (4, .int v4), (5, .int v5)] [] _
  refine g_iload_n B dX9_season_0 1 rfl rfl ?_
  refine g_callSIp (As := [.int v1]) (st := []) B (k_X9_noSheet l D cA ad B.2.2.2.2.2.2.1 v1 M) (va_cwS 1 B.2.2.2.2.1 gX9_season_X9_noSheet rfl rfl rfl (by decide +kernel) ⟨Nat.le_of_ble_eq_true rfl, Nat.le_of_ble_eq_true rfl⟩) rfl rfl (Nat.le_of_ble_eq_true rfl) dX9_season_1 (fun r1 _ => ?_)
  refine g_if_eq (tgt := 13) B dX9_season_4 (by decide) (fun c2 => ?_) (fun c2 => ?_)
  · refine g_iload_n B dX9_season_13 2 rfl rfl ?_
    refine g_i2l B dX9_season_14 ?_
    refine g_lconst (v := 0) B dX9_season_15 (by decide) ?_
    refine g_ldc2 (v := 2) B dX9_season_16 (List.mem_of_getElem? (i := 1) rfl) ?_
    refine g_callSIp (As := [.long v2.toInt64, .long (0 : Int64), .long (2 : Int64)]) (st := []) B (k_X9_in l D cA ad B.2.2.2.2.2.2.1 v2.toInt64 (0 : Int64) (2 : Int64) M) (va_cwS 3 B.2.2.2.2.1 gX9_season_X9_in rfl rfl rfl (by decide +kernel) ⟨Nat.le_of_ble_eq_true rfl, Nat.le_of_ble_eq_true rfl⟩) rfl rfl (Nat.le_of_ble_eq_true rfl) dX9_season_19 (fun r3 _ => ?_)
    refine g_if_eq (tgt := 66) B dX9_season_22 (by decide) (fun c4 => ?_) (fun c4 => ?_)
    · exact g_lv [0] rfl (hJ66 _   )
    · refine g_iload B dX9_season_25 4 rfl ?_
      refine g_i2l B dX9_season_27 ?_
      refine g_lconst (v := 0) B dX9_season_28 (by decide) ?_
      refine g_ldc2 (v := 20) B dX9_season_29 (List.mem_of_getElem? (i := 2) rfl) ?_
      refine g_callSIp (As := [.long v4.toInt64, .long (0 : Int64), .long (20 : Int64)]) (st := []) B (k_X9_in l D cA ad B.2.2.2.2.2.2.1 v4.toInt64 (0 : Int64) (20 : Int64) M) (va_cwS 3 B.2.2.2.2.1 gX9_season_X9_in rfl rfl rfl (by decide +kernel) ⟨Nat.le_of_ble_eq_true rfl, Nat.le_of_ble_eq_true rfl⟩) rfl rfl (Nat.le_of_ble_eq_true rfl) dX9_season_32 (fun r7 _ => ?_)
      refine g_if_eq (tgt := 66) B dX9_season_35 (by decide) (fun c8 => ?_) (fun c8 => ?_)
      · exact g_lv [0] rfl (hJ66 _   )
      · refine g_iload B dX9_season_38 5 rfl ?_
        refine g_i2l B dX9_season_40 ?_
        refine g_lconst (v := 0) B dX9_season_41 (by decide) ?_
        refine g_ldc2 (v := 4) B dX9_season_42 (List.mem_of_getElem? (i := 3) rfl) ?_
        refine g_callSIp (As := [.long v5.toInt64, .long (0 : Int64), .long (4 : Int64)]) (st := []) B (k_X9_in l D cA ad B.2.2.2.2.2.2.1 v5.toInt64 (0 : Int64) (4 : Int64) M) (va_cwS 3 B.2.2.2.2.1 gX9_season_X9_in rfl rfl rfl (by decide +kernel) ⟨Nat.le_of_ble_eq_true rfl, Nat.le_of_ble_eq_true rfl⟩) rfl rfl (Nat.le_of_ble_eq_true rfl) dX9_season_45 (fun r9 _ => ?_)
        refine g_if_ne (tgt := 73) B dX9_season_48 (by decide) (fun c10 => ?_) (fun c10 => ?_)
        · refine g_iload B dX9_season_51 5 rfl ?_
          refine g_i2l B dX9_season_53 ?_
          refine g_ldc2 (v := 10) B dX9_season_54 (List.mem_of_getElem? (i := 4) rfl) ?_
          refine g_ldc2 (v := 15) B dX9_season_57 (List.mem_of_getElem? (i := 5) rfl) ?_
          refine g_callSIp (As := [.long v5.toInt64, .long (10 : Int64), .long (15 : Int64)]) (st := []) B (k_X9_in l D cA ad B.2.2.2.2.2.2.1 v5.toInt64 (10 : Int64) (15 : Int64) M) (va_cwS 3 B.2.2.2.2.1 gX9_season_X9_in rfl rfl rfl (by decide +kernel) ⟨Nat.le_of_ble_eq_true rfl, Nat.le_of_ble_eq_true rfl⟩) rfl rfl (Nat.le_of_ble_eq_true rfl) dX9_season_60 (fun r27 _ => ?_)
          refine g_if_ne (tgt := 73) B dX9_season_63 (by decide) (fun c28 => ?_) (fun c28 => ?_)
          · exact g_lv [0] rfl (hJ66 _   )
          · exact g_lv [0, 1, 2, 3, 4, 5] rfl (hJ73 _ _ _ _ _ _   )
        · exact g_lv [0, 1, 2, 3, 4, 5] rfl (hJ73 _ _ _ _ _ _   )
  · refine g_aload_n B dX9_season_7 0 rfl rfl ?_
    refine g_iconst (v := -1) B dX9_season_8 (by decide) ?_
    refine g_callVIe (q := (RX9, TX9, 39)) (As := [.int (-1 : Int32)]) (st := []) B (k_X9_refused l D cA ad B.2.2.2.2.2.2.1 (-1 : Int32) M) (cwV 1 B.2.2.2.2.1 gX9_season_X9_refused rfl rfl rfl (by decide +kernel) ⟨Nat.le_of_ble_eq_true rfl, Nat.le_of_ble_eq_true rfl⟩) shM_o (by decide) rfl rfl rfl (Nat.le_of_ble_eq_true rfl) dX9_season_9 (fun r29 M30 _ => ?_)
    exact g_iret B hr hk dX9_season_12

abbrev rm_X9_nextTo : Room := { frames := 1, cells := 0, slots := 0, locals := 22 }
set_option maxHeartbeats 4000000 in
set_option maxRecDepth 100000 in
theorem k_X9_nextTo (l : Launch) (D : va_G) (cA : Nat → ClassId) (ad : Nat → Nat) (had : adOK ad 25) (v1 : Int32) (v2 : Int32) (M : Mem) : CI l yX9_nextTo wsX9_nextTo rm_X9_nextTo D cA ad (shM ad cA) 25 [.ref (ad 0), .int v1, .int v2] M (wM M (d_X9_nextTo v1 v2 M)) := by
  refine CI_ofp (own := RX9) (cc := cX9_nextTo) (maxL := 7) (rt := .int) had (by decide) rfl rfl (Nat.le_of_ble_eq_true rfl) ?_
  intro p e s m args below meth c R0 B hr hk
  have hJ69 : ∀ (rec11 : Int32 → Int32 → Option Int32) (v1 : Int32) (v2 : Int32) (v3 : Int32) (v4 : Int32) (s0 : Int32)    (hrec11 : ∀ (w3 : Int32) (w4 : Int32), GG p l e (headSpec wsX9_nextTo rm_X9_nextTo).room s m args below meth c D ad (shM ad cA) 25 7 (MQ below (QI D ad (shM ad cA) 25 s.heap.size (R0, M)) args s 0 0 (AX ad 25 s.heap.size)) R0 M 11 [(0, .ref (ad 0)), (1, .int v1), (2, .int v2), (3, .int w3), (4, .int w4)] [] (rec11 w3 w4)), GG p l e (headSpec wsX9_nextTo rm_X9_nextTo).room s m args below meth c D ad (shM ad cA) 25 7 (MQ below (QI D ad (shM ad cA) 25 s.heap.size (R0, M)) args s 0 0 (AX ad 25 s.heap.size)) R0 M 69 [(0, .ref (ad 0)), (1, .int v1), (2, .int v2), (3, .int v3), (4, .int v4)] [.int s0] (dX9_nextTo_69j rec11 v1 v2 v3 v4 s0 M) := by
    intro rec11 v1 v2 v3 v4 s0 hrec11
    unfold dX9_nextTo_69j
    refine g_istore B dX9_nextTo_69 (by decide) (lv1 := [(6, .int s0), (0, .ref (ad 0)), (1, .int v1), (2, .int v2), (3, .int v3), (4, .int v4)]) rfl ?_
    refine g_iload B dX9_nextTo_71 0 rfl ?_
    refine g_if_eq (tgt := 81) B dX9_nextTo_73 (by decide) (fun c5 => ?_) (fun c5 => ?_)
    · refine g_iload_n B dX9_nextTo_81 4 rfl rfl ?_
      refine g_istore_n B dX9_nextTo_82 rfl (by decide) (lv1 := [(3, .int v3), (6, .int s0), (0, .ref (ad 0)), (1, .int v1), (2, .int v2), (4, .int v4)]) rfl ?_
      refine g_iinc B dX9_nextTo_83 5 (v := v4 + (-1 : Int32)) rfl rfl (by decide) (lv1 := [(4, .int (v4 + (-1 : Int32))), (3, .int v3), (6, .int s0), (0, .ref (ad 0)), (1, .int v1), (2, .int v2)]) rfl ?_
      refine g_goto (tgt := 11) B dX9_nextTo_86 (by decide) ?_
      exact g_lv [3, 4, 5, 1, 0] rfl (hrec11 _ _)
    · refine g_iload B dX9_nextTo_76 5 rfl ?_
      refine g_goto (tgt := 82) B dX9_nextTo_78 (by decide) ?_
      refine g_istore_n B dX9_nextTo_82 rfl (by decide) (lv1 := [(3, .int v4), (6, .int s0), (0, .ref (ad 0)), (1, .int v1), (2, .int v2), (4, .int v4)]) rfl ?_
      refine g_iinc B dX9_nextTo_83 5 (v := v4 + (-1 : Int32)) rfl rfl (by decide) (lv1 := [(4, .int (v4 + (-1 : Int32))), (3, .int v4), (6, .int s0), (0, .ref (ad 0)), (1, .int v1), (2, .int v2)]) rfl ?_
      refine g_goto (tgt := 11) B dX9_nextTo_86 (by decide) ?_
      exact g_lv [3, 4, 5, 1, 0] rfl (hrec11 _ _)
  have hJ68 : ∀ (rec11 : Int32 → Int32 → Option Int32) (v1 : Int32) (v2 : Int32) (v3 : Int32) (v4 : Int32)     (hrec11 : ∀ (w3 : Int32) (w4 : Int32), GG p l e (headSpec wsX9_nextTo rm_X9_nextTo).room s m args below meth c D ad (shM ad cA) 25 7 (MQ below (QI D ad (shM ad cA) 25 s.heap.size (R0, M)) args s 0 0 (AX ad 25 s.heap.size)) R0 M 11 [(0, .ref (ad 0)), (1, .int v1), (2, .int v2), (3, .int w3), (4, .int w4)] [] (rec11 w3 w4)), GG p l e (headSpec wsX9_nextTo rm_X9_nextTo).room s m args below meth c D ad (shM ad cA) 25 7 (MQ below (QI D ad (shM ad cA) 25 s.heap.size (R0, M)) args s 0 0 (AX ad 25 s.heap.size)) R0 M 68 [(0, .ref (ad 0)), (1, .int v1), (2, .int v2), (3, .int v3), (4, .int v4)] [] (dX9_nextTo_68j rec11 v1 v2 v3 v4  M) := by
    intro rec11 v1 v2 v3 v4 hrec11
    unfold dX9_nextTo_68j
    refine g_iconst (v := 0) B dX9_nextTo_68 (by decide) ?_
    exact g_lv [0, 1, 2, 3, 4] rfl (hJ69 _ _ _ _ _ _   hrec11)
  have hL11 : ∀ (v1 : Int32) (v2 : Int32)    , ∀ (f : Nat) (v3 : Int32) (v4 : Int32), GG p l e (headSpec wsX9_nextTo rm_X9_nextTo).room s m args below meth c D ad (shM ad cA) 25 7 (MQ below (QI D ad (shM ad cA) 25 s.heap.size (R0, M)) args s 0 0 (AX ad 25 s.heap.size)) R0 M 11 [(0, .ref (ad 0)), (1, .int v1), (2, .int v2), (3, .int v3), (4, .int v4)] [] (dX9_nextTo_11l v1 v2 M  f v3 v4 ) := by
    intro v1 v2
    intro f
    induction f with
    | zero =>
      intro v3 v4
      exact g_none
    | succ f ih =>
      intro v3 v4
      rw [dX9_nextTo_11l]
      refine g_iload B dX9_nextTo_11 4 rfl ?_
      refine g_if_lt (tgt := 89) B dX9_nextTo_13 (by decide) (fun c2 => ?_) (fun c2 => ?_)
      · refine g_iload_n B dX9_nextTo_89 3 rfl rfl ?_
        exact g_iretp B hr hk dX9_nextTo_90
      · refine g_aload_n B dX9_nextTo_16 0 rfl rfl ?_
        refine g_get (v := .ref (ad 1)) B shM_o (by decide) in_X9_nextTo_X9 rfl 5 (by decide) (List.mem_of_getElem? (i := 2) rfl) rfl rfl dX9_nextTo_17 ?_
        refine g_bipush (v := 6) B dX9_nextTo_20 (by decide) ?_
        refine g_iload_n B dX9_nextTo_22 1 rfl rfl ?_
        refine g_imul B dX9_nextTo_23 ?_
        refine g_iload B dX9_nextTo_24 4 rfl ?_
        refine g_iadd B dX9_nextTo_26 ?_
        refine g_iald B shM_a1 (by decide) dX9_nextTo_27 ?_
        refine g_lmI (fun x3 => ?_)
        refine g_istore B dX9_nextTo_28 (by decide) (lv1 := [(5, .int x3), (0, .ref (ad 0)), (1, .int v1), (2, .int v2), (3, .int v3), (4, .int v4)]) rfl ?_
        refine g_iload B dX9_nextTo_30 0 rfl ?_
        refine g_if_le (tgt := 68) B dX9_nextTo_32 (by decide) (fun c4 => ?_) (fun c4 => ?_)
        · exact g_lv [1, 2, 3, 4, 5] rfl (hJ68 _ _ _ _ _   ih)
        · refine g_aload_n B dX9_nextTo_35 1 rfl rfl ?_
          refine g_iload B dX9_nextTo_36 5 rfl ?_
          refine g_iload_n B dX9_nextTo_38 3 rfl rfl ?_
          refine g_callVIp (q := (RX9, TX9, 39)) (As := [.int v4, .int v2]) (st := []) B (k_X9_farFrom l D cA ad B.2.2.2.2.2.2.1 v4 v2 M) (cwV 2 B.2.2.2.2.1 gX9_nextTo_X9_farFrom rfl rfl rfl (by decide +kernel) ⟨Nat.le_of_ble_eq_true rfl, Nat.le_of_ble_eq_true rfl⟩) shM_o (by decide) rfl rfl rfl (Nat.le_of_ble_eq_true rfl) dX9_nextTo_39 (fun r6 _ => ?_)
          refine g_if_lt (tgt := 68) B dX9_nextTo_42 (by decide) (fun c7 => ?_) (fun c7 => ?_)
          · exact g_lv [1, 2, 3, 4, 5] rfl (hJ68 _ _ _ _ _   ih)
          · refine g_iload B dX9_nextTo_45 0 rfl ?_
            refine g_aload_n B dX9_nextTo_47 1 rfl rfl ?_
            refine g_iload B dX9_nextTo_48 5 rfl ?_
            refine g_iload_n B dX9_nextTo_50 3 rfl rfl ?_
            refine g_callVIp (q := (RX9, TX9, 39)) (As := [.int v4, .int v2]) (st := [.int x3]) B (k_X9_farFrom l D cA ad B.2.2.2.2.2.2.1 v4 v2 M) (cwV 2 B.2.2.2.2.1 gX9_nextTo_X9_farFrom rfl rfl rfl (by decide +kernel) ⟨Nat.le_of_ble_eq_true rfl, Nat.le_of_ble_eq_true rfl⟩) shM_o (by decide) rfl rfl rfl (Nat.le_of_ble_eq_true rfl) dX9_nextTo_51 (fun r8 _ => ?_)
            refine g_iadd B dX9_nextTo_54 ?_
            refine g_aload_n B dX9_nextTo_55 1 rfl rfl ?_
            refine g_iload_n B dX9_nextTo_56 2 rfl rfl ?_
            refine g_iload_n B dX9_nextTo_57 3 rfl rfl ?_
            refine g_callVIp (q := (RX9, TX9, 39)) (As := [.int v1, .int v2]) (st := [.int (x3 + r8)]) B (k_X9_farFrom l D cA ad B.2.2.2.2.2.2.1 v1 v2 M) (cwV 2 B.2.2.2.2.1 gX9_nextTo_X9_farFrom rfl rfl rfl (by decide +kernel) ⟨Nat.le_of_ble_eq_true rfl, Nat.le_of_ble_eq_true rfl⟩) shM_o (by decide) rfl rfl rfl (Nat.le_of_ble_eq_true rfl) dX9_nextTo_58 (fun r9 _ => ?_)
            refine g_icmp_ne (tgt := 68) B dX9_nextTo_61 (by decide) (fun c10 => ?_) (fun c10 => ?_)
            · refine g_iconst (v := 1) B dX9_nextTo_64 (by decide) ?_
              refine g_goto (tgt := 69) B dX9_nextTo_65 (by decide) ?_
              exact g_lv [1, 2, 3, 4, 5] rfl (hJ69 _ _ _ _ _ _   ih)
            · exact g_lv [1, 2, 3, 4, 5] rfl (hJ68 _ _ _ _ _   ih)
  unfold d_X9_nextTo
  show GG p l e (headSpec wsX9_nextTo rm_X9_nextTo).room s m args below meth c D ad (shM ad cA) 25 7 (MQ below (QI D ad (shM ad cA) 25 s.heap.size (R0, M)) args s 0 0 (AX ad 25 s.heap.size)) R0 M 0 [(0, .ref (ad 0)), (1, .int v1), (2, .int v2)] [] _
  refine g_bipush (v := -9) B dX9_nextTo_0 (by decide) ?_
  refine g_istore_n B dX9_nextTo_2 rfl (by decide) (lv1 := [(3, .int (-9 : Int32)), (0, .ref (ad 0)), (1, .int v1), (2, .int v2)]) rfl ?_
  refine g_aload_n B dX9_nextTo_3 1 rfl rfl ?_
  refine g_get (v := .int (M 0 1)) B shM_o (by decide) in_X9_nextTo_X9 rfl 1 (by decide) (List.mem_of_getElem? (i := 1) rfl) rfl rfl dX9_nextTo_4 ?_
  refine g_iconst (v := 1) B dX9_nextTo_7 (by decide) ?_
  refine g_isub B dX9_nextTo_8 ?_
  refine g_lmI (fun x1 => ?_)
  refine g_istore B dX9_nextTo_9 (by decide) (lv1 := [(4, .int x1), (3, .int (-9 : Int32)), (0, .ref (ad 0)), (1, .int v1), (2, .int v2)]) rfl ?_
  refine g_lv [2, 3, 4, 1, 0] rfl (hL11 _ _   FU _ _)
