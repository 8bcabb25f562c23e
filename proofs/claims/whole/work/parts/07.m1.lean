abbrev rm_X9_in : Room := { frames := 0, cells := 0, slots := 0, locals := 0 }
set_option maxHeartbeats 4000000 in
set_option maxRecDepth 100000 in
theorem k_X9_in (l : Launch) (D : va_G) (cA : Nat → ClassId) (ad : Nat → Nat) (had : adOK ad 25) (v0 : Int64) (v2 : Int64) (v4 : Int64) (M : Mem) : CI l yX9_in wsX9_in rm_X9_in D cA ad (shM ad cA) 25 [.long v0, .long v2, .long v4] M (wM M (d_X9_in v0 v2 v4 M)) := by
  refine CI_ofp (own := RX9) (cc := cX9_in) (maxL := 6) (rt := .boolean) had (by decide) rfl rfl (Nat.le_of_ble_eq_true rfl) ?_
  intro p e s m args below meth c R0 B hr hk
  unfold d_X9_in
  show GG p l e (headSpec wsX9_in rm_X9_in).room s m args below meth c D ad (shM ad cA) 25 6 (MQ below (QI D ad (shM ad cA) 25 s.heap.size (R0, M)) args s 0 0 (AX ad 25 s.heap.size)) R0 M 0 [(0, .long v0), (2, .long v2), (4, .long v4)] [] _
  refine g_lload_n B dX9_in_0 0 rfl rfl ?_
  refine g_lload_n B dX9_in_1 1 rfl rfl ?_
  refine g_lcmp B dX9_in_2 ?_
  refine g_if_lt (tgt := 17) B dX9_in_3 (by decide) (fun c1 => ?_) (fun c1 => ?_)
  · refine g_iconst (v := 0) B dX9_in_17 (by decide) ?_
    exact g_zretp B hr hk rfl dX9_in_18
  · refine g_lload_n B dX9_in_6 0 rfl rfl ?_
    refine g_lload B dX9_in_7 2 rfl ?_
    refine g_lcmp B dX9_in_9 ?_
    refine g_if_gt (tgt := 17) B dX9_in_10 (by decide) (fun c2 => ?_) (fun c2 => ?_)
    · refine g_iconst (v := 0) B dX9_in_17 (by decide) ?_
      exact g_zretp B hr hk rfl dX9_in_18
    · refine g_iconst (v := 1) B dX9_in_13 (by decide) ?_
      refine g_goto (tgt := 18) B dX9_in_14 (by decide) ?_
      exact g_zretp B hr hk rfl dX9_in_18

abbrev rm_X9_lost : Room := { frames := 0, cells := 0, slots := 0, locals := 0 }
set_option maxHeartbeats 4000000 in
set_option maxRecDepth 100000 in
theorem k_X9_lost (l : Launch) (D : va_G) (cA : Nat → ClassId) (ad : Nat → Nat) (had : adOK ad 25)  (M : Mem) : CL l yX9_lost wsX9_lost rm_X9_lost D cA ad (shM ad cA) 25 [] M (wM M (d_X9_lost  M)) := by
  refine CL_ofp (own := RX9) (cc := cX9_lost) (maxL := 0) (rt := .long) had (by decide) rfl rfl (Nat.le_of_ble_eq_true rfl) ?_
  intro p e s m args below meth c R0 B hr hk
  unfold d_X9_lost
  show GG p l e (headSpec wsX9_lost rm_X9_lost).room s m args below meth c D ad (shM ad cA) 25 0 (MQ below (QL D ad (shM ad cA) 25 s.heap.size (R0, M)) args s 0 0 (AX ad 25 s.heap.size)) R0 M 0 [] [] _
  refine g_ldc2 (v := -9223372036854775808) B dX9_lost_0 (List.mem_of_getElem? (i := 1) rfl) ?_
  exact g_lretp B hr hk dX9_lost_3

abbrev rm_X9_isIn : Room := { frames := 0, cells := 0, slots := 0, locals := 0 }
set_option maxHeartbeats 4000000 in
set_option maxRecDepth 100000 in
theorem k_X9_isIn (l : Launch) (D : va_G) (cA : Nat → ClassId) (ad : Nat → Nat) (had : adOK ad 25) (v0 : Int32) (v1 : Int32) (M : Mem) : CI l yX9_isIn wsX9_isIn rm_X9_isIn D cA ad (shM ad cA) 25 [.int v0, .int v1] M (wM M (d_X9_isIn v0 v1 M)) := by
  refine CI_ofp (own := RX9) (cc := cX9_isIn) (maxL := 2) (rt := .boolean) had (by decide) rfl rfl (Nat.le_of_ble_eq_true rfl) ?_
  intro p e s m args below meth c R0 B hr hk
  unfold d_X9_isIn
  show GG p l e (headSpec wsX9_isIn rm_X9_isIn).room s m args below meth c D ad (shM ad cA) 25 2 (MQ below (QI D ad (shM ad cA) 25 s.heap.size (R0, M)) args s 0 0 (AX ad 25 s.heap.size)) R0 M 0 [(0, .int v0), (1, .int v1)] [] _
  refine g_iload_n B dX9_isIn_0 0 rfl rfl ?_
  refine g_iload_n B dX9_isIn_1 1 rfl rfl ?_
  refine g_ishr B dX9_isIn_2 ?_
  refine g_iconst (v := 1) B dX9_isIn_3 (by decide) ?_
  refine g_iand B dX9_isIn_4 ?_
  refine g_iconst (v := 1) B dX9_isIn_5 (by decide) ?_
  refine g_icmp_ne (tgt := 13) B dX9_isIn_6 (by decide) (fun c1 => ?_) (fun c1 => ?_)
  · refine g_iconst (v := 1) B dX9_isIn_9 (by decide) ?_
    refine g_goto (tgt := 14) B dX9_isIn_10 (by decide) ?_
    exact g_zretp B hr hk rfl dX9_isIn_14
  · refine g_iconst (v := 0) B dX9_isIn_13 (by decide) ?_
    exact g_zretp B hr hk rfl dX9_isIn_14

abbrev rm_X9_bits : Room := { frames := 0, cells := 0, slots := 0, locals := 0 }
set_option maxHeartbeats 4000000 in
set_option maxRecDepth 100000 in
theorem k_X9_bits (l : Launch) (D : va_G) (cA : Nat → ClassId) (ad : Nat → Nat) (had : adOK ad 25) (v0 : Int32) (M : Mem) : CI l yX9_bits wsX9_bits rm_X9_bits D cA ad (shM ad cA) 25 [.int v0] M (wM M (d_X9_bits v0 M)) := by
  refine CI_ofp (own := RX9) (cc := cX9_bits) (maxL := 3) (rt := .int) had (by decide) rfl rfl (Nat.le_of_ble_eq_true rfl) ?_
  intro p e s m args below meth c R0 B hr hk
  have hL4 : ∀ (f : Nat) (v1 : Int32) (v2 : Int32), GG p l e (headSpec wsX9_bits rm_X9_bits).room s m args below meth c D ad (shM ad cA) 25 3 (MQ below (QI D ad (shM ad cA) 25 s.heap.size (R0, M)) args s 0 0 (AX ad 25 s.heap.size)) R0 M 4 [(1, .int v1), (2, .int v2)] [] (dX9_bits_4l  M  f v1 v2 ) := by
    intro f
    induction f with
    | zero =>
      intro v1 v2
      exact g_none
    | succ f ih =>
      intro v1 v2
      rw [dX9_bits_4l]
      refine g_iload_n B dX9_bits_4 1 rfl rfl ?_
      refine g_if_le (tgt := 21) B dX9_bits_5 (by decide) (fun c1 => ?_) (fun c1 => ?_)
      · refine g_iload_n B dX9_bits_21 0 rfl rfl ?_
        exact g_iretp B hr hk dX9_bits_22
      · refine g_iload_n B dX9_bits_8 0 rfl rfl ?_
        refine g_iload_n B dX9_bits_9 1 rfl rfl ?_
        refine g_iconst (v := 1) B dX9_bits_10 (by decide) ?_
        refine g_iand B dX9_bits_11 ?_
        refine g_iadd B dX9_bits_12 ?_
        refine g_lmI (fun x2 => ?_)
        refine g_istore_n B dX9_bits_13 rfl (by decide) (lv1 := [(1, .int x2), (2, .int v2)]) rfl ?_
        refine g_iload_n B dX9_bits_14 1 rfl rfl ?_
        refine g_iconst (v := 1) B dX9_bits_15 (by decide) ?_
        refine g_ishr B dX9_bits_16 ?_
        refine g_lmI (fun x3 => ?_)
        refine g_istore_n B dX9_bits_17 rfl (by decide) (lv1 := [(2, .int x3), (1, .int x2)]) rfl ?_
        refine g_goto (tgt := 4) B dX9_bits_18 (by decide) ?_
        exact g_lv [1, 0] rfl (ih _ _)
  unfold d_X9_bits
  show GG p l e (headSpec wsX9_bits rm_X9_bits).room s m args below meth c D ad (shM ad cA) 25 3 (MQ below (QI D ad (shM ad cA) 25 s.heap.size (R0, M)) args s 0 0 (AX ad 25 s.heap.size)) R0 M 0 [(0, .int v0)] [] _
  refine g_iconst (v := 0) B dX9_bits_0 (by decide) ?_
  refine g_istore_n B dX9_bits_1 rfl (by decide) (lv1 := [(1, .int (0 : Int32)), (0, .int v0)]) rfl ?_
  refine g_iload_n B dX9_bits_2 1 rfl rfl ?_
  refine g_istore_n B dX9_bits_3 rfl (by decide) (lv1 := [(2, .int v0), (1, .int (0 : Int32)), (0, .int v0)]) rfl ?_
  refine g_lv [1, 0] rfl (hL4    FU _ _)

abbrev rm_X9_share : Room := { frames := 0, cells := 0, slots := 0, locals := 0 }
set_option maxHeartbeats 4000000 in
set_option maxRecDepth 100000 in
theorem k_X9_share (l : Launch) (D : va_G) (cA : Nat → ClassId) (ad : Nat → Nat) (had : adOK ad 25) (v0 : Int64) (v2 : Int64) (v4 : Int32) (M : Mem) : CL l yX9_share wsX9_share rm_X9_share D cA ad (shM ad cA) 25 [.long v0, .long v2, .int v4] M (wM M (d_X9_share v0 v2 v4 M)) := by
  refine CL_ofp (own := RX9) (cc := cX9_share) (maxL := 11) (rt := .long) had (by decide) rfl rfl (Nat.le_of_ble_eq_true rfl) ?_
  intro p e s m args below meth c R0 B hr hk
  have hL6 : ∀ (v0 : Int64) (v2 : Int64) (v4 : Int32)  (k6_31 : Int64 → Option Int64)  (hk6_31 : ∀ (w5 : Int64), GG p l e (headSpec wsX9_share rm_X9_share).room s m args below meth c D ad (shM ad cA) 25 11 (MQ below (QL D ad (shM ad cA) 25 s.heap.size (R0, M)) args s 0 0 (AX ad 25 s.heap.size)) R0 M 31 [(0, .long v0), (2, .long v2), (4, .int v4), (5, .long w5)] [] (k6_31 w5)), ∀ (f : Nat) (v5 : Int64) (v7 : Int64), GG p l e (headSpec wsX9_share rm_X9_share).room s m args below meth c D ad (shM ad cA) 25 11 (MQ below (QL D ad (shM ad cA) 25 s.heap.size (R0, M)) args s 0 0 (AX ad 25 s.heap.size)) R0 M 6 [(0, .long v0), (2, .long v2), (4, .int v4), (5, .long v5), (7, .long v7)] [] (dX9_share_6l v0 v2 v4 M k6_31 f v5 v7 ) := by
    intro v0 v2 v4 k6_31 hk6_31
    intro f
    induction f with
    | zero =>
      intro v5 v7
      exact g_none
    | succ f ih =>
      intro v5 v7
      rw [dX9_share_6l]
      refine g_lload B dX9_share_6 4 rfl ?_
      refine g_lconst (v := 0) B dX9_share_8 (by decide) ?_
      refine g_lcmp B dX9_share_9 ?_
      refine g_if_eq (tgt := 31) B dX9_share_10 (by decide) (fun c1 => ?_) (fun c1 => ?_)
      · exact g_lv [0, 1, 2, 3] rfl (hk6_31 _)
      · refine g_lload B dX9_share_13 3 rfl ?_
        refine g_lload B dX9_share_15 4 rfl ?_
        refine g_lrem B dX9_share_17 ?_
        refine g_lmL (fun x2 => ?_)
        refine g_lstore B dX9_share_18 (by decide) (lv1 := [(9, .long x2), (0, .long v0), (2, .long v2), (4, .int v4), (5, .long v5), (7, .long v7)]) rfl ?_
        refine g_lload B dX9_share_20 5 rfl ?_
        refine g_lstore B dX9_share_22 (by decide) (lv1 := [(5, .long v7), (9, .long x2), (0, .long v0), (2, .long v2), (4, .int v4), (7, .long v7)]) rfl ?_
        refine g_lload B dX9_share_24 1 rfl ?_
        refine g_lstore B dX9_share_26 (by decide) (lv1 := [(7, .long x2), (5, .long v7), (9, .long x2), (0, .long v0), (2, .long v2), (4, .int v4)]) rfl ?_
        refine g_goto (tgt := 6) B dX9_share_28 (by decide) ?_
        exact g_lv [3, 4, 5, 1, 0] rfl (ih _ _)
  unfold d_X9_share
  show GG p l e (headSpec wsX9_share rm_X9_share).room s m args below meth c D ad (shM ad cA) 25 11 (MQ below (QL D ad (shM ad cA) 25 s.heap.size (R0, M)) args s 0 0 (AX ad 25 s.heap.size)) R0 M 0 [(0, .long v0), (2, .long v2), (4, .int v4)] [] _
  refine g_lload_n B dX9_share_0 0 rfl rfl ?_
  refine g_lstore B dX9_share_1 (by decide) (lv1 := [(5, .long v0), (0, .long v0), (2, .long v2), (4, .int v4)]) rfl ?_
  refine g_lload_n B dX9_share_3 2 rfl rfl ?_
  refine g_lstore B dX9_share_4 (by decide) (lv1 := [(7, .long v2), (5, .long v0), (0, .long v0), (2, .long v2), (4, .int v4)]) rfl ?_
  refine g_lv [2, 3, 4, 1, 0] rfl (hL6 _ _ _ _  ?_ FU _ _)
  · intro w3
    refine g_iload B dX9_share_31 2 rfl ?_
    refine g_if_ne (tgt := 40) B dX9_share_33 (by decide) (fun c4 => ?_) (fun c4 => ?_)
    · refine g_lload_n B dX9_share_36 0 rfl rfl ?_
      refine g_goto (tgt := 41) B dX9_share_37 (by decide) ?_
      refine g_lload B dX9_share_41 3 rfl ?_
      refine g_ldiv B dX9_share_43 ?_
      exact g_lretp B hr hk dX9_share_44
    · refine g_lload_n B dX9_share_40 1 rfl rfl ?_
      refine g_lload B dX9_share_41 3 rfl ?_
      refine g_ldiv B dX9_share_43 ?_
      exact g_lretp B hr hk dX9_share_44

abbrev rm_X9_refused : Room := { frames := 0, cells := 0, slots := 0, locals := 0 }
set_option maxHeartbeats 4000000 in
set_option maxRecDepth 100000 in
theorem k_X9_refused (l : Launch) (D : va_G) (cA : Nat → ClassId) (ad : Nat → Nat) (had : adOK ad 25) (v1 : Int32) (M : Mem) : CI l yX9_refused wsX9_refused rm_X9_refused D cA ad (shM ad cA) 25 [.ref (ad 0), .int v1] M (d_X9_refused v1 M) := by
  refine CI_of (own := RX9) (cc := cX9_refused) (maxL := 2) (rt := .int) had (by decide) rfl rfl (Nat.le_of_ble_eq_true rfl) ?_
  intro p e s m args below meth c R0 B hr hk
  unfold d_X9_refused
  show GG p l e (headSpec wsX9_refused rm_X9_refused).room s m args below meth c D ad (shM ad cA) 25 2 (MQ below (QI D ad (shM ad cA) 25 s.heap.size R0) args s 0 0 (AX ad 25 s.heap.size)) R0 M 0 [(0, .ref (ad 0)), (1, .int v1)] [] _
  refine g_aload_n B dX9_refused_0 0 rfl rfl ?_
  refine g_iconst (v := 0) B dX9_refused_1 (by decide) ?_
  refine g_put (ty := .int) B shM_o (by decide) in_X9_refused_X9 tyX9_ok nmX9 rfl 0 (by decide) (List.mem_of_getElem? (i := 1) rfl) rfl rfl (by decide +kernel) rfl rfl (fun _ => Nat.le_of_ble_eq_true rfl) (fun _ _ => rfl) dX9_refused_2 (g_lmM (fun M1 => ?_))
  refine g_iload_n B dX9_refused_5 1 rfl rfl ?_
  exact g_iret B hr hk dX9_refused_6

abbrev rm_X9_failed : Room := { frames := 0, cells := 0, slots := 0, locals := 0 }
set_option maxHeartbeats 4000000 in
set_option maxRecDepth 100000 in
theorem k_X9_failed (l : Launch) (D : va_G) (cA : Nat → ClassId) (ad : Nat → Nat) (had : adOK ad 25) (v1 : Int32) (M : Mem) : CI l yX9_failed wsX9_failed rm_X9_failed D cA ad (shM ad cA) 25 [.ref (ad 0), .int v1] M (d_X9_failed v1 M) := by
  refine CI_of (own := RX9) (cc := cX9_failed) (maxL := 2) (rt := .int) had (by decide) rfl rfl (Nat.le_of_ble_eq_true rfl) ?_
  intro p e s m args below meth c R0 B hr hk
  unfold d_X9_failed
  show GG p l e (headSpec wsX9_failed rm_X9_failed).room s m args below meth c D ad (shM ad cA) 25 2 (MQ below (QI D ad (shM ad cA) 25 s.heap.size R0) args s 0 0 (AX ad 25 s.heap.size)) R0 M 0 [(0, .ref (ad 0)), (1, .int v1)] [] _
  refine g_aload_n B dX9_failed_0 0 rfl rfl ?_
  refine g_iload_n B dX9_failed_1 1 rfl rfl ?_
  refine g_put (ty := .int) B shM_o (by decide) in_X9_failed_X9 tyX9_ok nmX9 rfl 0 (by decide) (List.mem_of_getElem? (i := 1) rfl) rfl rfl (by decide +kernel) rfl rfl (fun _ => Nat.le_of_ble_eq_true rfl) (fun _ _ => rfl) dX9_failed_2 (g_lmM (fun M1 => ?_))
  refine g_bipush (v := -10) B dX9_failed_5 (by decide) ?_
  refine g_iload_n B dX9_failed_7 1 rfl rfl ?_
  refine g_isub B dX9_failed_8 ?_
  exact g_iret B hr hk dX9_failed_9

abbrev rm_X9_failedLong : Room := { frames := 1, cells := 0, slots := 0, locals := 19 }
set_option maxHeartbeats 4000000 in
set_option maxRecDepth 100000 in
theorem k_X9_failedLong (l : Launch) (D : va_G) (cA : Nat → ClassId) (ad : Nat → Nat) (had : adOK ad 25) (v1 : Int32) (M : Mem) : CL l yX9_failedLong wsX9_failedLong rm_X9_failedLong D cA ad (shM ad cA) 25 [.ref (ad 0), .int v1] M (d_X9_failedLong v1 M) := by
  refine CL_of (own := RX9) (cc := cX9_failedLong) (maxL := 2) (rt := .long) had (by decide) rfl rfl (Nat.le_of_ble_eq_true rfl) ?_
  intro p e s m args below meth c R0 B hr hk
  unfold d_X9_failedLong
  show GG p l e (headSpec wsX9_failedLong rm_X9_failedLong).room s m args below meth c D ad (shM ad cA) 25 2 (MQ below (QL D ad (shM ad cA) 25 s.heap.size R0) args s 0 0 (AX ad 25 s.heap.size)) R0 M 0 [(0, .ref (ad 0)), (1, .int v1)] [] _
  refine g_aload_n B dX9_failedLong_0 0 rfl rfl ?_
  refine g_iload_n B dX9_failedLong_1 1 rfl rfl ?_
  refine g_put (ty := .int) B shM_o (by decide) in_X9_failedLong_X9 tyX9_ok nmX9 rfl 0 (by decide) (List.mem_of_getElem? (i := 1) rfl) rfl rfl (by decide +kernel) rfl rfl (fun _ => Nat.le_of_ble_eq_true rfl) (fun _ _ => rfl) dX9_failedLong_2 (g_lmM (fun M1 => ?_))
  refine g_callSLp (As := []) (st := []) B (k_X9_lost l D cA ad B.2.2.2.2.2.2.1  M1) (va_cwS 0 B.2.2.2.2.1 gX9_failedLong_X9_lost rfl rfl rfl (by decide +kernel) ⟨Nat.le_of_ble_eq_true rfl, Nat.le_of_ble_eq_true rfl⟩) rfl rfl (Nat.le_of_ble_eq_true rfl) dX9_failedLong_5 (fun r2 _ => ?_)
  exact g_lret B hr hk dX9_failedLong_8

abbrev rm_X9_noFootman : Room := { frames := 1, cells := 0, slots := 0, locals := 25 }
set_option maxHeartbeats 4000000 in
set_option maxRecDepth 100000 in
theorem k_X9_noFootman (l : Launch) (D : va_G) (cA : Nat → ClassId) (ad : Nat → Nat) (had : adOK ad 25) (v1 : Int32) (M : Mem) : CI l yX9_noFootman wsX9_noFootman rm_X9_noFootman D cA ad (shM ad cA) 25 [.ref (ad 0), .int v1] M (wM M (d_X9_noFootman v1 M)) := by
  refine CI_ofp (own := RX9) (cc := cX9_noFootman) (maxL := 2) (rt := .boolean) had (by decide) rfl rfl (Nat.le_of_ble_eq_true rfl) ?_
  intro p e s m args below meth c R0 B hr hk
  unfold d_X9_noFootman
  show GG p l e (headSpec wsX9_noFootman rm_X9_noFootman).room s m args below meth c D ad (shM ad cA) 25 2 (MQ below (QI D ad (shM ad cA) 25 s.heap.size (R0, M)) args s 0 0 (AX ad 25 s.heap.size)) R0 M 0 [(0, .ref (ad 0)), (1, .int v1)] [] _
  refine g_iload_n B dX9_noFootman_0 1 rfl rfl ?_
  refine g_i2l B dX9_noFootman_1 ?_
  refine g_lconst (v := 0) B dX9_noFootman_2 (by decide) ?_
  refine g_aload_n B dX9_noFootman_3 0 rfl rfl ?_
  refine g_get (v := .int (M 0 2)) B shM_o (by decide) in_X9_noFootman_X9 rfl 2 (by decide) (List.mem_of_getElem? (i := 1) rfl) rfl rfl dX9_noFootman_4 ?_
  refine g_i2l B dX9_noFootman_7 ?_
  refine g_lconst (v := 1) B dX9_noFootman_8 (by decide) ?_
  refine g_lsub B dX9_noFootman_9 ?_
  refine g_callSIp (As := [.long v1.toInt64, .long (0 : Int64), .long (((M 0 2).toInt64) - (1 : Int64))]) (st := []) B (k_X9_in l D cA ad B.2.2.2.2.2.2.1 v1.toInt64 (0 : Int64) (((M 0 2).toInt64) - (1 : Int64)) M) (va_cwS 3 B.2.2.2.2.1 gX9_noFootman_X9_in rfl rfl rfl (by decide +kernel) ⟨Nat.le_of_ble_eq_true rfl, Nat.le_of_ble_eq_true rfl⟩) rfl rfl (Nat.le_of_ble_eq_true rfl) dX9_noFootman_10 (fun r1 _ => ?_)
  refine g_if_ne (tgt := 20) B dX9_noFootman_13 (by decide) (fun c2 => ?_) (fun c2 => ?_)
  · refine g_iconst (v := 1) B dX9_noFootman_16 (by decide) ?_
    refine g_goto (tgt := 21) B dX9_noFootman_17 (by decide) ?_
    exact g_zretp B hr hk rfl dX9_noFootman_21
  · refine g_iconst (v := 0) B dX9_noFootman_20 (by decide) ?_
    exact g_zretp B hr hk rfl dX9_noFootman_21

abbrev rm_X9_noCorner : Room := { frames := 1, cells := 0, slots := 0, locals := 25 }
set_option maxHeartbeats 4000000 in
set_option maxRecDepth 100000 in
theorem k_X9_noCorner (l : Launch) (D : va_G) (cA : Nat → ClassId) (ad : Nat → Nat) (had : adOK ad 25) (v1 : Int32) (M : Mem) : CI l yX9_noCorner wsX9_noCorner rm_X9_noCorner D cA ad (shM ad cA) 25 [.ref (ad 0), .int v1] M (wM M (d_X9_noCorner v1 M)) := by
  refine CI_ofp (own := RX9) (cc := cX9_noCorner) (maxL := 2) (rt := .boolean) had (by decide) rfl rfl (Nat.le_of_ble_eq_true rfl) ?_
  intro p e s m args below meth c R0 B hr hk
  unfold d_X9_noCorner
  show GG p l e (headSpec wsX9_noCorner rm_X9_noCorner).room s m args below meth c D ad (shM ad cA) 25 2 (MQ below (QI D ad (shM ad cA) 25 s.heap.size (R0, M)) args s 0 0 (AX ad 25 s.heap.size)) R0 M 0 [(0, .ref (ad 0)), (1, .int v1)] [] _
  refine g_iload_n B dX9_noCorner_0 1 rfl rfl ?_
  refine g_i2l B dX9_noCorner_1 ?_
  refine g_lconst (v := 0) B dX9_noCorner_2 (by decide) ?_
  refine g_aload_n B dX9_noCorner_3 0 rfl rfl ?_
  refine g_get (v := .int (M 0 1)) B shM_o (by decide) in_X9_noCorner_X9 rfl 1 (by decide) (List.mem_of_getElem? (i := 1) rfl) rfl rfl dX9_noCorner_4 ?_
  refine g_i2l B dX9_noCorner_7 ?_
  refine g_lconst (v := 1) B dX9_noCorner_8 (by decide) ?_
  refine g_lsub B dX9_noCorner_9 ?_
  refine g_callSIp (As := [.long v1.toInt64, .long (0 : Int64), .long (((M 0 1).toInt64) - (1 : Int64))]) (st := []) B (k_X9_in l D cA ad B.2.2.2.2.2.2.1 v1.toInt64 (0 : Int64) (((M 0 1).toInt64) - (1 : Int64)) M) (va_cwS 3 B.2.2.2.2.1 gX9_noCorner_X9_in rfl rfl rfl (by decide +kernel) ⟨Nat.le_of_ble_eq_true rfl, Nat.le_of_ble_eq_true rfl⟩) rfl rfl (Nat.le_of_ble_eq_true rfl) dX9_noCorner_10 (fun r1 _ => ?_)
  refine g_if_ne (tgt := 20) B dX9_noCorner_13 (by decide) (fun c2 => ?_) (fun c2 => ?_)
  · refine g_iconst (v := 1) B dX9_noCorner_16 (by decide) ?_
    refine g_goto (tgt := 21) B dX9_noCorner_17 (by decide) ?_
    exact g_zretp B hr hk rfl dX9_noCorner_21
  · refine g_iconst (v := 0) B dX9_noCorner_20 (by decide) ?_
    exact g_zretp B hr hk rfl dX9_noCorner_21

abbrev rm_X9_codeAt : Room := { frames := 0, cells := 0, slots := 0, locals := 0 }
set_option maxHeartbeats 4000000 in
set_option maxRecDepth 100000 in
theorem k_X9_codeAt (l : Launch) (D : va_G) (cA : Nat → ClassId) (ad : Nat → Nat) (had : adOK ad 25) (v1 : Int32) (v2 : Int32) (M : Mem) : CI l yX9_codeAt wsX9_codeAt rm_X9_codeAt D cA ad (shM ad cA) 25 [.ref (ad 0), .int v1, .int v2] M (wM M (d_X9_codeAt v1 v2 M)) := by
  refine CI_ofp (own := RX9) (cc := cX9_codeAt) (maxL := 3) (rt := .int) had (by decide) rfl rfl (Nat.le_of_ble_eq_true rfl) ?_
  intro p e s m args below meth c R0 B hr hk
  unfold d_X9_codeAt
  show GG p l e (headSpec wsX9_codeAt rm_X9_codeAt).room s m args below meth c D ad (shM ad cA) 25 3 (MQ below (QI D ad (shM ad cA) 25 s.heap.size (R0, M)) args s 0 0 (AX ad 25 s.heap.size)) R0 M 0 [(0, .ref (ad 0)), (1, .int v1), (2, .int v2)] [] _
  refine g_aload_n B dX9_codeAt_0 0 rfl rfl ?_
  refine g_get (v := .int (M 0 12)) B shM_o (by decide) in_X9_codeAt_X9 rfl 12 (by decide) (List.mem_of_getElem? (i := 1) rfl) rfl rfl dX9_codeAt_1 ?_
  refine g_iload_n B dX9_codeAt_4 2 rfl rfl ?_
  refine g_icmp_ge (tgt := 22) B dX9_codeAt_5 (by decide) (fun c1 => ?_) (fun c1 => ?_)
  · refine g_bipush (v := -9) B dX9_codeAt_22 (by decide) ?_
    exact g_iretp B hr hk dX9_codeAt_24
  · refine g_aload_n B dX9_codeAt_8 0 rfl rfl ?_
    refine g_get (v := .ref (ad 23)) B shM_o (by decide) in_X9_codeAt_X9 rfl 36 (by decide) (List.mem_of_getElem? (i := 2) rfl) rfl rfl dX9_codeAt_9 ?_
    refine g_iload_n B dX9_codeAt_12 1 rfl rfl ?_
    refine g_aload_n B dX9_codeAt_13 0 rfl rfl ?_
    refine g_get (v := .int (M 0 12)) B shM_o (by decide) in_X9_codeAt_X9 rfl 12 (by decide) (List.mem_of_getElem? (i := 1) rfl) rfl rfl dX9_codeAt_14 ?_
    refine g_iadd B dX9_codeAt_17 ?_
    refine g_iald B shM_a23 (by decide) dX9_codeAt_18 ?_
    refine g_goto (tgt := 24) B dX9_codeAt_19 (by decide) ?_
    exact g_iretp B hr hk dX9_codeAt_24

abbrev rm_X9_figure : Room := { frames := 1, cells := 0, slots := 0, locals := 25 }
set_option maxHeartbeats 4000000 in
set_option maxRecDepth 100000 in
theorem k_X9_figure (l : Launch) (D : va_G) (cA : Nat → ClassId) (ad : Nat → Nat) (had : adOK ad 25) (v1 : Int32) (v2 : Int32) (v3 : Int32) (v4 : Int32) (v5 : Int32) (M : Mem) : CI l yX9_figure wsX9_figure rm_X9_figure D cA ad (shM ad cA) 25 [.ref (ad 0), .int v1, .int v2, .int v3, .int v4, .int v5] M (d_X9_figure v1 v2 v3 v4 v5 M) := by
  refine CI_of (own := RX9) (cc := cX9_figure) (maxL := 8) (rt := .int) had (by decide) rfl rfl (Nat.le_of_ble_eq_true rfl) ?_
  intro p e s m args below meth c R0 B hr hk
  have hJ49 : ∀  (v6 : Int32) (v7 : Int32) (s0 : Int32) (s1 : Int32) (M : Mem)   , GG p l e (headSpec wsX9_figure rm_X9_figure).room s m args below meth c D ad (shM ad cA) 25 8 (MQ below (QI D ad (shM ad cA) 25 s.heap.size R0) args s 0 0 (AX ad 25 s.heap.size)) R0 M 49 [(6, .int v6), (7, .int v7)] [.int s0, .int s1, .ref (ad 0)] (dX9_figure_49j  v6 v7 s0 s1 M) := by
    intro v6 v7 s0 s1 M
    unfold dX9_figure_49j
    refine g_iadd B dX9_figure_49 ?_
    refine g_put (ty := .int) B shM_o (by decide) in_X9_figure_X9 tyX9_ok nmX9 rfl 12 (by decide) (List.mem_of_getElem? (i := 1) rfl) rfl rfl (by decide +kernel) rfl rfl (fun _ => Nat.le_of_ble_eq_true rfl) (fun _ _ => rfl) dX9_figure_50 (g_lmM (fun M5 => ?_))
    refine g_iload B dX9_figure_53 1 rfl ?_
    refine g_if_eq (tgt := 63) B dX9_figure_55 (by decide) (fun c6 => ?_) (fun c6 => ?_)
    · refine g_bipush (v := -9) B dX9_figure_63 (by decide) ?_
      exact g_iret B hr hk dX9_figure_65
    · refine g_iload B dX9_figure_58 0 rfl ?_
      refine g_goto (tgt := 65) B dX9_figure_60 (by decide) ?_
      exact g_iret B hr hk dX9_figure_65
  have hJ18 : ∀  (v4 : Int32) (v5 : Int32) (s0 : Int32) (M : Mem)   , GG p l e (headSpec wsX9_figure rm_X9_figure).room s m args below meth c D ad (shM ad cA) 25 8 (MQ below (QI D ad (shM ad cA) 25 s.heap.size R0) args s 0 0 (AX ad 25 s.heap.size)) R0 M 18 [(0, .ref (ad 0)), (4, .int v4), (5, .int v5)] [.int s0] (dX9_figure_18j  v4 v5 s0 M) := by
    intro v4 v5 s0 M
    unfold dX9_figure_18j
    refine g_istore B dX9_figure_18 (by decide) (lv1 := [(6, .int s0), (0, .ref (ad 0)), (4, .int v4), (5, .int v5)]) rfl ?_
    refine g_iload B dX9_figure_20 0 rfl ?_
    refine g_i2l B dX9_figure_22 ?_
    refine g_iload B dX9_figure_23 2 rfl ?_
    refine g_i2l B dX9_figure_25 ?_
    refine g_iload B dX9_figure_26 3 rfl ?_
    refine g_i2l B dX9_figure_28 ?_
    refine g_callSIp (As := [.long s0.toInt64, .long v4.toInt64, .long v5.toInt64]) (st := []) B (k_X9_in l D cA ad B.2.2.2.2.2.2.1 s0.toInt64 v4.toInt64 v5.toInt64 M) (va_cwS 3 B.2.2.2.2.1 gX9_figure_X9_in rfl rfl rfl (by decide +kernel) ⟨Nat.le_of_ble_eq_true rfl, Nat.le_of_ble_eq_true rfl⟩) rfl rfl (Nat.le_of_ble_eq_true rfl) dX9_figure_29 (fun r3 _ => ?_)
    refine g_istore B dX9_figure_32 (by decide) (lv1 := [(7, .int r3), (6, .int s0), (0, .ref (ad 0)), (4, .int v4), (5, .int v5)]) rfl ?_
    refine g_aload_n B dX9_figure_34 2 rfl rfl ?_
    refine g_dup B dX9_figure_35 rfl ?_
    refine g_get (v := .int (M 0 12)) B shM_o (by decide) in_X9_figure_X9 rfl 12 (by decide) (List.mem_of_getElem? (i := 1) rfl) rfl rfl dX9_figure_36 ?_
    refine g_iload B dX9_figure_39 0 rfl ?_
    refine g_if_eq (tgt := 48) B dX9_figure_41 (by decide) (fun c4 => ?_) (fun c4 => ?_)
    · refine g_iconst (v := 0) B dX9_figure_48 (by decide) ?_
      exact g_lv [1, 0] rfl (hJ49 _ _ _ _ _   )
    · refine g_iconst (v := 1) B dX9_figure_44 (by decide) ?_
      refine g_goto (tgt := 49) B dX9_figure_45 (by decide) ?_
      exact g_lv [1, 0] rfl (hJ49 _ _ _ _ _   )
  unfold d_X9_figure
  show GG p l e (headSpec wsX9_figure rm_X9_figure).room s m args below meth c D ad (shM ad cA) 25 8 (MQ below (QI D ad (shM ad cA) 25 s.heap.size R0) args s 0 0 (AX ad 25 s.heap.size)) R0 M 0 [(0, .ref (ad 0)), (1, .int v1), (2, .int v2), (3, .int v3), (4, .int v4), (5, .int v5)] [] _
  refine g_iload_n B dX9_figure_0 3 rfl rfl ?_
  refine g_if_ge (tgt := 9) B dX9_figure_1 (by decide) (fun c1 => ?_) (fun c1 => ?_)
  · refine g_aload_n B dX9_figure_9 0 rfl rfl ?_
    refine g_iload_n B dX9_figure_10 1 rfl rfl ?_
    refine g_iload_n B dX9_figure_11 2 rfl rfl ?_
    refine g_callVIp (q := (RX9, TX9, 39)) (As := [.int v1, .int v2]) (st := []) B (k_X9_codeAt l D cA ad B.2.2.2.2.2.2.1 v1 v2 M) (cwV 2 B.2.2.2.2.1 gX9_figure_X9_codeAt rfl rfl rfl (by decide +kernel) ⟨Nat.le_of_ble_eq_true rfl, Nat.le_of_ble_eq_true rfl⟩) shM_o (by decide) rfl rfl rfl (Nat.le_of_ble_eq_true rfl) dX9_figure_12 (fun r2 _ => ?_)
    refine g_bipush (v := 48) B dX9_figure_15 (by decide) ?_
    refine g_isub B dX9_figure_17 ?_
    exact g_lv [0, 4, 5] rfl (hJ18 _ _ _ _   )
  · refine g_bipush (v := -9) B dX9_figure_4 (by decide) ?_
    refine g_goto (tgt := 18) B dX9_figure_6 (by decide) ?_
    exact g_lv [0, 4, 5] rfl (hJ18 _ _ _ _   )

abbrev rm_X9_readsStreets : Room := { frames := 2, cells := 0, slots := 0, locals := 52 }
set_option maxHeartbeats 4000000 in
set_option maxRecDepth 100000 in
theorem k_X9_readsStreets (l : Launch) (D : va_G) (cA : Nat → ClassId) (ad : Nat → Nat) (had : adOK ad 25) (v1 : Int32) (v2 : Int32) (M : Mem) : CI l yX9_readsStreets wsX9_readsStreets rm_X9_readsStreets D cA ad (shM ad cA) 25 [.ref (ad 0), .int v1, .int v2] M (d_X9_readsStreets v1 v2 M) := by
  refine CI_of (own := RX9) (cc := cX9_readsStreets) (maxL := 6) (rt := .boolean) had (by decide) rfl rfl (Nat.le_of_ble_eq_true rfl) ?_
  intro p e s m args below meth c R0 B hr hk
  have hL59 : ∀ (v1 : Int32) (v2 : Int32) (v4 : Int32)  (k59_149 : Int32 → Mem → Option (Int32 × Mem))  (hk59_149 : ∀ (w3 : Int32) (M1 : Mem), GG p l e (headSpec wsX9_readsStreets rm_X9_readsStreets).room s m args below meth c D ad (shM ad cA) 25 6 (MQ below (QI D ad (shM ad cA) 25 s.heap.size R0) args s 0 0 (AX ad 25 s.heap.size)) R0 M1 149 [(0, .ref (ad 0)), (1, .int v1), (2, .int v2), (3, .int w3), (4, .int v4)] [] (k59_149 w3 M1)), ∀ (f : Nat) (v3 : Int32) (v5 : Int32) (M : Mem), GG p l e (headSpec wsX9_readsStreets rm_X9_readsStreets).room s m args below meth c D ad (shM ad cA) 25 6 (MQ below (QI D ad (shM ad cA) 25 s.heap.size R0) args s 0 0 (AX ad 25 s.heap.size)) R0 M 59 [(0, .ref (ad 0)), (1, .int v1), (2, .int v2), (3, .int v3), (4, .int v4), (5, .int v5)] [] (dX9_readsStreets_59l v1 v2 v4  k59_149 f v3 v5 M) := by
    intro v1 v2 v4 k59_149 hk59_149
    intro f
    induction f with
    | zero =>
      intro v3 v5 M
      exact g_none
    | succ f ih =>
      intro v3 v5 M
      rw [dX9_readsStreets_59l]
      refine g_iload_n B dX9_readsStreets_59 3 rfl rfl ?_
      refine g_if_eq (tgt := 149) B dX9_readsStreets_60 (by decide) (fun c9 => ?_) (fun c9 => ?_)
      · exact g_lv [0, 1, 2, 3, 4] rfl (hk59_149 _ _)
      · refine g_iload B dX9_readsStreets_63 5 rfl ?_
        refine g_aload_n B dX9_readsStreets_65 0 rfl rfl ?_
        refine g_get (v := .int (M 0 13)) B shM_o (by decide) in_X9_readsStreets_X9 rfl 13 (by decide) (List.mem_of_getElem? (i := 1) rfl) rfl rfl dX9_readsStreets_66 ?_
        refine g_icmp_ge (tgt := 149) B dX9_readsStreets_69 (by decide) (fun c10 => ?_) (fun c10 => ?_)
        · exact g_lv [0, 1, 2, 3, 4] rfl (hk59_149 _ _)
        · refine g_aload_n B dX9_readsStreets_72 0 rfl rfl ?_
          refine g_get (v := .ref (ad 8)) B shM_o (by decide) in_X9_readsStreets_X9 rfl 15 (by decide) (List.mem_of_getElem? (i := 2) rfl) rfl rfl dX9_readsStreets_73 ?_
          refine g_bipush (v := 6) B dX9_readsStreets_76 (by decide) ?_
          refine g_iload B dX9_readsStreets_78 4 rfl ?_
          refine g_imul B dX9_readsStreets_80 ?_
          refine g_iload B dX9_readsStreets_81 5 rfl ?_
          refine g_iadd B dX9_readsStreets_83 ?_
          refine g_aload_n B dX9_readsStreets_84 0 rfl rfl ?_
          refine g_iload_n B dX9_readsStreets_85 1 rfl rfl ?_
          refine g_iload_n B dX9_readsStreets_86 2 rfl rfl ?_
          refine g_iconst (v := 0) B dX9_readsStreets_87 (by decide) ?_
          refine g_iconst (v := 0) B dX9_readsStreets_88 (by decide) ?_
          refine g_bipush (v := 9) B dX9_readsStreets_89 (by decide) ?_
          refine g_callVIe (q := (RX9, TX9, 39)) (As := [.int v1, .int v2, .int (0 : Int32), .int (0 : Int32), .int (9 : Int32)]) (st := [.int (((6 : Int32) * v4) + v5), .ref (ad 8)]) B (k_X9_figure l D cA ad B.2.2.2.2.2.2.1 v1 v2 (0 : Int32) (0 : Int32) (9 : Int32) M) (cwV 5 B.2.2.2.2.1 gX9_readsStreets_X9_figure rfl rfl rfl (by decide +kernel) ⟨Nat.le_of_ble_eq_true rfl, Nat.le_of_ble_eq_true rfl⟩) shM_o (by decide) rfl rfl rfl (Nat.le_of_ble_eq_true rfl) dX9_readsStreets_91 (fun r11 M12 _ => ?_)
          refine g_iast B shM_a8 (by decide) dX9_readsStreets_94 (g_lmM (fun M13 => ?_))
          refine g_aload_n B dX9_readsStreets_95 0 rfl rfl ?_
          refine g_get (v := .ref (ad 8)) B shM_o (by decide) in_X9_readsStreets_X9 rfl 15 (by decide) (List.mem_of_getElem? (i := 2) rfl) rfl rfl dX9_readsStreets_96 ?_
          refine g_bipush (v := 6) B dX9_readsStreets_99 (by decide) ?_
          refine g_iload B dX9_readsStreets_101 5 rfl ?_
          refine g_imul B dX9_readsStreets_103 ?_
          refine g_iload B dX9_readsStreets_104 4 rfl ?_
          refine g_iadd B dX9_readsStreets_106 ?_
          refine g_aload_n B dX9_readsStreets_107 0 rfl rfl ?_
          refine g_get (v := .ref (ad 8)) B shM_o (by decide) in_X9_readsStreets_X9 rfl 15 (by decide) (List.mem_of_getElem? (i := 2) rfl) rfl rfl dX9_readsStreets_108 ?_
          refine g_bipush (v := 6) B dX9_readsStreets_111 (by decide) ?_
          refine g_iload B dX9_readsStreets_113 4 rfl ?_
          refine g_imul B dX9_readsStreets_115 ?_
          refine g_iload B dX9_readsStreets_116 5 rfl ?_
          refine g_iadd B dX9_readsStreets_118 ?_
          refine g_iald B shM_a8 (by decide) dX9_readsStreets_119 ?_
          refine g_iast B shM_a8 (by decide) dX9_readsStreets_120 (g_lmM (fun M14 => ?_))
          refine g_aload_n B dX9_readsStreets_121 0 rfl rfl ?_
          refine g_get (v := .ref (ad 8)) B shM_o (by decide) in_X9_readsStreets_X9 rfl 15 (by decide) (List.mem_of_getElem? (i := 2) rfl) rfl rfl dX9_readsStreets_122 ?_
          refine g_bipush (v := 6) B dX9_readsStreets_125 (by decide) ?_
          refine g_iload B dX9_readsStreets_127 4 rfl ?_
          refine g_imul B dX9_readsStreets_129 ?_
          refine g_iload B dX9_readsStreets_130 5 rfl ?_
          refine g_iadd B dX9_readsStreets_132 ?_
          refine g_iald B shM_a8 (by decide) dX9_readsStreets_133 ?_
          refine g_if_lt (tgt := 141) B dX9_readsStreets_134 (by decide) (fun c15 => ?_) (fun c15 => ?_)
          · refine g_iconst (v := 0) B dX9_readsStreets_141 (by decide) ?_
            refine g_istore_n B dX9_readsStreets_142 rfl (by decide) (lv1 := [(3, .int (0 : Int32)), (0, .ref (ad 0)), (1, .int v1), (2, .int v2), (4, .int v4), (5, .int v5)]) rfl ?_
            refine g_iinc B dX9_readsStreets_143 5 (v := v5 + (1 : Int32)) rfl rfl (by decide) (lv1 := [(5, .int (v5 + (1 : Int32))), (3, .int (0 : Int32)), (0, .ref (ad 0)), (1, .int v1), (2, .int v2), (4, .int v4)]) rfl ?_
            refine g_goto (tgt := 59) B dX9_readsStreets_146 (by decide) ?_
            exact g_lv [2, 3, 4, 1, 5, 0] rfl (ih _ _ _)
          · refine g_iconst (v := 1) B dX9_readsStreets_137 (by decide) ?_
            refine g_goto (tgt := 142) B dX9_readsStreets_138 (by decide) ?_
            refine g_istore_n B dX9_readsStreets_142 rfl (by decide) (lv1 := [(3, .int (1 : Int32)), (0, .ref (ad 0)), (1, .int v1), (2, .int v2), (4, .int v4), (5, .int v5)]) rfl ?_
            refine g_iinc B dX9_readsStreets_143 5 (v := v5 + (1 : Int32)) rfl rfl (by decide) (lv1 := [(5, .int (v5 + (1 : Int32))), (3, .int (1 : Int32)), (0, .ref (ad 0)), (1, .int v1), (2, .int v2), (4, .int v4)]) rfl ?_
            refine g_goto (tgt := 59) B dX9_readsStreets_146 (by decide) ?_
            exact g_lv [2, 3, 4, 1, 5, 0] rfl (ih _ _ _)
  have hL30 : ∀ (v1 : Int32) (v2 : Int32)    , ∀ (f : Nat) (v3 : Int32) (v4 : Int32) (M : Mem), GG p l e (headSpec wsX9_readsStreets rm_X9_readsStreets).room s m args below meth c D ad (shM ad cA) 25 6 (MQ below (QI D ad (shM ad cA) 25 s.heap.size R0) args s 0 0 (AX ad 25 s.heap.size)) R0 M 30 [(0, .ref (ad 0)), (1, .int v1), (2, .int v2), (3, .int v3), (4, .int v4)] [] (dX9_readsStreets_30l v1 v2   f v3 v4 M) := by
    intro v1 v2
    intro f
    induction f with
    | zero =>
      intro v3 v4 M
      exact g_none
    | succ f ih =>
      intro v3 v4 M
      rw [dX9_readsStreets_30l]
      refine g_iload B dX9_readsStreets_30 4 rfl ?_
      refine g_aload_n B dX9_readsStreets_32 0 rfl rfl ?_
      refine g_get (v := .int (M 0 13)) B shM_o (by decide) in_X9_readsStreets_X9 rfl 13 (by decide) (List.mem_of_getElem? (i := 1) rfl) rfl rfl dX9_readsStreets_33 ?_
      refine g_icmp_ge (tgt := 155) B dX9_readsStreets_36 (by decide) (fun c5 => ?_) (fun c5 => ?_)
      · refine g_iload_n B dX9_readsStreets_155 3 rfl rfl ?_
        refine g_gd (fun z6 => ?_)
        exact g_zret B hr hk (nz z6) dX9_readsStreets_156
      · refine g_aload_n B dX9_readsStreets_39 0 rfl rfl ?_
        refine g_get (v := .ref (ad 8)) B shM_o (by decide) in_X9_readsStreets_X9 rfl 15 (by decide) (List.mem_of_getElem? (i := 2) rfl) rfl rfl dX9_readsStreets_40 ?_
        refine g_bipush (v := 6) B dX9_readsStreets_43 (by decide) ?_
        refine g_iload B dX9_readsStreets_45 4 rfl ?_
        refine g_imul B dX9_readsStreets_47 ?_
        refine g_iload B dX9_readsStreets_48 4 rfl ?_
        refine g_iadd B dX9_readsStreets_50 ?_
        refine g_iconst (v := 0) B dX9_readsStreets_51 (by decide) ?_
        refine g_iast B shM_a8 (by decide) dX9_readsStreets_52 (g_lmM (fun M7 => ?_))
        refine g_iload B dX9_readsStreets_53 4 rfl ?_
        refine g_iconst (v := 1) B dX9_readsStreets_55 (by decide) ?_
        refine g_iadd B dX9_readsStreets_56 ?_
        refine g_lmI (fun x8 => ?_)
        refine g_istore B dX9_readsStreets_57 (by decide) (lv1 := [(5, .int x8), (0, .ref (ad 0)), (1, .int v1), (2, .int v2), (3, .int v3), (4, .int v4)]) rfl ?_
        refine g_lv [1, 2, 3, 4, 5, 0] rfl (hL59 _ _ _ _  ?_ FU _ _ _)
        · intro w16 M17
          refine g_iinc B dX9_readsStreets_149 4 (v := v4 + (1 : Int32)) rfl rfl (by decide) (lv1 := [(4, .int (v4 + (1 : Int32))), (0, .ref (ad 0)), (1, .int v1), (2, .int v2), (3, .int w16)]) rfl ?_
          refine g_goto (tgt := 30) B dX9_readsStreets_152 (by decide) ?_
          exact g_lv [1, 2, 3, 4, 0] rfl (ih _ _ _)
  have hJ26 : ∀  (v1 : Int32) (v2 : Int32) (s0 : Int32) (M : Mem)   , GG p l e (headSpec wsX9_readsStreets rm_X9_readsStreets).room s m args below meth c D ad (shM ad cA) 25 6 (MQ below (QI D ad (shM ad cA) 25 s.heap.size R0) args s 0 0 (AX ad 25 s.heap.size)) R0 M 26 [(0, .ref (ad 0)), (1, .int v1), (2, .int v2)] [.int s0] (dX9_readsStreets_26j  v1 v2 s0 M) := by
    intro v1 v2 s0 M
    unfold dX9_readsStreets_26j
    refine g_istore_n B dX9_readsStreets_26 rfl (by decide) (lv1 := [(3, .int s0), (0, .ref (ad 0)), (1, .int v1), (2, .int v2)]) rfl ?_
    refine g_iconst (v := 0) B dX9_readsStreets_27 (by decide) ?_
    refine g_istore B dX9_readsStreets_28 (by decide) (lv1 := [(4, .int (0 : Int32)), (3, .int s0), (0, .ref (ad 0)), (1, .int v1), (2, .int v2)]) rfl ?_
    refine g_lv [2, 3, 4, 1, 0] rfl (hL30 _ _   FU _ _ _)
  unfold d_X9_readsStreets
  show GG p l e (headSpec wsX9_readsStreets rm_X9_readsStreets).room s m args below meth c D ad (shM ad cA) 25 6 (MQ below (QI D ad (shM ad cA) 25 s.heap.size R0) args s 0 0 (AX ad 25 s.heap.size)) R0 M 0 [(0, .ref (ad 0)), (1, .int v1), (2, .int v2)] [] _
  refine g_aload_n B dX9_readsStreets_0 0 rfl rfl ?_
  refine g_aload_n B dX9_readsStreets_1 0 rfl rfl ?_
  refine g_iload_n B dX9_readsStreets_2 1 rfl rfl ?_
  refine g_iload_n B dX9_readsStreets_3 2 rfl rfl ?_
  refine g_iconst (v := 0) B dX9_readsStreets_4 (by decide) ?_
  refine g_iconst (v := 2) B dX9_readsStreets_5 (by decide) ?_
  refine g_bipush (v := 6) B dX9_readsStreets_6 (by decide) ?_
  refine g_callVIe (q := (RX9, TX9, 39)) (As := [.int v1, .int v2, .int (0 : Int32), .int (2 : Int32), .int (6 : Int32)]) (st := [.ref (ad 0)]) B (k_X9_figure l D cA ad B.2.2.2.2.2.2.1 v1 v2 (0 : Int32) (2 : Int32) (6 : Int32) M) (cwV 5 B.2.2.2.2.1 gX9_readsStreets_X9_figure rfl rfl rfl (by decide +kernel) ⟨Nat.le_of_ble_eq_true rfl, Nat.le_of_ble_eq_true rfl⟩) shM_o (by decide) rfl rfl rfl (Nat.le_of_ble_eq_true rfl) dX9_readsStreets_8 (fun r1 M2 _ => ?_)
  refine g_put (ty := .int) B shM_o (by decide) in_X9_readsStreets_X9 tyX9_ok nmX9 rfl 13 (by decide) (List.mem_of_getElem? (i := 1) rfl) rfl rfl (by decide +kernel) rfl rfl (fun _ => Nat.le_of_ble_eq_true rfl) (fun _ _ => rfl) dX9_readsStreets_11 (g_lmM (fun M3 => ?_))
  refine g_aload_n B dX9_readsStreets_14 0 rfl rfl ?_
  refine g_get (v := .int (M3 0 13)) B shM_o (by decide) in_X9_readsStreets_X9 rfl 13 (by decide) (List.mem_of_getElem? (i := 1) rfl) rfl rfl dX9_readsStreets_15 ?_
  refine g_if_le (tgt := 25) B dX9_readsStreets_18 (by decide) (fun c4 => ?_) (fun c4 => ?_)
  · refine g_iconst (v := 0) B dX9_readsStreets_25 (by decide) ?_
    exact g_lv [0, 1, 2] rfl (hJ26 _ _ _ _   )
  · refine g_iconst (v := 1) B dX9_readsStreets_21 (by decide) ?_
    refine g_goto (tgt := 26) B dX9_readsStreets_22 (by decide) ?_
    exact g_lv [0, 1, 2] rfl (hJ26 _ _ _ _   )

abbrev rm_X9_readsFootman : Room := { frames := 2, cells := 0, slots := 0, locals := 52 }
set_option maxHeartbeats 4000000 in
set_option maxRecDepth 100000 in
theorem k_X9_readsFootman (l : Launch) (D : va_G) (cA : Nat → ClassId) (ad : Nat → Nat) (had : adOK ad 25) (v1 : Int32) (v2 : Int32) (M : Mem) : CI l yX9_readsFootman wsX9_readsFootman rm_X9_readsFootman D cA ad (shM ad cA) 25 [.ref (ad 0), .int v1, .int v2] M (d_X9_readsFootman v1 v2 M) := by
  refine CI_of (own := RX9) (cc := cX9_readsFootman) (maxL := 7) (rt := .boolean) had (by decide) rfl rfl (Nat.le_of_ble_eq_true rfl) ?_
  intro p e s m args below meth c R0 B hr hk
  have hJ143 : ∀  (v4 : Int32) (v5 : Int32) (v6 : Int32) (s0 : Int32) (s1 : Int32) (M : Mem)   , GG p l e (headSpec wsX9_readsFootman rm_X9_readsFootman).room s m args below meth c D ad (shM ad cA) 25 7 (MQ below (QI D ad (shM ad cA) 25 s.heap.size R0) args s 0 0 (AX ad 25 s.heap.size)) R0 M 143 [(0, .ref (ad 0)), (4, .int v4), (5, .int v5), (6, .int v6)] [.int s0, .int s1, .ref (ad 9)] (dX9_readsFootman_143j  v4 v5 v6 s0 s1 M) := by
    intro v4 v5 v6 s0 s1 M
    unfold dX9_readsFootman_143j
    refine g_iast B shM_a9 (by decide) dX9_readsFootman_143 (g_lmM (fun M16 => ?_))
    refine g_aload_n B dX9_readsFootman_144 0 rfl rfl ?_
    refine g_get (v := .ref (ad 10)) B shM_o (by decide) in_X9_readsFootman_X9 rfl 17 (by decide) (List.mem_of_getElem? (i := 5) rfl) rfl rfl dX9_readsFootman_145 ?_
    refine g_aload_n B dX9_readsFootman_148 0 rfl rfl ?_
    refine g_get (v := .int (M16 0 14)) B shM_o (by decide) in_X9_readsFootman_X9 rfl 14 (by decide) (List.mem_of_getElem? (i := 1) rfl) rfl rfl dX9_readsFootman_149 ?_
    refine g_iload B dX9_readsFootman_152 1 rfl ?_
    refine g_iast B shM_a10 (by decide) dX9_readsFootman_154 (g_lmM (fun M17 => ?_))
    refine g_aload_n B dX9_readsFootman_155 0 rfl rfl ?_
    refine g_get (v := .ref (ad 11)) B shM_o (by decide) in_X9_readsFootman_X9 rfl 18 (by decide) (List.mem_of_getElem? (i := 6) rfl) rfl rfl dX9_readsFootman_156 ?_
    refine g_aload_n B dX9_readsFootman_159 0 rfl rfl ?_
    refine g_get (v := .int (M17 0 14)) B shM_o (by decide) in_X9_readsFootman_X9 rfl 14 (by decide) (List.mem_of_getElem? (i := 1) rfl) rfl rfl dX9_readsFootman_160 ?_
    refine g_iload B dX9_readsFootman_163 2 rfl ?_
    refine g_iast B shM_a11 (by decide) dX9_readsFootman_165 (g_lmM (fun M18 => ?_))
    refine g_aload_n B dX9_readsFootman_166 0 rfl rfl ?_
    refine g_get (v := .ref (ad 12)) B shM_o (by decide) in_X9_readsFootman_X9 rfl 19 (by decide) (List.mem_of_getElem? (i := 7) rfl) rfl rfl dX9_readsFootman_167 ?_
    refine g_aload_n B dX9_readsFootman_170 0 rfl rfl ?_
    refine g_get (v := .int (M18 0 14)) B shM_o (by decide) in_X9_readsFootman_X9 rfl 14 (by decide) (List.mem_of_getElem? (i := 1) rfl) rfl rfl dX9_readsFootman_171 ?_
    refine g_iload B dX9_readsFootman_174 3 rfl ?_
    refine g_iast B shM_a12 (by decide) dX9_readsFootman_176 (g_lmM (fun M19 => ?_))
    refine g_aload_n B dX9_readsFootman_177 0 rfl rfl ?_
    refine g_dup B dX9_readsFootman_178 rfl ?_
    refine g_get (v := .int (M19 0 14)) B shM_o (by decide) in_X9_readsFootman_X9 rfl 14 (by decide) (List.mem_of_getElem? (i := 1) rfl) rfl rfl dX9_readsFootman_179 ?_
    refine g_iconst (v := 1) B dX9_readsFootman_182 (by decide) ?_
    refine g_iadd B dX9_readsFootman_183 ?_
    refine g_put (ty := .int) B shM_o (by decide) in_X9_readsFootman_X9 tyX9_ok nmX9 rfl 14 (by decide) (List.mem_of_getElem? (i := 1) rfl) rfl rfl (by decide +kernel) rfl rfl (fun _ => Nat.le_of_ble_eq_true rfl) (fun _ _ => rfl) dX9_readsFootman_184 (g_lmM (fun M20 => ?_))
    refine g_iload B dX9_readsFootman_187 3 rfl ?_
    refine g_if_lt (tgt := 196) B dX9_readsFootman_189 (by decide) (fun c21 => ?_) (fun c21 => ?_)
    · refine g_iconst (v := 0) B dX9_readsFootman_196 (by decide) ?_
      exact g_zret B hr hk rfl dX9_readsFootman_197
    · refine g_iconst (v := 1) B dX9_readsFootman_192 (by decide) ?_
      refine g_goto (tgt := 197) B dX9_readsFootman_193 (by decide) ?_
      exact g_zret B hr hk rfl dX9_readsFootman_197
  have hJ58 : ∀  (v1 : Int32) (v2 : Int32) (v3 : Int32)  (M : Mem)   , GG p l e (headSpec wsX9_readsFootman rm_X9_readsFootman).room s m args below meth c D ad (shM ad cA) 25 7 (MQ below (QI D ad (shM ad cA) 25 s.heap.size R0) args s 0 0 (AX ad 25 s.heap.size)) R0 M 58 [(0, .ref (ad 0)), (1, .int v1), (2, .int v2), (3, .int v3)] [] (dX9_readsFootman_58j  v1 v2 v3  M) := by
    intro v1 v2 v3 M
    unfold dX9_readsFootman_58j
    refine g_aload_n B dX9_readsFootman_58 0 rfl rfl ?_
    refine g_dup B dX9_readsFootman_59 rfl ?_
    refine g_get (v := .int (M 0 12)) B shM_o (by decide) in_X9_readsFootman_X9 rfl 12 (by decide) (List.mem_of_getElem? (i := 2) rfl) rfl rfl dX9_readsFootman_60 ?_
    refine g_iconst (v := 1) B dX9_readsFootman_63 (by decide) ?_
    refine g_iadd B dX9_readsFootman_64 ?_
    refine g_put (ty := .int) B shM_o (by decide) in_X9_readsFootman_X9 tyX9_ok nmX9 rfl 12 (by decide) (List.mem_of_getElem? (i := 2) rfl) rfl rfl (by decide +kernel) rfl rfl (fun _ => Nat.le_of_ble_eq_true rfl) (fun _ _ => rfl) dX9_readsFootman_65 (g_lmM (fun M7 => ?_))
    refine g_aload_n B dX9_readsFootman_68 0 rfl rfl ?_
    refine g_iload_n B dX9_readsFootman_69 1 rfl rfl ?_
    refine g_iload_n B dX9_readsFootman_70 2 rfl rfl ?_
    refine g_iconst (v := 0) B dX9_readsFootman_71 (by decide) ?_
    refine g_iconst (v := 0) B dX9_readsFootman_72 (by decide) ?_
    refine g_aload_n B dX9_readsFootman_73 0 rfl rfl ?_
    refine g_get (v := .int (M7 0 13)) B shM_o (by decide) in_X9_readsFootman_X9 rfl 13 (by decide) (List.mem_of_getElem? (i := 3) rfl) rfl rfl dX9_readsFootman_74 ?_
    refine g_iconst (v := 1) B dX9_readsFootman_77 (by decide) ?_
    refine g_isub B dX9_readsFootman_78 ?_
    refine g_callVIe (q := (RX9, TX9, 39)) (As := [.int v1, .int v2, .int (0 : Int32), .int (0 : Int32), .int ((M7 0 13) - (1 : Int32))]) (st := []) B (k_X9_figure l D cA ad B.2.2.2.2.2.2.1 v1 v2 (0 : Int32) (0 : Int32) ((M7 0 13) - (1 : Int32)) M7) (cwV 5 B.2.2.2.2.1 gX9_readsFootman_X9_figure rfl rfl rfl (by decide +kernel) ⟨Nat.le_of_ble_eq_true rfl, Nat.le_of_ble_eq_true rfl⟩) shM_o (by decide) rfl rfl rfl (Nat.le_of_ble_eq_true rfl) dX9_readsFootman_79 (fun r8 M9 _ => ?_)
    refine g_istore B dX9_readsFootman_82 (by decide) (lv1 := [(4, .int r8), (0, .ref (ad 0)), (1, .int v1), (2, .int v2), (3, .int v3)]) rfl ?_
    refine g_aload_n B dX9_readsFootman_84 1 rfl rfl ?_
    refine g_iload_n B dX9_readsFootman_85 2 rfl rfl ?_
    refine g_iload_n B dX9_readsFootman_86 3 rfl rfl ?_
    refine g_iload B dX9_readsFootman_87 0 rfl ?_
    refine g_iconst (v := 0) B dX9_readsFootman_89 (by decide) ?_
    refine g_aload_n B dX9_readsFootman_90 1 rfl rfl ?_
    refine g_get (v := .int (M9 0 13)) B shM_o (by decide) in_X9_readsFootman_X9 rfl 13 (by decide) (List.mem_of_getElem? (i := 3) rfl) rfl rfl dX9_readsFootman_91 ?_
    refine g_iconst (v := 1) B dX9_readsFootman_94 (by decide) ?_
    refine g_isub B dX9_readsFootman_95 ?_
    refine g_callVIe (q := (RX9, TX9, 39)) (As := [.int v1, .int v2, .int r8, .int (0 : Int32), .int ((M9 0 13) - (1 : Int32))]) (st := []) B (k_X9_figure l D cA ad B.2.2.2.2.2.2.1 v1 v2 r8 (0 : Int32) ((M9 0 13) - (1 : Int32)) M9) (cwV 5 B.2.2.2.2.1 gX9_readsFootman_X9_figure rfl rfl rfl (by decide +kernel) ⟨Nat.le_of_ble_eq_true rfl, Nat.le_of_ble_eq_true rfl⟩) shM_o (by decide) rfl rfl rfl (Nat.le_of_ble_eq_true rfl) dX9_readsFootman_96 (fun r10 M11 _ => ?_)
    refine g_istore B dX9_readsFootman_99 (by decide) (lv1 := [(5, .int r10), (4, .int r8), (0, .ref (ad 0)), (1, .int v1), (2, .int v2), (3, .int v3)]) rfl ?_
    refine g_aload_n B dX9_readsFootman_101 2 rfl rfl ?_
    refine g_iload_n B dX9_readsFootman_102 3 rfl rfl ?_
    refine g_iload_n B dX9_readsFootman_103 4 rfl rfl ?_
    refine g_iload B dX9_readsFootman_104 0 rfl ?_
    refine g_iconst (v := 1) B dX9_readsFootman_106 (by decide) ?_
    refine g_bipush (v := 9) B dX9_readsFootman_107 (by decide) ?_
    refine g_callVIe (q := (RX9, TX9, 39)) (As := [.int v1, .int v2, .int r10, .int (1 : Int32), .int (9 : Int32)]) (st := []) B (k_X9_figure l D cA ad B.2.2.2.2.2.2.1 v1 v2 r10 (1 : Int32) (9 : Int32) M11) (cwV 5 B.2.2.2.2.1 gX9_readsFootman_X9_figure rfl rfl rfl (by decide +kernel) ⟨Nat.le_of_ble_eq_true rfl, Nat.le_of_ble_eq_true rfl⟩) shM_o (by decide) rfl rfl rfl (Nat.le_of_ble_eq_true rfl) dX9_readsFootman_109 (fun r12 M13 _ => ?_)
    refine g_istore B dX9_readsFootman_112 (by decide) (lv1 := [(6, .int r12), (5, .int r10), (4, .int r8), (0, .ref (ad 0)), (1, .int v1), (2, .int v2), (3, .int v3)]) rfl ?_
    refine g_aload_n B dX9_readsFootman_114 3 rfl rfl ?_
    refine g_get (v := .ref (ad 9)) B shM_o (by decide) in_X9_readsFootman_X9 rfl 16 (by decide) (List.mem_of_getElem? (i := 4) rfl) rfl rfl dX9_readsFootman_115 ?_
    refine g_aload_n B dX9_readsFootman_118 3 rfl rfl ?_
    refine g_get (v := .int (M13 0 14)) B shM_o (by decide) in_X9_readsFootman_X9 rfl 14 (by decide) (List.mem_of_getElem? (i := 1) rfl) rfl rfl dX9_readsFootman_119 ?_
    refine g_iload_n B dX9_readsFootman_122 6 rfl rfl ?_
    refine g_bipush (v := 98) B dX9_readsFootman_123 (by decide) ?_
    refine g_icmp_ne (tgt := 132) B dX9_readsFootman_125 (by decide) (fun c14 => ?_) (fun c14 => ?_)
    · refine g_iconst (v := 0) B dX9_readsFootman_128 (by decide) ?_
      refine g_goto (tgt := 143) B dX9_readsFootman_129 (by decide) ?_
      exact g_lv [3, 2, 1, 0] rfl (hJ143 _ _ _ _ _ _   )
    · refine g_iload_n B dX9_readsFootman_132 6 rfl rfl ?_
      refine g_bipush (v := 109) B dX9_readsFootman_133 (by decide) ?_
      refine g_icmp_ne (tgt := 142) B dX9_readsFootman_135 (by decide) (fun c15 => ?_) (fun c15 => ?_)
      · refine g_iconst (v := 1) B dX9_readsFootman_138 (by decide) ?_
        refine g_goto (tgt := 143) B dX9_readsFootman_139 (by decide) ?_
        exact g_lv [3, 2, 1, 0] rfl (hJ143 _ _ _ _ _ _   )
      · refine g_iconst (v := 2) B dX9_readsFootman_142 (by decide) ?_
        exact g_lv [3, 2, 1, 0] rfl (hJ143 _ _ _ _ _ _   )
  unfold d_X9_readsFootman
  show GG p l e (headSpec wsX9_readsFootman rm_X9_readsFootman).room s m args below meth c D ad (shM ad cA) 25 7 (MQ below (QI D ad (shM ad cA) 25 s.heap.size R0) args s 0 0 (AX ad 25 s.heap.size)) R0 M 0 [(0, .ref (ad 0)), (1, .int v1), (2, .int v2)] [] _
  refine g_aload_n B dX9_readsFootman_0 0 rfl rfl ?_
  refine g_get (v := .int (M 0 14)) B shM_o (by decide) in_X9_readsFootman_X9 rfl 14 (by decide) (List.mem_of_getElem? (i := 1) rfl) rfl rfl dX9_readsFootman_1 ?_
  refine g_iconst (v := 5) B dX9_readsFootman_4 (by decide) ?_
  refine g_icmp_eq (tgt := 19) B dX9_readsFootman_5 (by decide) (fun c1 => ?_) (fun c1 => ?_)
  · refine g_iconst (v := 0) B dX9_readsFootman_19 (by decide) ?_
    exact g_zret B hr hk rfl dX9_readsFootman_20
  · refine g_aload_n B dX9_readsFootman_8 0 rfl rfl ?_
    refine g_iload_n B dX9_readsFootman_9 1 rfl rfl ?_
    refine g_iload_n B dX9_readsFootman_10 2 rfl rfl ?_
    refine g_callVIp (q := (RX9, TX9, 39)) (As := [.int v1, .int v2]) (st := []) B (k_X9_codeAt l D cA ad B.2.2.2.2.2.2.1 v1 v2 M) (cwV 2 B.2.2.2.2.1 gX9_readsFootman_X9_codeAt rfl rfl rfl (by decide +kernel) ⟨Nat.le_of_ble_eq_true rfl, Nat.le_of_ble_eq_true rfl⟩) shM_o (by decide) rfl rfl rfl (Nat.le_of_ble_eq_true rfl) dX9_readsFootman_11 (fun r2 _ => ?_)
    refine g_bipush (v := 59) B dX9_readsFootman_14 (by decide) ?_
    refine g_icmp_eq (tgt := 21) B dX9_readsFootman_16 (by decide) (fun c3 => ?_) (fun c3 => ?_)
    · refine g_aload_n B dX9_readsFootman_21 0 rfl rfl ?_
      refine g_dup B dX9_readsFootman_22 rfl ?_
      refine g_get (v := .int (M 0 12)) B shM_o (by decide) in_X9_readsFootman_X9 rfl 12 (by decide) (List.mem_of_getElem? (i := 2) rfl) rfl rfl dX9_readsFootman_23 ?_
      refine g_iconst (v := 1) B dX9_readsFootman_26 (by decide) ?_
      refine g_iadd B dX9_readsFootman_27 ?_
      refine g_put (ty := .int) B shM_o (by decide) in_X9_readsFootman_X9 tyX9_ok nmX9 rfl 12 (by decide) (List.mem_of_getElem? (i := 2) rfl) rfl rfl (by decide +kernel) rfl rfl (fun _ => Nat.le_of_ble_eq_true rfl) (fun _ _ => rfl) dX9_readsFootman_28 (g_lmM (fun M4 => ?_))
      refine g_aload_n B dX9_readsFootman_31 0 rfl rfl ?_
      refine g_iload_n B dX9_readsFootman_32 1 rfl rfl ?_
      refine g_iload_n B dX9_readsFootman_33 2 rfl rfl ?_
      refine g_callVIp (q := (RX9, TX9, 39)) (As := [.int v1, .int v2]) (st := []) B (k_X9_codeAt l D cA ad B.2.2.2.2.2.2.1 v1 v2 M4) (cwV 2 B.2.2.2.2.1 gX9_readsFootman_X9_codeAt rfl rfl rfl (by decide +kernel) ⟨Nat.le_of_ble_eq_true rfl, Nat.le_of_ble_eq_true rfl⟩) shM_o (by decide) rfl rfl rfl (Nat.le_of_ble_eq_true rfl) dX9_readsFootman_34 (fun r5 _ => ?_)
      refine g_istore_n B dX9_readsFootman_37 rfl (by decide) (lv1 := [(3, .int r5), (0, .ref (ad 0)), (1, .int v1), (2, .int v2)]) rfl ?_
      refine g_iload_n B dX9_readsFootman_38 0 rfl rfl ?_
      refine g_bipush (v := 98) B dX9_readsFootman_39 (by decide) ?_
      refine g_icmp_eq (tgt := 58) B dX9_readsFootman_41 (by decide) (fun c6 => ?_) (fun c6 => ?_)
      · exact g_lv [1, 2, 3, 0] rfl (hJ58 _ _ _ _   )
      · refine g_iload_n B dX9_readsFootman_44 0 rfl rfl ?_
        refine g_bipush (v := 109) B dX9_readsFootman_45 (by decide) ?_
        refine g_icmp_eq (tgt := 58) B dX9_readsFootman_47 (by decide) (fun c22 => ?_) (fun c22 => ?_)
        · exact g_lv [1, 2, 3, 0] rfl (hJ58 _ _ _ _   )
        · refine g_iload_n B dX9_readsFootman_50 0 rfl rfl ?_
          refine g_bipush (v := 112) B dX9_readsFootman_51 (by decide) ?_
          refine g_icmp_eq (tgt := 58) B dX9_readsFootman_53 (by decide) (fun c23 => ?_) (fun c23 => ?_)
          · exact g_lv [1, 2, 3, 0] rfl (hJ58 _ _ _ _   )
          · refine g_iconst (v := 0) B dX9_readsFootman_56 (by decide) ?_
            exact g_zret B hr hk rfl dX9_readsFootman_57
    · refine g_iconst (v := 0) B dX9_readsFootman_19 (by decide) ?_
      exact g_zret B hr hk rfl dX9_readsFootman_20

abbrev rm_X9_readsTown : Room := { frames := 3, cells := 0, slots := 0, locals := 78 }
set_option maxHeartbeats 4000000 in
set_option maxRecDepth 100000 in
theorem k_X9_readsTown (l : Launch) (D : va_G) (cA : Nat → ClassId) (ad : Nat → Nat) (had : adOK ad 25) (v1 : Int32) (v2 : Int32) (M : Mem) : CI l yX9_readsTown wsX9_readsTown rm_X9_readsTown D cA ad (shM ad cA) 25 [.ref (ad 0), .int v1, .int v2] M (d_X9_readsTown v1 v2 M) := by
  refine CI_of (own := RX9) (cc := cX9_readsTown) (maxL := 4) (rt := .boolean) had (by decide) rfl rfl (Nat.le_of_ble_eq_true rfl) ?_
  intro p e s m args below meth c R0 B hr hk
  have hJ60 : ∀ (rec40 : Int32 → Mem → Option (Int32 × Mem)) (v1 : Int32) (v2 : Int32)  (M : Mem)   (hrec40 : ∀ (w3 : Int32) (M1 : Mem), GG p l e (headSpec wsX9_readsTown rm_X9_readsTown).room s m args below meth c D ad (shM ad cA) 25 4 (MQ below (QI D ad (shM ad cA) 25 s.heap.size R0) args s 0 0 (AX ad 25 s.heap.size)) R0 M1 40 [(0, .ref (ad 0)), (1, .int v1), (2, .int v2), (3, .int w3)] [] (rec40 w3 M1)), GG p l e (headSpec wsX9_readsTown rm_X9_readsTown).room s m args below meth c D ad (shM ad cA) 25 4 (MQ below (QI D ad (shM ad cA) 25 s.heap.size R0) args s 0 0 (AX ad 25 s.heap.size)) R0 M 60 [(0, .ref (ad 0)), (1, .int v1), (2, .int v2)] [] (dX9_readsTown_60j rec40 v1 v2  M) := by
    intro rec40 v1 v2 M hrec40
    unfold dX9_readsTown_60j
    refine g_aload_n B dX9_readsTown_60 0 rfl rfl ?_
    refine g_iload_n B dX9_readsTown_61 1 rfl rfl ?_
    refine g_iload_n B dX9_readsTown_62 2 rfl rfl ?_
    refine g_callVIe (q := (RX9, TX9, 39)) (As := [.int v1, .int v2]) (st := []) B (k_X9_readsFootman l D cA ad B.2.2.2.2.2.2.1 v1 v2 M) (cwV 2 B.2.2.2.2.1 gX9_readsTown_X9_readsFootman rfl rfl rfl (by decide +kernel) ⟨Nat.le_of_ble_eq_true rfl, Nat.le_of_ble_eq_true rfl⟩) shM_o (by decide) rfl rfl rfl (Nat.le_of_ble_eq_true rfl) dX9_readsTown_63 (fun r11 M12 _ => ?_)
    refine g_istore_n B dX9_readsTown_66 rfl (by decide) (lv1 := [(3, .int r11), (0, .ref (ad 0)), (1, .int v1), (2, .int v2)]) rfl ?_
    refine g_goto (tgt := 40) B dX9_readsTown_67 (by decide) ?_
    exact g_lv [1, 2, 3, 0] rfl (hrec40 _ _)
  have hL40 : ∀ (v1 : Int32) (v2 : Int32)    , ∀ (f : Nat) (v3 : Int32) (M : Mem), GG p l e (headSpec wsX9_readsTown rm_X9_readsTown).room s m args below meth c D ad (shM ad cA) 25 4 (MQ below (QI D ad (shM ad cA) 25 s.heap.size R0) args s 0 0 (AX ad 25 s.heap.size)) R0 M 40 [(0, .ref (ad 0)), (1, .int v1), (2, .int v2), (3, .int v3)] [] (dX9_readsTown_40l v1 v2   f v3 M) := by
    intro v1 v2
    intro f
    induction f with
    | zero =>
      intro v3 M
      exact g_none
    | succ f ih =>
      intro v3 M
      rw [dX9_readsTown_40l]
      refine g_iload_n B dX9_readsTown_40 3 rfl rfl ?_
      refine g_if_eq (tgt := 70) B dX9_readsTown_41 (by decide) (fun c8 => ?_) (fun c8 => ?_)
      · refine g_iload_n B dX9_readsTown_70 3 rfl rfl ?_
        refine g_gd (fun z9 => ?_)
        exact g_zret B hr hk (nz z9) dX9_readsTown_71
      · refine g_aload_n B dX9_readsTown_44 0 rfl rfl ?_
        refine g_get (v := .int (M 0 14)) B shM_o (by decide) in_X9_readsTown_X9 rfl 14 (by decide) (List.mem_of_getElem? (i := 2) rfl) rfl rfl dX9_readsTown_45 ?_
        refine g_iconst (v := 1) B dX9_readsTown_48 (by decide) ?_
        refine g_icmp_lt (tgt := 60) B dX9_readsTown_49 (by decide) (fun c10 => ?_) (fun c10 => ?_)
        · exact g_lv [0, 1, 2] rfl (hJ60 _ _ _ _   ih)
        · refine g_aload_n B dX9_readsTown_52 0 rfl rfl ?_
          refine g_get (v := .int (M 0 12)) B shM_o (by decide) in_X9_readsTown_X9 rfl 12 (by decide) (List.mem_of_getElem? (i := 1) rfl) rfl rfl dX9_readsTown_53 ?_
          refine g_iload_n B dX9_readsTown_56 2 rfl rfl ?_
          refine g_icmp_ge (tgt := 70) B dX9_readsTown_57 (by decide) (fun c13 => ?_) (fun c13 => ?_)
          · refine g_iload_n B dX9_readsTown_70 3 rfl rfl ?_
            refine g_gd (fun z14 => ?_)
            exact g_zret B hr hk (nz z14) dX9_readsTown_71
          · exact g_lv [0, 1, 2] rfl (hJ60 _ _ _ _   ih)
  unfold d_X9_readsTown
  show GG p l e (headSpec wsX9_readsTown rm_X9_readsTown).room s m args below meth c D ad (shM ad cA) 25 4 (MQ below (QI D ad (shM ad cA) 25 s.heap.size R0) args s 0 0 (AX ad 25 s.heap.size)) R0 M 0 [(0, .ref (ad 0)), (1, .int v1), (2, .int v2)] [] _
  refine g_aload_n B dX9_readsTown_0 0 rfl rfl ?_
  refine g_iconst (v := 0) B dX9_readsTown_1 (by decide) ?_
  refine g_put (ty := .int) B shM_o (by decide) in_X9_readsTown_X9 tyX9_ok nmX9 rfl 12 (by decide) (List.mem_of_getElem? (i := 1) rfl) rfl rfl (by decide +kernel) rfl rfl (fun _ => Nat.le_of_ble_eq_true rfl) (fun _ _ => rfl) dX9_readsTown_2 (g_lmM (fun M1 => ?_))
  refine g_aload_n B dX9_readsTown_5 0 rfl rfl ?_
  refine g_iconst (v := 0) B dX9_readsTown_6 (by decide) ?_
  refine g_put (ty := .int) B shM_o (by decide) in_X9_readsTown_X9 tyX9_ok nmX9 rfl 14 (by decide) (List.mem_of_getElem? (i := 2) rfl) rfl rfl (by decide +kernel) rfl rfl (fun _ => Nat.le_of_ble_eq_true rfl) (fun _ _ => rfl) dX9_readsTown_7 (g_lmM (fun M2 => ?_))
  refine g_aload_n B dX9_readsTown_10 0 rfl rfl ?_
  refine g_iload_n B dX9_readsTown_11 1 rfl rfl ?_
  refine g_iload_n B dX9_readsTown_12 2 rfl rfl ?_
  refine g_callVIp (q := (RX9, TX9, 39)) (As := [.int v1, .int v2]) (st := []) B (k_X9_codeAt l D cA ad B.2.2.2.2.2.2.1 v1 v2 M2) (cwV 2 B.2.2.2.2.1 gX9_readsTown_X9_codeAt rfl rfl rfl (by decide +kernel) ⟨Nat.le_of_ble_eq_true rfl, Nat.le_of_ble_eq_true rfl⟩) shM_o (by decide) rfl rfl rfl (Nat.le_of_ble_eq_true rfl) dX9_readsTown_13 (fun r3 _ => ?_)
  refine g_bipush (v := 116) B dX9_readsTown_16 (by decide) ?_
  refine g_icmp_eq (tgt := 23) B dX9_readsTown_18 (by decide) (fun c4 => ?_) (fun c4 => ?_)
  · refine g_aload_n B dX9_readsTown_23 0 rfl rfl ?_
    refine g_dup B dX9_readsTown_24 rfl ?_
    refine g_get (v := .int (M2 0 12)) B shM_o (by decide) in_X9_readsTown_X9 rfl 12 (by decide) (List.mem_of_getElem? (i := 1) rfl) rfl rfl dX9_readsTown_25 ?_
    refine g_iconst (v := 1) B dX9_readsTown_28 (by decide) ?_
    refine g_iadd B dX9_readsTown_29 ?_
    refine g_put (ty := .int) B shM_o (by decide) in_X9_readsTown_X9 tyX9_ok nmX9 rfl 12 (by decide) (List.mem_of_getElem? (i := 1) rfl) rfl rfl (by decide +kernel) rfl rfl (fun _ => Nat.le_of_ble_eq_true rfl) (fun _ _ => rfl) dX9_readsTown_30 (g_lmM (fun M5 => ?_))
    refine g_aload_n B dX9_readsTown_33 0 rfl rfl ?_
    refine g_iload_n B dX9_readsTown_34 1 rfl rfl ?_
    refine g_iload_n B dX9_readsTown_35 2 rfl rfl ?_
    refine g_callVIe (q := (RX9, TX9, 39)) (As := [.int v1, .int v2]) (st := []) B (k_X9_readsStreets l D cA ad B.2.2.2.2.2.2.1 v1 v2 M5) (cwV 2 B.2.2.2.2.1 gX9_readsTown_X9_readsStreets rfl rfl rfl (by decide +kernel) ⟨Nat.le_of_ble_eq_true rfl, Nat.le_of_ble_eq_true rfl⟩) shM_o (by decide) rfl rfl rfl (Nat.le_of_ble_eq_true rfl) dX9_readsTown_36 (fun r6 M7 _ => ?_)
    refine g_istore_n B dX9_readsTown_39 rfl (by decide) (lv1 := [(3, .int r6), (0, .ref (ad 0)), (1, .int v1), (2, .int v2)]) rfl ?_
    refine g_lv [1, 2, 3, 0] rfl (hL40 _ _   FU _ _)
  · refine g_iconst (v := 0) B dX9_readsTown_21 (by decide) ?_
    exact g_zret B hr hk rfl dX9_readsTown_22

abbrev rm_X9_isBeyond : Room := { frames := 0, cells := 0, slots := 0, locals := 0 }
set_option maxHeartbeats 4000000 in
set_option maxRecDepth 100000 in
theorem k_X9_isBeyond (l : Launch) (D : va_G) (cA : Nat → ClassId) (ad : Nat → Nat) (had : adOK ad 25) (v0 : Int32) (v1 : Int64) (v3 : Int32) (M : Mem) : CI l yX9_isBeyond wsX9_isBeyond rm_X9_isBeyond D cA ad (shM ad cA) 25 [.int v0, .long v1, .int v3] M (wM M (d_X9_isBeyond v0 v1 v3 M)) := by
  refine CI_ofp (own := RX9) (cc := cX9_isBeyond) (maxL := 4) (rt := .boolean) had (by decide) rfl rfl (Nat.le_of_ble_eq_true rfl) ?_
  intro p e s m args below meth c R0 B hr hk
  unfold d_X9_isBeyond
  show GG p l e (headSpec wsX9_isBeyond rm_X9_isBeyond).room s m args below meth c D ad (shM ad cA) 25 4 (MQ below (QI D ad (shM ad cA) 25 s.heap.size (R0, M)) args s 0 0 (AX ad 25 s.heap.size)) R0 M 0 [(0, .int v0), (1, .long v1), (3, .int v3)] [] _
  refine g_iload_n B dX9_isBeyond_0 0 rfl rfl ?_
  refine g_if_lt (tgt := 20) B dX9_isBeyond_1 (by decide) (fun c1 => ?_) (fun c1 => ?_)
  · refine g_iconst (v := 1) B dX9_isBeyond_20 (by decide) ?_
    refine g_goto (tgt := 25) B dX9_isBeyond_21 (by decide) ?_
    exact g_zretp B hr hk rfl dX9_isBeyond_25
  · refine g_lload_n B dX9_isBeyond_4 1 rfl rfl ?_
    refine g_lconst (v := 0) B dX9_isBeyond_5 (by decide) ?_
    refine g_lcmp B dX9_isBeyond_6 ?_
    refine g_if_lt (tgt := 20) B dX9_isBeyond_7 (by decide) (fun c2 => ?_) (fun c2 => ?_)
    · refine g_iconst (v := 1) B dX9_isBeyond_20 (by decide) ?_
      refine g_goto (tgt := 25) B dX9_isBeyond_21 (by decide) ?_
      exact g_zretp B hr hk rfl dX9_isBeyond_25
    · refine g_iload_n B dX9_isBeyond_10 0 rfl rfl ?_
      refine g_i2l B dX9_isBeyond_11 ?_
      refine g_lload_n B dX9_isBeyond_12 1 rfl rfl ?_
      refine g_ladd B dX9_isBeyond_13 ?_
      refine g_iload_n B dX9_isBeyond_14 2 rfl rfl ?_
      refine g_i2l B dX9_isBeyond_15 ?_
      refine g_lcmp B dX9_isBeyond_16 ?_
      refine g_if_le (tgt := 24) B dX9_isBeyond_17 (by decide) (fun c3 => ?_) (fun c3 => ?_)
      · refine g_iconst (v := 0) B dX9_isBeyond_24 (by decide) ?_
        exact g_zretp B hr hk rfl dX9_isBeyond_25
      · refine g_iconst (v := 1) B dX9_isBeyond_20 (by decide) ?_
        refine g_goto (tgt := 25) B dX9_isBeyond_21 (by decide) ?_
        exact g_zretp B hr hk rfl dX9_isBeyond_25

abbrev rm_X9_cellsBarred : Room := { frames := 1, cells := 0, slots := 0, locals := 23 }
set_option maxHeartbeats 4000000 in
set_option maxRecDepth 100000 in
theorem k_X9_cellsBarred (l : Launch) (D : va_G) (cA : Nat → ClassId) (ad : Nat → Nat) (had : adOK ad 25) (v1 : Int32) (v2 : Int32) (v3 : Int32) (v4 : Int64) (M : Mem) : CI l yX9_cellsBarred wsX9_cellsBarred rm_X9_cellsBarred D cA ad (shM ad cA) 25 [.ref (ad 0), .int v1, .int v2, .int v3, .long v4] M (d_X9_cellsBarred v1 v2 v3 v4 M) := by
  refine CI_of (own := RX9) (cc := cX9_cellsBarred) (maxL := 6) (rt := .int) had (by decide) rfl rfl (Nat.le_of_ble_eq_true rfl) ?_
  intro p e s m args below meth c R0 B hr hk
  have hJ25 : ∀  (v1 : Int32) (v3 : Int32) (v4 : Int64)  (M : Mem)   , GG p l e (headSpec wsX9_cellsBarred rm_X9_cellsBarred).room s m args below meth c D ad (shM ad cA) 25 6 (MQ below (QI D ad (shM ad cA) 25 s.heap.size R0) args s 0 0 (AX ad 25 s.heap.size)) R0 M 25 [(0, .ref (ad 0)), (1, .int v1), (3, .int v3), (4, .long v4)] [] (dX9_cellsBarred_25j  v1 v3 v4  M) := by
    intro v1 v3 v4 M
    unfold dX9_cellsBarred_25j
    refine g_aload_n B dX9_cellsBarred_25 0 rfl rfl ?_
    refine g_get (v := .ref (ad 21)) B shM_o (by decide) in_X9_cellsBarred_X9 rfl 34 (by decide) (List.mem_of_getElem? (i := 1) rfl) rfl rfl dX9_cellsBarred_26 ?_
    refine g_iload_n B dX9_cellsBarred_29 1 rfl rfl ?_
    refine g_iald B shM_a21 (by decide) dX9_cellsBarred_30 ?_
    refine g_if_ge (tgt := 40) B dX9_cellsBarred_31 (by decide) (fun c2 => ?_) (fun c2 => ?_)
    · refine g_lload B dX9_cellsBarred_40 3 rfl ?_
      refine g_lconst (v := 0) B dX9_cellsBarred_42 (by decide) ?_
      refine g_lcmp B dX9_cellsBarred_43 ?_
      refine g_if_ge (tgt := 53) B dX9_cellsBarred_44 (by decide) (fun c3 => ?_) (fun c3 => ?_)
      · refine g_iload_n B dX9_cellsBarred_53 2 rfl rfl ?_
        refine g_lload B dX9_cellsBarred_54 3 rfl ?_
        refine g_aload_n B dX9_cellsBarred_56 0 rfl rfl ?_
        refine g_get (v := .ref (ad 21)) B shM_o (by decide) in_X9_cellsBarred_X9 rfl 34 (by decide) (List.mem_of_getElem? (i := 1) rfl) rfl rfl dX9_cellsBarred_57 ?_
        refine g_iload_n B dX9_cellsBarred_60 1 rfl rfl ?_
        refine g_iald B shM_a21 (by decide) dX9_cellsBarred_61 ?_
        refine g_callSIp (As := [.int v3, .long v4, .int (M 21 v1.toNatClampNeg)]) (st := []) B (k_X9_isBeyond l D cA ad B.2.2.2.2.2.2.1 v3 v4 (M 21 v1.toNatClampNeg) M) (va_cwS 3 B.2.2.2.2.1 gX9_cellsBarred_X9_isBeyond rfl rfl rfl (by decide +kernel) ⟨Nat.le_of_ble_eq_true rfl, Nat.le_of_ble_eq_true rfl⟩) rfl rfl (Nat.le_of_ble_eq_true rfl) dX9_cellsBarred_62 (fun r4 _ => ?_)
        refine g_if_eq (tgt := 76) B dX9_cellsBarred_65 (by decide) (fun c5 => ?_) (fun c5 => ?_)
        · refine g_iconst (v := 0) B dX9_cellsBarred_76 (by decide) ?_
          exact g_iret B hr hk dX9_cellsBarred_77
        · refine g_aload_n B dX9_cellsBarred_68 0 rfl rfl ?_
          refine g_iconst (v := 3) B dX9_cellsBarred_69 (by decide) ?_
          refine g_callVIe (q := (RX9, TX9, 39)) (As := [.int (3 : Int32)]) (st := []) B (k_X9_failed l D cA ad B.2.2.2.2.2.2.1 (3 : Int32) M) (cwV 1 B.2.2.2.2.1 gX9_cellsBarred_X9_failed rfl rfl rfl (by decide +kernel) ⟨Nat.le_of_ble_eq_true rfl, Nat.le_of_ble_eq_true rfl⟩) shM_o (by decide) rfl rfl rfl (Nat.le_of_ble_eq_true rfl) dX9_cellsBarred_70 (fun r6 M7 _ => ?_)
          refine g_goto (tgt := 77) B dX9_cellsBarred_73 (by decide) ?_
          exact g_iret B hr hk dX9_cellsBarred_77
      · refine g_aload_n B dX9_cellsBarred_47 0 rfl rfl ?_
        refine g_iconst (v := 4) B dX9_cellsBarred_48 (by decide) ?_
        refine g_callVIe (q := (RX9, TX9, 39)) (As := [.int (4 : Int32)]) (st := []) B (k_X9_failed l D cA ad B.2.2.2.2.2.2.1 (4 : Int32) M) (cwV 1 B.2.2.2.2.1 gX9_cellsBarred_X9_failed rfl rfl rfl (by decide +kernel) ⟨Nat.le_of_ble_eq_true rfl, Nat.le_of_ble_eq_true rfl⟩) shM_o (by decide) rfl rfl rfl (Nat.le_of_ble_eq_true rfl) dX9_cellsBarred_49 (fun r8 M9 _ => ?_)
        exact g_iret B hr hk dX9_cellsBarred_52
    · refine g_aload_n B dX9_cellsBarred_34 0 rfl rfl ?_
      refine g_iconst (v := 1) B dX9_cellsBarred_35 (by decide) ?_
      refine g_callVIe (q := (RX9, TX9, 39)) (As := [.int (1 : Int32)]) (st := []) B (k_X9_failed l D cA ad B.2.2.2.2.2.2.1 (1 : Int32) M) (cwV 1 B.2.2.2.2.1 gX9_cellsBarred_X9_failed rfl rfl rfl (by decide +kernel) ⟨Nat.le_of_ble_eq_true rfl, Nat.le_of_ble_eq_true rfl⟩) shM_o (by decide) rfl rfl rfl (Nat.le_of_ble_eq_true rfl) dX9_cellsBarred_36 (fun r10 M11 _ => ?_)
      exact g_iret B hr hk dX9_cellsBarred_39
  unfold d_X9_cellsBarred
  show GG p l e (headSpec wsX9_cellsBarred rm_X9_cellsBarred).room s m args below meth c D ad (shM ad cA) 25 6 (MQ below (QI D ad (shM ad cA) 25 s.heap.size R0) args s 0 0 (AX ad 25 s.heap.size)) R0 M 0 [(0, .ref (ad 0)), (1, .int v1), (2, .int v2), (3, .int v3), (4, .long v4)] [] _
  refine g_aload_n B dX9_cellsBarred_0 0 rfl rfl ?_
  refine g_get (v := .ref (ad 21)) B shM_o (by decide) in_X9_cellsBarred_X9 rfl 34 (by decide) (List.mem_of_getElem? (i := 1) rfl) rfl rfl dX9_cellsBarred_1 ?_
  refine g_iload_n B dX9_cellsBarred_4 1 rfl rfl ?_
  refine g_iald B shM_a21 (by decide) dX9_cellsBarred_5 ?_
  refine g_if_lt (tgt := 25) B dX9_cellsBarred_6 (by decide) (fun c1 => ?_) (fun c1 => ?_)
  · exact g_lv [0, 1, 3, 4] rfl (hJ25 _ _ _ _   )
  · refine g_aload_n B dX9_cellsBarred_9 0 rfl rfl ?_
    refine g_get (v := .ref (ad 22)) B shM_o (by decide) in_X9_cellsBarred_X9 rfl 35 (by decide) (List.mem_of_getElem? (i := 2) rfl) rfl rfl dX9_cellsBarred_10 ?_
    refine g_iload_n B dX9_cellsBarred_13 1 rfl rfl ?_
    refine g_iald B shM_a22 (by decide) dX9_cellsBarred_14 ?_
    refine g_iload_n B dX9_cellsBarred_15 2 rfl rfl ?_
    refine g_icmp_eq (tgt := 25) B dX9_cellsBarred_16 (by decide) (fun c12 => ?_) (fun c12 => ?_)
    · exact g_lv [0, 1, 3, 4] rfl (hJ25 _ _ _ _   )
    · refine g_aload_n B dX9_cellsBarred_19 0 rfl rfl ?_
      refine g_iconst (v := 2) B dX9_cellsBarred_20 (by decide) ?_
      refine g_callVIe (q := (RX9, TX9, 39)) (As := [.int (2 : Int32)]) (st := []) B (k_X9_failed l D cA ad B.2.2.2.2.2.2.1 (2 : Int32) M) (cwV 1 B.2.2.2.2.1 gX9_cellsBarred_X9_failed rfl rfl rfl (by decide +kernel) ⟨Nat.le_of_ble_eq_true rfl, Nat.le_of_ble_eq_true rfl⟩) shM_o (by decide) rfl rfl rfl (Nat.le_of_ble_eq_true rfl) dX9_cellsBarred_21 (fun r13 M14 _ => ?_)
      exact g_iret B hr hk dX9_cellsBarred_24

abbrev rm_X9_noSheet : Room := { frames := 1, cells := 0, slots := 0, locals := 25 }
set_option maxHeartbeats 4000000 in
set_option maxRecDepth 100000 in
theorem k_X9_noSheet (l : Launch) (D : va_G) (cA : Nat → ClassId) (ad : Nat → Nat) (had : adOK ad 25) (v0 : Int32) (M : Mem) : CI l yX9_noSheet wsX9_noSheet rm_X9_noSheet D cA ad (shM ad cA) 25 [.int v0] M (wM M (d_X9_noSheet v0 M)) := by
  refine CI_ofp (own := RX9) (cc := cX9_noSheet) (maxL := 1) (rt := .boolean) had (by decide) rfl rfl (Nat.le_of_ble_eq_true rfl) ?_
  intro p e s m args below meth c R0 B hr hk
  unfold d_X9_noSheet
  show GG p l e (headSpec wsX9_noSheet rm_X9_noSheet).room s m args below meth c D ad (shM ad cA) 25 1 (MQ below (QI D ad (shM ad cA) 25 s.heap.size (R0, M)) args s 0 0 (AX ad 25 s.heap.size)) R0 M 0 [(0, .int v0)] [] _
  refine g_iload_n B dX9_noSheet_0 0 rfl rfl ?_
  refine g_i2l B dX9_noSheet_1 ?_
  refine g_lconst (v := 0) B dX9_noSheet_2 (by decide) ?_
  refine g_ldc2 (v := 3) B dX9_noSheet_3 (List.mem_of_getElem? (i := 1) rfl) ?_
  refine g_callSIp (As := [.long v0.toInt64, .long (0 : Int64), .long (3 : Int64)]) (st := []) B (k_X9_in l D cA ad B.2.2.2.2.2.2.1 v0.toInt64 (0 : Int64) (3 : Int64) M) (va_cwS 3 B.2.2.2.2.1 gX9_noSheet_X9_in rfl rfl rfl (by decide +kernel) ⟨Nat.le_of_ble_eq_true rfl, Nat.le_of_ble_eq_true rfl⟩) rfl rfl (Nat.le_of_ble_eq_true rfl) dX9_noSheet_6 (fun r1 _ => ?_)
  refine g_if_ne (tgt := 16) B dX9_noSheet_9 (by decide) (fun c2 => ?_) (fun c2 => ?_)
  · refine g_iconst (v := 1) B dX9_noSheet_12 (by decide) ?_
    refine g_goto (tgt := 17) B dX9_noSheet_13 (by decide) ?_
    exact g_zretp B hr hk rfl dX9_noSheet_17
  · refine g_iconst (v := 0) B dX9_noSheet_16 (by decide) ?_
    exact g_zretp B hr hk rfl dX9_noSheet_17

abbrev rm_X9_measures : Room := { frames := 0, cells := 0, slots := 0, locals := 0 }
set_option maxHeartbeats 4000000 in
set_option maxRecDepth 100000 in
theorem k_X9_measures (l : Launch) (D : va_G) (cA : Nat → ClassId) (ad : Nat → Nat) (had : adOK ad 25)  (M : Mem) : CV l yX9_measures wsX9_measures rm_X9_measures D cA ad (shM ad cA) 25 [.ref (ad 0)] M (d_X9_measures  M) := by
  refine CV_of (own := RX9) (cc := cX9_measures) (maxL := 8) had (by decide) rfl rfl (Nat.le_of_ble_eq_true rfl) ?_
  intro p e s m args below meth c R0 B hr hk
  have hJ44 : ∀ (rec2 : Int32 → Mem → Option Mem) (v1 : Int32) (s0 : Int32) (s1 : Int32) (M : Mem)   (hrec2 : ∀ (w1 : Int32) (M1 : Mem), GG p l e (headSpec wsX9_measures rm_X9_measures).room s m args below meth c D ad (shM ad cA) 25 8 (MQ below (QV D ad (shM ad cA) 25 s.heap.size R0) args s 0 0 (AX ad 25 s.heap.size)) R0 M1 2 [(0, .ref (ad 0)), (1, .int w1)] [] (rec2 w1 M1)), GG p l e (headSpec wsX9_measures rm_X9_measures).room s m args below meth c D ad (shM ad cA) 25 8 (MQ below (QV D ad (shM ad cA) 25 s.heap.size R0) args s 0 0 (AX ad 25 s.heap.size)) R0 M 44 [(0, .ref (ad 0)), (1, .int v1)] [.int s0, .int s1, .ref (ad 2)] (dX9_measures_44j rec2 v1 s0 s1 M) := by
    intro rec2 v1 s0 s1 M hrec2
    unfold dX9_measures_44j
    refine g_iast B shM_a2 (by decide) dX9_measures_44 (g_lmM (fun M4 => ?_))
    refine g_iinc B dX9_measures_45 1 (v := v1 + (1 : Int32)) rfl rfl (by decide) (lv1 := [(1, .int (v1 + (1 : Int32))), (0, .ref (ad 0))]) rfl ?_
    refine g_goto (tgt := 2) B dX9_measures_48 (by decide) ?_
    exact g_lv [1, 0] rfl (hrec2 _ _)
  have hL2 : ∀   (k2_51 : Mem → Option Mem)  (hk2_51 : ∀  (M1 : Mem), GG p l e (headSpec wsX9_measures rm_X9_measures).room s m args below meth c D ad (shM ad cA) 25 8 (MQ below (QV D ad (shM ad cA) 25 s.heap.size R0) args s 0 0 (AX ad 25 s.heap.size)) R0 M1 51 [(0, .ref (ad 0))] [] (k2_51  M1)), ∀ (f : Nat) (v1 : Int32) (M : Mem), GG p l e (headSpec wsX9_measures rm_X9_measures).room s m args below meth c D ad (shM ad cA) 25 8 (MQ below (QV D ad (shM ad cA) 25 s.heap.size R0) args s 0 0 (AX ad 25 s.heap.size)) R0 M 2 [(0, .ref (ad 0)), (1, .int v1)] [] (dX9_measures_2l   k2_51 f v1 M) := by
    intro k2_51 hk2_51
    intro f
    induction f with
    | zero =>
      intro v1 M
      exact g_none
    | succ f ih =>
      intro v1 M
      rw [dX9_measures_2l]
      refine g_iload_n B dX9_measures_2 1 rfl rfl ?_
      refine g_bipush (v := 36) B dX9_measures_3 (by decide) ?_
      refine g_icmp_ge (tgt := 51) B dX9_measures_5 (by decide) (fun c1 => ?_) (fun c1 => ?_)
      · exact g_lv [0] rfl (hk2_51  _)
      · refine g_aload_n B dX9_measures_8 0 rfl rfl ?_
        refine g_get (v := .ref (ad 2)) B shM_o (by decide) in_X9_measures_X9 rfl 6 (by decide) (List.mem_of_getElem? (i := 1) rfl) rfl rfl dX9_measures_9 ?_
        refine g_iload_n B dX9_measures_12 1 rfl rfl ?_
        refine g_iload_n B dX9_measures_13 1 rfl rfl ?_
        refine g_bipush (v := 7) B dX9_measures_14 (by decide) ?_
        refine g_irem B dX9_measures_16 ?_
        refine g_if_ne (tgt := 24) B dX9_measures_17 (by decide) (fun c2 => ?_) (fun c2 => ?_)
        · refine g_iconst (v := 0) B dX9_measures_20 (by decide) ?_
          refine g_goto (tgt := 44) B dX9_measures_21 (by decide) ?_
          exact g_lv [0, 1] rfl (hJ44 _ _ _ _ _   ih)
        · refine g_aload_n B dX9_measures_24 0 rfl rfl ?_
          refine g_get (v := .ref (ad 1)) B shM_o (by decide) in_X9_measures_X9 rfl 5 (by decide) (List.mem_of_getElem? (i := 2) rfl) rfl rfl dX9_measures_25 ?_
          refine g_iload_n B dX9_measures_28 1 rfl rfl ?_
          refine g_iald B shM_a1 (by decide) dX9_measures_29 ?_
          refine g_if_le (tgt := 42) B dX9_measures_30 (by decide) (fun c3 => ?_) (fun c3 => ?_)
          · refine g_bipush (v := -9) B dX9_measures_42 (by decide) ?_
            exact g_lv [0, 1] rfl (hJ44 _ _ _ _ _   ih)
          · refine g_aload_n B dX9_measures_33 0 rfl rfl ?_
            refine g_get (v := .ref (ad 1)) B shM_o (by decide) in_X9_measures_X9 rfl 5 (by decide) (List.mem_of_getElem? (i := 2) rfl) rfl rfl dX9_measures_34 ?_
            refine g_iload_n B dX9_measures_37 1 rfl rfl ?_
            refine g_iald B shM_a1 (by decide) dX9_measures_38 ?_
            refine g_goto (tgt := 44) B dX9_measures_39 (by decide) ?_
            exact g_lv [0, 1] rfl (hJ44 _ _ _ _ _   ih)
  have hJ203 : ∀ (rec73 : Int32 → Mem → Option Mem) (v1 : Int32) (v2 : Int32) (v3 : Int32) (s0 : Int32) (s1 : Int32) (M : Mem)   (hrec73 : ∀ (w3 : Int32) (M1 : Mem), GG p l e (headSpec wsX9_measures rm_X9_measures).room s m args below meth c D ad (shM ad cA) 25 8 (MQ below (QV D ad (shM ad cA) 25 s.heap.size R0) args s 0 0 (AX ad 25 s.heap.size)) R0 M1 73 [(0, .ref (ad 0)), (1, .int v1), (2, .int v2), (3, .int w3)] [] (rec73 w3 M1)), GG p l e (headSpec wsX9_measures rm_X9_measures).room s m args below meth c D ad (shM ad cA) 25 8 (MQ below (QV D ad (shM ad cA) 25 s.heap.size R0) args s 0 0 (AX ad 25 s.heap.size)) R0 M 203 [(0, .ref (ad 0)), (1, .int v1), (2, .int v2), (3, .int v3)] [.int s0, .int s1, .ref (ad 2)] (dX9_measures_203j rec73 v1 v2 v3 s0 s1 M) := by
    intro rec73 v1 v2 v3 s0 s1 M hrec73
    unfold dX9_measures_203j
    refine g_iast B shM_a2 (by decide) dX9_measures_203 (g_lmM (fun M14 => ?_))
    refine g_iinc B dX9_measures_204 3 (v := v3 + (1 : Int32)) rfl rfl (by decide) (lv1 := [(3, .int (v3 + (1 : Int32))), (0, .ref (ad 0)), (1, .int v1), (2, .int v2)]) rfl ?_
    refine g_goto (tgt := 73) B dX9_measures_207 (by decide) ?_
    exact g_lv [1, 2, 3, 0] rfl (hrec73 _ _)
  have hJ167 : ∀ (rec73 : Int32 → Mem → Option Mem) (v1 : Int32) (v2 : Int32) (v3 : Int32) (v4 : Int32) (v5 : Int32) (s0 : Int32) (M : Mem)   (hrec73 : ∀ (w3 : Int32) (M1 : Mem), GG p l e (headSpec wsX9_measures rm_X9_measures).room s m args below meth c D ad (shM ad cA) 25 8 (MQ below (QV D ad (shM ad cA) 25 s.heap.size R0) args s 0 0 (AX ad 25 s.heap.size)) R0 M1 73 [(0, .ref (ad 0)), (1, .int v1), (2, .int v2), (3, .int w3)] [] (rec73 w3 M1)), GG p l e (headSpec wsX9_measures rm_X9_measures).room s m args below meth c D ad (shM ad cA) 25 8 (MQ below (QV D ad (shM ad cA) 25 s.heap.size R0) args s 0 0 (AX ad 25 s.heap.size)) R0 M 167 [(0, .ref (ad 0)), (1, .int v1), (2, .int v2), (3, .int v3), (4, .int v4), (5, .int v5)] [.int s0] (dX9_measures_167j rec73 v1 v2 v3 v4 v5 s0 M) := by
    intro rec73 v1 v2 v3 v4 v5 s0 M hrec73
    unfold dX9_measures_167j
    refine g_istore B dX9_measures_167 (by decide) (lv1 := [(7, .int s0), (0, .ref (ad 0)), (1, .int v1), (2, .int v2), (3, .int v3), (4, .int v4), (5, .int v5)]) rfl ?_
    refine g_aload_n B dX9_measures_169 1 rfl rfl ?_
    refine g_get (v := .ref (ad 2)) B shM_o (by decide) in_X9_measures_X9 rfl 6 (by decide) (List.mem_of_getElem? (i := 1) rfl) rfl rfl dX9_measures_170 ?_
    refine g_bipush (v := 6) B dX9_measures_173 (by decide) ?_
    refine g_iload_n B dX9_measures_175 3 rfl rfl ?_
    refine g_imul B dX9_measures_176 ?_
    refine g_iload_n B dX9_measures_177 4 rfl rfl ?_
    refine g_iadd B dX9_measures_178 ?_
    refine g_iload B dX9_measures_179 0 rfl ?_
    refine g_if_eq (tgt := 192) B dX9_measures_181 (by decide) (fun c13 => ?_) (fun c13 => ?_)
    · refine g_aload_n B dX9_measures_192 1 rfl rfl ?_
      refine g_get (v := .ref (ad 2)) B shM_o (by decide) in_X9_measures_X9 rfl 6 (by decide) (List.mem_of_getElem? (i := 1) rfl) rfl rfl dX9_measures_193 ?_
      refine g_bipush (v := 6) B dX9_measures_196 (by decide) ?_
      refine g_iload_n B dX9_measures_198 3 rfl rfl ?_
      refine g_imul B dX9_measures_199 ?_
      refine g_iload_n B dX9_measures_200 4 rfl rfl ?_
      refine g_iadd B dX9_measures_201 ?_
      refine g_iald B shM_a2 (by decide) dX9_measures_202 ?_
      exact g_lv [1, 2, 3, 4] rfl (hJ203 _ _ _ _ _ _ _   hrec73)
    · refine g_iload B dX9_measures_184 5 rfl ?_
      refine g_iload B dX9_measures_186 6 rfl ?_
      refine g_iadd B dX9_measures_188 ?_
      refine g_goto (tgt := 203) B dX9_measures_189 (by decide) ?_
      exact g_lv [1, 2, 3, 4] rfl (hJ203 _ _ _ _ _ _ _   hrec73)
  have hJ166 : ∀ (rec73 : Int32 → Mem → Option Mem) (v1 : Int32) (v2 : Int32) (v3 : Int32) (v4 : Int32) (v5 : Int32)  (M : Mem)   (hrec73 : ∀ (w3 : Int32) (M1 : Mem), GG p l e (headSpec wsX9_measures rm_X9_measures).room s m args below meth c D ad (shM ad cA) 25 8 (MQ below (QV D ad (shM ad cA) 25 s.heap.size R0) args s 0 0 (AX ad 25 s.heap.size)) R0 M1 73 [(0, .ref (ad 0)), (1, .int v1), (2, .int v2), (3, .int w3)] [] (rec73 w3 M1)), GG p l e (headSpec wsX9_measures rm_X9_measures).room s m args below meth c D ad (shM ad cA) 25 8 (MQ below (QV D ad (shM ad cA) 25 s.heap.size R0) args s 0 0 (AX ad 25 s.heap.size)) R0 M 166 [(0, .ref (ad 0)), (1, .int v1), (2, .int v2), (3, .int v3), (4, .int v4), (5, .int v5)] [] (dX9_measures_166j rec73 v1 v2 v3 v4 v5  M) := by
    intro rec73 v1 v2 v3 v4 v5 M hrec73
    unfold dX9_measures_166j
    refine g_iconst (v := 0) B dX9_measures_166 (by decide) ?_
    exact g_lv [0, 1, 2, 3, 4, 5] rfl (hJ167 _ _ _ _ _ _ _ _   hrec73)
  have hJ162 : ∀ (rec73 : Int32 → Mem → Option Mem) (v1 : Int32) (v2 : Int32) (v3 : Int32) (v4 : Int32) (v5 : Int32)  (M : Mem)   (hrec73 : ∀ (w3 : Int32) (M1 : Mem), GG p l e (headSpec wsX9_measures rm_X9_measures).room s m args below meth c D ad (shM ad cA) 25 8 (MQ below (QV D ad (shM ad cA) 25 s.heap.size R0) args s 0 0 (AX ad 25 s.heap.size)) R0 M1 73 [(0, .ref (ad 0)), (1, .int v1), (2, .int v2), (3, .int w3)] [] (rec73 w3 M1)), GG p l e (headSpec wsX9_measures rm_X9_measures).room s m args below meth c D ad (shM ad cA) 25 8 (MQ below (QV D ad (shM ad cA) 25 s.heap.size R0) args s 0 0 (AX ad 25 s.heap.size)) R0 M 162 [(0, .ref (ad 0)), (1, .int v1), (2, .int v2), (3, .int v3), (4, .int v4), (5, .int v5)] [] (dX9_measures_162j rec73 v1 v2 v3 v4 v5  M) := by
    intro rec73 v1 v2 v3 v4 v5 M hrec73
    unfold dX9_measures_162j
    refine g_iconst (v := 1) B dX9_measures_162 (by decide) ?_
    refine g_goto (tgt := 167) B dX9_measures_163 (by decide) ?_
    exact g_lv [0, 1, 2, 3, 4, 5] rfl (hJ167 _ _ _ _ _ _ _ _   hrec73)
  have hJ122 : ∀ (rec73 : Int32 → Mem → Option Mem) (v1 : Int32) (v2 : Int32) (v3 : Int32) (v4 : Int32) (v5 : Int32) (s0 : Int32) (M : Mem)   (hrec73 : ∀ (w3 : Int32) (M1 : Mem), GG p l e (headSpec wsX9_measures rm_X9_measures).room s m args below meth c D ad (shM ad cA) 25 8 (MQ below (QV D ad (shM ad cA) 25 s.heap.size R0) args s 0 0 (AX ad 25 s.heap.size)) R0 M1 73 [(0, .ref (ad 0)), (1, .int v1), (2, .int v2), (3, .int w3)] [] (rec73 w3 M1)), GG p l e (headSpec wsX9_measures rm_X9_measures).room s m args below meth c D ad (shM ad cA) 25 8 (MQ below (QV D ad (shM ad cA) 25 s.heap.size R0) args s 0 0 (AX ad 25 s.heap.size)) R0 M 122 [(0, .ref (ad 0)), (1, .int v1), (2, .int v2), (3, .int v3), (4, .int v4), (5, .int v5)] [.int s0] (dX9_measures_122j rec73 v1 v2 v3 v4 v5 s0 M) := by
    intro rec73 v1 v2 v3 v4 v5 s0 M hrec73
    unfold dX9_measures_122j
    refine g_istore B dX9_measures_122 (by decide) (lv1 := [(6, .int s0), (0, .ref (ad 0)), (1, .int v1), (2, .int v2), (3, .int v3), (4, .int v4), (5, .int v5)]) rfl ?_
    refine g_iload B dX9_measures_124 0 rfl ?_
    refine g_if_eq (tgt := 166) B dX9_measures_126 (by decide) (fun c12 => ?_) (fun c12 => ?_)
    · exact g_lv [1, 2, 3, 4, 5, 6] rfl (hJ166 _ _ _ _ _ _ _   hrec73)
    · refine g_aload_n B dX9_measures_129 1 rfl rfl ?_
      refine g_get (v := .ref (ad 2)) B shM_o (by decide) in_X9_measures_X9 rfl 6 (by decide) (List.mem_of_getElem? (i := 1) rfl) rfl rfl dX9_measures_130 ?_
      refine g_bipush (v := 6) B dX9_measures_133 (by decide) ?_
      refine g_iload_n B dX9_measures_135 3 rfl rfl ?_
      refine g_imul B dX9_measures_136 ?_
      refine g_iload_n B dX9_measures_137 4 rfl rfl ?_
      refine g_iadd B dX9_measures_138 ?_
      refine g_iald B shM_a2 (by decide) dX9_measures_139 ?_
      refine g_if_lt (tgt := 162) B dX9_measures_140 (by decide) (fun c15 => ?_) (fun c15 => ?_)
      · exact g_lv [1, 2, 3, 4, 5, 6] rfl (hJ162 _ _ _ _ _ _ _   hrec73)
      · refine g_iload B dX9_measures_143 5 rfl ?_
        refine g_iload B dX9_measures_145 6 rfl ?_
        refine g_iadd B dX9_measures_147 ?_
        refine g_aload_n B dX9_measures_148 1 rfl rfl ?_
        refine g_get (v := .ref (ad 2)) B shM_o (by decide) in_X9_measures_X9 rfl 6 (by decide) (List.mem_of_getElem? (i := 1) rfl) rfl rfl dX9_measures_149 ?_
        refine g_bipush (v := 6) B dX9_measures_152 (by decide) ?_
        refine g_iload_n B dX9_measures_154 3 rfl rfl ?_
        refine g_imul B dX9_measures_155 ?_
        refine g_iload_n B dX9_measures_156 4 rfl rfl ?_
        refine g_iadd B dX9_measures_157 ?_
        refine g_iald B shM_a2 (by decide) dX9_measures_158 ?_
        refine g_icmp_ge (tgt := 166) B dX9_measures_159 (by decide) (fun c16 => ?_) (fun c16 => ?_)
        · exact g_lv [1, 2, 3, 4, 5, 6] rfl (hJ166 _ _ _ _ _ _ _   hrec73)
        · exact g_lv [1, 2, 3, 4, 5, 6] rfl (hJ162 _ _ _ _ _ _ _   hrec73)
  have hJ121 : ∀ (rec73 : Int32 → Mem → Option Mem) (v1 : Int32) (v2 : Int32) (v3 : Int32) (v4 : Int32) (v5 : Int32)  (M : Mem)   (hrec73 : ∀ (w3 : Int32) (M1 : Mem), GG p l e (headSpec wsX9_measures rm_X9_measures).room s m args below meth c D ad (shM ad cA) 25 8 (MQ below (QV D ad (shM ad cA) 25 s.heap.size R0) args s 0 0 (AX ad 25 s.heap.size)) R0 M1 73 [(0, .ref (ad 0)), (1, .int v1), (2, .int v2), (3, .int w3)] [] (rec73 w3 M1)), GG p l e (headSpec wsX9_measures rm_X9_measures).room s m args below meth c D ad (shM ad cA) 25 8 (MQ below (QV D ad (shM ad cA) 25 s.heap.size R0) args s 0 0 (AX ad 25 s.heap.size)) R0 M 121 [(0, .ref (ad 0)), (1, .int v1), (2, .int v2), (3, .int v3), (4, .int v4), (5, .int v5)] [] (dX9_measures_121j rec73 v1 v2 v3 v4 v5  M) := by
    intro rec73 v1 v2 v3 v4 v5 M hrec73
    unfold dX9_measures_121j
    refine g_iconst (v := 0) B dX9_measures_121 (by decide) ?_
    exact g_lv [0, 1, 2, 3, 4, 5] rfl (hJ122 _ _ _ _ _ _ _ _   hrec73)
  have hL73 : ∀ (v1 : Int32) (v2 : Int32)  (k73_210 : Mem → Option Mem)  (hk73_210 : ∀  (M1 : Mem), GG p l e (headSpec wsX9_measures rm_X9_measures).room s m args below meth c D ad (shM ad cA) 25 8 (MQ below (QV D ad (shM ad cA) 25 s.heap.size R0) args s 0 0 (AX ad 25 s.heap.size)) R0 M1 210 [(0, .ref (ad 0)), (1, .int v1), (2, .int v2)] [] (k73_210  M1)), ∀ (f : Nat) (v3 : Int32) (M : Mem), GG p l e (headSpec wsX9_measures rm_X9_measures).room s m args below meth c D ad (shM ad cA) 25 8 (MQ below (QV D ad (shM ad cA) 25 s.heap.size R0) args s 0 0 (AX ad 25 s.heap.size)) R0 M 73 [(0, .ref (ad 0)), (1, .int v1), (2, .int v2), (3, .int v3)] [] (dX9_measures_73l v1 v2  k73_210 f v3 M) := by
    intro v1 v2 k73_210 hk73_210
    intro f
    induction f with
    | zero =>
      intro v3 M
      exact g_none
    | succ f ih =>
      intro v3 M
      rw [dX9_measures_73l]
      refine g_iload_n B dX9_measures_73 3 rfl rfl ?_
      refine g_aload_n B dX9_measures_74 0 rfl rfl ?_
      refine g_get (v := .int (M 0 1)) B shM_o (by decide) in_X9_measures_X9 rfl 1 (by decide) (List.mem_of_getElem? (i := 3) rfl) rfl rfl dX9_measures_75 ?_
      refine g_icmp_ge (tgt := 210) B dX9_measures_78 (by decide) (fun c8 => ?_) (fun c8 => ?_)
      · exact g_lv [0, 1, 2] rfl (hk73_210  _)
      · refine g_aload_n B dX9_measures_81 0 rfl rfl ?_
        refine g_get (v := .ref (ad 2)) B shM_o (by decide) in_X9_measures_X9 rfl 6 (by decide) (List.mem_of_getElem? (i := 1) rfl) rfl rfl dX9_measures_82 ?_
        refine g_bipush (v := 6) B dX9_measures_85 (by decide) ?_
        refine g_iload_n B dX9_measures_87 2 rfl rfl ?_
        refine g_imul B dX9_measures_88 ?_
        refine g_iload_n B dX9_measures_89 1 rfl rfl ?_
        refine g_iadd B dX9_measures_90 ?_
        refine g_iald B shM_a2 (by decide) dX9_measures_91 ?_
        refine g_lmI (fun x9 => ?_)
        refine g_istore B dX9_measures_92 (by decide) (lv1 := [(4, .int x9), (0, .ref (ad 0)), (1, .int v1), (2, .int v2), (3, .int v3)]) rfl ?_
        refine g_aload_n B dX9_measures_94 1 rfl rfl ?_
        refine g_get (v := .ref (ad 2)) B shM_o (by decide) in_X9_measures_X9 rfl 6 (by decide) (List.mem_of_getElem? (i := 1) rfl) rfl rfl dX9_measures_95 ?_
        refine g_bipush (v := 6) B dX9_measures_98 (by decide) ?_
        refine g_iload_n B dX9_measures_100 2 rfl rfl ?_
        refine g_imul B dX9_measures_101 ?_
        refine g_iload_n B dX9_measures_102 4 rfl rfl ?_
        refine g_iadd B dX9_measures_103 ?_
        refine g_iald B shM_a2 (by decide) dX9_measures_104 ?_
        refine g_lmI (fun x10 => ?_)
        refine g_istore B dX9_measures_105 (by decide) (lv1 := [(5, .int x10), (4, .int x9), (0, .ref (ad 0)), (1, .int v1), (2, .int v2), (3, .int v3)]) rfl ?_
        refine g_iload B dX9_measures_107 1 rfl ?_
        refine g_if_lt (tgt := 121) B dX9_measures_109 (by decide) (fun c11 => ?_) (fun c11 => ?_)
        · exact g_lv [2, 3, 4, 5, 1, 0] rfl (hJ121 _ _ _ _ _ _ _   ih)
        · refine g_iload B dX9_measures_112 0 rfl ?_
          refine g_if_lt (tgt := 121) B dX9_measures_114 (by decide) (fun c17 => ?_) (fun c17 => ?_)
          · exact g_lv [2, 3, 4, 5, 1, 0] rfl (hJ121 _ _ _ _ _ _ _   ih)
          · refine g_iconst (v := 1) B dX9_measures_117 (by decide) ?_
            refine g_goto (tgt := 122) B dX9_measures_118 (by decide) ?_
            exact g_lv [2, 3, 4, 5, 1, 0] rfl (hJ122 _ _ _ _ _ _ _ _   ih)
  have hL63 : ∀ (v1 : Int32)  (k63_216 : Mem → Option Mem)  (hk63_216 : ∀  (M1 : Mem), GG p l e (headSpec wsX9_measures rm_X9_measures).room s m args below meth c D ad (shM ad cA) 25 8 (MQ below (QV D ad (shM ad cA) 25 s.heap.size R0) args s 0 0 (AX ad 25 s.heap.size)) R0 M1 216 [(0, .ref (ad 0)), (1, .int v1)] [] (k63_216  M1)), ∀ (f : Nat) (v2 : Int32) (M : Mem), GG p l e (headSpec wsX9_measures rm_X9_measures).room s m args below meth c D ad (shM ad cA) 25 8 (MQ below (QV D ad (shM ad cA) 25 s.heap.size R0) args s 0 0 (AX ad 25 s.heap.size)) R0 M 63 [(0, .ref (ad 0)), (1, .int v1), (2, .int v2)] [] (dX9_measures_63l v1  k63_216 f v2 M) := by
    intro v1 k63_216 hk63_216
    intro f
    induction f with
    | zero =>
      intro v2 M
      exact g_none
    | succ f ih =>
      intro v2 M
      rw [dX9_measures_63l]
      refine g_iload_n B dX9_measures_63 2 rfl rfl ?_
      refine g_aload_n B dX9_measures_64 0 rfl rfl ?_
      refine g_get (v := .int (M 0 1)) B shM_o (by decide) in_X9_measures_X9 rfl 1 (by decide) (List.mem_of_getElem? (i := 3) rfl) rfl rfl dX9_measures_65 ?_
      refine g_icmp_ge (tgt := 216) B dX9_measures_68 (by decide) (fun c7 => ?_) (fun c7 => ?_)
      · exact g_lv [0, 1] rfl (hk63_216  _)
      · refine g_iconst (v := 0) B dX9_measures_71 (by decide) ?_
        refine g_istore_n B dX9_measures_72 rfl (by decide) (lv1 := [(3, .int (0 : Int32)), (0, .ref (ad 0)), (1, .int v1), (2, .int v2)]) rfl ?_
        refine g_lv [1, 2, 3, 0] rfl (hL73 _ _ _  ?_ FU _ _)
        · intro M18
          refine g_iinc B dX9_measures_210 2 (v := v2 + (1 : Int32)) rfl rfl (by decide) (lv1 := [(2, .int (v2 + (1 : Int32))), (0, .ref (ad 0)), (1, .int v1)]) rfl ?_
          refine g_goto (tgt := 63) B dX9_measures_213 (by decide) ?_
          exact g_lv [1, 2, 0] rfl (ih _ _)
  have hL53 : ∀ (f : Nat) (v1 : Int32) (M : Mem), GG p l e (headSpec wsX9_measures rm_X9_measures).room s m args below meth c D ad (shM ad cA) 25 8 (MQ below (QV D ad (shM ad cA) 25 s.heap.size R0) args s 0 0 (AX ad 25 s.heap.size)) R0 M 53 [(0, .ref (ad 0)), (1, .int v1)] [] (dX9_measures_53l    f v1 M) := by
    intro f
    induction f with
    | zero =>
      intro v1 M
      exact g_none
    | succ f ih =>
      intro v1 M
      rw [dX9_measures_53l]
      refine g_iload_n B dX9_measures_53 1 rfl rfl ?_
      refine g_aload_n B dX9_measures_54 0 rfl rfl ?_
      refine g_get (v := .int (M 0 1)) B shM_o (by decide) in_X9_measures_X9 rfl 1 (by decide) (List.mem_of_getElem? (i := 3) rfl) rfl rfl dX9_measures_55 ?_
      refine g_icmp_ge (tgt := 222) B dX9_measures_58 (by decide) (fun c6 => ?_) (fun c6 => ?_)
      · exact g_vret B hr hk dX9_measures_222
      · refine g_iconst (v := 0) B dX9_measures_61 (by decide) ?_
        refine g_istore_n B dX9_measures_62 rfl (by decide) (lv1 := [(2, .int (0 : Int32)), (0, .ref (ad 0)), (1, .int v1)]) rfl ?_
        refine g_lv [1, 2, 0] rfl (hL63 _ _  ?_ FU _ _)
        · intro M19
          refine g_iinc B dX9_measures_216 1 (v := v1 + (1 : Int32)) rfl rfl (by decide) (lv1 := [(1, .int (v1 + (1 : Int32))), (0, .ref (ad 0))]) rfl ?_
          refine g_goto (tgt := 53) B dX9_measures_219 (by decide) ?_
          exact g_lv [1, 0] rfl (ih _ _)
  unfold d_X9_measures
  show GG p l e (headSpec wsX9_measures rm_X9_measures).room s m args below meth c D ad (shM ad cA) 25 8 (MQ below (QV D ad (shM ad cA) 25 s.heap.size R0) args s 0 0 (AX ad 25 s.heap.size)) R0 M 0 [(0, .ref (ad 0))] [] _
  refine g_iconst (v := 0) B dX9_measures_0 (by decide) ?_
  refine g_istore_n B dX9_measures_1 rfl (by decide) (lv1 := [(1, .int (0 : Int32)), (0, .ref (ad 0))]) rfl ?_
  refine g_lv [1, 0] rfl (hL2 _  ?_ FU _ _)
  · intro M5
    refine g_iconst (v := 0) B dX9_measures_51 (by decide) ?_
    refine g_istore_n B dX9_measures_52 rfl (by decide) (lv1 := [(1, .int (0 : Int32)), (0, .ref (ad 0))]) rfl ?_
    refine g_lv [1, 0] rfl (hL53    FU _ _)

abbrev rm_X9_town : Room := { frames := 4, cells := 0, slots := 0, locals := 101 }
set_option maxHeartbeats 4000000 in
set_option maxRecDepth 100000 in
theorem k_X9_town (l : Launch) (D : va_G) (cA : Nat → ClassId) (ad : Nat → Nat) (had : adOK ad 25) (v1 : Int32) (v2 : Int32) (v3 : Int32) (v4 : Int32) (M : Mem) : CI l yX9_town wsX9_town rm_X9_town D cA ad (shM ad cA) 25 [.ref (ad 0), .int v1, .int v2, .int v3, .int v4] M (d_X9_town v1 v2 v3 v4 M) := by
  refine CI_of (own := RX9) (cc := cX9_town) (maxL := 7) (rt := .int) had (by decide) rfl rfl (Nat.le_of_ble_eq_true rfl) ?_
  intro p e s m args below meth c R0 B hr hk
  have hL108 : ∀   (k108_135 : Mem → Option (Int32 × Mem))  (hk108_135 : ∀  (M1 : Mem), GG p l e (headSpec wsX9_town rm_X9_town).room s m args below meth c D ad (shM ad cA) 25 7 (MQ below (QI D ad (shM ad cA) 25 s.heap.size R0) args s 0 0 (AX ad 25 s.heap.size)) R0 M1 135 [(0, .ref (ad 0))] [] (k108_135  M1)), ∀ (f : Nat) (v6 : Int32) (M : Mem), GG p l e (headSpec wsX9_town rm_X9_town).room s m args below meth c D ad (shM ad cA) 25 7 (MQ below (QI D ad (shM ad cA) 25 s.heap.size R0) args s 0 0 (AX ad 25 s.heap.size)) R0 M 108 [(0, .ref (ad 0)), (6, .int v6)] [] (dX9_town_108l   k108_135 f v6 M) := by
    intro k108_135 hk108_135
    intro f
    induction f with
    | zero =>
      intro v6 M
      exact g_none
    | succ f ih =>
      intro v6 M
      rw [dX9_town_108l]
      refine g_iload B dX9_town_108 1 rfl ?_
      refine g_bipush (v := 36) B dX9_town_110 (by decide) ?_
      refine g_icmp_ge (tgt := 135) B dX9_town_112 (by decide) (fun c15 => ?_) (fun c15 => ?_)
      · exact g_lv [0] rfl (hk108_135  _)
      · refine g_aload_n B dX9_town_115 0 rfl rfl ?_
        refine g_get (v := .ref (ad 1)) B shM_o (by decide) in_X9_town_X9 rfl 5 (by decide) (List.mem_of_getElem? (i := 9) rfl) rfl rfl dX9_town_116 ?_
        refine g_iload B dX9_town_119 1 rfl ?_
        refine g_aload_n B dX9_town_121 0 rfl rfl ?_
        refine g_get (v := .ref (ad 8)) B shM_o (by decide) in_X9_town_X9 rfl 15 (by decide) (List.mem_of_getElem? (i := 10) rfl) rfl rfl dX9_town_122 ?_
        refine g_iload B dX9_town_125 1 rfl ?_
        refine g_iald B shM_a8 (by decide) dX9_town_127 ?_
        refine g_iast B shM_a1 (by decide) dX9_town_128 (g_lmM (fun M16 => ?_))
        refine g_iinc B dX9_town_129 1 (v := v6 + (1 : Int32)) rfl rfl (by decide) (lv1 := [(6, .int (v6 + (1 : Int32))), (0, .ref (ad 0))]) rfl ?_
        refine g_goto (tgt := 108) B dX9_town_132 (by decide) ?_
        exact g_lv [1, 0] rfl (ih _ _)
  have hL138 : ∀   (k138_217 : Mem → Option (Int32 × Mem))  (hk138_217 : ∀  (M1 : Mem), GG p l e (headSpec wsX9_town rm_X9_town).room s m args below meth c D ad (shM ad cA) 25 7 (MQ below (QI D ad (shM ad cA) 25 s.heap.size R0) args s 0 0 (AX ad 25 s.heap.size)) R0 M1 217 [(0, .ref (ad 0))] [] (k138_217  M1)), ∀ (f : Nat) (v6 : Int32) (M : Mem), GG p l e (headSpec wsX9_town rm_X9_town).room s m args below meth c D ad (shM ad cA) 25 7 (MQ below (QI D ad (shM ad cA) 25 s.heap.size R0) args s 0 0 (AX ad 25 s.heap.size)) R0 M 138 [(0, .ref (ad 0)), (6, .int v6)] [] (dX9_town_138l   k138_217 f v6 M) := by
    intro k138_217 hk138_217
    intro f
    induction f with
    | zero =>
      intro v6 M
      exact g_none
    | succ f ih =>
      intro v6 M
      rw [dX9_town_138l]
      refine g_iload B dX9_town_138 1 rfl ?_
      refine g_aload_n B dX9_town_140 0 rfl rfl ?_
      refine g_get (v := .int (M 0 2)) B shM_o (by decide) in_X9_town_X9 rfl 2 (by decide) (List.mem_of_getElem? (i := 6) rfl) rfl rfl dX9_town_141 ?_
      refine g_icmp_ge (tgt := 217) B dX9_town_144 (by decide) (fun c18 => ?_) (fun c18 => ?_)
      · exact g_lv [0] rfl (hk138_217  _)
      · refine g_aload_n B dX9_town_147 0 rfl rfl ?_
        refine g_get (v := .ref (ad 3)) B shM_o (by decide) in_X9_town_X9 rfl 7 (by decide) (List.mem_of_getElem? (i := 11) rfl) rfl rfl dX9_town_148 ?_
        refine g_iload B dX9_town_151 1 rfl ?_
        refine g_aload_n B dX9_town_153 0 rfl rfl ?_
        refine g_get (v := .ref (ad 9)) B shM_o (by decide) in_X9_town_X9 rfl 16 (by decide) (List.mem_of_getElem? (i := 12) rfl) rfl rfl dX9_town_154 ?_
        refine g_iload B dX9_town_157 1 rfl ?_
        refine g_iald B shM_a9 (by decide) dX9_town_159 ?_
        refine g_iast B shM_a3 (by decide) dX9_town_160 (g_lmM (fun M19 => ?_))
        refine g_aload_n B dX9_town_161 0 rfl rfl ?_
        refine g_get (v := .ref (ad 4)) B shM_o (by decide) in_X9_town_X9 rfl 8 (by decide) (List.mem_of_getElem? (i := 13) rfl) rfl rfl dX9_town_162 ?_
        refine g_iload B dX9_town_165 1 rfl ?_
        refine g_aload_n B dX9_town_167 0 rfl rfl ?_
        refine g_get (v := .ref (ad 10)) B shM_o (by decide) in_X9_town_X9 rfl 17 (by decide) (List.mem_of_getElem? (i := 14) rfl) rfl rfl dX9_town_168 ?_
        refine g_iload B dX9_town_171 1 rfl ?_
        refine g_iald B shM_a10 (by decide) dX9_town_173 ?_
        refine g_iast B shM_a4 (by decide) dX9_town_174 (g_lmM (fun M20 => ?_))
        refine g_aload_n B dX9_town_175 0 rfl rfl ?_
        refine g_get (v := .ref (ad 5)) B shM_o (by decide) in_X9_town_X9 rfl 9 (by decide) (List.mem_of_getElem? (i := 15) rfl) rfl rfl dX9_town_176 ?_
        refine g_iload B dX9_town_179 1 rfl ?_
        refine g_aload_n B dX9_town_181 0 rfl rfl ?_
        refine g_get (v := .ref (ad 11)) B shM_o (by decide) in_X9_town_X9 rfl 18 (by decide) (List.mem_of_getElem? (i := 16) rfl) rfl rfl dX9_town_182 ?_
        refine g_iload B dX9_town_185 1 rfl ?_
        refine g_iald B shM_a11 (by decide) dX9_town_187 ?_
        refine g_iast B shM_a5 (by decide) dX9_town_188 (g_lmM (fun M21 => ?_))
        refine g_aload_n B dX9_town_189 0 rfl rfl ?_
        refine g_get (v := .ref (ad 6)) B shM_o (by decide) in_X9_town_X9 rfl 10 (by decide) (List.mem_of_getElem? (i := 17) rfl) rfl rfl dX9_town_190 ?_
        refine g_iload B dX9_town_193 1 rfl ?_
        refine g_aload_n B dX9_town_195 0 rfl rfl ?_
        refine g_get (v := .ref (ad 12)) B shM_o (by decide) in_X9_town_X9 rfl 19 (by decide) (List.mem_of_getElem? (i := 18) rfl) rfl rfl dX9_town_196 ?_
        refine g_iload B dX9_town_199 1 rfl ?_
        refine g_iald B shM_a12 (by decide) dX9_town_201 ?_
        refine g_iast B shM_a6 (by decide) dX9_town_202 (g_lmM (fun M22 => ?_))
        refine g_aload_n B dX9_town_203 0 rfl rfl ?_
        refine g_get (v := .ref (ad 7)) B shM_o (by decide) in_X9_town_X9 rfl 11 (by decide) (List.mem_of_getElem? (i := 19) rfl) rfl rfl dX9_town_204 ?_
        refine g_iload B dX9_town_207 1 rfl ?_
        refine g_iconst (v := 0) B dX9_town_209 (by decide) ?_
        refine g_iast B shM_a7 (by decide) dX9_town_210 (g_lmM (fun M23 => ?_))
        refine g_iinc B dX9_town_211 1 (v := v6 + (1 : Int32)) rfl rfl (by decide) (lv1 := [(6, .int (v6 + (1 : Int32))), (0, .ref (ad 0))]) rfl ?_
        refine g_goto (tgt := 138) B dX9_town_214 (by decide) ?_
        exact g_lv [1, 0] rfl (ih _ _)
  unfold d_X9_town
  show GG p l e (headSpec wsX9_town rm_X9_town).room s m args below meth c D ad (shM ad cA) 25 7 (MQ below (QI D ad (shM ad cA) 25 s.heap.size R0) args s 0 0 (AX ad 25 s.heap.size)) R0 M 0 [(0, .ref (ad 0)), (1, .int v1), (2, .int v2), (3, .int v3), (4, .int v4)] [] _
  refine g_iload_n B dX9_town_0 1 rfl rfl ?_
  refine g_callSIp (As := [.int v1]) (st := []) B (k_X9_noSheet l D cA ad B.2.2.2.2.2.2.1 v1 M) (va_cwS 1 B.2.2.2.2.1 gX9_town_X9_noSheet rfl rfl rfl (by decide +kernel) ⟨Nat.le_of_ble_eq_true rfl, Nat.le_of_ble_eq_true rfl⟩) rfl rfl (Nat.le_of_ble_eq_true rfl) dX9_town_1 (fun r1 _ => ?_)
  refine g_if_eq (tgt := 13) B dX9_town_4 (by decide) (fun c2 => ?_) (fun c2 => ?_)
  · refine g_iload_n B dX9_town_13 2 rfl rfl ?_
    refine g_i2l B dX9_town_14 ?_
    refine g_lconst (v := 0) B dX9_town_15 (by decide) ?_
    refine g_ldc2 (v := 2) B dX9_town_16 (List.mem_of_getElem? (i := 1) rfl) ?_
    refine g_callSIp (As := [.long v2.toInt64, .long (0 : Int64), .long (2 : Int64)]) (st := []) B (k_X9_in l D cA ad B.2.2.2.2.2.2.1 v2.toInt64 (0 : Int64) (2 : Int64) M) (va_cwS 3 B.2.2.2.2.1 gX9_town_X9_in rfl rfl rfl (by decide +kernel) ⟨Nat.le_of_ble_eq_true rfl, Nat.le_of_ble_eq_true rfl⟩) rfl rfl (Nat.le_of_ble_eq_true rfl) dX9_town_19 (fun r3 _ => ?_)
    refine g_if_ne (tgt := 32) B dX9_town_22 (by decide) (fun c4 => ?_) (fun c4 => ?_)
    · refine g_aload_n B dX9_town_25 0 rfl rfl ?_
      refine g_bipush (v := -2) B dX9_town_26 (by decide) ?_
      refine g_callVIe (q := (RX9, TX9, 39)) (As := [.int (-2 : Int32)]) (st := []) B (k_X9_refused l D cA ad B.2.2.2.2.2.2.1 (-2 : Int32) M) (cwV 1 B.2.2.2.2.1 gX9_town_X9_refused rfl rfl rfl (by decide +kernel) ⟨Nat.le_of_ble_eq_true rfl, Nat.le_of_ble_eq_true rfl⟩) shM_o (by decide) rfl rfl rfl (Nat.le_of_ble_eq_true rfl) dX9_town_28 (fun r31 M32 _ => ?_)
      exact g_iret B hr hk dX9_town_31
    · refine g_aload_n B dX9_town_32 0 rfl rfl ?_
      refine g_iload_n B dX9_town_33 1 rfl rfl ?_
      refine g_iload_n B dX9_town_34 2 rfl rfl ?_
      refine g_iload_n B dX9_town_35 3 rfl rfl ?_
      refine g_iload B dX9_town_36 4 rfl ?_
      refine g_i2l B dX9_town_38 ?_
      refine g_callVIe (q := (RX9, TX9, 39)) (As := [.int v1, .int v2, .int v3, .long v4.toInt64]) (st := []) B (k_X9_cellsBarred l D cA ad B.2.2.2.2.2.2.1 v1 v2 v3 v4.toInt64 M) (cwV 4 B.2.2.2.2.1 gX9_town_X9_cellsBarred rfl rfl rfl (by decide +kernel) ⟨Nat.le_of_ble_eq_true rfl, Nat.le_of_ble_eq_true rfl⟩) shM_o (by decide) rfl rfl rfl (Nat.le_of_ble_eq_true rfl) dX9_town_39 (fun r5 M6 _ => ?_)
      refine g_istore B dX9_town_42 (by decide) (lv1 := [(5, .int r5), (0, .ref (ad 0)), (1, .int v1), (2, .int v2), (3, .int v3), (4, .int v4)]) rfl ?_
      refine g_iload B dX9_town_44 0 rfl ?_
      refine g_if_ge (tgt := 52) B dX9_town_46 (by decide) (fun c7 => ?_) (fun c7 => ?_)
      · refine g_aload_n B dX9_town_52 1 rfl rfl ?_
        refine g_bipush (v := 60) B dX9_town_53 (by decide) ?_
        refine g_iload_n B dX9_town_55 2 rfl rfl ?_
        refine g_imul B dX9_town_56 ?_
        refine g_iload_n B dX9_town_57 4 rfl rfl ?_
        refine g_iadd B dX9_town_58 ?_
        refine g_iload B dX9_town_59 5 rfl ?_
        refine g_callVIe (q := (RX9, TX9, 39)) (As := [.int (((60 : Int32) * v1) + v3), .int v4]) (st := []) B (k_X9_readsTown l D cA ad B.2.2.2.2.2.2.1 (((60 : Int32) * v1) + v3) v4 M6) (cwV 2 B.2.2.2.2.1 gX9_town_X9_readsTown rfl rfl rfl (by decide +kernel) ⟨Nat.le_of_ble_eq_true rfl, Nat.le_of_ble_eq_true rfl⟩) shM_o (by decide) rfl rfl rfl (Nat.le_of_ble_eq_true rfl) dX9_town_61 (fun r8 M9 _ => ?_)
        refine g_if_ne (tgt := 79) B dX9_town_64 (by decide) (fun c10 => ?_) (fun c10 => ?_)
        · refine g_aload_n B dX9_town_67 1 rfl rfl ?_
          refine g_bipush (v := -100) B dX9_town_68 (by decide) ?_
          refine g_aload_n B dX9_town_70 1 rfl rfl ?_
          refine g_get (v := .int (M9 0 12)) B shM_o (by decide) in_X9_town_X9 rfl 12 (by decide) (List.mem_of_getElem? (i := 2) rfl) rfl rfl dX9_town_71 ?_
          refine g_isub B dX9_town_74 ?_
          refine g_callVIe (q := (RX9, TX9, 39)) (As := [.int ((-100 : Int32) - (M9 0 12))]) (st := []) B (k_X9_refused l D cA ad B.2.2.2.2.2.2.1 ((-100 : Int32) - (M9 0 12)) M9) (cwV 1 B.2.2.2.2.1 gX9_town_X9_refused rfl rfl rfl (by decide +kernel) ⟨Nat.le_of_ble_eq_true rfl, Nat.le_of_ble_eq_true rfl⟩) shM_o (by decide) rfl rfl rfl (Nat.le_of_ble_eq_true rfl) dX9_town_75 (fun r29 M30 _ => ?_)
          exact g_iret B hr hk dX9_town_78
        · refine g_aload_n B dX9_town_79 1 rfl rfl ?_
          refine g_aload_n B dX9_town_80 1 rfl rfl ?_
          refine g_get (v := .int (M9 0 13)) B shM_o (by decide) in_X9_town_X9 rfl 13 (by decide) (List.mem_of_getElem? (i := 3) rfl) rfl rfl dX9_town_81 ?_
          refine g_put (ty := .int) B shM_o (by decide) in_X9_town_X9 tyX9_ok nmX9 rfl 1 (by decide) (List.mem_of_getElem? (i := 4) rfl) rfl rfl (by decide +kernel) rfl rfl (fun _ => Nat.le_of_ble_eq_true rfl) (fun _ _ => rfl) dX9_town_84 (g_lmM (fun M11 => ?_))
          refine g_aload_n B dX9_town_87 1 rfl rfl ?_
          refine g_aload_n B dX9_town_88 1 rfl rfl ?_
          refine g_get (v := .int (M11 0 14)) B shM_o (by decide) in_X9_town_X9 rfl 14 (by decide) (List.mem_of_getElem? (i := 5) rfl) rfl rfl dX9_town_89 ?_
          refine g_put (ty := .int) B shM_o (by decide) in_X9_town_X9 tyX9_ok nmX9 rfl 2 (by decide) (List.mem_of_getElem? (i := 6) rfl) rfl rfl (by decide +kernel) rfl rfl (fun _ => Nat.le_of_ble_eq_true rfl) (fun _ _ => rfl) dX9_town_92 (g_lmM (fun M12 => ?_))
          refine g_aload_n B dX9_town_95 1 rfl rfl ?_
          refine g_iconst (v := 0) B dX9_town_96 (by decide) ?_
          refine g_put (ty := .int) B shM_o (by decide) in_X9_town_X9 tyX9_ok nmX9 rfl 3 (by decide) (List.mem_of_getElem? (i := 7) rfl) rfl rfl (by decide +kernel) rfl rfl (fun _ => Nat.le_of_ble_eq_true rfl) (fun _ _ => rfl) dX9_town_97 (g_lmM (fun M13 => ?_))
          refine g_aload_n B dX9_town_100 1 rfl rfl ?_
          refine g_iconst (v := 0) B dX9_town_101 (by decide) ?_
          refine g_put (ty := .int) B shM_o (by decide) in_X9_town_X9 tyX9_ok nmX9 rfl 4 (by decide) (List.mem_of_getElem? (i := 8) rfl) rfl rfl (by decide +kernel) rfl rfl (fun _ => Nat.le_of_ble_eq_true rfl) (fun _ _ => rfl) dX9_town_102 (g_lmM (fun M14 => ?_))
          refine g_iconst (v := 0) B dX9_town_105 (by decide) ?_
          refine g_istore B dX9_town_106 (by decide) (lv1 := [(6, .int (0 : Int32)), (5, .int r5), (0, .ref (ad 0)), (1, .int v1), (2, .int v2), (3, .int v3), (4, .int v4)]) rfl ?_
          refine g_lv [2, 0] rfl (hL108 _  ?_ FU _ _)
          · intro M17
            refine g_iconst (v := 0) B dX9_town_135 (by decide) ?_
            refine g_istore B dX9_town_136 (by decide) (lv1 := [(6, .int (0 : Int32)), (0, .ref (ad 0))]) rfl ?_
            refine g_lv [1, 0] rfl (hL138 _  ?_ FU _ _)
            · intro M24
              refine g_aload_n B dX9_town_217 0 rfl rfl ?_
              refine g_iconst (v := 0) B dX9_town_218 (by decide) ?_
              refine g_put (ty := .int) B shM_o (by decide) in_X9_town_X9 tyX9_ok nmX9 rfl 30 (by decide) (List.mem_of_getElem? (i := 20) rfl) rfl rfl (by decide +kernel) rfl rfl (fun _ => Nat.le_of_ble_eq_true rfl) (fun _ _ => rfl) dX9_town_219 (g_lmM (fun M25 => ?_))
              refine g_aload_n B dX9_town_222 0 rfl rfl ?_
              refine g_callVVe (q := (RX9, TX9, 39)) (As := []) (st := []) B (k_X9_measures l D cA ad B.2.2.2.2.2.2.1  M25) (cwV 0 B.2.2.2.2.1 gX9_town_X9_measures rfl rfl rfl (by decide +kernel) ⟨Nat.le_of_ble_eq_true rfl, Nat.le_of_ble_eq_true rfl⟩) shM_o (by decide) rfl rfl rfl (Nat.le_of_ble_eq_true rfl) dX9_town_223 (fun M26 _ => ?_)
              refine g_aload_n B dX9_town_226 0 rfl rfl ?_
              refine g_aload_n B dX9_town_227 0 rfl rfl ?_
              refine g_get (v := .int (M26 0 2)) B shM_o (by decide) in_X9_town_X9 rfl 2 (by decide) (List.mem_of_getElem? (i := 6) rfl) rfl rfl dX9_town_228 ?_
              refine g_callVIe (q := (RX9, TX9, 39)) (As := [.int (M26 0 2)]) (st := []) B (k_X9_refused l D cA ad B.2.2.2.2.2.2.1 (M26 0 2) M26) (cwV 1 B.2.2.2.2.1 gX9_town_X9_refused rfl rfl rfl (by decide +kernel) ⟨Nat.le_of_ble_eq_true rfl, Nat.le_of_ble_eq_true rfl⟩) shM_o (by decide) rfl rfl rfl (Nat.le_of_ble_eq_true rfl) dX9_town_231 (fun r27 M28 _ => ?_)
              exact g_iret B hr hk dX9_town_234
      · refine g_iload B dX9_town_49 0 rfl ?_
        exact g_iret B hr hk dX9_town_51
  · refine g_aload_n B dX9_town_7 0 rfl rfl ?_
    refine g_iconst (v := -1) B dX9_town_8 (by decide) ?_
    refine g_callVIe (q := (RX9, TX9, 39)) (As := [.int (-1 : Int32)]) (st := []) B (k_X9_refused l D cA ad B.2.2.2.2.2.2.1 (-1 : Int32) M) (cwV 1 B.2.2.2.2.1 gX9_town_X9_refused rfl rfl rfl (by decide +kernel) ⟨Nat.le_of_ble_eq_true rfl, Nat.le_of_ble_eq_true rfl⟩) shM_o (by decide) rfl rfl rfl (Nat.le_of_ble_eq_true rfl) dX9_town_9 (fun r33 M34 _ => ?_)
    exact g_iret B hr hk dX9_town_12

abbrev rm_X9_farFrom : Room := { frames := 0, cells := 0, slots := 0, locals := 0 }
set_option maxHeartbeats 4000000 in
set_option maxRecDepth 100000 in
theorem k_X9_farFrom (l : Launch) (D : va_G) (cA : Nat → ClassId) (ad : Nat → Nat) (had : adOK ad 25) (v1 : Int32) (v2 : Int32) (M : Mem) : CI l yX9_farFrom wsX9_farFrom rm_X9_farFrom D cA ad (shM ad cA) 25 [.ref (ad 0), .int v1, .int v2] M (wM M (d_X9_farFrom v1 v2 M)) := by
  refine CI_ofp (own := RX9) (cc := cX9_farFrom) (maxL := 3) (rt := .int) had (by decide) rfl rfl (Nat.le_of_ble_eq_true rfl) ?_
  intro p e s m args below meth c R0 B hr hk
  unfold d_X9_farFrom
  show GG p l e (headSpec wsX9_farFrom rm_X9_farFrom).room s m args below meth c D ad (shM ad cA) 25 3 (MQ below (QI D ad (shM ad cA) 25 s.heap.size (R0, M)) args s 0 0 (AX ad 25 s.heap.size)) R0 M 0 [(0, .ref (ad 0)), (1, .int v1), (2, .int v2)] [] _
  refine g_aload_n B dX9_farFrom_0 0 rfl rfl ?_
  refine g_get (v := .ref (ad 2)) B shM_o (by decide) in_X9_farFrom_X9 rfl 6 (by decide) (List.mem_of_getElem? (i := 1) rfl) rfl rfl dX9_farFrom_1 ?_
  refine g_bipush (v := 6) B dX9_farFrom_4 (by decide) ?_
  refine g_iload_n B dX9_farFrom_6 1 rfl rfl ?_
  refine g_imul B dX9_farFrom_7 ?_
  refine g_iload_n B dX9_farFrom_8 2 rfl rfl ?_
  refine g_iadd B dX9_farFrom_9 ?_
  refine g_iald B shM_a2 (by decide) dX9_farFrom_10 ?_
  exact g_iretp B hr hk dX9_farFrom_11

abbrev rm_X9_paceOf : Room := { frames := 0, cells := 0, slots := 0, locals := 0 }
set_option maxHeartbeats 4000000 in
set_option maxRecDepth 100000 in
theorem k_X9_paceOf (l : Launch) (D : va_G) (cA : Nat → ClassId) (ad : Nat → Nat) (had : adOK ad 25) (v1 : Int32) (M : Mem) : CI l yX9_paceOf wsX9_paceOf rm_X9_paceOf D cA ad (shM ad cA) 25 [.ref (ad 0), .int v1] M (wM M (d_X9_paceOf v1 M)) := by
  refine CI_ofp (own := RX9) (cc := cX9_paceOf) (maxL := 3) (rt := .int) had (by decide) rfl rfl (Nat.le_of_ble_eq_true rfl) ?_
  intro p e s m args below meth c R0 B hr hk
  unfold d_X9_paceOf
  show GG p l e (headSpec wsX9_paceOf rm_X9_paceOf).room s m args below meth c D ad (shM ad cA) 25 3 (MQ below (QI D ad (shM ad cA) 25 s.heap.size (R0, M)) args s 0 0 (AX ad 25 s.heap.size)) R0 M 0 [(0, .ref (ad 0)), (1, .int v1)] [] _
  refine g_aload_n B dX9_paceOf_0 0 rfl rfl ?_
  refine g_get (v := .ref (ad 6)) B shM_o (by decide) in_X9_paceOf_X9 rfl 10 (by decide) (List.mem_of_getElem? (i := 1) rfl) rfl rfl dX9_paceOf_1 ?_
  refine g_iload_n B dX9_paceOf_4 1 rfl rfl ?_
  refine g_iald B shM_a6 (by decide) dX9_paceOf_5 ?_
  refine g_iconst (v := 1) B dX9_paceOf_6 (by decide) ?_
  refine g_iadd B dX9_paceOf_7 ?_
  refine g_lmI (fun x1 => ?_)
  refine g_istore_n B dX9_paceOf_8 rfl (by decide) (lv1 := [(2, .int x1), (0, .ref (ad 0)), (1, .int v1)]) rfl ?_
  refine g_aload_n B dX9_paceOf_9 1 rfl rfl ?_
  refine g_get (v := .ref (ad 3)) B shM_o (by decide) in_X9_paceOf_X9 rfl 7 (by decide) (List.mem_of_getElem? (i := 2) rfl) rfl rfl dX9_paceOf_10 ?_
  refine g_iload_n B dX9_paceOf_13 2 rfl rfl ?_
  refine g_iald B shM_a3 (by decide) dX9_paceOf_14 ?_
  refine g_if_ne (tgt := 27) B dX9_paceOf_15 (by decide) (fun c2 => ?_) (fun c2 => ?_)
  · refine g_aload_n B dX9_paceOf_18 1 rfl rfl ?_
    refine g_get (v := .ref (ad 6)) B shM_o (by decide) in_X9_paceOf_X9 rfl 10 (by decide) (List.mem_of_getElem? (i := 1) rfl) rfl rfl dX9_paceOf_19 ?_
    refine g_iload_n B dX9_paceOf_22 2 rfl rfl ?_
    refine g_iald B shM_a6 (by decide) dX9_paceOf_23 ?_
    refine g_goto (tgt := 44) B dX9_paceOf_24 (by decide) ?_
    exact g_iretp B hr hk dX9_paceOf_44
  · refine g_aload_n B dX9_paceOf_27 1 rfl rfl ?_
    refine g_get (v := .ref (ad 3)) B shM_o (by decide) in_X9_paceOf_X9 rfl 7 (by decide) (List.mem_of_getElem? (i := 2) rfl) rfl rfl dX9_paceOf_28 ?_
    refine g_iload_n B dX9_paceOf_31 2 rfl rfl ?_
    refine g_iald B shM_a3 (by decide) dX9_paceOf_32 ?_
    refine g_iconst (v := 1) B dX9_paceOf_33 (by decide) ?_
    refine g_icmp_ne (tgt := 41) B dX9_paceOf_34 (by decide) (fun c3 => ?_) (fun c3 => ?_)
    · refine g_iload_n B dX9_paceOf_37 0 rfl rfl ?_
      refine g_goto (tgt := 44) B dX9_paceOf_38 (by decide) ?_
      exact g_iretp B hr hk dX9_paceOf_44
    · refine g_iload_n B dX9_paceOf_41 0 rfl rfl ?_
      refine g_iconst (v := 2) B dX9_paceOf_42 (by decide) ?_
      refine g_idiv B dX9_paceOf_43 ?_
      exact g_iretp B hr hk dX9_paceOf_44
