/-! season -/
theorem canT_s (v : Int32) (M : Mem) : d_X4_canTell v M = some (bI (rg v 5 ∨ (10 ≤ v.toInt ∧ v.toInt ≤ 15))) := by
  have h0 : (0 : Int32).toInt = 0 := by decide
  have h4 : (4 : Int32).toInt = 4 := by decide
  have h10 : (10 : Int32).toInt = 10 := by decide
  have h16 : (16 : Int32).toInt = 16 := by decide
  unfold d_X4_canTell dX4_canTell_9j
  simp only [Int32.lt_iff_toInt_lt, Int32.le_iff_toInt_le, h0, h4, h10, h16]
  have hr : rg v 5 ↔ (0 ≤ v.toInt ∧ v.toInt < 5) := Iff.rfl
  by_cases a : rg v 5 ∨ (10 ≤ v.toInt ∧ v.toInt ≤ 15)
  · rw [bI_t a]
    repeat' split
    all_goals first | rfl | (exfalso; rw [hr] at a; omega)
  · rw [bI_f a]
    repeat' split
    all_goals first | rfl | (exfalso; rw [hr] at a; omega)
theorem l2_dec : ∀ m, m < 21 → (2 : Int64) * (nI m).toInt64 = (nI (2 * m)).toInt64 ∧ 0 ≤ lg_cmp ((nI (2 * m)).toInt64) 0 := by decide +kernel
theorem cb_n {j m : Nat} {M : Mem} {v2 v3 : Int32} (hj : j < 4) (h : M 21 j = -1) : d_X9_cellsBarred (nI j) v2 v3 ((2 : Int64) * (nI m).toInt64) M = some (-11, mu M 0 0 1) := by
  have b4 : inB (nI j) 4 = true := inB_t hj (by decide)
  unfold d_X9_cellsBarred dX9_cellsBarred_25j d_X9_failed
  simp only [b4, if_true, cl (show j < 2 ^ 31 by omega), h, lm_eq, bd2_some]
  rw [if_pos (show (-1 : Int32) < 0 by decide), if_neg (show ¬ (0 : Int32) ≤ -1 by decide)]
  rfl
theorem cb_l {j m z l : Nat} {M : Mem} {v2 v3 : Int32} (hj : j < 4) (hz : z ≤ 60) (h : M 21 j = nI z) (h2 : M 22 j = nI l) (hl : ¬ nI l = v2) : d_X9_cellsBarred (nI j) v2 v3 ((2 : Int64) * (nI m).toInt64) M = some (-12, mu M 0 0 2) := by
  have b4 : inB (nI j) 4 = true := inB_t hj (by decide)
  unfold d_X9_cellsBarred d_X9_failed
  simp only [b4, if_true, cl (show j < 2 ^ 31 by omega), h, h2, lm_eq, bd2_some]
  rw [if_neg (show ¬ nI z < (0 : Int32) from nI_nlt (b := 0) (Nat.zero_le _) (by omega)), if_neg hl]
  rfl
theorem cb_s {j m z l : Nat} {M : Mem} {v3 : Int32} (hj : j < 4) (hm : m < 21) (hz : z ≤ 60) (h : M 21 j = nI z) (h2 : M 22 j = nI l) : (fcP v3 (nI (2 * m)) z → d_X9_cellsBarred (nI j) (nI l) v3 ((2 : Int64) * (nI m).toInt64) M = some (0, M)) ∧ (¬ fcP v3 (nI (2 * m)) z → d_X9_cellsBarred (nI j) (nI l) v3 ((2 : Int64) * (nI m).toInt64) M = some (-13, mu M 0 0 3)) := by
  have b4 : inB (nI j) 4 = true := inB_t hj (by decide)
  obtain ⟨m1, m2⟩ := l2_dec m hm
  unfold d_X9_cellsBarred dX9_cellsBarred_25j d_X9_failed
  simp only [b4, if_true, cl (show j < 2 ^ 31 by omega), h, h2, lm_eq, bd2_some, m1]
  rw [if_neg (show ¬ nI z < (0 : Int32) from nI_nlt (b := 0) (Nat.zero_le _) (by omega)), if_pos (show (0 : Int32) ≤ nI z from nI_le (a := 0) (Nat.zero_le _) (by omega)), if_pos m2, bey_s hz, bd1_some]
  refine ⟨fun q => ?_, fun q => ?_⟩
  · rw [nb_t (show 0 ≤ v3.toInt ∧ 0 ≤ (nI (2 * m)).toInt ∧ v3.toInt + (nI (2 * m)).toInt ≤ (z : Int) from q), if_pos rfl]
  · rw [nb_f (show ¬ (0 ≤ v3.toInt ∧ 0 ≤ (nI (2 * m)).toInt ∧ v3.toInt + (nI (2 * m)).toInt ≤ (z : Int)) from q), if_neg one0]
    rfl
theorem play_s {n c k j i m z s : Nat} {kd fr to cv wk : Nat → Nat} {w : Nat → Nat → Nat} {A M : Mem} {v : Int32} (hn : n ≤ 64) (hT : TOK c k kd fr to cv w) (hXS : XS c w A) (hXC : XC 6 k kd fr to cv A) (hXW : XW 6 k wk (bt s) A) (hMS : MS c w M) (hMC : MC k kd fr to cv M) (hMW : MW k wk s M) (hs : s < 2 ^ k) (hwk : ∀ i, i < k → wk i ≤ 1000 * n) (hj : j < 4) (hz : z ≤ 60) (hm : m < 21) (him : i + 2 * m ≤ z) (hA2 : A (29 + 2 * j) 2 = nI z) (hAM : ∀ y, y < z → A (29 + 2 * j + 1) y = M 23 (60 * j + y)) (hok : ∀ x, x < m → actOK k (M 23 (60 * j + (i + 2 * x))) (M 23 (60 * j + (i + 2 * x + 1)))) (hv : (∃ u, u < 5 ∧ v = nI u) ∨ ∃ u, u < 6 ∧ v = nI (10 + u)) : ∃ r B M1 N, d_X4_play (29 + 2 * j) (nI i) (nI m) 6 A = some B ∧ d_X4_told v B = some r ∧ d_X9_keepAll M = some M1 ∧ d_X9_seasonBy (nI (60 * j + i)) (nI m) v M1 = some (r, N) ∧ MK k M N ∧ ∀ q, q < 14 ∨ 22 < q → B q = A q := by
  have hk := hT.2.1
  have hp : 2 ^ k ≤ 2 ^ 6 := Nat.pow_le_pow_right (by decide) hk
  obtain ⟨B0, c1, c2, c3, c4⟩ := copy_s hk hXC hXW
  obtain ⟨M1, a1, a2, a3, a4⟩ := keepAll_s hk hMC.1
  have S1 : MS c w M1 := ⟨by rw [a4 1 (by decide) (by decide)]; exact hMS.1, by rw [a3 1 (by decide) (by decide)]; exact hMS.2.1, by rw [a3 2 (by decide) (by decide)]; exact hMS.2.2⟩
  have C1 : MC k kd fr to cv M1 := ⟨by rw [a4 2 (by decide) (by decide)]; exact hMC.1, by rw [a3 3 (by decide) (by decide), a3 4 (by decide) (by decide), a3 5 (by decide) (by decide), a3 6 (by decide) (by decide)]; exact hMC.2⟩
  have W1 : MW k wk s M1 := ⟨by rw [a4 4 (by decide) (by decide)]; exact hMW.1, by rw [a3 7 (by decide) (by decide)]; exact hMW.2⟩
  have K2 : MK k M (mu M1 0 23 (-9)) := a2.z (by omega) _
  have S2 := S1.z (j := 23) (by decide) (-9)
  have C2 := C1.z (j := 23) (by decide) (-9)
  have W2 := W1.z (j := 23) (by decide) (-9)
  have n3 : mu M1 0 23 (-9) 0 3 = M 0 3 + nI 0 := by rw [mu_eq, upd_n (by decide), a4 3 (by decide) (by decide), nI_0, Int32.add_zero]
  have n23 : mu M1 0 23 (-9) 0 23 = -9 := by rw [mu_eq, upd_s]
  have lk := look_s (d := 0) (bd := 1000 * n) hT S2 C2 W2 hwk (by omega) K2 n3 (Or.inl n23)
  rw [n23, if_pos rfl, mu_mu] at lk
  let y : Int32 := if nI (ctb (arB c fr to w wk) k) = nI k then nI 0 else -9
  have lk : d_X9_looksAround (mu M1 0 23 (-9)) = some (mu M1 0 23 y) := lk
  have f14 : ∀ (B : Mem) (jj : Nat) (x : Int32) q, q < 14 ∨ 14 < q → mu B 14 jj x q = B q := fun B jj x q hq => mu_ne (by omega)
  have XS0 : XS c w B0 := hXS.f (fun q hq => c2 q (by omega))
  have al := all_s (bd := 1000 * n) (A := mu (mu B0 14 1 (-9)) 14 2 0) hT ((XS0.f (fun q hq => mu_ne (by omega))).f (fun q hq => mu_ne (by omega))) ((c3.g (m14 _ _)).g (m14 _ _)) (XW.g (XW.g c4 (m14 _ _)) (m14 _ _)) (fun i hi => ⟨hwk i hi, bt_le s i⟩) (by omega)
  have wt := fun u => wt_s (A := mu (mu (mu B0 14 1 (-9)) 14 2 0) 14 3 u) hk (((c3.g (m14 _ _)).g (m14 _ _)).g (m14 _ _)) (XW.g (XW.g (XW.g c4 (m14 _ _)) (m14 _ _)) (m14 _ _))
  have ps : PS c k kd fr to cv w wk (1000 * n) A M (nI (sumN wk k)) 0 (-9) (mu (mu (mu (mu B0 14 1 (-9)) 14 2 0) 14 3 y) 14 4 (nI (sumN wk k))) (mu M1 0 23 y) := by
    have q0 : ∀ q, q ≠ 14 → mu (mu (mu (mu B0 14 1 (-9)) 14 2 0) 14 3 y) 14 4 (nI (sumN wk k)) q = B0 q := fun q hq => by rw [mu_ne hq, mu_ne hq, mu_ne hq, mu_ne hq]
    refine ⟨wk, s, hs, fun i hi => ⟨Nat.le_refl _, by have := hwk i hi; omega⟩, XS0.f (fun q hq => q0 q (by omega)), c3.g (fun q hq => q0 q (by omega)), XW.g c4 (fun q hq => q0 q (by omega)), S1.z (by decide) _, C1.z (by decide) _, W1.z (by decide) _, a2.z (by omega) _, fun q hq => by rw [q0 q (by omega)]; exact c2 q (by omega), ?_, by rw [mu_eq, upd_n (by decide), a4 3 (by decide) (by decide), nI_0, Int32.add_zero], ?_⟩
    · simp only [mu_eq]
      refine ⟨?_, ?_, ?_, ?_⟩
      · simp [upd_ap]
      · simp [upd_ap, nI_0]
      · simp [upd_ap]
      · simp [upd_ap]
    · rw [mu_eq, upd_s]
      show (if nI (ctb (arB c fr to w wk) k) = nI k then nI 0 else -9) = -9 ∨ _
      by_cases q : nI (ctb (arB c fr to w wk) k) = nI k
      · right
        refine ⟨0, by omega, ?_⟩
        show (if nI (ctb (arB c fr to w wk) k) = nI k then nI 0 else -9) = nI 0
        rw [if_pos q]
      · left; rw [if_neg q]
  obtain ⟨ff, B1, N1, d1, p1, p2, p3, p4, p5⟩ := play_l (n := m) hT (show 1000 * n + 20000 < 2 ^ 31 by omega) hj hz him hA2 hAM hok v (toldK v) m 0 0 FU FU _ _ (by omega) (show m + 1 < 2000 by omega) (show m + 1 < 2000 by omega) (by omega) ps
  obtain ⟨r, t1, t2⟩ := told_s (v := v) hT (show 1000 * n + 20000 < 2 ^ 31 by omega) p3 p4 hMW.2 (by
    rcases p5 with q | ⟨y, hy, q⟩
    · exact Or.inl q
    · exact Or.inr ⟨y, by omega, q⟩) hv
  have hK : MK k M N1 := by obtain ⟨wk, s, hs, hwk, hXS, hXC, hXW, hMS, hMC, hMW, hMK, hfr, hg, hN3, hx23⟩ := p4; exact hMK
  have hfr : ∀ q, q < 14 ∨ 22 < q → B1 q = A q := by obtain ⟨wk, s, hs, hwk, hXS, hXC, hXW, hMS, hMC, hMW, hMK, hfr, hg, hN3, hx23⟩ := p4; exact hfr
  refine ⟨r, B1, M1, N1, ?_, t1, a1, ?_, hK, hfr⟩
  · unfold d_X4_play dX4_play_39j
    rw [c1, bd1_some, lm_eq, lm_eq, al, bd1_some]
    simp only [lm_eq]
    by_cases q : nI (ctb (arB c fr to w wk) k) = nI k
    · have hy : y = 0 := by show (if nI (ctb (arB c fr to w wk) k) = nI k then nI 0 else -9) = 0; rw [if_pos q]; rfl
      rw [if_pos q, if_neg one0, wt, bd1_some]
      rw [hy] at p1
      exact p1
    · have hy : y = -9 := by show (if nI (ctb (arB c fr to w wk) k) = nI k then nI 0 else -9) = -9; rw [if_neg q]
      rw [if_neg q, if_pos rfl, wt, bd1_some]
      rw [hy] at p1
      exact p1
  · unfold d_X9_seasonBy
    rw [lm_eq, lk, bd1_some]
    exact p2.trans t2
theorem sim_season {n : Nat} {A M : Mem} (h : Rel n A M) (hn : n ≤ 64) (v1 v2 v3 v4 v5 : Int32) : OkE n (d_X8_season v1 v2 v3 v4 v5 A) (d_X9_season v1 v2 v3 v4 v5 M) := by
  obtain ⟨⟨c, k, kd, fr, to, cv, w, wk, s, hTw⟩, hSh, h6, h7, h8⟩ := id h
  obtain ⟨hT, hck, hXS, hXC, hXW, hMS, hMC, hMW, hs, hwk, hRd⟩ := id hTw
  have hc := hT.1
  have hk := hT.2.1
  have u8 : ∀ q, q ≠ 0 → mu A 0 8 0 q = A q := fun q hq => mu_ne hq
  have hXS0 : XS c w (mu A 0 8 0) := hXS.f (fun q hq => u8 q (by omega))
  have hXC0 : XC 6 k kd fr to cv (mu A 0 8 0) := ⟨by rw [u8 6 (by decide)]; exact hXC.1, fun i hi => by rw [u8 _ (by rw [ft6]; omega)]; exact hXC.2 i hi⟩
  have hXW0 : XW 6 k wk (bt s) (mu A 0 8 0) := fun i hi => by rw [u8 _ (by rw [ft6]; omega)]; exact hXW i hi
  have done : ∀ (r : Int32) (dx dm : Option (Int32 × Mem)), dx = some (r, mu A 0 8 0) → dm = some (r, mu M 0 0 0) → OkE n dx dm := fun r dx dm e1 e2 => ⟨r, _, _, e1, e2, h.flt 0⟩
  unfold d_X8_season d_X9_season dX9_season_66j dX9_season_73j d_X8_faulted d_X9_refused
  simp only [lm_eq, isSheet_s, isLane_s, nS_s, bd1_some, bd2_some, canT_s]
  by_cases r1 : rg v1 4
  · rw [bR_t r1, nb_t r1, if_neg one0, if_pos rfl, inR_s (n := 3) (by decide) (by decide), bd1_some]
    by_cases r2 : rg v2 3
    · rw [bR_t r2, if_neg one0, if_neg one0, inR_s (n := 21) (by decide) (by decide), bd1_some]
      by_cases r4 : rg v4 21
      · obtain ⟨c1, c2, -⟩ := ch_t (m := 20) r4 (by decide)
        rw [bR_t r4, if_neg one0, if_neg c1, if_neg c2, inR_s (n := 5) (by decide) (by decide), bd1_some]
        have main : ∀ (hv : (∃ u, u < 5 ∧ v5 = nI u) ∨ ∃ u, u < 6 ∧ v5 = nI (10 + u)), OkE n (bd1 (d_X8_hasTown (mu A 0 8 0)) (fun r10 => if r10 = 0 then some (-3, mu A 0 8 0) else if inB v1 4 = true then bd1 (d_X5_faultAsRow (shd v1.toNatClampNeg) v2 v3 (2 * v4) (mu A 0 8 0)) (fun r14 => if r14 = 0 then bd1 (d_X4_refusal (shd v1.toNatClampNeg) v3 v4 6 (mu A 0 8 0)) (fun r16 => if r16 = 0 then bd1 (d_X4_play (shd v1.toNatClampNeg) v3 v4 6 (mu A 0 8 0)) (fun M18 => bd1 (d_X4_told v5 M18) (fun r19 => some (r19, M18))) else some (r16, mu A 0 8 0)) else some (-10 - r14, mu (mu A 0 8 0) 0 8 r14)) else none)) (if M 0 2 = 0 then some (-3, mu M 0 0 0) else bd2 (d_X9_cellsBarred v1 v2 v3 ((2 : Int64) * v4.toInt64) M) (fun r12 M13 => if 0 ≤ r12 then bd1 (d_X9_pairsBarred (60 * v1 + v3) v4 M13) (fun r15 => if 0 ≤ r15 then bd1 (d_X9_keepAll M13) (fun M17 => bd2 (d_X9_seasonBy (60 * v1 + v3) v4 v5 M17) (fun r18 M19 => bd1 (d_X9_bringBack M19) (fun M20 => some (r18, mu M20 0 0 0)))) else some (r15, mu M13 0 0 0)) else some (r12, M13))) := by
          intro hv
          rw [hasTown_s hck hc hXS0.1, bd1_some, hMC.1]
          by_cases ek : k = 0
          · subst ek
            rw [nb_t rfl, if_pos rfl, if_pos nI_0]
            exact done _ _ _ rfl rfl
          · rw [nb_f ek, if_neg one0, if_neg (nI_ne0 (by omega) (by omega))]
            obtain ⟨j, hj, rfl⟩ := rg_of (by decide) r1
            obtain ⟨m, hm, rfl⟩ := rg_of (by decide) r4
            have two : (2 : Int32) * nI m = nI (2 * m) := by rw [show (2 : Int32) = nI 2 from rfl, pk_mul]
            rw [if_pos (inB_t hj (by decide)), cl (by omega), shd_v, two]
            rcases hSh j hj with ⟨q1, q2, q3⟩ | ⟨z, l, q1, q2, q3, q4, q5, q6, q7⟩
            · rw [far_n (by rw [u8 _ (by omega)]; exact q1), bd1_some, if_neg one0, cb_n hj q3, bd2_some, if_neg (by decide)]
              exact ⟨_, _, _, rfl, rfl, h.flt2 0 1⟩
            · have q3' : mu A 0 8 0 (29 + 2 * j) 1 = nI l := by rw [u8 _ (by omega)]; exact q3
              have q4' : mu A 0 8 0 (29 + 2 * j) 2 = nI z := by rw [u8 _ (by omega)]; exact q4
              by_cases el : nI l = v2
              · subst el
                obtain ⟨g1, g2⟩ := far_s q2 q3' q1 q4' v3 (show (0 : Int32) ≤ nI (2 * m) from nI_le (a := 0) (Nat.zero_le _) (by omega))
                obtain ⟨b1, b2⟩ := cb_s (v3 := v3) hj hm q1 q5 q6
                by_cases x : fcP v3 (nI (2 * m)) z
                · rw [g1 x, bd1_some, if_pos rfl, b1 x, bd2_some, if_pos (by decide)]
                  unfold fcP at x
                  obtain ⟨i, hi, rfl⟩ : ∃ i : Nat, i < z + 1 ∧ v3 = nI i := rg_of (by omega) ⟨by omega, by omega⟩
                  rw [nI_toInt (show i < 2 ^ 31 by omega), nI_toInt (show 2 * m < 2 ^ 31 by omega)] at x
                  have him : i + 2 * m ≤ z := by omega
                  have hAM : ∀ y, y < z → mu A 0 8 0 (29 + 2 * j + 1) y = M 23 (60 * j + y) := fun y hy => by rw [u8 _ (by omega), show 29 + 2 * j + 1 = 30 + 2 * j by omega]; exact q7 y hy
                  have i60 : (60 : Int32) * nI j + nI i = nI (60 * j + i) := by rw [show (60 : Int32) = nI 60 from rfl, pk_mul, nI_add]
                  obtain ⟨r, t1, t2, t3⟩ := ref_l (k := k) (n := m) hk hj q1 him q4' hAM hXC0.1 hMC.1 m 0 FU FU (by omega) (show m < 2000 by omega) (show m < 2000 by omega) (fun y hy => absurd hy (Nat.not_lt_zero _))
                  have t1' : d_X4_refusal (29 + 2 * j) (nI i) (nI m) 6 (mu A 0 8 0) = some r := t1
                  have t2' : d_X9_pairsBarred (nI (60 * j + i)) (nI m) M = some r := t2
                  rw [t1', bd1_some, i60, t2', bd1_some]
                  rcases t3 with e | e | ⟨e, hok⟩
                  · subst e
                    rw [if_neg (by decide), if_neg (by decide)]
                    exact done _ _ _ rfl rfl
                  · subst e
                    rw [if_neg (by decide), if_neg (by decide)]
                    exact done _ _ _ rfl rfl
                  · subst e
                    rw [if_pos rfl, if_pos (by decide)]
                    obtain ⟨r, B, M1, N, p1, p2, p3, p4, p5, p6⟩ := play_s (v := v5) hn hT hXS0 hXC0 hXW0 hMS hMC hMW hs hwk hj q1 hm him q4' hAM hok hv
                    obtain ⟨M3, d1, d2, d3⟩ := bringBack_s hk hMC.1 p5
                    rw [p1, bd1_some, p2, bd1_some, p3, bd1_some, p4, bd2_some, d1, bd1_some]
                    refine ⟨r, B, mu M3 0 0 0, rfl, rfl, h.own (fun q a b _ q14 _ q15 => ?_) (fun q hq => ?_) (fun y hy => ?_) ?_ ?_ ?_⟩
                    · rw [p6 q (by omega)]; exact u8 q (by omega)
                    · rw [mu_ne (by unfold Pq at hq; omega)]; exact d2 q hq
                    · rw [mu_eq, upd_n (by omega)]; exact d3 y (by omega) (by omega) (by omega)
                    · rw [p6 0 (by omega), mu_eq, upd_n (by decide), mu_eq, upd_n (by decide), d3 3 (by decide) (by decide) (by decide)]; exact h6
                    · rw [p6 0 (by omega), mu_eq, upd_n (by decide), mu_eq, upd_n (by decide), d3 38 (by decide) (by decide) (by decide)]; exact h7
                    · rw [p6 0 (by omega), mu_eq, upd_s, mu_eq, upd_s]
                · rw [g2 x, bd1_some, if_neg (by decide), b2 x, bd2_some, if_neg (by decide)]
                  exact ⟨_, _, _, rfl, rfl, h.flt2 0 3⟩
              · rw [far_l q2 q3' el, bd1_some, if_neg (by decide), cb_l hj q1 q5 q6 el, bd2_some, if_neg (by decide)]
                exact ⟨_, _, _, rfl, rfl, h.flt2 0 2⟩
        by_cases r5 : rg v5 5
        · obtain ⟨u, hu, hv⟩ := rg_of (by decide) r5
          rw [bR_t r5, bI_t (Or.inl r5), if_neg one0, if_neg one0]
          exact main (Or.inl ⟨u, hu, hv⟩)
        · rw [bR_f r5, if_pos rfl, in_s, bd1_some, Int32.toInt_toInt64, show (10 : Int64).toInt = 10 by decide, show (15 : Int64).toInt = 15 by decide]
          by_cases r6 : 10 ≤ v5.toInt ∧ v5.toInt ≤ 15
          · rw [bI_t (Or.inr r6), bI_t r6, if_neg one0, if_neg one0]
            obtain ⟨u, hu, hv⟩ := rg_of (v := v5) (n := 16) (by decide) ⟨by omega, by omega⟩
            refine main (Or.inr ⟨u - 10, by omega, ?_⟩)
            rw [hv, nI_toInt (by omega)] at r6
            rw [hv, show 10 + (u - 10) = u by omega]
          · rw [bI_f (fun q => by rcases q with q | q; exact r5 q; exact r6 q), bI_f r6, if_pos rfl, if_pos rfl]
            exact done _ _ _ rfl rfl
      · rw [bR_f r4, if_pos rfl, ch_f (m := 20) r4 (by decide)]
        exact done _ _ _ rfl rfl
    · rw [bR_f r2, if_pos rfl, if_pos rfl]
      exact done _ _ _ rfl rfl
  · rw [bR_f r1, nb_f r1, if_pos rfl, if_neg one0]
    exact done _ _ _ rfl rfl
