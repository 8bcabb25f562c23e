/-! town, both sides -/
theorem cbt_n {j : Nat} {M : Mem} {v2 v3 : Int32} (hj : j < 4) (h : M 21 j = -1) (L : Int64) : d_X9_cellsBarred (nI j) v2 v3 L M = some (-11, mu M 0 0 1) := by
  have b4 : inB (nI j) 4 = true := inB_t hj (by decide)
  unfold d_X9_cellsBarred dX9_cellsBarred_25j d_X9_failed
  simp only [b4, if_true, cl (show j < 2 ^ 31 by omega), h, lm_eq, bd2_some]
  rw [if_pos (show (-1 : Int32) < 0 by decide), if_neg (show ¬ (0 : Int32) ≤ -1 by decide)]
  rfl
theorem cbt_l {j z l : Nat} {M : Mem} {v2 v3 : Int32} (hj : j < 4) (hz : z ≤ 60) (h : M 21 j = nI z) (h2 : M 22 j = nI l) (hl : ¬ nI l = v2) (L : Int64) : d_X9_cellsBarred (nI j) v2 v3 L M = some (-12, mu M 0 0 2) := by
  have b4 : inB (nI j) 4 = true := inB_t hj (by decide)
  unfold d_X9_cellsBarred d_X9_failed
  simp only [b4, if_true, cl (show j < 2 ^ 31 by omega), h, h2, lm_eq, bd2_some]
  rw [if_neg (show ¬ nI z < (0 : Int32) from nI_nlt (b := 0) (Nat.zero_le _) (by omega)), if_neg hl]
  rfl
theorem cbt_z {j z l : Nat} {M : Mem} {v3 v4 : Int32} (hj : j < 4) (hz : z ≤ 60) (h : M 21 j = nI z) (h2 : M 22 j = nI l) (h4 : ¬ 0 ≤ v4.toInt) : d_X9_cellsBarred (nI j) (nI l) v3 v4.toInt64 M = some (-14, mu M 0 0 4) := by
  have b4 : inB (nI j) 4 = true := inB_t hj (by decide)
  unfold d_X9_cellsBarred dX9_cellsBarred_25j d_X9_failed
  simp only [b4, if_true, cl (show j < 2 ^ 31 by omega), h, h2, lm_eq, bd2_some]
  rw [if_neg (show ¬ nI z < (0 : Int32) from nI_nlt (b := 0) (Nat.zero_le _) (by omega)), if_pos (show (0 : Int32) ≤ nI z from nI_le (a := 0) (Nat.zero_le _) (by omega)), if_neg (fun q => h4 ((lgz v4).mp q))]
  rfl
theorem cbt_s {j z l : Nat} {M : Mem} {v3 v4 : Int32} (hj : j < 4) (hz : z ≤ 60) (h : M 21 j = nI z) (h2 : M 22 j = nI l) (h4 : 0 ≤ v4.toInt) : (fcP v3 v4 z → d_X9_cellsBarred (nI j) (nI l) v3 v4.toInt64 M = some (0, M)) ∧ (¬ fcP v3 v4 z → d_X9_cellsBarred (nI j) (nI l) v3 v4.toInt64 M = some (-13, mu M 0 0 3)) := by
  have b4 : inB (nI j) 4 = true := inB_t hj (by decide)
  unfold d_X9_cellsBarred dX9_cellsBarred_25j d_X9_failed
  simp only [b4, if_true, cl (show j < 2 ^ 31 by omega), h, h2, lm_eq, bd2_some]
  rw [if_neg (show ¬ nI z < (0 : Int32) from nI_nlt (b := 0) (Nat.zero_le _) (by omega)), if_pos (show (0 : Int32) ≤ nI z from nI_le (a := 0) (Nat.zero_le _) (by omega)), if_pos ((lgz v4).mpr h4), bey_s hz, bd1_some]
  refine ⟨fun q => ?_, fun q => ?_⟩
  · rw [nb_t (show 0 ≤ v3.toInt ∧ 0 ≤ v4.toInt ∧ v3.toInt + v4.toInt ≤ (z : Int) from q), if_pos rfl]
  · rw [nb_f (show ¬ (0 ≤ v3.toInt ∧ 0 ≤ v4.toInt ∧ v3.toInt + v4.toInt ≤ (z : Int)) from q), if_neg one0]
    rfl
theorem FT.tx {t : Nat → Int32} {c m q : Nat} {M N : Mem} (hc : 2 ≤ c ∧ c ≤ 6) (h1 : t 1 = nI (48 + c)) (q1 : 1 ≤ q) (q5 : q ≤ 5) (hm : m = hl c + 5 * q) (h : FT t c m q M N) : TX t c q m := by
  obtain ⟨-, -, hg, -, -⟩ := h
  refine ⟨hc.1, hc.2, q1, q5, hm, h1, fun p p2 pl => ?_, fun k hk r hr => ?_⟩
  · have g := hg p (by omega)
    rw [gB_d p2 pl] at g
    exact of_decide_eq_true g
  · have g := hg (hl c + 5 * k + r) (by omega)
    rw [gB_f (by omega) (by omega) hr] at g
    exact g
theorem sim_town {n : Nat} {A M : Mem} (h : Rel n A M) (v1 v2 v3 v4 : Int32) : OkE n (d_X8_town v1 v2 v3 v4 A) (d_X9_town v1 v2 v3 v4 M) := by
  have hSh := h.2.1
  have h6 := h.2.2.1
  have h7 := h.2.2.2.1
  have u8 : ∀ q, q ≠ 0 → mu A 0 8 0 q = A q := fun q hq => mu_ne hq
  have done : ∀ (r : Int32) (dx dm : Option (Int32 × Mem)), dx = some (r, mu A 0 8 0) → dm = some (r, mu M 0 0 0) → OkE n dx dm := fun r dx dm e1 e2 => ⟨r, _, _, e1, e2, h.flt 0⟩
  unfold d_X8_town d_X9_town d_X8_faulted
  rw [lm_eq, isSheet_s, bd1_some, nS_s, bd1_some]
  by_cases r1 : rg v1 4
  · rw [bR_t r1, nb_t r1, if_neg one0, if_pos rfl, isLane_s, bd1_some, inR_s (n := 3) (by decide) (by decide), bd1_some]
    by_cases r2 : rg v2 3
    · rw [bR_t r2, if_neg one0, if_neg one0]
      obtain ⟨j, hj, rfl⟩ := rg_of (by decide) r1
      rw [if_pos (inB_t hj (by decide)), cl (by omega), shd_v]
      rcases hSh j hj with ⟨q1, q2, q3⟩ | ⟨z, l, q1, q2, q3, q4, q5, q6, q7⟩
      · rw [far_n (by rw [u8 _ (by omega)]; exact q1), bd1_some, if_neg one0, cbt_n hj q3, bd2_some, if_neg (by decide)]
        exact ⟨_, _, _, rfl, rfl, h.flt2 0 1⟩
      · have q3' : mu A 0 8 0 (29 + 2 * j) 1 = nI l := by rw [u8 _ (by omega)]; exact q3
        have q4' : mu A 0 8 0 (29 + 2 * j) 2 = nI z := by rw [u8 _ (by omega)]; exact q4
        by_cases el : nI l = v2
        · subst el
          by_cases x4 : 0 ≤ v4.toInt
          · have x4' : (0 : Int32) ≤ v4 := Int32.le_iff_toInt_le.mpr x4
            obtain ⟨g1, g2⟩ := far_s q2 q3' q1 q4' v3 x4'
            obtain ⟨b1, b2⟩ := cbt_s (v3 := v3) hj q1 q5 q6 x4
            by_cases x : fcP v3 v4 z
            · rw [g1 x, bd1_some, if_pos rfl, b1 x, bd2_some, if_pos (show (0 : Int32) ≤ 0 by decide)]
              unfold fcP at x
              obtain ⟨i, hi, rfl⟩ : ∃ i : Nat, i < z + 1 ∧ v3 = nI i := rg_of (by omega) ⟨by omega, by omega⟩
              obtain ⟨m, hm, rfl⟩ : ∃ m : Nat, m < z + 1 ∧ v4 = nI m := rg_of (by omega) ⟨by omega, by omega⟩
              rw [nI_toInt (show i < 2 ^ 31 by omega), nI_toInt (show m < 2 ^ 31 by omega)] at x
              have him : i + m ≤ z := by omega
              have i60 : (60 : Int32) * nI j + nI i = nI (60 * j + i) := by rw [show (60 : Int32) = nI 60 from rfl, pk_mul, nI_add]
              let t : Nat → Int32 := fun y => M 23 (60 * j + i + y)
              have htM : ∀ y, y < m → M 23 (60 * j + i + y) = t y := fun _ _ => rfl
              have htA : ∀ y, y < m → mu A 0 8 0 (29 + 2 * j + 1) (i + y) = t y := fun y hy => by
                rw [u8 _ (by omega), show 29 + 2 * j + 1 = 30 + 2 * j by omega]
                show _ = M 23 (60 * j + i + y)
                rw [Nat.add_assoc]
                exact q7 (i + y) (by omega)
              have hcr : 50 ≤ (t 1).toInt ∧ (t 1).toInt ≤ 54 → dg (t 1) < 7 ∧ t 1 = nI (48 + dg (t 1)) := fun hr => by
                obtain ⟨d1, d2⟩ := dg_s (x := t 1) ⟨by omega, by omega⟩
                exact ⟨by omega, Int32.toInt_inj.mp (by rw [nI_toInt (by omega), d2]; omega)⟩
              obtain ⟨ff1, ff2⟩ := first_s (c := dg (t 1)) q1 him q4' htA (fun _ hr => hcr hr)
              obtain ⟨r, N1, k1, k2, k3⟩ := rtown_s (s := 60 * j + i) (m := m) (by omega) htM
              rw [i60, k1, bd2_some]
              rcases k3 with ⟨e, P, p1, p2, p3, p4, p5⟩ | ⟨e, hc, q, e1, e5, em, hF⟩
              · subst e
                have hff : d_X7_firstFault (29 + 2 * j) (nI i) (nI m) (mu A 0 8 0) = some (nI P) := by
                  by_cases y : P < m
                  · exact ff1 P y p3 (p4 y)
                  · have e : P = m := by omega
                    subst e
                    rw [ff2 p3, whole_s q1 him q4' htA (fun h2 => by
                      have g := p3 1 (by omega)
                      unfold gB at g
                      rw [if_neg (by decide), if_pos rfl, decide_eq_true_iff] at g
                      exact hcr g), bd1_some, bI_f (p5 rfl), if_pos rfl]
                rw [hff, bd1_some, if_neg (nI_n9 (by omega)), if_pos rfl]
                unfold d_X9_refused
                rw [lm_eq, bd2_some, p1]
                refine ⟨_, _, _, rfl, rfl, h.own (fun q _ _ _ _ _ _ => u8 q (by omega)) (fun q hq => ?_) (fun y hy => ?_) ?_ ?_ ?_⟩
                · rw [mu_ne (by unfold Pq at hq; omega)]; exact k2.1 q (by unfold Pq at hq; omega) (by unfold Pq at hq; omega)
                · rw [mu_eq, upd_n (by omega)]; exact k2.2 y (by omega) (by omega) (by omega)
                · rw [mu_eq, upd_n (by decide), mu_eq, upd_n (by decide), k2.2 3 (by decide) (by decide) (by decide)]; exact h6
                · rw [mu_eq, upd_n (by decide), mu_eq, upd_n (by decide), k2.2 38 (by decide) (by decide) (by decide)]; exact h7
                · rw [mu_eq, upd_s, mu_eq, upd_s]
              · subst e
                have hX := hF.tx ⟨hc.1, hc.2.1⟩ hc.2.2 e1 e5 em
                have hT := hX.ok
                have hff : d_X7_firstFault (29 + 2 * j) (nI i) (nI m) (mu A 0 8 0) = some (-9) := by
                  have hh := hl_le (dg (t 1)) (by omega)
                  rw [ff2 (fun y hy => hF.2.2.1 y (by omega)), whole_s q1 him q4' htA (fun _ => ⟨by omega, hc.2.2⟩), bd1_some, bI_t ⟨by omega, by omega, by omega⟩, if_neg one0]
                obtain ⟨A1, a1, a2, a3, a4, a5⟩ := take_s hX (show 28 < 29 + 2 * j by omega) q1 him q4' htA
                rw [hff, bd1_some, if_pos rfl, a1, bd1_some, lm_eq, lm_eq, if_neg one0]
                obtain ⟨⟨h13, h14, -, -, -⟩, -, -, h8c, h9c⟩ := hF
                let N2 : Mem := mu (mu (mu (mu N1 0 1 (nI (dg (t 1)))) 0 2 (nI q)) 0 3 0) 0 4 0
                have hN2 : ∀ x, x ≠ 0 → N2 x = N1 x := fun x hx => by
                  show mu (mu (mu (mu N1 0 1 (nI (dg (t 1)))) 0 2 (nI q)) 0 3 0) 0 4 0 x = _
                  rw [mu_ne hx, mu_ne hx, mu_ne hx, mu_ne hx]
                have hN0 : N2 0 1 = nI (dg (t 1)) ∧ N2 0 2 = nI q ∧ N2 0 3 = 0 ∧ N2 0 4 = 0 ∧ N2 0 38 = M 0 38 := by
                  show mu (mu (mu (mu N1 0 1 (nI (dg (t 1)))) 0 2 (nI q)) 0 3 0) 0 4 0 0 1 = _ ∧ mu (mu (mu (mu N1 0 1 (nI (dg (t 1)))) 0 2 (nI q)) 0 3 0) 0 4 0 0 2 = _ ∧ mu (mu (mu (mu N1 0 1 (nI (dg (t 1)))) 0 2 (nI q)) 0 3 0) 0 4 0 0 3 = _ ∧ mu (mu (mu (mu N1 0 1 (nI (dg (t 1)))) 0 2 (nI q)) 0 3 0) 0 4 0 0 4 = _ ∧ mu (mu (mu (mu N1 0 1 (nI (dg (t 1)))) 0 2 (nI q)) 0 3 0) 0 4 0 0 38 = _
                  simp only [mu_eq]
                  refine ⟨?_, ?_, ?_, ?_, ?_⟩
                  · simp [upd_ap]
                  · simp [upd_ap]
                  · simp [upd_ap]
                  · simp [upd_ap]
                  · simp only [upd_ap]
                    exact k2.2 38 (by decide) (by decide) (by decide)
                obtain ⟨N3, c1, c2, c3⟩ := cp36 (fun (M17 : Mem) => (dX9_town_138l (fun (M24 : Mem) => (lm (mu M24 0 30 (0 : Int32)) (fun (M25 : Mem) => (bd1 (d_X9_measures M25) (fun (M26 : Mem) => (bd2 (d_X9_refused (M26 0 2) M26) (fun (r27 : Int32) (M28 : Mem) => (some (r27, M28))))))))) FU (0 : Int32) M17)) N2 36 0 FU N2 (by omega) (by decide) (fun _ _ => rfl) (fun y hy => absurd hy (Nat.not_lt_zero _))
                obtain ⟨N4, d1, d2, d3⟩ := cpF (show q ≤ 6 by omega) (fun (M24 : Mem) => (lm (mu M24 0 30 (0 : Int32)) (fun (M25 : Mem) => (bd1 (d_X9_measures M25) (fun (M26 : Mem) => (bd2 (d_X9_refused (M26 0 2) M26) (fun (r27 : Int32) (M28 : Mem) => (some (r27, M28))))))))) N3 (by rw [c2 0 (by decide)]; exact hN0.2.1) q 0 FU N3 (by omega) (show q < 2000 by omega) (fun _ _ => rfl) (fun y hy => absurd hy (Nat.not_lt_zero _))
                have f0 : ∀ y, y ≠ 30 → mu N4 0 30 0 0 y = N2 0 y := fun y hy => by rw [mu_eq, upd_n hy, d2 0 (by decide), c2 0 (by decide)]
                obtain ⟨N5, m1, m2, m3⟩ := measures_s (M := mu N4 0 30 0) (w := wT t (dg (t 1))) hc.2.1 (wT_le t _) (by rw [f0 1 (by decide)]; exact hN0.1) (fun x y hx hy => by
                  rw [mu_ne (by decide), d2 1 (by decide), c3 _ (by omega), hN2 8 (by decide)]
                  exact h8c x y hx hy)
                have z0 : ∀ y, y ≠ 30 → N5 0 y = N2 0 y := fun y hy => by rw [m3 0 (by decide)]; exact f0 y hy
                have zq : ∀ x, x ≠ 0 → x ≠ 1 → x ≠ 2 → x < 3 ∨ 7 < x → N5 x = N1 x := fun x x0 x1 x2 x3 => by rw [m3 x x2, mu_ne x0, d2 x x3, c2 x x1, hN2 x x0]
                have hMd : (bd2 (d_X9_refused (N5 0 2) N5) (fun (r27 : Int32) (M28 : Mem) => (some (r27, M28)))) = some (nI q, mu N5 0 0 0) := by
                  unfold d_X9_refused
                  rw [lm_eq, bd2_some, z0 2 (by decide), hN0.2.1]
                have hMM : (lm (mu N1 0 1 (N1 0 13)) (fun (M11 : Mem) => (lm (mu M11 0 2 (M11 0 14)) (fun (M12 : Mem) => (lm (mu M12 0 3 (0 : Int32)) (fun (M13 : Mem) => (lm (mu M13 0 4 (0 : Int32)) (fun (M14 : Mem) => (dX9_town_108l (fun (M17 : Mem) => (dX9_town_138l (fun (M24 : Mem) => (lm (mu M24 0 30 (0 : Int32)) (fun (M25 : Mem) => (bd1 (d_X9_measures M25) (fun (M26 : Mem) => (bd2 (d_X9_refused (M26 0 2) M26) (fun (r27 : Int32) (M28 : Mem) => (some (r27, M28))))))))) FU (0 : Int32) M17)) FU (0 : Int32) M14))))))))) = some (nI q, mu N5 0 0 0) := by
                  have e14 : mu N1 0 1 (nI (dg (t 1))) 0 14 = nI q := by rw [mu_eq, upd_n (by decide)]; exact h14
                  rw [lm_eq, h13, lm_eq, e14, lm_eq, lm_eq]
                  refine c1.trans (d1.trans ?_)
                  rw [lm_eq, m1, bd1_some]
                  exact hMd
                have y6 : mu (mu A1 25 3 0) 0 6 0 6 1 = nI q := by rw [mu_ne (by decide), mu_ne (by decide)]; exact a3.1
                have aq : ∀ x, x ≠ 0 → x ≠ 25 → mu (mu A1 25 3 0) 0 6 0 x = A1 x := fun x x0 x1 => by rw [mu_ne x0, mu_ne x1]
                refine ⟨nI q, mu (mu A1 25 3 0) 0 6 0, mu N5 0 0 0, by rw [y6], hMM, ⟨⟨dg (t 1), q, kdT t (dg (t 1)), frT t (dg (t 1)), toT t (dg (t 1)), cvT t (dg (t 1)), wT t (dg (t 1)), fun _ => 0, 0, hT, Or.inr ⟨hc.1, e1⟩, ?_, ?_, ?_, ?_, ?_, ?_, Nat.two_pow_pos q, fun _ _ => Nat.zero_le _, 0, fun _ => 0, fun _ => 0, fun _ => 0, Nat.zero_le _, ?_, ?_, fun y hy => absurd hy (Nat.not_lt_zero _)⟩, ?_, ?_, ?_, ?_⟩⟩
                · exact a2.f (fun x hx => aq x (by omega) (by omega))
                · exact ⟨by rw [aq 6 (by decide) (by decide)]; exact a3.1, fun y hy => by rw [aq _ (by rw [ft6]; omega) (by rw [ft6]; omega)]; exact a3.2 y hy⟩
                · exact fun y hy => by rw [aq _ (by rw [ft6]; omega) (by rw [ft6]; omega)]; exact a4 y hy
                · refine ⟨by rw [mu_eq, upd_n (by decide), z0 1 (by decide)]; exact hN0.1, fun x y hx hy => ?_, fun x y hx hy => ?_⟩
                  · rw [mu_ne (by decide), m3 1 (by decide), mu_ne (by decide), d2 1 (by decide), c3 _ (by omega), hN2 8 (by decide)]
                    exact h8c x y hx hy
                  · rw [mu_ne (by decide)]; exact m2 x y hx hy
                · refine ⟨by rw [mu_eq, upd_n (by decide), z0 2 (by decide)]; exact hN0.2.1, fun y hy => ?_⟩
                  obtain ⟨w1, w2, w3, w4, w5⟩ := d3 y hy
                  obtain ⟨x1, x2, x3, x4⟩ := h9c y hy
                  have nn : ∀ x, x ≠ 0 → x ≠ 2 → mu N5 0 0 0 x = N4 x := fun x x0 x2 => by rw [mu_ne x0, m3 x x2, mu_ne x0]
                  rw [nn 3 (by decide) (by decide), nn 4 (by decide) (by decide), nn 5 (by decide) (by decide), nn 6 (by decide) (by decide), w1, w2, w3, w4, c2 9 (by decide), c2 10 (by decide), c2 11 (by decide), c2 12 (by decide), hN2 9 (by decide), hN2 10 (by decide), hN2 11 (by decide), hN2 12 (by decide)]
                  exact ⟨x1, x2, x3, x4⟩
                · refine ⟨by rw [mu_eq, upd_n (by decide), z0 4 (by decide)]; exact hN0.2.2.2.1, fun y hy => ?_⟩
                  rw [mu_ne (by decide), m3 7 (by decide), mu_ne (by decide)]
                  exact (d3 y hy).2.2.2.2
                · rw [mu_ne (by decide), mu_eq, upd_s]; rfl
                · rw [mu_eq, upd_n (by decide), m3 0 (by decide), mu_eq, upd_s]; rfl
                · exact hSh.cong (fun x x1 x2 => by rw [aq x (by omega) (by omega), a5 x (by omega)]; exact u8 x (by omega)) (fun x x1 x2 => by rw [mu_ne (by omega), zq x (by omega) (by omega) (by omega) (by omega)]; exact k2.1 x (by omega) (by omega))
                · rw [mu_eq, upd_s, mu_eq, upd_n (by decide), z0 3 (by decide)]; exact hN0.2.2.1.symm
                · rw [mu_eq, upd_n (by decide), mu_ne (by decide), a5 0 (by omega), mu_eq, upd_n (by decide), mu_eq, upd_n (by decide), z0 38 (by decide), hN0.2.2.2.2]; exact h7
                · rw [mu_eq, upd_n (by decide), mu_ne (by decide), a5 0 (by omega), mu_eq, upd_s, mu_eq, upd_s]
            · rw [g2 x, bd1_some, if_neg (by decide), b2 x, bd2_some, if_neg (by decide)]
              exact ⟨_, _, _, rfl, rfl, h.flt2 0 3⟩
          · have x4' : ¬ (0 : Int32) ≤ v4 := fun q => x4 (Int32.le_iff_toInt_le.mp q)
            rw [far_z q2 q3' v3 x4', bd1_some, if_neg (by decide), cbt_z hj q1 q5 q6 x4, bd2_some, if_neg (by decide)]
            exact ⟨_, _, _, rfl, rfl, h.flt2 0 4⟩
        · rw [far_l q2 q3' el, bd1_some, if_neg (by decide), cbt_l hj q1 q5 q6 el, bd2_some, if_neg (by decide)]
          exact ⟨_, _, _, rfl, rfl, h.flt2 0 2⟩
    · rw [bR_f r2, if_pos rfl, if_pos rfl]
      exact done _ _ _ rfl rfl
  · rw [bR_f r1, nb_f r1, if_pos rfl, if_neg one0]
    exact done _ _ _ rfl rfl
