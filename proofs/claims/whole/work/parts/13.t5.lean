/-! town: the reference reads footmen -/
def SS (c k P : Nat) (M N0 N : Mem) : Prop := N 0 13 = nI c ∧ N 0 14 = nI k ∧ N 0 12 = nI P ∧ RF M N ∧ ∀ q, q ≠ 0 → N q = N0 q
theorem SS.p {c k P Q : Nat} {M N0 N : Mem} (h : SS c k P M N0 N) : SS c k Q M N0 (mu N 0 12 (nI Q)) := ⟨by rw [mu_eq, upd_n (by decide)]; exact h.1, by rw [mu_eq, upd_n (by decide)]; exact h.2.1, by rw [mu_eq, upd_s], h.2.2.2.1.p (by omega) _, fun q hq => by rw [mu_ne hq]; exact h.2.2.2.2 q hq⟩
theorem j143 {c k P : Nat} {M N0 N : Mem} (hk : k < 6) (h : SS c k P M N0 N) (v4 v5 v6 s0 : Int32) : ∃ N1, dX9_readsFootman_143j v4 v5 v6 s0 (nI k) N = some (if v6 < 0 then 0 else 1, N1) ∧ RF M N1 ∧ N1 0 12 = nI P ∧ N1 0 13 = nI c ∧ N1 0 14 = nI (k + 1) ∧ N1 8 = N0 8 ∧ N1 9 = upd (N0 9) k s0 ∧ N1 10 = upd (N0 10) k v4 ∧ N1 11 = upd (N0 11) k v5 ∧ N1 12 = upd (N0 12) k v6 := by
  obtain ⟨h13, h14, h12, hF, hq⟩ := h
  have b6 : inB (nI k) 6 = true := inB_t hk (by decide)
  have f1 : mu N 9 k s0 0 14 = nI k := by rw [mu_ne (by decide)]; exact h14
  have f2 : mu (mu N 9 k s0) 10 k v4 0 14 = nI k := by rw [mu_ne (by decide)]; exact f1
  have f3 : mu (mu (mu N 9 k s0) 10 k v4) 11 k v5 0 14 = nI k := by rw [mu_ne (by decide)]; exact f2
  have f4 : mu (mu (mu (mu N 9 k s0) 10 k v4) 11 k v5) 12 k v6 0 14 = nI k := by rw [mu_ne (by decide)]; exact f3
  unfold dX9_readsFootman_143j
  rw [if_pos b6, cl (by omega), lm_eq, f1, if_pos b6, cl (by omega), lm_eq, f2, if_pos b6, cl (by omega), lm_eq, f3, if_pos b6, cl (by omega), lm_eq, f4, lm_eq, nI_1]
  refine ⟨mu (mu (mu (mu (mu N 9 k s0) 10 k v4) 11 k v5) 12 k v6) 0 14 (nI (k + 1)), by split <;> rfl, (((((hF.c (by omega) _).c (by omega) _).c (by omega) _).c (by omega) _).p (by omega) _), ?_, ?_, by rw [mu_eq, upd_s], ?_, ?_, ?_, ?_, ?_⟩
  · rw [mu_eq, upd_n (by decide), mu_ne (by decide), mu_ne (by decide), mu_ne (by decide), mu_ne (by decide)]; exact h12
  · rw [mu_eq, upd_n (by decide), mu_ne (by decide), mu_ne (by decide), mu_ne (by decide), mu_ne (by decide)]; exact h13
  · rw [mu_ne (by decide), mu_ne (by decide), mu_ne (by decide), mu_ne (by decide), mu_ne (by decide)]; exact hq 8 (by decide)
  · rw [mu_ne (by decide), mu_ne (by decide), mu_ne (by decide), mu_ne (by decide), mu_eq, hq 9 (by decide)]
  · rw [mu_ne (by decide), mu_ne (by decide), mu_ne (by decide), mu_eq, mu_ne (by decide), hq 10 (by decide)]
  · rw [mu_ne (by decide), mu_ne (by decide), mu_eq, mu_ne (by decide), mu_ne (by decide), hq 11 (by decide)]
  · rw [mu_ne (by decide), mu_eq, mu_ne (by decide), mu_ne (by decide), mu_ne (by decide), hq 12 (by decide)]
theorem gB_f {t : Nat → Int32} {c k r : Nat} (hc : c < 7) (hk : k < 5) (hr : r < 5) : gB t c (hl c + 5 * k + r) = tf (t (hl c + 5 * k + r)) r c := by
  have h2 := (hl_le c hc).1
  unfold gB
  rw [if_neg (by omega), if_neg (by omega), if_neg (by omega), decide_eq_true (by omega), Bool.true_and, show (hl c + 5 * k + r - hl c) % 5 = r by omega]
def FT (t : Nat → Int32) (c m k : Nat) (M N : Mem) : Prop := SS c k (hl c + 5 * k) M N N ∧ hl c + 5 * k ≤ m ∧ (∀ y, y < hl c + 5 * k → gB t c y = true) ∧ (∀ x y, x < c → y < c → N 8 (6 * x + y) = nI (wT t c x y)) ∧ ∀ y, y < k → N 9 y = nI (kdT t c y) ∧ N 10 y = nI (frT t c y) ∧ N 11 y = nI (toT t c y) ∧ N 12 y = nI (cvT t c y)
theorem fg2 {s m c k P : Nat} {t : Nat → Int32} {M N0 N : Mem} (hs : s + m ≤ 240) (ht : ∀ y, y < m → M 23 (s + y) = t y) (h : SS c k P M N0 N) (hP : P ≤ m) {v3 lo hi : Int32} (h0 : 0 ≤ lo.toInt) (h9 : hi.toInt ≤ 9) : ((0 ≤ v3 ∧ P < m ∧ 48 + lo.toInt ≤ (t P).toInt ∧ (t P).toInt ≤ 48 + hi.toInt) → d_X9_figure (nI s) (nI m) v3 lo hi N = some (nI (dg (t P)), mu N 0 12 (nI (P + 1)))) ∧ (¬ (0 ≤ v3 ∧ P < m ∧ 48 + lo.toInt ≤ (t P).toInt ∧ (t P).toInt ≤ 48 + hi.toInt) → d_X9_figure (nI s) (nI m) v3 lo hi N = some (-9, N)) := by
  obtain ⟨h13, h14, h12, hF, hq⟩ := h
  exact ⟨fun q => fig_ok hs ht hF h12 q.2.1 q.1 h0 h9 q.2.2, fun q => fig_no hs ht hF h12 hP h0 h9 (fun a b z => q ⟨a, b, z⟩)⟩
theorem rfoot_s {s m c k : Nat} {t : Nat → Int32} {M N : Mem} (hs : s + m ≤ 240) (ht : ∀ y, y < m → M 23 (s + y) = t y) (hc : 2 ≤ c ∧ c ≤ 6) (hk : k ≤ 5) (h : FT t c m k M N) (hm : k = 0 ∨ hl c + 5 * k < m) : ∃ r N1, d_X9_readsFootman (nI s) (nI m) N = some (r, N1) ∧ RF M N1 ∧ ((r = 0 ∧ ∃ P, N1 0 12 = nI P ∧ FB t c m P) ∨ (r = 1 ∧ k + 1 ≤ 5 ∧ FT t c m (k + 1) M N1)) := by
  obtain ⟨hSS, hPm, hg, h8, h9⟩ := h
  obtain ⟨h13, h14, h12, hF, -⟩ := id hSS
  have h2 := hl_le c (by omega)
  have hgb : ∀ r, r < 5 → k < 5 → gB t c (hl c + 5 * k + r) = tf (t (hl c + 5 * k + r)) r c := fun r hr hk5 => gB_f (by omega) hk5 hr
  unfold d_X9_readsFootman
  rw [h14]
  by_cases k5 : k = 5
  · subst k5
    rw [if_pos (show nI 5 = (5 : Int32) from rfl)]
    refine ⟨0, N, rfl, hF, Or.inl ⟨rfl, hl c + 5 * 5, h12, hPm, hg, fun y => ?_, fun y => by omega⟩⟩
    unfold gB
    rw [if_neg (by omega), if_neg (by omega), if_neg (by omega), decide_eq_false (by omega), Bool.false_and]
  · have k5' : k < 5 := by omega
    have n5 : ¬ nI k = (5 : Int32) := fun q => k5 ((nI_eq (by omega) (by decide)).mp (q.trans (show (5 : Int32) = nI 5 from rfl)))
    have t0 := hgb 0 (by decide) k5'
    have t1 := hgb 1 (by decide) k5'
    have t2 := hgb 2 (by decide) k5'
    have t3 := hgb 3 (by decide) k5'
    have t4 := hgb 4 (by decide) k5'
    rw [Nat.add_zero] at t0
    have e0 : tf (t (hl c + 5 * k)) 0 c = decide (t (hl c + 5 * k) = 59) := rfl
    have e1 : tf (t (hl c + 5 * k + 1)) 1 c = decide (t (hl c + 5 * k + 1) = 98 ∨ t (hl c + 5 * k + 1) = 109 ∨ t (hl c + 5 * k + 1) = 112) := rfl
    have e2 : tf (t (hl c + 5 * k + 2)) 2 c = decide (48 ≤ (t (hl c + 5 * k + 2)).toInt ∧ (t (hl c + 5 * k + 2)).toInt < 48 + (c : Int)) := rfl
    have e3 : tf (t (hl c + 5 * k + 3)) 3 c = decide (48 ≤ (t (hl c + 5 * k + 3)).toInt ∧ (t (hl c + 5 * k + 3)).toInt < 48 + (c : Int)) := rfl
    have e4 : tf (t (hl c + 5 * k + 4)) 4 c = decide (49 ≤ (t (hl c + 5 * k + 4)).toInt ∧ (t (hl c + 5 * k + 4)).toInt ≤ 57) := rfl
    rw [if_neg n5, code_s hs ht hF h12 hPm, bd1_some]
    by_cases q0 : hl c + 5 * k < m ∧ t (hl c + 5 * k) = 59
    · rw [if_pos q0.1, if_pos q0.2, lm_eq, h12, nI_1]
      have S4 : SS c k (hl c + 5 * k + 1) M N (mu N 0 12 (nI (hl c + 5 * k + 1))) := hSS.p
      have G1 : ∀ y, y < hl c + 5 * k + 1 → gB t c y = true := fun y hy => by
        by_cases e : y = hl c + 5 * k
        · rw [e, t0, e0]; exact decide_eq_true q0.2
        · exact hg y (by omega)
      rw [code_s hs ht S4.2.2.2.1 S4.2.2.1 (show hl c + 5 * k + 1 ≤ m by omega), bd1_some]
      by_cases q1 : hl c + 5 * k + 1 < m ∧ (t (hl c + 5 * k + 1) = 98 ∨ t (hl c + 5 * k + 1) = 109 ∨ t (hl c + 5 * k + 1) = 112)
      · have G2 : ∀ y, y < hl c + 5 * k + 2 → gB t c y = true := fun y hy => by
          by_cases e : y = hl c + 5 * k + 1
          · rw [e, t1, e1]; exact decide_eq_true q1.2
          · exact G1 y (by omega)
        have z0 : (0 : Int32).toInt = 0 := by decide
        have zz1 : (1 : Int32).toInt = 1 := by decide
        have z9 : (9 : Int32).toInt = 9 := by decide
        have zc : (nI (c - 1)).toInt = (c : Int) - 1 := by rw [nI_toInt (by omega)]; omega
        have cs : nI c - (1 : Int32) = nI (c - 1) := pk_sub (a := c) (b := 1) (by omega)
        have main : ∃ r N1, dX9_readsFootman_58j (nI s) (nI m) (t (hl c + 5 * k + 1)) (mu N 0 12 (nI (hl c + 5 * k + 1))) = some (r, N1) ∧ RF M N1 ∧ ((r = 0 ∧ ∃ P, N1 0 12 = nI P ∧ FB t c m P) ∨ (r = 1 ∧ k + 1 ≤ 5 ∧ FT t c m (k + 1) M N1)) := by
          have S7 : SS c k (hl c + 5 * k + 2) M N (mu (mu N 0 12 (nI (hl c + 5 * k + 1))) 0 12 (nI (hl c + 5 * k + 2))) := S4.p
          have fin : ∀ (a b d : Int32) (N13 : Mem) (P : Nat), SS c k P M N N13 → ∃ N1, (if t (hl c + 5 * k + 1) = 98 then dX9_readsFootman_143j a b d 0 (N13 0 14) N13 else if t (hl c + 5 * k + 1) = 109 then dX9_readsFootman_143j a b d 1 (N13 0 14) N13 else dX9_readsFootman_143j a b d 2 (N13 0 14) N13) = some (if d < 0 then 0 else 1, N1) ∧ RF M N1 ∧ N1 0 12 = nI P ∧ N1 0 13 = nI c ∧ N1 0 14 = nI (k + 1) ∧ N1 8 = N 8 ∧ N1 9 = upd (N 9) k (nI (kdT t c k)) ∧ N1 10 = upd (N 10) k a ∧ N1 11 = upd (N 11) k b ∧ N1 12 = upd (N 12) k d := by
            intro a b d N13 P hS
            rw [hS.2.1]
            unfold kdT
            by_cases y1 : t (hl c + 5 * k + 1) = 98
            · rw [if_pos y1, if_pos y1]; exact j143 (by omega) hS a b d 0
            · rw [if_neg y1, if_neg y1]
              by_cases y2 : t (hl c + 5 * k + 1) = 109
              · rw [if_pos y2, if_pos y2]; exact j143 (by omega) hS a b d 1
              · rw [if_neg y2, if_neg y2]; exact j143 (by omega) hS a b d 2
          have bad : ∀ (a b : Int32) (N13 : Mem) (P : Nat), SS c k P M N N13 → FB t c m P → ∃ r N1, (if t (hl c + 5 * k + 1) = 98 then dX9_readsFootman_143j a b (-9) 0 (N13 0 14) N13 else if t (hl c + 5 * k + 1) = 109 then dX9_readsFootman_143j a b (-9) 1 (N13 0 14) N13 else dX9_readsFootman_143j a b (-9) 2 (N13 0 14) N13) = some (r, N1) ∧ RF M N1 ∧ ((r = 0 ∧ ∃ P, N1 0 12 = nI P ∧ FB t c m P) ∨ (r = 1 ∧ k + 1 ≤ 5 ∧ FT t c m (k + 1) M N1)) := by
            intro a b N13 P hS hB
            obtain ⟨N1, k1, k2, k3, -⟩ := fin a b (-9) N13 P hS
            exact ⟨0, N1, k1, k2, Or.inl ⟨rfl, P, k3, hB⟩⟩
          unfold dX9_readsFootman_58j
          rw [lm_eq, S4.2.2.1, nI_1, show hl c + 5 * k + 1 + 1 = hl c + 5 * k + 2 by omega, S7.1, cs]
          obtain ⟨a1, a2⟩ := fg2 hs ht S7 (show hl c + 5 * k + 2 ≤ m by omega) (v3 := 0) (lo := 0) (hi := nI (c - 1)) (by decide) (by rw [zc]; omega)
          rw [z0, zc] at a1 a2
          by_cases r2 : hl c + 5 * k + 2 < m ∧ 48 ≤ (t (hl c + 5 * k + 2)).toInt ∧ (t (hl c + 5 * k + 2)).toInt < 48 + (c : Int)
          · rw [a1 ⟨by decide, r2.1, by omega, by omega⟩, bd2_some]
            have S9 : SS c k (hl c + 5 * k + 3) M N (mu (mu (mu N 0 12 (nI (hl c + 5 * k + 1))) 0 12 (nI (hl c + 5 * k + 2))) 0 12 (nI (hl c + 5 * k + 2 + 1))) := S7.p
            have G3 : ∀ y, y < hl c + 5 * k + 3 → gB t c y = true := fun y hy => by
              by_cases e : y = hl c + 5 * k + 2
              · rw [e, t2, e2]; exact decide_eq_true r2.2
              · exact G2 y (by omega)
            obtain ⟨b1, b2⟩ := fg2 hs ht S9 (show hl c + 5 * k + 3 ≤ m by omega) (v3 := nI (dg (t (hl c + 5 * k + 2)))) (lo := 0) (hi := nI (c - 1)) (by decide) (by rw [zc]; omega)
            rw [z0, zc] at b1 b2
            rw [S9.1, cs]
            have d2 := dg_le (t (hl c + 5 * k + 2))
            by_cases r3 : hl c + 5 * k + 3 < m ∧ 48 ≤ (t (hl c + 5 * k + 3)).toInt ∧ (t (hl c + 5 * k + 3)).toInt < 48 + (c : Int)
            · rw [b1 ⟨nI_le (a := 0) (Nat.zero_le _) (by omega), r3.1, by omega, by omega⟩, bd2_some]
              have S11 : SS c k (hl c + 5 * k + 4) M N (mu (mu (mu (mu N 0 12 (nI (hl c + 5 * k + 1))) 0 12 (nI (hl c + 5 * k + 2))) 0 12 (nI (hl c + 5 * k + 2 + 1))) 0 12 (nI (hl c + 5 * k + 3 + 1))) := S9.p
              have G4 : ∀ y, y < hl c + 5 * k + 4 → gB t c y = true := fun y hy => by
                by_cases e : y = hl c + 5 * k + 3
                · rw [e, t3, e3]; exact decide_eq_true r3.2
                · exact G3 y (by omega)
              obtain ⟨c1, c2⟩ := fg2 hs ht S11 (show hl c + 5 * k + 4 ≤ m by omega) (v3 := nI (dg (t (hl c + 5 * k + 3)))) (lo := 1) (hi := 9) (by decide) (by decide)
              rw [zz1, z9] at c1 c2
              have d3 := dg_le (t (hl c + 5 * k + 3))
              by_cases r4 : hl c + 5 * k + 4 < m ∧ 49 ≤ (t (hl c + 5 * k + 4)).toInt ∧ (t (hl c + 5 * k + 4)).toInt ≤ 57
              · rw [c1 ⟨nI_le (a := 0) (Nat.zero_le _) (by omega), r4.1, by omega, by omega⟩, bd2_some]
                have S13 : SS c k (hl c + 5 * k + 5) M N (mu (mu (mu (mu (mu N 0 12 (nI (hl c + 5 * k + 1))) 0 12 (nI (hl c + 5 * k + 2))) 0 12 (nI (hl c + 5 * k + 2 + 1))) 0 12 (nI (hl c + 5 * k + 3 + 1))) 0 12 (nI (hl c + 5 * k + 4 + 1))) := S11.p
                have d4 := dg_le (t (hl c + 5 * k + 4))
                obtain ⟨N1, k1, k2, k3, k4, k5, k6, k7, k8, k9, k10⟩ := fin (nI (dg (t (hl c + 5 * k + 2)))) (nI (dg (t (hl c + 5 * k + 3)))) (nI (dg (t (hl c + 5 * k + 4)))) _ _ S13
                rw [if_neg (show ¬ nI (dg (t (hl c + 5 * k + 4))) < (0 : Int32) from nI_nlt (b := 0) (Nat.zero_le _) (by omega))] at k1
                refine ⟨1, N1, k1, k2, Or.inr ⟨rfl, by omega, ⟨k4, k5, by rw [k3, show hl c + 5 * (k + 1) = hl c + 5 * k + 5 by omega], k2, fun _ _ => rfl⟩, by omega, fun y hy => ?_, fun x y hx hy => by rw [k6]; exact h8 x y hx hy, fun y hy => ?_⟩⟩
                · by_cases e : y = hl c + 5 * k + 4
                  · rw [e, t4, e4]; exact decide_eq_true r4.2
                  · exact G4 y (by omega)
                · rw [k7, k8, k9, k10]
                  by_cases e : y = k
                  · subst e
                    rw [upd_s, upd_s, upd_s, upd_s]
                    exact ⟨rfl, rfl, rfl, rfl⟩
                  · rw [upd_n e, upd_n e, upd_n e, upd_n e]
                    exact h9 y (by omega)
              · rw [c2 (fun z => r4 ⟨z.2.1, by omega, by omega⟩), bd2_some]
                refine bad _ _ _ _ S11 ⟨by omega, G4, fun y => ?_, fun y => by omega⟩
                rw [t4, e4]; exact decide_eq_false (fun z => r4 ⟨y, z⟩)
            · rw [b2 (fun z => r3 ⟨z.2.1, by omega, by omega⟩), bd2_some]
              obtain ⟨c1, c2⟩ := fg2 hs ht S9 (show hl c + 5 * k + 3 ≤ m by omega) (v3 := -9) (lo := 1) (hi := 9) (by decide) (by decide)
              rw [c2 (fun z => absurd z.1 (by decide)), bd2_some]
              refine bad _ _ _ _ S9 ⟨by omega, G3, fun y => ?_, fun y => by omega⟩
              rw [t3, e3]; exact decide_eq_false (fun z => r3 ⟨y, z⟩)
          · rw [a2 (fun z => r2 ⟨z.2.1, by omega, by omega⟩), bd2_some, S7.1, cs]
            obtain ⟨b1, b2⟩ := fg2 hs ht S7 (show hl c + 5 * k + 2 ≤ m by omega) (v3 := -9) (lo := 0) (hi := nI (c - 1)) (by decide) (by rw [zc]; omega)
            rw [b2 (fun z => absurd z.1 (by decide)), bd2_some]
            obtain ⟨c1, c2⟩ := fg2 hs ht S7 (show hl c + 5 * k + 2 ≤ m by omega) (v3 := -9) (lo := 1) (hi := 9) (by decide) (by decide)
            rw [c2 (fun z => absurd z.1 (by decide)), bd2_some]
            refine bad _ _ _ _ S7 ⟨by omega, G2, fun y => ?_, fun y => by omega⟩
            rw [t2, e2]; exact decide_eq_false (fun z => r2 ⟨y, z⟩)
        rw [if_pos q1.1]
        by_cases y1 : t (hl c + 5 * k + 1) = 98
        · rw [if_pos y1]; exact main
        · rw [if_neg y1]
          by_cases y2 : t (hl c + 5 * k + 1) = 109
          · rw [if_pos y2]; exact main
          · rw [if_neg y2, if_pos (by rcases q1.2 with y | y | y; exact absurd y y1; exact absurd y y2; exact y)]; exact main
      · have nx : ∀ x : Int32, x = (if hl c + 5 * k + 1 < m then t (hl c + 5 * k + 1) else -9) → ¬ (x = 98 ∨ x = 109 ∨ x = 112) := by
          intro x hx
          by_cases y : hl c + 5 * k + 1 < m
          · rw [if_pos y] at hx; rw [hx]; exact fun z => q1 ⟨y, z⟩
          · rw [if_neg y] at hx; rw [hx]; decide
        have n3 := nx _ rfl
        rw [if_neg (fun z => n3 (Or.inl z)), if_neg (fun z => n3 (Or.inr (Or.inl z))), if_neg (fun z => n3 (Or.inr (Or.inr z)))]
        refine ⟨0, _, rfl, S4.2.2.2.1, Or.inl ⟨rfl, hl c + 5 * k + 1, S4.2.2.1, by omega, G1, fun y => ?_, fun y => by omega⟩⟩
        rw [t1, e1]; exact decide_eq_false (fun z => q1 ⟨y, z⟩)
    · have n1 : ¬ (if hl c + 5 * k < m then t (hl c + 5 * k) else (-9 : Int32)) = 59 := by
        by_cases y : hl c + 5 * k < m
        · rw [if_pos y]; exact fun z => q0 ⟨y, z⟩
        · rw [if_neg y]; decide
      rw [if_neg n1]
      refine ⟨0, N, rfl, hF, Or.inl ⟨rfl, hl c + 5 * k, h12, hPm, hg, fun y => ?_, fun y => by omega⟩⟩
      rw [t0, e0]; exact decide_eq_false (fun z => q0 ⟨y, z⟩)
