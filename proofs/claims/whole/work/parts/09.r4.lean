/-! sheets: put, cell, copy -/
theorem fcP1 {i : Int32} {z : Nat} : fcP i 1 z ↔ rg i z := by
  have e1 : (1 : Int32).toInt = 1 := by decide
  unfold fcP rg
  omega
theorem noCell_n {j : Nat} {M : Mem} (hj : j < 4) (h : M 21 j = -1) (i : Int32) : d_X9_noCell (nI j) i M = some 1 := by
  unfold d_X9_noCell
  rw [if_pos (inB_t hj (by decide)), cl (by omega), h, if_neg (by decide)]
theorem noCell_s {j z : Nat} {M : Mem} (hj : j < 4) (hz : z ≤ 60) (h : M 21 j = nI z) (i : Int32) : d_X9_noCell (nI j) i M = some (if rg i z then 0 else 3) := by
  unfold d_X9_noCell
  have b4 : inB (nI j) 4 = true := inB_t hj (by decide)
  rw [if_pos b4, cl (by omega), h, if_pos (nI_pos' (by omega)), if_pos b4, in_s, bd1_some, sub1_s (by omega), Int32.toInt_toInt64]
  have e : (0 : Int64).toInt = 0 := by decide
  by_cases r : rg i z
  · rw [if_pos r, bI_t (by unfold rg at r; omega), if_neg one0]
  · rw [if_neg r, bI_f (by unfold rg at r; omega), if_pos rfl]
theorem at_s {o x z : Nat} {A : Mem} (hz : z ≤ 60) (hx : x < z) (h : A o 2 = nI z) : d_X5_at o (nI x) A = some (A (o + 1) x) := by
  unfold d_X5_at
  rw [if_neg (nI_pos (by omega)), h, if_neg (le_f hx (by omega)), if_pos (inB_t (show x < 60 by omega) (by decide)), cl (by omega)]
theorem cut_s {o l : Nat} {A : Mem} (hl : l ≤ 2) (h : A o 1 = nI l) (v : Int32) : d_X5_cut o v A = some (if l = 0 then v.toInt8.toInt32 else if l = 1 then v.toInt16.toInt32 else v) := by
  unfold d_X5_cut
  rw [h]
  rcases (show l = 0 ∨ l = 1 ∨ l = 2 by omega) with e | e | e <;> subst e
  · rfl
  · rw [if_neg (by decide), if_pos (by decide)]; rfl
  · rw [if_neg (by decide), if_neg (by decide)]; rfl
theorem sim_put {n : Nat} {A M : Mem} (h : Rel n A M) (v1 v2 v3 : Int32) : OkE n (d_X8_put v1 v2 v3 A) (d_X9_put v1 v2 v3 M) := by
  unfold d_X8_put d_X9_put d_X8_faulted d_X9_failed d_X9_refused
  simp only [lm_eq, isSheet_s, nS_s, bd1_some, bd2_some, nothing_s]
  by_cases r1 : rg v1 4
  · rw [bR_t r1, nb_t r1, if_neg one0, if_pos rfl]
    obtain ⟨j, hj, rfl⟩ := rg_of (by omega) r1
    have b4 : inB (nI j) 4 = true := inB_t hj (by decide)
    have hs : shd j = 29 + 2 * j := rfl
    have u8 : mu A 0 8 0 (shd j) = A (shd j) := mu_ne (by omega)
    simp only [b4, if_true, cl (show j < 2 ^ 31 by omega), u8]
    rcases h.2.1 j hj with ⟨q1, q2, q3⟩ | ⟨z, l, q1, q2, q3, q4, q5, q6, q7⟩
    · rw [hs, bI_t q1, if_neg one0, noCell_n hj q3, bd1_some, if_neg (by decide), bd1_some]
      exact ⟨_, _, _, rfl, rfl, h.flt2 0 1⟩
    · rw [hs, bI_f (by rw [q3]; exact nI_n9 (by omega)), if_pos rfl, noCell_s hj q1 q5, bd1_some, bd1_some]
      have u8' : mu A 0 8 0 (29 + 2 * j) = A (29 + 2 * j) := mu_ne (by omega)
      obtain ⟨f1, f2⟩ := fc_s (o := 29 + 2 * j) (A := mu A 0 8 0) q1 (by rw [u8']; exact q4) v2 1
      by_cases r2 : rg v2 z
      · rw [f1 (fcP1.mpr r2), bd1_some, if_pos rfl, if_pos r2, if_pos (by decide)]
        obtain ⟨i, hi, rfl⟩ := rg_of (by omega) r2
        unfold d_X5_set dX9_put_73j
        rw [if_neg (nI_pos (by omega)), u8', q4, if_neg (le_f hi (by omega)), cut_s q2 (by rw [u8']; exact q3), bd1_some, if_pos (inB_t (show i < 60 by omega) (by decide)), cl (by omega), lm_eq, bd1_some, q6, ix60, if_pos (inB_t (show 60 * j + i < 240 by omega) (by decide))]
        simp only [lm_eq, cl (show 60 * j + i < 2 ^ 31 by omega)]
        unfold d_X9_refused
        simp only [lm_eq, bd2_some, if_pos (inB_t (show 60 * j + i < 240 by omega) (by decide))]
        refine ⟨1, _, mu (mu M 23 (60 * j + i) (if l = 0 then v3.toInt8.toInt32 else if l = 1 then v3.toInt16.toInt32 else v3)) 0 0 0, rfl, ?_, ?_⟩
        · rcases (show l = 0 ∨ l = 1 ∨ l = 2 by omega) with e | e | e <;> subst e
          · rw [if_pos nI_0, if_pos rfl]
          · rw [if_neg (show ¬ nI 1 = (0 : Int32) by decide), if_pos (show nI 1 = (1 : Int32) by decide), if_neg (by decide), if_pos rfl]
          · rw [if_neg (show ¬ nI 2 = (0 : Int32) by decide), if_neg (show ¬ nI 2 = (1 : Int32) by decide), if_neg (by decide), if_neg (by decide)]
        · refine h.sht (fun q a b => by rw [mu_ne (by omega), mu_ne (by omega)]) (fun q a b => by unfold Pq at a; rw [mu_ne (by omega), mu_ne (by omega)]) (fun i hi => by rw [mu_eq, upd_n (by omega), mu_ne (by decide)]) ?_ ?_ ?_ ?_
          · refine h.2.1.set (j := j) (fun q a b c d => by rw [mu_ne (by omega), mu_ne (by omega)]) (fun i hi => by rw [mu_ne (by decide), mu_ne (by decide)]) (fun i hi => by rw [mu_ne (by decide), mu_ne (by decide)]) (fun x hx => by rw [mu_ne (by decide), mu_eq, upd_n (by omega)]) (Or.inr ⟨z, l, q1, q2, ?_, ?_, ?_, ?_, fun x hx => ?_⟩)
            · rw [mu_ne (by omega), mu_ne (by omega)]; exact q3
            · rw [mu_ne (by omega), mu_ne (by omega)]; exact q4
            · rw [mu_ne (by omega), mu_ne (by omega)]; exact q5
            · rw [mu_ne (by omega), mu_ne (by omega)]; exact q6
            · show _ = mu (mu M 23 (60 * j + i) _) 0 0 0 23 (60 * j + x)
              rw [show 30 + 2 * j = 29 + 2 * j + 1 by omega, mu_eq, mu_ne (show (23 : Nat) ≠ 0 by decide), mu_eq, mu_ne (by omega), upd_ap, upd_ap]
              by_cases e : x = i
              · subst e; rw [if_pos rfl, if_pos rfl]
              · rw [if_neg e, if_neg (by omega), show 29 + 2 * j + 1 = 30 + 2 * j by omega]
                exact q7 x hx
          · rw [mu_ne (by omega), mu_eq, mu_eq, upd_n (by decide), upd_n (by decide), mu_ne (by decide)]; exact h.2.2.1
          · rw [mu_ne (by omega), mu_eq, mu_eq, upd_n (by decide), upd_n (by decide), mu_ne (by decide)]; exact h.2.2.2.1
          · rw [mu_ne (by omega), mu_eq, mu_eq, upd_s, upd_s]
      · rw [f2 (fun q => r2 (fcP1.mp q)), bd1_some, if_neg (by decide), if_neg r2, if_neg (by decide)]
        exact ⟨_, _, _, rfl, rfl, h.flt2 0 3⟩
  · rw [bR_f r1, nb_f r1, if_pos rfl, if_neg one0]
    exact ⟨_, _, _, rfl, rfl, h.flt 0⟩
theorem mu_mu (M : Mem) (o j : Nat) (u v : Int32) : mu (mu M o j u) o j v = mu M o j v := by
  funext q
  by_cases e : q = o
  · subst e
    rw [mu_eq, mu_eq, mu_eq]
    funext i
    rw [upd_ap, upd_ap, upd_ap]
    split <;> rfl
  · rw [mu_ne e, mu_ne e, mu_ne e]
theorem far_n {o : Nat} {A : Mem} (h : A o 1 = -9) (a b d : Int32) : d_X5_faultAsRow o a b d A = some 1 := by
  unfold d_X5_faultAsRow
  rw [nothing_s, bd1_some, bI_t h, if_neg one0]
theorem far_l {o l : Nat} {A : Mem} (hl : l ≤ 2) (h : A o 1 = nI l) {a : Int32} (ha : ¬ nI l = a) (b d : Int32) : d_X5_faultAsRow o a b d A = some 2 := by
  unfold d_X5_faultAsRow
  rw [nothing_s, bd1_some, h, bI_f (nI_n9 (by omega)), if_pos rfl, if_neg ha]
theorem far_z {o l : Nat} {A : Mem} (hl : l ≤ 2) (h : A o 1 = nI l) (b : Int32) {d : Int32} (hd : ¬ 0 ≤ d) : d_X5_faultAsRow o (nI l) b d A = some 4 := by
  unfold d_X5_faultAsRow
  rw [nothing_s, bd1_some, h, bI_f (nI_n9 (by omega)), if_pos rfl, if_pos rfl, if_neg hd]
theorem far_s {o l z : Nat} {A : Mem} (hl : l ≤ 2) (h : A o 1 = nI l) (hz : z ≤ 60) (h2 : A o 2 = nI z) (b : Int32) {d : Int32} (hd : 0 ≤ d) : (fcP b d z → d_X5_faultAsRow o (nI l) b d A = some 0) ∧ (¬ fcP b d z → d_X5_faultAsRow o (nI l) b d A = some 3) := by
  unfold d_X5_faultAsRow
  rw [nothing_s, bd1_some, h, bI_f (nI_n9 (by omega)), if_pos rfl, if_pos rfl, if_pos hd]
  obtain ⟨f1, f2⟩ := fc_s hz h2 b d
  exact ⟨fun q => by rw [f1 q, bd1_some], fun q => by rw [f2 q, bd1_some]⟩
theorem lost_s (M : Mem) : d_X9_lost M = some (-9223372036854775808) := rfl
theorem sim_cell {n : Nat} {A M : Mem} (h : Rel n A M) (v1 v2 v3 : Int32) : OkL n (d_X8_cell v1 v2 v3 A) (d_X9_cell v1 v2 v3 M) := by
  unfold d_X8_cell d_X9_cell dX9_cell_24j dX9_cell_53j d_X9_failedLong
  simp only [lm_eq, isSheet_s, isLane_s, nS_s, bd1_some, bd2_some, lost_s]
  by_cases r1 : rg v1 4
  · rw [bR_t r1, nb_t r1, if_neg one0, if_pos rfl, inR_s (n := 3) (by decide) (by decide), bd1_some]
    by_cases r2 : rg v3 3
    · rw [bR_t r2, if_neg one0, if_neg one0]
      obtain ⟨j, hj, rfl⟩ := rg_of (by omega) r1
      obtain ⟨m, hm, rfl⟩ := rg_of (by omega) r2
      have b4 : inB (nI j) 4 = true := inB_t hj (by decide)
      have hs : shd j = 29 + 2 * j := rfl
      have u8 : ∀ q, q ≠ 0 → mu A 0 8 0 q = A q := fun q hq => mu_ne hq
      have w8 : ∀ q, q ≠ 0 → mu M 0 0 0 q = M q := fun q hq => mu_ne hq
      simp only [b4, if_true, cl (show j < 2 ^ 31 by omega), w8 21 (by decide), w8 22 (by decide), w8 23 (by decide)]
      rcases h.2.1 j hj with ⟨q1, q2, q3⟩ | ⟨z, l, q1, q2, q3, q4, q5, q6, q7⟩
      · rw [hs, far_n (by rw [u8 _ (by omega)]; exact q1), bd1_some, q3, if_pos (show (-1 : Int32) < 0 by decide), noCell_n hj (by rw [w8 21 (by decide)]; exact q3), bd1_some, if_neg (show ¬ (1 : Int32) ≤ 0 by decide), bd1_some, mu_eq, upd_s, if_neg one0, mu_mu, mu_mu]
        exact ⟨_, _, _, rfl, rfl, h.flt 1⟩
      · rw [hs, q5, if_neg (nI_pos (by omega)), q6]
        by_cases e : l = m
        · subst e
          obtain ⟨f1, f2⟩ := far_s (o := 29 + 2 * j) (A := mu A 0 8 0) q2 (by rw [u8 _ (by omega)]; exact q3) q1 (by rw [u8 _ (by omega)]; exact q4) v2 (d := 1) (by decide)
          rw [if_pos rfl, noCell_s (M := mu M 0 0 0) hj q1 (by rw [w8 21 (by decide)]; exact q5), bd1_some]
          by_cases r3 : rg v2 z
          · rw [f1 (fcP1.mpr r3), bd1_some, mu_eq, upd_s, if_pos rfl, if_pos r3, if_pos (show (0 : Int32) ≤ 0 by decide)]
            obtain ⟨i, hi, rfl⟩ := rg_of (by omega) r3
            rw [ix60, if_pos (inB_t (show 60 * j + i < 240 by omega) (by decide)), cl (by omega), mu_mu, at_s q1 hi (by rw [u8 _ (by omega)]; exact q4), bd1_some]
            have e7 := q7 i hi
            refine ⟨_, _, _, rfl, ?_, h.flt 0⟩
            rw [u8 _ (by omega), show 29 + 2 * j + 1 = 30 + 2 * j by omega, e7]
          · rw [f2 (fun q => r3 (fcP1.mp q)), bd1_some, mu_eq, upd_s, if_neg (show ¬ (3 : Int32) = 0 by decide), if_neg r3, if_neg (show ¬ (3 : Int32) ≤ 0 by decide), bd1_some, mu_mu, mu_mu]
            exact ⟨_, _, _, rfl, rfl, h.flt 3⟩
        · have ne : ¬ nI l = nI m := fun q => e ((nI_eq (by omega) (by omega)).mp q)
          rw [far_l q2 (by rw [u8 _ (by omega)]; exact q3) ne, bd1_some, mu_eq, upd_s, if_neg two0, if_neg ne, mu_mu, mu_mu]
          exact ⟨_, _, _, rfl, rfl, h.flt 2⟩
    · rw [bR_f r2, if_pos rfl, if_pos rfl]
      exact ⟨_, _, _, rfl, rfl, h.flt 0⟩
  · rw [bR_f r1, nb_f r1, if_pos rfl, if_neg one0]
    exact ⟨_, _, _, rfl, rfl, h.flt 0⟩
