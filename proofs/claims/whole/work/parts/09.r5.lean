/-! sheets: copy -/
theorem bey_s {i m : Int32} {z : Nat} (hz : z ≤ 60) (M : Mem) : d_X9_isBeyond i m.toInt64 (nI z) M = some (bI (¬ (0 ≤ i.toInt ∧ 0 ≤ m.toInt ∧ i.toInt + m.toInt ≤ (z : Int)))) := by
  unfold d_X9_isBeyond
  have e0 : (0 : Int32).toInt = 0 := by decide
  have l0 : (0 : Int64).toInt = 0 := by decide
  by_cases a : i < 0
  · have a1 := Int32.lt_iff_toInt_lt.mp a
    rw [if_pos a, bI_t (by omega)]
  · have a1 : ¬ i.toInt < 0 := fun q => a (Int32.lt_iff_toInt_lt.mpr (by omega))
    rw [if_neg a]
    by_cases b : lg_cmp m.toInt64 0 < 0
    · have b1 := Int64.lt_iff_toInt_lt.mp ((lg_cmp_lt _ _).mp b)
      rw [Int32.toInt_toInt64] at b1
      rw [if_pos b, bI_t (by omega)]
    · have b1 : ¬ m.toInt < 0 := fun q => b ((lg_cmp_lt _ _).mpr (Int64.lt_iff_toInt_lt.mpr (by rw [Int32.toInt_toInt64]; omega)))
      rw [if_neg b]
      have u1 := Int32.toInt_lt i
      have u2 := Int32.toInt_lt m
      have es : (i.toInt64 + m.toInt64).toInt = i.toInt + m.toInt := by
        rw [Int64.toInt_add, Int32.toInt_toInt64, Int32.toInt_toInt64]
        exact Int.bmod_eq_of_le (by omega) (by omega)
      have ez : (nI z).toInt64.toInt = z := by rw [Int32.toInt_toInt64, nI_toInt (by omega)]
      by_cases g : lg_cmp (i.toInt64 + m.toInt64) (nI z).toInt64 ≤ 0
      · have g1 := Int64.le_iff_toInt_le.mp ((lg_cmp_le _ _).mp g)
        rw [es, ez] at g1
        rw [if_pos g, bI_f (by omega)]
      · have g1 : ¬ i.toInt + m.toInt ≤ (z : Int) := fun q => g ((lg_cmp_le _ _).mpr (Int64.le_iff_toInt_le.mpr (by rw [es, ez]; exact q)))
        rw [if_neg g, bI_t (by omega)]
theorem ix60b (j i x : Nat) : ((60 : Int32) * nI j + nI i) + nI x = nI (60 * j + i + x) := by rw [ix60, nI_add]
theorem cp1 {j i m z : Nat} (hj : j < 4) (hz : z ≤ 60) (him : i + m ≤ z) (v3 v4 : Int32) (K : Mem → Option (Int32 × Mem)) : ∀ (t x f : Nat) (M : Mem), x + t = m → t < f → ∀ (M0 : Mem), (∀ q, q ≠ 24 → M q = M0 q) → (∀ y, y < x → M 24 y = M0 23 (60 * j + i + y)) → ∃ M1 : Mem, dX9_copy_107l (nI j) (nI i) v3 v4 (nI m) K f (nI x) M = K M1 ∧ (∀ q, q ≠ 24 → M1 q = M0 q) ∧ ∀ y, y < m → M1 24 y = M0 23 (60 * j + i + y) := by
  intro t
  induction t with
  | zero =>
    intro x f M hx hf M0 hM hI
    obtain ⟨f, rfl⟩ : ∃ f1, f = f1 + 1 := ⟨f - 1, by omega⟩
    have e : x = m := by omega
    subst e
    rw [dX9_copy_107l, if_pos (le_t (Nat.le_refl _) (by omega))]
    exact ⟨M, rfl, hM, hI⟩
  | succ t ih =>
    intro x f M hx hf M0 hM hI
    obtain ⟨f, rfl⟩ : ∃ f1, f = f1 + 1 := ⟨f - 1, by omega⟩
    rw [dX9_copy_107l, if_neg (le_f (by omega) (by omega)), ix60b, if_pos (inB_t (show 60 * j + i + x < 240 by omega) (by decide)), if_pos (inB_t (show x < 60 by omega) (by decide)), cl (by omega), cl (by omega), lm_eq, nI_1]
    refine ih (x + 1) f _ (by omega) (by omega) M0 (fun q hq => by rw [mu_ne hq]; exact hM q hq) (fun y hy => ?_)
    rw [mu_eq, upd_ap]
    by_cases e : y = x
    · subst e; rw [if_pos rfl, hM 23 (by decide)]
    · rw [if_neg e]; exact hI y (by omega)
theorem cp2 {j i m z : Nat} (hj : j < 4) (hz : z ≤ 60) (him : i + m ≤ z) (K : Mem → Option (Int32 × Mem)) : ∀ (t x f : Nat) (M : Mem), x + t = m → t < f → ∀ (M0 : Mem), (∀ q, q ≠ 23 → M q = M0 q) → (∀ y, M 23 y = if 60 * j + i ≤ y ∧ y < 60 * j + i + x then M0 24 (y - (60 * j + i)) else M0 23 y) → ∃ M1 : Mem, dX9_copy_144l (nI j) (nI i) (nI m) K f (nI x) M = K M1 ∧ (∀ q, q ≠ 23 → M1 q = M0 q) ∧ (∀ y, M1 23 y = if 60 * j + i ≤ y ∧ y < 60 * j + i + m then M0 24 (y - (60 * j + i)) else M0 23 y) := by
  intro t
  induction t with
  | zero =>
    intro x f M hx hf M0 hM hI
    obtain ⟨f, rfl⟩ : ∃ f1, f = f1 + 1 := ⟨f - 1, by omega⟩
    have e : x = m := by omega
    subst e
    rw [dX9_copy_144l, if_pos (le_t (Nat.le_refl _) (by omega))]
    exact ⟨M, rfl, hM, hI⟩
  | succ t ih =>
    intro x f M hx hf M0 hM hI
    obtain ⟨f, rfl⟩ : ∃ f1, f = f1 + 1 := ⟨f - 1, by omega⟩
    rw [dX9_copy_144l, if_neg (le_f (by omega) (by omega)), if_pos (inB_t (show x < 60 by omega) (by decide)), ix60b, if_pos (inB_t (show 60 * j + i + x < 240 by omega) (by decide)), cl (by omega), cl (by omega), lm_eq, nI_1]
    refine ih (x + 1) f _ (by omega) (by omega) M0 (fun q hq => by rw [mu_ne hq]; exact hM q hq) (fun y => ?_)
    rw [mu_eq, upd_ap]
    by_cases e : y = 60 * j + i + x
    · subst e
      rw [if_pos rfl, if_pos (by omega), hM 24 (by decide)]
      congr 1
      omega
    · rw [if_neg e, hI y]
      by_cases q : 60 * j + i ≤ y ∧ y < 60 * j + i + x
      · rw [if_pos q, if_pos (by omega)]
      · rw [if_neg q, if_neg (by omega)]
theorem sim_copy {n : Nat} {A M : Mem} (h : Rel n A M) (v1 v2 v3 v4 v5 : Int32) : OkE n (d_X8_copy v1 v2 v3 v4 v5 A) (d_X9_copy v1 v2 v3 v4 v5 M) := by
  unfold d_X8_copy d_X9_copy dX8_copy_53j dX8_copy_101j dX9_copy_14j dX9_copy_38j dX9_copy_98j d_X8_faulted d_X9_failed d_X9_refused
  simp only [lm_eq, isSheet_s, nS_s, bd1_some, bd2_some, nothing_s]
  by_cases r1 : rg v1 4
  · rw [bR_t r1, nb_t r1, if_neg one0, if_pos rfl]
    by_cases r2 : rg v3 4
    · rw [bR_t r2, nb_t r2, if_neg one0, if_pos rfl]
      obtain ⟨j, hj, rfl⟩ := rg_of (by omega) r1
      obtain ⟨o, ho, rfl⟩ := rg_of (by omega) r2
      have b4 : inB (nI j) 4 = true := inB_t hj (by decide)
      have c4 : inB (nI o) 4 = true := inB_t ho (by decide)
      have u8 : ∀ q, q ≠ 0 → mu A 0 8 0 q = A q := fun q hq => mu_ne hq
      have hs : shd j = 29 + 2 * j := rfl
      have ht : shd o = 29 + 2 * o := rfl
      simp only [b4, c4, if_true, cl (show j < 2 ^ 31 by omega), cl (show o < 2 ^ 31 by omega), hs, ht, u8 (29 + 2 * j) (by omega), u8 (29 + 2 * o) (by omega)]
      rcases h.2.1 j hj with ⟨q1, q2, q3⟩ | ⟨z, l, q1, q2, q3, q4, q5, q6, q7⟩
      · rw [bI_t q1, if_neg one0, q3, if_pos (show (-1 : Int32) < 0 by decide)]
        exact ⟨_, _, _, rfl, rfl, h.flt2 0 1⟩
      · rw [bI_f (by rw [q3]; exact nI_n9 (by omega)), if_pos rfl, q5, if_neg (nI_pos (by omega))]
        rcases h.2.1 o ho with ⟨p1, p2, p3⟩ | ⟨y, t, p1, p2, p3, p4, p5, p6, p7⟩
        · rw [bI_t p1, if_neg one0, p3, if_neg (show ¬ (0 : Int32) ≤ -1 by decide)]
          exact ⟨_, _, _, rfl, rfl, h.flt2 0 1⟩
        · rw [bI_f (by rw [p3]; exact nI_n9 (by omega)), if_pos rfl, p5, if_pos (nI_pos' (by omega)), q3, p3, q6, p6]
          by_cases e : nI l = nI t
          · rw [if_pos e, if_pos e, bey_s q1, bd1_some]
            obtain ⟨f1, f2⟩ := fc_s (o := 29 + 2 * j) (A := mu A 0 8 0) q1 (by rw [u8 _ (by omega)]; exact q4) v2 v5
            obtain ⟨g1, g2⟩ := fc_s (o := 29 + 2 * o) (A := mu A 0 8 0) p1 (by rw [u8 _ (by omega)]; exact p4) v4 v5
            by_cases x1 : fcP v2 v5 z
            · rw [f1 x1, bd1_some, if_pos rfl, nb_t (show 0 ≤ v2.toInt ∧ 0 ≤ v5.toInt ∧ v2.toInt + v5.toInt ≤ (z : Int) from x1), if_pos rfl, bey_s p1, bd1_some]
              by_cases x2 : fcP v4 v5 y
              · rw [g1 x2, bd1_some, if_pos rfl, nb_t (show 0 ≤ v4.toInt ∧ 0 ≤ v5.toInt ∧ v4.toInt + v5.toInt ≤ (y : Int) from x2), if_pos rfl]
                unfold fcP at x1 x2
                obtain ⟨i, hi, rfl⟩ : ∃ i : Nat, i < z + 1 ∧ v2 = nI i := rg_of (by omega) ⟨by omega, by omega⟩
                obtain ⟨u, hu, rfl⟩ : ∃ u : Nat, u < y + 1 ∧ v4 = nI u := rg_of (by omega) ⟨by omega, by omega⟩
                obtain ⟨m, hm, rfl⟩ : ∃ m : Nat, m < z + 1 ∧ v5 = nI m := rg_of (by omega) ⟨by omega, by omega⟩
                rw [nI_toInt (show i < 2 ^ 31 by omega), nI_toInt (show m < 2 ^ 31 by omega)] at x1
                rw [nI_toInt (show u < 2 ^ 31 by omega), nI_toInt (show m < 2 ^ 31 by omega)] at x2
                have hcp : cpB (nI i) (nI u) (nI m) 60 60 = true := by
                  unfold cpB
                  refine decide_eq_true ⟨nI_pos (by omega), nI_pos (by omega), nI_pos (by omega), ?_, ?_⟩
                  · rw [cl (by omega), cl (by omega)]; omega
                  · rw [cl (by omega), cl (by omega)]; omega
                rw [if_pos hcp, cl (show i < 2 ^ 31 by omega), cl (show u < 2 ^ 31 by omega), cl (show m < 2 ^ 31 by omega)]
                obtain ⟨M1, a1, a2, a3⟩ := cp1 hj q1 (show i + m ≤ z by omega) (nI o) (nI u) (fun (M20 : Mem) => (dX9_copy_144l (nI o) (nI u) (nI m) (fun (M23 : Mem) => (some (nI m, mu M23 0 0 0))) FU (0 : Int32) M20)) m 0 FU M (by omega) (show m < 2000 by omega) M (fun _ _ => rfl) (fun w hw => by omega)
                obtain ⟨M2, k1, k2, k3⟩ := cp2 ho p1 (show u + m ≤ y by omega) (fun (M23 : Mem) => (some (nI m, mu M23 0 0 0))) m 0 FU M1 (by omega) (show m < 2000 by omega) M1 (fun _ _ => rfl) (fun w => by rw [if_neg (by omega)])
                refine ⟨nI m, _, mu M2 0 0 0, rfl, a1.trans k1, ?_⟩
                have mq : ∀ q, q ≠ 24 → q ≠ 23 → M2 q = M q := fun q c1 c2 => by rw [k2 q c2, a2 q c1]
                have xq : ∀ q, q ≠ 29 + 2 * o + 1 → mcp (mu A 0 8 0) (29 + 2 * j + 1) (29 + 2 * o + 1) i u m q = mu A 0 8 0 q := fun q hq => if_neg hq
                refine h.sht (fun q c d => by rw [xq q (by omega), mu_ne (by omega)]) (fun q c d => by unfold Pq at c; rw [mu_ne (by omega), mq q (by omega) (by omega)]) (fun w hw => by rw [mu_eq, upd_n (by omega), mq 0 (by decide) (by decide)]) ?_ ?_ ?_ ?_
                · refine h.2.1.set (j := o) (fun q c d c2 d2 => by rw [xq q (by omega), mu_ne (by omega)]) (fun w hw => by rw [mu_ne (by decide), mq 21 (by decide) (by decide)]) (fun w hw => by rw [mu_ne (by decide), mq 22 (by decide) (by decide)]) (fun w hw => by rw [mu_ne (by decide), k3 w, if_neg (by omega), a2 23 (by decide)]) (Or.inr ⟨y, t, p1, p2, ?_, ?_, ?_, ?_, fun w hw => ?_⟩)
                  · rw [xq _ (by omega), mu_ne (by omega)]; exact p3
                  · rw [xq _ (by omega), mu_ne (by omega)]; exact p4
                  · rw [mu_ne (by decide), mq 21 (by decide) (by decide)]; exact p5
                  · rw [mu_ne (by decide), mq 22 (by decide) (by decide)]; exact p6
                  · show _ = mu M2 0 0 0 23 (60 * o + w)
                    rw [mu_ne (show (23 : Nat) ≠ 0 by decide), k3, show 30 + 2 * o = 29 + 2 * o + 1 by omega, show mcp (mu A 0 8 0) (29 + 2 * j + 1) (29 + 2 * o + 1) i u m (29 + 2 * o + 1) = va_cpy (mu A 0 8 0 (29 + 2 * j + 1)) (mu A 0 8 0 (29 + 2 * o + 1)) i u m from if_pos rfl, mu_ne (by omega), mu_ne (by omega)]
                    unfold va_cpy
                    by_cases c : u ≤ w ∧ w < u + m
                    · rw [if_pos c, if_pos (by omega), show 60 * o + w - (60 * o + u) = w - u by omega, a3 (w - u) (by omega), show 29 + 2 * j + 1 = 30 + 2 * j by omega, q7 (i + (w - u)) (by omega)]
                      show M 23 (60 * j + (i + (w - u))) = _
                      congr 1
                      omega
                    · rw [if_neg c, if_neg (by omega), a2 23 (by decide), show 29 + 2 * o + 1 = 30 + 2 * o by omega]
                      exact p7 w hw
                · rw [xq 0 (by omega), mu_eq, mu_eq, upd_n (by decide), upd_n (by decide), mq 0 (by decide) (by decide)]; exact h.2.2.1
                · rw [xq 0 (by omega), mu_eq, mu_eq, upd_n (by decide), upd_n (by decide), mq 0 (by decide) (by decide)]; exact h.2.2.2.1
                · rw [xq 0 (by omega), mu_eq, mu_eq, upd_s, upd_s]
              · rw [g2 x2, bd1_some, if_neg (by decide), nb_f (show ¬ (0 ≤ v4.toInt ∧ 0 ≤ v5.toInt ∧ v4.toInt + v5.toInt ≤ (y : Int)) from x2), if_neg one0]
                exact ⟨_, _, _, rfl, rfl, h.flt2 0 3⟩
            · rw [f2 x1, bd1_some, if_neg (by decide), nb_f (show ¬ (0 ≤ v2.toInt ∧ 0 ≤ v5.toInt ∧ v2.toInt + v5.toInt ≤ (z : Int)) from x1), if_neg one0]
              exact ⟨_, _, _, rfl, rfl, h.flt2 0 3⟩
          · rw [if_neg e, if_neg e]
            exact ⟨_, _, _, rfl, rfl, h.flt2 0 2⟩
    · rw [bR_f r2, nb_f r2, if_pos rfl, if_neg one0]
      exact ⟨_, _, _, rfl, rfl, h.flt 0⟩
  · rw [bR_f r1, nb_f r1, if_pos rfl, if_neg one0]
    exact ⟨_, _, _, rfl, rfl, h.flt 0⟩
