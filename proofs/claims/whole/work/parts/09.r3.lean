/-! sheets -/
theorem shd_v (j : Nat) : shd j = 29 + 2 * j := rfl
theorem ShA.set {A M A1 M1 : Mem} {j : Nat} (h : ShA A M) (hA : ∀ q, 29 ≤ q → q ≤ 36 → q ≠ 29 + 2 * j → q ≠ 30 + 2 * j → A1 q = A q) (h1 : ∀ i, i ≠ j → M1 21 i = M 21 i) (h2 : ∀ i, i ≠ j → M1 22 i = M 22 i) (h3 : ∀ i, (i < 60 * j ∨ 60 * j + 60 ≤ i) → M1 23 i = M 23 i) (hn : ShR (A1 (29 + 2 * j)) (A1 (30 + 2 * j)) (M1 21 j) (M1 22 j) (fun i => M1 23 (60 * j + i))) : ShA A1 M1 := by
  intro x hx
  by_cases e : x = j
  · subst e; exact hn
  · rw [hA (29 + 2 * x) (by omega) (by omega) (by omega) (by omega), hA (30 + 2 * x) (by omega) (by omega) (by omega) (by omega), h1 x e, h2 x e]
    rcases h x hx with q | ⟨n, l, q1, q2, q3, q4, q5, q6, q7⟩
    · exact Or.inl q
    · refine Or.inr ⟨n, l, q1, q2, q3, q4, q5, q6, fun i hi => ?_⟩
      show A (30 + 2 * x) i = M1 23 (60 * x + i)
      rw [h3 _ (by omega)]
      exact q7 i hi
theorem Rel.sht {n : Nat} {A M A1 M1 : Mem} (h : Rel n A M) (hA : ∀ q, 2 ≤ q → q ≤ 28 → A1 q = A q) (hM : ∀ q, Pq q → q ≤ 20 → M1 q = M q) (h0 : ∀ j, j = 1 ∨ j = 2 ∨ j = 4 ∨ j = 30 → M1 0 j = M 0 j) (hS : ShA A1 M1) (h6 : A1 0 6 = M1 0 3) (h7 : A1 0 7 = M1 0 38) (h8 : A1 0 8 = M1 0 0) : Rel (n + 1) A1 M1 := by
  obtain ⟨⟨c, k, kd, fr, to, cv, w, wk, s, hT⟩, -⟩ := h
  exact ⟨⟨c, k, kd, fr, to, cv, w, wk, s, (hT.mono (by omega)).cong (fun q a b _ _ _ _ => hA q a b) hM h0⟩, hS, h6, h7, h8⟩
theorem zf_x {o n : Nat} (hn : n ≤ 60) : ∀ (m i f : Nat) (A : Mem), i + m = n → m < f → A o 2 = nI n → (∀ x, x < i → A (o + 1) x = 0) → ∃ A1 : Mem, dX5_renew_21l o f (nI i) A = some A1 ∧ (∀ x, x < n → A1 (o + 1) x = 0) ∧ ∀ q, q ≠ o + 1 → A1 q = A q := by
  intro m
  induction m with
  | zero =>
    intro i f A hi hf h2 hz
    obtain ⟨f, rfl⟩ : ∃ f1, f = f1 + 1 := ⟨f - 1, by omega⟩
    have e : i = n := by omega
    subst e
    rw [dX5_renew_21l, h2, if_pos (le_t (Nat.le_refl _) (by omega))]
    exact ⟨A, rfl, hz, fun _ _ => rfl⟩
  | succ m ih =>
    intro i f A hi hf h2 hz
    obtain ⟨f, rfl⟩ : ∃ f1, f = f1 + 1 := ⟨f - 1, by omega⟩
    rw [dX5_renew_21l, h2, if_neg (le_f (by omega) (by omega)), if_pos (inB_t (show i < 60 by omega) (by decide)), cl (by omega), lm_eq, nI_1]
    obtain ⟨A1, g1, g2, g3⟩ := ih (i + 1) f (mu A (o + 1) i 0) (by omega) (by omega) (by rw [mu_ne (by omega)]; exact h2) (fun x hx => by
      rw [mu_eq, upd_ap]
      by_cases e : x = i
      · rw [if_pos e]
      · rw [if_neg e]; exact hz x (by omega))
    exact ⟨A1, g1, g2, fun q hq => by rw [g3 q hq, mu_ne hq]⟩
theorem c60 : (60 : Int32) = nI 60 := rfl
theorem ix60 (j i : Nat) : (60 : Int32) * nI j + nI i = nI (60 * j + i) := by rw [c60, pk_mul, nI_add]
theorem zf_m {j n : Nat} (hj : j < 4) (hn : n ≤ 60) (K : Mem → Option (Int32 × Mem)) : ∀ (m i f : Nat) (M : Mem), i + m = n → m < f → (∀ x, x < i → M 23 (60 * j + x) = 0) → ∃ M1 : Mem, dX9_sheet_65l (nI j) (nI n) K f (nI i) M = K M1 ∧ (∀ x, x < n → M1 23 (60 * j + x) = 0) ∧ (∀ x, (x < 60 * j ∨ 60 * j + 60 ≤ x) → M1 23 x = M 23 x) ∧ ∀ q, q ≠ 23 → M1 q = M q := by
  intro m
  induction m with
  | zero =>
    intro i f M hi hf hz
    obtain ⟨f, rfl⟩ : ∃ f1, f = f1 + 1 := ⟨f - 1, by omega⟩
    have e : i = n := by omega
    subst e
    rw [dX9_sheet_65l, if_pos (le_t (Nat.le_refl _) (by omega))]
    exact ⟨M, rfl, hz, fun _ _ => rfl, fun _ _ => rfl⟩
  | succ m ih =>
    intro i f M hi hf hz
    obtain ⟨f, rfl⟩ : ∃ f1, f = f1 + 1 := ⟨f - 1, by omega⟩
    rw [dX9_sheet_65l, if_neg (le_f (by omega) (by omega)), ix60, if_pos (inB_t (show 60 * j + i < 240 by omega) (by decide)), cl (by omega), lm_eq, nI_1]
    obtain ⟨M1, g1, g2, g3, g4⟩ := ih (i + 1) f (mu M 23 (60 * j + i) 0) (by omega) (by omega) (fun x hx => by
      rw [mu_eq, upd_ap]
      by_cases e : 60 * j + x = 60 * j + i
      · rw [if_pos e]
      · rw [if_neg e]; exact hz x (by omega))
    exact ⟨M1, g1, g2, fun x hx => by rw [g3 x hx, mu_eq, upd_n (by omega)], fun q hq => by rw [g4 q hq, mu_ne hq]⟩
theorem clip60 {n : Nat} (h : n ≤ 60) : (if (0 : Int32) < (if (60 : Int32) < nI n then (60 : Int32) else nI n) then (if (60 : Int32) < nI n then (60 : Int32) else nI n) else (0 : Int32)) = nI n := by
  rw [if_neg (show ¬ (60 : Int32) < nI n from nI_nlt h (by decide))]
  rcases Nat.eq_zero_or_pos n with e | e
  · subst e; decide
  · rw [if_pos (show (0 : Int32) < nI n from nI_lt (a := 0) e (by omega))]
theorem sim_sheet {n : Nat} {A M : Mem} (h : Rel n A M) (v1 v2 v3 : Int32) : OkE n (d_X8_sheet v1 v2 v3 A) (d_X9_sheet v1 v2 v3 M) := by
  unfold d_X8_sheet d_X9_sheet d_X8_faulted d_X9_failed d_X9_refused dX9_sheet_31j
  unfold d_X9_refused
  simp only [lm_eq, isSheet_s, isLane_s, nS_s, bd1_some, bd2_some]
  by_cases r1 : rg v1 4
  · rw [bR_t r1, nb_t r1, if_neg one0, if_pos rfl, inR_s (n := 3) (by decide) (by decide), bd1_some]
    by_cases r2 : rg v2 3
    · rw [bR_t r2, if_neg one0, if_neg one0]
      by_cases r3 : v3 ≤ (60 : Int32)
      · rw [if_pos r3, if_pos r3]
        by_cases r4 : 0 ≤ v3
        · rw [if_pos r4, if_pos r4]
          have r5 : rg v3 61 := ⟨by have := Int32.le_iff_toInt_le.mp r4; have h2 : (0 : Int32).toInt = 0 := by decide
                                    omega, by have := Int32.le_iff_toInt_le.mp r3; have h2 : (60 : Int32).toInt = 60 := by decide
                                              omega⟩
          obtain ⟨j, hj, rfl⟩ := rg_of (by omega) r1
          obtain ⟨l, hl, rfl⟩ := rg_of (by omega) r2
          obtain ⟨z, hz, rfl⟩ := rg_of (by omega) r5
          have b4 : inB (nI j) 4 = true := inB_t hj (by decide)
          simp only [b4, if_true, cl (show j < 2 ^ 31 by omega)]
          unfold d_X5_renew
          simp only [lm_eq, clip60 (show z ≤ 60 by omega)]
          obtain ⟨A1, g1, g2, g3⟩ := zf_x (o := shd j) (show z ≤ 60 by omega) z 0 FU (mu (mu (mu A 0 8 0) (shd j) 1 (nI l)) (shd j) 2 (nI z)) (by omega) (show z < 2000 by omega) (by rw [mu_eq, upd_s]) (fun x hx => by omega)
          rw [show (0 : Int32) = nI 0 from rfl] at g1 ⊢
          rw [g1, bd1_some]
          obtain ⟨M1, k1, k2, k3, k4⟩ := zf_m hj (show z ≤ 60 by omega) (fun (M13 : Mem) => (some ((1 : Int32), mu M13 0 0 (nI 0)))) z 0 FU (mu (mu M 21 j (nI z)) 22 j (nI l)) (by omega) (show z < 2000 by omega) (fun x hx => by omega)
          rw [k1]
          refine ⟨1, A1, mu M1 0 0 (nI 0), rfl, rfl, ?_⟩
          have hs : shd j = 29 + 2 * j := rfl
          have a0 : A1 0 = upd (A 0) 8 (nI 0) := by rw [g3 0 (by omega), mu_ne (by omega), mu_ne (by omega), mu_eq]; rfl
          have m0 : M1 0 = M 0 := by rw [k4 0 (by decide), mu_ne (by decide), mu_ne (by decide)]
          refine h.sht (fun q a b => by rw [g3 q (by omega), mu_ne (by omega), mu_ne (by omega), mu_ne (by omega)]) (fun q a b => by unfold Pq at a; rw [mu_ne (by omega), k4 q (by omega), mu_ne (by omega), mu_ne (by omega)]) (fun i hi => by rw [mu_eq, upd_n (by omega), m0]) ?_ ?_ ?_ ?_
          · refine h.2.1.set (j := j) (fun q a b c d => by rw [g3 q (by omega), mu_ne (by omega), mu_ne (by omega), mu_ne (by omega)]) (fun i hi => by rw [mu_ne (by decide), k4 21 (by decide), mu_ne (by decide), mu_eq, upd_n hi]) (fun i hi => by rw [mu_ne (by decide), k4 22 (by decide), mu_eq, upd_n hi, mu_ne (by decide)]) (fun i hi => by rw [mu_ne (by decide), k3 i hi, mu_ne (by decide), mu_ne (by decide)]) (Or.inr ⟨z, l, by omega, by omega, ?_, ?_, ?_, ?_, fun i hi => ?_⟩)
            · rw [g3 _ (by omega), ← hs, mu_eq, upd_n (by decide), mu_eq, upd_s]
            · rw [g3 _ (by omega), ← hs, mu_eq, upd_s]
            · rw [mu_ne (by decide), k4 21 (by decide), mu_ne (by decide), mu_eq, upd_s]
            · rw [mu_ne (by decide), k4 22 (by decide), mu_eq, upd_s]
            · have e1 := g2 i hi
              rw [show shd j + 1 = 30 + 2 * j by omega] at e1
              rw [e1]
              show 0 = mu M1 0 0 (nI 0) 23 (60 * j + i)
              rw [mu_ne (by decide), k2 i hi]
          · rw [a0, mu_eq, m0, upd_n (by decide), upd_n (by decide)]; exact h.2.2.1
          · rw [a0, mu_eq, m0, upd_n (by decide), upd_n (by decide)]; exact h.2.2.2.1
          · rw [a0, mu_eq, upd_s, upd_s]
        · rw [if_neg r4, if_neg r4]
          exact ⟨_, _, _, rfl, rfl, h.flt2 0 4⟩
      · rw [if_neg r3, if_neg r3]
        exact ⟨_, _, _, rfl, rfl, h.flt 0⟩
    · rw [bR_f r2, if_pos rfl, if_pos rfl]
      exact ⟨_, _, _, rfl, rfl, h.flt 0⟩
  · rw [bR_f r1, nb_f r1, if_pos rfl, if_neg one0]
    exact ⟨_, _, _, rfl, rfl, h.flt 0⟩
theorem nothing_s (o : Nat) (A : Mem) : d_X5_hasNothing o A = some (bI (A o 1 = -9)) := by
  unfold d_X5_hasNothing
  by_cases e : A o 1 = -9
  · rw [if_pos e, bI_t e]
  · rw [if_neg e, bI_f e]
theorem sim_lose {n : Nat} {A M : Mem} (h : Rel n A M) (v1 : Int32) : OkE n (d_X8_lose v1 A) (d_X9_lose v1 M) := by
  unfold d_X8_lose d_X9_lose dX8_lose_26j dX9_lose_23j d_X5_clear
  simp only [lm_eq, isSheet_s, nS_s, bd1_some, nothing_s]
  by_cases r1 : rg v1 4
  · rw [bR_t r1, nb_t r1, if_neg one0, if_pos rfl]
    obtain ⟨j, hj, rfl⟩ := rg_of (by omega) r1
    have b4 : inB (nI j) 4 = true := inB_t hj (by decide)
    have hs : shd j = 29 + 2 * j := rfl
    simp only [b4, if_true, cl (show j < 2 ^ 31 by omega)]
    have fin : Rel (n + 1) (mu (mu A (shd j) 1 (-9)) (shd j) 2 0) (mu M 21 j (-1)) := by
      refine h.sht (fun q a b => by rw [mu_ne (by omega), mu_ne (by omega)]) (fun q a b => by unfold Pq at a; rw [mu_ne (by omega)]) (fun i hi => by rw [mu_ne (by decide)]) ?_ ?_ ?_ ?_
      · refine h.2.1.set (j := j) (fun q a b c d => by rw [mu_ne (by omega), mu_ne (by omega)]) (fun i hi => by rw [mu_eq, upd_n hi]) (fun i hi => by rw [mu_ne (by decide)]) (fun i hi => by rw [mu_ne (by decide)]) (Or.inl ⟨?_, ?_, ?_⟩)
        · rw [← hs, mu_eq, upd_n (by decide), mu_eq, upd_s]
        · rw [← hs, mu_eq, upd_s]
        · rw [mu_eq, upd_s]
      · rw [mu_ne (by omega), mu_ne (by omega), mu_ne (by decide)]; exact h.2.2.1
      · rw [mu_ne (by omega), mu_ne (by omega), mu_ne (by decide)]; exact h.2.2.2.1
      · rw [mu_ne (by omega), mu_ne (by omega), mu_ne (by decide)]; exact h.2.2.2.2
    rcases h.2.1 j hj with ⟨q1, q2, q3⟩ | ⟨z, l, q1, q2, q3, q4, q5, q6, q7⟩
    · rw [hs, bI_t q1, if_neg one0, q3, if_neg (by decide)]
      exact ⟨_, _, _, rfl, rfl, by rw [← hs]; exact fin⟩
    · rw [hs, bI_f (by rw [q3]; exact nI_n9 (by omega)), if_pos rfl, q5, if_pos (nI_pos' (by omega))]
      exact ⟨_, _, _, rfl, rfl, by rw [← hs]; exact fin⟩
  · rw [bR_f r1, nb_f r1, if_pos rfl, if_neg one0]
    exact OkE.ee h (-1) rfl rfl
/-- n cells from i on, of z -/
def fcP (i m : Int32) (z : Nat) : Prop := 0 ≤ i.toInt ∧ 0 ≤ m.toInt ∧ i.toInt + m.toInt ≤ (z : Int)
theorem fc_s {o z : Nat} {A : Mem} (hz : z ≤ 60) (h : A o 2 = nI z) (i m : Int32) : ((fcP i m z) → d_X5_faultOfCells o i m A = some 0) ∧ (¬ (fcP i m z) → d_X5_faultOfCells o i m A = some 3) := by
  have e0 : (0 : Int32).toInt = 0 := by decide
  have ez : (nI z).toInt = z := nI_toInt (by omega)
  unfold d_X5_faultOfCells
  rw [h]
  by_cases a : i < 0
  · have a1 := Int32.lt_iff_toInt_lt.mp a
    rw [if_pos a]
    exact ⟨fun q => by unfold fcP at q; omega, fun _ => rfl⟩
  · have a1 : ¬ i.toInt < 0 := fun q => a (Int32.lt_iff_toInt_lt.mpr (by omega))
    rw [if_neg a]
    by_cases b : nI z < i
    · have b1 := Int32.lt_iff_toInt_lt.mp b
      rw [if_pos b]
      refine ⟨fun q => ?_, fun _ => rfl⟩
      unfold fcP at q
      omega
    · have b1 : ¬ (z : Int) < i.toInt := fun q => b (Int32.lt_iff_toInt_lt.mpr (by omega))
      rw [if_neg b]
      by_cases d : m < 0
      · have d1 := Int32.lt_iff_toInt_lt.mp d
        rw [if_pos d]
        exact ⟨fun q => by unfold fcP at q; omega, fun _ => rfl⟩
      · have d1 : ¬ m.toInt < 0 := fun q => d (Int32.lt_iff_toInt_lt.mpr (by omega))
        rw [if_neg d]
        obtain ⟨x, hx, rfl⟩ : ∃ x : Nat, x < z + 1 ∧ i = nI x := rg_of (by omega) ⟨by omega, by omega⟩
        have ex : (nI x).toInt = x := nI_toInt (by omega)
        rw [pk_sub (by omega)]
        have es : (nI (z - x)).toInt = ((z - x : Nat) : Int) := nI_toInt (by omega)
        by_cases g : m ≤ nI (z - x)
        · have g1 := Int32.le_iff_toInt_le.mp g
          rw [if_pos g]
          exact ⟨fun _ => rfl, fun q => absurd (show fcP (nI x) m z by unfold fcP; omega) q⟩
        · have g1 : ¬ m.toInt ≤ (nI (z - x)).toInt := fun q => g (Int32.le_iff_toInt_le.mpr q)
          rw [if_neg g]
          exact ⟨fun q => by unfold fcP at q; omega, fun _ => rfl⟩
