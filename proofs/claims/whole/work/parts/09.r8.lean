/-! give, round, kept -/
theorem ch1 {α : Type} {v : Int32} (h : 1 ≤ v.toInt ∧ v.toInt ≤ 9) (X Y : α) : (if v < (1 : Int32) then X else if v ≤ (9 : Int32) then Y else X) = Y := by
  have i1 : (1 : Int32).toInt = 1 := by decide
  have i9 : (9 : Int32).toInt = 9 := by decide
  rw [if_neg (fun q => by have := Int32.lt_iff_toInt_lt.mp q; omega), if_pos (Int32.le_iff_toInt_le.mpr (by omega))]
theorem ch1n {α : Type} {v : Int32} (h : ¬ (1 ≤ v.toInt ∧ v.toInt ≤ 9)) (X Y : α) : (if v < (1 : Int32) then X else if v ≤ (9 : Int32) then Y else X) = X := by
  have i1 : (1 : Int32).toInt = 1 := by decide
  have i9 : (9 : Int32).toInt = 9 := by decide
  by_cases a : v < 1
  · rw [if_pos a]
  · rw [if_neg a, if_neg (fun q => by
      have q1 := Int32.le_iff_toInt_le.mp q
      have : ¬ v.toInt < 1 := fun q => a (Int32.lt_iff_toInt_lt.mpr (by omega))
      omega)]
theorem bt_hi {s k : Nat} (h : s < 2 ^ k) : bt s k = 0 := by
  unfold bt
  rw [Nat.div_eq_of_lt h]
theorem upc {α : Type} (f : Nat → α) (k : Nat) (v : α) (i : Nat) : va_up f k v i = if i = k then v else f i := rfl
theorem sim_give {n : Nat} {A M : Mem} (h : Rel n A M) (v1 v2 v3 v4 : Int32) : OkE n (d_X8_give v1 v2 v3 v4 A) (d_X9_give v1 v2 v3 v4 M) := by
  obtain ⟨⟨c, k, kd, fr, to, cv, w, wk, s, hTw⟩, hSh, h6, h7, h8⟩ := id h
  obtain ⟨hT, hck, hXS, hXC, hXW, hMS, hMC, hMW, hs, hwk, hRd⟩ := id hTw
  have hc := hT.1
  have hk := hT.2.1
  unfold d_X8_give d_X9_give
  rw [isKind_s, bd1_some, inR_s (n := 3) (by decide) (by decide), bd1_some]
  by_cases r1 : rg v1 3
  · rw [bR_t r1, if_neg one0, if_neg one0, in_s, bd1_some, Int32.toInt_toInt64]
    have e1 : (1 : Int64).toInt = 1 := by decide
    have e9 : (9 : Int64).toInt = 9 := by decide
    by_cases r4 : 1 ≤ v4.toInt ∧ v4.toInt ≤ 9
    · rw [bI_t (by omega), if_neg one0, ch1 r4, Xhas_s (by omega) hXS.1, bd1_some, nC_s (by omega) hMS.1, bd1_some]
      by_cases r2 : rg v2 c
      · rw [bR_t r2, nb_t r2, if_neg one0, if_pos rfl, Xhas_s (by omega) hXS.1, bd1_some, nC_s (by omega) hMS.1, bd1_some]
        by_cases r3 : rg v3 c
        · rw [bR_t r3, nb_t r3, if_neg one0, if_pos rfl, hXC.1, hMC.1]
          by_cases e : k = 6
          · rw [e, if_neg (show ¬ nI 6 < (6 : Int32) by decide), if_pos (show nI 6 = (6 : Int32) by decide)]
            exact OkE.ee h (-4) rfl rfl
          · have hk5 : k < 6 := by omega
            rw [if_pos (show nI k < (6 : Int32) from nI_lt hk5 (by decide)), if_neg (fun q => e ((nI_eq (by omega) (by omega)).mp (q.trans (show (6 : Int32) = nI 6 from rfl))))]
            obtain ⟨a1, h1, rfl⟩ := rg_of (by omega) r1
            obtain ⟨a2, h2, rfl⟩ := rg_of (by omega) r2
            obtain ⟨a3, h3, rfl⟩ := rg_of (by omega) r3
            obtain ⟨a4, h4, rfl⟩ : ∃ a4 : Nat, a4 < 10 ∧ v4 = nI a4 := rg_of (by omega) ⟨by omega, by omega⟩
            rw [nI_toInt (show a4 < 2 ^ 31 by omega)] at r4
            have b6 : inB (nI k) 6 = true := inB_t hk5 (by decide)
            have hf : ft 6 k = 8 + k := by unfold ft; omega
            unfold d_X0_add
            simp only [hXC.1, hMC.1, if_pos (show nI k < (6 : Int32) from nI_lt hk5 (by decide)), b6, if_true, cl (show k < 2 ^ 31 by omega), lm_eq, bd1_some, mu_ne (show (6 : Nat) ≠ ft 6 k by omega), mu_ne (show (0 : Nat) ≠ 3 by decide), mu_ne (show (0 : Nat) ≠ 4 by decide), mu_ne (show (0 : Nat) ≠ 5 by decide), mu_ne (show (0 : Nat) ≠ 6 by decide), mu_ne (show (0 : Nat) ≠ 7 by decide), mu_eq, upd_s, nI_1, nI_pred]
            have aq : ∀ q, q ≠ 8 + k → q ≠ 6 → mu (mu (mu (mu (mu (mu (mu A (ft 6 k) 0 (nI a1)) (ft 6 k) 1 (nI a2)) (ft 6 k) 2 (nI a3)) (ft 6 k) 3 (nI a4)) (ft 6 k) 4 0) (ft 6 k) 5 0) 6 1 (nI (k + 1)) q = A q := fun q x y => by
              rw [mu_ne y, mu_ne (by omega), mu_ne (by omega), mu_ne (by omega), mu_ne (by omega), mu_ne (by omega), mu_ne (by omega)]
            have mq : ∀ q, q ≠ 0 → (q < 3 ∨ 7 < q) → mu (mu (mu (mu (mu (mu M 3 k (nI a1)) 4 k (nI a2)) 5 k (nI a3)) 6 k (nI a4)) 7 k 0) 0 2 (nI (k + 1)) q = M q := fun q x y => by
              rw [mu_ne x, mu_ne (by omega), mu_ne (by omega), mu_ne (by omega), mu_ne (by omega), mu_ne (by omega)]
            have m0 : ∀ j, j ≠ 2 → mu (mu (mu (mu (mu (mu M 3 k (nI a1)) 4 k (nI a2)) 5 k (nI a3)) 6 k (nI a4)) 7 k 0) 0 2 (nI (k + 1)) 0 j = M 0 j := fun j x => by
              rw [mu_eq, upd_n x, mu_ne (by decide), mu_ne (by decide), mu_ne (by decide), mu_ne (by decide), mu_ne (by decide)]
            have hb : s < 2 ^ (k + 1) := by rw [Nat.pow_succ]; omega
            refine ⟨nI k, _, _, rfl, rfl, ⟨c, k + 1, va_up kd k a1, va_up fr k a2, va_up to k a3, va_up cv k a4, w, va_up wk k 0, s, ⟨hc, by omega, fun i hi => ?_, hT.2.2.2⟩, by omega, ⟨by rw [aq 2 (by omega) (by decide)]; exact hXS.1, by rw [aq 3 (by omega) (by decide)]; exact hXS.2.1, by rw [aq 4 (by omega) (by decide)]; exact hXS.2.2⟩, ⟨by rw [mu_eq, upd_s], fun i hi => ?_⟩, fun i hi => ?_, ⟨by rw [m0 1 (by decide)]; exact hMS.1, by rw [mq 1 (by decide) (by decide)]; exact hMS.2.1, by rw [mq 2 (by decide) (by decide)]; exact hMS.2.2⟩, ⟨by rw [mu_eq, upd_s], fun i hi => ?_⟩, ⟨by rw [m0 4 (by decide)]; exact hMW.1, fun i hi => ?_⟩, hb, fun i hi => ?_, ?_⟩, ?_, ?_, ?_, ?_⟩
            · simp only [upc]
              by_cases q : i = k
              · subst q; simp only [if_true]; exact ⟨by omega, h2, h3, r4.1 |> fun z => by omega, by omega⟩
              · simp only [if_neg q]; exact hT.2.2.1 i (by omega)
            · by_cases q : i = k
              · subst q
                rw [mu_ne (show ft 6 i ≠ 6 by omega), mu_eq, mu_eq, mu_eq, mu_eq, mu_eq, mu_eq]
                simp only [upd_ap, upc, if_true]
                exact ⟨rfl, rfl, rfl, rfl⟩
              · rw [aq (ft 6 i) (by unfold ft; omega) (by unfold ft; omega)]
                simp only [upc, if_neg q]
                exact hXC.2 i (by omega)
            · by_cases q : i = k
              · subst q
                rw [mu_ne (show ft 6 i ≠ 6 by omega), mu_eq, mu_eq, mu_eq, mu_eq, mu_eq, mu_eq, bt_hi hs]
                simp only [upd_ap, upc, if_true]
                exact ⟨rfl, rfl⟩
              · rw [aq (ft 6 i) (by unfold ft; omega) (by unfold ft; omega)]
                simp only [upc, if_neg q]
                exact hXW i (by omega)
            · rw [mu_ne (show (3 : Nat) ≠ 0 by decide), mu_ne (show (3 : Nat) ≠ 7 by decide), mu_ne (show (3 : Nat) ≠ 6 by decide), mu_ne (show (3 : Nat) ≠ 5 by decide), mu_ne (show (3 : Nat) ≠ 4 by decide), mu_eq, mu_ne (show (4 : Nat) ≠ 0 by decide), mu_ne (show (4 : Nat) ≠ 7 by decide), mu_ne (show (4 : Nat) ≠ 6 by decide), mu_ne (show (4 : Nat) ≠ 5 by decide), mu_eq, mu_ne (show (5 : Nat) ≠ 0 by decide), mu_ne (show (5 : Nat) ≠ 7 by decide), mu_ne (show (5 : Nat) ≠ 6 by decide), mu_eq, mu_ne (show (6 : Nat) ≠ 0 by decide), mu_ne (show (6 : Nat) ≠ 7 by decide), mu_eq, mu_ne (show (4 : Nat) ≠ 3 by decide), mu_ne (show (5 : Nat) ≠ 4 by decide), mu_ne (show (5 : Nat) ≠ 3 by decide), mu_ne (show (6 : Nat) ≠ 5 by decide), mu_ne (show (6 : Nat) ≠ 4 by decide), mu_ne (show (6 : Nat) ≠ 3 by decide)]
              simp only [upd_ap, upc]
              by_cases q : i = k
              · simp only [if_pos q]; refine ⟨?_, ?_, ?_, ?_⟩ <;> first | rfl | trivial
              · simp only [if_neg q]; exact hMC.2 i (by omega)
            · rw [mu_ne (show (7 : Nat) ≠ 0 by decide), mu_eq, mu_ne (show (7 : Nat) ≠ 6 by decide), mu_ne (show (7 : Nat) ≠ 5 by decide), mu_ne (show (7 : Nat) ≠ 4 by decide), mu_ne (show (7 : Nat) ≠ 3 by decide)]
              simp only [upd_ap, upc]
              by_cases q : i = k
              · simp only [if_pos q]; rfl
              · simp only [if_neg q]; exact hMW.2 i (by omega)
            · simp only [upc]
              by_cases q : i = k
              · simp only [if_pos q]; omega
              · simp only [if_neg q]; have := hwk i (by omega); omega
            · obtain ⟨r, wh, dy, vl, hr, hr1, hr2, hr3⟩ := hRd
              refine ⟨r, wh, dy, vl, hr, by rw [aq 25 (by omega) (by decide)]; exact hr1, by rw [m0 30 (by decide)]; exact hr2, fun j hj => ?_⟩
              rw [aq 26 (by omega) (by decide), aq 27 (by omega) (by decide), aq 28 (by omega) (by decide), mq 18 (by decide) (by decide), mq 19 (by decide) (by decide), mq 20 (by decide) (by decide)]
              obtain ⟨g1, g2⟩ := hr3 j hj
              exact ⟨by omega, g2⟩
            · exact hSh.cong (fun q x y => aq q (by omega) (by omega)) (fun q x y => mq q (by omega) (by omega))
            · rw [aq 0 (by omega) (by decide), m0 3 (by decide)]; exact h6
            · rw [aq 0 (by omega) (by decide), m0 38 (by decide)]; exact h7
            · rw [aq 0 (by omega) (by decide), m0 0 (by decide)]; exact h8
        · rw [bR_f r3, nb_f r3, if_pos rfl, if_neg one0]
          exact OkE.ee h (-1) rfl rfl
      · rw [bR_f r2, nb_f r2, if_pos rfl, if_neg one0]
        exact OkE.ee h (-1) rfl rfl
    · rw [bI_f (by omega), if_pos rfl, ch1n r4]
      exact OkE.ee h (-2) rfl rfl
  · rw [bR_f r1, if_pos rfl, if_pos rfl]
    exact OkE.ee h (-2) rfl rfl
theorem fw_576 {c a b : Nat} {w : Nat → Nat → Nat} (hc : c ≤ 6) (hw : ∀ x y, w x y ≤ 9) (h : fw w c a b < INF) : fw w c a b ≤ 576 := by
  have h1 := fw_fin hw c a b h
  have h2 : 2 ^ c ≤ 2 ^ 6 := Nat.pow_le_pow_right (by decide) hc
  omega
theorem sim_round {n : Nat} {A M : Mem} (h : Rel n A M) (v1 v2 : Int32) : OkE n (wM A (d_X8_round v1 v2 A)) (wM M (d_X9_round v1 v2 M)) := by
  obtain ⟨⟨c, k, kd, fr, to, cv, w, wk, s, hTw⟩, hSh, h6, h7, h8⟩ := id h
  obtain ⟨hT, hck, hXS, hXC, hXW, hMS, hMC, hMW, hs, hwk, hRd⟩ := id hTw
  have hc := hT.1
  have hk := hT.2.1
  have hw := hT.2.2.2.1
  unfold d_X8_round d_X9_round
  rw [Chas_s (by omega) hXC.1, bd1_some, nF_s (by omega) hMC.1, bd1_some]
  by_cases r1 : rg v1 k
  · rw [bR_t r1, nb_t r1, if_neg one0, if_pos rfl, Xhas_s (by omega) hXS.1, bd1_some, nC_s (by omega) hMS.1, bd1_some]
    by_cases r2 : rg v2 c
    · obtain ⟨i, hi, rfl⟩ := rg_of (by omega) r1
      obtain ⟨b, hb, rfl⟩ := rg_of (by omega) r2
      obtain ⟨f1, f2, f3, f4, f5⟩ := hT.2.2.1 i hi
      obtain ⟨e0, e1, e2, e3⟩ := hXC.2 i hi
      obtain ⟨m0, m1, m2, m3⟩ := hMC.2 i hi
      have b6 : inB (nI i) 6 = true := inB_t (show i < 6 by omega) (by decide)
      rw [bR_t r2, nb_t r2, if_neg one0, if_pos rfl]
      simp only [b6, if_true, cl (show i < 2 ^ 31 by omega), e1, e2, m1, m2, distance_s hc hw hXS f2 f3, distance_s hc hw hXS f2 hb, distance_s hc hw hXS hb f3, farFrom_s hc hMS f2 f3, farFrom_s hc hMS f2 hb, farFrom_s hc hMS hb f3, bd1_some]
      by_cases g1 : fw w c (fr i) b < INF
      · by_cases g2 : fw w c b (to i) < INF
        · have t := fw_tri w c b (fr i) (to i) hb
          have u1 := fw_576 hc hw g1
          have u2 := fw_576 hc hw g2
          have g3 : fw w c (fr i) (to i) < INF := by rw [INF_v]; omega
          refine OkE.pp h (dI (fw w c (fr i) b) + dI (fw w c b (to i)) - dI (fw w c (fr i) (to i))) ?_ ?_
          · rw [if_neg (fun q => (dI_9.mp q) g3), if_neg (fun q => (dI_9.mp q) g1), if_neg (fun q => (dI_9.mp q) g2)]
          · rw [if_neg (fun q => (dI_neg.mp q) g1), if_pos (by rw [dI_f g2]; exact nI_pos' (by omega))]
        · refine OkE.pp h (-9) ?_ ?_
          · by_cases g3 : fw w c (fr i) (to i) < INF
            · rw [if_neg (fun q => (dI_9.mp q) g3), if_neg (fun q => (dI_9.mp q) g1), if_pos (dI_9.mpr g2)]
            · rw [if_pos (dI_9.mpr g3)]
          · rw [if_neg (fun q => (dI_neg.mp q) g1), if_neg (by rw [dI_n g2]; decide)]
      · refine OkE.pp h (-9) ?_ ?_
        · by_cases g3 : fw w c (fr i) (to i) < INF
          · rw [if_neg (fun q => (dI_9.mp q) g3), if_pos (dI_9.mpr g1)]
          · rw [if_pos (dI_9.mpr g3)]
        · rw [if_pos (dI_neg.mpr g1)]
    · rw [bR_f r2, nb_f r2, if_pos rfl, if_neg one0]
      exact OkE.pp h (-1) rfl rfl
  · rw [bR_f r1, nb_f r1, if_pos rfl, if_neg one0]
    exact OkE.pp h (-1) rfl rfl
/-- M2 walks on from M, of which it keeps how it was -/
def MK (k : Nat) (M M2 : Mem) : Prop := (∀ q, Pq q → q ≠ 7 → M2 q = M q) ∧ (∀ j, k ≤ j → M2 7 j = M 7 j) ∧ (∀ j, j ≠ 3 → j ≠ 4 → j ≠ 20 → j ≠ 21 → j ≠ 23 → M2 0 j = M 0 j) ∧ M2 0 20 = M 0 4 ∧ M2 0 21 = M 0 3 ∧ ∀ i, i < k → M2 13 i = M 7 i
theorem keepAll_s {k : Nat} {M : Mem} (hk : k ≤ 6) (h : M 0 2 = nI k) : ∃ M1 : Mem, d_X9_keepAll M = some M1 ∧ MK k M M1 ∧ (∀ q, q ≠ 13 → q ≠ 0 → M1 q = M q) ∧ (∀ j, j ≠ 20 → j ≠ 21 → M1 0 j = M 0 j) := by
  have key : ∀ n i f (B : Mem), i + n = k → n < f → (∀ q, q ≠ 13 → B q = (mu (mu M 0 20 (M 0 4)) 0 21 (M 0 3)) q) → (∀ j, j < i → B 13 j = M 7 j) → ∃ B1 : Mem, dX9_keepAll_18l f (nI i) B = some B1 ∧ (∀ q, q ≠ 13 → B1 q = (mu (mu M 0 20 (M 0 4)) 0 21 (M 0 3)) q) ∧ ∀ j, j < k → B1 13 j = M 7 j := by
    intro n
    induction n with
    | zero =>
      intro i f B hi hf hq hv
      obtain ⟨f, rfl⟩ : ∃ f1, f = f1 + 1 := ⟨f - 1, by omega⟩
      have e : i = k := by omega
      subst e
      rw [dX9_keepAll_18l, hq 0 (by decide), mu_eq, upd_n (by decide), mu_eq, upd_n (by decide), h, if_pos (le_t (Nat.le_refl _) (by omega))]
      exact ⟨B, rfl, hq, hv⟩
    | succ n ih =>
      intro i f B hi hf hq hv
      obtain ⟨f, rfl⟩ : ∃ f1, f = f1 + 1 := ⟨f - 1, by omega⟩
      have b6 : inB (nI i) 6 = true := inB_t (show i < 6 by omega) (by decide)
      rw [dX9_keepAll_18l, hq 0 (by decide), mu_eq, upd_n (by decide), mu_eq, upd_n (by decide), h, if_neg (le_f (by omega) (by omega)), if_pos b6, if_pos b6, cl (by omega), lm_eq, nI_1, hq 7 (by decide), mu_ne (by decide), mu_ne (by decide)]
      refine ih (i + 1) f _ (by omega) (by omega) (fun q hq2 => by rw [mu_ne hq2]; exact hq q hq2) (fun j hj => ?_)
      rw [mu_eq, upd_ap]
      by_cases e : j = i
      · rw [if_pos e, e]
      · rw [if_neg e]; exact hv j (by omega)
  obtain ⟨B, h1, h2, h3⟩ := key k 0 FU (mu (mu M 0 20 (M 0 4)) 0 21 (M 0 3)) (by omega) (show k < 2000 by omega) (fun _ _ => rfl) (fun j hj => by omega)
  have h0 : ∀ j, j ≠ 20 → j ≠ 21 → B 0 j = M 0 j := fun j a b => by rw [h2 0 (by decide), mu_eq, upd_n b, mu_eq, upd_n a]
  have hq : ∀ q, q ≠ 13 → q ≠ 0 → B q = M q := fun q a b => by rw [h2 q a, mu_ne b, mu_ne b]
  refine ⟨B, ?_, ⟨fun q a _ => by unfold Pq at a; exact hq q (by omega) (by omega), fun j _ => by rw [hq 7 (by decide) (by decide)], fun j _ _ a b _ => h0 j a b, ?_, ?_, h3⟩, hq, h0⟩
  · unfold d_X9_keepAll
    rw [lm_eq, lm_eq, mu_eq, upd_n (by decide)]
    exact h1
  · rw [h2 0 (by decide), mu_eq, upd_n (by decide), mu_eq, upd_s]
  · rw [h2 0 (by decide), mu_eq, upd_s]
theorem bringBack_s {k : Nat} {M M2 : Mem} (hk : k ≤ 6) (h : M 0 2 = nI k) (hM : MK k M M2) : ∃ M3 : Mem, d_X9_bringBack M2 = some M3 ∧ (∀ q, Pq q → M3 q = M q) ∧ ∀ j, j ≠ 20 → j ≠ 21 → j ≠ 23 → M3 0 j = M 0 j := by
  obtain ⟨k1, k2, k3, k4, k5, k6⟩ := hM
  have hB : ∀ n i f (B : Mem), i + n = k → n < f → (∀ q, q ≠ 7 → B q = (mu (mu M2 0 4 (M 0 4)) 0 3 (M 0 3)) q) → (∀ j, B 7 j = if j < i then M 7 j else M2 7 j) → ∃ B1 : Mem, dX9_bringBack_18l f (nI i) B = some B1 ∧ (∀ q, q ≠ 7 → B1 q = (mu (mu M2 0 4 (M 0 4)) 0 3 (M 0 3)) q) ∧ ∀ j, B1 7 j = if j < k then M 7 j else M2 7 j := by
    intro n
    induction n with
    | zero =>
      intro i f B hi hf hq hv
      obtain ⟨f, rfl⟩ : ∃ f1, f = f1 + 1 := ⟨f - 1, by omega⟩
      have e : i = k := by omega
      subst e
      rw [dX9_bringBack_18l, hq 0 (by decide), mu_eq, upd_n (by decide), mu_eq, upd_n (by decide), k3 2 (by decide) (by decide) (by decide) (by decide) (by decide), h, if_pos (le_t (Nat.le_refl _) (by omega))]
      exact ⟨B, rfl, hq, hv⟩
    | succ n ih =>
      intro i f B hi hf hq hv
      obtain ⟨f, rfl⟩ : ∃ f1, f = f1 + 1 := ⟨f - 1, by omega⟩
      have b6 : inB (nI i) 6 = true := inB_t (show i < 6 by omega) (by decide)
      rw [dX9_bringBack_18l, hq 0 (by decide), mu_eq, upd_n (by decide), mu_eq, upd_n (by decide), k3 2 (by decide) (by decide) (by decide) (by decide) (by decide), h, if_neg (le_f (by omega) (by omega)), if_pos b6, if_pos b6, cl (by omega), lm_eq, nI_1, hq 13 (by decide), mu_ne (by decide), mu_ne (by decide), k6 i (by omega)]
      refine ih (i + 1) f _ (by omega) (by omega) (fun q hq2 => by rw [mu_ne hq2]; exact hq q hq2) (fun j => ?_)
      rw [mu_eq, upd_ap]
      by_cases e : j = i
      · subst e; rw [if_pos rfl, if_pos (by omega)]
      · rw [if_neg e, hv j]
        by_cases q : j < i
        · rw [if_pos q, if_pos (by omega)]
        · rw [if_neg q, if_neg (by omega)]
  obtain ⟨B, h1, h2, h3⟩ := hB k 0 FU (mu (mu M2 0 4 (M 0 4)) 0 3 (M 0 3)) (by omega) (show k < 2000 by omega) (fun _ _ => rfl) (fun j => by rw [mu_ne (by decide), mu_ne (by decide), if_neg (by omega)])
  refine ⟨B, ?_, fun q hq => ?_, fun j a b d => ?_⟩
  · unfold d_X9_bringBack
    rw [lm_eq, lm_eq, k4, mu_eq, upd_n (by decide), k5]
    exact h1
  · by_cases e : q = 7
    · subst e
      funext j
      rw [h3 j]
      by_cases z : j < k
      · rw [if_pos z]
      · rw [if_neg z]; exact k2 j (by omega)
    · unfold Pq at hq
      rw [h2 q e, mu_ne (by omega), mu_ne (by omega)]
      exact k1 q (by unfold Pq; omega) e
  · rw [h2 0 (by decide), mu_eq, upd_ap]
    by_cases e : j = 3
    · subst e; rw [if_pos rfl]
    · rw [if_neg e, mu_eq, upd_ap]
      by_cases g : j = 4
      · subst g; rw [if_pos rfl]
      · rw [if_neg g]; exact k3 j e g a b d
theorem MK.F {k : Nat} {M A B : Mem} (h : MK k M A) (g : MF k A B) : MK k M B := by
  obtain ⟨k1, k2, k3, k4, k5, k6⟩ := h
  refine ⟨fun q a b => ?_, fun j hj => ?_, fun j a b c d e => ?_, ?_, ?_, fun i hi => ?_⟩
  · rw [g.1 q b (by unfold Pq at a; omega)]; exact k1 q a b
  · rw [g.2.1 j hj]; exact k2 j hj
  · rw [g.2.2 j a]; exact k3 j a b c d e
  · rw [g.2.2 20 (by decide)]; exact k4
  · rw [g.2.2 21 (by decide)]; exact k5
  · rw [g.1 13 (by decide) (by decide)]; exact k6 i hi
