/-! season: a turn, the doubles, the play -/
theorem XC.t {k i : Nat} {kd fr to cv : Nat → Nat} {B : Mem} (h : XC 15 k kd fr to cv B) (x : Int32) : XC 15 k kd fr to cv (mu B (ft 15 i) 5 x) := by
  refine ⟨by rw [mu_ne (by rw [ft15]; omega)]; exact h.1, fun j hj => ?_⟩
  by_cases q : j = i
  · subst q; rw [mu_eq, upd_n (by decide), upd_n (by decide), upd_n (by decide), upd_n (by decide)]; exact h.2 j hj
  · rw [mu_ne (by rw [ft15, ft15]; omega)]; exact h.2 j hj
theorem XW.t {k i s s1 v : Nat} {wk : Nat → Nat} {B : Mem} (h : XW 15 k wk (bt s) B) (hb : ∀ j, j < k → bt s1 j = if j = i then v else bt s j) : XW 15 k wk (bt s1) (mu B (ft 15 i) 5 (nI v)) := fun j hj => by
  have hb := hb j hj
  by_cases q : j = i
  · subst q; rw [mu_eq, upd_n (by decide), upd_s, hb, if_pos rfl]; exact ⟨(h j hj).1, rfl⟩
  · rw [mu_ne (by rw [ft15, ft15]; omega), hb, if_neg q]; exact h j hj
theorem PS_turn {c k i v d : Nat} {kd fr to cv wk0 : Nat → Nat} {w : Nat → Nat → Nat} {bd : Nat} {A M B N : Mem} {W0 ff : Int32} (hk : k ≤ 6) (hi : i < k) (hv : v ≤ 1) (h : PS c k kd fr to cv w wk0 bd A M W0 d ff B N) : ∃ r B1 N1, d_X0_turn 15 (nI i) (nI v) B = some (r, B1) ∧ d_X9_did (nI i) (nI (1 - v)) N = some (r, N1) ∧ (r = 0 ∨ r = 1) ∧ PS c k kd fr to cv w wk0 bd A M W0 d ff B1 N1 := by
  have hp : 2 ^ k ≤ 2 ^ 6 := Nat.pow_le_pow_right (by decide) hk
  obtain ⟨wk, s, hs, hwk, hXS, hXC, hXW, hMS, hMC, hMW, hMK, hfr, hg, hN3, hx23⟩ := id h
  have fin : ∀ s1, s1 < 2 ^ k → (∀ j, j < k → bt s1 j = if j = i then v else bt s j) → PS c k kd fr to cv w wk0 bd A M W0 d ff (mu B (ft 15 i) 5 (nI v)) (mu N 0 4 (nI s1)) := by
    intro s1 h1 hb
    have q14 : ∀ q, q < 17 ∨ 22 < q → mu B (ft 15 i) 5 (nI v) q = B q := fun q hq => mu_ne (by rw [ft15]; omega)
    refine ⟨wk, s1, h1, hwk, hXS.f (fun q hq => q14 q (by omega)), hXC.t _, hXW.t hb, hMS.z (by decide) _, hMC.z (by decide) _, ⟨by rw [mu_eq, upd_s], by rw [mu_ne (by decide)]; exact hMW.2⟩, hMK.z (by omega) _, fun q hq => by rw [q14 q (by omega)]; exact hfr q hq, ?_, by rw [mu_eq, upd_n (by decide)]; exact hN3, by rw [mu_eq, upd_n (by decide)]; exact hx23⟩
    rw [q14 14 (by decide), mu_eq, upd_n (by decide)]
    exact hg
  have same : ∀ x : Int32, x = nI s → PS c k kd fr to cv w wk0 bd A M W0 d ff B (mu N 0 4 x) := fun x hx => by rw [mu_id (hMW.1.trans hx.symm)]; exact h
  rw [turn_s hk hXC hXW hi hv]
  unfold d_X9_did
  rcases (show v = 0 ∨ v = 1 by omega) with e | e
  · subst e
    rw [if_neg (show ¬ nI (1 - 0) = (0 : Int32) by decide), if_pos (show nI (1 - 0) = (1 : Int32) from rfl)]
    unfold d_X9_rose
    rw [hMW.1, isIn_s (by omega) (by omega), bd1_some, lm_eq, clr_dec s (by omega) i (by omega), if_pos bI_Z]
    rcases (show bt s i = 0 ∨ bt s i = 1 by have := bt_le s i; omega) with e | e
    · rw [if_pos e, bI_f (by omega), bd2_some, if_pos (by decide)]
      exact ⟨0, B, _, rfl, rfl, Or.inl rfl, same _ (by rw [e]; simp)⟩
    · rw [if_neg (by omega), bI_t e, bd2_some, if_pos (by decide)]
      exact ⟨1, _, _, rfl, rfl, Or.inr rfl, fin _ (by omega) (fun j hj => sdn_dec s (by omega) i (by omega) j (by omega))⟩
  · subst e
    rw [if_pos (show nI (1 - 1) = (0 : Int32) from rfl)]
    unfold d_X9_sat dX9_sat_16j
    rw [hMW.1, isIn_s (by omega) (by omega), bd1_some, lm_eq, lm_eq, show (nI s ||| ((1 : Int32) <<< (nI i &&& 31))) = nI (s + (1 - bt s i) * 2 ^ i) from set_dec s (by omega) i (by omega)]
    rcases (show bt s i = 0 ∨ bt s i = 1 by have := bt_le s i; omega) with e | e
    · rw [if_neg (by omega), bI_f (by omega), if_pos rfl, if_pos (by decide), bd2_some, if_pos (by decide)]
      exact ⟨1, _, _, rfl, rfl, Or.inr rfl, fin _ (slt_dec k (by omega) s (by omega) i (by omega) hs hi) (fun j hj => sup_dec s (by omega) i (by omega) j (by omega))⟩
    · rw [if_pos e, bI_t e, if_neg one0, if_pos (by decide), bd2_some, if_pos (by decide)]
      exact ⟨0, B, _, rfl, rfl, Or.inl rfl, same _ (by rw [e]; simp)⟩
theorem ft6 (i : Nat) : ft 6 i = 8 + i := by unfold ft; omega
theorem copy_s {k s : Nat} {kd fr to cv wk : Nat → Nat} {A : Mem} (hk : k ≤ 6) (hC : XC 6 k kd fr to cv A) (hW : XW 6 k wk (bt s) A) : ∃ B, d_X0_copyFrom 15 6 A = some B ∧ (∀ q, q < 15 ∨ 22 < q → B q = A q) ∧ XC 15 k kd fr to cv B ∧ XW 15 k wk (bt s) B := by
  have key : ∀ m i f B, i + m = k → m < f → (∀ q, q < 15 ∨ 22 < q → B q = A q) → B 15 1 = nI k → (∀ j, j < i → (B (ft 15 j) 0 = nI (kd j) ∧ B (ft 15 j) 1 = nI (fr j) ∧ B (ft 15 j) 2 = nI (to j) ∧ B (ft 15 j) 3 = nI (cv j)) ∧ B (ft 15 j) 4 = nI (wk j) ∧ B (ft 15 j) 5 = nI (bt s j)) → ∃ B1, dX0_copyFrom_10l 15 6 f (nI i) B = some B1 ∧ (∀ q, q < 15 ∨ 22 < q → B1 q = A q) ∧ XC 15 k kd fr to cv B1 ∧ XW 15 k wk (bt s) B1 := by
    intro m
    induction m with
    | zero =>
      intro i f B hi hf hq h1 hj
      obtain ⟨f, rfl⟩ : ∃ f1, f = f1 + 1 := ⟨f - 1, by omega⟩
      have e : i = k := by omega
      subst e
      exact ⟨B, by rw [dX0_copyFrom_10l, h1, if_pos (le_t (Nat.le_refl _) (by omega))], hq, ⟨h1, fun j h => (hj j h).1⟩, fun j h => (hj j h).2⟩
    | succ m ih =>
      intro i f B hi hf hq h1 hj
      obtain ⟨f, rfl⟩ : ∃ f1, f = f1 + 1 := ⟨f - 1, by omega⟩
      have hik : i < k := by omega
      have b6 : inB (nI i) 6 = true := inB_t (show i < 6 by omega) (by decide)
      have ne : ft 6 i ≠ ft 15 i := by rw [ft6, ft15]; omega
      obtain ⟨e0, e1, e2, e3⟩ := hC.2 i hik
      obtain ⟨e4, e5⟩ := hW i hik
      have hA : B (ft 6 i) = A (ft 6 i) := hq _ (by rw [ft6]; omega)
      have hz : isZ (nI (bt s i)) = true := by
        rcases (show bt s i = 0 ∨ bt s i = 1 by have := bt_le s i; omega) with e | e <;> rw [e] <;> decide
      rw [dX0_copyFrom_10l, h1, if_neg (le_f hik (by omega)), if_pos b6, if_pos b6, cl (by omega)]
      unfold d_X2_copyFrom
      simp only [lm_eq, mu_ne ne, hA, e0, e1, e2, e3, e4, e5, hz, if_true, bd1_some, nI_1]
      refine ih (i + 1) f _ (by omega) (by omega) (fun q hq' => ?_) ?_ (fun j hji => ?_)
      · have n15 : q ≠ ft 15 i := by rw [ft15]; omega
        simp only [mu_ne n15]
        exact hq q hq'
      · have n15 : (15 : Nat) ≠ ft 15 i := by rw [ft15]; omega
        simp only [mu_ne n15]
        exact h1
      · by_cases z : j = i
        · subst z
          simp only [mu_eq]
          refine ⟨⟨?_, ?_, ?_, ?_⟩, ?_, ?_⟩ <;> simp [upd_ap]
        · have nj : ft 15 j ≠ ft 15 i := by rw [ft15, ft15]; omega
          simp only [mu_ne nj]
          exact hj j (by omega)
  unfold d_X0_copyFrom
  rw [lm_eq, hC.1]
  exact key k 0 FU _ (by omega) (show k < 2000 by omega) (fun q hq => mu_ne (by omega)) (by rw [mu_eq, upd_s]) (fun j hj => absurd hj (Nat.not_lt_zero _))
def actOK (k : Nat) (a b : Int32) : Prop := (b = 2 ∧ ∃ F, F ≤ 9 ∧ a = nI F) ∨ ∃ v p, v ≤ 1 ∧ p < k ∧ b = nI (1 - v) ∧ a = nI p
theorem play_l {c k j i n z : Nat} {kd fr to cv wk0 : Nat → Nat} {w : Nat → Nat → Nat} {bd : Nat} {A M : Mem} {W0 : Int32} (hT : TOK c k kd fr to cv w) (hbd : bd + 20000 < 2 ^ 31) (hj : j < 4) (hz : z ≤ 60) (hin : i + 2 * n ≤ z) (hA2 : A (29 + 2 * j) 2 = nI z) (hAM : ∀ y, y < z → A (29 + 2 * j + 1) y = M 23 (60 * j + y)) (hok : ∀ x, x < n → actOK k (M 23 (60 * j + (i + 2 * x))) (M 23 (60 * j + (i + 2 * x + 1)))) (v3 : Int32) (K : Int32 → Mem → Option (Int32 × Mem)) : ∀ m x d f f2 B N, x + m = n → m + 1 < f → m + 1 < f2 → d ≤ 9 * x → PS c k kd fr to cv w wk0 bd A M W0 d (-9) B N → ∃ ff B1 N1 d1, dX4_play_56l (29 + 2 * j) (nI i) (nI n) f (nI x) B = some B1 ∧ dX9_seasonBy_17l (nI (60 * j + i)) (nI n) v3 K f2 (-9) (nI x) N = K ff N1 ∧ d1 ≤ 1000 ∧ PS c k kd fr to cv w wk0 bd A M W0 d1 ff B1 N1 ∧ (ff = -9 ∨ ∃ y, y < n ∧ ff = nI y) := by
  have hk := hT.2.1
  intro m
  induction m with
  | zero =>
    intro x d f f2 B N hx hf hf2 hd h
    obtain ⟨f, rfl⟩ : ∃ f1, f = f1 + 1 := ⟨f - 1, by omega⟩
    obtain ⟨f2, rfl⟩ : ∃ f1, f2 = f1 + 1 := ⟨f2 - 1, by omega⟩
    have e : x = n := by omega
    subst e
    exact ⟨-9, B, N, d, by rw [dX4_play_56l, if_pos (le_t (Nat.le_refl _) (by omega))], by rw [dX9_seasonBy_17l, if_pos (le_t (Nat.le_refl _) (by omega))], by omega, h, Or.inl rfl⟩
  | succ m ih =>
    intro x d f f2 B N hx hf hf2 hd h
    obtain ⟨f, rfl⟩ : ∃ f1, f = f1 + 1 := ⟨f - 1, by omega⟩
    obtain ⟨f2, rfl⟩ : ∃ f1, f2 = f1 + 1 := ⟨f2 - 1, by omega⟩
    have hxn : x < n := by omega
    have hMK : MK k M N := by obtain ⟨wk, s, hs, hwk, hXS, hXC, hXW, hMS, hMC, hMW, hMK, hfr, hg, hN3, hx23⟩ := h; exact hMK
    have hfr : ∀ q, q < 14 ∨ 22 < q → B q = A q := by obtain ⟨wk, s, hs, hwk, hXS, hXC, hXW, hMS, hMC, hMW, hMK, hfr, hg, hN3, hx23⟩ := h; exact hfr
    have hg1 : B 14 1 = -9 := by obtain ⟨wk, s, hs, hwk, hXS, hXC, hXW, hMS, hMC, hMW, hMK, hfr, hg, hN3, hx23⟩ := h; exact hg.1
    have a1 : d_X5_at (29 + 2 * j) (nI (i + 2 * x)) B = some (M 23 (60 * j + (i + 2 * x))) := by
      rw [at_s hz (show i + 2 * x < z by omega) (by rw [hfr _ (by omega)]; exact hA2), hfr _ (by omega), hAM _ (by omega)]
    have a2 : d_X5_at (29 + 2 * j) (nI (i + 2 * x + 1)) B = some (M 23 (60 * j + (i + 2 * x + 1))) := by
      rw [at_s hz (show i + 2 * x + 1 < z by omega) (by rw [hfr _ (by omega)]; exact hA2), hfr _ (by omega), hAM _ (by omega)]
    have two : (2 : Int32) * nI x = nI (2 * x) := by rw [show (2 : Int32) = nI 2 from rfl, pk_mul]
    have i1 : nI i + (2 : Int32) * nI x = nI (i + 2 * x) := by rw [two, nI_add]
    have i2 : nI (60 * j + i) + (2 : Int32) * nI x = nI (60 * j + (i + 2 * x)) := by rw [two, nI_add, Nat.add_assoc]
    have b1 : inB (nI (60 * j + (i + 2 * x))) 240 = true := inB_t (show 60 * j + (i + 2 * x) < 240 by omega) (by decide)
    have b2 : inB (nI (60 * j + (i + 2 * x) + 1)) 240 = true := inB_t (show 60 * j + (i + 2 * x) + 1 < 240 by omega) (by decide)
    have N23 : N 23 = M 23 := hMK.1 23 (by unfold Pq; omega) (by decide)
    rw [dX4_play_56l, if_neg (le_f hxn (by omega)), if_pos hg1, i1, nI_1, a1, bd1_some, a2, bd1_some, dX9_seasonBy_17l, if_neg (le_f hxn (by omega)), if_neg (show ¬ (0 : Int32) ≤ -9 by decide), i2, show nI (60 * j + (i + 2 * x)) + (1 : Int32) = nI (60 * j + (i + 2 * x) + 1) from nI_1 _, if_pos b1, if_pos b2, cl (j := 60 * j + (i + 2 * x)) (by omega), cl (j := 60 * j + (i + 2 * x) + 1) (by omega), N23, nI_1]
    rcases hok x hxn with ⟨e2, F, hF, e1⟩ | ⟨v, p, hv, hp, e2, e1⟩
    · obtain ⟨B1, N1, p1, p2, p3⟩ := PS_days hT hbd hF F 0 d FU FU B N (by omega) (show F < 2000 by omega) (show F < 2000 by omega) (by omega) h
      have q1 : d_X4_passDays (nI F) B = some B1 := p1
      have q2 : d_X9_did (nI F) 2 N = some (1, N1) := by
        unfold d_X9_did
        rw [if_neg (by decide), if_neg (by decide)]
        exact p2
      rw [e1, show 60 * j + (i + 2 * x) + 1 = 60 * j + (i + 2 * x + 1) by omega, e2, if_pos rfl, q1, bd1_some, q2, bd2_some, if_neg one0]
      exact ih (x + 1) (d + F) f f2 B1 N1 (by omega) (by omega) (by omega) (by omega) p3
    · obtain ⟨r, B1, N1, p1, p2, p3, p4⟩ := PS_turn hk hp hv h
      have v2 : ¬ nI (1 - v) = (2 : Int32) := by rcases (show v = 0 ∨ v = 1 by omega) with e | e <;> subst e <;> decide
      have t1 : (if nI (1 - v) = (0 : Int32) then (dX4_play_130j (dX4_play_56l (29 + 2 * j) (nI i) (nI n) f) (29 + 2 * j) (nI i) (nI n) (nI x) (1 : Int32) (nI p) B) else (dX4_play_130j (dX4_play_56l (29 + 2 * j) (nI i) (nI n) f) (29 + 2 * j) (nI i) (nI n) (nI x) (0 : Int32) (nI p) B)) = dX4_play_130j (dX4_play_56l (29 + 2 * j) (nI i) (nI n) f) (29 + 2 * j) (nI i) (nI n) (nI x) (nI v) (nI p) B := by
        rcases (show v = 0 ∨ v = 1 by omega) with e | e <;> subst e
        · rw [if_neg (by decide)]; rfl
        · rw [if_pos (by decide)]; rfl
      rw [e1, show 60 * j + (i + 2 * x) + 1 = 60 * j + (i + 2 * x + 1) by omega, e2, if_neg v2, t1, p2, bd2_some]
      unfold dX4_play_130j
      rw [p1, bd2_some]
      rcases p3 with r0 | r1
      · rw [r0, if_pos rfl, if_pos rfl, lm_eq, nI_1]
        obtain ⟨f, rfl⟩ : ∃ f1, f = f1 + 1 := ⟨f - 1, by omega⟩
        obtain ⟨f2, rfl⟩ : ∃ f1, f2 = f1 + 1 := ⟨f2 - 1, by omega⟩
        refine ⟨nI x, mu B1 14 1 (nI x), N1, d, ?_, ?_, by omega, ?_, Or.inr ⟨x, hxn, rfl⟩⟩
        · rw [dX4_play_56l, mu_eq, upd_s, if_neg (nI_n9 (by omega))]
          split <;> rfl
        · rw [dX9_seasonBy_17l, if_pos (show (0 : Int32) ≤ nI x from nI_le (a := 0) (by omega) (by omega))]
          split <;> rfl
        · obtain ⟨wk, s, hs, hwk, hXS, hXC, hXW, hMS, hMC, hMW, hMK, hfr, hg, hN3, hx23⟩ := p4
          refine ⟨wk, s, hs, hwk, hXS.f (fun q hq => mu_ne (by omega)), hXC.g (m14 _ _), hXW.g (m14 _ _), hMS, hMC, hMW, hMK, fun q hq => by rw [mu_ne (by omega)]; exact hfr q hq, ?_, hN3, hx23⟩
          rw [mu_eq, upd_s, upd_n (by decide), upd_n (by decide), upd_n (by decide)]
          exact ⟨rfl, hg.2⟩
      · rw [r1, if_neg one0, if_neg one0, nI_1]
        exact ih (x + 1) d f f2 B1 N1 (by omega) (by omega) (by omega) (by omega) p4
