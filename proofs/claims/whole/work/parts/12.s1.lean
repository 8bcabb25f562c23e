/-! season: the doubles against the reference's own rows -/
def PS (c k : Nat) (kd fr to cv : Nat → Nat) (w : Nat → Nat → Nat) (wk0 : Nat → Nat) (bd : Nat) (A M : Mem) (W0 : Int32) (d : Nat) (ff : Int32) (B N : Mem) : Prop := ∃ (wk : Nat → Nat) (s : Nat), s < 2 ^ k ∧ (∀ i, i < k → wk0 i ≤ wk i ∧ wk i ≤ bd + 10 * d) ∧ XS c w B ∧ XC 15 k kd fr to cv B ∧ XW 15 k wk (bt s) B ∧ MS c w N ∧ MC k kd fr to cv N ∧ MW k wk s N ∧ MK k M N ∧ (∀ q, q < 14 ∨ 22 < q → B q = A q) ∧ (B 14 1 = ff ∧ B 14 2 = nI d ∧ B 14 3 = N 0 23 ∧ B 14 4 = W0) ∧ N 0 3 = M 0 3 + nI d ∧ (N 0 23 = -9 ∨ ∃ x, x < 2 ^ 20 ∧ N 0 23 = nI x)
theorem all_s {c k o : Nat} {kd fr to cv wk st : Nat → Nat} {w : Nat → Nat → Nat} {A : Mem} {bd : Nat} (hT : TOK c k kd fr to cv w) (hS : XS c w A) (hC : XC o k kd fr to cv A) (hW : XW o k wk st A) (hB : WOK k bd wk st) (hbd : bd < 2 ^ 31) : d_X0_allArrived o A = some (if nI (ctb (arB c fr to w wk) k) = nI k then 1 else 0) := by
  unfold d_X0_allArrived
  rw [Xcnt_s hT hS hC hW hB hbd, bd1_some, hC.1]
  split <;> rfl
theorem as_c (a b : Int32) : a + b - a = b := by rw [Int32.add_comm, Int32.add_sub_cancel]
theorem MK.z {k : Nat} {M A : Mem} (h : MK k M A) {j : Nat} (hj : j = 3 ∨ j = 4 ∨ j = 23) (v : Int32) : MK k M (mu A 0 j v) := by
  obtain ⟨k1, k2, k3, k4, k5, k6⟩ := h
  refine ⟨fun q a b => ?_, fun i hi => ?_, fun i a b c d e => ?_, ?_, ?_, fun i hi => ?_⟩
  · rw [mu_ne (by unfold Pq at a; omega)]; exact k1 q a b
  · rw [mu_ne (by decide)]; exact k2 i hi
  · rw [mu_eq, upd_n (by omega)]; exact k3 i a b c d e
  · rw [mu_eq, upd_n (by omega)]; exact k4
  · rw [mu_eq, upd_n (by omega)]; exact k5
  · rw [mu_ne (by decide)]; exact k6 i hi
theorem MS.z {c : Nat} {w : Nat → Nat → Nat} {A : Mem} (h : MS c w A) {j : Nat} (hj : 3 ≤ j) (v : Int32) : MS c w (mu A 0 j v) := ⟨by rw [mu_eq, upd_n (by omega)]; exact h.1, by rw [mu_ne (by decide)]; exact h.2.1, by rw [mu_ne (by decide)]; exact h.2.2⟩
theorem MC.z {k : Nat} {kd fr to cv : Nat → Nat} {A : Mem} (h : MC k kd fr to cv A) {j : Nat} (hj : 3 ≤ j) (v : Int32) : MC k kd fr to cv (mu A 0 j v) := ⟨by rw [mu_eq, upd_n (by omega)]; exact h.1, by rw [mu_ne (by decide), mu_ne (by decide), mu_ne (by decide), mu_ne (by decide)]; exact h.2⟩
theorem MW.z {k s : Nat} {wk : Nat → Nat} {A : Mem} (h : MW k wk s A) {j : Nat} (hj : j ≠ 4) (v : Int32) : MW k wk s (mu A 0 j v) := ⟨by rw [mu_eq, upd_n (by omega)]; exact h.1, by rw [mu_ne (by decide)]; exact h.2⟩
theorem XS.f {c : Nat} {w : Nat → Nat → Nat} {A B : Mem} (h : XS c w A) (hq : ∀ q, q = 2 ∨ q = 3 ∨ q = 4 → B q = A q) : XS c w B := ⟨by rw [hq 2 (by omega)]; exact h.1, by rw [hq 3 (by omega)]; exact h.2.1, by rw [hq 4 (by omega)]; exact h.2.2⟩
theorem ft15 (i : Nat) : ft 15 i = 17 + i := by unfold ft; omega
theorem XC.g {k : Nat} {kd fr to cv : Nat → Nat} {A B : Mem} (h : XC 15 k kd fr to cv A) (hq : ∀ q, 15 ≤ q → B q = A q) : XC 15 k kd fr to cv B := ⟨by rw [hq 15 (by decide)]; exact h.1, fun i hi => by rw [hq _ (by rw [ft15]; omega)]; exact h.2 i hi⟩
theorem XW.g {k : Nat} {wk st : Nat → Nat} {A B : Mem} (h : XW 15 k wk st A) (hq : ∀ q, 15 ≤ q → B q = A q) : XW 15 k wk st B := fun i hi => by rw [hq _ (by rw [ft15]; omega)]; exact h i hi
theorem m14 {B : Mem} (j : Nat) (v : Int32) : ∀ q, 15 ≤ q → mu B 14 j v q = B q := fun q hq => mu_ne (by omega)
/-- one look around -/
theorem look_s {c k s d : Nat} {kd fr to cv wk : Nat → Nat} {w : Nat → Nat → Nat} {M N : Mem} {bd : Nat} (hT : TOK c k kd fr to cv w) (hS : MS c w N) (hC : MC k kd fr to cv N) (hW : MW k wk s N) (hB : ∀ i, i < k → wk i ≤ bd) (hbd : bd < 2 ^ 31) (hK : MK k M N) (h3 : N 0 3 = M 0 3 + nI d) (hx : N 0 23 = -9 ∨ ∃ x, x < 2 ^ 20 ∧ N 0 23 = nI x) : d_X9_looksAround N = some (mu N 0 23 (if N 0 23 = -9 then (if nI (ctb (arB c fr to w wk) k) = nI k then nI d else -9) else N 0 23)) := by
  unfold d_X9_looksAround dX9_looksAround_31j dX9_looksAround_35j
  simp only [lm_eq]
  rcases hx with e | ⟨x, e1, e2⟩
  · rw [e, if_neg (show ¬ (0 : Int32) ≤ -9 by decide), if_pos rfl, Mcnt_s hT hS hC hW.2 hB hbd, bd1_some, hC.1]
    by_cases z : nI (ctb (arB c fr to w wk) k) = nI k
    · rw [if_pos z, if_pos z, h3, hK.2.2.2.2.1, as_c]
    · rw [if_neg z, if_neg z]
  · rw [e2, if_pos (show (0 : Int32) ≤ nI x from nI_le (a := 0) (by omega) (by omega)), if_neg (nI_n9 (by omega))]
theorem PS_days {c k : Nat} {kd fr to cv wk0 : Nat → Nat} {w : Nat → Nat → Nat} {bd : Nat} {A M : Mem} {W0 ff : Int32} (hT : TOK c k kd fr to cv w) (hbd : bd + 20000 < 2 ^ 31) {F : Nat} (hF : F ≤ 9) : ∀ m x d f f2 B N, x + m = F → m < f → m < f2 → d + m ≤ 1000 → PS c k kd fr to cv w wk0 bd A M W0 d ff B N → ∃ B1 N1, dX4_passDays_2l (nI F) f (nI x) B = some B1 ∧ dX9_did_23l (nI F) f2 (nI x) N = some (1, N1) ∧ PS c k kd fr to cv w wk0 bd A M W0 (d + m) ff B1 N1 := by
  have hk := hT.2.1
  have hp : 2 ^ k ≤ 2 ^ 6 := Nat.pow_le_pow_right (by decide) hk
  intro m
  induction m with
  | zero =>
    intro x d f f2 B N hx hf hf2 hd h
    obtain ⟨f, rfl⟩ : ∃ f1, f = f1 + 1 := ⟨f - 1, by omega⟩
    obtain ⟨f2, rfl⟩ : ∃ f1, f2 = f1 + 1 := ⟨f2 - 1, by omega⟩
    have e : x = F := by omega
    subst e
    exact ⟨B, N, by rw [dX4_passDays_2l, if_pos (le_t (Nat.le_refl _) (by omega))], by rw [dX9_did_23l, if_pos (le_t (Nat.le_refl _) (by omega))], h⟩
  | succ m ih =>
    intro x d f f2 B N hx hf hf2 hd h
    obtain ⟨f, rfl⟩ : ∃ f1, f = f1 + 1 := ⟨f - 1, by omega⟩
    obtain ⟨f2, rfl⟩ : ∃ f1, f2 = f1 + 1 := ⟨f2 - 1, by omega⟩
    obtain ⟨wk, s, hs, hwk, hXS, hXC, hXW, hMS, hMC, hMW, hMK, hfr, ⟨g1, g2, g3, g4⟩, hN3, hx23⟩ := h
    obtain ⟨B1, b1, b2, b3⟩ := Xday_s (bd := bd + 10 * d) co15 hT hXS hXC hXW (fun i hi => ⟨(hwk i hi).2, bt_le s i⟩) (by omega)
    obtain ⟨N1, n1, n2, n3, n4⟩ := Mday_s (bd := bd + 10 * d) hT hMS hMC hMW (by omega) (fun i hi => (hwk i hi).2) (by omega)
    have w1 : ∀ i, i < k → wk0 i ≤ wkS c kd fr to cv w wk (bt s) i ∧ wkS c kd fr to cv w wk (bt s) i ≤ bd + 10 * (d + 1) := fun i hi => by
      have h1 := wkS_le hT (wk := wk) (st := bt s) hi
      have h2 := hwk i hi
      have h3 : wk i ≤ wkS c kd fr to cv w wk (bt s) i := by unfold wkS; split <;> omega
      omega
    have q14 : ∀ q, q < 17 ∨ 22 < q → B1 q = B q := fun q hq => b3.1 q (fun i hi => by rw [ft15]; omega)
    have N3 : N1 0 3 = M 0 3 + nI (d + 1) := by rw [n4, hN3, Int32.add_assoc, nI_1]
    have N23 : N1 0 23 = N 0 23 := n3.2.2 23 (by decide)
    have lk := look_s (d := d + 1) (bd := bd + 10 * (d + 1)) hT (n3.S hMS) (n3.C hMC) n2 (fun i hi => (w1 i hi).2) (by omega) (hMK.F n3) N3 (by rw [N23]; exact hx23)
    have X1 : XS c w (mu B1 14 2 (B1 14 2 + 1)) := (b3.S co15 hk hXS).f (fun q hq => mu_ne (by omega))
    have C1 : XC 15 k kd fr to cv (mu B1 14 2 (B1 14 2 + 1)) := (b3.C hXC).g (m14 _ _)
    have V1 : XW 15 k (wkS c kd fr to cv w wk (bt s)) (bt s) (mu B1 14 2 (B1 14 2 + 1)) := XW.g b2 (m14 _ _)
    have al := all_s (bd := bd + 10 * (d + 1)) hT X1 C1 V1 (fun i hi => ⟨(w1 i hi).2, bt_le s i⟩) (by omega)
    have fin : ∀ y : Int32, y = (if N 0 23 = -9 then (if nI (ctb (arB c fr to w (wkS c kd fr to cv w wk (bt s))) k) = nI k then nI (d + 1) else -9) else N 0 23) → ∀ B2 : Mem, (∀ q, q ≠ 14 → B2 q = B1 q) → B2 14 1 = B 14 1 → B2 14 2 = nI (d + 1) → B2 14 3 = y → B2 14 4 = B 14 4 → PS c k kd fr to cv w wk0 bd A M W0 (d + 1) ff B2 (mu N1 0 23 y) := by
      intro y hy B2 e1 e2 e3 e4 e5
      refine ⟨wkS c kd fr to cv w wk (bt s), s, hs, w1, (b3.S co15 hk hXS).f (fun q hq => e1 q (by omega)), (b3.C hXC).g (fun q hq => e1 q (by omega)), XW.g b2 (fun q hq => e1 q (by omega)), (n3.S hMS).z (by decide) _, (n3.C hMC).z (by decide) _, n2.z (by decide) _, (hMK.F n3).z (by omega) _, fun q hq => by rw [e1 q (by omega), q14 q (by omega)]; exact hfr q hq, ⟨by rw [e2]; exact g1, e3, by rw [mu_eq, upd_s]; exact e4, by rw [e5]; exact g4⟩, by rw [mu_eq, upd_n (by decide)]; exact N3, ?_⟩
      rw [mu_eq, upd_s, hy]
      by_cases z : N 0 23 = -9
      · rw [if_pos z]
        by_cases z2 : nI (ctb (arB c fr to w (wkS c kd fr to cv w wk (bt s))) k) = nI k
        · rw [if_pos z2]; exact Or.inr ⟨d + 1, by omega, rfl⟩
        · rw [if_neg z2]; exact Or.inl rfl
      · rw [if_neg z]; exact hx23
    have B142 : B1 14 2 + (1 : Int32) = nI (d + 1) := by rw [q14 14 (by decide), g2, nI_1]
    have B143 : mu B1 14 2 (B1 14 2 + 1) 14 3 = N 0 23 := by rw [mu_eq, upd_n (by decide), q14 14 (by decide)]; exact g3
    rw [dX4_passDays_2l, if_neg (le_f (by omega) (by omega)), b1, bd1_some, lm_eq, B143, nI_1, dX9_did_23l, if_neg (le_f (by omega) (by omega)), n1, bd1_some, lk, N23, bd1_some, nI_1, show d + (m + 1) = d + 1 + m by omega]
    by_cases z : N 0 23 = -9
    · rw [if_pos z, if_pos z, al, bd1_some]
      by_cases z2 : nI (ctb (arB c fr to w (wkS c kd fr to cv w wk (bt s))) k) = nI k
      · rw [if_pos z2, if_pos z2, if_neg one0, lm_eq]
        exact ih (x + 1) (d + 1) f f2 _ _ (by omega) (by omega) (by omega) (by omega) (fin _ (by rw [if_pos z, if_pos z2]) _ (fun q hq => by rw [mu_ne hq, mu_ne hq]) (by rw [mu_eq, upd_n (by decide), mu_eq, upd_n (by decide), q14 14 (by decide)]) (by rw [mu_eq, upd_n (by decide), mu_eq, upd_s]; exact B142) (by rw [mu_eq, upd_s, mu_eq, upd_s]; exact B142) (by rw [mu_eq, upd_n (by decide), mu_eq, upd_n (by decide), q14 14 (by decide)]))
      · rw [if_neg z2, if_neg z2, if_pos rfl]
        exact ih (x + 1) (d + 1) f f2 _ _ (by omega) (by omega) (by omega) (by omega) (fin _ (by rw [if_pos z, if_neg z2]) _ (fun q hq => by rw [mu_ne hq]) (by rw [mu_eq, upd_n (by decide), q14 14 (by decide)]) (by rw [mu_eq, upd_s]; exact B142) (by rw [B143]; exact z) (by rw [mu_eq, upd_n (by decide), q14 14 (by decide)]))
    · rw [if_neg z, if_neg z]
      exact ih (x + 1) (d + 1) f f2 _ _ (by omega) (by omega) (by omega) (by omega) (fin _ (by rw [if_neg z]) _ (fun q hq => by rw [mu_ne hq]) (by rw [mu_eq, upd_n (by decide), q14 14 (by decide)]) (by rw [mu_eq, upd_s]; exact B142) B143 (by rw [mu_eq, upd_n (by decide), q14 14 (by decide)]))
