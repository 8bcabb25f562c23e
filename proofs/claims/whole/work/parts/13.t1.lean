/-! town: the class's first fault -/
def hl (c : Nat) : Nat := 2 + c * (c - 1) / 2
def tf (x : Int32) (part c : Nat) : Bool := if part = 0 then decide (x = 59) else if part = 1 then decide (x = 98 ∨ x = 109 ∨ x = 112) else if part = 2 ∨ part = 3 then decide (48 ≤ x.toInt ∧ x.toInt < 48 + (c : Int)) else decide (49 ≤ x.toInt ∧ x.toInt ≤ 57)
def gB (t : Nat → Int32) (c p : Nat) : Bool := if p = 0 then decide (t 0 = 116) else if p = 1 then decide (50 ≤ (t 1).toInt ∧ (t 1).toInt ≤ 54) else if p < hl c then decide (48 ≤ (t p).toInt ∧ (t p).toInt ≤ 57) else decide (p - hl c < 25) && tf (t p) ((p - hl c) % 5) c
theorem hl_dec : ∀ c, c < 7 → ∀ M, d_X7_headLength (nI c) M = some (nI (hl c)) := by
  intro c hc M
  have h : ∀ c, c < 7 → d_X7_headLength (nI c) M00 = some (nI (hl c)) := by decide +kernel
  exact h c hc
theorem hl_le : ∀ c, c < 7 → 2 ≤ hl c ∧ hl c ≤ 17 := by decide +kernel
theorem m5_dec : ∀ x, x < 60 → nI x - nI x / (5 : Int32) * (5 : Int32) = nI (x % 5) := by decide +kernel
theorem kind_s (x : Int32) (M : Mem) : d_X7_kindOf x M = some (if x = 98 then 0 else if x = 109 then 1 else if x = 112 then 2 else -9) := by
  unfold d_X7_kindOf
  repeat' split
  all_goals rfl
theorem rng_s {x a b : Int32} : (if x < a then some (0 : Int32) else if b < x then some (0 : Int32) else some (1 : Int32)) = some (bI (a.toInt ≤ x.toInt ∧ x.toInt ≤ b.toInt)) := by
  by_cases h1 : x < a
  · have := Int32.lt_iff_toInt_lt.mp h1
    rw [if_pos h1, bI_f (by omega)]
  · have k1 : ¬ x.toInt < a.toInt := fun q => h1 (Int32.lt_iff_toInt_lt.mpr q)
    rw [if_neg h1]
    by_cases h2 : b < x
    · have := Int32.lt_iff_toInt_lt.mp h2
      rw [if_pos h2, bI_f (by omega)]
    · have k2 : ¬ b.toInt < x.toInt := fun q => h2 (Int32.lt_iff_toInt_lt.mpr q)
      rw [if_neg h2, bI_t (by omega)]
theorem rng_e {x a b : Int32} : (if x < a then some (0 : Int32) else if b ≤ x then some (0 : Int32) else some (1 : Int32)) = some (bI (a.toInt ≤ x.toInt ∧ x.toInt < b.toInt)) := by
  by_cases h1 : x < a
  · have := Int32.lt_iff_toInt_lt.mp h1
    rw [if_pos h1, bI_f (by omega)]
  · have k1 : ¬ x.toInt < a.toInt := fun q => h1 (Int32.lt_iff_toInt_lt.mpr q)
    rw [if_neg h1]
    by_cases h2 : b ≤ x
    · have := Int32.le_iff_toInt_le.mp h2
      rw [if_pos h2, bI_f (by omega)]
    · have k2 : ¬ b.toInt ≤ x.toInt := fun q => h2 (Int32.le_iff_toInt_le.mpr q)
      rw [if_neg h2, bI_t (by omega)]
theorem bI_d {p : Prop} [Decidable p] : bI (decide p = true) = bI p := bI_c (by rw [decide_eq_true_iff])
theorem tells_s {x : Int32} {q c : Nat} (hq : q < 5) (hc : c < 7) (M : Mem) : d_X7_tellsFootman x (nI q) (nI c) M = some (bI (tf x q c = true)) := by
  have i48 : (48 : Int32).toInt = 48 := by decide
  have i49 : (49 : Int32).toInt = 49 := by decide
  have i57 : (57 : Int32).toInt = 57 := by decide
  have e48 : (48 : Int32) + nI c = nI (48 + c) := by rw [show (48 : Int32) = nI 48 from rfl, nI_add]
  have j48 : (nI (48 + c)).toInt = 48 + (c : Int) := by rw [nI_toInt (by omega)]; omega
  unfold d_X7_tellsFootman tf
  rw [e48, kind_s, rng_s, rng_e, i48, i49, i57, j48]
  rcases (show q = 0 ∨ q = 1 ∨ q = 2 ∨ q = 3 ∨ q = 4 by omega) with e | e | e | e | e <;> subst e
  · rw [if_pos (show nI 0 = (0 : Int32) from rfl), if_pos rfl, bI_d]
    by_cases z : x = 59
    · rw [if_pos z, bI_t z]
    · rw [if_neg z, bI_f z]
  · rw [if_neg (show ¬ nI 1 = (0 : Int32) by decide), if_pos (show nI 1 = (1 : Int32) from rfl), if_neg (show ¬ (1 : Nat) = 0 by decide), if_pos (show (1 : Nat) = 1 from rfl), bI_d, bd1_some]
    by_cases z1 : x = 98
    · rw [if_pos z1, if_neg (by decide), bI_t (Or.inl z1)]
    · rw [if_neg z1]
      by_cases z2 : x = 109
      · rw [if_pos z2, if_neg (by decide), bI_t (Or.inr (Or.inl z2))]
      · rw [if_neg z2]
        by_cases z3 : x = 112
        · rw [if_pos z3, if_neg (by decide), bI_t (Or.inr (Or.inr z3))]
        · rw [if_neg z3, if_pos rfl, bI_f (by rintro (y | y | y); exact z1 y; exact z2 y; exact z3 y)]
  · rw [if_neg (show ¬ nI 2 = (0 : Int32) by decide), if_neg (show ¬ nI 2 = (1 : Int32) by decide), if_pos (show nI 2 = (2 : Int32) from rfl), if_neg (by decide), if_neg (by decide), if_pos (Or.inl rfl), bI_d]
  · rw [if_neg (show ¬ nI 3 = (0 : Int32) by decide), if_neg (show ¬ nI 3 = (1 : Int32) by decide), if_neg (show ¬ nI 3 = (2 : Int32) by decide), if_pos (show nI 3 = (3 : Int32) from rfl), if_neg (by decide), if_neg (by decide), if_pos (Or.inr rfl), bI_d]
  · rw [if_neg (show ¬ nI 4 = (0 : Int32) by decide), if_neg (show ¬ nI 4 = (1 : Int32) by decide), if_neg (show ¬ nI 4 = (2 : Int32) by decide), if_neg (show ¬ nI 4 = (3 : Int32) by decide), if_neg (by decide), if_neg (by decide), if_neg (by decide), bI_d]
theorem goes_s {o i m z c p : Nat} {t : Nat → Int32} {A : Mem} (hz : z ≤ 60) (him : i + m ≤ z) (h2 : A o 2 = nI z) (ht : ∀ y, y < m → A (o + 1) (i + y) = t y) (hp : p < m) (hc : 2 ≤ p → c < 7 ∧ t 1 = nI (48 + c)) : d_X7_goesOn o (nI i) (nI p) A = some (bI (gB t c p = true)) := by
  have i48 : (48 : Int32).toInt = 48 := by decide
  have i50 : (50 : Int32).toInt = 50 := by decide
  have i54 : (54 : Int32).toInt = 54 := by decide
  have i57 : (57 : Int32).toInt = 57 := by decide
  have at1 : ∀ y, y < m → d_X5_at o (nI (i + y)) A = some (t y) := fun y hy => by rw [at_s hz (show i + y < z by omega) h2, ht y hy]
  unfold d_X7_goesOn gB d_X7_digit
  rw [nI_add, at1 p hp, bd1_some]
  by_cases p0 : p = 0
  · subst p0
    rw [if_pos nI_0, if_pos rfl, bI_d]
    by_cases z : t 0 = 116
    · rw [if_pos z, bI_t z]
    · rw [if_neg z, bI_f z]
  · rw [if_neg (nI_ne0 (by omega) (by omega)), if_neg p0]
    by_cases p1 : p = 1
    · subst p1
      rw [if_pos (show nI 1 = (1 : Int32) from rfl), if_pos rfl, rng_s, i50, i54, bI_d]
    · obtain ⟨c7, ct⟩ := hc (by omega)
      obtain ⟨h17, h18⟩ := hl_le c c7
      have d1 : nI (48 + c) - (48 : Int32) = nI c := by rw [show (48 : Int32) = nI 48 from rfl, pk_sub (by omega), show 48 + c - 48 = c by omega]
      rw [if_neg (fun q => p1 ((nI_eq (by omega) (by omega)).mp (q.trans (show (1 : Int32) = nI 1 from rfl)))), if_neg p1, show nI i + (1 : Int32) = nI (i + 1) from nI_1 _, at1 1 (by omega), bd1_some, ct, d1, bd1_some, hl_dec c c7, bd1_some, lm_eq]
      by_cases q : p < hl c
      · have hneg : ¬ (0 : Int32) ≤ nI p - nI (hl c) := fun y => by
          have y1 := Int32.le_iff_toInt_le.mp y
          rw [pk_sub_toInt (by omega) (by omega), show (0 : Int32).toInt = 0 by decide] at y1
          omega
        rw [if_neg hneg, if_pos q, rng_s, i48, i57, bI_d]
      · rw [pk_sub (show hl c ≤ p by omega), if_pos (show (0 : Int32) ≤ nI (p - hl c) from nI_le (a := 0) (Nat.zero_le _) (by omega)), if_neg q]
        by_cases y : p - hl c < 25
        · rw [if_neg (show ¬ (25 : Int32) ≤ nI (p - hl c) from nI_ge (b := 25) (by omega) (by decide)), if_neg (by decide), m5_dec _ (by omega), tells_s (Nat.mod_lt _ (by decide)) c7, bd1_some, decide_eq_true y, Bool.true_and]
          by_cases u : tf (t p) ((p - hl c) % 5) c = true
          · rw [bI_t u, if_neg one0]
          · rw [bI_f u, if_pos rfl]
        · rw [if_pos (show (25 : Int32) ≤ nI (p - hl c) from nI_le (a := 25) (by omega) (by omega)), decide_eq_false y, Bool.false_and, bI_f (by decide)]
/-- the first place that does not go on -/
theorem first_s {o i m z c : Nat} {t : Nat → Int32} {A : Mem} (hz : z ≤ 60) (him : i + m ≤ z) (h2 : A o 2 = nI z) (ht : ∀ y, y < m → A (o + 1) (i + y) = t y) (hc : 2 ≤ m → 50 ≤ (t 1).toInt ∧ (t 1).toInt ≤ 54 → c < 7 ∧ t 1 = nI (48 + c)) : (∀ p, p < m → (∀ y, y < p → gB t c y = true) → gB t c p = false → d_X7_firstFault o (nI i) (nI m) A = some (nI p)) ∧ ((∀ y, y < m → gB t c y = true) → d_X7_firstFault o (nI i) (nI m) A = bd1 (d_X7_isWhole o (nI i) (nI m) A) (fun (r4 : Int32) => (if r4 = 0 then (some (nI m)) else (some (-9 : Int32))))) := by
  have hcp : ∀ p, p < m → (∀ y, y < p → gB t c y = true) → 2 ≤ p → c < 7 ∧ t 1 = nI (48 + c) := by
    intro p hp hy h
    have g1 := hy 1 (by omega)
    unfold gB at g1
    rw [if_neg (by decide), if_pos rfl, decide_eq_true_iff] at g1
    exact hc (by omega) g1
  have go : ∀ (K : Option Int32) q x f, x + q ≤ m → q < f → (∀ y, y < x + q → gB t c y = true) → dX7_firstFault_2l o (nI i) (nI m) A K f (nI x) = dX7_firstFault_2l o (nI i) (nI m) A K (f - q) (nI (x + q)) := by
    intro K q
    induction q with
    | zero => intro x f _ _ _; rfl
    | succ q ih =>
      intro x f hx hf hy
      obtain ⟨f, rfl⟩ : ∃ f1, f = f1 + 1 := ⟨f - 1, by omega⟩
      have gx := hy x (by omega)
      rw [dX7_firstFault_2l, if_neg (le_f (show x < m by omega) (by omega)), goes_s hz him h2 ht (show x < m by omega) (hcp x (by omega) (fun y hyx => hy y (by omega))), bd1_some, bI_t gx, if_neg one0, nI_1, ih (x + 1) f (by omega) (by omega) (fun y hyx => hy y (by omega)), show x + 1 + q = x + (q + 1) by omega, show f + 1 - (q + 1) = f - q by omega]
  refine ⟨fun p hp hy hg => ?_, fun hy => ?_⟩
  · unfold d_X7_firstFault
    rw [show (0 : Int32) = nI 0 from rfl, go _ p 0 FU (by omega) (show p < 2000 by omega) (fun y hyp => hy y (by omega)), Nat.zero_add]
    obtain ⟨f, hf⟩ : ∃ f1, FU - p = f1 + 1 := ⟨2000 - p - 1, by show 2000 - p = _; omega⟩
    rw [hf, dX7_firstFault_2l, if_neg (le_f hp (by omega)), goes_s hz him h2 ht hp (hcp p hp hy), bd1_some, bI_f (by rw [hg]; decide), if_pos rfl]
  · unfold d_X7_firstFault
    rw [show (0 : Int32) = nI 0 from rfl, go _ m 0 FU (by omega) (show m < 2000 by omega) (fun y hyp => hy y (by omega)), Nat.zero_add]
    obtain ⟨f, hf⟩ : ∃ f1, FU - m = f1 + 1 := ⟨2000 - m - 1, by show 2000 - m = _; omega⟩
    rw [hf, dX7_firstFault_2l, if_pos (le_t (Nat.le_refl _) (by omega))]
theorem whole_s {o i m z c : Nat} {t : Nat → Int32} {A : Mem} (hz : z ≤ 60) (him : i + m ≤ z) (h2 : A o 2 = nI z) (ht : ∀ y, y < m → A (o + 1) (i + y) = t y) (hc : 2 ≤ m → c < 7 ∧ t 1 = nI (48 + c)) : d_X7_isWhole o (nI i) (nI m) A = some (bI (2 ≤ m ∧ hl c + 5 ≤ m ∧ (m - hl c) % 5 = 0)) := by
  unfold d_X7_isWhole d_X7_digit
  by_cases q : 2 ≤ m
  · obtain ⟨c7, ct⟩ := hc q
    obtain ⟨h17, h18⟩ := hl_le c c7
    have d1 : nI (48 + c) - (48 : Int32) = nI c := by rw [show (48 : Int32) = nI 48 from rfl, pk_sub (by omega), show 48 + c - 48 = c by omega]
    rw [if_pos (show (2 : Int32) ≤ nI m from nI_le (a := 2) q (by omega)), show nI i + (1 : Int32) = nI (i + 1) from nI_1 _, at_s hz (show i + 1 < z by omega) h2, ht 1 (by omega), bd1_some, ct, d1, bd1_some, hl_dec c c7, bd1_some, lm_eq]
    by_cases y : hl c + 5 ≤ m
    · rw [pk_sub (show hl c ≤ m by omega), if_neg (show ¬ nI (m - hl c) < (5 : Int32) from nI_nlt (b := 5) (by omega) (by omega)), if_neg (by decide), m5_dec _ (by omega)]
      by_cases u : (m - hl c) % 5 = 0
      · rw [u, if_pos nI_0, bI_t ⟨q, y, rfl⟩]
      · rw [if_neg (nI_ne0 (by omega) (by omega)), bI_f (fun v => u v.2.2)]
    · have hneg : nI m - nI (hl c) < (5 : Int32) := by
        refine Int32.lt_iff_toInt_lt.mpr ?_
        rw [pk_sub_toInt (by omega) (by omega), show (5 : Int32).toInt = 5 by decide]
        omega
      rw [if_pos hneg, bI_f (fun v => y v.2.1)]
  · rw [if_neg (show ¬ (2 : Int32) ≤ nI m from nI_ge (b := 2) (by omega) (by decide)), bI_f (fun v => q v.1)]
