/-! town: what the class takes -/
def dg (x : Int32) : Nat := min (x.toInt.toNat - 48) 9
theorem dg_le (x : Int32) : dg x ≤ 9 := Nat.min_le_right _ _
theorem dg_s {x : Int32} (h : 48 ≤ x.toInt ∧ x.toInt ≤ 57) : x - (48 : Int32) = nI (dg x) ∧ x.toInt = 48 + (dg x : Int) := by
  obtain ⟨j, hj, rfl⟩ := rg_of (v := x) (n := 58) (by decide) ⟨by omega, by omega⟩
  have e : (nI j).toInt = j := nI_toInt (by omega)
  rw [e] at h
  have d : dg (nI j) = j - 48 := by
    unfold dg
    rw [e]
    omega
  refine ⟨by rw [d, show (48 : Int32) = nI 48 from rfl, pk_sub (by omega)], by rw [d, e]; omega⟩
def wT (t : Nat → Int32) (c a b : Nat) : Nat := if a = b then 0 else if a < b then dg (t (2 + (ri c a + (b - a - 1)))) else dg (t (2 + (ri c b + (a - b - 1))))
theorem wT_sy (t : Nat → Int32) (c a b : Nat) : wT t c a b = wT t c b a := by
  unfold wT
  by_cases e : a = b
  · subst e; rfl
  · rw [if_neg e, if_neg (show ¬ b = a from fun q => e q.symm)]
    by_cases l : a < b
    · rw [if_pos l, if_neg (show ¬ b < a by omega)]
    · rw [if_neg l, if_pos (show b < a by omega)]
theorem wT_le (t : Nat → Int32) (c a b : Nat) : wT t c a b ≤ 9 := by
  unfold wT
  split
  · omega
  · split <;> exact dg_le _
theorem wT_lt {t : Nat → Int32} {c a b : Nat} (h : a < b) : wT t c a b = dg (t (2 + (ri c a + (b - a - 1)))) := by
  unfold wT
  rw [if_neg (by omega), if_pos h]
theorem hl_ri : ∀ c, c < 7 → hl c = 2 + ri c c := by decide +kernel
def kdT (t : Nat → Int32) (c k : Nat) : Nat := if t (hl c + 5 * k + 1) = 98 then 0 else if t (hl c + 5 * k + 1) = 109 then 1 else 2
def frT (t : Nat → Int32) (c k : Nat) : Nat := dg (t (hl c + 5 * k + 2))
def toT (t : Nat → Int32) (c k : Nat) : Nat := dg (t (hl c + 5 * k + 3))
def cvT (t : Nat → Int32) (c k : Nat) : Nat := dg (t (hl c + 5 * k + 4))
/-- a text without a fault, of c corners and q footmen -/
def TX (t : Nat → Int32) (c q m : Nat) : Prop := 2 ≤ c ∧ c ≤ 6 ∧ 1 ≤ q ∧ q ≤ 5 ∧ m = hl c + 5 * q ∧ t 1 = nI (48 + c) ∧ (∀ p, 2 ≤ p → p < hl c → 48 ≤ (t p).toInt ∧ (t p).toInt ≤ 57) ∧ ∀ k, k < q → ∀ r, r < 5 → tf (t (hl c + 5 * k + r)) r c = true
theorem TX.f {t : Nat → Int32} {c q m k : Nat} (h : TX t c q m) (hk : k < q) : (t (hl c + 5 * k + 1) = 98 ∨ t (hl c + 5 * k + 1) = 109 ∨ t (hl c + 5 * k + 1) = 112) ∧ (48 ≤ (t (hl c + 5 * k + 2)).toInt ∧ (t (hl c + 5 * k + 2)).toInt < 48 + (c : Int)) ∧ (48 ≤ (t (hl c + 5 * k + 3)).toInt ∧ (t (hl c + 5 * k + 3)).toInt < 48 + (c : Int)) ∧ (49 ≤ (t (hl c + 5 * k + 4)).toInt ∧ (t (hl c + 5 * k + 4)).toInt ≤ 57) := by
  obtain ⟨-, -, -, -, -, -, -, h8⟩ := h
  have a1 := h8 k hk 1 (by decide)
  have a2 := h8 k hk 2 (by decide)
  have a3 := h8 k hk 3 (by decide)
  have a4 := h8 k hk 4 (by decide)
  exact ⟨of_decide_eq_true a1, of_decide_eq_true a2, of_decide_eq_true a3, of_decide_eq_true a4⟩
theorem TX.ok {t : Nat → Int32} {c q m : Nat} (h : TX t c q m) : TOK c q (kdT t c) (frT t c) (toT t c) (cvT t c) (wT t c) := by
  obtain ⟨c2, c6, q1, q5, hm, h1, hp, -⟩ := id h
  refine ⟨c6, by omega, fun k hk => ?_, wT_le t c, wT_sy t c, fun a => by unfold wT; rw [if_pos rfl]⟩
  obtain ⟨b1, b2, b3, b4⟩ := h.f hk
  have d2 := (dg_s (x := t (hl c + 5 * k + 2)) ⟨by omega, by omega⟩).2
  have d3 := (dg_s (x := t (hl c + 5 * k + 3)) ⟨by omega, by omega⟩).2
  have d4 := (dg_s (x := t (hl c + 5 * k + 4)) ⟨by omega, by omega⟩).2
  refine ⟨?_, ?_, ?_, ?_, dg_le _⟩
  · unfold kdT; split
    · omega
    · split <;> omega
  · unfold frT; omega
  · unfold toT; omega
  · unfold cvT; omega
def wq (t : Nat → Int32) (c a b x y : Nat) : Nat := if x < y then (if x < a ∨ (x = a ∧ y < b) then wT t c x y else 0) else if y < x then (if y < a ∨ (y = a ∧ x < b) then wT t c x y else 0) else 0
theorem wq_st {t : Nat → Int32} {c a b : Nat} (hab : a < b) : ∀ x y, wq t c a (b + 1) x y = wP (wq t c a b) a b (wT t c a b) x y := by
  intro x y
  unfold wP
  by_cases e : (x = a ∧ y = b) ∨ (x = b ∧ y = a)
  · rw [if_pos e]
    unfold wq
    rcases e with ⟨e1, e2⟩ | ⟨e1, e2⟩
    · subst e1 e2
      rw [if_pos hab, if_pos (by omega)]
    · subst e1 e2
      rw [if_neg (by omega), if_pos hab, if_pos (by omega), wT_sy]
  · rw [if_neg e]
    unfold wq
    by_cases l : x < y
    · rw [if_pos l, if_pos l]
      by_cases g : x < a ∨ (x = a ∧ y < b)
      · rw [if_pos g, if_pos (by omega)]
      · rw [if_neg g, if_neg (by omega)]
    · rw [if_neg l, if_neg l]
      by_cases l2 : y < x
      · rw [if_pos l2, if_pos l2]
        by_cases g : y < a ∨ (y = a ∧ x < b)
        · rw [if_pos g, if_pos (by omega)]
        · rw [if_neg g, if_neg (by omega)]
      · rw [if_neg l2, if_neg l2]
theorem wq_row {t : Nat → Int32} {c a x y : Nat} (hx : x < c) (hy : y < c) : wq t c a c x y = wq t c (a + 1) (a + 2) x y := by
  unfold wq
  by_cases l : x < y
  · rw [if_pos l, if_pos l]
    by_cases g : x < a ∨ (x = a ∧ y < c)
    · rw [if_pos g, if_pos (by omega)]
    · rw [if_neg g, if_neg (by omega)]
  · rw [if_neg l, if_neg l]
    by_cases l2 : y < x
    · rw [if_pos l2, if_pos l2]
      by_cases g : y < a ∨ (y = a ∧ x < c)
      · rw [if_pos g, if_pos (by omega)]
      · rw [if_neg g, if_neg (by omega)]
    · rw [if_neg l2, if_neg l2]
theorem wq_end {t : Nat → Int32} {c b x y : Nat} (hx : x < c) (hy : y < c) : wq t c c b x y = wT t c x y := by
  unfold wq
  by_cases l : x < y
  · rw [if_pos l, if_pos (by omega)]
  · rw [if_neg l]
    by_cases l2 : y < x
    · rw [if_pos l2, if_pos (by omega)]
    · rw [if_neg l2]
      unfold wT
      rw [if_pos (by omega)]
theorem ren_s {c : Nat} (hc : c ≤ 6) (h1 : 2 ≤ c) (A : Mem) : ∃ B, d_X6_renew (nI c) A = some B ∧ B 2 3 = nI c ∧ (∀ x, x < 36 → B 3 x = 0) ∧ (∀ q, q ≠ 2 → q ≠ 3 → B q = A q) ∧ ∀ j, j ≠ 3 → B 2 j = A 2 j := by
  have key : ∀ m x f B, x + m = 36 → m < f → B 2 3 = nI c → (∀ y, y < x → B 3 y = 0) → (∀ q, q ≠ 2 → q ≠ 3 → B q = A q) → (∀ j, j ≠ 3 → B 2 j = A 2 j) → ∃ B1, dX6_renew_16l f (nI x) B = some B1 ∧ B1 2 3 = nI c ∧ (∀ x, x < 36 → B1 3 x = 0) ∧ (∀ q, q ≠ 2 → q ≠ 3 → B1 q = A q) ∧ ∀ j, j ≠ 3 → B1 2 j = A 2 j := by
    intro m
    induction m with
    | zero =>
      intro x f B hx hf h2 h3 h4 h5
      obtain ⟨f, rfl⟩ : ∃ f1, f = f1 + 1 := ⟨f - 1, by omega⟩
      have e : x = 36 := by omega
      subst e
      exact ⟨B, by rw [dX6_renew_16l, if_pos (by decide)], h2, h3, h4, h5⟩
    | succ m ih =>
      intro x f B hx hf h2 h3 h4 h5
      obtain ⟨f, rfl⟩ : ∃ f1, f = f1 + 1 := ⟨f - 1, by omega⟩
      rw [dX6_renew_16l, if_neg (show ¬ (36 : Int32) ≤ nI x from nI_ge (b := 36) (by omega) (by decide)), if_pos (inB_t (show x < 36 by omega) (by decide)), cl (by omega), lm_eq, nI_1]
      refine ih (x + 1) f _ (by omega) (by omega) (by rw [mu_ne (by decide)]; exact h2) (fun y hy => ?_) (fun q q2 q3 => by rw [mu_ne q3]; exact h4 q q2 q3) (fun j hj => by rw [mu_ne (by decide)]; exact h5 j hj)
      rw [mu_eq]
      by_cases z : y = x
      · subst z; rw [upd_s]
      · rw [upd_n z]; exact h3 y (by omega)
  have e : (if (0 : Int32) < (if (6 : Int32) < nI c then (6 : Int32) else nI c) then (if (6 : Int32) < nI c then (6 : Int32) else nI c) else (0 : Int32)) = nI c := by
    rw [if_neg (show ¬ (6 : Int32) < nI c from nI_nlt (a := 6) hc (by decide)), if_pos (show (0 : Int32) < nI c from nI_lt (a := 0) (by omega) (by omega))]
  unfold d_X6_renew
  rw [e, lm_eq]
  exact key 36 0 FU _ (by omega) (by decide) (by rw [mu_eq, upd_s]) (fun y hy => absurd hy (Nat.not_lt_zero _)) (fun q q2 _ => mu_ne q2) (fun j hj => by rw [mu_eq, upd_n hj])
theorem take_s {o i m z c q : Nat} {t : Nat → Int32} {A : Mem} (h : TX t c q m) (ho : 28 < o) (hz : z ≤ 60) (him : i + m ≤ z) (h2 : A o 2 = nI z) (ht : ∀ y, y < m → A (o + 1) (i + y) = t y) : ∃ A1, d_X7_take o (nI i) (nI m) 6 A = some A1 ∧ XS c (wT t c) A1 ∧ XC 6 q (kdT t c) (frT t c) (toT t c) (cvT t c) A1 ∧ XW 6 q (fun _ => 0) (bt 0) A1 ∧ ∀ x, x = 0 ∨ 14 ≤ x → A1 x = A x := by
  obtain ⟨c2, c6, q1, q5, hm, h1, hp, -⟩ := id h
  have hhl := hl_ri c (by omega)
  have h15 := dc_d4 c (by omega)
  have dig : ∀ (B : Mem) y, y < m → (∀ x, 14 ≤ x → B x = A x) → d_X7_digit o (nI (i + y)) B = some (t y - 48) := by
    intro B y hy hB
    unfold d_X7_digit
    rw [at_s hz (show i + y < z by omega) (by rw [hB o (by omega)]; exact h2), bd1_some, hB (o + 1) (by omega), ht y hy]
  have dg1 : t 1 - (48 : Int32) = nI c := by rw [h1, show (48 : Int32) = nI 48 from rfl, pk_sub (by omega), show 48 + c - 48 = c by omega]
  obtain ⟨B, b1, b2, b3, b4, b5⟩ := ren_s c6 c2 A
  -- a row of lengths
  have inn : ∀ a, a < c → ∀ (K : Int32 → Mem → Option Mem) n b f (D : Mem), b + n = c → a < b → n < f → D 2 3 = nI c → (∀ x, x = 0 ∨ 14 ≤ x → D x = A x) → (∀ x y, x < c → y < c → D 3 (6 * x + y) = nI (wq t c a b x y)) → ∃ D1, dX7_take_34l o (nI i) (nI m) 6 (nI a) K f (nI (i + (2 + (ri c a + (b - a - 1))))) (nI b) D = K (nI (i + (2 + ri c (a + 1)))) D1 ∧ D1 2 3 = nI c ∧ (∀ x, x = 0 ∨ 14 ≤ x → D1 x = A x) ∧ ∀ x y, x < c → y < c → D1 3 (6 * x + y) = nI (wq t c a c x y) := by
    intro a ha K n
    induction n with
    | zero =>
      intro b f D hb hab hf h3 h4 h5
      obtain ⟨f, rfl⟩ : ∃ f1, f = f1 + 1 := ⟨f - 1, by omega⟩
      have e : b = c := by omega
      rw [e] at h5 ⊢
      have e2 : ri c a + (c - a - 1) = ri c (a + 1) := by
        show _ = ri c a + (c - 1 - a)
        omega
      exact ⟨D, by rw [dX7_take_34l, h3, if_pos (le_t (Nat.le_refl _) (by omega)), e2], h3, h4, h5⟩
    | succ n ih =>
      intro b f D hb hab hf h3 h4 h5
      obtain ⟨f, rfl⟩ : ∃ f1, f = f1 + 1 := ⟨f - 1, by omega⟩
      have hbc : b < c := by omega
      have hx := dc_d3 c (by omega) a (by omega) b (by omega) hbc hab
      have e2 : i + (2 + (ri c a + (b - a - 1))) + 1 = i + (2 + (ri c a + (b + 1 - a - 1))) := by omega
      have hd := (dg_s (hp (2 + (ri c a + (b - a - 1))) (by omega) (by omega))).1
      rw [← wT_lt hab] at hd
      rw [dX7_take_34l, h3, if_neg (le_f hbc (by omega)), dig D _ (by omega) (fun x hx => h4 x (Or.inr hx)), bd1_some, hd, lay_s c6 h3 ha hbc (by omega), bd1_some, nI_1, nI_1, e2]
      refine ih (b + 1) f _ (by omega) (by omega) (by omega) (by rw [mu_ne (by decide), mu_ne (by decide)]; exact h3) (fun x hx => by rw [mu_ne (by omega), mu_ne (by omega)]; exact h4 x hx) (fun x y hx hy => ?_)
      rw [mu_eq, mu_eq, wq_st hab]
      exact wP_up c6 ha hbc h5 x y hx hy
  have out : ∀ (K : Int32 → Mem → Option Mem) n a f (D : Mem), a + n = c → n < f → D 2 3 = nI c → (∀ x, x = 0 ∨ 14 ≤ x → D x = A x) → (∀ x y, x < c → y < c → D 3 (6 * x + y) = nI (wq t c a (a + 1) x y)) → ∃ D1, dX7_take_19l o (nI i) (nI m) 6 K f (nI (i + (2 + ri c a))) (nI a) D = K (nI (i + (2 + ri c c))) D1 ∧ D1 2 3 = nI c ∧ (∀ x, x = 0 ∨ 14 ≤ x → D1 x = A x) ∧ ∀ x y, x < c → y < c → D1 3 (6 * x + y) = nI (wT t c x y) := by
    intro K n
    induction n with
    | zero =>
      intro a f D ha hf h3 h4 h5
      obtain ⟨f, rfl⟩ : ∃ f1, f = f1 + 1 := ⟨f - 1, by omega⟩
      have e : a = c := by omega
      rw [e] at h5 ⊢
      exact ⟨D, by rw [dX7_take_19l, h3, if_pos (le_t (Nat.le_refl _) (by omega))], h3, h4, fun x y hx hy => by rw [h5 x y hx hy, wq_end hx hy]⟩
    | succ n ih =>
      intro a f D ha hf h3 h4 h5
      obtain ⟨f, rfl⟩ : ∃ f1, f = f1 + 1 := ⟨f - 1, by omega⟩
      have hac : a < c := by omega
      obtain ⟨D1, k1, k2, k3, k4⟩ := inn a hac (fun (w9 : Int32) (M10 : Mem) => ((dX7_take_19l o (nI i) (nI m) 6 K f) w9 (nI a + (1 : Int32)) M10)) (c - (a + 1)) (a + 1) FU D (by omega) (by omega) (show c - (a + 1) < 2000 by omega) h3 h4 h5
      rw [show ri c a + (a + 1 - a - 1) = ri c a by omega] at k1
      obtain ⟨D2, l1, l2⟩ := ih (a + 1) f D1 (by omega) (by omega) k2 k3 (fun x y hx hy => by rw [k4 x y hx hy, wq_row hx hy])
      refine ⟨D2, ?_, l2⟩
      rw [dX7_take_19l, h3, if_neg (le_f hac (by omega)), lm_eq]
      refine Eq.trans ?_ (k1.trans ?_)
      · rw [nI_1]
      · rw [nI_1]; exact l1
  -- the footmen
  have foot : ∀ n k f (D : Mem), k + n = q → n < f → D 6 1 = nI k → (∀ x, x = 0 ∨ 14 ≤ x → D x = A x) → (∀ y, y < k → (D (ft 6 y) 0 = nI (kdT t c y) ∧ D (ft 6 y) 1 = nI (frT t c y) ∧ D (ft 6 y) 2 = nI (toT t c y) ∧ D (ft 6 y) 3 = nI (cvT t c y)) ∧ D (ft 6 y) 4 = nI 0 ∧ D (ft 6 y) 5 = nI (bt 0 y)) → ∃ D1, dX7_take_82l o (nI i) (nI m) 6 f (nI (i + (hl c + 5 * k))) D = some D1 ∧ XC 6 q (kdT t c) (frT t c) (toT t c) (cvT t c) D1 ∧ XW 6 q (fun _ => 0) (bt 0) D1 ∧ (∀ x, x = 0 ∨ 14 ≤ x → D1 x = A x) ∧ ∀ x, x < 6 → D1 x = D x := by
    intro n
    induction n with
    | zero =>
      intro k f D hk hf h3 h4 h5
      obtain ⟨f, rfl⟩ : ∃ f1, f = f1 + 1 := ⟨f - 1, by omega⟩
      have e : k = q := by omega
      subst e
      refine ⟨D, ?_, ⟨h3, fun y hy => (h5 y hy).1⟩, fun y hy => (h5 y hy).2, h4, fun _ _ => rfl⟩
      rw [dX7_take_82l, show (5 : Int32) = nI 5 from rfl, nI_add, nI_add, if_pos (nI_lt (by omega) (by omega))]
    | succ n ih =>
      intro k f D hk hf h3 h4 h5
      obtain ⟨f, rfl⟩ : ∃ f1, f = f1 + 1 := ⟨f - 1, by omega⟩
      have hkq : k < q := by omega
      have hle := (hl_le c (by omega)).1
      obtain ⟨g1, g2, g3, g4⟩ := h.f hkq
      have e2 := (dg_s (x := t (hl c + 5 * k + 2)) ⟨by omega, by omega⟩).1
      have e3 := (dg_s (x := t (hl c + 5 * k + 3)) ⟨by omega, by omega⟩).1
      have e4 := (dg_s (x := t (hl c + 5 * k + 4)) ⟨by omega, by omega⟩).1
      have h4' : ∀ x, 14 ≤ x → D x = A x := fun x hx => h4 x (Or.inr hx)
      have p1 : d_X5_at o (nI (i + (hl c + 5 * k)) + 1) D = some (t (hl c + 5 * k + 1)) := by
        rw [nI_1, show i + (hl c + 5 * k) + 1 = i + (hl c + 5 * k + 1) by omega, at_s hz (show i + (hl c + 5 * k + 1) < z by omega) (by rw [h4' o (by omega)]; exact h2), h4' (o + 1) (by omega), ht _ (by omega)]
      have p2 : d_X7_digit o (nI (i + (hl c + 5 * k)) + 2) D = some (nI (frT t c k)) := by
        rw [show (2 : Int32) = nI 2 from rfl, nI_add, show i + (hl c + 5 * k) + 2 = i + (hl c + 5 * k + 2) by omega, dig D _ (by omega) h4', e2]; rfl
      have p3 : d_X7_digit o (nI (i + (hl c + 5 * k)) + 3) D = some (nI (toT t c k)) := by
        rw [show (3 : Int32) = nI 3 from rfl, nI_add, show i + (hl c + 5 * k) + 3 = i + (hl c + 5 * k + 3) by omega, dig D _ (by omega) h4', e3]; rfl
      have p4 : d_X7_digit o (nI (i + (hl c + 5 * k)) + 4) D = some (nI (cvT t c k)) := by
        rw [show (4 : Int32) = nI 4 from rfl, nI_add, show i + (hl c + 5 * k) + 4 = i + (hl c + 5 * k + 4) by omega, dig D _ (by omega) h4', e4]; rfl
      have p0 : d_X7_kindOf (t (hl c + 5 * k + 1)) D = some (nI (kdT t c k)) := by
        rw [kind_s]
        unfold kdT
        by_cases z1 : t (hl c + 5 * k + 1) = 98
        · rw [if_pos z1, if_pos z1]; rfl
        · rw [if_neg z1, if_neg z1]
          by_cases z2 : t (hl c + 5 * k + 1) = 109
          · rw [if_pos z2, if_pos z2]; rfl
          · rw [if_neg z2, if_neg z2, if_pos (by rcases g1 with y | y | y; exact absurd y z1; exact absurd y z2; exact y)]; rfl
      have b6 : inB (nI k) 6 = true := inB_t (show k < 6 by omega) (by decide)
      have nst : ¬ nI (i + m) < nI (i + (hl c + 5 * k)) + (5 : Int32) := by
        rw [show (5 : Int32) = nI 5 from rfl, nI_add]
        exact nI_nlt (by omega) (by omega)
      have n5 : nI (i + (hl c + 5 * k)) + (5 : Int32) = nI (i + (hl c + 5 * (k + 1))) := by
        rw [show (5 : Int32) = nI 5 from rfl, nI_add, show i + (hl c + 5 * k) + 5 = i + (hl c + 5 * (k + 1)) by omega]
      have f6 : ft 6 k ≠ 6 := by rw [ft6]; omega
      rw [dX7_take_82l, nI_add, if_neg nst, p1, bd1_some, p0, bd1_some, p2, bd1_some, p3, bd1_some, p4, bd1_some, n5]
      unfold d_X0_add
      rw [h3, if_pos (show nI k < (6 : Int32) from nI_lt (b := 6) (by omega) (by decide)), if_pos b6, cl (by omega)]
      simp only [lm_eq, bd1_some, mu_ne f6.symm, h3, nI_1]
      obtain ⟨D1, r1, r2, r3, r4, r5⟩ := ih (k + 1) f (mu (mu (mu (mu (mu (mu (mu D (ft 6 k) 0 (nI (kdT t c k))) (ft 6 k) 1 (nI (frT t c k))) (ft 6 k) 2 (nI (toT t c k))) (ft 6 k) 3 (nI (cvT t c k))) (ft 6 k) 4 0) (ft 6 k) 5 0) 6 1 (nI (k + 1))) (by omega) (by omega) (by rw [mu_eq, upd_s]) (fun x hx => by
        have n1 : x ≠ 6 := by omega
        have n2 : x ≠ ft 6 k := by rw [ft6]; omega
        simp only [mu_ne n1, mu_ne n2]
        exact h4 x hx) (fun y hy => by
        have n1 : ft 6 y ≠ 6 := by rw [ft6]; omega
        rw [mu_ne n1]
        by_cases e : y = k
        · subst e
          have hb : bt 0 y = 0 := by unfold bt; simp
          rw [hb]
          simp only [mu_eq]
          refine ⟨⟨?_, ?_, ?_, ?_⟩, ?_, ?_⟩ <;> simp [upd_ap, nI_0]
        · have n2 : ft 6 y ≠ ft 6 k := by rw [ft6, ft6]; omega
          simp only [mu_ne n2]
          exact h5 y (by omega))
      refine ⟨D1, r1, r2, r3, r4, fun x hx => ?_⟩
      have n1 : x ≠ 6 := by omega
      have n2 : x ≠ ft 6 k := by rw [ft6]; omega
      rw [r5 x hx]
      simp only [mu_ne n1, mu_ne n2]
  unfold d_X7_take
  rw [show nI i + (1 : Int32) = nI (i + 1) from nI_1 _, dig A 1 (by omega) (fun _ _ => rfl), bd1_some, dg1, b1, bd1_some, lm_eq]
  obtain ⟨D1, k1, k2, k3, k4⟩ := out (fun (w11 : Int32) (M12 : Mem) => (bd1 (d_X6_measure M12) (fun (M13 : Mem) => (lm (mu M13 6 1 (0 : Int32)) (fun (M14 : Mem) => (dX7_take_82l o (nI i) (nI m) 6 FU w11 M14)))))) c 0 FU B (by omega) (show c < 2000 by omega) b2 (fun x hx => b4 x (by omega) (by omega)) (fun x y hx hy => by
    rw [b3 _ (by omega)]
    unfold wq
    by_cases l : x < y
    · rw [if_pos l, if_neg (by omega)]; rfl
    · rw [if_neg l]
      by_cases l2 : y < x
      · rw [if_pos l2, if_neg (by omega)]; rfl
      · rw [if_neg l2]; rfl)
  obtain ⟨D2, m1, m2, m3⟩ := measure_s (M := D1) (w := wT t c) c6 (wT_le t c) k2 k4
  obtain ⟨D3, r1, r2, r3, r4, r5⟩ := foot q 0 FU (mu D2 6 1 0) (by omega) (show q < 2000 by omega) (by rw [mu_eq, upd_s]; rfl) (fun x hx => by rw [mu_ne (by omega), m3 x (by omega)]; exact k3 x hx) (fun y hy => absurd hy (Nat.not_lt_zero _))
  refine ⟨D3, ?_, ⟨?_, ?_, ?_⟩, r2, r3, r4⟩
  · have s2 : nI i + (2 : Int32) = nI (i + (2 + ri c 0)) := by rw [show (2 : Int32) = nI 2 from rfl, nI_add]; rfl
    rw [s2]
    refine k1.trans ?_
    rw [m1, bd1_some, lm_eq, show i + (2 + ri c c) = i + (hl c + 5 * 0) by omega]
    exact r1
  · rw [r5 2 (by decide), mu_ne (by decide), m3 2 (by decide)]; exact k2
  · rw [r5 3 (by decide), mu_ne (by decide), m3 3 (by decide)]; exact k4
  · rw [r5 4 (by decide), mu_ne (by decide)]; exact m2
