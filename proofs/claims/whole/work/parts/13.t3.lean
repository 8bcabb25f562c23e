/-! town: the reference reads streets -/
theorem sub48 (x : Int32) : (x - (48 : Int32)).toInt = x.toInt - 48 ∨ (9 < (x - (48 : Int32)).toInt ∧ x.toInt < 48) := by
  have h1 := Int32.le_toInt x
  have h2 := Int32.toInt_lt x
  rw [Int32.toInt_sub, show (48 : Int32).toInt = 48 by decide, Int.bmod_def]
  omega
/-- the reference's own fields while it reads -/
def RF (M N : Mem) : Prop := (∀ q, q ≠ 0 → (q < 8 ∨ 12 < q) → N q = M q) ∧ ∀ j, j ≠ 12 → j ≠ 13 → j ≠ 14 → N 0 j = M 0 j
theorem RF.p {M N : Mem} (h : RF M N) {j : Nat} (hj : j = 12 ∨ j = 13 ∨ j = 14) (v : Int32) : RF M (mu N 0 j v) := ⟨fun q q0 q1 => by rw [mu_ne q0]; exact h.1 q q0 q1, fun y a b d => by rw [mu_eq, upd_n (by omega)]; exact h.2 y a b d⟩
theorem RF.c {M N : Mem} (h : RF M N) {o j : Nat} (ho : 8 ≤ o ∧ o ≤ 12) (v : Int32) : RF M (mu N o j v) := ⟨fun q q0 q1 => by rw [mu_ne (by omega)]; exact h.1 q q0 q1, fun y a b d => by rw [mu_ne (by omega)]; exact h.2 y a b d⟩
theorem code_s {s m P : Nat} {t : Nat → Int32} {M N : Mem} (hs : s + m ≤ 240) (ht : ∀ y, y < m → M 23 (s + y) = t y) (h : RF M N) (hP : N 0 12 = nI P) (hm : P ≤ m) : d_X9_codeAt (nI s) (nI m) N = some (if P < m then t P else -9) := by
  unfold d_X9_codeAt
  rw [hP]
  by_cases q : P < m
  · rw [if_neg (le_f q (by omega)), nI_add, if_pos (inB_t (show s + P < 240 by omega) (by decide)), cl (by omega), h.1 23 (by decide) (by omega), ht P q, if_pos q]
  · rw [if_pos (le_t (by omega) (by omega)), if_neg q]
theorem fig_ok {s m P : Nat} {t : Nat → Int32} {M N : Mem} (hs : s + m ≤ 240) (ht : ∀ y, y < m → M 23 (s + y) = t y) (h : RF M N) (hP : N 0 12 = nI P) (hm : P < m) {v3 lo hi : Int32} (h3 : 0 ≤ v3) (h0 : 0 ≤ lo.toInt) (h9 : hi.toInt ≤ 9) (hr : 48 + lo.toInt ≤ (t P).toInt ∧ (t P).toInt ≤ 48 + hi.toInt) : d_X9_figure (nI s) (nI m) v3 lo hi N = some (nI (dg (t P)), mu N 0 12 (nI (P + 1))) := by
  obtain ⟨e1, e2⟩ := dg_s (x := t P) ⟨by omega, by omega⟩
  have d9 := dg_le (t P)
  unfold d_X9_figure dX9_figure_18j dX9_figure_49j
  rw [if_pos h3, code_s hs ht h hP (by omega), bd1_some, if_pos hm, e1, in_s, bd1_some, Int32.toInt_toInt64, Int32.toInt_toInt64, Int32.toInt_toInt64, nI_toInt (by omega), bI_t (by omega), if_neg one0, lm_eq, if_neg one0, hP, nI_1]
theorem fig_no {s m P : Nat} {t : Nat → Int32} {M N : Mem} (hs : s + m ≤ 240) (ht : ∀ y, y < m → M 23 (s + y) = t y) (h : RF M N) (hP : N 0 12 = nI P) (hm : P ≤ m) {v3 lo hi : Int32} (h0 : 0 ≤ lo.toInt) (h9 : hi.toInt ≤ 9) (hr : 0 ≤ v3 → P < m → ¬ (48 + lo.toInt ≤ (t P).toInt ∧ (t P).toInt ≤ 48 + hi.toInt)) : d_X9_figure (nI s) (nI m) v3 lo hi N = some (-9, N) := by
  have fail : ∀ s0 : Int32, ¬ (lo.toInt ≤ s0.toInt ∧ s0.toInt ≤ hi.toInt) → dX9_figure_18j lo hi s0 N = some (-9, N) := by
    intro s0 hs0
    unfold dX9_figure_18j dX9_figure_49j
    rw [in_s, bd1_some, Int32.toInt_toInt64, Int32.toInt_toInt64, Int32.toInt_toInt64, bI_f hs0, if_pos rfl, lm_eq, if_pos rfl, Int32.add_zero, mu_id rfl]
  have m57 : ((-9 : Int32) - (48 : Int32)).toInt = -57 := by decide
  have m9 : (-9 : Int32).toInt = -9 := by decide
  unfold d_X9_figure
  by_cases q : (0 : Int32) ≤ v3
  · rw [if_pos q, code_s hs ht h hP hm, bd1_some]
    by_cases y : P < m
    · rw [if_pos y]
      refine fail _ (fun z => ?_)
      have k := hr q y
      rcases sub48 (t P) with e | e <;> omega
    · rw [if_neg y]
      exact fail _ (by rw [m57]; omega)
  · rw [if_neg q]
    exact fail _ (by rw [m9]; omega)
/-- where reading ends: the first place that does not go on, or a text that is cut off -/
def FB (t : Nat → Int32) (c m P : Nat) : Prop := P ≤ m ∧ (∀ y, y < P → gB t c y = true) ∧ (P < m → gB t c P = false) ∧ (P = m → ¬ (2 ≤ m ∧ hl c + 5 ≤ m ∧ (m - hl c) % 5 = 0))
theorem gB_d {t : Nat → Int32} {c p : Nat} (h2 : 2 ≤ p) (h : p < hl c) : gB t c p = decide (48 ≤ (t p).toInt ∧ (t p).toInt ≤ 57) := by
  unfold gB
  rw [if_neg (by omega), if_neg (by omega), if_pos h]
theorem st_in {s m c a : Nat} {t : Nat → Int32} {M : Mem} (hs : s + m ≤ 240) (ht : ∀ y, y < m → M 23 (s + y) = t y) (hc : c ≤ 6) (ha : a < c) (K : Int32 → Mem → Option (Int32 × Mem)) : ∀ n b f N, b + n = c → a < b → n < f → RF M N → N 0 13 = nI c → N 0 14 = 0 → 2 + (ri c a + (b - a - 1)) ≤ m → N 0 12 = nI (2 + (ri c a + (b - a - 1))) → (∀ y, y < 2 + (ri c a + (b - a - 1)) → gB t c y = true) → (∀ x y, x < c → y < c → (x < y ∧ (x < a ∨ (x = a ∧ y < b)) ∨ y < x ∧ (y < a ∨ (y = a ∧ x < b)) ∨ x = y ∧ x ≤ a) → N 8 (6 * x + y) = nI (wT t c x y)) → ∃ r N1, dX9_readsStreets_59l (nI s) (nI m) (nI a) K f 1 (nI b) N = K r N1 ∧ RF M N1 ∧ N1 0 13 = nI c ∧ N1 0 14 = 0 ∧ ((r = 0 ∧ ∃ P, N1 0 12 = nI P ∧ FB t c m P) ∨ (r = 1 ∧ 2 + ri c (a + 1) ≤ m ∧ N1 0 12 = nI (2 + ri c (a + 1)) ∧ (∀ y, y < 2 + ri c (a + 1) → gB t c y = true) ∧ ∀ x y, x < c → y < c → (x < y ∧ (x < a + 1) ∨ y < x ∧ (y < a + 1) ∨ x = y ∧ x ≤ a) → N1 8 (6 * x + y) = nI (wT t c x y))) := by
  have hhl := hl_ri c (by omega)
  intro n
  induction n with
  | zero =>
    intro b f N hb hab hf hF h13 h14 hPm h12 hg h8
    obtain ⟨f, rfl⟩ : ∃ f1, f = f1 + 1 := ⟨f - 1, by omega⟩
    have e : b = c := by omega
    subst e
    have e2 : ri b a + (b - a - 1) = ri b (a + 1) := by
      show _ = ri b a + (b - 1 - a)
      omega
    rw [e2] at hPm h12 hg
    exact ⟨1, N, by rw [dX9_readsStreets_59l, if_neg one0, h13, if_pos (le_t (Nat.le_refl _) (by omega))], hF, h13, h14, Or.inr ⟨rfl, hPm, h12, hg, fun x y hx hy hh => h8 x y hx hy (by omega)⟩⟩
  | succ n ih =>
    intro b f N hb hab hf hF h13 h14 hPm h12 hg h8
    obtain ⟨f, rfl⟩ : ∃ f1, f = f1 + 1 := ⟨f - 1, by omega⟩
    have hbc : b < c := by omega
    have hx := dc_d3 c (by omega) a (by omega) b (by omega) hbc hab
    have bab : inB (nI (6 * a + b)) 36 = true := inB_t (show 6 * a + b < 36 by omega) (by decide)
    have bba : inB (nI (6 * b + a)) 36 = true := inB_t (show 6 * b + a < 36 by omega) (by decide)
    have z0 : (0 : Int32).toInt = 0 := by decide
    have z9 : (9 : Int32).toInt = 9 := by decide
    have gd := gB_d (t := t) (c := c) (p := 2 + (ri c a + (b - a - 1))) (by omega) (by omega)
    have h15 := dc_d4 c (by omega)
    rw [dX9_readsStreets_59l, if_neg one0, h13, if_neg (le_f hbc (by omega))]
    by_cases q : 2 + (ri c a + (b - a - 1)) < m ∧ (48 ≤ (t (2 + (ri c a + (b - a - 1)))).toInt ∧ (t (2 + (ri c a + (b - a - 1)))).toInt ≤ 57)
    · have fg := fig_ok (v3 := 0) (lo := 0) (hi := 9) hs ht hF h12 q.1 (by decide) (by decide) (by decide) (by rw [z0, z9]; omega)
      have wl : dg (t (2 + (ri c a + (b - a - 1)))) = wT t c a b := (wT_lt hab).symm
      rw [wl] at fg
      rw [fg, bd2_some, ix6r, ix6r, if_pos bab, cl (j := 6 * a + b) (by omega), lm_eq, if_pos bab, if_pos bba, cl (j := 6 * b + a) (by omega), lm_eq, if_pos bab]
      have v0 : mu (mu (mu N 0 12 (nI (2 + (ri c a + (b - a - 1)) + 1))) 8 (6 * a + b) (nI (wT t c a b))) 8 (6 * b + a) (mu (mu N 0 12 (nI (2 + (ri c a + (b - a - 1)) + 1))) 8 (6 * a + b) (nI (wT t c a b)) 8 (6 * a + b)) = mu (mu (mu N 0 12 (nI (2 + (ri c a + (b - a - 1)) + 1))) 8 (6 * a + b) (nI (wT t c a b))) 8 (6 * b + a) (nI (wT t c a b)) := by
        rw [mu_eq, upd_s]
      rw [v0]
      have w9 := wT_le t c a b
      have v1 : ¬ mu (mu (mu N 0 12 (nI (2 + (ri c a + (b - a - 1)) + 1))) 8 (6 * a + b) (nI (wT t c a b))) 8 (6 * b + a) (nI (wT t c a b)) 8 (6 * a + b) < (0 : Int32) := by
        rw [mu_eq, upd_n (by omega), mu_eq, upd_s]
        exact nI_nlt (b := 0) (Nat.zero_le _) (by omega)
      have e2 : 2 + (ri c a + (b - a - 1)) + 1 = 2 + (ri c a + (b + 1 - a - 1)) := by omega
      rw [if_neg v1, nI_1]
      rw [e2]
      refine ih (b + 1) f _ (by omega) (by omega) (by omega) (((hF.p (by omega) _).c (by omega) _).c (by omega) _) (by rw [mu_ne (by decide), mu_ne (by decide), mu_eq, upd_n (by decide)]; exact h13) (by rw [mu_ne (by decide), mu_ne (by decide), mu_eq, upd_n (by decide)]; exact h14) (by omega) (by rw [mu_ne (by decide), mu_ne (by decide), mu_eq, upd_s]) (fun y hy => ?_) (fun x y hx hy hh => ?_)
      · by_cases z : y = 2 + (ri c a + (b - a - 1))
        · rw [z, gd]; exact decide_eq_true q.2
        · exact hg y (by omega)
      · rw [mu_eq, mu_eq, mu_ne (by decide), upd_ap, upd_ap]
        by_cases z1 : x = b ∧ y = a
        · rw [if_pos (by omega), z1.1, z1.2, wT_sy]
        · rw [if_neg (by omega)]
          by_cases z2 : x = a ∧ y = b
          · rw [if_pos (by omega), z2.1, z2.2]
          · rw [if_neg (by omega)]
            exact h8 x y hx hy (by omega)
    · have fg := fig_no (v3 := 0) (lo := 0) (hi := 9) hs ht hF h12 hPm (by decide) (by decide) (fun _ y z => q ⟨y, by rw [z0, z9] at z; omega⟩)
      rw [fg, bd2_some, ix6r, ix6r, if_pos bab, cl (j := 6 * a + b) (by omega), lm_eq, if_pos bab, if_pos bba, cl (j := 6 * b + a) (by omega), lm_eq, if_pos bab]
      have v1 : mu (mu N 8 (6 * a + b) (-9)) 8 (6 * b + a) (mu N 8 (6 * a + b) (-9) 8 (6 * a + b)) 8 (6 * a + b) < (0 : Int32) := by
        rw [mu_eq, upd_n (by omega), mu_eq, upd_s]
        decide
      rw [if_pos v1]
      obtain ⟨f, rfl⟩ : ∃ f1, f = f1 + 1 := ⟨f - 1, by omega⟩
      refine ⟨0, _, by rw [dX9_readsStreets_59l, if_pos rfl], ((hF.c (by omega) _).c (by omega) _), by rw [mu_ne (by decide), mu_ne (by decide)]; exact h13, by rw [mu_ne (by decide), mu_ne (by decide)]; exact h14, Or.inl ⟨rfl, 2 + (ri c a + (b - a - 1)), by rw [mu_ne (by decide), mu_ne (by decide)]; exact h12, hPm, hg, fun y => ?_, fun y => ?_⟩⟩
      · rw [gd]; exact decide_eq_false (fun z => q ⟨y, z⟩)
      · omega
