/-! town -/
theorem tl_s {s m c : Nat} {t : Nat → Int32} {M : Mem} (hs : s + m ≤ 240) (ht : ∀ y, y < m → M 23 (s + y) = t y) (hc : 2 ≤ c ∧ c ≤ 6) : ∀ n k f N, k + n = 6 → n < f → k ≤ 5 → FT t c m k M N → ∃ r N1, dX9_readsTown_40l (nI s) (nI m) f 1 N = some (r, N1) ∧ RF M N1 ∧ ((r = 0 ∧ ∃ P, N1 0 12 = nI P ∧ FB t c m P) ∨ (r = 1 ∧ ∃ q, 1 ≤ q ∧ q ≤ 5 ∧ m = hl c + 5 * q ∧ FT t c m q M N1)) := by
  intro n
  induction n with
  | zero => intro k f N hk; omega
  | succ n ih =>
    intro k f N hkn hf hk h
    obtain ⟨f, rfl⟩ : ∃ f1, f = f1 + 1 := ⟨f - 1, by omega⟩
    have h14 : N 0 14 = nI k := h.1.2.1
    have h12 : N 0 12 = nI (hl c + 5 * k) := h.1.2.2.1
    have hPm := h.2.1
    have j60 : (k = 0 ∨ hl c + 5 * k < m) → ∃ r N1, dX9_readsTown_60j (dX9_readsTown_40l (nI s) (nI m) f) (nI s) (nI m) N = some (r, N1) ∧ RF M N1 ∧ ((r = 0 ∧ ∃ P, N1 0 12 = nI P ∧ FB t c m P) ∨ (r = 1 ∧ ∃ q, 1 ≤ q ∧ q ≤ 5 ∧ m = hl c + 5 * q ∧ FT t c m q M N1)) := by
      intro hm
      obtain ⟨r, N1, k1, k2, k3⟩ := rfoot_s hs ht hc hk h hm
      unfold dX9_readsTown_60j
      rw [k1, bd2_some]
      rcases k3 with ⟨e, hP⟩ | ⟨e, k5, hF⟩
      · subst e
        obtain ⟨f, rfl⟩ : ∃ f1, f = f1 + 1 := ⟨f - 1, by omega⟩
        exact ⟨0, N1, by rw [dX9_readsTown_40l, if_pos rfl, if_pos (by decide)], k2, Or.inl ⟨rfl, hP⟩⟩
      · subst e
        exact ih (k + 1) f N1 (by omega) (by omega) k5 hF
    rw [dX9_readsTown_40l, if_neg one0, h14]
    by_cases k0 : k = 0
    · rw [if_pos (by rw [k0]; decide)]
      exact j60 (Or.inl k0)
    · rw [if_neg (show ¬ nI k < (1 : Int32) from nI_nlt (b := 1) (by omega) (by omega)), h12]
      have hm60 : hl c + 5 * k < 2 ^ 31 := by have := hl_le c (by omega); omega
      by_cases q : hl c + 5 * k < m
      · rw [if_neg (le_f q (by omega))]
        exact j60 (Or.inr q)
      · have e : m = hl c + 5 * k := by omega
        rw [if_pos (by rw [← e]; exact le_t (Nat.le_refl _) (by omega)), if_pos (by decide)]
        exact ⟨1, N, rfl, h.1.2.2.2.1, Or.inr ⟨rfl, k, by omega, hk, e, h⟩⟩
theorem rtown_s {s m : Nat} {t : Nat → Int32} {M : Mem} (hs : s + m ≤ 240) (ht : ∀ y, y < m → M 23 (s + y) = t y) : ∃ r N1, d_X9_readsTown (nI s) (nI m) M = some (r, N1) ∧ RF M N1 ∧ ((r = 0 ∧ ∃ P, N1 0 12 = nI P ∧ FB t (dg (t 1)) m P) ∨ (r = 1 ∧ (2 ≤ dg (t 1) ∧ dg (t 1) ≤ 6 ∧ t 1 = nI (48 + dg (t 1))) ∧ ∃ q, 1 ≤ q ∧ q ≤ 5 ∧ m = hl (dg (t 1)) + 5 * q ∧ FT t (dg (t 1)) m q M N1)) := by
  have F0 : RF M (mu (mu M 0 12 0) 0 14 0) := (RF.p (M := M) (N := M) ⟨fun _ _ _ => rfl, fun _ _ _ _ => rfl⟩ (by omega) _).p (by omega) _
  have e12 : mu (mu M 0 12 0) 0 14 0 0 12 = nI 0 := by rw [mu_eq, upd_n (by decide), mu_eq, upd_s]; rfl
  have e14 : mu (mu M 0 12 0) 0 14 0 0 14 = 0 := by rw [mu_eq, upd_s]
  have g0 : gB t (dg (t 1)) 0 = decide (t 0 = 116) := rfl
  unfold d_X9_readsTown
  rw [lm_eq, lm_eq, code_s hs ht F0 e12 (Nat.zero_le _), bd1_some]
  by_cases q : 0 < m ∧ t 0 = 116
  · rw [if_pos q.1, if_pos q.2, lm_eq, e12, nI_1]
    obtain ⟨r, N1, k1, k2, k3, k4⟩ := rstr_s (N := mu (mu (mu M 0 12 0) 0 14 0) 0 12 (nI (0 + 1))) hs ht (by omega) (F0.p (by omega) _) (by rw [mu_eq, upd_s]) (by rw [mu_eq, upd_n (by decide)]; exact e14) (by rw [g0]; exact decide_eq_true q.2)
    rw [k1, bd2_some]
    rcases k4 with ⟨e, hP⟩ | ⟨e, hc, p1, p2, p3, p4, p5⟩
    · subst e
      refine ⟨0, N1, ?_, k2, Or.inl ⟨rfl, hP⟩⟩
      show dX9_readsTown_40l (nI s) (nI m) (1999 + 1) 0 N1 = _
      rw [dX9_readsTown_40l, if_pos rfl, if_pos (by decide)]
    · subst e
      obtain ⟨r, N2, l1, l2, l3⟩ := tl_s hs ht ⟨hc.1, hc.2.1⟩ 6 0 FU N1 (by omega) (by decide) (by omega) ⟨⟨p1, k3, p3, k2, fun _ _ => rfl⟩, p2, p4, p5, fun y hy => absurd hy (Nat.not_lt_zero _)⟩
      refine ⟨r, N2, l1, l2, ?_⟩
      rcases l3 with l3 | ⟨e, l3⟩
      · exact Or.inl l3
      · exact Or.inr ⟨e, hc, l3⟩
  · have n1 : ¬ (if 0 < m then t 0 else (-9 : Int32)) = 116 := by
      by_cases y : 0 < m
      · rw [if_pos y]; exact fun z => q ⟨y, z⟩
      · rw [if_neg y]; decide
    rw [if_neg n1]
    refine ⟨0, _, rfl, F0, Or.inl ⟨rfl, 0, e12, Nat.zero_le _, fun y hy => absurd hy (Nat.not_lt_zero _), fun y => ?_, fun y => by omega⟩⟩
    rw [g0]; exact decide_eq_false (fun z => q ⟨y, z⟩)
theorem cp36 (K : Mem → Option (Int32 × Mem)) (N : Mem) : ∀ n x f B, x + n = 36 → n < f → (∀ q, q ≠ 1 → B q = N q) → (∀ y, y < x → B 1 y = N 8 y) → ∃ B1, dX9_town_108l K f (nI x) B = K B1 ∧ (∀ q, q ≠ 1 → B1 q = N q) ∧ ∀ y, y < 36 → B1 1 y = N 8 y := by
  intro n
  induction n with
  | zero =>
    intro x f B hx hf hq h1
    obtain ⟨f, rfl⟩ : ∃ f1, f = f1 + 1 := ⟨f - 1, by omega⟩
    have e : x = 36 := by omega
    subst e
    exact ⟨B, by rw [dX9_town_108l, if_pos (by decide)], hq, h1⟩
  | succ n ih =>
    intro x f B hx hf hq h1
    obtain ⟨f, rfl⟩ : ∃ f1, f = f1 + 1 := ⟨f - 1, by omega⟩
    have b := inB_t (show x < 36 by omega) (by decide)
    rw [dX9_town_108l, if_neg (show ¬ (36 : Int32) ≤ nI x from nI_ge (b := 36) (by omega) (by decide)), if_pos b, if_pos b, cl (by omega), hq 8 (by decide), lm_eq, nI_1]
    refine ih (x + 1) f _ (by omega) (by omega) (fun q hn => by rw [mu_ne hn]; exact hq q hn) (fun y hy => ?_)
    rw [mu_eq]
    by_cases z : y = x
    · subst z; rw [upd_s]
    · rw [upd_n z]; exact h1 y (by omega)
theorem cpF {k : Nat} (hk : k ≤ 6) (K : Mem → Option (Int32 × Mem)) (N : Mem) (h2 : N 0 2 = nI k) : ∀ n x f B, x + n = k → n < f → (∀ q, q < 3 ∨ 7 < q → B q = N q) → (∀ y, y < x → B 3 y = N 9 y ∧ B 4 y = N 10 y ∧ B 5 y = N 11 y ∧ B 6 y = N 12 y ∧ B 7 y = 0) → ∃ B1, dX9_town_138l K f (nI x) B = K B1 ∧ (∀ q, q < 3 ∨ 7 < q → B1 q = N q) ∧ ∀ y, y < k → B1 3 y = N 9 y ∧ B1 4 y = N 10 y ∧ B1 5 y = N 11 y ∧ B1 6 y = N 12 y ∧ B1 7 y = 0 := by
  intro n
  induction n with
  | zero =>
    intro x f B hx hf hq h1
    obtain ⟨f, rfl⟩ : ∃ f1, f = f1 + 1 := ⟨f - 1, by omega⟩
    have e : x = k := by omega
    subst e
    exact ⟨B, by rw [dX9_town_138l, hq 0 (by decide), h2, if_pos (le_t (Nat.le_refl _) (by omega))], hq, h1⟩
  | succ n ih =>
    intro x f B hx hf hq h1
    obtain ⟨f, rfl⟩ : ∃ f1, f = f1 + 1 := ⟨f - 1, by omega⟩
    have b : inB (nI x) 6 = true := inB_t (show x < 6 by omega) (by decide)
    have q9 := hq 9 (by decide)
    have q10 := hq 10 (by decide)
    have q11 := hq 11 (by decide)
    have q12 := hq 12 (by decide)
    have n3 : (10 : Nat) ≠ 3 := by decide
    have n4 : (11 : Nat) ≠ 3 := by decide
    have n5 : (11 : Nat) ≠ 4 := by decide
    have n6 : (12 : Nat) ≠ 3 := by decide
    have n7 : (12 : Nat) ≠ 4 := by decide
    have n8 : (12 : Nat) ≠ 5 := by decide
    rw [dX9_town_138l, hq 0 (by decide), h2, if_neg (le_f (by omega) (by omega))]
    simp only [b, if_true, cl (show x < 2 ^ 31 by omega), lm_eq, q9, mu_ne n3, q10, mu_ne n4, mu_ne n5, q11, mu_ne n6, mu_ne n7, mu_ne n8, q12, nI_1]
    refine ih (x + 1) f _ (by omega) (by omega) (fun q hn => ?_) (fun y hy => ?_)
    · rw [mu_ne (by omega), mu_ne (by omega), mu_ne (by omega), mu_ne (by omega), mu_ne (by omega)]; exact hq q hn
    · have a3 : (mu (mu (mu (mu (mu B 3 x (N 9 x)) 4 x (N 10 x)) 5 x (N 11 x)) 6 x (N 12 x)) 7 x 0) 3 = upd (B 3) x (N 9 x) := by rw [mu_ne (by decide), mu_ne (by decide), mu_ne (by decide), mu_ne (by decide), mu_eq]
      have a4 : (mu (mu (mu (mu (mu B 3 x (N 9 x)) 4 x (N 10 x)) 5 x (N 11 x)) 6 x (N 12 x)) 7 x 0) 4 = upd (B 4) x (N 10 x) := by rw [mu_ne (by decide), mu_ne (by decide), mu_ne (by decide), mu_eq, mu_ne (by decide)]
      have a5 : (mu (mu (mu (mu (mu B 3 x (N 9 x)) 4 x (N 10 x)) 5 x (N 11 x)) 6 x (N 12 x)) 7 x 0) 5 = upd (B 5) x (N 11 x) := by rw [mu_ne (by decide), mu_ne (by decide), mu_eq, mu_ne (by decide), mu_ne (by decide)]
      have a6 : (mu (mu (mu (mu (mu B 3 x (N 9 x)) 4 x (N 10 x)) 5 x (N 11 x)) 6 x (N 12 x)) 7 x 0) 6 = upd (B 6) x (N 12 x) := by rw [mu_ne (by decide), mu_eq, mu_ne (by decide), mu_ne (by decide), mu_ne (by decide)]
      have a7 : (mu (mu (mu (mu (mu B 3 x (N 9 x)) 4 x (N 10 x)) 5 x (N 11 x)) 6 x (N 12 x)) 7 x 0) 7 = upd (B 7) x 0 := by rw [mu_eq, mu_ne (by decide), mu_ne (by decide), mu_ne (by decide), mu_ne (by decide)]
      rw [a3, a4, a5, a6, a7]
      by_cases z : y = x
      · subst z
        rw [upd_s, upd_s, upd_s, upd_s, upd_s]
        exact ⟨rfl, rfl, rfl, rfl, rfl⟩
      · rw [upd_n z, upd_n z, upd_n z, upd_n z, upd_n z]
        exact h1 y (by omega)
theorem lgz (v : Int32) : (0 ≤ lg_cmp v.toInt64 0) ↔ 0 ≤ v.toInt := by
  have z64 : (0 : Int64).toInt = 0 := by decide
  have h := lg_cmp_lt v.toInt64 0
  rw [Int64.lt_iff_toInt_lt, Int32.toInt_toInt64, z64, Int32.lt_iff_toInt_lt] at h
  rw [Int32.le_iff_toInt_le]
  have z32 : (0 : Int32).toInt = 0 := by decide
  rw [z32] at h ⊢
  omega
