/-! town: the reference reads all streets -/
theorem st_dead {s m c : Nat} {M : Mem} (hc : c ≤ 6) : ∀ n a f N P, a + n = c → n < f → RF M N → N 0 13 = nI c → N 0 14 = 0 → N 0 12 = nI P → ∃ N1, dX9_readsStreets_30l (nI s) (nI m) f 0 (nI a) N = some (0, N1) ∧ RF M N1 ∧ N1 0 14 = 0 ∧ N1 0 12 = nI P := by
  intro n
  induction n with
  | zero =>
    intro a f N P ha hf hF h13 h14 h12
    obtain ⟨f, rfl⟩ : ∃ f1, f = f1 + 1 := ⟨f - 1, by omega⟩
    have e : a = c := by omega
    exact ⟨N, by rw [e, dX9_readsStreets_30l, h13, if_pos (le_t (Nat.le_refl _) (by omega)), if_pos (by decide)], hF, h14, h12⟩
  | succ n ih =>
    intro a f N P ha hf hF h13 h14 h12
    obtain ⟨f, rfl⟩ : ∃ f1, f = f1 + 1 := ⟨f - 1, by omega⟩
    have ba : inB (nI (6 * a + a)) 36 = true := inB_t (show 6 * a + a < 36 by omega) (by decide)
    obtain ⟨N1, k1, k2⟩ := ih (a + 1) f (mu N 8 (6 * a + a) 0) P (by omega) (by omega) (hF.c (by omega) _) (by rw [mu_ne (by decide)]; exact h13) (by rw [mu_ne (by decide)]; exact h14) (by rw [mu_ne (by decide)]; exact h12)
    refine ⟨N1, ?_, k2⟩
    rw [dX9_readsStreets_30l, h13, if_neg (le_f (by omega) (by omega)), ix6r, if_pos ba, cl (by omega), lm_eq, lm_eq]
    show dX9_readsStreets_59l (nI s) (nI m) (nI a) _ (1999 + 1) 0 (nI a + 1) _ = _
    rw [dX9_readsStreets_59l, if_pos rfl, nI_1]
    exact k1
theorem st_out {s m c : Nat} {t : Nat → Int32} {M : Mem} (hs : s + m ≤ 240) (ht : ∀ y, y < m → M 23 (s + y) = t y) (hc : c ≤ 6) : ∀ n a f N, a + n = c → n < f → RF M N → N 0 13 = nI c → N 0 14 = 0 → 2 + ri c a ≤ m → N 0 12 = nI (2 + ri c a) → (∀ y, y < 2 + ri c a → gB t c y = true) → (∀ x y, x < c → y < c → (x < y ∧ x < a ∨ y < x ∧ y < a ∨ x = y ∧ x < a) → N 8 (6 * x + y) = nI (wT t c x y)) → ∃ r N1, dX9_readsStreets_30l (nI s) (nI m) f 1 (nI a) N = some (r, N1) ∧ RF M N1 ∧ N1 0 14 = 0 ∧ ((r = 0 ∧ ∃ P, N1 0 12 = nI P ∧ FB t c m P) ∨ (r = 1 ∧ N1 0 13 = nI c ∧ 2 + ri c c ≤ m ∧ N1 0 12 = nI (2 + ri c c) ∧ (∀ y, y < 2 + ri c c → gB t c y = true) ∧ ∀ x y, x < c → y < c → N1 8 (6 * x + y) = nI (wT t c x y))) := by
  intro n
  induction n with
  | zero =>
    intro a f N ha hf hF h13 h14 hPm h12 hg h8
    obtain ⟨f, rfl⟩ : ∃ f1, f = f1 + 1 := ⟨f - 1, by omega⟩
    have e : a = c := by omega
    rw [e] at hPm h12 hg h8 ⊢
    exact ⟨1, N, by rw [dX9_readsStreets_30l, h13, if_pos (le_t (Nat.le_refl _) (by omega)), if_pos (by decide)], hF, h14, Or.inr ⟨rfl, h13, hPm, h12, hg, fun x y hx hy => h8 x y hx hy (by omega)⟩⟩
  | succ n ih =>
    intro a f N ha hf hF h13 h14 hPm h12 hg h8
    obtain ⟨f, rfl⟩ : ∃ f1, f = f1 + 1 := ⟨f - 1, by omega⟩
    have hac : a < c := by omega
    have ba : inB (nI (6 * a + a)) 36 = true := inB_t (show 6 * a + a < 36 by omega) (by decide)
    have e0 : ri c a + (a + 1 - a - 1) = ri c a := by omega
    obtain ⟨r, N1, k1, k2, k3, k4, k5⟩ := st_in hs ht hc hac (fun (w16 : Int32) (M17 : Mem) => ((dX9_readsStreets_30l (nI s) (nI m) f) w16 (nI a + (1 : Int32)) M17)) (c - (a + 1)) (a + 1) FU (mu N 8 (6 * a + a) 0) (by omega) (by omega) (show c - (a + 1) < 2000 by omega) (hF.c (by omega) _) (by rw [mu_ne (by decide)]; exact h13) (by rw [mu_ne (by decide)]; exact h14) (by rw [e0]; exact hPm) (by rw [mu_ne (by decide), e0]; exact h12) (by rw [e0]; exact hg) (fun x y hx hy hh => by
      rw [mu_eq, upd_ap]
      by_cases z : x = a ∧ y = a
      · rw [if_pos (by omega), z.1, z.2]
        unfold wT
        rw [if_pos rfl]; rfl
      · rw [if_neg (by omega)]
        exact h8 x y hx hy (by omega))
    rw [dX9_readsStreets_30l, h13, if_neg (le_f hac (by omega)), ix6r, if_pos ba, cl (by omega), lm_eq, lm_eq, nI_1]
    rcases k5 with ⟨e, P, p1, p2⟩ | ⟨e, p1, p2, p3, p4⟩
    · subst e
      obtain ⟨N2, l1, l2, l3, l4⟩ := st_dead (s := s) (m := m) hc n (a + 1) f N1 P (by omega) (by omega) k2 k3 k4 p1
      refine ⟨0, N2, ?_, l2, l3, Or.inl ⟨rfl, P, l4, p2⟩⟩
      rw [nI_1] at k1
      exact k1.trans l1
    · subst e
      obtain ⟨r2, N2, l1, l2⟩ := ih (a + 1) f N1 (by omega) (by omega) k2 k3 k4 p1 p2 p3 (fun x y hx hy hh => p4 x y hx hy (by omega))
      refine ⟨r2, N2, ?_, l2⟩
      rw [nI_1] at k1
      exact k1.trans l1
theorem rstr_s {s m : Nat} {t : Nat → Int32} {M N : Mem} (hs : s + m ≤ 240) (ht : ∀ y, y < m → M 23 (s + y) = t y) (hm : 1 ≤ m) (hF : RF M N) (h12 : N 0 12 = nI 1) (h14 : N 0 14 = 0) (h0 : gB t (dg (t 1)) 0 = true) : ∃ r N1, d_X9_readsStreets (nI s) (nI m) N = some (r, N1) ∧ RF M N1 ∧ N1 0 14 = 0 ∧ ((r = 0 ∧ ∃ P, N1 0 12 = nI P ∧ FB t (dg (t 1)) m P) ∨ (r = 1 ∧ (2 ≤ dg (t 1) ∧ dg (t 1) ≤ 6 ∧ t 1 = nI (48 + dg (t 1))) ∧ N1 0 13 = nI (dg (t 1)) ∧ hl (dg (t 1)) ≤ m ∧ N1 0 12 = nI (hl (dg (t 1))) ∧ (∀ y, y < hl (dg (t 1)) → gB t (dg (t 1)) y = true) ∧ ∀ x y, x < dg (t 1) → y < dg (t 1) → N1 8 (6 * x + y) = nI (wT t (dg (t 1)) x y))) := by
  have z2 : (2 : Int32).toInt = 2 := by decide
  have z6 : (6 : Int32).toInt = 6 := by decide
  have g1 : gB t (dg (t 1)) 1 = decide (50 ≤ (t 1).toInt ∧ (t 1).toInt ≤ 54) := by
    unfold gB
    rw [if_neg (by decide), if_pos rfl]
  unfold d_X9_readsStreets dX9_readsStreets_26j
  by_cases q : 1 < m ∧ (50 ≤ (t 1).toInt ∧ (t 1).toInt ≤ 54)
  · have fg := fig_ok (v3 := 0) (lo := 2) (hi := 6) hs ht hF h12 q.1 (by decide) (by decide) (by decide) (by rw [z2, z6]; omega)
    obtain ⟨d1, d2⟩ := dg_s (x := t 1) ⟨by omega, by omega⟩
    have c2 : 2 ≤ dg (t 1) := by omega
    have c6 : dg (t 1) ≤ 6 := by omega
    have t1 : t 1 = nI (48 + dg (t 1)) := Int32.toInt_inj.mp (by rw [nI_toInt (by omega), d2]; omega)
    have hx : mu (mu N 0 12 (nI (1 + 1))) 0 13 (nI (dg (t 1))) 0 13 = nI (dg (t 1)) := by rw [mu_eq, upd_s]
    obtain ⟨r, N1, k1, k2, k3, k4⟩ := st_out hs ht c6 (dg (t 1)) 0 FU (mu (mu N 0 12 (nI (1 + 1))) 0 13 (nI (dg (t 1)))) (by omega) (show dg (t 1) < 2000 by omega) ((hF.p (by omega) _).p (by omega) _) hx (by rw [mu_eq, upd_n (by decide), mu_eq, upd_n (by decide)]; exact h14) (show 2 + 0 ≤ m by omega) (by rw [mu_eq, upd_n (by decide), mu_eq, upd_s]; rfl) (fun y hy => by
      have hy : y < 2 + 0 := hy
      rcases (show y = 0 ∨ y = 1 by omega) with e | e
      · rw [e]; exact h0
      · rw [e, g1]; exact decide_eq_true q.2) (fun x y hx hy hh => by omega)
    rw [fg, bd2_some, lm_eq, hx, if_neg (nI_nle (by omega) (by omega))]
    refine ⟨r, N1, k1, k2, k3, ?_⟩
    rcases k4 with k4 | ⟨e, p1, p2, p3, p4, p5⟩
    · exact Or.inl k4
    · rw [hl_ri _ (show dg (t 1) < 7 by omega)]
      exact Or.inr ⟨e, ⟨c2, c6, t1⟩, p1, p2, p3, p4, p5⟩
  · have fg := fig_no (v3 := 0) (lo := 2) (hi := 6) hs ht hF h12 hm (by decide) (by decide) (fun _ y z => q ⟨y, by rw [z2, z6] at z; omega⟩)
    have hx : mu N 0 13 (-9) 0 13 = -9 := by rw [mu_eq, upd_s]
    rw [fg, bd2_some, lm_eq, hx, if_pos (show (-9 : Int32) ≤ 0 by decide)]
    refine ⟨0, mu N 0 13 (-9), ?_, hF.p (by omega) _, by rw [mu_eq, upd_n (by decide)]; exact h14, Or.inl ⟨rfl, 1, by rw [mu_eq, upd_n (by decide)]; exact h12, hm, fun y hy => ?_, fun y => ?_, fun y => by omega⟩⟩
    · show dX9_readsStreets_30l (nI s) (nI m) (1999 + 1) 0 0 (mu N 0 13 (-9)) = _
      rw [dX9_readsStreets_30l, hx, if_pos (show (-9 : Int32) ≤ 0 by decide), if_pos (by decide)]
    · rw [show y = 0 by omega]; exact h0
    · rw [g1]; exact decide_eq_false (fun z => q ⟨y, z⟩)
