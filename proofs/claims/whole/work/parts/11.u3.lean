/-! errands, the reference's next row -/
def rl (k : Nat) (M N : Mem) : Prop := M 0 2 = nI k ∧ N 0 2 = nI k ∧ ∀ j, j < k → M 16 j = N 16 j
theorem dn_dec : ∀ j, j < 6 → (nI j + (-1 : Int32)).toInt = (j : Int) - 1 := by decide +kernel
theorem inB_j {v : Int32} (h : inB v 6 = true) : ∃ j : Nat, j < 6 ∧ v = nI j := rg_of (by decide) (inB_rg.mp h)
theorem nx7 {k : Nat} {M N : Mem} (hk : k ≤ 6) (h : rl k M N) {KM KN : Int32 → Option (Int32 × Mem)} {Q : Int32 × Mem → Int32 × Mem → Prop} (hK : ∀ w x, w.toInt + 2 ≤ (k : Int) → KN w = some x → ∃ y, KM w = some y ∧ Q x y) : ∀ f v x, v.toInt + 2 ≤ (k : Int) → dX9_nextRow_7l N KN f v = some x → ∃ y, dX9_nextRow_7l M KM f v = some y ∧ Q x y := by
  intro f
  induction f with
  | zero => intro v x hv hx; cases hx
  | succ f ih =>
    intro v x hv hx
    rw [dX9_nextRow_7l] at hx
    by_cases z : v < 0
    · rw [if_pos z] at hx
      obtain ⟨y, h1, h2⟩ := hK v x hv hx
      exact ⟨y, by rw [dX9_nextRow_7l, if_pos z]; exact h1, h2⟩
    · rw [if_neg z] at hx
      by_cases b : inB v 6 = true
      · obtain ⟨j, hj, rfl⟩ := inB_j b
        rw [nI_toInt (by omega)] at hv
        have b2 : inB (nI (j + 1)) 6 = true := inB_t (show j + 1 < 6 by omega) (by decide)
        rw [if_pos b, nI_1, if_pos b2, cl (by omega), cl (by omega), ← h.2.2 j (by omega), ← h.2.2 (j + 1) (by omega)] at hx
        by_cases q : M 16 j ≤ M 16 (j + 1)
        · rw [if_pos q] at hx
          obtain ⟨y, h1, h2⟩ := hK _ x (by rw [nI_toInt (by omega)]; omega) hx
          exact ⟨y, by rw [dX9_nextRow_7l, if_neg z, if_pos b, nI_1, if_pos b2, cl (by omega), cl (by omega), if_pos q]; exact h1, h2⟩
        · rw [if_neg q] at hx
          obtain ⟨y, h1, h2⟩ := ih _ x (by rw [dn_dec j hj]; omega) hx
          exact ⟨y, by rw [dX9_nextRow_7l, if_neg z, if_pos b, nI_1, if_pos b2, cl (by omega), cl (by omega), if_neg q]; exact h1, h2⟩
      · rw [if_neg b] at hx; cases hx
theorem nx47 {k j1 : Nat} {M N : Mem} (hk : k ≤ 6) (h : rl k M N) (h1 : j1 < k) {KM KN : Int32 → Option (Int32 × Mem)} {Q : Int32 × Mem → Int32 × Mem → Prop} (hK : ∀ w x, w.toInt + 1 ≤ (k : Int) → KN w = some x → ∃ y, KM w = some y ∧ Q x y) : ∀ f v x, v.toInt + 1 ≤ (k : Int) → dX9_nextRow_47l (nI j1) N KN f v = some x → ∃ y, dX9_nextRow_47l (nI j1) M KM f v = some y ∧ Q x y := by
  intro f
  induction f with
  | zero => intro v x hv hx; cases hx
  | succ f ih =>
    intro v x hv hx
    have b1 : inB (nI j1) 6 = true := inB_t (show j1 < 6 by omega) (by decide)
    rw [dX9_nextRow_47l] at hx
    by_cases b : inB v 6 = true
    · obtain ⟨j, hj, rfl⟩ := inB_j b
      rw [nI_toInt (by omega)] at hv
      rw [if_pos b, if_pos b1, cl (j := j1) (by omega), cl (j := j) (by omega), ← h.2.2 j1 (by omega), ← h.2.2 j (by omega)] at hx
      by_cases q : M 16 j1 ≤ M 16 j
      · rw [if_pos q] at hx
        obtain ⟨y, k1, k2⟩ := hK _ x (by rw [nI_toInt (by omega)]; omega) hx
        exact ⟨y, by rw [dX9_nextRow_47l, if_pos b, if_pos b1, cl (j := j1) (by omega), cl (j := j) (by omega), if_pos q]; exact k1, k2⟩
      · rw [if_neg q] at hx
        obtain ⟨y, k1, k2⟩ := ih _ x (by rw [dn_dec j hj]; omega) hx
        exact ⟨y, by rw [dX9_nextRow_47l, if_pos b, if_pos b1, cl (j := j1) (by omega), cl (j := j) (by omega), if_neg q]; exact k1, k2⟩
    · rw [if_neg b] at hx; cases hx
theorem exch_s {k : Nat} {M N N1 : Mem} {v1 v2 : Int32} (h : rl k M N) (h1 : v1.toInt + 1 ≤ (k : Int)) (h2 : v2.toInt + 1 ≤ (k : Int)) (hx : d_X9_exchange v1 v2 N = some N1) : ∃ M1, d_X9_exchange v1 v2 M = some M1 ∧ rl k M1 N1 ∧ (∀ q, q ≠ 16 → M1 q = M q) ∧ inB v1 6 = true ∧ inB v2 6 = true := by
  unfold d_X9_exchange at hx ⊢
  by_cases b1 : inB v1 6 = true
  · by_cases b2 : inB v2 6 = true
    · simp only [if_pos b1, if_pos b2, lm_eq] at hx ⊢
      obtain ⟨i, hi, rfl⟩ := inB_j b1
      obtain ⟨j, hj, rfl⟩ := inB_j b2
      rw [nI_toInt (by omega)] at h1 h2
      rw [cl (j := i) (by omega), cl (j := j) (by omega)] at hx ⊢
      have hx := Option.some.inj hx
      subst hx
      refine ⟨_, rfl, ⟨by rw [mu_ne (by decide), mu_ne (by decide)]; exact h.1, by rw [mu_ne (by decide), mu_ne (by decide)]; exact h.2.1, fun y hy => ?_⟩, fun q hq => by rw [mu_ne hq, mu_ne hq], b1, b2⟩
      rw [mu_eq, mu_eq, mu_eq, mu_eq, upd_ap, upd_ap, upd_ap, upd_ap, h.2.2 i (by omega), h.2.2 j (by omega), h.2.2 y hy]
    · rw [if_pos b1, lm_eq, if_neg b2] at hx; cases hx
  · rw [if_neg b1] at hx; cases hx
theorem nx86 {k : Nat} (hk : k ≤ 6) : ∀ f v3 v4 (M N : Mem) r N1, rl k M N → v4.toInt + 1 ≤ (k : Int) → dX9_nextRow_86l f v3 v4 N = some (r, N1) → ∃ M1, dX9_nextRow_86l f v3 v4 M = some (r, M1) ∧ rl k M1 N1 ∧ ∀ q, q ≠ 16 → M1 q = M q := by
  intro f
  induction f with
  | zero => intro v3 v4 M N r N1 h h4 hx; cases hx
  | succ f ih =>
    intro v3 v4 M N r N1 h h4 hx
    rw [dX9_nextRow_86l] at hx ⊢
    by_cases z : v4 ≤ v3
    · rw [if_pos z] at hx ⊢
      have hx := Option.some.inj hx
      have e1 := congrArg Prod.fst hx
      have e2 := congrArg Prod.snd hx
      have e1 : (1 : Int32) = r := e1
      have e2 : N = N1 := e2
      subst e1 e2
      exact ⟨M, rfl, h, fun _ _ => rfl⟩
    · rw [if_neg z] at hx ⊢
      have h3 : v3.toInt < v4.toInt := by
        have z2 : ¬ v4.toInt ≤ v3.toInt := fun q => z (Int32.le_iff_toInt_le.mpr q)
        omega
      cases e : d_X9_exchange v3 v4 N with
      | none => rw [e] at hx; cases hx
      | some N2 =>
        obtain ⟨M2, k1, k2, k3, k4, k5⟩ := exch_s h (by omega) h4 e
        rw [e, bd1_some] at hx
        obtain ⟨j, hj, rfl⟩ := inB_j k5
        obtain ⟨M1, l1, l2, l3⟩ := ih _ _ M2 N2 r N1 k2 (by rw [dn_dec j hj]; rw [nI_toInt (by omega)] at h4; omega) hx
        exact ⟨M1, by rw [k1, bd1_some]; exact l1, l2, fun q hq => by rw [l3 q hq, k3 q hq]⟩
theorem k12_dec : ∀ k, k < 7 → 1 ≤ k → (nI k - (2 : Int32)).toInt + 2 ≤ (k : Int) ∧ (nI k - (1 : Int32)).toInt + 1 ≤ (k : Int) := by decide +kernel
theorem nR_sim {k : Nat} {M N N1 : Mem} {r : Int32} (hk : k ≤ 6) (h1 : 1 ≤ k) (h : rl k M N) (hx : d_X9_nextRow N = some (r, N1)) : ∃ M1, d_X9_nextRow M = some (r, M1) ∧ rl k M1 N1 ∧ ∀ q, q ≠ 16 → M1 q = M q := by
  obtain ⟨d1, d2⟩ := k12_dec k (by omega) h1
  unfold d_X9_nextRow at hx ⊢
  have hs : N 0 2 - (2 : Int32) = M 0 2 - (2 : Int32) := by rw [h.1, h.2.1]
  rw [lm_eq, hs] at hx
  rw [lm_eq]
  have d1M : (M 0 2 - (2 : Int32)).toInt + 2 ≤ (k : Int) := by rw [h.1]; exact d1
  have hK : ∀ (w : Int32) (x : Int32 × Mem), w.toInt + 2 ≤ (k : Int) → (fun (w4 : Int32) => (if 0 ≤ w4 then (lm ((N 0 2) - (1 : Int32)) (fun (x6 : Int32) => (dX9_nextRow_47l w4 N (fun (w8 : Int32) => (bd1 (d_X9_exchange w4 w8 N) (fun (M9 : Mem) => (lm (w4 + (1 : Int32)) (fun (x10 : Int32) => (lm ((M9 0 2) - (1 : Int32)) (fun (x11 : Int32) => (dX9_nextRow_86l FU x10 x11 M9)))))))) FU x6 ))) else (some ((0 : Int32), N)))) w = some x → ∃ y, (fun (w4 : Int32) => (if 0 ≤ w4 then (lm ((M 0 2) - (1 : Int32)) (fun (x6 : Int32) => (dX9_nextRow_47l w4 M (fun (w8 : Int32) => (bd1 (d_X9_exchange w4 w8 M) (fun (M9 : Mem) => (lm (w4 + (1 : Int32)) (fun (x10 : Int32) => (lm ((M9 0 2) - (1 : Int32)) (fun (x11 : Int32) => (dX9_nextRow_86l FU x10 x11 M9)))))))) FU x6 ))) else (some ((0 : Int32), M)))) w = some y ∧ (x.1 = y.1 ∧ rl k y.2 x.2 ∧ ∀ q, q ≠ 16 → y.2 q = M q) := by
    intro w x hw hKx
    have hKx : (if (0 : Int32) ≤ w then _ else _) = some x := hKx
    by_cases z : (0 : Int32) ≤ w
    · rw [if_pos z, lm_eq, h.2.1] at hKx
      have w0 := Int32.le_iff_toInt_le.mp z
      rw [show (0 : Int32).toInt = 0 by decide] at w0
      obtain ⟨j, hj, rfl⟩ := rg_of (v := w) (n := k) (by omega) ⟨w0, by omega⟩
      obtain ⟨y, l1, l2⟩ := nx47 (Q := fun x y => x.1 = y.1 ∧ rl k y.2 x.2 ∧ ∀ q, q ≠ 16 → y.2 q = M q) hk h hj (KM := (fun (w8 : Int32) => (bd1 (d_X9_exchange (nI j) w8 M) (fun (M9 : Mem) => (lm (nI j + (1 : Int32)) (fun (x10 : Int32) => (lm ((M9 0 2) - (1 : Int32)) (fun (x11 : Int32) => (dX9_nextRow_86l FU x10 x11 M9))))))))) (fun w8 x hw8 hx8 => by
        cases e : d_X9_exchange (nI j) w8 N with
        | none => rw [e] at hx8; cases hx8
        | some N9 =>
          obtain ⟨M9, k1, k2, k3, -, -⟩ := exch_s h (by omega) hw8 e
          rw [e, bd1_some, lm_eq, lm_eq, k2.2.1] at hx8
          obtain ⟨r9, x9⟩ := x
          obtain ⟨M8, m1, m2, m3⟩ := nx86 hk FU _ _ M9 N9 r9 x9 k2 d2 hx8
          refine ⟨(r9, M8), ?_, rfl, m2, fun q hq => by show M8 q = M q; rw [m3 q hq, k3 q hq]⟩
          show bd1 (d_X9_exchange (nI j) w8 M) _ = _
          rw [k1, bd1_some, lm_eq, lm_eq, k2.1]
          exact m1) _ _ _ d2 hKx
      refine ⟨y, ?_, l2⟩
      show (if (0 : Int32) ≤ nI j then _ else _) = _
      rw [if_pos z, lm_eq, h.1]
      exact l1
    · rw [if_neg z] at hKx
      have hKx := Option.some.inj hKx
      subst hKx
      refine ⟨(0, M), ?_, rfl, h, fun _ _ => rfl⟩
      show (if (0 : Int32) ≤ w then _ else _) = _
      rw [if_neg z]
  obtain ⟨⟨r', M1⟩, y1, y2, y3, y4⟩ := nx7 (Q := fun x y => x.1 = y.1 ∧ rl k y.2 x.2 ∧ ∀ q, q ≠ 16 → y.2 q = M q) hk h (KM := (fun (w4 : Int32) => (if 0 ≤ w4 then (lm ((M 0 2) - (1 : Int32)) (fun (x6 : Int32) => (dX9_nextRow_47l w4 M (fun (w8 : Int32) => (bd1 (d_X9_exchange w4 w8 M) (fun (M9 : Mem) => (lm (w4 + (1 : Int32)) (fun (x10 : Int32) => (lm ((M9 0 2) - (1 : Int32)) (fun (x11 : Int32) => (dX9_nextRow_86l FU x10 x11 M9)))))))) FU x6 ))) else (some ((0 : Int32), M))))) hK _ _ _ d1M hx
  have y2 : r = r' := y2
  subst y2
  exact ⟨M1, y1, y3, y4⟩
def mkR (k : Nat) (p : List Nat) : Mem := fun q j => if q = 0 then (if j = 2 then nI k else 0) else nI (p.getD j 0)
def okN (k : Nat) (p p' : List Nat) : Bool := match d_X9_nextRow (mkR k p) with
  | some (r, N) => decide (r = 1) && (List.range k).all (fun j => decide (N 16 j = nI (p'.getD j 0)))
  | none => false
def okE (k : Nat) (p : List Nat) : Bool := match d_X9_nextRow (mkR k p) with
  | some (r, _) => decide (r = 0)
  | none => false
def chk (k : Nat) : List (List Nat) → Bool
  | [] => true
  | p :: l => (match l with
    | [] => okE k p
    | p' :: _ => okN k p p') && chk k l
set_option maxRecDepth 20000 in
theorem chk_dec : ∀ k, k < 7 → 1 ≤ k → chk k (prm k (List.range k)) = true := by decide +kernel
