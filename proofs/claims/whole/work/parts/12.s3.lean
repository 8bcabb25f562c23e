/-! season: refusal, sums, what is told -/
theorem ref_l {k j i n z : Nat} {A M : Mem} (hk : k ≤ 6) (hj : j < 4) (hz : z ≤ 60) (hin : i + 2 * n ≤ z) (hA2 : A (29 + 2 * j) 2 = nI z) (hAM : ∀ y, y < z → A (29 + 2 * j + 1) y = M 23 (60 * j + y)) (hC : A 6 1 = nI k) (hM : M 0 2 = nI k) : ∀ m x f f2, x + m = n → m < f → m < f2 → (∀ y, y < x → actOK k (M 23 (60 * j + (i + 2 * y))) (M 23 (60 * j + (i + 2 * y + 1)))) → ∃ r, dX4_refusal_3l (29 + 2 * j) (nI i) (nI n) 6 A f (nI x) = some r ∧ dX9_pairsBarred_2l (nI (60 * j + i)) (nI n) M f2 (nI x) = some r ∧ (r = -1 ∨ r = -2 ∨ r = 0 ∧ ∀ y, y < n → actOK k (M 23 (60 * j + (i + 2 * y))) (M 23 (60 * j + (i + 2 * y + 1)))) := by
  intro m
  induction m with
  | zero =>
    intro x f f2 hx hf hf2 h
    obtain ⟨f, rfl⟩ : ∃ f1, f = f1 + 1 := ⟨f - 1, by omega⟩
    obtain ⟨f2, rfl⟩ : ∃ f1, f2 = f1 + 1 := ⟨f2 - 1, by omega⟩
    have e : x = n := by omega
    subst e
    exact ⟨0, by rw [dX4_refusal_3l, if_pos (le_t (Nat.le_refl _) (by omega))], by rw [dX9_pairsBarred_2l, if_pos (le_t (Nat.le_refl _) (by omega))], Or.inr (Or.inr ⟨rfl, h⟩)⟩
  | succ m ih =>
    intro x f f2 hx hf hf2 h
    obtain ⟨f, rfl⟩ : ∃ f1, f = f1 + 1 := ⟨f - 1, by omega⟩
    obtain ⟨f2, rfl⟩ : ∃ f1, f2 = f1 + 1 := ⟨f2 - 1, by omega⟩
    have hxn : x < n := by omega
    have a1 : d_X5_at (29 + 2 * j) (nI (i + 2 * x)) A = some (M 23 (60 * j + (i + 2 * x))) := by
      rw [at_s hz (show i + 2 * x < z by omega) hA2, hAM _ (by omega)]
    have a2 : d_X5_at (29 + 2 * j) (nI (i + 2 * x + 1)) A = some (M 23 (60 * j + (i + 2 * x + 1))) := by
      rw [at_s hz (show i + 2 * x + 1 < z by omega) hA2, hAM _ (by omega)]
    have two : (2 : Int32) * nI x = nI (2 * x) := by rw [show (2 : Int32) = nI 2 from rfl, pk_mul]
    have i1 : nI i + (2 : Int32) * nI x = nI (i + 2 * x) := by rw [two, nI_add]
    have i2 : nI (60 * j + i) + (2 : Int32) * nI x = nI (60 * j + (i + 2 * x)) := by rw [two, nI_add, Nat.add_assoc]
    have b1 : inB (nI (60 * j + (i + 2 * x))) 240 = true := inB_t (show 60 * j + (i + 2 * x) < 240 by omega) (by decide)
    have b2 : inB (nI (60 * j + (i + 2 * x + 1))) 240 = true := inB_t (show 60 * j + (i + 2 * x + 1) < 240 by omega) (by decide)
    have e2 : nI (60 * j + (i + 2 * x)) + (1 : Int32) = nI (60 * j + (i + 2 * x + 1)) := nI_1 _
    have go : actOK k (M 23 (60 * j + (i + 2 * x))) (M 23 (60 * j + (i + 2 * x + 1))) → ∃ r, dX4_refusal_3l (29 + 2 * j) (nI i) (nI n) 6 A f (nI (x + 1)) = some r ∧ dX9_pairsBarred_2l (nI (60 * j + i)) (nI n) M f2 (nI (x + 1)) = some r ∧ (r = -1 ∨ r = -2 ∨ r = 0 ∧ ∀ y, y < n → actOK k (M 23 (60 * j + (i + 2 * y))) (M 23 (60 * j + (i + 2 * y + 1)))) := fun hok => ih (x + 1) f f2 (by omega) (by omega) (by omega) (fun y hy => by
      by_cases e : y = x
      · rw [e]; exact hok
      · exact h y (by omega))
    rw [dX4_refusal_3l, if_neg (le_f hxn (by omega)), i1, show nI (i + 2 * x) + (1 : Int32) = nI (i + 2 * x + 1) from nI_1 _, a1, bd1_some, a2, bd1_some, dX9_pairsBarred_2l, if_neg (le_f hxn (by omega)), i2, e2, if_pos b1, cl (j := 60 * j + (i + 2 * x)) (by omega), lm_eq, if_pos b2, cl (j := 60 * j + (i + 2 * x + 1)) (by omega), lm_eq, inR_s (n := 3) (by decide) (by decide), bd1_some]
    generalize M 23 (60 * j + (i + 2 * x)) = a at go
    generalize M 23 (60 * j + (i + 2 * x + 1)) = b at go
    by_cases r1 : rg b 3
    · obtain ⟨c1, -, c2⟩ := ch_t (m := 2) r1 (by decide)
      obtain ⟨u, hu, rfl⟩ := rg_of (by decide) r1
      rw [bR_t r1, if_neg one0, if_neg c1, if_pos c2]
      unfold dX4_refusal_70j dX9_pairsBarred_68j
      by_cases u2 : u = 2
      · subst u2
        have n2 : nI 2 = (2 : Int32) := rfl
        rw [if_pos n2, if_pos n2, if_pos n2, inR_s (n := 10) (by decide) (by decide), bd1_some, if_pos (show (2 : Int32) ≤ nI 2 by decide), nI_1]
        by_cases r2 : rg a 10
        · obtain ⟨d1, -, d2⟩ := ch_t (m := 9) r2 (by decide)
          obtain ⟨F, hF, rfl⟩ := rg_of (by decide) r2
          rw [bR_t r2, if_neg one0, if_neg d1, if_pos d2]
          exact go (Or.inl ⟨rfl, F, by omega, rfl⟩)
        · rw [bR_f r2, if_pos rfl, ch_f2 (m := 9) r2 (by decide)]
          exact ⟨-2, rfl, rfl, Or.inr (Or.inl rfl)⟩
      · have n2 : ¬ nI u = (2 : Int32) := fun q => u2 ((nI_eq (by omega) (by decide)).mp (q.trans (show (2 : Int32) = nI 2 from rfl)))
        rw [if_neg n2, if_neg n2, if_neg n2, if_neg (show ¬ (2 : Int32) ≤ nI u from nI_ge (b := 2) (by omega) (by decide)), Chas_s (by omega) hC, bd1_some, nF_s (by omega) hM, bd1_some, nI_1]
        by_cases r2 : rg a k
        · obtain ⟨p, hp, rfl⟩ := rg_of (by omega) r2
          rw [bR_t r2, nb_t r2, if_neg one0, if_pos rfl]
          exact go (Or.inr ⟨1 - u, p, by omega, hp, by rw [show 1 - (1 - u) = u by omega], rfl⟩)
        · rw [bR_f r2, nb_f r2, if_pos rfl, if_neg one0]
          exact ⟨-1, rfl, rfl, Or.inl rfl⟩
    · rw [bR_f r1, if_pos rfl, ch_f2 (m := 2) r1 (by decide)]
      exact ⟨-2, rfl, rfl, Or.inr (Or.inl rfl)⟩
def sumN (f : Nat → Nat) : Nat → Nat
  | 0 => 0
  | n + 1 => sumN f n + f n
theorem sumN_le {f g : Nat → Nat} : ∀ n, (∀ i, i < n → f i ≤ g i) → sumN f n ≤ sumN g n ∧ sumN g n - sumN f n = sumN (fun i => g i - f i) n
  | 0, _ => ⟨Nat.le_refl _, rfl⟩
  | n + 1, h => by
    obtain ⟨h1, h2⟩ := sumN_le n (fun i hi => h i (by omega))
    have h3 := h n (by omega)
    refine ⟨?_, ?_⟩
    · show sumN f n + f n ≤ sumN g n + g n
      omega
    · show sumN g n + g n - (sumN f n + f n) = sumN (fun i => g i - f i) n + (g n - f n)
      rw [← h2]; omega
theorem wt_s {k : Nat} {kd fr to cv wk st : Nat → Nat} {A : Mem} (hk : k ≤ 6) (hC : XC 15 k kd fr to cv A) (hW : XW 15 k wk st A) : d_X0_walkedTogether 15 A = some (nI (sumN wk k)) := by
  have key : ∀ m i f, i + m = k → m < f → dX0_walkedTogether_4l 15 A f (nI (sumN wk i)) (nI i) = some (nI (sumN wk k)) := by
    intro m
    induction m with
    | zero =>
      intro i f hi hf
      obtain ⟨f, rfl⟩ : ∃ f1, f = f1 + 1 := ⟨f - 1, by omega⟩
      have e : i = k := by omega
      rw [e, dX0_walkedTogether_4l, hC.1, if_pos (le_t (Nat.le_refl _) (by omega))]
    | succ m ih =>
      intro i f hi hf
      obtain ⟨f, rfl⟩ : ∃ f1, f = f1 + 1 := ⟨f - 1, by omega⟩
      rw [dX0_walkedTogether_4l, hC.1, if_neg (le_f (by omega) (by omega)), if_pos (inB_t (show i < 6 by omega) (by decide)), cl (by omega), (hW i (by omega)).1, lm_eq, nI_add, nI_1]
      exact ih (i + 1) f (by omega) (by omega)
  exact key k 0 FU (by omega) (show k < 2000 by omega)
theorem ms_s {k : Nat} {wk wk0 : Nat → Nat} {N : Mem} (hk : k ≤ 6) (h2 : N 0 2 = nI k) (h7 : ∀ i, i < k → N 7 i = nI (wk i)) (h13 : ∀ i, i < k → N 13 i = nI (wk0 i)) (hle : ∀ i, i < k → wk0 i ≤ wk i) (v3 : Int32) (K : Int32 → Option (Int32 × Mem)) : dX9_seasonBy_131l v3 N K FU 0 0 = K (nI (sumN (fun i => wk i - wk0 i) k)) := by
  have key : ∀ m i f, i + m = k → m < f → dX9_seasonBy_131l v3 N K f (nI (sumN (fun i => wk i - wk0 i) i)) (nI i) = K (nI (sumN (fun i => wk i - wk0 i) k)) := by
    intro m
    induction m with
    | zero =>
      intro i f hi hf
      obtain ⟨f, rfl⟩ : ∃ f1, f = f1 + 1 := ⟨f - 1, by omega⟩
      have e : i = k := by omega
      rw [e, dX9_seasonBy_131l, h2, if_pos (le_t (Nat.le_refl _) (by omega))]
    | succ m ih =>
      intro i f hi hf
      obtain ⟨f, rfl⟩ : ∃ f1, f = f1 + 1 := ⟨f - 1, by omega⟩
      have b6 : inB (nI i) 6 = true := inB_t (show i < 6 by omega) (by decide)
      rw [dX9_seasonBy_131l, h2, if_neg (le_f (by omega) (by omega)), if_pos b6, if_pos b6, cl (by omega), h7 i (by omega), h13 i (by omega), pk_sub (hle i (by omega)), lm_eq, nI_add, nI_1]
      exact ih (i + 1) f (by omega) (by omega)
  exact key k 0 FU (by omega) (show k < 2000 by omega)
def toldK (v3 : Int32) : Int32 → Mem → Option (Int32 × Mem) := fun (w8 : Int32) (M9 : Mem) => (if v3 = (1 : Int32) then (some (w8, M9)) else (if w8 < 0 then (if v3 < (10 : Int32) then (dX9_seasonBy_131l v3 M9 (fun (w15 : Int32) => (if v3 = 0 then (bd1 (d_X9_arrived M9) (fun (r19 : Int32) => (some (r19, M9)))) else (if v3 = (2 : Int32) then (some ((M9 0 4), M9)) else (if v3 = (3 : Int32) then (some (w15, M9)) else (some ((M9 0 23), M9)))))) FU (0 : Int32) (0 : Int32) ) else (bd1 (d_X9_noFootman (v3 - (10 : Int32)) M9) (fun (r20 : Int32) => (if r20 = 0 then (if inB (v3 - (10 : Int32)) 6 = true then (some ((M9 7 (v3 - (10 : Int32)).toNatClampNeg), M9)) else none) else (some ((-9 : Int32), M9)))))) else (some (((-100 : Int32) - w8), M9))))
theorem told_s {c k d : Nat} {kd fr to cv wk0 : Nat → Nat} {w : Nat → Nat → Nat} {bd : Nat} {A M B N : Mem} {ff v : Int32} (hT : TOK c k kd fr to cv w) (hbd : bd + 20000 < 2 ^ 31) (hd : d ≤ 1000) (h : PS c k kd fr to cv w wk0 bd A M (nI (sumN wk0 k)) d ff B N) (h13 : ∀ i, i < k → M 7 i = nI (wk0 i)) (hff : ff = -9 ∨ ∃ y, y < 100 ∧ ff = nI y) (hv : (∃ u, u < 5 ∧ v = nI u) ∨ ∃ u, u < 6 ∧ v = nI (10 + u)) : ∃ r, d_X4_told v B = some r ∧ toldK v ff N = some (r, N) := by
  have hk := hT.2.1
  have hp : 2 ^ k ≤ 2 ^ 6 := Nat.pow_le_pow_right (by decide) hk
  obtain ⟨wk, s, hs, hwk, hXS, hXC, hXW, hMS, hMC, hMW, hMK, hfr, ⟨g1, g2, g3, g4⟩, hN3, hx23⟩ := h
  have e1 := Xcnt_s (bd := bd + 10 * d) hT hXS hXC hXW (fun i hi => ⟨(hwk i hi).2, bt_le s i⟩) (by omega)
  have e2 := Mcnt_s (bd := bd + 10 * d) hT hMS hMC hMW.2 (fun i hi => (hwk i hi).2) (by omega)
  have e3 := sitters_s hk hXC hXW hs
  have e4 := wt_s hk hXC hXW
  have e5 := fun K => ms_s (v3 := v) (K := K) hk hMC.1 hMW.2 (fun i hi => (hMK.2.2.2.2.2 i hi).trans (h13 i hi)) (fun i hi => (hwk i hi).1)
  obtain ⟨s1, s2⟩ := sumN_le k (fun i hi => (hwk i hi).1)
  unfold d_X4_told toldK
  rw [g1]
  by_cases v1 : v = 1
  · rw [if_pos v1, if_pos v1]
    exact ⟨_, rfl, rfl⟩
  · rw [if_neg v1, if_neg v1]
    rcases hff with rfl | ⟨y, hy, rfl⟩
    · rw [if_pos rfl, if_pos (show (-9 : Int32) < 0 by decide)]
      rcases hv with ⟨u, hu, rfl⟩ | ⟨u, hu, rfl⟩
      · rw [if_pos (show nI u < (10 : Int32) from nI_lt (b := 10) (by omega) (by decide)), e5]
        rcases (show u = 0 ∨ u = 1 ∨ u = 2 ∨ u = 3 ∨ u = 4 by omega) with z | z | z | z | z <;> subst z
        · rw [if_pos (show nI 0 = (0 : Int32) from rfl), if_pos (show nI 0 = (0 : Int32) from rfl), e1, bd1_some, e2, bd1_some]
          exact ⟨_, rfl, rfl⟩
        · exact absurd rfl v1
        · rw [if_neg (show ¬ nI 2 = (0 : Int32) by decide), if_neg v1, if_pos (show nI 2 = (2 : Int32) from rfl), if_neg (show ¬ nI 2 = (0 : Int32) by decide), if_pos (show nI 2 = (2 : Int32) from rfl), e3, bd1_some, hMW.1]
          exact ⟨_, rfl, rfl⟩
        · rw [if_neg (show ¬ nI 3 = (0 : Int32) by decide), if_neg v1, if_neg (show ¬ nI 3 = (2 : Int32) by decide), if_pos (show nI 3 = (3 : Int32) from rfl), if_neg (show ¬ nI 3 = (0 : Int32) by decide), if_neg (show ¬ nI 3 = (2 : Int32) by decide), if_pos (show nI 3 = (3 : Int32) from rfl), e4, bd1_some, g4, pk_sub s1, s2]
          exact ⟨_, rfl, rfl⟩
        · rw [if_neg (show ¬ nI 4 = (0 : Int32) by decide), if_neg v1, if_neg (show ¬ nI 4 = (2 : Int32) by decide), if_neg (show ¬ nI 4 = (3 : Int32) by decide), if_pos (show nI 4 = (4 : Int32) from rfl), if_neg (show ¬ nI 4 = (0 : Int32) by decide), if_neg (show ¬ nI 4 = (2 : Int32) by decide), if_neg (show ¬ nI 4 = (3 : Int32) by decide), g3]
          exact ⟨_, rfl, rfl⟩
      · have nn : ∀ x, x < 5 → ¬ nI (10 + u) = nI x := fun x hx q => by have := (nI_eq (by omega) (by omega)).mp q; omega
        have s10 : nI (10 + u) - (10 : Int32) = nI u := by
          rw [show (10 : Int32) = nI 10 from rfl, pk_sub (by omega), show 10 + u - 10 = u by omega]
        rw [if_neg (show ¬ nI (10 + u) = (0 : Int32) from nn 0 (by omega)), if_neg v1, if_neg (show ¬ nI (10 + u) = (2 : Int32) from nn 2 (by omega)), if_neg (show ¬ nI (10 + u) = (3 : Int32) from nn 3 (by omega)), if_neg (show ¬ nI (10 + u) = (4 : Int32) from nn 4 (by omega)), if_neg (show ¬ nI (10 + u) < (10 : Int32) from nI_nlt (b := 10) (by omega) (by omega)), s10, Chas_s (by omega) hXC.1, bd1_some, nF_s (by omega) hMC.1, bd1_some]
        by_cases r1 : rg (nI u) k
        · have uk := (rg_nI (show u < 2 ^ 31 by omega)).mp r1
          rw [bR_t r1, nb_t r1, if_neg one0, if_pos rfl, if_pos (inB_t hu (by decide)), if_pos (inB_t hu (by decide)), cl (by omega), (hXW u uk).1, hMW.2 u uk]
          exact ⟨_, rfl, rfl⟩
        · rw [bR_f r1, nb_f r1, if_pos rfl, if_neg one0]
          exact ⟨_, rfl, rfl⟩
    · rw [if_neg (nI_n9 (by omega)), if_neg (show ¬ nI y < (0 : Int32) from nI_nlt (b := 0) (Nat.zero_le _) (by omega)), if_neg v1]
      exact ⟨_, rfl, rfl⟩
