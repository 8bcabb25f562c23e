/-! pure part 3: measure of the class, measures of the reference -/
theorem length_s {M : Mem} {c a b : Nat} (hc : c ≤ 6) (hM : M 2 3 = nI c) (ha : a < c) (hb : b < c) : d_X6_length (nI a) (nI b) M = some (M 3 (6 * a + b)) := by
  unfold d_X6_length
  rw [Xhas_s (by omega) hM, bd1_some, bR_t ((rg_nI (by omega)).mpr ha), if_neg one0, Xhas_s (by omega) hM, bd1_some, bR_t ((rg_nI (by omega)).mpr hb), if_neg one0, ix6, if_pos (inB_t (show 6 * a + b < 36 by omega) (by decide)), cl (by omega)]
def fiI (c : Nat) (w : Nat → Nat → Nat) (a b : Nat) (g : Nat → Int32) : Prop := ∀ x y, x < c → y < c → (x < a ∨ (x = a ∧ y < b)) → g (6 * x + y) = nI (fw0 w x y)
theorem me_in {c a : Nat} {w : Nat → Nat → Nat} (hc : c ≤ 6) (ha : a < c) (hw : ∀ x y, w x y ≤ 9) (K : Mem → Option Mem) : ∀ (n b f : Nat) (M : Mem), b + n = c → n < f → M 2 3 = nI c → (∀ x y, x < c → y < c → M 3 (6 * x + y) = nI (w x y)) → fiI c w a b (M 4) → ∃ M1 : Mem, dX6_measure_12l (nI a) K f (nI b) M = K M1 ∧ fiI c w a c (M1 4) ∧ ∀ q, q ≠ 4 → M1 q = M q := by
  intro n
  induction n with
  | zero =>
    intro b f M hb hf hM hL hI
    obtain ⟨f, rfl⟩ : ∃ f1, f = f1 + 1 := ⟨f - 1, by omega⟩
    have e : b = c := by omega
    subst e
    rw [dX6_measure_12l, hM, if_pos (le_t (Nat.le_refl _) (by omega))]
    exact ⟨M, rfl, hI, fun _ _ => rfl⟩
  | succ n ih =>
    intro b f M hb hf hM hL hI
    obtain ⟨f, rfl⟩ : ∃ f1, f = f1 + 1 := ⟨f - 1, by omega⟩
    have hb6 : b < c := by omega
    have hwb := hw a b
    have key : ∀ v : Nat, v = fw0 w a b → ∃ M1 : Mem, dX6_measure_56j (dX6_measure_12l (nI a) K f) (nI a) (nI b) (nI v) (nI a * (6 : Int32) + nI b) M = K M1 ∧ fiI c w a c (M1 4) ∧ ∀ q, q ≠ 4 → M1 q = M q := by
      intro v hv
      unfold dX6_measure_56j
      rw [ix6, if_pos (inB_t (show 6 * a + b < 36 by omega) (by decide)), cl (by omega), lm_eq, nI_1]
      obtain ⟨M1, h1, h2, h3⟩ := ih (b + 1) f (mu M 4 (6 * a + b) (nI v)) (by omega) (by omega) (by rw [mu_ne (by decide)]; exact hM) (fun x y hx hy => by rw [mu_ne (by decide)]; exact hL x y hx hy) (fun x y hx hy hq => by
        rw [mu_eq, upd_ap]
        by_cases e : x = a ∧ y = b
        · obtain ⟨rfl, rfl⟩ := e
          rw [if_pos rfl, hv]
        · rw [if_neg (by omega)]
          exact hI x y hx hy (by omega))
      exact ⟨M1, h1, h2, fun q hq => by rw [h3 q hq, mu_ne hq]⟩
    rw [dX6_measure_12l, hM, if_neg (le_f hb6 (by omega)), length_s hc hM ha hb6, bd1_some, hL a b ha hb6]
    by_cases e : a = b
    · subst e
      rw [if_pos rfl]
      exact key 0 (by unfold fw0; rw [if_pos rfl])
    · rw [if_neg (fun q => e ((nI_eq (by omega) (by omega)).mp q))]
      by_cases z : w a b = 0
      · rw [z, if_pos (by decide)]
        exact key 1000000 (by unfold fw0; rw [if_neg e, if_pos z]; rfl)
      · rw [if_neg (nI_ne0 (by omega) (by omega))]
        exact key (w a b) (by unfold fw0; rw [if_neg e, if_neg z])
theorem me_out {c : Nat} {w : Nat → Nat → Nat} (hc : c ≤ 6) (hw : ∀ x y, w x y ≤ 9) (K : Mem → Option Mem) : ∀ (n a f : Nat) (M : Mem), a + n = c → n < f → M 2 3 = nI c → (∀ x y, x < c → y < c → M 3 (6 * x + y) = nI (w x y)) → fiI c w a 0 (M 4) → ∃ M1 : Mem, dX6_measure_2l K f (nI a) M = K M1 ∧ fiI c w c 0 (M1 4) ∧ ∀ q, q ≠ 4 → M1 q = M q := by
  intro n
  induction n with
  | zero =>
    intro a f M ha hf hM hL hI
    obtain ⟨f, rfl⟩ : ∃ f1, f = f1 + 1 := ⟨f - 1, by omega⟩
    have e : a = c := by omega
    subst e
    rw [dX6_measure_2l, hM, if_pos (le_t (Nat.le_refl _) (by omega))]
    exact ⟨M, rfl, hI, fun _ _ => rfl⟩
  | succ n ih =>
    intro a f M ha hf hM hL hI
    obtain ⟨f, rfl⟩ : ∃ f1, f = f1 + 1 := ⟨f - 1, by omega⟩
    rw [dX6_measure_2l, hM, if_neg (le_f (by omega) (by omega))]
    obtain ⟨M1, h1, h2, h3⟩ := me_in hc (show a < c by omega) hw (fun (M7 : Mem) => ((dX6_measure_2l K f) (nI a + (1 : Int32)) M7)) c 0 FU M (by omega) (show c < 2000 by omega) hM hL hI
    rw [show (0 : Int32) = nI 0 from rfl, h1, nI_1]
    obtain ⟨M2, g1, g2, g3⟩ := ih (a + 1) f M1 (by omega) (by omega) (by rw [h3 2 (by decide)]; exact hM) (by rw [h3 3 (by decide)]; exact hL) (fun x y hx hy hq => h2 x y hx hy (by omega))
    exact ⟨M2, g1, g2, fun q hq => by rw [g3 q hq, h3 q hq]⟩
theorem me_fw {c : Nat} {w : Nat → Nat → Nat} (hc : c ≤ 6) (hw : ∀ x y, w x y ≤ 9) : ∀ (n k f : Nat) (M : Mem), k + n = c → n < f → M 2 3 = nI c → (∀ x y, x < c → y < c → M 4 (6 * x + y) = nI (fw w k x y)) → ∃ M1 : Mem, dX6_measure_71l f (nI k) M = some M1 ∧ (∀ x y, x < c → y < c → M1 4 (6 * x + y) = nI (fw w c x y)) ∧ ∀ q, q ≠ 4 → M1 q = M q := by
  intro n
  induction n with
  | zero =>
    intro k f M hk hf hM hI
    obtain ⟨f, rfl⟩ : ∃ f1, f = f1 + 1 := ⟨f - 1, by omega⟩
    have e : k = c := by omega
    subst e
    rw [dX6_measure_71l, hM, if_pos (le_t (Nat.le_refl _) (by omega))]
    exact ⟨M, rfl, hI, fun _ _ => rfl⟩
  | succ n ih =>
    intro k f M hk hf hM hI
    obtain ⟨f, rfl⟩ : ∃ f1, f = f1 + 1 := ⟨f - 1, by omega⟩
    rw [dX6_measure_71l, hM, if_neg (le_f (by omega) (by omega))]
    obtain ⟨M1, h1, h2, h3⟩ := shortenBy_s hc (show k < c by omega) (fun x y => fw_le hw x y k) (fw_aa w k k) hM hI
    rw [h1, bd1_some, nI_1]
    obtain ⟨M2, g1, g2, g3⟩ := ih (k + 1) f M1 (by omega) (by omega) (by rw [h3 2 (by decide)]; exact hM) h2
    exact ⟨M2, g1, g2, fun q hq => by rw [g3 q hq, h3 q hq]⟩
theorem measure_s {c : Nat} {w : Nat → Nat → Nat} {M : Mem} (hc : c ≤ 6) (hw : ∀ x y, w x y ≤ 9) (hM : M 2 3 = nI c) (hL : ∀ x y, x < c → y < c → M 3 (6 * x + y) = nI (w x y)) : ∃ M1 : Mem, d_X6_measure M = some M1 ∧ (∀ x y, x < c → y < c → M1 4 (6 * x + y) = nI (fw w c x y)) ∧ ∀ q, q ≠ 4 → M1 q = M q := by
  obtain ⟨M1, h1, h2, h3⟩ := me_out hc hw (fun (M8 : Mem) => (dX6_measure_71l FU (0 : Int32) M8)) c 0 FU M (by omega) (show c < 2000 by omega) hM hL (fun x y _ _ hq => by omega)
  obtain ⟨M2, g1, g2, g3⟩ := me_fw hc hw c 0 FU M1 (by omega) (show c < 2000 by omega) (by rw [h3 2 (by decide)]; exact hM) (fun x y hx hy => h2 x y hx hy (Or.inl hx))
  refine ⟨M2, ?_, g2, fun q hq => by rw [g3 q hq, h3 q hq]⟩
  unfold d_X6_measure
  exact h1.trans g1
/-! the reference -/
theorem rem7 {j : Nat} (h : j < 36) : ((nI j - nI j / (7 : Int32) * (7 : Int32)) = 0) ↔ j % 7 = 0 := by
  rw [show (7 : Int32) = nI 7 from rfl, pk_rem (by omega) (by decide) (by decide), show (0 : Int32) = nI 0 from rfl]
  exact nI_eq (by omega) (by omega)
theorem seven0 : ¬ ((7 : Int32) = 0) := by decide
theorem mm_in {c : Nat} {w : Nat → Nat → Nat} (hc : c ≤ 6) (hw : ∀ x y, w x y ≤ 9) (K : Mem → Option Mem) : ∀ (n j f : Nat) (M : Mem), j + n = 36 → n < f → (∀ x y, x < c → y < c → M 1 (6 * x + y) = nI (w x y)) → (∀ x y, x < c → y < c → 6 * x + y < j → M 2 (6 * x + y) = dI (fw0 w x y)) → ∃ M1 : Mem, dX9_measures_2l K f (nI j) M = K M1 ∧ (∀ x y, x < c → y < c → M1 2 (6 * x + y) = dI (fw0 w x y)) ∧ ∀ q, q ≠ 2 → M1 q = M q := by
  intro n
  induction n with
  | zero =>
    intro j f M hj hf hL hI
    obtain ⟨f, rfl⟩ : ∃ f1, f = f1 + 1 := ⟨f - 1, by omega⟩
    have e : j = 36 := by omega
    subst e
    rw [dX9_measures_2l, show (36 : Int32) = nI 36 from rfl, if_pos (le_t (Nat.le_refl 36) (by decide))]
    exact ⟨M, rfl, fun x y hx hy => hI x y hx hy (by omega), fun _ _ => rfl⟩
  | succ n ih =>
    intro j f M hj hf hL hI
    obtain ⟨f, rfl⟩ : ∃ f1, f = f1 + 1 := ⟨f - 1, by omega⟩
    have hj6 : j < 36 := by omega
    have key : ∀ v : Int32, (∀ x y, x < c → y < c → 6 * x + y = j → v = dI (fw0 w x y)) → ∃ M1 : Mem, dX9_measures_44j (dX9_measures_2l K f) (nI j) v (nI j) M = K M1 ∧ (∀ x y, x < c → y < c → M1 2 (6 * x + y) = dI (fw0 w x y)) ∧ ∀ q, q ≠ 2 → M1 q = M q := by
      intro v hv
      unfold dX9_measures_44j
      rw [if_pos (inB_t hj6 (by decide)), cl (by omega), lm_eq, nI_1]
      obtain ⟨M1, h1, h2, h3⟩ := ih (j + 1) f (mu M 2 j v) (by omega) (by omega) (fun x y hx hy => by rw [mu_ne (by decide)]; exact hL x y hx hy) (fun x y hx hy hq => by
        rw [mu_eq, upd_ap]
        by_cases e : 6 * x + y = j
        · rw [if_pos e]; exact hv x y hx hy e
        · rw [if_neg e]; exact hI x y hx hy (by omega))
      exact ⟨M1, h1, h2, fun q hq => by rw [h3 q hq, mu_ne hq]⟩
    rw [dX9_measures_2l, show (36 : Int32) = nI 36 from rfl, if_neg (le_f hj6 (by decide)), if_neg seven0]
    by_cases z : j % 7 = 0
    · rw [if_pos ((rem7 hj6).mpr z)]
      refine key 0 (fun x y hx hy e => ?_)
      have : x = y := by omega
      unfold fw0
      rw [if_pos this]
      rfl
    · rw [if_neg (fun q => z ((rem7 hj6).mp q)), if_pos (inB_t hj6 (by decide)), cl (by omega)]
      by_cases g : M 1 j ≤ 0
      · rw [if_pos g]
        refine key (-9) (fun x y hx hy e => ?_)
        have h1 := hL x y hx hy
        rw [e] at h1
        rw [h1] at g
        have h2 := hw x y
        have h3 : w x y = 0 := by
          rcases Nat.eq_zero_or_pos (w x y) with q | q
          · exact q
          · exact absurd g (nI_nle q (by omega))
        unfold fw0
        rw [if_neg (by omega), if_pos h3]
        rfl
      · rw [if_neg g, if_pos (inB_t hj6 (by decide))]
        refine key (M 1 j) (fun x y hx hy e => ?_)
        have h1 := hL x y hx hy
        rw [e] at h1
        rw [h1] at g ⊢
        have h2 := hw x y
        have h3 : ¬ w x y = 0 := fun q => g (by rw [q]; decide)
        unfold fw0
        rw [if_neg (by omega), if_neg h3, dI_f (by rw [INF_v]; omega)]
/-- the reference's row of how far it is, filled up to (a, b) -/
def fmI (c k : Nat) (D : Nat → Nat → Nat) (a b : Nat) (g : Nat → Int32) : Prop := ∀ x y, x < c → y < c → g (6 * x + y) = dI (if x < a ∨ (x = a ∧ y < b) then fwS D k x y else D x y)
theorem fmI_r {c k : Nat} {D : Nat → Nat → Nat} {a : Nat} {g : Nat → Int32} (h : fmI c k D a c g) : fmI c k D (a + 1) 0 g := by
  intro x y hx hy
  rw [h x y hx hy]
  congr 1
  by_cases q : x < a ∨ (x = a ∧ y < c)
  · rw [if_pos q, if_pos (by omega)]
  · rw [if_neg q, if_neg (by omega)]
/-- no way is long, if there is one -/
def Sml (D : Nat → Nat → Nat) : Prop := ∀ x y, D x y ≤ INF ∧ (D x y < INF → D x y ≤ 288)
theorem fw_sml {w : Nat → Nat → Nat} (hw : ∀ x y, w x y ≤ 9) {k : Nat} (hk : k ≤ 5) : Sml (fw w k) := fun x y => ⟨fw_le hw x y k, fun h => by
  have h1 := fw_fin hw k x y h
  have h2 : 2 ^ k ≤ 2 ^ 5 := Nat.pow_le_pow_right (by decide) hk
  omega⟩
theorem ms_in {c k a : Nat} {D : Nat → Nat → Nat} (hc : c ≤ 6) (hk : k < c) (ha : a < c) (hD : Sml D) (h0 : D k k = 0) (K : Mem → Option Mem) : ∀ (n b f : Nat) (M : Mem), b + n = c → n < f → M 0 1 = nI c → fmI c k D a b (M 2) → ∃ M1 : Mem, dX9_measures_73l (nI k) (nI a) K f (nI b) M = K M1 ∧ fmI c k D a c (M1 2) ∧ ∀ q, q ≠ 2 → M1 q = M q := by
  intro n
  induction n with
  | zero =>
    intro b f M hb hf hM hI
    obtain ⟨f, rfl⟩ : ∃ f1, f = f1 + 1 := ⟨f - 1, by omega⟩
    have e : b = c := by omega
    subst e
    rw [dX9_measures_73l, hM, if_pos (le_t (Nat.le_refl _) (by omega))]
    exact ⟨M, rfl, hI, fun _ _ => rfl⟩
  | succ n ih =>
    intro b f M hb hf hM hI
    obtain ⟨f, rfl⟩ : ∃ f1, f = f1 + 1 := ⟨f - 1, by omega⟩
    have hb6 : b < c := by omega
    have v1 : M 2 (6 * a + k) = dI (D a k) := by
      rw [hI a k ha hk]
      split
      · rw [fwS_k h0]
      · rfl
    have v2 : M 2 (6 * k + b) = dI (D k b) := by
      rw [hI k b hk hb6]
      split
      · rw [fwS_k2 h0]
      · rfl
    have v3 : M 2 (6 * a + b) = dI (D a b) := by
      rw [hI a b ha hb6, if_neg (by omega)]
    obtain ⟨d1, s1⟩ := hD a k
    obtain ⟨d2, s2⟩ := hD k b
    obtain ⟨d3, s3⟩ := hD a b
    have i1 : inB (nI (6 * a + b)) 36 = true := inB_t (show 6 * a + b < 36 by omega) (by decide)
    have key : ∀ v : Int32, v = dI (fwS D k a b) → ∃ M1 : Mem, dX9_measures_203j (dX9_measures_73l (nI k) (nI a) K f) (nI k) (nI a) (nI b) v (nI (6 * a + b)) M = K M1 ∧ fmI c k D a c (M1 2) ∧ ∀ q, q ≠ 2 → M1 q = M q := by
      intro v hv
      unfold dX9_measures_203j
      rw [if_pos i1, cl (by omega), lm_eq, nI_1]
      obtain ⟨M1, h1, h2, h3⟩ := ih (b + 1) f (mu M 2 (6 * a + b) v) (by omega) (by omega) (by rw [mu_ne (by decide)]; exact hM) (fun x y hx hy => by
        rw [mu_eq, upd_ap]
        by_cases e : x = a ∧ y = b
        · obtain ⟨rfl, rfl⟩ := e
          rw [if_pos rfl, if_pos (by omega), hv]
        · rw [if_neg (by omega), hI x y hx hy]
          congr 1
          by_cases q : x < a ∨ (x = a ∧ y < b)
          · rw [if_pos q, if_pos (by omega)]
          · rw [if_neg q, if_neg (by omega)])
      exact ⟨M1, h1, h2, fun q hq => by rw [h3 q hq, mu_ne hq]⟩
    have stay : ∀ x9 x10 : Int32, fwS D k a b = D a b → ∃ M1 : Mem, dX9_measures_166j (dX9_measures_73l (nI k) (nI a) K f) (nI k) (nI a) (nI b) x9 x10 M = K M1 ∧ fmI c k D a c (M1 2) ∧ ∀ q, q ≠ 2 → M1 q = M q := by
      intro x9 x10 hs
      unfold dX9_measures_166j dX9_measures_167j
      rw [if_pos rfl, ix6r, if_pos i1, cl (by omega)]
      exact key _ (by rw [v3, hs])
    rw [dX9_measures_73l, hM, if_neg (le_f hb6 (by omega))]
    simp only [lm_eq, ix6r, inB_t (show 6 * a + k < 36 by omega) (by decide), inB_t (show 6 * k + b < 36 by omega) (by decide), cl (show 6 * a + k < 2 ^ 31 by omega), cl (show 6 * k + b < 2 ^ 31 by omega), v1, v2, if_true]
    by_cases f1 : D a k < INF
    · rw [if_neg (fun q => (dI_neg.mp q) f1)]
      by_cases f2 : D k b < INF
      · rw [if_neg (fun q => (dI_neg.mp q) f2)]
        unfold dX9_measures_122j
        rw [if_neg one0, ix6r, if_pos i1, cl (by omega), v3]
        have s1 := s1 f1
        have s2 := s2 f2
        by_cases f3 : D a b < INF
        · rw [if_neg (fun q => (dI_neg.mp q) f3), if_pos i1]
          have s3 := s3 f3
          rw [dI_f f1, dI_f f2, dI_f f3, nI_add]
          by_cases g : D a b ≤ D a k + D k b
          · rw [if_pos (le_t g (by omega))]
            exact stay _ _ (by unfold fwS; omega)
          · rw [if_neg (le_f (by omega) (by omega))]
            unfold dX9_measures_162j dX9_measures_167j
            rw [if_neg one0, ix6r, nI_add]
            refine key _ ?_
            have e : fwS D k a b = D a k + D k b := by unfold fwS; omega
            rw [e, dI_f (by rw [INF_v]; omega)]
        · rw [if_pos (dI_neg.mpr f3)]
          unfold dX9_measures_162j dX9_measures_167j
          rw [if_neg one0, ix6r, dI_f f1, dI_f f2, nI_add]
          refine key _ ?_
          have e : fwS D k a b = D a k + D k b := by unfold fwS; rw [INF_v] at f3; omega
          rw [e, dI_f (by rw [INF_v]; omega)]
      · rw [if_pos (dI_neg.mpr f2)]
        unfold dX9_measures_121j dX9_measures_122j
        rw [if_pos rfl]
        exact stay _ _ (by unfold fwS; omega)
    · rw [if_pos (dI_neg.mpr f1)]
      unfold dX9_measures_121j dX9_measures_122j
      rw [if_pos rfl]
      exact stay _ _ (by unfold fwS; omega)
theorem ms_out {c k : Nat} {D : Nat → Nat → Nat} (hc : c ≤ 6) (hk : k < c) (hD : Sml D) (h0 : D k k = 0) (K : Mem → Option Mem) : ∀ (n a f : Nat) (M : Mem), a + n = c → n < f → M 0 1 = nI c → fmI c k D a 0 (M 2) → ∃ M1 : Mem, dX9_measures_63l (nI k) K f (nI a) M = K M1 ∧ fmI c k D c 0 (M1 2) ∧ ∀ q, q ≠ 2 → M1 q = M q := by
  intro n
  induction n with
  | zero =>
    intro a f M ha hf hM hI
    obtain ⟨f, rfl⟩ : ∃ f1, f = f1 + 1 := ⟨f - 1, by omega⟩
    have e : a = c := by omega
    subst e
    rw [dX9_measures_63l, hM, if_pos (le_t (Nat.le_refl _) (by omega))]
    exact ⟨M, rfl, hI, fun _ _ => rfl⟩
  | succ n ih =>
    intro a f M ha hf hM hI
    obtain ⟨f, rfl⟩ : ∃ f1, f = f1 + 1 := ⟨f - 1, by omega⟩
    rw [dX9_measures_63l, hM, if_neg (le_f (by omega) (by omega))]
    obtain ⟨M1, h1, h2, h3⟩ := ms_in hc hk (show a < c by omega) hD h0 (fun (M18 : Mem) => ((dX9_measures_63l (nI k) K f) (nI a + (1 : Int32)) M18)) c 0 FU M (by omega) (show c < 2000 by omega) hM hI
    rw [show (0 : Int32) = nI 0 from rfl, h1, nI_1]
    obtain ⟨M2, g1, g2, g3⟩ := ih (a + 1) f M1 (by omega) (by omega) (by rw [h3 0 (by decide)]; exact hM) (fmI_r h2)
    exact ⟨M2, g1, g2, fun q hq => by rw [g3 q hq, h3 q hq]⟩
theorem ms_fw {c : Nat} {w : Nat → Nat → Nat} (hc : c ≤ 6) (hw : ∀ x y, w x y ≤ 9) : ∀ (n k f : Nat) (M : Mem), k + n = c → n < f → M 0 1 = nI c → (∀ x y, x < c → y < c → M 2 (6 * x + y) = dI (fw w k x y)) → ∃ M1 : Mem, dX9_measures_53l f (nI k) M = some M1 ∧ (∀ x y, x < c → y < c → M1 2 (6 * x + y) = dI (fw w c x y)) ∧ ∀ q, q ≠ 2 → M1 q = M q := by
  intro n
  induction n with
  | zero =>
    intro k f M hk hf hM hI
    obtain ⟨f, rfl⟩ : ∃ f1, f = f1 + 1 := ⟨f - 1, by omega⟩
    have e : k = c := by omega
    subst e
    rw [dX9_measures_53l, hM, if_pos (le_t (Nat.le_refl _) (by omega))]
    exact ⟨M, rfl, hI, fun _ _ => rfl⟩
  | succ n ih =>
    intro k f M hk hf hM hI
    obtain ⟨f, rfl⟩ : ∃ f1, f = f1 + 1 := ⟨f - 1, by omega⟩
    rw [dX9_measures_53l, hM, if_neg (le_f (by omega) (by omega))]
    obtain ⟨M1, h1, h2, h3⟩ := ms_out hc (show k < c by omega) (fw_sml hw (show k ≤ 5 by omega)) (fw_aa w k k) (fun (M19 : Mem) => ((dX9_measures_53l f) (nI k + (1 : Int32)) M19)) c 0 FU M (by omega) (show c < 2000 by omega) hM (fun x y hx hy => by rw [hI x y hx hy, if_neg (by omega)])
    rw [show (0 : Int32) = nI 0 from rfl, h1, nI_1]
    obtain ⟨M2, g1, g2, g3⟩ := ih (k + 1) f M1 (by omega) (by omega) (by rw [h3 0 (by decide)]; exact hM) (fun x y hx hy => by rw [h2 x y hx hy, if_pos (Or.inl hx)]; rfl)
    exact ⟨M2, g1, g2, fun q hq => by rw [g3 q hq, h3 q hq]⟩
theorem measures_s {c : Nat} {w : Nat → Nat → Nat} {M : Mem} (hc : c ≤ 6) (hw : ∀ x y, w x y ≤ 9) (hM : M 0 1 = nI c) (hL : ∀ x y, x < c → y < c → M 1 (6 * x + y) = nI (w x y)) : ∃ M1 : Mem, d_X9_measures M = some M1 ∧ (∀ x y, x < c → y < c → M1 2 (6 * x + y) = dI (fw w c x y)) ∧ ∀ q, q ≠ 2 → M1 q = M q := by
  obtain ⟨M1, h1, h2, h3⟩ := mm_in hc hw (fun (M5 : Mem) => (dX9_measures_53l FU (0 : Int32) M5)) 36 0 FU M (by omega) (by decide) hL (fun x y _ _ hq => by omega)
  obtain ⟨M2, g1, g2, g3⟩ := ms_fw hc hw c 0 FU M1 (by omega) (show c < 2000 by omega) (by rw [h3 0 (by decide)]; exact hM) (fun x y hx hy => h2 x y hx hy)
  refine ⟨M2, ?_, g2, fun q hq => by rw [g3 q hq, h3 q hq]⟩
  unfold d_X9_measures
  exact h1.trans g1
