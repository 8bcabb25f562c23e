/-! pure part 2: how far it is: the shortest ways by Floyd and Warshall -/
def INF : Nat := 1000000
theorem INF_v : INF = 1000000 := rfl
def fw0 (w : Nat → Nat → Nat) (a b : Nat) : Nat := if a = b then 0 else if w a b = 0 then INF else w a b
def fwS (D : Nat → Nat → Nat) (k a b : Nat) : Nat := min (D a b) (D a k + D k b)
def fw (w : Nat → Nat → Nat) : Nat → Nat → Nat → Nat
  | 0 => fw0 w
  | k + 1 => fwS (fw w k) k
theorem fw_s (w : Nat → Nat → Nat) (k a b : Nat) : fw w (k + 1) a b = min (fw w k a b) (fw w k a k + fw w k k b) := rfl
theorem fw_aa (w : Nat → Nat → Nat) (a : Nat) : ∀ k, fw w k a a = 0
  | 0 => if_pos rfl
  | k + 1 => by rw [fw_s, fw_aa w a k, Nat.zero_min]
theorem fw_mono (w : Nat → Nat → Nat) (k a b : Nat) : fw w (k + 1) a b ≤ fw w k a b := by
  rw [fw_s]; exact Nat.min_le_left _ _
theorem fw_anti (w : Nat → Nat → Nat) (a b k : Nat) : ∀ n, fw w (k + n) a b ≤ fw w k a b
  | 0 => Nat.le_refl _
  | n + 1 => Nat.le_trans (fw_mono w (k + n) a b) (fw_anti w a b k n)
theorem fw_le {w : Nat → Nat → Nat} (hw : ∀ a b, w a b ≤ 9) (a b : Nat) : ∀ k, fw w k a b ≤ INF
  | 0 => by
    show fw0 w a b ≤ INF
    unfold fw0
    have := hw a b
    split
    · exact Nat.zero_le _
    · split
      · exact Nat.le_refl _
      · rw [INF_v]; omega
  | k + 1 => Nat.le_trans (fw_mono w k a b) (fw_le hw a b k)
theorem fw_fin {w : Nat → Nat → Nat} (hw : ∀ a b, w a b ≤ 9) : ∀ k a b, fw w k a b < INF → fw w k a b ≤ 9 * 2 ^ k := by
  intro k
  induction k with
  | zero =>
    intro a b h
    have h1 : fw0 w a b < INF := h
    show fw0 w a b ≤ 9 * 2 ^ 0
    unfold fw0 at h1 ⊢
    have := hw a b
    split
    · omega
    · rename_i h2
      rw [if_neg h2] at h1
      split
      · rename_i h3
        rw [if_pos h3] at h1
        omega
      · omega
  | succ k ih =>
    intro a b h
    rw [fw_s] at h ⊢
    rw [Nat.pow_succ]
    rcases Nat.le_total (fw w k a b) (fw w k a k + fw w k k b) with q | q
    · rw [Nat.min_eq_left q] at h ⊢
      have := ih a b h
      omega
    · rw [Nat.min_eq_right q] at h ⊢
      have h1 := ih a k (by omega)
      have h2 := ih k b (by omega)
      omega
theorem fw_tri (w : Nat → Nat → Nat) : ∀ k c a b, c < k → fw w k a b ≤ fw w k a c + fw w k c b := by
  intro k
  induction k with
  | zero => intro c a b h; omega
  | succ k ih =>
    intro c a b hc
    rw [fw_s, fw_s w k a c, fw_s w k c b]
    have haa := fw_aa w k k
    rcases Nat.lt_or_ge c k with h | h
    · have t1 := ih c a b h
      have t2 := ih c k b h
      have t3 := ih c a k h
      omega
    · have e : c = k := by omega
      subst e
      omega
theorem fw_next {w : Nat → Nat → Nat} {c : Nat} : ∀ k a b, k ≤ c → b < c → a ≠ b → fw w k a b < INF → ∃ x, x < c ∧ 0 < w a x ∧ w a x + fw w c x b ≤ fw w k a b := by
  intro k
  induction k with
  | zero =>
    intro a b hk hb hab h
    have h1 : fw0 w a b < INF := h
    unfold fw0 at h1
    rw [if_neg hab] at h1
    by_cases h2 : w a b = 0
    · rw [if_pos h2] at h1; omega
    · refine ⟨b, hb, by omega, ?_⟩
      rw [fw_aa]
      show w a b + 0 ≤ fw0 w a b
      unfold fw0
      rw [if_neg hab, if_neg h2]
      omega
  | succ k ih =>
    intro a b hk hb hab h
    rw [fw_s] at h ⊢
    rcases Nat.le_total (fw w k a b) (fw w k a k + fw w k k b) with q | q
    · rw [Nat.min_eq_left q] at h ⊢
      exact ih a b (by omega) hb hab h
    · rw [Nat.min_eq_right q] at h ⊢
      by_cases e : a = k
      · subst e
        rw [fw_aa] at h q ⊢
        rw [Nat.zero_add] at h q ⊢
        exact ih a b (by omega) hb hab h
      · obtain ⟨x, hx, h1, h2⟩ := ih a k (by omega) (by omega) e (by omega)
        refine ⟨x, hx, h1, ?_⟩
        have t1 := fw_tri w c k x b (by omega)
        have t2 := fw_anti w k b k (c - k)
        rw [show k + (c - k) = c by omega] at t2
        omega
/-- a way's number as the class and the reference hold it -/
def dI (d : Nat) : Int32 := if d < INF then nI d else -9
theorem dI_f {d : Nat} (h : d < INF) : dI d = nI d := if_pos h
theorem dI_n {d : Nat} (h : ¬ d < INF) : dI d = -9 := if_neg h
theorem dI_neg {d : Nat} : dI d < 0 ↔ ¬ d < INF := by
  by_cases h : d < INF
  · rw [dI_f h]
    exact ⟨fun q => absurd q (nI_pos (by rw [INF_v] at h; omega)), fun q => absurd h q⟩
  · rw [dI_n h]
    exact ⟨fun _ => h, fun _ => by decide⟩
theorem c6 : (6 : Int32) = nI 6 := rfl
theorem ix6 (a b : Nat) : nI a * (6 : Int32) + nI b = nI (6 * a + b) := by rw [c6, pk_mul, nI_add, Nat.mul_comm]
theorem ix6r (a b : Nat) : (6 : Int32) * nI a + nI b = nI (6 * a + b) := by rw [c6, pk_mul, nI_add]
theorem cl {j : Nat} (h : j < 2 ^ 31) : (nI j).toNatClampNeg = j := nI_clamp h
theorem le_t {a b : Nat} (h : a ≤ b) (hb : b < 2 ^ 31) : nI a ≤ nI b := nI_le h hb
theorem le_f {a b : Nat} (h : b < a) (ha : a < 2 ^ 31) : ¬ nI a ≤ nI b := nI_ge h ha
/-- the class's row of how far it is, filled up to (a, b) -/
def fwI (c k : Nat) (D : Nat → Nat → Nat) (a b : Nat) (g : Nat → Int32) : Prop := ∀ x y, x < c → y < c → g (6 * x + y) = nI (if x < a ∨ (x = a ∧ y < b) then fwS D k x y else D x y)
theorem fwI_r {c k : Nat} {D : Nat → Nat → Nat} {a : Nat} {g : Nat → Int32} (h : fwI c k D a c g) : fwI c k D (a + 1) 0 g := by
  intro x y hx hy
  rw [h x y hx hy]
  congr 1
  by_cases q : x < a ∨ (x = a ∧ y < c)
  · rw [if_pos q, if_pos (by omega)]
  · rw [if_neg q, if_neg (by omega)]
theorem fwS_k {D : Nat → Nat → Nat} {k : Nat} (h : D k k = 0) (a : Nat) : fwS D k a k = D a k := by
  unfold fwS; rw [h]; omega
theorem fwS_k2 {D : Nat → Nat → Nat} {k : Nat} (h : D k k = 0) (b : Nat) : fwS D k k b = D k b := by
  unfold fwS; rw [h]; omega
theorem sb_in {c k a : Nat} {D : Nat → Nat → Nat} (hc : c ≤ 6) (hk : k < c) (ha : a < c) (hD : ∀ x y, D x y ≤ INF) (h0 : D k k = 0) (K : Mem → Option Mem) : ∀ (n b f : Nat) (M : Mem), b + n = c → n < f → M 2 3 = nI c → fwI c k D a b (M 4) → ∃ M1 : Mem, dX6_shortenBy_12l (nI k) (nI a) K f (nI b) M = K M1 ∧ fwI c k D a c (M1 4) ∧ ∀ q, q ≠ 4 → M1 q = M q := by
  intro n
  induction n with
  | zero =>
    intro b f M hb hf hM hI
    obtain ⟨f, rfl⟩ : ∃ f1, f = f1 + 1 := ⟨f - 1, by omega⟩
    have e : b = c := by omega
    subst e
    rw [dX6_shortenBy_12l, hM, if_pos (le_t (Nat.le_refl _) (by omega))]
    exact ⟨M, rfl, hI, fun _ _ => rfl⟩
  | succ n ih =>
    intro b f M hb hf hM hI
    obtain ⟨f, rfl⟩ : ∃ f1, f = f1 + 1 := ⟨f - 1, by omega⟩
    have hb6 : b < c := by omega
    have v1 : M 4 (6 * a + k) = nI (D a k) := by
      rw [hI a k ha hk]
      split
      · rw [fwS_k h0]
      · rfl
    have v2 : M 4 (6 * k + b) = nI (D k b) := by
      rw [hI k b hk hb6]
      split
      · rw [fwS_k2 h0]
      · rfl
    have v3 : M 4 (6 * a + b) = nI (D a b) := by
      rw [hI a b ha hb6, if_neg (by omega)]
    have d1 := hD a k
    have d2 := hD k b
    have d3 := hD a b
    rw [INF_v] at d1 d2 d3
    rw [dX6_shortenBy_12l, hM, if_neg (le_f hb6 (by omega))]
    simp only [lm_eq, ix6, inB_t (show 6 * a + k < 36 by omega) (by decide), inB_t (show 6 * k + b < 36 by omega) (by decide), inB_t (show 6 * a + b < 36 by omega) (by decide), cl (show 6 * a + k < 2 ^ 31 by omega), cl (show 6 * k + b < 2 ^ 31 by omega), cl (show 6 * a + b < 2 ^ 31 by omega), v1, v2, v3, nI_add, nI_1, if_true]
    by_cases g : D a b ≤ D a k + D k b
    · rw [if_pos (le_t g (by omega))]
      refine ih (b + 1) f M (by omega) (by omega) hM (fun x y hx hy => ?_)
      rw [hI x y hx hy]
      congr 1
      by_cases e : x = a ∧ y = b
      · obtain ⟨rfl, rfl⟩ := e
        rw [if_neg (by omega), if_pos (by omega)]
        unfold fwS
        omega
      · by_cases q : x < a ∨ (x = a ∧ y < b)
        · rw [if_pos q, if_pos (by omega)]
        · rw [if_neg q, if_neg (by omega)]
    · rw [if_neg (le_f (by omega) (by omega))]
      obtain ⟨M1, h1, h2, h3⟩ := ih (b + 1) f (mu M 4 (6 * a + b) (nI (D a k + D k b))) (by omega) (by omega) (by rw [mu_ne (by decide)]; exact hM) (fun x y hx hy => by
        rw [mu_eq, upd_ap]
        by_cases e : x = a ∧ y = b
        · obtain ⟨rfl, rfl⟩ := e
          rw [if_pos rfl, if_pos (by omega)]
          unfold fwS
          congr 1
          omega
        · rw [if_neg (by omega), hI x y hx hy]
          congr 1
          by_cases q : x < a ∨ (x = a ∧ y < b)
          · rw [if_pos q, if_pos (by omega)]
          · rw [if_neg q, if_neg (by omega)])
      exact ⟨M1, h1, h2, fun q hq => by rw [h3 q hq, mu_ne hq]⟩
theorem sb_out {c k : Nat} {D : Nat → Nat → Nat} (hc : c ≤ 6) (hk : k < c) (hD : ∀ x y, D x y ≤ INF) (h0 : D k k = 0) : ∀ (n a f : Nat) (M : Mem), a + n = c → n < f → M 2 3 = nI c → fwI c k D a 0 (M 4) → ∃ M1 : Mem, dX6_shortenBy_2l (nI k) f (nI a) M = some M1 ∧ fwI c k D c 0 (M1 4) ∧ ∀ q, q ≠ 4 → M1 q = M q := by
  intro n
  induction n with
  | zero =>
    intro a f M ha hf hM hI
    obtain ⟨f, rfl⟩ : ∃ f1, f = f1 + 1 := ⟨f - 1, by omega⟩
    have e : a = c := by omega
    subst e
    rw [dX6_shortenBy_2l, hM, if_pos (le_t (Nat.le_refl _) (by omega))]
    exact ⟨M, rfl, hI, fun _ _ => rfl⟩
  | succ n ih =>
    intro a f M ha hf hM hI
    obtain ⟨f, rfl⟩ : ∃ f1, f = f1 + 1 := ⟨f - 1, by omega⟩
    rw [dX6_shortenBy_2l, hM, if_neg (le_f (by omega) (by omega))]
    obtain ⟨M1, h1, h2, h3⟩ := sb_in hc hk (show a < c by omega) hD h0 (fun (M6 : Mem) => ((dX6_shortenBy_2l (nI k) f) (nI a + (1 : Int32)) M6)) c 0 FU M (by omega) (show c < 2000 by omega) hM hI
    rw [show (0 : Int32) = nI 0 from rfl, h1, nI_1]
    obtain ⟨M2, g1, g2, g3⟩ := ih (a + 1) f M1 (by omega) (by omega) (by rw [h3 2 (by decide)]; exact hM) (fwI_r h2)
    exact ⟨M2, g1, g2, fun q hq => by rw [g3 q hq, h3 q hq]⟩
theorem shortenBy_s {c k : Nat} {D : Nat → Nat → Nat} {M : Mem} (hc : c ≤ 6) (hk : k < c) (hD : ∀ x y, D x y ≤ INF) (h0 : D k k = 0) (hM : M 2 3 = nI c) (hI : ∀ x y, x < c → y < c → M 4 (6 * x + y) = nI (D x y)) : ∃ M1 : Mem, d_X6_shortenBy (nI k) M = some M1 ∧ (∀ x y, x < c → y < c → M1 4 (6 * x + y) = nI (fwS D k x y)) ∧ ∀ q, q ≠ 4 → M1 q = M q := by
  obtain ⟨M1, h1, h2, h3⟩ := sb_out hc hk hD h0 c 0 FU M (by omega) (show c < 2000 by omega) hM (fun x y hx hy => by rw [hI x y hx hy, if_neg (by omega)])
  refine ⟨M1, h1, fun x y hx hy => ?_, h3⟩
  rw [h2 x y hx hy, if_pos (Or.inl hx)]
