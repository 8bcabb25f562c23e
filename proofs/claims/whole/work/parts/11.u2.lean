/-! errands, the class's side -/
def mxN (a b : Nat) : Nat := if a < b then b else a
theorem mxN_le {a b t : Nat} : mxN a b ≤ t ↔ a ≤ t ∧ b ≤ t := by
  unfold mxN; split <;> omega
def mn (D : Nat → Nat → Nat) (sn : Nat → Nat) (m S : Nat) : Nat → Nat
  | 0 => INF
  | g + 1 => if S.testBit g = true then mn D sn m S g else if mxN (D m g) (sn (S ||| 2 ^ g)) < mn D sn m S g then mxN (D m g) (sn (S ||| 2 ^ g)) else mn D sn m S g
theorem mn_s {D : Nat → Nat → Nat} {sn : Nat → Nat} {m S : Nat} : ∀ n, mn D sn m S n ≤ INF ∧ ∀ t, t < INF → (mn D sn m S n ≤ t ↔ ∃ g, g < n ∧ S.testBit g = false ∧ D m g ≤ t ∧ sn (S ||| 2 ^ g) ≤ t)
  | 0 => ⟨Nat.le_refl _, fun t ht => ⟨fun h => by have h : INF ≤ t := h; omega, fun ⟨g, hg, _⟩ => by omega⟩⟩
  | n + 1 => by
    obtain ⟨h1, h2⟩ := mn_s (D := D) (sn := sn) (m := m) (S := S) n
    have e : mn D sn m S (n + 1) = if S.testBit n = true then mn D sn m S n else if mxN (D m n) (sn (S ||| 2 ^ n)) < mn D sn m S n then mxN (D m n) (sn (S ||| 2 ^ n)) else mn D sn m S n := rfl
    cases q : S.testBit n with
    | true =>
      rw [q, if_pos rfl] at e
      rw [e]
      refine ⟨h1, fun t ht => (h2 t ht).trans ⟨fun ⟨g, a, b⟩ => ⟨g, by omega, b⟩, fun ⟨g, a, b, d⟩ => ⟨g, ?_, b, d⟩⟩⟩
      have : g ≠ n := fun z => by subst z; rw [q] at b; cases b
      omega
    | false =>
      rw [q, if_neg (by decide)] at e
      rw [e]
      refine ⟨by split <;> omega, fun t ht => ?_⟩
      have k1 := h2 t ht
      have k2 := mxN_le (a := D m n) (b := sn (S ||| 2 ^ n)) (t := t)
      have k3 : (∃ g, g < n + 1 ∧ S.testBit g = false ∧ D m g ≤ t ∧ sn (S ||| 2 ^ g) ≤ t) ↔ (mn D sn m S n ≤ t ∨ mxN (D m n) (sn (S ||| 2 ^ n)) ≤ t) := by
        rw [k1, k2]
        constructor
        · rintro ⟨g, a, b, d⟩
          by_cases z : g = n
          · subst z; exact Or.inr d
          · exact Or.inl ⟨g, by omega, b, d⟩
        · rintro (⟨g, a, b, d⟩ | d)
          · exact ⟨g, by omega, b, d⟩
          · exact ⟨n, by omega, q, d⟩
      rw [k3]
      split <;> omega
def tbl (D : Nat → Nat → Nat) (k : Nat) : Nat → Nat → Nat
  | 0, _ => 0
  | n + 1, S => mn D (tbl D k n) (pb 6 S) S k
def tT (D : Nat → Nat → Nat) (k S : Nat) : Nat := tbl D k (k - pb 6 S) S
theorem mn_cong {D : Nat → Nat → Nat} {sn sn' : Nat → Nat} {m S : Nat} : ∀ n, (∀ g, g < n → S.testBit g = false → sn (S ||| 2 ^ g) = sn' (S ||| 2 ^ g)) → mn D sn m S n = mn D sn' m S n
  | 0, _ => rfl
  | n + 1, h => by
    show (if S.testBit n = true then mn D sn m S n else if mxN (D m n) (sn (S ||| 2 ^ n)) < mn D sn m S n then mxN (D m n) (sn (S ||| 2 ^ n)) else mn D sn m S n) = (if S.testBit n = true then mn D sn' m S n else if mxN (D m n) (sn' (S ||| 2 ^ n)) < mn D sn' m S n then mxN (D m n) (sn' (S ||| 2 ^ n)) else mn D sn' m S n)
    rw [mn_cong n (fun g hg => h g (by omega))]
    by_cases q : S.testBit n = true
    · rw [if_pos q, if_pos q]
    · rw [if_neg q, if_neg q, h n (by omega) (by simpa using q)]
theorem pop_lt : ∀ k, k < 7 → ∀ S, S < 64 → S < 2 ^ k → (S < 2 ^ k - 1 ↔ pb 6 S < k) := by decide +kernel
theorem tT_step {D : Nat → Nat → Nat} {k S : Nat} (hk : k ≤ 6) (hS : S < 2 ^ k - 1) : tT D k S = mn D (tT D k) (pb 6 S) S k := by
  have h64 : 2 ^ k ≤ 2 ^ 6 := Nat.pow_le_pow_right (by decide) hk
  have hp := (pop_lt k (by omega) S (by omega) (by omega)).mp hS
  obtain ⟨n, hn⟩ : ∃ n, k - pb 6 S = n + 1 := ⟨k - pb 6 S - 1, by omega⟩
  have e : tT D k S = mn D (tbl D k n) (pb 6 S) S k := by
    unfold tT
    rw [hn]; rfl
  rw [e]
  refine mn_cong k (fun g hg hb => ?_)
  unfold tT
  rw [pop_or (by omega) hb, show k - (pb 6 S + 1) = n by omega]
theorem tT_all {D : Nat → Nat → Nat} {k : Nat} (hk : k ≤ 6) : tT D k (2 ^ k - 1) = 0 := by
  unfold tT
  rw [pop_top k (by omega), Nat.sub_self]; rfl
theorem tT_le {D : Nat → Nat → Nat} {k S : Nat} (hk : k ≤ 6) (hS : S < 2 ^ k) : tT D k S ≤ INF := by
  by_cases e : S < 2 ^ k - 1
  · rw [tT_step hk e]; exact (mn_s k).1
  · rw [show S = 2 ^ k - 1 by omega, tT_all hk]; exact Nat.zero_le _
theorem tT_hs {D : Nat → Nat → Nat} {k : Nat} (hk : k ≤ 6) : ∀ S, S < 2 ^ k - 1 → ∀ t, t < INF → (tT D k S ≤ t ↔ ∃ g, g < k ∧ S.testBit g = false ∧ D (pb 6 S) g ≤ t ∧ tT D k (S ||| 2 ^ g) ≤ t) := by
  intro S hS t ht
  rw [tT_step hk hS]
  exact (mn_s k).2 t ht
def DD (c : Nat) (w : Nat → Nat → Nat) (kd fr to cv : Nat → Nat) (m g : Nat) : Nat := if fw w c (fr m) (to g) < INF then (fw w c (fr m) (to g) + paceN (kd m) (cv m) - 1) / paceN (kd m) (cv m) else INF
theorem DD_le {c k m g : Nat} {kd fr to cv : Nat → Nat} {w : Nat → Nat → Nat} (hT : TOK c k kd fr to cv w) : DD c w kd fr to cv m g ≤ INF := by
  unfold DD
  split
  · next q =>
    have h5 := fw_576 hT.1 hT.2.2.2.1 q
    have : (fw w c (fr m) (to g) + paceN (kd m) (cv m) - 1) / paceN (kd m) (cv m) ≤ fw w c (fr m) (to g) + 1 := by
      rcases Nat.eq_zero_or_pos (paceN (kd m) (cv m)) with z | z
      · rw [z, Nat.div_zero]; omega
      · refine Nat.div_le_of_le_mul ?_
        have : fw w c (fr m) (to g) + 1 ≤ 1 * (fw w c (fr m) (to g) + 1) := by omega
        have h3 : 1 * (fw w c (fr m) (to g)) ≤ paceN (kd m) (cv m) * (fw w c (fr m) (to g)) := Nat.mul_le_mul_right _ z
        rw [Nat.mul_add]
        omega
    rw [INF_v]
    omega
  · exact Nat.le_refl _
theorem bit_z {s x : Nat} (hs : s < 2 ^ 15) (hx : x < 15) : ((nI s >>> (nI x &&& 31)) &&& (1 : Int32) = 0) ↔ s.testBit x = false := by
  have e : nI x &&& 31 = nI x := (show ∀ x, x < 15 → nI x &&& 31 = nI x by decide +kernel) x hx
  rw [e, pk_shrN (show s < 2 ^ 31 by omega) (nI x) x ((show ∀ x, x < 15 → ((nI x).toBitVec.smod 32).toNat = x by decide +kernel) x hx), pk_andN (show s / 2 ^ x < 2 ^ 32 from Nat.lt_of_le_of_lt (Nat.div_le_self _ _) (by omega)) 1 (by decide), Nat.testBit_eq_decide_div_mod_eq, decide_eq_false_iff_not]
  constructor
  · intro h
    have := (nI_eq (by omega) (by omega)).mp (h.trans (show (0 : Int32) = nI 0 from rfl))
    omega
  · intro h
    rw [show s / 2 ^ x % 2 ^ 1 = 0 by omega]; rfl
theorem aw_s {c k S g : Nat} {kd fr to cv : Nat → Nat} {w : Nat → Nat → Nat} {T : Nat → Nat} {A : Mem} (hT : TOK c k kd fr to cv w) (hS : XS c w A) (hC : XC 6 k kd fr to cv A) (h1 : S < 2 ^ k - 1) (hg : g < k) (hb : S.testBit g = false) (ht : A 24 (S ||| 2 ^ g) = nI (T (S ||| 2 ^ g))) (hl : T (S ||| 2 ^ g) ≤ INF) : d_X1_arrivalWith (nI S) (nI g) 6 A = some (nI (mxN (DD c w kd fr to cv (pb 6 S) g) (T (S ||| 2 ^ g)))) := by
  have hk := hT.2.1
  have h64 : 2 ^ k ≤ 2 ^ 6 := Nat.pow_le_pow_right (by decide) hk
  have hp := (pop_lt k (by omega) S (by omega) (by omega)).mp h1
  have e15 : pb 15 S = pb 6 S := (show ∀ S, S < 64 → pb 15 S = pb 6 S by decide +kernel) S (by omega)
  have hS2 : S ||| 2 ^ g < 2 ^ k := Nat.or_lt_two_pow (by omega) (Nat.pow_lt_pow_right (by decide) hg)
  obtain ⟨-, t2, -⟩ := hT.2.2.1 (pb 6 S) hp
  obtain ⟨-, -, t3, -⟩ := hT.2.2.1 g hg
  unfold d_X1_arrivalWith
  rw [bitCount_s (by omega), bd1_some, e15, Chas_s (by omega) hC.1, bd1_some, bR_t ((rg_nI (by omega)).mpr hp), if_neg one0, Chas_s (by omega) hC.1, bd1_some, bR_t ((rg_nI (by omega)).mpr hg), if_neg one0, if_pos (inB_t (show pb 6 S < 6 by omega) (by decide)), if_pos (inB_t (show g < 6 by omega) (by decide)), cl (by omega), cl (by omega), (hC.2 g hg).2.2.1, daysTo_s hT hS hC hp t3, bd1_some, sh_dec g (by omega), fa_or, if_pos (inB_t (show S ||| 2 ^ g < 64 by omega) (by decide)), cl (by omega), ht]
  show some (if nI (DD c w kd fr to cv (pb 6 S) g) < _ then _ else nI (DD c w kd fr to cv (pb 6 S) g)) = _
  have hd := DD_le (m := pb 6 S) (g := g) hT
  have hi := inf31
  unfold mxN
  by_cases e : DD c w kd fr to cv (pb 6 S) g < T (S ||| 2 ^ g)
  · rw [if_pos e, if_pos (nI_lt e (by omega))]
  · rw [if_neg e, if_neg (nI_nlt (by omega) (by omega))]
theorem XS.c24 {c : Nat} {w : Nat → Nat → Nat} {A A1 : Mem} (h : XS c w A) (hq : ∀ q, q ≠ 24 → A1 q = A q) : XS c w A1 := ⟨by rw [hq 2 (by decide)]; exact h.1, by rw [hq 3 (by decide)]; exact h.2.1, by rw [hq 4 (by decide)]; exact h.2.2⟩
theorem XC.c24 {k : Nat} {kd fr to cv : Nat → Nat} {A A1 : Mem} (hk : k ≤ 6) (h : XC 6 k kd fr to cv A) (hq : ∀ q, q ≠ 24 → A1 q = A q) : XC 6 k kd fr to cv A1 := ⟨by rw [hq 6 (by decide)]; exact h.1, fun i hi => by rw [hq (ft 6 i) (by unfold ft; omega)]; exact h.2 i hi⟩
theorem weigh_s {c k : Nat} {kd fr to cv : Nat → Nat} {w : Nat → Nat → Nat} {A : Mem} (hT : TOK c k kd fr to cv w) (hS : XS c w A) (hC : XC 6 k kd fr to cv A) (hk1 : 1 ≤ k) : ∃ A1, d_X1_weigh 6 A = some A1 ∧ (∀ q, q ≠ 24 → A1 q = A q) ∧ ∀ S, S < 2 ^ k → A1 24 S = nI (tT (DD c w kd fr to cv) k S) := by
  have hk := hT.2.1
  have h64 : 2 ^ k ≤ 2 ^ 6 := Nat.pow_le_pow_right (by decide) hk
  have h2 : 2 ^ 1 ≤ 2 ^ k := Nat.pow_le_pow_right (by decide) hk1
  have hi := inf31
  have inn : ∀ (K : Mem → Option Mem) S, S < 2 ^ k - 1 → ∀ m g f A1, g + m = k → m < f → (∀ q, q ≠ 24 → A1 q = A q) → (∀ S', S < S' → S' < 2 ^ k → A1 24 S' = nI (tT (DD c w kd fr to cv) k S')) → A1 24 S = nI (mn (DD c w kd fr to cv) (tT (DD c w kd fr to cv) k) (pb 6 S) S g) → ∃ A2, dX1_weigh_38l 6 (nI S) K f (nI g) A1 = K A2 ∧ (∀ q, q ≠ 24 → A2 q = A q) ∧ ∀ S', S ≤ S' → S' < 2 ^ k → A2 24 S' = nI (tT (DD c w kd fr to cv) k S') := by
    intro K S hS1 m
    induction m with
    | zero =>
      intro g f A1 hg hf hq ht hm
      obtain ⟨f, rfl⟩ : ∃ f1, f = f1 + 1 := ⟨f - 1, by omega⟩
      have e : g = k := by omega
      rw [e] at hm ⊢
      refine ⟨A1, by rw [dX1_weigh_38l, hq 6 (by decide), hC.1, if_pos (le_t (Nat.le_refl _) (by omega))], hq, fun S' s1 s2 => ?_⟩
      by_cases z : S' = S
      · subst z; rw [hm, tT_step hk hS1]
      · exact ht S' (by omega) s2
    | succ m ih =>
      intro g f A1 hg hf hq ht hm
      obtain ⟨f, rfl⟩ : ∃ f1, f = f1 + 1 := ⟨f - 1, by omega⟩
      have hgk : g < k := by omega
      have b64 : inB (nI S) 64 = true := inB_t (show S < 64 by omega) (by decide)
      have em : mn (DD c w kd fr to cv) (tT (DD c w kd fr to cv) k) (pb 6 S) S (g + 1) = if S.testBit g = true then mn (DD c w kd fr to cv) (tT (DD c w kd fr to cv) k) (pb 6 S) S g else if mxN (DD c w kd fr to cv (pb 6 S) g) (tT (DD c w kd fr to cv) k (S ||| 2 ^ g)) < mn (DD c w kd fr to cv) (tT (DD c w kd fr to cv) k) (pb 6 S) S g then mxN (DD c w kd fr to cv (pb 6 S) g) (tT (DD c w kd fr to cv) k (S ||| 2 ^ g)) else mn (DD c w kd fr to cv) (tT (DD c w kd fr to cv) k) (pb 6 S) S g := rfl
      rw [dX1_weigh_38l, hq 6 (by decide), hC.1, if_neg (le_f hgk (by omega)), nI_1]
      cases q : S.testBit g with
      | true =>
        rw [q, if_pos rfl] at em
        rw [if_neg (fun z => by rw [(bit_z (by omega) (by omega)).mp z] at q; cases q)]
        exact ih (g + 1) f A1 (by omega) (by omega) hq ht (by rw [em]; exact hm)
      | false =>
        rw [q, if_neg (by decide)] at em
        have hS2 : S ||| 2 ^ g < 2 ^ k := Nat.or_lt_two_pow (by omega) (Nat.pow_lt_pow_right (by decide) hgk)
        have hS3 : S < S ||| 2 ^ g := by
          have l1 : S ≤ S ||| 2 ^ g := Nat.left_le_or
          have l2 : S ≠ S ||| 2 ^ g := fun z => by
            have z2 := tb_or S g g
            rw [← z, q, decide_eq_true rfl] at z2
            cases z2
          omega
        have hl := tT_le (D := DD c w kd fr to cv) hk hS2
        have ha := aw_s (T := tT (DD c w kd fr to cv) k) hT (hS.c24 hq) (hC.c24 hk hq) hS1 hgk q (ht _ hS3 hS2) hl
        have hmx : mxN (DD c w kd fr to cv (pb 6 S) g) (tT (DD c w kd fr to cv) k (S ||| 2 ^ g)) ≤ INF := mxN_le.mpr ⟨DD_le hT, hl⟩
        have hmn := (mn_s (D := DD c w kd fr to cv) (sn := tT (DD c w kd fr to cv) k) (m := pb 6 S) (S := S) g).1
        rw [if_pos ((bit_z (by omega) (by omega)).mpr q), if_pos b64, ha, bd1_some, if_pos b64, cl (by omega), lm_eq, hm]
        refine ih (g + 1) f _ (by omega) (by omega) (fun r hr => by rw [mu_ne hr]; exact hq r hr) (fun S' s1 s2 => by rw [mu_eq, upd_n (by omega)]; exact ht S' s1 s2) ?_
        rw [mu_eq, upd_s, em]
        by_cases z : mxN (DD c w kd fr to cv (pb 6 S) g) (tT (DD c w kd fr to cv) k (S ||| 2 ^ g)) < mn (DD c w kd fr to cv) (tT (DD c w kd fr to cv) k) (pb 6 S) S g
        · rw [if_pos z, if_pos (nI_lt z (by omega))]
        · rw [if_neg z, if_neg (nI_nlt (by omega) (by omega))]
  have out : ∀ u f A1, u ≤ 2 ^ k - 1 → u < f → (∀ q, q ≠ 24 → A1 q = A q) → (∀ S', u ≤ S' → S' < 2 ^ k → A1 24 S' = nI (tT (DD c w kd fr to cv) k S')) → ∃ A2, dX1_weigh_21l 6 f (nI u + (-1 : Int32)) A1 = some A2 ∧ (∀ q, q ≠ 24 → A2 q = A q) ∧ ∀ S', S' < 2 ^ k → A2 24 S' = nI (tT (DD c w kd fr to cv) k S') := by
    intro u
    induction u with
    | zero =>
      intro f A1 hu hf hq ht
      obtain ⟨f, rfl⟩ : ∃ f1, f = f1 + 1 := ⟨f - 1, by omega⟩
      exact ⟨A1, by rw [dX1_weigh_21l, if_pos (by decide)], hq, fun S' s => ht S' (Nat.zero_le _) s⟩
    | succ u ih =>
      intro f A1 hu hf hq ht
      obtain ⟨f, rfl⟩ : ∃ f1, f = f1 + 1 := ⟨f - 1, by omega⟩
      have b64 : inB (nI u) 64 = true := inB_t (show u < 64 by omega) (by decide)
      have eu : nI (u + 1) + (-1 : Int32) = nI u := by
        rw [← nI_add, Int32.add_assoc, show nI 1 + (-1 : Int32) = 0 by decide, Int32.add_zero]
      rw [eu, dX1_weigh_21l, if_neg (show ¬ nI u < (0 : Int32) from nI_nlt (a := u) (b := 0) (Nat.zero_le _) (by omega)), if_pos b64, cl (by omega), lm_eq]
      obtain ⟨A2, k1, k2, k3⟩ := inn (fun M10 => ((dX1_weigh_21l 6 f) (nI u + (-1 : Int32)) M10)) u (by omega) k 0 FU (mu A1 24 u 1000000) (by omega) (show k < 2000 by omega) (fun r hr => by rw [mu_ne hr]; exact hq r hr) (fun S' s1 s2 => by rw [mu_eq, upd_n (by omega)]; exact ht S' (by omega) s2) (by rw [mu_eq, upd_s]; rfl)
      obtain ⟨A3, l1, l2⟩ := ih f A2 (by omega) (by omega) k2 k3
      exact ⟨A3, k1.trans l1, l2⟩
  unfold d_X1_weigh
  rw [hC.1, sh_dec k (by omega), lm_eq, show nI (2 ^ k) - (1 : Int32) = nI (2 ^ k - 1) from pk_sub (a := 2 ^ k) (b := 1) (by omega), if_pos (inB_t (show 2 ^ k - 1 < 64 by omega) (by decide)), cl (by omega), lm_eq, lm_eq]
  have es : nI (2 ^ k - 1) - (1 : Int32) = nI (2 ^ k - 1) + (-1 : Int32) := by rw [Int32.sub_eq_add_neg]
  rw [es]
  refine out (2 ^ k - 1) FU _ (Nat.le_refl _) (show 2 ^ k - 1 < 2000 by omega) (fun r hr => mu_ne hr) (fun S' s1 s2 => ?_)
  have e : S' = 2 ^ k - 1 := by omega
  rw [e, mu_eq, upd_s, tT_all hk]; rfl
def lgo (cond : Nat → Bool) (to : Nat → Nat) : Nat → Option Nat
  | 0 => none
  | g + 1 => if cond g = true then (match lgo cond to g with
    | none => some g
    | some b => if to b ≤ to g then some b else some g) else lgo cond to g
def oI : Option Nat → Int32
  | none => -9
  | some b => nI b
theorem lgo_s {cond : Nat → Bool} {to : Nat → Nat} : ∀ n, (lgo cond to n = none → ∀ g, g < n → cond g = false) ∧ ∀ b, lgo cond to n = some b → b < n ∧ cond b = true ∧ ∀ g, g < n → cond g = true → to b < to g ∨ to b = to g ∧ b ≤ g
  | 0 => ⟨fun _ g hg => by omega, fun b h => by cases h⟩
  | n + 1 => by
    obtain ⟨h1, h2⟩ := lgo_s (cond := cond) (to := to) n
    have e : lgo cond to (n + 1) = if cond n = true then (match lgo cond to n with
      | none => some n
      | some b => if to b ≤ to n then some b else some n) else lgo cond to n := rfl
    rw [e]
    by_cases q : cond n = true
    · rw [if_pos q]
      cases z : lgo cond to n with
      | none =>
        refine ⟨(fun y => by cases y), fun b y => ?_⟩
        have y : n = b := Option.some.inj y
        subst y
        refine ⟨by omega, q, fun g hg hc => ?_⟩
        by_cases x : g = n
        · subst x; right; omega
        · rw [h1 z g (by omega)] at hc; cases hc
      | some b0 =>
        obtain ⟨k1, k2, k3⟩ := h2 b0 z
        show ((if to b0 ≤ to n then some b0 else some n) = none → _) ∧ ∀ b, (if to b0 ≤ to n then some b0 else some n) = some b → _
        by_cases x : to b0 ≤ to n
        · rw [if_pos x]
          refine ⟨(fun y => by cases y), fun b y => ?_⟩
          have y : b0 = b := Option.some.inj y
          subst y
          refine ⟨by omega, k2, fun g hg hc => ?_⟩
          by_cases u : g = n
          · subst u; omega
          · exact k3 g (by omega) hc
        · rw [if_neg x]
          refine ⟨(fun y => by cases y), fun b y => ?_⟩
          have y : n = b := Option.some.inj y
          subst y
          refine ⟨by omega, q, fun g hg hc => ?_⟩
          by_cases u : g = n
          · subst u; right; omega
          · have := k3 g (by omega) hc; omega
    · rw [if_neg q]
      refine ⟨fun y g hg => ?_, fun b y => ?_⟩
      · by_cases u : g = n
        · subst u; simpa using q
        · exact h1 y g (by omega)
      · obtain ⟨k1, k2, k3⟩ := h2 b y
        refine ⟨by omega, k2, fun g hg hc => ?_⟩
        by_cases u : g = n
        · subst u; exact absurd hc q
        · exact k3 g (by omega) hc
def srtd (k : Nat) (to : Nat → Nat) (sl : List Nat) : Prop := sl.Pairwise (fun x y => to x < to y ∨ to x = to y ∧ x < y) ∧ ∀ g, g ∈ sl ↔ g < k
theorem srtd.nd {k : Nat} {to : Nat → Nat} {sl : List Nat} (h : srtd k to sl) : sl.Nodup := h.1.imp (fun z q => by subst q; omega)
theorem lgo_f {k : Nat} {to : Nat → Nat} {sl : List Nat} (h : srtd k to sl) {S g : Nat} {c : Nat → Bool} (hf : (frs sl S).find? c = some g) : lgo (fun x => !S.testBit x && c x) to k = some g := by
  have hs : (frs sl S).Pairwise (fun x y => to x < to y ∨ to x = to y ∧ x < y) := h.1.filter _
  obtain ⟨cg, as, bs, e1, e2⟩ := List.find?_eq_some_iff_append.mp hf
  have hg : g ∈ frs sl S := by rw [e1]; simp
  have mem : ∀ x, x ∈ frs sl S ↔ x < k ∧ S.testBit x = false := by
    intro x
    unfold frs
    rw [List.mem_filter, h.2]
    cases S.testBit x <;> simp
  obtain ⟨g1, g2⟩ := (mem g).mp hg
  have hc : (!S.testBit g && c g) = true := by rw [g2, cg]; rfl
  obtain ⟨l1, l2⟩ := lgo_s (cond := fun x => !S.testBit x && c x) (to := to) k
  cases z : lgo (fun x => !S.testBit x && c x) to k with
  | none =>
    have := l1 z g g1
    rw [hc] at this; cases this
  | some b =>
    obtain ⟨k1, k2, k3⟩ := l2 b z
    have k4 := k3 g g1 hc
    have k2 : (!S.testBit b && c b) = true := k2
    rw [Bool.and_eq_true] at k2
    have b2 : S.testBit b = false := by simpa using k2.1
    have hb := (mem b).mpr ⟨k1, b2⟩
    rw [e1] at hb hs
    rcases List.mem_append.mp hb with q | q
    · have := e2 b q
      rw [k2.2] at this; cases this
    · rcases List.mem_cons.mp q with q | q
      · rw [q]
      · have hp := (List.pairwise_cons.mp (List.pairwise_append.mp hs).2.1).1 b q
        omega
theorem least_s {c k S : Nat} {kd fr to cv : Nat → Nat} {w : Nat → Nat → Nat} {A : Mem} (hT : TOK c k kd fr to cv w) (hS : XS c w A) (hC : XC 6 k kd fr to cv A) (h1 : S < 2 ^ k - 1) (ht : ∀ S, S < 2 ^ k → A 24 S = nI (tT (DD c w kd fr to cv) k S)) : d_X1_leastGoal (nI S) 6 A = some (oI (lgo (fun g => !S.testBit g && decide (DD c w kd fr to cv (pb 6 S) g ≤ tT (DD c w kd fr to cv) k 0 ∧ tT (DD c w kd fr to cv) k (S ||| 2 ^ g) ≤ tT (DD c w kd fr to cv) k 0)) to k)) := by
  have hk := hT.2.1
  have hc6 := hT.1
  have h64 : 2 ^ k ≤ 2 ^ 6 := Nat.pow_le_pow_right (by decide) hk
  have hi := inf31
  have h0 := tT_le (D := DD c w kd fr to cv) (k := k) (S := 0) hk (by omega)
  have key : ∀ (cond : Nat → Bool), (∀ g, cond g = (!S.testBit g && decide (DD c w kd fr to cv (pb 6 S) g ≤ tT (DD c w kd fr to cv) k 0 ∧ tT (DD c w kd fr to cv) k (S ||| 2 ^ g) ≤ tT (DD c w kd fr to cv) k 0))) → ∀ m g f, g + m = k → m < f → dX1_leastGoal_7l (nI S) 6 A f (oI (lgo cond to g)) (nI g) = some (oI (lgo cond to k)) := by
    intro cond hcd m
    induction m with
    | zero =>
      intro g f hg hf
      obtain ⟨f, rfl⟩ : ∃ f1, f = f1 + 1 := ⟨f - 1, by omega⟩
      have e : g = k := by omega
      rw [e, dX1_leastGoal_7l, hC.1, if_pos (le_t (Nat.le_refl _) (by omega))]
    | succ m ih =>
      intro g f hg hf
      obtain ⟨f, rfl⟩ : ∃ f1, f = f1 + 1 := ⟨f - 1, by omega⟩
      have hgk : g < k := by omega
      have e : lgo cond to (g + 1) = if cond g = true then (match lgo cond to g with
        | none => some g
        | some b => if to b ≤ to g then some b else some g) else lgo cond to g := rfl
      have ih' := ih (g + 1) f (by omega) (by omega)
      have hcg := hcd g
      rw [dX1_leastGoal_7l, hC.1, if_neg (le_f hgk (by omega))]
      unfold dX1_leastGoal_30j dX1_leastGoal_85j
      cases q : S.testBit g with
      | true =>
        rw [q] at hcg
        have hcg : cond g = false := hcg
        rw [if_neg (fun z => by rw [(bit_z (by omega) (by omega)).mp z] at q; cases q), if_pos rfl, nI_1]
        rw [e, hcg, if_neg (by decide)] at ih'
        exact ih'
      | false =>
        rw [q] at hcg
        have hS2 : S ||| 2 ^ g < 2 ^ k := Nat.or_lt_two_pow (by omega) (Nat.pow_lt_pow_right (by decide) hgk)
        have hl := tT_le (D := DD c w kd fr to cv) hk hS2
        have ha := aw_s (T := tT (DD c w kd fr to cv) k) hT hS hC h1 hgk q (ht _ hS2) hl
        have hmx : mxN (DD c w kd fr to cv (pb 6 S) g) (tT (DD c w kd fr to cv) k (S ||| 2 ^ g)) ≤ INF := mxN_le.mpr ⟨DD_le hT, hl⟩
        have hle := mxN_le (a := DD c w kd fr to cv (pb 6 S) g) (b := tT (DD c w kd fr to cv) k (S ||| 2 ^ g)) (t := tT (DD c w kd fr to cv) k 0)
        rw [if_pos ((bit_z (by omega) (by omega)).mpr q), if_neg one0, ha, bd1_some, if_pos (show inB (0 : Int32) 64 = true by decide), show (0 : Int32).toNatClampNeg = 0 by decide, ht 0 (by omega), nI_1]
        by_cases z : mxN (DD c w kd fr to cv (pb 6 S) g) (tT (DD c w kd fr to cv) k (S ||| 2 ^ g)) ≤ tT (DD c w kd fr to cv) k 0
        · have hct : cond g = true := by rw [hcg, decide_eq_true (hle.mp z)]; rfl
          rw [e, if_pos hct] at ih'
          rw [if_neg (nI_nlt z (by omega))]
          cases u : lgo cond to g with
          | none =>
            rw [u] at ih'
            rw [if_pos (show oI none = (-9 : Int32) from rfl)]
            exact ih'
          | some b =>
            rw [u] at ih'
            obtain ⟨k1, -, -⟩ := (lgo_s (cond := cond) (to := to) g).2 b u
            obtain ⟨-, -, t3, -⟩ := hT.2.2.1 g hgk
            obtain ⟨-, -, t4, -⟩ := hT.2.2.1 b (by omega)
            show (if nI b = (-9 : Int32) then _ else (if inB (nI g) 6 = true then (if inB (nI b) 6 = true then _ else none) else none)) = _
            rw [if_neg (nI_n9 (by omega)), if_pos (inB_t (show g < 6 by omega) (by decide)), if_pos (inB_t (show b < 6 by omega) (by decide)), show (oI (some b)).toNatClampNeg = b from cl (by omega), cl (by omega), (hC.2 b (by omega)).2.2.1, (hC.2 g hgk).2.2.1]
            have ih' : dX1_leastGoal_7l (nI S) 6 A f (oI (if to b ≤ to g then some b else some g)) (nI (g + 1)) = some (oI (lgo cond to k)) := ih'
            by_cases y : to b ≤ to g
            · rw [if_pos (le_t y (by omega))]
              rw [if_pos y] at ih'
              exact ih'
            · rw [if_neg (le_f (by omega) (by omega))]
              rw [if_neg y] at ih'
              exact ih'
        · have hct : ¬ cond g = true := by rw [hcg, decide_eq_false (fun y => z (hle.mpr y))]; decide
          rw [e, if_neg hct] at ih'
          rw [if_pos (nI_lt (by omega) (by omega))]
          exact ih'
  exact key _ (fun _ => rfl) k 0 FU (by omega) (show k < 2000 by omega)
theorem goal_l {c k : Nat} {kd fr to cv : Nat → Nat} {w : Nat → Nat → Nat} {A : Mem} {sl : List Nat} {v : Nat} (hT : TOK c k kd fr to cv w) (hS : XS c w A) (hC : XC 6 k kd fr to cv A) (hsl : srtd k to sl) (ht : ∀ S, S < 2 ^ k → A 24 S = nI (tT (DD c w kd fr to cv) k S)) (hV : tT (DD c w kd fr to cv) k 0 < INF) (hv : v < k) : ∀ m i S f x n q, i + m = v + 1 → m < f → S < 2 ^ k → pb 6 S = i → i + n = k → (prm n (frs sl S)).find? (okP (DD c w kd fr to cv) (tT (DD c w kd fr to cv) k 0) i) = some q → dX1_goalOf_32l (nI v) 6 A f (nI S) x (nI i) = some (if m = 0 then x else nI (to (q.getD (m - 1) 0))) := by
  have hk := hT.2.1
  have h64 : 2 ^ k ≤ 2 ^ 6 := Nat.pow_le_pow_right (by decide) hk
  intro m
  induction m with
  | zero =>
    intro i S f x n q hi hf h1 h2 h3 h4
    obtain ⟨f, rfl⟩ : ∃ f1, f = f1 + 1 := ⟨f - 1, by omega⟩
    rw [dX1_goalOf_32l, if_pos (nI_lt (by omega) (by omega)), if_pos rfl]
  | succ m ih =>
    intro i S f x n q hi hf h1 h2 h3 h4
    obtain ⟨f, rfl⟩ : ∃ f1, f = f1 + 1 := ⟨f - 1, by omega⟩
    obtain ⟨n, rfl⟩ : ∃ n1, n = n1 + 1 := ⟨n - 1, by omega⟩
    subst h2
    have hlt := (pop_lt k (by omega) S (by omega) h1).mpr (by omega)
    obtain ⟨g, q', rfl, e2, e3⟩ := T2 hk hsl.nd hsl.2 (tT_all hk) (tT_hs hk) h1 h3 hV h4
    have e4 := lgo_f hsl e2
    obtain ⟨g1, g2, -⟩ := (lgo_s (cond := fun g => !S.testBit g && decide (DD c w kd fr to cv (pb 6 S) g ≤ tT (DD c w kd fr to cv) k 0 ∧ tT (DD c w kd fr to cv) k (S ||| 2 ^ g) ≤ tT (DD c w kd fr to cv) k 0)) (to := to) k).2 g e4
    have g2 : (!S.testBit g && decide (DD c w kd fr to cv (pb 6 S) g ≤ tT (DD c w kd fr to cv) k 0 ∧ tT (DD c w kd fr to cv) k (S ||| 2 ^ g) ≤ tT (DD c w kd fr to cv) k 0)) = true := g2
    rw [Bool.and_eq_true] at g2
    have b2 : S.testBit g = false := by simpa using g2.1
    have hS2 : S ||| 2 ^ g < 2 ^ k := Nat.or_lt_two_pow h1 (Nat.pow_lt_pow_right (by decide) g1)
    rw [dX1_goalOf_32l, if_neg (nI_nlt (by omega) (by omega)), least_s hT hS hC hlt ht, bd1_some, e4, show oI (some g) = nI g from rfl, if_neg (nI_n9 (by omega)), sh_dec g (by omega), fa_or, lm_eq, if_pos (inB_t (show g < 6 by omega) (by decide)), cl (by omega), lm_eq, (hC.2 g g1).2.2.1, nI_1]
    have r := ih (pb 6 S + 1) (S ||| 2 ^ g) f (nI (to g)) n q' (by omega) (by omega) hS2 (pop_or (by omega) b2) (by omega) e3
    rw [r, if_neg (show ¬ m + 1 = 0 by omega)]
    by_cases z : m = 0
    · subst z; rfl
    · rw [if_neg z]
      obtain ⟨m, rfl⟩ : ∃ m1, m = m1 + 1 := ⟨m - 1, by omega⟩
      rfl
