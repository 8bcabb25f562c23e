/-! way -/
def pB (c : Nat) (w : Nat → Nat → Nat) (a b y : Nat) : Bool := decide (0 < w a y ∧ fw w c y b < INF ∧ w a y + fw w c y b = fw w c a b)
theorem pB_iff {c : Nat} {w : Nat → Nat → Nat} {a b y : Nat} : pB c w a b y = true ↔ (0 < w a y ∧ fw w c y b < INF ∧ w a y + fw w c y b = fw w c a b) := decide_eq_true_iff
theorem least (p : Nat → Bool) : ∀ n, (∃ x, x < n ∧ p x = true) → ∃ x, x < n ∧ p x = true ∧ ∀ y, y < x → p y = false := by
  intro n
  induction n with
  | zero => rintro ⟨x, hx, -⟩; omega
  | succ n ih =>
    rintro ⟨x, hx, hp⟩
    by_cases q : ∃ x, x < n ∧ p x = true
    · obtain ⟨y, h1, h2, h3⟩ := ih q
      exact ⟨y, by omega, h2, h3⟩
    · have e : x = n := by
        rcases Nat.lt_or_ge x n with g | g
        · exact absurd ⟨x, g, hp⟩ q
        · omega
      subst e
      refine ⟨x, by omega, hp, fun y hy => ?_⟩
      cases z : p y with
      | false => rfl
      | true => exact absurd ⟨y, hy, z⟩ q
theorem next_ex {c a b : Nat} {w : Nat → Nat → Nat} (hc : c ≤ 6) (hw : ∀ x y, w x y ≤ 9) (ha : a < c) (hb : b < c) (hab : a ≠ b) (hf : fw w c a b < INF) : ∃ x, x < c ∧ pB c w a b x = true ∧ ∀ y, y < x → pB c w a b y = false := by
  refine least _ c ?_
  obtain ⟨x, hx, h1, h2⟩ := fw_next (w := w) c a b (Nat.le_refl _) hb hab hf
  refine ⟨x, hx, pB_iff.mpr ⟨h1, by omega, ?_⟩⟩
  -- the triangle the other way: one street is a way
  have h3 := fw_tri w c x a b hx
  have h4 : fw w c a x ≤ w a x := by
    have h5 := fw_anti w a x 0 c
    rw [Nat.zero_add] at h5
    refine Nat.le_trans h5 ?_
    show fw0 w a x ≤ w a x
    unfold fw0
    split
    · exact Nat.zero_le _
    · rw [if_neg (by omega)]; exact Nat.le_refl _
  omega
/-- one look of the class -/
theorem nx_step {c a b y f : Nat} {w : Nat → Nat → Nat} {A : Mem} (hc : c ≤ 6) (hw : ∀ x y, w x y ≤ 9) (hS : XS c w A) (ha : a < c) (hb : b < c) (hy : y < c) (hf : fw w c a b < INF) : dX6_nextOnWay_10l (nI a) (nI b) (nI (fw w c a b)) A (f + 1) (nI y) = if pB c w a b y = true then some (nI y) else dX6_nextOnWay_10l (nI a) (nI b) (nI (fw w c a b)) A f (nI (y + 1)) := by
  have h9 := hw a y
  have hl := fw_lt31 hw c a b
  rw [dX6_nextOnWay_10l, hS.1, if_neg (le_f hy (by omega)), length_s hc hS.1 ha hy, bd1_some, distance_s hc hw hS hy hb, bd1_some, hS.2.1 a y ha hy, nI_1]
  by_cases p1 : 0 < w a y
  · rw [if_neg (nI_nle p1 (by omega)), if_neg (nI_n9 hl)]
    by_cases p2 : fw w c y b < INF
    · have l2 := fw_576 hc hw p2
      rw [if_neg (fun q => (dI_9.mp q) p2), dI_f p2, nI_add]
      by_cases p3 : w a y + fw w c y b = fw w c a b
      · rw [if_pos (by rw [p3]), if_pos (pB_iff.mpr ⟨p1, p2, p3⟩)]
      · rw [if_neg (fun q => p3 ((nI_eq (by omega) hl).mp q)), if_neg (fun q => p3 (pB_iff.mp q).2.2)]
    · rw [if_pos (dI_9.mpr p2), if_neg (fun q => p2 (pB_iff.mp q).2.1)]
  · rw [if_pos (by rw [show w a y = 0 by omega, nI_0]; decide), if_neg (fun q => p1 (pB_iff.mp q).1)]
theorem nx_x {c a b x : Nat} {w : Nat → Nat → Nat} {A : Mem} (hc : c ≤ 6) (hw : ∀ x y, w x y ≤ 9) (hS : XS c w A) (ha : a < c) (hb : b < c) (hx : x < c) (hf : fw w c a b < INF) (h1 : pB c w a b x = true) (h2 : ∀ y, y < x → pB c w a b y = false) : d_X6_nextOnWay (nI a) (nI b) A = some (nI x) := by
  unfold d_X6_nextOnWay
  rw [distance_s hc hw hS ha hb, bd1_some, dI_f hf]
  have key : ∀ m y f, y + m = x → m < f → dX6_nextOnWay_10l (nI a) (nI b) (nI (fw w c a b)) A f (nI y) = some (nI x) := by
    intro m
    induction m with
    | zero =>
      intro y f hy hm
      obtain ⟨f, rfl⟩ : ∃ f1, f = f1 + 1 := ⟨f - 1, by omega⟩
      have e : y = x := by omega
      subst e
      rw [nx_step hc hw hS ha hb hx hf, if_pos h1]
    | succ m ih =>
      intro y f hy hm
      obtain ⟨f, rfl⟩ : ∃ f1, f = f1 + 1 := ⟨f - 1, by omega⟩
      rw [nx_step hc hw hS ha hb (by omega) hf, if_neg (by rw [h2 y (by omega)]; decide)]
      exact ih (y + 1) f (by omega) (by omega)
  exact key x 0 FU (by omega) (show x < 2000 by omega)
theorem nx_b {c b : Nat} {w : Nat → Nat → Nat} {A : Mem} (hc : c ≤ 6) (hw : ∀ x y, w x y ≤ 9) (hS : XS c w A) (hb : b < c) : d_X6_nextOnWay (nI b) (nI b) A = some (-9) := by
  have h0 : fw w c b b = 0 := fw_aa w b c
  have hf : fw w c b b < INF := by rw [h0]; decide
  unfold d_X6_nextOnWay
  rw [distance_s hc hw hS hb hb, bd1_some, dI_f hf]
  have key : ∀ m y f, y + m = c → m < f → dX6_nextOnWay_10l (nI b) (nI b) (nI (fw w c b b)) A f (nI y) = some (-9) := by
    intro m
    induction m with
    | zero =>
      intro y f hy hm
      obtain ⟨f, rfl⟩ : ∃ f1, f = f1 + 1 := ⟨f - 1, by omega⟩
      have e : y = c := by omega
      subst e
      rw [dX6_nextOnWay_10l, hS.1, if_pos (le_t (Nat.le_refl _) (by omega))]
    | succ m ih =>
      intro y f hy hm
      obtain ⟨f, rfl⟩ : ∃ f1, f = f1 + 1 := ⟨f - 1, by omega⟩
      rw [nx_step hc hw hS hb hb (by omega) hf, if_neg (fun q => by have := pB_iff.mp q; omega)]
      exact ih (y + 1) f (by omega) (by omega)
  exact key c 0 FU (by omega) (show c < 2000 by omega)
/-- one look of the reference -/
theorem ny_step {c a b y f : Nat} {w : Nat → Nat → Nat} {M : Mem} (hc : c ≤ 6) (hw : ∀ x y, w x y ≤ 9) (hS : MS c w M) (ha : a < c) (hb : b < c) (hy : y < c) (hf : fw w c a b < INF) (v : Int32) : dX9_nextTo_11l (nI a) (nI b) M (f + 1) v (nI (y + 1) + (-1)) = dX9_nextTo_11l (nI a) (nI b) M f (if pB c w a b y = true then nI y else v) (nI y + (-1)) := by
  have h9 := hw a y
  have hl := fw_lt31 hw c a b
  rw [pk_m1, dX9_nextTo_11l, if_neg (nI_pos (by omega)), ix6r, if_pos (inB_t (show 6 * a + y < 36 by omega) (by decide)), cl (by omega), lm_eq, hS.2.1 a y ha hy]
  unfold dX9_nextTo_68j dX9_nextTo_69j
  by_cases p1 : 0 < w a y
  · rw [if_neg (nI_nle p1 (by omega)), farFrom_s hc hS hy hb, bd1_some]
    by_cases p2 : fw w c y b < INF
    · have l2 := fw_576 hc hw p2
      rw [if_neg (fun q => (dI_neg.mp q) p2), bd1_some, farFrom_s hc hS ha hb, bd1_some, dI_f p2, dI_f hf, nI_add]
      by_cases p3 : w a y + fw w c y b = fw w c a b
      · rw [if_pos (by rw [p3]), if_neg one0, if_pos (pB_iff.mpr ⟨p1, p2, p3⟩)]
      · rw [if_neg (fun q => p3 ((nI_eq (by omega) hl).mp q)), if_pos rfl, if_neg (fun q => p3 (pB_iff.mp q).2.2)]
    · rw [if_pos (dI_neg.mpr p2), if_pos rfl, if_neg (fun q => p2 (pB_iff.mp q).2.1)]
  · rw [if_pos (by rw [show w a y = 0 by omega, nI_0]; decide), if_pos rfl, if_neg (fun q => p1 (pB_iff.mp q).1)]
theorem ny_x {c a b x : Nat} {w : Nat → Nat → Nat} {M : Mem} (hc : c ≤ 6) (hw : ∀ x y, w x y ≤ 9) (hS : MS c w M) (ha : a < c) (hb : b < c) (hx : x < c) (hf : fw w c a b < INF) (h1 : pB c w a b x = true) (h2 : ∀ y, y < x → pB c w a b y = false) : d_X9_nextTo (nI a) (nI b) M = some (nI x) := by
  have low : ∀ m f, m ≤ x → m < f → dX9_nextTo_11l (nI a) (nI b) M f (nI x) (nI m + (-1)) = some (nI x) := by
    intro m
    induction m with
    | zero =>
      intro f hm hf2
      obtain ⟨f, rfl⟩ : ∃ f1, f = f1 + 1 := ⟨f - 1, by omega⟩
      rw [dX9_nextTo_11l, if_pos (show nI 0 + (-1) < (0 : Int32) by decide)]
    | succ m ih =>
      intro f hm hf2
      obtain ⟨f, rfl⟩ : ∃ f1, f = f1 + 1 := ⟨f - 1, by omega⟩
      rw [ny_step hc hw hS ha hb (by omega) hf, if_neg (by rw [h2 m (by omega)]; decide)]
      exact ih f (by omega) (by omega)
  have high : ∀ m f v, x + m + 1 ≤ c → x + m + 1 < f → dX9_nextTo_11l (nI a) (nI b) M f v (nI (x + m + 1) + (-1)) = some (nI x) := by
    intro m
    induction m with
    | zero =>
      intro f v hm hf2
      obtain ⟨f, rfl⟩ : ∃ f1, f = f1 + 1 := ⟨f - 1, by omega⟩
      rw [Nat.add_zero, ny_step hc hw hS ha hb hx hf, if_pos h1]
      exact low x f (Nat.le_refl _) (by omega)
    | succ m ih =>
      intro f v hm hf2
      obtain ⟨f, rfl⟩ : ∃ f1, f = f1 + 1 := ⟨f - 1, by omega⟩
      rw [ny_step hc hw hS ha hb (show x + (m + 1) < c by omega) hf]
      exact ih f _ (by omega) (by omega)
  unfold d_X9_nextTo
  rw [lm_eq, hS.1]
  have h := high (c - x - 1) FU (-9) (by omega) (show x + (c - x - 1) + 1 < 2000 by omega)
  rw [show x + (c - x - 1) + 1 = c by omega] at h
  rw [show nI c - (1 : Int32) = nI c + (-1) by rw [Int32.sub_eq_add_neg]]
  exact h
theorem ctb_lt {p q : Nat → Bool} : ∀ {n : Nat}, (∀ x, x < n → p x = true → q x = true) → (∃ y, y < n ∧ q y = true ∧ p y = false) → ctb p n < ctb q n := by
  intro n
  induction n with
  | zero => rintro - ⟨y, hy, -⟩; omega
  | succ n ih =>
    rintro h ⟨y, hy, h1, h2⟩
    have mono : ∀ m, (∀ x, x < m → p x = true → q x = true) → ctb p m ≤ ctb q m := by
      intro m
      induction m with
      | zero => intro _; exact Nat.le_refl _
      | succ m ihm =>
        intro hm
        have := ihm (fun x hx => hm x (by omega))
        have g := hm m (by omega)
        show ctb p m + (if p m then 1 else 0) ≤ ctb q m + (if q m then 1 else 0)
        cases e : p m with
        | true => rw [g e]; simp; omega
        | false => simp; omega
    show ctb p n + (if p n then 1 else 0) < ctb q n + (if q n then 1 else 0)
    by_cases e : y = n
    · subst e
      have := mono y (fun x hx => h x (by omega))
      rw [h1, h2]
      simp
      omega
    · have g := ih (fun x hx => h x (by omega)) ⟨y, by omega, h1, h2⟩
      have g2 := h n (by omega)
      cases e2 : p n with
      | true => rw [g2 e2]; simp; omega
      | false => simp; omega
/-- how many corners are nearer -/
def nr (c : Nat) (w : Nat → Nat → Nat) (b a : Nat) : Nat := ctb (fun x => decide (fw w c x b < fw w c a b)) c
theorem nr_lt {c a b : Nat} {w : Nat → Nat → Nat} (ha : a < c) : nr c w b a < c := by
  unfold nr
  have h : ctb (fun x => decide (fw w c x b < fw w c a b)) c < ctb (fun _ => true) c := ctb_lt (fun _ _ _ => rfl) ⟨a, ha, rfl, decide_eq_false (by omega)⟩
  have h2 := ctb_le (fun _ => true) c
  omega
/-- the way: its corners in order -/
theorem path_ex {c b : Nat} {w : Nat → Nat → Nat} (hc : c ≤ 6) (hw : ∀ x y, w x y ≤ 9) (hb : b < c) : ∀ r a, a < c → fw w c a b < INF → nr c w b a ≤ r → ∃ (p : Nat → Nat) (L : Nat), p 0 = a ∧ p L = b ∧ L ≤ r ∧ ∀ j, j < L → p j < c ∧ p j ≠ b ∧ fw w c (p j) b < INF ∧ p (j + 1) < c ∧ pB c w (p j) b (p (j + 1)) = true ∧ ∀ y, y < p (j + 1) → pB c w (p j) b y = false := by
  intro r
  induction r with
  | zero =>
    intro a ha hf hr
    by_cases e : a = b
    · exact ⟨fun _ => a, 0, rfl, e, Nat.le_refl _, fun j hj => by omega⟩
    · obtain ⟨x, hx, h1, h2⟩ := next_ex hc hw ha hb e hf
      have h3 := pB_iff.mp h1
      have : 0 < nr c w b a := by
        unfold nr
        refine Nat.lt_of_le_of_lt (Nat.zero_le (ctb (fun _ => false) c)) (ctb_lt (fun _ _ q => by cases q) ⟨x, hx, decide_eq_true (by omega), rfl⟩)
      omega
  | succ r ih =>
    intro a ha hf hr
    by_cases e : a = b
    · exact ⟨fun _ => a, 0, rfl, e, Nat.zero_le _, fun j hj => by omega⟩
    · obtain ⟨x, hx, h1, h2⟩ := next_ex hc hw ha hb e hf
      have h3 := pB_iff.mp h1
      have hl : nr c w b x < nr c w b a := by
        unfold nr
        refine ctb_lt (fun y _ q => ?_) ⟨x, hx, decide_eq_true (by omega), decide_eq_false (by omega)⟩
        have := of_decide_eq_true q
        exact decide_eq_true (by omega)
      obtain ⟨p, L, g1, g2, g3, g4⟩ := ih x hx h3.2.1 (by omega)
      refine ⟨fun j => if j = 0 then a else p (j - 1), L + 1, rfl, ?_, by omega, fun j hj => ?_⟩
      · show (if L + 1 = 0 then a else p (L + 1 - 1)) = b
        rw [if_neg (by omega), show L + 1 - 1 = L by omega, g2]
      · by_cases z : j = 0
        · subst z
          simp only [if_true, show ¬ (0 + 1 = 0) by decide, if_false, show 0 + 1 - 1 = 0 from rfl, g1]
          exact ⟨ha, e, hf, hx, h1, h2⟩
        · have q := g4 (j - 1) (by omega)
          rw [show j - 1 + 1 = j by omega] at q
          simp only [if_neg z, show ¬ (j + 1 = 0) by omega, if_false, show j + 1 - 1 = j by omega]
          exact q
