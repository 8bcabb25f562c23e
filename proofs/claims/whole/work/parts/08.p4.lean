/-! pure part 4: who walks -/
def paceN (kd cv : Nat) : Nat := if kd = 0 then cv else if kd = 1 then cv + 1 else (cv + 1) / 2
theorem paceN_in {kd cv : Nat} (h1 : 1 ≤ cv) (h9 : cv ≤ 9) : 1 ≤ paceN kd cv ∧ paceN kd cv ≤ 10 := by
  unfold paceN
  split
  · omega
  · split <;> omega
/-- what is told of a town, and of who walks in it -/
def TOK (c k : Nat) (kd fr to cv : Nat → Nat) (w : Nat → Nat → Nat) : Prop := c ≤ 6 ∧ k ≤ 6 ∧ (∀ i, i < k → kd i ≤ 2 ∧ fr i < c ∧ to i < c ∧ 1 ≤ cv i ∧ cv i ≤ 9) ∧ (∀ a b, w a b ≤ 9) ∧ (∀ a b, w a b = w b a) ∧ ∀ a, w a a = 0
def XS (c : Nat) (w : Nat → Nat → Nat) (A : Mem) : Prop := A 2 3 = nI c ∧ (∀ a b, a < c → b < c → A 3 (6 * a + b) = nI (w a b)) ∧ ∀ a b, a < c → b < c → A 4 (6 * a + b) = nI (fw w c a b)
def XC (o k : Nat) (kd fr to cv : Nat → Nat) (A : Mem) : Prop := A o 1 = nI k ∧ ∀ i, i < k → A (ft o i) 0 = nI (kd i) ∧ A (ft o i) 1 = nI (fr i) ∧ A (ft o i) 2 = nI (to i) ∧ A (ft o i) 3 = nI (cv i)
def XW (o k : Nat) (wk st : Nat → Nat) (A : Mem) : Prop := ∀ i, i < k → A (ft o i) 4 = nI (wk i) ∧ A (ft o i) 5 = nI (st i)
def WOK (k b : Nat) (wk st : Nat → Nat) : Prop := ∀ i, i < k → wk i ≤ b ∧ st i ≤ 1
def arB (c : Nat) (fr to : Nat → Nat) (w : Nat → Nat → Nat) (wk : Nat → Nat) (i : Nat) : Bool := decide (fw w c (fr i) (to i) < INF ∧ fw w c (fr i) (to i) ≤ wk i)
theorem arB_iff {c : Nat} {fr to : Nat → Nat} {w : Nat → Nat → Nat} {wk : Nat → Nat} {i : Nat} : arB c fr to w wk i = true ↔ (fw w c (fr i) (to i) < INF ∧ fw w c (fr i) (to i) ≤ wk i) := decide_eq_true_iff
def ctb (p : Nat → Bool) : Nat → Nat
  | 0 => 0
  | n + 1 => ctb p n + if p n then 1 else 0
theorem ctb_le (p : Nat → Bool) : ∀ n, ctb p n ≤ n
  | 0 => Nat.le_refl _
  | n + 1 => by
    have h := ctb_le p n
    show ctb p n + (if p n then 1 else 0) ≤ n + 1
    split <;> omega
def wkS (c : Nat) (kd fr to cv : Nat → Nat) (w : Nat → Nat → Nat) (wk st : Nat → Nat) (i : Nat) : Nat := if st i = 0 ∧ arB c fr to w wk i = false then wk i + paceN (kd i) (cv i) else wk i
theorem inf31 : INF < 2 ^ 31 := by decide
theorem fw_lt31 {w : Nat → Nat → Nat} (hw : ∀ a b, w a b ≤ 9) (k a b : Nat) : fw w k a b < 2 ^ 31 := Nat.lt_of_le_of_lt (fw_le hw a b k) inf31
theorem nI_n9 {d : Nat} (h : d < 2 ^ 31) : ¬ nI d = (-9 : Int32) := fun e => by
  have h1 := congrArg Int32.toInt e
  rw [nI_toInt h] at h1
  have h2 : (-9 : Int32).toInt = -9 := by decide
  omega
theorem dI_9 {d : Nat} : dI d = -9 ↔ ¬ d < INF := by
  by_cases h : d < INF
  · rw [dI_f h]
    exact ⟨fun e => absurd e (nI_n9 (Nat.lt_trans h inf31)), fun q => absurd h q⟩
  · rw [dI_n h]
    exact ⟨fun _ => h, fun _ => rfl⟩
theorem distance_s {c a b : Nat} {w : Nat → Nat → Nat} {A : Mem} (hc : c ≤ 6) (hw : ∀ a b, w a b ≤ 9) (h : XS c w A) (ha : a < c) (hb : b < c) : d_X6_distance (nI a) (nI b) A = some (dI (fw w c a b)) := by
  unfold d_X6_distance
  rw [Xhas_s (by omega) h.1, bd1_some, bR_t ((rg_nI (by omega)).mpr ha), if_neg one0, Xhas_s (by omega) h.1, bd1_some, bR_t ((rg_nI (by omega)).mpr hb), if_neg one0, ix6, if_pos (inB_t (show 6 * a + b < 36 by omega) (by decide)), cl (by omega), lm_eq, h.2.2 a b ha hb, show (1000000 : Int32) = nI INF from rfl]
  by_cases q : fw w c a b < INF
  · rw [if_neg (le_f q inf31), dI_f q]
  · rw [if_pos (le_t (by omega) (fw_lt31 hw c a b)), dI_n q]
theorem Xarr_s {c k o i : Nat} {kd fr to cv wk st : Nat → Nat} {w : Nat → Nat → Nat} {A : Mem} {bd : Nat} (hT : TOK c k kd fr to cv w) (hS : XS c w A) (hC : XC o k kd fr to cv A) (hW : XW o k wk st A) (hB : WOK k bd wk st) (hbd : bd < 2 ^ 31) (hi : i < k) : d_X2_hasArrived (ft o i) A = some (bI (arB c fr to w wk i = true)) := by
  obtain ⟨hc, hk, hf, hw, -, -⟩ := hT
  obtain ⟨f1, f2, f3, f4, f5⟩ := hf i hi
  obtain ⟨-, hC⟩ := hC
  obtain ⟨e0, e1, e2, e3⟩ := hC i hi
  obtain ⟨g4, g5⟩ := hW i hi
  unfold d_X2_hasArrived
  rw [e1, e2, distance_s hc hw hS f2 f3, bd1_some, g4]
  by_cases q : fw w c (fr i) (to i) < INF
  · rw [if_neg (fun e => (dI_9.mp e) q), dI_f q]
    by_cases g : fw w c (fr i) (to i) ≤ wk i
    · rw [if_neg (nI_nlt g (by have := (hB i hi).1; omega)), bI_t (arB_iff.mpr ⟨q, g⟩)]
    · rw [if_pos (nI_lt (by omega) (fw_lt31 hw _ _ _)), bI_f (fun e => g (arB_iff.mp e).2)]
  · rw [if_pos (dI_9.mpr q), bI_f (fun e => q (arB_iff.mp e).1)]
theorem two0 : ¬ ((2 : Int32) = 0) := by decide
theorem Xpace_s {kd cv : Nat} {M : Mem} (h2 : kd ≤ 2) (h1 : 1 ≤ cv) (h9 : cv ≤ 9) : d_X8_paceOf (nI kd) (nI cv) M = some (nI (paceN kd cv)) := by
  unfold d_X8_paceOf paceN
  rw [show (0 : Int32) = nI 0 from rfl, show (1 : Int32) = nI 1 from rfl]
  by_cases a : kd = 0
  · subst a; rw [if_pos rfl, if_pos rfl]
  · rw [if_neg (fun e => a ((nI_eq (by omega) (by omega)).mp e)), if_neg a]
    by_cases b : kd = 1
    · subst b; rw [if_pos rfl, if_pos rfl, nI_add]
    · rw [if_neg (fun e => b ((nI_eq (by omega) (by omega)).mp e)), if_neg b, if_neg (show ¬ ((2 : Int32) = nI 0) from two0), nI_add, show (2 : Int32) = nI 2 from rfl, pk_div (by omega) (by decide) (by decide)]
theorem Fpace_s {o k i c : Nat} {kd fr to cv : Nat → Nat} {w : Nat → Nat → Nat} {A : Mem} (hT : TOK c k kd fr to cv w) (hC : XC o k kd fr to cv A) (hi : i < k) : d_X2_pace (ft o i) A = some (nI (paceN (kd i) (cv i))) := by
  obtain ⟨hc, hk, hf, hw, -, -⟩ := hT
  obtain ⟨f1, f2, f3, f4, f5⟩ := hf i hi
  obtain ⟨e0, e1, e2, e3⟩ := hC.2 i hi
  unfold d_X2_pace
  rw [e0, e3, Xpace_s f1 f4 f5, bd1_some]
theorem Xcnt_s {c k o : Nat} {kd fr to cv wk st : Nat → Nat} {w : Nat → Nat → Nat} {A : Mem} {bd : Nat} (hT : TOK c k kd fr to cv w) (hS : XS c w A) (hC : XC o k kd fr to cv A) (hW : XW o k wk st A) (hB : WOK k bd wk st) (hbd : bd < 2 ^ 31) : d_X0_countArrived o A = some (nI (ctb (arB c fr to w wk) k)) := by
  have hk : k ≤ 6 := hT.2.1
  have key : ∀ n i f, i + n = k → n < f → dX0_countArrived_4l o A f (nI (ctb (arB c fr to w wk) i)) (nI i) = some (nI (ctb (arB c fr to w wk) k)) := by
    intro n
    induction n with
    | zero =>
      intro i f hi hf
      obtain ⟨f, rfl⟩ : ∃ f1, f = f1 + 1 := ⟨f - 1, by omega⟩
      have e : i = k := by omega
      subst e
      rw [dX0_countArrived_4l, hC.1, if_pos (le_t (Nat.le_refl _) (by omega))]
    | succ n ih =>
      intro i f hi hf
      obtain ⟨f, rfl⟩ : ∃ f1, f = f1 + 1 := ⟨f - 1, by omega⟩
      rw [dX0_countArrived_4l, hC.1, if_neg (le_f (by omega) (by omega)), if_pos (inB_t (show i < 6 by omega) (by decide)), cl (by omega), Xarr_s hT hS hC hW hB hbd (show i < k by omega), bd1_some, nI_1, nI_1]
      have h := ih (i + 1) f (by omega) (by omega)
      have e : ctb (arB c fr to w wk) (i + 1) = ctb (arB c fr to w wk) i + if arB c fr to w wk i then 1 else 0 := rfl
      rw [e] at h
      cases q : arB c fr to w wk i with
      | true =>
        rw [bI_t rfl, if_neg one0]
        rw [q] at h
        exact h
      | false =>
        rw [bI_f (by decide), if_pos rfl]
        rw [q] at h
        exact h
  exact key k 0 FU (by omega) (show k < 2000 by omega)
theorem ft_inj {o i j : Nat} (h : ft o i = ft o j) : i = j := by unfold ft at h; omega
theorem ft_ne {o i j : Nat} (h : i ≠ j) : ft o i ≠ ft o j := fun e => h (ft_inj e)
/-- only the walked of some footmen of company o differ -/
def XF (o k : Nat) (A B : Mem) : Prop := (∀ q, (∀ i, i < k → q ≠ ft o i) → B q = A q) ∧ ∀ i, i < k → ∀ j, j ≠ 4 → B (ft o i) j = A (ft o i) j
theorem XF.rf (o k : Nat) (A : Mem) : XF o k A A := ⟨fun _ _ => rfl, fun _ _ _ _ => rfl⟩
theorem XF.tr {o k : Nat} {A B C : Mem} (h : XF o k A B) (g : XF o k B C) : XF o k A C := ⟨fun q hq => (g.1 q hq).trans (h.1 q hq), fun i hi j hj => (g.2 i hi j hj).trans (h.2 i hi j hj)⟩
theorem Xday_s {c k o : Nat} {kd fr to cv wk st : Nat → Nat} {w : Nat → Nat → Nat} {A : Mem} {bd : Nat} (ho : isCo o) (hT : TOK c k kd fr to cv w) (hS : XS c w A) (hC : XC o k kd fr to cv A) (hW : XW o k wk st A) (hB : WOK k bd wk st) (hbd : bd + 10 < 2 ^ 31) : ∃ B : Mem, d_X0_passDay o A = some B ∧ XW o k (wkS c kd fr to cv w wk st) st B ∧ XF o k A B := by
  have hk : k ≤ 6 := hT.2.1
  have ho3 : ∀ i, i < k → (2 : Nat) ≠ ft o i ∧ 3 ≠ ft o i ∧ 4 ≠ ft o i ∧ o ≠ ft o i := fun i _ => by
    unfold ft; rcases ho with h | h <;> omega
  have key : ∀ n i f (B : Mem), i + n = k → n < f → XF o k A B → (∀ j, j < k → B (ft o j) 4 = nI (if j < i then wkS c kd fr to cv w wk st j else wk j)) → ∃ B1 : Mem, dX0_passDay_2l o f (nI i) B = some B1 ∧ XF o k A B1 ∧ ∀ j, j < k → B1 (ft o j) 4 = nI (wkS c kd fr to cv w wk st j) := by
    intro n
    induction n with
    | zero =>
      intro i f B hi hf hF hV
      obtain ⟨f, rfl⟩ : ∃ f1, f = f1 + 1 := ⟨f - 1, by omega⟩
      have e : i = k := by omega
      subst e
      rw [dX0_passDay_2l, hF.1 o (fun j hj => (ho3 j hj).2.2.2), hC.1, if_pos (le_t (Nat.le_refl _) (by omega))]
      exact ⟨B, rfl, hF, fun j hj => by rw [hV j hj, if_pos hj]⟩
    | succ n ih =>
      intro i f B hi hf hF hV
      obtain ⟨f, rfl⟩ : ∃ f1, f = f1 + 1 := ⟨f - 1, by omega⟩
      have hik : i < k := by omega
      have hSB : XS c w B := by
        refine ⟨?_, fun a b ha hb => ?_, fun a b ha hb => ?_⟩
        · rw [hF.1 2 (fun j hj => (ho3 j hj).1)]; exact hS.1
        · rw [hF.1 3 (fun j hj => (ho3 j hj).2.1)]; exact hS.2.1 a b ha hb
        · rw [hF.1 4 (fun j hj => (ho3 j hj).2.2.1)]; exact hS.2.2 a b ha hb
      have hCB : XC o k kd fr to cv B := by
        refine ⟨by rw [hF.1 o (fun j hj => (ho3 j hj).2.2.2)]; exact hC.1, fun j hj => ?_⟩
        obtain ⟨e0, e1, e2, e3⟩ := hC.2 j hj
        exact ⟨by rw [hF.2 j hj 0 (by decide)]; exact e0, by rw [hF.2 j hj 1 (by decide)]; exact e1, by rw [hF.2 j hj 2 (by decide)]; exact e2, by rw [hF.2 j hj 3 (by decide)]; exact e3⟩
      have hVi : B (ft o i) 4 = nI (wk i) := by rw [hV i hik, if_neg (by omega)]
      have hWi : B (ft o i) 5 = nI (st i) := by rw [hF.2 i hik 5 (by decide)]; exact (hW i hik).2
      have hst := (hB i hik).2
      have hwk := (hB i hik).1
      -- hasArrived of i alone
      have ha : d_X2_hasArrived (ft o i) B = some (bI (arB c fr to w wk i = true)) := by
        obtain ⟨hc, hk2, hf2, hw, -, -⟩ := hT
        obtain ⟨f1, f2, f3, f4, f5⟩ := hf2 i hik
        obtain ⟨e0, e1, e2, e3⟩ := hCB.2 i hik
        unfold d_X2_hasArrived
        rw [e1, e2, distance_s hc hw hSB f2 f3, bd1_some, hVi]
        by_cases q : fw w c (fr i) (to i) < INF
        · rw [if_neg (fun e => (dI_9.mp e) q), dI_f q]
          by_cases g : fw w c (fr i) (to i) ≤ wk i
          · rw [if_neg (nI_nlt g (by omega)), bI_t (arB_iff.mpr ⟨q, g⟩)]
          · rw [if_pos (nI_lt (by omega) (fw_lt31 hw _ _ _)), bI_f (fun e => g (arB_iff.mp e).2)]
        · rw [if_pos (dI_9.mpr q), bI_f (fun e => q (arB_iff.mp e).1)]
      rw [dX0_passDay_2l, hCB.1, if_neg (le_f hik (by omega)), if_pos (inB_t (show i < 6 by omega) (by decide)), cl (by omega), hWi, nI_1]
      have same : wkS c kd fr to cv w wk st i = wk i → ∃ B1 : Mem, dX0_passDay_2l o f (nI (i + 1)) B = some B1 ∧ XF o k A B1 ∧ ∀ j, j < k → B1 (ft o j) 4 = nI (wkS c kd fr to cv w wk st j) := fun hs => by
        refine ih (i + 1) f B (by omega) (by omega) hF (fun j hj => ?_)
        rw [hV j hj]
        congr 1
        by_cases e : j = i
        · subst e; rw [if_neg (by omega), if_pos (by omega), hs]
        · by_cases q : j < i
          · rw [if_pos q, if_pos (by omega)]
          · rw [if_neg q, if_neg (by omega)]
      by_cases hs : st i = 0
      · rw [hs, if_pos nI_0, ha, bd1_some]
        cases hq : arB c fr to w wk i with
        | true =>
          rw [bI_t rfl, if_neg one0]
          exact same (by unfold wkS; rw [if_neg (by rw [hq]; simp)])
        | false =>
          rw [bI_f (by decide), if_pos rfl, Fpace_s hT hCB hik, bd1_some, lm_eq, hVi, nI_add]
          refine ih (i + 1) f (mu B (ft o i) 4 (nI (wk i + paceN (kd i) (cv i)))) (by omega) (by omega) (hF.tr ⟨fun q hq => mu_ne (hq i hik), fun j hj jj hjj => ?_⟩) (fun j hj => ?_)
          · by_cases e : j = i
            · subst e; rw [mu_eq, upd_n hjj]
            · rw [mu_ne (ft_ne e)]
          · by_cases e : j = i
            · subst e
              rw [mu_eq, upd_s, if_pos (by omega)]
              unfold wkS
              rw [if_pos ⟨hs, hq⟩]
            · rw [mu_ne (ft_ne e), hV j hj]
              congr 1
              by_cases q : j < i
              · rw [if_pos q, if_pos (by omega)]
              · rw [if_neg q, if_neg (by omega)]
      · rw [if_neg (nI_ne0 (by omega) (by omega))]
        exact same (by unfold wkS; rw [if_neg (fun q => hs q.1)])
  obtain ⟨B, h1, h2, h3⟩ := key k 0 FU A (by omega) (show k < 2000 by omega) (XF.rf o k A) (fun j hj => by rw [(hW j hj).1, if_neg (by omega)])
  exact ⟨B, h1, fun j hj => ⟨h3 j hj, by rw [h2.2 j hj 5 (by decide)]; exact (hW j hj).2⟩, h2⟩
