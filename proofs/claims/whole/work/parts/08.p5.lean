/-! pure part 5: who walks, of the reference; who sits, as bits -/
def bt (s i : Nat) : Nat := s / 2 ^ i % 2
theorem bt_le (s i : Nat) : bt s i ≤ 1 := by unfold bt; omega
def MS (c : Nat) (w : Nat → Nat → Nat) (M : Mem) : Prop := M 0 1 = nI c ∧ (∀ a b, a < c → b < c → M 1 (6 * a + b) = nI (w a b)) ∧ ∀ a b, a < c → b < c → M 2 (6 * a + b) = dI (fw w c a b)
def MC (k : Nat) (kd fr to cv : Nat → Nat) (M : Mem) : Prop := M 0 2 = nI k ∧ ∀ i, i < k → M 3 i = nI (kd i) ∧ M 4 i = nI (fr i) ∧ M 5 i = nI (to i) ∧ M 6 i = nI (cv i)
def MW (k : Nat) (wk : Nat → Nat) (s : Nat) (M : Mem) : Prop := M 0 4 = nI s ∧ ∀ i, i < k → M 7 i = nI (wk i)
theorem farFrom_s {c a b : Nat} {w : Nat → Nat → Nat} {M : Mem} (hc : c ≤ 6) (h : MS c w M) (ha : a < c) (hb : b < c) : d_X9_farFrom (nI a) (nI b) M = some (dI (fw w c a b)) := by
  unfold d_X9_farFrom
  rw [ix6r, if_pos (inB_t (show 6 * a + b < 36 by omega) (by decide)), cl (by omega), h.2.2 a b ha hb]
theorem Marr_s {c k i : Nat} {kd fr to cv wk : Nat → Nat} {w : Nat → Nat → Nat} {M : Mem} {bd : Nat} (hT : TOK c k kd fr to cv w) (hS : MS c w M) (hC : MC k kd fr to cv M) (hi : i < k) (hV : M 7 i = nI (wk i)) (hB : wk i ≤ bd) (hbd : bd < 2 ^ 31) : d_X9_hasArrived (nI i) M = some (bI (arB c fr to w wk i = true)) := by
  obtain ⟨hc, hk, hf, hw, -, -⟩ := hT
  obtain ⟨f1, f2, f3, f4, f5⟩ := hf i hi
  obtain ⟨e0, e1, e2, e3⟩ := hC.2 i hi
  unfold d_X9_hasArrived
  have b6 : inB (nI i) 6 = true := inB_t (show i < 6 by omega) (by decide)
  rw [if_pos b6, if_pos b6, cl (by omega), e1, e2, farFrom_s hc hS f2 f3, bd1_some, if_pos b6, hV]
  by_cases q : fw w c (fr i) (to i) < INF
  · rw [if_neg (fun e => (dI_neg.mp e) q), dI_f q]
    by_cases g : fw w c (fr i) (to i) ≤ wk i
    · rw [if_neg (nI_nlt g (by omega)), bI_t (arB_iff.mpr ⟨q, g⟩)]
    · rw [if_pos (nI_lt (by omega) (fw_lt31 hw _ _ _)), bI_f (fun e => g (arB_iff.mp e).2)]
  · rw [if_pos (dI_neg.mpr q), bI_f (fun e => q (arB_iff.mp e).1)]
theorem Mpace_s {c k i : Nat} {kd fr to cv : Nat → Nat} {w : Nat → Nat → Nat} {M : Mem} (hT : TOK c k kd fr to cv w) (hi : i < k) (h3 : M 3 i = nI (kd i)) (h6 : M 6 i = nI (cv i)) : d_X9_paceOf (nI i) M = some (nI (paceN (kd i) (cv i))) := by
  obtain ⟨hc, hk, hf, hw, -, -⟩ := hT
  obtain ⟨f1, f2, f3, f4, f5⟩ := hf i hi
  unfold d_X9_paceOf paceN
  have b6 : inB (nI i) 6 = true := inB_t (show i < 6 by omega) (by decide)
  rw [if_pos b6, cl (by omega), lm_eq, if_pos b6, if_pos b6, if_pos b6, h3, h6, nI_1]
  by_cases a : kd i = 0
  · rw [a, if_pos nI_0, if_pos rfl]
  · rw [if_neg (nI_ne0 (by omega) (by omega)), if_neg a]
    by_cases b : kd i = 1
    · rw [b, if_pos (show nI 1 = (1 : Int32) from rfl), if_pos rfl]
    · rw [if_neg (fun e => b ((nI_eq (by omega) (by omega)).mp (e.trans (show (1 : Int32) = nI 1 from rfl)))), if_neg b, if_neg two0, show (2 : Int32) = nI 2 from rfl, pk_div (by omega) (by decide) (by decide)]
theorem add0 (x : Int32) : x + (0 : Int32) = x := by simp
theorem Mcnt_s {c k : Nat} {kd fr to cv wk : Nat → Nat} {w : Nat → Nat → Nat} {M : Mem} {bd : Nat} (hT : TOK c k kd fr to cv w) (hS : MS c w M) (hC : MC k kd fr to cv M) (hW : ∀ i, i < k → M 7 i = nI (wk i)) (hB : ∀ i, i < k → wk i ≤ bd) (hbd : bd < 2 ^ 31) : d_X9_arrived M = some (nI (ctb (arB c fr to w wk) k)) := by
  have hk : k ≤ 6 := hT.2.1
  have key : ∀ n i f, i + n = k → n < f → dX9_arrived_4l M f (nI (ctb (arB c fr to w wk) i)) (nI i) = some (nI (ctb (arB c fr to w wk) k)) := by
    intro n
    induction n with
    | zero =>
      intro i f hi hf
      obtain ⟨f, rfl⟩ : ∃ f1, f = f1 + 1 := ⟨f - 1, by omega⟩
      have e : i = k := by omega
      subst e
      rw [dX9_arrived_4l, hC.1, if_pos (le_t (Nat.le_refl _) (by omega))]
    | succ n ih =>
      intro i f hi hf
      obtain ⟨f, rfl⟩ : ∃ f1, f = f1 + 1 := ⟨f - 1, by omega⟩
      rw [dX9_arrived_4l, hC.1, if_neg (le_f (by omega) (by omega)), Marr_s hT hS hC (show i < k by omega) (hW i (by omega)) (hB i (by omega)) hbd, bd1_some, lm_eq, lm_eq, nI_1, nI_1, add0]
      have h := ih (i + 1) f (by omega) (by omega)
      have e : ctb (arB c fr to w wk) (i + 1) = ctb (arB c fr to w wk) i + if arB c fr to w wk i then 1 else 0 := rfl
      rw [e] at h
      cases q : arB c fr to w wk i with
      | true =>
        rw [bI_t rfl, if_neg one0]
        rw [q] at h
        exact h
      | false =>
        rw [bI_f (by decide), if_pos rfl]
        rw [q] at h
        exact h
  exact key k 0 FU (by omega) (show k < 2000 by omega)
theorem isIn_dec : ∀ s, s < 64 → ∀ i, i < 6 → ((nI s >>> (nI i &&& 31)) &&& (1 : Int32)) = nI (bt s i) := by decide +kernel
theorem isIn_s {s i : Nat} (hs : s < 64) (hi : i < 6) (M : Mem) : d_X9_isIn (nI s) (nI i) M = some (bI (bt s i = 1)) := by
  unfold d_X9_isIn
  rw [isIn_dec s hs i hi]
  by_cases h : bt s i = 1
  · rw [h, if_pos (show nI 1 = (1 : Int32) from rfl), bI_t rfl]
  · rw [if_neg (fun e => h ((nI_eq (by have := bt_le s i; omega) (by omega)).mp (e.trans (show (1 : Int32) = nI 1 from rfl)))), bI_f h]
/-- only the walked, and the day, differ -/
def MF (k : Nat) (A B : Mem) : Prop := (∀ q, q ≠ 7 → q ≠ 0 → B q = A q) ∧ (∀ j, k ≤ j → B 7 j = A 7 j) ∧ ∀ j, j ≠ 3 → B 0 j = A 0 j
theorem MF.rf (k : Nat) (A : Mem) : MF k A A := ⟨fun _ _ _ => rfl, fun _ _ => rfl, fun _ _ => rfl⟩
theorem MF.tr {k : Nat} {A B C : Mem} (h : MF k A B) (g : MF k B C) : MF k A C := ⟨fun q h1 h2 => (g.1 q h1 h2).trans (h.1 q h1 h2), fun j hj => (g.2.1 j hj).trans (h.2.1 j hj), fun j hj => (g.2.2 j hj).trans (h.2.2 j hj)⟩
theorem MF.S {c k : Nat} {w : Nat → Nat → Nat} {A B : Mem} (h : MF k A B) (hS : MS c w A) : MS c w B := by
  refine ⟨?_, fun a b ha hb => ?_, fun a b ha hb => ?_⟩
  · rw [h.2.2 1 (by decide)]; exact hS.1
  · rw [h.1 1 (by decide) (by decide)]; exact hS.2.1 a b ha hb
  · rw [h.1 2 (by decide) (by decide)]; exact hS.2.2 a b ha hb
theorem MF.C {k : Nat} {kd fr to cv : Nat → Nat} {A B : Mem} (h : MF k A B) (hC : MC k kd fr to cv A) : MC k kd fr to cv B := by
  refine ⟨by rw [h.2.2 2 (by decide)]; exact hC.1, fun i hi => ?_⟩
  obtain ⟨e0, e1, e2, e3⟩ := hC.2 i hi
  exact ⟨by rw [h.1 3 (by decide) (by decide)]; exact e0, by rw [h.1 4 (by decide) (by decide)]; exact e1, by rw [h.1 5 (by decide) (by decide)]; exact e2, by rw [h.1 6 (by decide) (by decide)]; exact e3⟩
theorem Mday_s {c k : Nat} {kd fr to cv wk : Nat → Nat} {w : Nat → Nat → Nat} {s : Nat} {M : Mem} {bd : Nat} (hT : TOK c k kd fr to cv w) (hS : MS c w M) (hC : MC k kd fr to cv M) (hW : MW k wk s M) (hs : s < 64) (hB : ∀ i, i < k → wk i ≤ bd) (hbd : bd + 10 < 2 ^ 31) : ∃ B : Mem, d_X9_passes M = some B ∧ MW k (wkS c kd fr to cv w wk (bt s)) s B ∧ MF k M B ∧ B 0 3 = M 0 3 + 1 := by
  have hk : k ≤ 6 := hT.2.1
  have key : ∀ n i f (B : Mem), i + n = k → n < f → MF k M B → B 0 3 = M 0 3 → (∀ j, j < k → B 7 j = nI (if j < i then wkS c kd fr to cv w wk (bt s) j else wk j)) → ∃ B1 : Mem, dX9_passes_2l (fun (M8 : Mem) => (lm (mu M8 0 3 ((M8 0 3) + (1 : Int32))) (fun (M9 : Mem) => (some M9)))) f (nI i) B = some (mu B1 0 3 (M 0 3 + 1)) ∧ MF k M B1 ∧ ∀ j, j < k → B1 7 j = nI (wkS c kd fr to cv w wk (bt s) j) := by
    intro n
    induction n with
    | zero =>
      intro i f B hi hf hF h3 hV
      obtain ⟨f, rfl⟩ : ∃ f1, f = f1 + 1 := ⟨f - 1, by omega⟩
      have e : i = k := by omega
      subst e
      rw [dX9_passes_2l, hF.2.2 2 (by decide), hC.1, if_pos (le_t (Nat.le_refl _) (by omega)), lm_eq, h3]
      exact ⟨B, rfl, hF, fun j hj => by rw [hV j hj, if_pos hj]⟩
    | succ n ih =>
      intro i f B hi hf hF h3 hV
      obtain ⟨f, rfl⟩ : ∃ f1, f = f1 + 1 := ⟨f - 1, by omega⟩
      have hik : i < k := by omega
      have hCB := hF.C hC
      have hVi : B 7 i = nI (wk i) := by rw [hV i hik, if_neg (by omega)]
      have b6 : inB (nI i) 6 = true := inB_t (show i < 6 by omega) (by decide)
      have hsB : B 0 4 = nI s := by rw [hF.2.2 4 (by decide)]; exact hW.1
      have go : ∀ v : Nat, wk i + v = wkS c kd fr to cv w wk (bt s) i → ∃ B1 : Mem, dX9_passes_45j (dX9_passes_2l (fun (M8 : Mem) => (lm (mu M8 0 3 ((M8 0 3) + (1 : Int32))) (fun (M9 : Mem) => (some M9)))) f) (nI i) (nI v) (nI (wk i)) (nI i) B = some (mu B1 0 3 (M 0 3 + 1)) ∧ MF k M B1 ∧ ∀ j, j < k → B1 7 j = nI (wkS c kd fr to cv w wk (bt s) j) := by
        intro v hv
        unfold dX9_passes_45j
        rw [if_pos b6, cl (by omega), lm_eq, nI_1, nI_add, hv]
        refine ih (i + 1) f (mu B 7 i (nI (wkS c kd fr to cv w wk (bt s) i))) (by omega) (by omega) (hF.tr ⟨fun q h1 _ => mu_ne h1, fun j hj => by rw [mu_eq, upd_n (by omega)], fun j _ => by rw [mu_ne (by decide)]⟩) (by rw [mu_ne (by decide)]; exact h3) (fun j hj => ?_)
        rw [mu_eq, upd_ap]
        by_cases e : j = i
        · subst e; rw [if_pos rfl, if_pos (by omega)]
        · rw [if_neg e, hV j hj]
          congr 1
          by_cases q : j < i
          · rw [if_pos q, if_pos (by omega)]
          · rw [if_neg q, if_neg (by omega)]
      rw [dX9_passes_2l, hCB.1, if_neg (le_f hik (by omega)), if_pos b6, cl (by omega), hsB, isIn_s hs (by omega), bd1_some, hVi]
      by_cases hb : bt s i = 1
      · rw [bI_t hb, if_neg one0]
        unfold dX9_passes_36j
        exact go 0 (by unfold wkS; rw [if_neg (by omega)]; omega)
      · rw [bI_f hb, if_pos rfl, Marr_s hT (hF.S hS) hCB hik hVi (hB i hik) (by omega), bd1_some]
        have hb0 : bt s i = 0 := by have := bt_le s i; omega
        cases hq : arB c fr to w wk i with
        | true =>
          rw [bI_t rfl, if_neg one0]
          unfold dX9_passes_36j
          exact go 0 (by unfold wkS; rw [if_neg (by rw [hq]; simp)]; omega)
        | false =>
          rw [bI_f (by decide), if_pos rfl, Mpace_s hT hik (hCB.2 i hik).1 (hCB.2 i hik).2.2.2, bd1_some]
          exact go _ (by unfold wkS; rw [if_pos ⟨hb0, hq⟩])
  obtain ⟨B, h1, h2, h3⟩ := key k 0 FU M (by omega) (show k < 2000 by omega) (MF.rf k M) rfl (fun j hj => by rw [hW.2 j hj, if_neg (by omega)])
  refine ⟨mu B 0 3 (M 0 3 + 1), h1, ⟨by rw [mu_eq, upd_n (by decide), h2.2.2 4 (by decide)]; exact hW.1, fun j hj => by rw [mu_ne (by decide)]; exact h3 j hj⟩, h2.tr ⟨fun q _ h0 => mu_ne h0, fun j _ => by rw [mu_ne (by decide)], fun j hj => by rw [mu_eq, upd_n hj]⟩, by rw [mu_eq, upd_s]⟩
