/-! the relation between the class's memory A and the reference's M, n calls behind the start; the small calls -/
def ShR (s c : Nat → Int32) (z l : Int32) (g : Nat → Int32) : Prop := (s 1 = -9 ∧ s 2 = 0 ∧ z = -1) ∨ ∃ n q : Nat, n ≤ 60 ∧ q ≤ 2 ∧ s 1 = nI q ∧ s 2 = nI n ∧ z = nI n ∧ l = nI q ∧ ∀ i, i < n → c i = g i
def RdR (k : Nat) (A M : Mem) : Prop := ∃ (r : Nat) (wh dy vl : Nat → Nat), r ≤ 8 ∧ A 25 3 = nI r ∧ M 0 30 = nI r ∧ ∀ j, j < r → wh j < k ∧ dy j ≤ 99 ∧ vl j ≤ 999 ∧ A 26 j = nI (wh j) ∧ A 27 j = nI (dy j) ∧ A 28 j = nI (vl j) ∧ M 18 j = nI (wh j) ∧ M 19 j = nI (dy j) ∧ M 20 j = nI (vl j)
def ShA (A M : Mem) : Prop := ∀ j, j < 4 → ShR (A (29 + 2 * j)) (A (30 + 2 * j)) (M 21 j) (M 22 j) (fun i => M 23 (60 * j + i))
def Tw (n c k : Nat) (kd fr to cv : Nat → Nat) (w : Nat → Nat → Nat) (wk : Nat → Nat) (s : Nat) (A M : Mem) : Prop := TOK c k kd fr to cv w ∧ (c = 0 ∧ k = 0 ∨ 2 ≤ c ∧ 1 ≤ k) ∧ XS c w A ∧ XC 6 k kd fr to cv A ∧ XW 6 k wk (bt s) A ∧ MS c w M ∧ MC k kd fr to cv M ∧ MW k wk s M ∧ s < 2 ^ k ∧ (∀ i, i < k → wk i ≤ 1000 * n) ∧ RdR k A M
def Rel (n : Nat) (A M : Mem) : Prop := (∃ (c k : Nat) (kd fr to cv : Nat → Nat) (w : Nat → Nat → Nat) (wk : Nat → Nat) (s : Nat), Tw n c k kd fr to cv w wk s A M) ∧ ShA A M ∧ A 0 6 = M 0 3 ∧ A 0 7 = M 0 38 ∧ A 0 8 = M 0 0
theorem Tw.mono {n n1 c k : Nat} {kd fr to cv : Nat → Nat} {w : Nat → Nat → Nat} {wk : Nat → Nat} {s : Nat} {A M : Mem} (h : Tw n c k kd fr to cv w wk s A M) (hn : n ≤ n1) : Tw n1 c k kd fr to cv w wk s A M := by
  obtain ⟨h1, h2, h3, h4, h5, h6, h7, h8, h9, h10, h11⟩ := h
  exact ⟨h1, h2, h3, h4, h5, h6, h7, h8, h9, fun i hi => by have := h10 i hi; omega, h11⟩
theorem Rel.mono {n : Nat} {A M : Mem} (h : Rel n A M) : Rel (n + 1) A M := by
  obtain ⟨⟨c, k, kd, fr, to, cv, w, wk, s, hT⟩, h2⟩ := h
  exact ⟨⟨c, k, kd, fr, to, cv, w, wk, s, hT.mono (by omega)⟩, h2⟩
/-- the reference's cells that last from call to call -/
def Pq (q : Nat) : Prop := (1 ≤ q ∧ q ≤ 7) ∨ (18 ≤ q ∧ q ≤ 23)
/-- the town and the sheets stand where their cells stand -/
theorem Tw.cong {n c k : Nat} {kd fr to cv : Nat → Nat} {w : Nat → Nat → Nat} {wk : Nat → Nat} {s : Nat} {A M A1 M1 : Mem} (h : Tw n c k kd fr to cv w wk s A M) (hA : ∀ q, 2 ≤ q → q ≤ 28 → q ≠ 5 → q ≠ 14 → q ≠ 24 → (q < 15 ∨ 22 < q) → A1 q = A q) (hM : ∀ q, Pq q → q ≤ 20 → M1 q = M q) (h0 : ∀ j, j = 1 ∨ j = 2 ∨ j = 4 ∨ j = 30 → M1 0 j = M 0 j) : Tw n c k kd fr to cv w wk s A1 M1 := by
  obtain ⟨hT, hck, hXS, hXC, hXW, hMS, hMC, hMW, hs, hwk, r, wh, dy, vl, hr, hr1, hr2, hr3⟩ := h
  have hk := hT.2.1
  have hft : ∀ i, i < k → A1 (ft 6 i) = A (ft 6 i) := fun i hi => hA _ (by unfold ft; omega) (by unfold ft; omega) (by unfold ft; omega) (by unfold ft; omega) (by unfold ft; omega) (by unfold ft; omega)
  have aq : ∀ q, q = 2 ∨ q = 3 ∨ q = 4 ∨ q = 6 ∨ q = 25 ∨ q = 26 ∨ q = 27 ∨ q = 28 → A1 q = A q := fun q hq => hA q (by omega) (by omega) (by omega) (by omega) (by omega) (by omega)
  have mq : ∀ q, q = 1 ∨ q = 2 ∨ q = 3 ∨ q = 4 ∨ q = 5 ∨ q = 6 ∨ q = 7 ∨ q = 18 ∨ q = 19 ∨ q = 20 → M1 q = M q := fun q hq => hM q (by unfold Pq; omega) (by omega)
  refine ⟨hT, hck, ⟨?_, fun a b ha hb => ?_, fun a b ha hb => ?_⟩, ⟨?_, fun i hi => ?_⟩, fun i hi => ?_, ⟨?_, fun a b ha hb => ?_, fun a b ha hb => ?_⟩, ⟨?_, fun i hi => ?_⟩, ⟨?_, fun i hi => ?_⟩, hs, hwk, r, wh, dy, vl, hr, ?_, ?_, fun j hj => ?_⟩
  · rw [aq 2 (by omega)]; exact hXS.1
  · rw [aq 3 (by omega)]; exact hXS.2.1 a b ha hb
  · rw [aq 4 (by omega)]; exact hXS.2.2 a b ha hb
  · rw [aq 6 (by omega)]; exact hXC.1
  · rw [hft i hi]; exact hXC.2 i hi
  · rw [hft i hi]; exact hXW i hi
  · rw [h0 1 (by omega)]; exact hMS.1
  · rw [mq 1 (by omega)]; exact hMS.2.1 a b ha hb
  · rw [mq 2 (by omega)]; exact hMS.2.2 a b ha hb
  · rw [h0 2 (by omega)]; exact hMC.1
  · rw [mq 3 (by omega), mq 4 (by omega), mq 5 (by omega), mq 6 (by omega)]; exact hMC.2 i hi
  · rw [h0 4 (by omega)]; exact hMW.1
  · rw [mq 7 (by omega)]; exact hMW.2 i hi
  · rw [aq 25 (by omega)]; exact hr1
  · rw [h0 30 (by omega)]; exact hr2
  · rw [aq 26 (by omega), aq 27 (by omega), aq 28 (by omega), mq 18 (by omega), mq 19 (by omega), mq 20 (by omega)]; exact hr3 j hj
theorem ShA.cong {A M A1 M1 : Mem} (h : ShA A M) (hA : ∀ q, 29 ≤ q → q ≤ 36 → A1 q = A q) (hM : ∀ q, 21 ≤ q → q ≤ 23 → M1 q = M q) : ShA A1 M1 := by
  intro j hj
  rw [hA (29 + 2 * j) (by omega) (by omega), hA (30 + 2 * j) (by omega) (by omega), hM 21 (by omega) (by omega), hM 22 (by omega) (by omega), hM 23 (by omega) (by omega)]
  exact h j hj
/-- only the own fields of the class's object, and of the reference's what doesn't last, differ -/
theorem Rel.own {n : Nat} {A M A1 M1 : Mem} (h : Rel n A M) (hA : ∀ q, 2 ≤ q → q ≤ 36 → q ≠ 5 → q ≠ 14 → q ≠ 24 → (q < 15 ∨ 22 < q) → A1 q = A q) (hM : ∀ q, Pq q → M1 q = M q) (h0 : ∀ j, j = 1 ∨ j = 2 ∨ j = 4 ∨ j = 30 → M1 0 j = M 0 j) (h6 : A1 0 6 = M1 0 3) (h7 : A1 0 7 = M1 0 38) (h8 : A1 0 8 = M1 0 0) : Rel (n + 1) A1 M1 := by
  obtain ⟨⟨c, k, kd, fr, to, cv, w, wk, s, hT⟩, hS, -⟩ := h
  exact ⟨⟨c, k, kd, fr, to, cv, w, wk, s, (hT.mono (by omega)).cong (fun q a b => hA q a (by omega)) (fun q a _ => hM q a) h0⟩, hS.cong (fun q a b => hA q (by omega) (by omega) (by omega) (by omega) (by omega) (by omega)) (fun q a b => hM q (by unfold Pq; omega)), h6, h7, h8⟩
def OkE (n : Nat) (dx dm : Option (Int32 × Mem)) : Prop := ∃ (r : Int32) (A1 M1 : Mem), dx = some (r, A1) ∧ dm = some (r, M1) ∧ Rel (n + 1) A1 M1
def OkL (n : Nat) (dx dm : Option (Int64 × Mem)) : Prop := ∃ (r : Int64) (A1 M1 : Mem), dx = some (r, A1) ∧ dm = some (r, M1) ∧ Rel (n + 1) A1 M1
theorem OkE.pp {n : Nat} {A M : Mem} {dx dm : Option Int32} (h : Rel n A M) (r : Int32) (h1 : dx = some r) (h2 : dm = some r) : OkE n (wM A dx) (wM M dm) := ⟨r, A, M, by rw [h1]; rfl, by rw [h2]; rfl, h.mono⟩
theorem OkL.pp {n : Nat} {A M : Mem} {dx dm : Option Int64} (h : Rel n A M) (r : Int64) (h1 : dx = some r) (h2 : dm = some r) : OkL n (wM A dx) (wM M dm) := ⟨r, A, M, by rw [h1]; rfl, by rw [h2]; rfl, h.mono⟩
theorem OkE.ee {n : Nat} {A M : Mem} {dx dm : Option (Int32 × Mem)} (h : Rel n A M) (r : Int32) (h1 : dx = some (r, A)) (h2 : dm = some (r, M)) : OkE n dx dm := ⟨r, A, M, h1, h2, h.mono⟩
theorem OkE.pe {n : Nat} {A M : Mem} {dx : Option Int32} {dm : Option (Int32 × Mem)} (h : Rel n A M) (r : Int32) (h1 : dx = some r) (h2 : dm = some (r, M)) : OkE n (wM A dx) dm := ⟨r, A, M, by rw [h1]; rfl, h2, h.mono⟩
theorem sim_trace {n : Nat} {A M : Mem} (h : Rel n A M) : OkE n (wM A (d_X8_trace A)) (wM M (d_X9_trace M)) := OkE.pp h (A 0 7) rfl (by show some (M 0 38) = _; rw [h.2.2.2.1])
theorem sim_fault {n : Nat} {A M : Mem} (h : Rel n A M) : OkE n (wM A (d_X8_fault A)) (wM M (d_X9_fault M)) := OkE.pp h (A 0 8) rfl (by show some (M 0 0) = _; rw [h.2.2.2.2])
theorem WOK.of {k n : Nat} {wk : Nat → Nat} {s : Nat} (h : ∀ i, i < k → wk i ≤ 1000 * n) : WOK k (1000 * n) wk (bt s) := fun i hi => ⟨h i hi, bt_le s i⟩
theorem sim_many {n : Nat} {A M : Mem} (h : Rel n A M) (hn : n ≤ 64) (v1 : Int32) : OkE n (wM A (d_X8_many v1 A)) (wM M (d_X9_many v1 M)) := by
  obtain ⟨⟨c, k, kd, fr, to, cv, w, wk, s, hT, hck, hXS, hXC, hXW, hMS, hMC, hMW, hs, hwk, r, wh, dy, vl, hr, hr1, hr2, hr3⟩, hSh, h6, h7, h8⟩ := id h
  have e1 := Xcnt_s hT hXS hXC hXW (WOK.of hwk) (by omega)
  have e2 := Mcnt_s hT hMS hMC hMW.2 hwk (by omega)
  have hX : d_X8_many v1 A = (if v1 = (0 : Int32) then some (nI k) else if v1 = (1 : Int32) then some (nI c) else if v1 = (2 : Int32) then some (M 0 3) else if v1 = (3 : Int32) then some (nI (ctb (arB c fr to w wk) k)) else if v1 = (4 : Int32) then some (nI r) else some (-2)) := by
    unfold d_X8_many
    rw [e1, hXC.1, hXS.1, hr1, h6]
    rfl
  have hM : d_X9_many v1 M = (if v1 = (0 : Int32) then some (nI k) else if v1 = (1 : Int32) then some (nI c) else if v1 = (2 : Int32) then some (M 0 3) else if v1 = (3 : Int32) then some (nI (ctb (arB c fr to w wk) k)) else if v1 = (4 : Int32) then some (nI r) else some (-2)) := by
    unfold d_X9_many
    rw [e2, hMC.1, hMS.1, hr2]
    rfl
  obtain ⟨x, hx⟩ : ∃ x : Int32, (if v1 = (0 : Int32) then some (nI k) else if v1 = (1 : Int32) then some (nI c) else if v1 = (2 : Int32) then some (M 0 3) else if v1 = (3 : Int32) then some (nI (ctb (arB c fr to w wk) k)) else if v1 = (4 : Int32) then some (nI r) else some (-2)) = some x := by
    repeat' split
    all_goals exact ⟨_, rfl⟩
  exact OkE.pp h x (hX.trans hx) (hM.trans hx)
theorem m1_s (M : Mem) : mu M 0 0 0 = mu M 0 0 0 := rfl
theorem nb_t {p : Prop} [Decidable p] (h : p) : bI (¬ p) = 0 := bI_f (fun q => q h)
theorem nb_f {p : Prop} [Decidable p] (h : ¬ p) : bI (¬ p) = 1 := bI_t h
theorem sim_street {n : Nat} {A M : Mem} (h : Rel n A M) (v1 v2 : Int32) : OkE n (wM A (d_X8_street v1 v2 A)) (wM M (d_X9_street v1 v2 M)) := by
  obtain ⟨⟨c, k, kd, fr, to, cv, w, wk, s, hT, hck, hXS, hXC, hXW, hMS, hMC, hMW, hs, hwk, hRd⟩, hSh, h6, h7, h8⟩ := id h
  have hc := hT.1
  unfold d_X8_street d_X6_hasTwo d_X9_street
  simp only [Xhas_s (show c < 2 ^ 31 by omega) hXS.1, nC_s (show c < 2 ^ 31 by omega) hMS.1, bd1_some]
  by_cases r1 : rg v1 c
  · by_cases r2 : rg v2 c
    · obtain ⟨a, ha, rfl⟩ := rg_of (by omega) r1
      obtain ⟨b, hb, rfl⟩ := rg_of (by omega) r2
      rw [bR_t r1, bR_t r2, nb_t r1, nb_t r2]
      by_cases e : a = b
      · subst e
        exact OkE.pp h (-1) (by rw [if_neg one0, if_neg one0, if_pos rfl]; rfl) (by rw [if_pos rfl, if_pos rfl, if_pos rfl])
      · have ne : ¬ nI a = nI b := fun q => e ((nI_eq (by omega) (by omega)).mp q)
        refine OkE.pp h (nI (w a b)) ?_ ?_
        · rw [if_neg one0, if_neg one0, if_neg ne, bd1_some, if_neg one0, length_s hc hXS.1 ha hb, bd1_some, hXS.2.1 a b ha hb]
        · rw [if_pos rfl, if_pos rfl, if_neg ne, ix6r, if_pos (inB_t (show 6 * a + b < 36 by omega) (by decide)), cl (by omega), hMS.2.1 a b ha hb]
    · rw [bR_t r1, bR_f r2, nb_t r1, nb_f r2]
      exact OkE.pp h (-1) (by rw [if_neg one0, if_pos rfl]; rfl) (by rw [if_pos rfl, if_neg one0])
  · rw [bR_f r1, nb_f r1]
    exact OkE.pp h (-1) (by rw [if_pos rfl]; rfl) (by rw [if_neg one0])
theorem sim_far {n : Nat} {A M : Mem} (h : Rel n A M) (v1 v2 : Int32) : OkE n (wM A (d_X8_far v1 v2 A)) (wM M (d_X9_far v1 v2 M)) := by
  obtain ⟨⟨c, k, kd, fr, to, cv, w, wk, s, hT, hck, hXS, hXC, hXW, hMS, hMC, hMW, hs, hwk, hRd⟩, hSh, h6, h7, h8⟩ := id h
  have hc := hT.1
  unfold d_X8_far d_X9_far
  simp only [Xhas_s (show c < 2 ^ 31 by omega) hXS.1, nC_s (show c < 2 ^ 31 by omega) hMS.1, bd1_some]
  by_cases r1 : rg v1 c
  · by_cases r2 : rg v2 c
    · obtain ⟨a, ha, rfl⟩ := rg_of (by omega) r1
      obtain ⟨b, hb, rfl⟩ := rg_of (by omega) r2
      rw [bR_t r1, bR_t r2, nb_t r1, nb_t r2]
      refine OkE.pp h (dI (fw w c a b)) ?_ ?_
      · rw [if_neg one0, if_neg one0, distance_s hc hT.2.2.2.1 hXS ha hb, bd1_some]
      · rw [if_pos rfl, if_pos rfl, farFrom_s hc hMS ha hb, bd1_some]
    · rw [bR_t r1, bR_f r2, nb_t r1, nb_f r2]
      exact OkE.pp h (-1) (by rw [if_neg one0, if_pos rfl]) (by rw [if_pos rfl, if_neg one0])
  · rw [bR_f r1, nb_f r1]
    exact OkE.pp h (-1) (by rw [if_pos rfl]) (by rw [if_neg one0])
theorem ifb {b : Nat} (h : b ≤ 1) : (if nI b = 0 then some (0 : Int32) else some (1 : Int32)) = some (nI b) := by
  rcases (show b = 0 ∨ b = 1 by omega) with e | e <;> subst e <;> decide
theorem ifB {p : Prop} [Decidable p] : (if bI p = 0 then some (0 : Int32) else some (1 : Int32)) = some (bI p) := by
  by_cases h : p
  · rw [bI_t h]; decide
  · rw [bI_f h]; decide
theorem sim_ofFootman {n : Nat} {A M : Mem} (h : Rel n A M) (hn : n ≤ 64) (v1 v2 : Int32) : OkE n (wM A (d_X8_ofFootman v1 v2 A)) (wM M (d_X9_ofFootman v1 v2 M)) := by
  obtain ⟨⟨c, k, kd, fr, to, cv, w, wk, s, hT, hck, hXS, hXC, hXW, hMS, hMC, hMW, hs, hwk, hRd⟩, hSh, h6, h7, h8⟩ := id h
  have hk := hT.2.1
  have hp : 2 ^ k ≤ 2 ^ 6 := Nat.pow_le_pow_right (by decide) hk
  unfold d_X8_ofFootman d_X9_ofFootman
  simp only [Chas_s (show k < 2 ^ 31 by omega) hXC.1, nF_s (show k < 2 ^ 31 by omega) hMC.1, bd1_some]
  by_cases r1 : rg v1 k
  · obtain ⟨i, hi, rfl⟩ := rg_of (by omega) r1
    obtain ⟨x0, x1, x2, x3⟩ := hXC.2 i hi
    obtain ⟨x4, x5⟩ := hXW i hi
    obtain ⟨m0, m1, m2, m3⟩ := hMC.2 i hi
    have b6 : inB (nI i) 6 = true := inB_t (show i < 6 by omega) (by decide)
    simp only [bR_t r1, nb_t r1, if_neg one0, b6, cl (show i < 2 ^ 31 by omega), x0, x1, x2, x3, x4, x5, m0, m1, m2, m3, hMW.1, hMW.2 i hi, Fpace_s hT hXC hi, Mpace_s hT hi m0 m3, Xarr_s hT hXS hXC hXW (WOK.of hwk) (by omega) hi, Marr_s hT hMS hMC hi (hMW.2 i hi) (hwk i hi) (by omega), bd1_some, isIn_dec s (by omega) i (by omega), ifb (bt_le s i), ifB, if_true]
    obtain ⟨x, hx⟩ : ∃ x : Int32, (if v2 = (0 : Int32) then some (nI (kd i)) else if v2 = (1 : Int32) then some (nI (fr i)) else if v2 = (2 : Int32) then some (nI (to i)) else if v2 = (3 : Int32) then some (nI (cv i)) else if v2 = (4 : Int32) then some (nI (paceN (kd i) (cv i))) else if v2 = (5 : Int32) then some (nI (wk i)) else if v2 = (6 : Int32) then some (nI (bt s i)) else if v2 = (7 : Int32) then some (bI (arB c fr to w wk i = true)) else some (-2)) = some x := by
      repeat' split
      all_goals exact ⟨_, rfl⟩
    exact OkE.pp h x hx hx
  · simp only [bR_f r1, nb_f r1, if_neg one0, if_true]
    exact OkE.pp h (-1) rfl rfl
