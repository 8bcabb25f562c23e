/-! pave, days -/
def wP (w : Nat → Nat → Nat) (a b v : Nat) (x y : Nat) : Nat := if (x = a ∧ y = b) ∨ (x = b ∧ y = a) then v else w x y
theorem hasTwo_s {c a b : Nat} {A : Mem} (hc : c ≤ 6) (h : A 2 3 = nI c) (ha : a < c) (hb : b < c) : d_X6_hasTwo (nI a) (nI b) A = some (bI (¬ a = b)) := by
  unfold d_X6_hasTwo
  rw [Xhas_s (by omega) h, bd1_some, bR_t ((rg_nI (by omega)).mpr ha), if_neg one0, Xhas_s (by omega) h, bd1_some, bR_t ((rg_nI (by omega)).mpr hb), if_neg one0]
  by_cases e : a = b
  · rw [if_pos (by rw [e]), nb_t e]
  · rw [if_neg (fun q => e ((nI_eq (by omega) (by omega)).mp q)), nb_f e]
theorem lay_s {c a b : Nat} {A : Mem} (hc : c ≤ 6) (h : A 2 3 = nI c) (ha : a < c) (hb : b < c) (hab : ¬ a = b) (v : Int32) : d_X6_lay (nI a) (nI b) v A = some (mu (mu A 3 (6 * a + b) v) 3 (6 * b + a) v) := by
  unfold d_X6_lay
  rw [hasTwo_s hc h ha hb, bd1_some, nb_f hab, if_neg one0, ix6, if_pos (inB_t (show 6 * a + b < 36 by omega) (by decide)), cl (by omega), lm_eq, ix6, if_pos (inB_t (show 6 * b + a < 36 by omega) (by decide)), cl (by omega), lm_eq]
theorem wP_up {c a b v : Nat} {w : Nat → Nat → Nat} {g : Nat → Int32} (hc : c ≤ 6) (ha : a < c) (hb : b < c) (h : ∀ x y, x < c → y < c → g (6 * x + y) = nI (w x y)) : ∀ x y, x < c → y < c → upd (upd g (6 * a + b) (nI v)) (6 * b + a) (nI v) (6 * x + y) = nI (wP w a b v x y) := by
  intro x y hx hy
  unfold wP
  rw [upd_ap, upd_ap]
  by_cases e1 : x = b ∧ y = a
  · rw [if_pos (by omega), if_pos (Or.inr e1)]
  · rw [if_neg (by omega)]
    by_cases e2 : x = a ∧ y = b
    · rw [if_pos (by omega), if_pos (Or.inl e2)]
    · rw [if_neg (by omega), if_neg (by omega), h x y hx hy]
theorem sim_pave {n : Nat} {A M : Mem} (h : Rel n A M) (v1 v2 v3 : Int32) : OkE n (d_X8_pave v1 v2 v3 A) (d_X9_pave v1 v2 v3 M) := by
  obtain ⟨⟨c, k, kd, fr, to, cv, w, wk, s, hTw⟩, hSh, h6, h7, h8⟩ := id h
  obtain ⟨hT, hck, hXS, hXC, hXW, hMS, hMC, hMW, hs, hwk, hRd⟩ := id hTw
  have hc := hT.1
  unfold d_X8_pave d_X9_pave
  simp only [nC_s (show c < 2 ^ 31 by omega) hMS.1, bd1_some]
  by_cases r1 : rg v1 c
  · by_cases r2 : rg v2 c
    · obtain ⟨a, ha, rfl⟩ := rg_of (by omega) r1
      obtain ⟨b, hb, rfl⟩ := rg_of (by omega) r2
      rw [nb_t r1, nb_t r2, if_pos rfl, if_pos rfl, hasTwo_s hc hXS.1 ha hb, bd1_some]
      by_cases e : a = b
      · subst e
        rw [nb_t rfl, if_pos rfl, if_pos rfl]
        exact OkE.ee h (-1) rfl rfl
      · rw [nb_f e, if_neg one0, if_neg (fun q => e ((nI_eq (by omega) (by omega)).mp q)), inR_s (n := 10) (by decide) (by decide), bd1_some]
        by_cases r3 : rg v3 10
        · obtain ⟨c1, -, c2⟩ := ch_t (m := 9) r3 (by decide)
          obtain ⟨v, hv, rfl⟩ := rg_of (by omega) r3
          rw [bR_t r3, if_neg one0, if_neg c1, if_pos c2, length_s hc hXS.1 ha hb, bd1_some, lay_s hc hXS.1 ha hb e, bd1_some, ix6r, if_pos (inB_t (show 6 * a + b < 36 by omega) (by decide)), cl (by omega), lm_eq, if_pos (inB_t (show 6 * a + b < 36 by omega) (by decide)), lm_eq, ix6r, if_pos (inB_t (show 6 * b + a < 36 by omega) (by decide)), cl (by omega), lm_eq, hXS.2.1 a b ha hb, hMS.2.1 a b ha hb]
          have hw9 : ∀ x y, wP w a b v x y ≤ 9 := fun x y => by
            unfold wP
            have := hT.2.2.2.1 x y
            split <;> omega
          obtain ⟨A1, a1, a2, a3⟩ := measure_s (w := wP w a b v) (M := mu (mu A 3 (6 * a + b) (nI v)) 3 (6 * b + a) (nI v)) hc hw9 (by rw [mu_ne (by decide), mu_ne (by decide)]; exact hXS.1) (fun x y hx hy => by rw [mu_eq, mu_eq]; exact wP_up hc ha hb hXS.2.1 x y hx hy)
          obtain ⟨M1, b1, b2, b3⟩ := measures_s (w := wP w a b v) (M := mu (mu M 1 (6 * a + b) (nI v)) 1 (6 * b + a) (nI v)) hc hw9 (by rw [mu_ne (by decide), mu_ne (by decide)]; exact hMS.1) (fun x y hx hy => by rw [mu_eq, mu_eq]; exact wP_up hc ha hb hMS.2.1 x y hx hy)
          rw [a1, bd1_some, b1, bd1_some]
          have aq : ∀ q, q ≠ 3 → q ≠ 4 → A1 q = A q := fun q x y => by rw [a3 q y, mu_ne x, mu_ne x]
          have mq : ∀ q, q ≠ 1 → q ≠ 2 → M1 q = M q := fun q x y => by rw [b3 q y, mu_ne x, mu_ne x]
          have hft : ∀ i, i < k → A1 (ft 6 i) = A (ft 6 i) := fun i hi => aq _ (by unfold ft; omega) (by unfold ft; omega)
          refine ⟨nI (w a b), A1, M1, rfl, rfl, ⟨c, k, kd, fr, to, cv, wP w a b v, wk, s, ⟨hc, hT.2.1, hT.2.2.1, hw9, fun x y => ?_, fun x => ?_⟩, hck, ⟨?_, fun x y hx hy => ?_, a2⟩, ⟨?_, fun i hi => ?_⟩, fun i hi => ?_, ⟨?_, fun x y hx hy => ?_, b2⟩, ⟨?_, fun i hi => ?_⟩, ⟨?_, fun i hi => ?_⟩, hs, fun i hi => ?_, ?_⟩, ?_, ?_, ?_, ?_⟩
          · unfold wP
            rw [hT.2.2.2.2.1 x y]
            by_cases q : (x = a ∧ y = b) ∨ (x = b ∧ y = a)
            · rw [if_pos q, if_pos (by omega)]
            · rw [if_neg q, if_neg (by omega)]
          · unfold wP
            rw [if_neg (by omega)]
            exact hT.2.2.2.2.2 x
          · rw [aq 2 (by decide) (by decide)]; exact hXS.1
          · rw [a3 3 (by decide), mu_eq, mu_eq]; exact wP_up hc ha hb hXS.2.1 x y hx hy
          · rw [aq 6 (by decide) (by decide)]; exact hXC.1
          · rw [hft i hi]; exact hXC.2 i hi
          · rw [hft i hi]; exact hXW i hi
          · rw [mq 0 (by decide) (by decide)]; exact hMS.1
          · rw [b3 1 (by decide), mu_eq, mu_eq]; exact wP_up hc ha hb hMS.2.1 x y hx hy
          · rw [mq 0 (by decide) (by decide)]; exact hMC.1
          · rw [mq 3 (by decide) (by decide), mq 4 (by decide) (by decide), mq 5 (by decide) (by decide), mq 6 (by decide) (by decide)]; exact hMC.2 i hi
          · rw [mq 0 (by decide) (by decide)]; exact hMW.1
          · rw [mq 7 (by decide) (by decide)]; exact hMW.2 i hi
          · have := hwk i hi; omega
          · obtain ⟨r, wh, dy, vl, hr, hr1, hr2, hr3⟩ := hRd
            refine ⟨r, wh, dy, vl, hr, by rw [aq 25 (by decide) (by decide)]; exact hr1, by rw [mq 0 (by decide) (by decide)]; exact hr2, fun j hj => ?_⟩
            rw [aq 26 (by decide) (by decide), aq 27 (by decide) (by decide), aq 28 (by decide) (by decide), mq 18 (by decide) (by decide), mq 19 (by decide) (by decide), mq 20 (by decide) (by decide)]
            exact hr3 j hj
          · exact hSh.cong (fun q x y => aq q (by omega) (by omega)) (fun q x y => mq q (by omega) (by omega))
          · rw [aq 0 (by decide) (by decide), mq 0 (by decide) (by decide)]; exact h6
          · rw [aq 0 (by decide) (by decide), mq 0 (by decide) (by decide)]; exact h7
          · rw [aq 0 (by decide) (by decide), mq 0 (by decide) (by decide)]; exact h8
        · rw [bR_f r3, if_pos rfl, ch_f2 (m := 9) r3 (by decide)]
          exact OkE.ee h (-2) rfl rfl
    · rw [nb_t r1, nb_f r2, if_pos rfl, if_neg one0]
      unfold d_X6_hasTwo
      rw [Xhas_s (by omega) hXS.1, bd1_some, bR_t r1, if_neg one0, Xhas_s (by omega) hXS.1, bd1_some, bR_f r2, if_pos rfl, bd1_some, if_pos rfl]
      exact OkE.ee h (-1) rfl rfl
  · rw [nb_f r1, if_neg one0]
    unfold d_X6_hasTwo
    rw [Xhas_s (by omega) hXS.1, bd1_some, bR_f r1, if_pos rfl, bd1_some, if_pos rfl]
    exact OkE.ee h (-1) rfl rfl
/-- so many days -/
def wkI (c : Nat) (kd fr to cv : Nat → Nat) (w : Nat → Nat → Nat) (st wk : Nat → Nat) : Nat → Nat → Nat
  | 0 => wk
  | d + 1 => wkS c kd fr to cv w (wkI c kd fr to cv w st wk d) st
theorem wkS_le {c k : Nat} {kd fr to cv : Nat → Nat} {w : Nat → Nat → Nat} (hT : TOK c k kd fr to cv w) {wk st : Nat → Nat} {i : Nat} (hi : i < k) : wkS c kd fr to cv w wk st i ≤ wk i + 10 := by
  obtain ⟨-, -, -, f4, f5⟩ := hT.2.2.1 i hi
  have := (paceN_in (kd := kd i) f4 f5).2
  unfold wkS
  split <;> omega
theorem wkI_le {c k : Nat} {kd fr to cv : Nat → Nat} {w : Nat → Nat → Nat} (hT : TOK c k kd fr to cv w) {wk st : Nat → Nat} {i : Nat} (hi : i < k) : ∀ d, wkI c kd fr to cv w st wk d i ≤ wk i + 10 * d
  | 0 => Nat.le_refl _
  | d + 1 => by
    have h1 := wkI_le hT (wk := wk) (st := st) hi d
    have h2 := wkS_le hT (wk := wkI c kd fr to cv w st wk d) (st := st) hi
    show wkS c kd fr to cv w (wkI c kd fr to cv w st wk d) st i ≤ _
    omega
theorem XF.S {o k c : Nat} {w : Nat → Nat → Nat} {A B : Mem} (ho : isCo o) (h : XF o k A B) (hk : k ≤ 6) (hS : XS c w A) : XS c w B := by
  have g : ∀ q, q = 2 ∨ q = 3 ∨ q = 4 → B q = A q := fun q hq => h.1 q (fun i hi => by unfold ft; rcases ho with e | e <;> omega)
  refine ⟨?_, fun a b ha hb => ?_, fun a b ha hb => ?_⟩
  · rw [g 2 (by omega)]; exact hS.1
  · rw [g 3 (by omega)]; exact hS.2.1 a b ha hb
  · rw [g 4 (by omega)]; exact hS.2.2 a b ha hb
theorem XF.C {o k : Nat} {kd fr to cv : Nat → Nat} {A B : Mem} (h : XF o k A B) (hC : XC o k kd fr to cv A) : XC o k kd fr to cv B := by
  refine ⟨by rw [h.1 o (fun i hi => by unfold ft; omega)]; exact hC.1, fun i hi => ?_⟩
  obtain ⟨e0, e1, e2, e3⟩ := hC.2 i hi
  exact ⟨by rw [h.2 i hi 0 (by decide)]; exact e0, by rw [h.2 i hi 1 (by decide)]; exact e1, by rw [h.2 i hi 2 (by decide)]; exact e2, by rw [h.2 i hi 3 (by decide)]; exact e3⟩
theorem Xdays_s {c k D : Nat} {kd fr to cv wk st : Nat → Nat} {w : Nat → Nat → Nat} {A : Mem} {bd : Nat} (hT : TOK c k kd fr to cv w) (hS : XS c w A) (hC : XC 6 k kd fr to cv A) (hW : XW 6 k wk st A) (hB : WOK k bd wk st) (hD : D ≤ 99) (hbd : bd + 2000 < 2 ^ 31) (r : Int32) (K : Mem → Option (Int32 × Mem)) : ∀ (m d f : Nat) (B : Mem), d + m = D → m < f → XF 6 k A B → XW 6 k (wkI c kd fr to cv w st wk d) st B → ∃ B1 : Mem, dX8_days_38l (nI D) r K f (nI d) B = K B1 ∧ XF 6 k A B1 ∧ XW 6 k (wkI c kd fr to cv w st wk D) st B1 := by
  intro m
  induction m with
  | zero =>
    intro d f B hd hf hF hV
    obtain ⟨f, rfl⟩ : ∃ f1, f = f1 + 1 := ⟨f - 1, by omega⟩
    have e : d = D := by omega
    subst e
    rw [dX8_days_38l, if_pos (le_t (Nat.le_refl _) (by omega))]
    exact ⟨B, rfl, hF, hV⟩
  | succ m ih =>
    intro d f B hd hf hF hV
    obtain ⟨f, rfl⟩ : ∃ f1, f = f1 + 1 := ⟨f - 1, by omega⟩
    rw [dX8_days_38l, if_neg (le_f (by omega) (by omega))]
    obtain ⟨B1, b1, b2, b3⟩ := Xday_s (bd := bd + 10 * d) co6 hT (hF.S co6 hT.2.1 hS) (hF.C hC) hV (fun i hi => ⟨by have := wkI_le hT (wk := wk) (st := st) hi d; have := (hB i hi).1; omega, (hB i hi).2⟩) (by omega)
    rw [b1, bd1_some, nI_1]
    exact ih (d + 1) f B1 (by omega) (by omega) (hF.tr b3) b2
theorem Mdays_s {c k D s : Nat} {kd fr to cv wk : Nat → Nat} {w : Nat → Nat → Nat} {A : Mem} {bd : Nat} (hT : TOK c k kd fr to cv w) (hS : MS c w A) (hC : MC k kd fr to cv A) (hW : MW k wk s A) (hs : s < 64) (hB : ∀ i, i < k → wk i ≤ bd) (hD : D ≤ 99) (hbd : bd + 2000 < 2 ^ 31) (r : Int32) (K : Mem → Option (Int32 × Mem)) : ∀ (m d f : Nat) (B : Mem), d + m = D → m < f → MF k A B → B 0 3 = A 0 3 + nI d → MW k (wkI c kd fr to cv w (bt s) wk d) s B → ∃ B1 : Mem, dX9_days_32l (nI D) r K f (nI d) B = K B1 ∧ MF k A B1 ∧ B1 0 3 = A 0 3 + nI D ∧ MW k (wkI c kd fr to cv w (bt s) wk D) s B1 := by
  intro m
  induction m with
  | zero =>
    intro d f B hd hf hF h3 hV
    obtain ⟨f, rfl⟩ : ∃ f1, f = f1 + 1 := ⟨f - 1, by omega⟩
    have e : d = D := by omega
    subst e
    rw [dX9_days_32l, if_pos (le_t (Nat.le_refl _) (by omega))]
    exact ⟨B, rfl, hF, h3, hV⟩
  | succ m ih =>
    intro d f B hd hf hF h3 hV
    obtain ⟨f, rfl⟩ : ∃ f1, f = f1 + 1 := ⟨f - 1, by omega⟩
    rw [dX9_days_32l, if_neg (le_f (by omega) (by omega))]
    obtain ⟨B1, b1, b2, b3, b4⟩ := Mday_s (bd := bd + 10 * d) hT (hF.S hS) (hF.C hC) hV hs (fun i hi => by have := wkI_le hT (wk := wk) (st := bt s) hi d; have := hB i hi; omega) (by omega)
    rw [b1, bd1_some, nI_1]
    exact ih (d + 1) f B1 (by omega) (by omega) (hF.tr b3) (by rw [b4, h3, Int32.add_assoc, nI_1]) b2
theorem hasTown_s {c k : Nat} {A : Mem} (hck : c = 0 ∧ k = 0 ∨ 2 ≤ c ∧ 1 ≤ k) (hc : c ≤ 6) (h : A 2 3 = nI c) : d_X8_hasTown A = some (bI (¬ k = 0)) := by
  unfold d_X8_hasTown
  rw [h]
  rcases hck with ⟨e1, e2⟩ | ⟨e1, e2⟩
  · subst e1 e2; decide
  · rw [if_neg (nI_nle (by omega) (by omega)), nb_f (by omega)]
theorem XF.q {o k : Nat} {A B : Mem} (ho : isCo o) (h : XF o k A B) (hk : k ≤ 6) {q : Nat} (hq : q < 8 ∨ (13 < q ∧ q < 17) ∨ 22 < q) : B q = A q := h.1 q (fun i hi => by unfold ft; rcases ho with e | e <;> omega)
theorem sim_days {n : Nat} {A M : Mem} (h : Rel n A M) (hn : n ≤ 64) (v1 : Int32) : OkE n (d_X8_days v1 A) (d_X9_days v1 M) := by
  obtain ⟨⟨c, k, kd, fr, to, cv, w, wk, s, hTw⟩, hSh, h6, h7, h8⟩ := id h
  obtain ⟨hT, hck, hXS, hXC, hXW, hMS, hMC, hMW, hs, hwk, hRd⟩ := id hTw
  have hc := hT.1
  have hk := hT.2.1
  have hp : 2 ^ k ≤ 2 ^ 6 := Nat.pow_le_pow_right (by decide) hk
  unfold d_X8_days d_X9_days
  rw [in_s, bd1_some, Int32.toInt_toInt64]
  have e1 : (1 : Int64).toInt = 1 := by decide
  have e99 : (99 : Int64).toInt = 99 := by decide
  have i1 : (1 : Int32).toInt = 1 := by decide
  have i99 : (99 : Int32).toInt = 99 := by decide
  by_cases r : 1 ≤ v1.toInt ∧ v1.toInt ≤ 99
  · rw [bI_t (by omega), if_neg one0, if_neg (fun q => by have := Int32.lt_iff_toInt_lt.mp q; omega), if_pos (Int32.le_iff_toInt_le.mpr (by omega)), hasTown_s hck hc hXS.1, bd1_some, hMC.1]
    by_cases z : k = 0
    · rw [nb_t z, if_pos rfl, z, if_pos nI_0]
      exact OkE.ee h (-3) rfl rfl
    · rw [nb_f z, if_neg one0, if_neg (nI_ne0 (by omega) (by omega)), Xcnt_s hT hXS hXC hXW (WOK.of hwk) (by omega), bd1_some, Mcnt_s hT hMS hMC hMW.2 hwk (by omega), bd1_some]
      obtain ⟨D, hD, rfl⟩ : ∃ D : Nat, D < 100 ∧ v1 = nI D := rg_of (by omega) ⟨by omega, by omega⟩
      obtain ⟨A1, a1, a2, a3⟩ := Xdays_s hT hXS hXC hXW (WOK.of hwk) (show D ≤ 99 by omega) (by omega) (nI (ctb (arB c fr to w wk) k)) (fun (M8 : Mem) => (lm (mu M8 0 6 ((M8 0 6) + nI D)) (fun (M9 : Mem) => (bd1 (d_X0_countArrived 6 M9) (fun (r10 : Int32) => (some ((r10 - nI (ctb (arB c fr to w wk) k)), M9))))))) D 0 FU A (by omega) (show D < 2000 by omega) (XF.rf 6 k A) hXW
      obtain ⟨M1, m1, m2, m3, m4⟩ := Mdays_s hT hMS hMC hMW (by omega) hwk (show D ≤ 99 by omega) (by omega) (nI (ctb (arB c fr to w wk) k)) (fun (M7 : Mem) => (bd1 (d_X9_arrived M7) (fun (r8 : Int32) => (some ((r8 - nI (ctb (arB c fr to w wk) k)), M7))))) D 0 FU M (by omega) (show D < 2000 by omega) (MF.rf k M) (by rw [nI_0, add0]) hMW
      have hb : ∀ i, i < k → wkI c kd fr to cv w (bt s) wk D i ≤ 1000 * (n + 1) := fun i hi => by
        have := wkI_le hT (wk := wk) (st := bt s) hi D
        have := hwk i hi
        omega
      have s0 : ∀ q, q ≠ 0 → mu A1 0 6 (A1 0 6 + nI D) q = A1 q := fun q hq => mu_ne hq
      have f0 : ∀ i, ft 6 i ≠ 0 := fun i => by unfold ft; omega
      have tS := a2.S co6 hk hXS
      have tC := a2.C hXC
      have nS : XS c w (mu A1 0 6 (A1 0 6 + nI D)) := ⟨by rw [s0 2 (by decide)]; exact tS.1, by rw [s0 3 (by decide)]; exact tS.2.1, by rw [s0 4 (by decide)]; exact tS.2.2⟩
      have nC : XC 6 k kd fr to cv (mu A1 0 6 (A1 0 6 + nI D)) := ⟨by rw [s0 6 (by decide)]; exact tC.1, fun i hi => by rw [s0 _ (f0 i)]; exact tC.2 i hi⟩
      have nW : XW 6 k (wkI c kd fr to cv w (bt s) wk D) (bt s) (mu A1 0 6 (A1 0 6 + nI D)) := fun i hi => by rw [s0 _ (f0 i)]; exact a3 i hi
      rw [show (0 : Int32) = nI 0 from rfl, a1, m1, lm_eq, Xcnt_s hT nS nC nW (fun i hi => ⟨hb i hi, bt_le s i⟩) (by omega), bd1_some, Mcnt_s hT (m2.S hMS) (m2.C hMC) m4.2 hb (by omega), bd1_some]
      refine ⟨_, _, _, rfl, rfl, ⟨c, k, kd, fr, to, cv, w, wkI c kd fr to cv w (bt s) wk D, s, hT, hck, nS, nC, nW, m2.S hMS, m2.C hMC, m4, hs, hb, ?_⟩, ?_, ?_, ?_, ?_⟩
      · obtain ⟨r, wh, dy, vl, hr, hr1, hr2, hr3⟩ := hRd
        refine ⟨r, wh, dy, vl, hr, by rw [s0 25 (by decide), a2.q co6 hk (by omega)]; exact hr1, by rw [m2.2.2 30 (by decide)]; exact hr2, fun j hj => ?_⟩
        rw [s0 26 (by decide), s0 27 (by decide), s0 28 (by decide), a2.q co6 hk (q := 26) (by omega), a2.q co6 hk (q := 27) (by omega), a2.q co6 hk (q := 28) (by omega), m2.1 18 (by decide) (by decide), m2.1 19 (by decide) (by decide), m2.1 20 (by decide) (by decide)]
        exact hr3 j hj
      · exact hSh.cong (fun q x y => by rw [s0 q (by omega), a2.q co6 hk (by omega)]) (fun q x y => m2.1 q (by omega) (by omega))
      · rw [mu_eq, upd_s, a2.q co6 hk (by omega), m3, h6]
      · rw [mu_eq, upd_n (by decide), a2.q co6 hk (by omega), m2.2.2 38 (by decide)]; exact h7
      · rw [mu_eq, upd_n (by decide), a2.q co6 hk (by omega), m2.2.2 0 (by decide)]; exact h8
  · rw [bI_f (by omega), if_pos rfl]
    by_cases a : v1 < 1
    · rw [if_pos a]; exact OkE.ee h (-2) rfl rfl
    · rw [if_neg a, if_neg (fun q => by
        have q1 := Int32.le_iff_toInt_le.mp q
        have : ¬ v1.toInt < 1 := fun q => a (Int32.lt_iff_toInt_lt.mpr (by omega))
        omega)]
      exact OkE.ee h (-2) rfl rfl
