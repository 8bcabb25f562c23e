/-! way, middle: the calls -/
theorem nx_inf {c a b : Nat} {w : Nat → Nat → Nat} {A : Mem} (hc : c ≤ 6) (hw : ∀ x y, w x y ≤ 9) (hS : XS c w A) (ha : a < c) (hb : b < c) (hf : ¬ fw w c a b < INF) : d_X6_nextOnWay (nI a) (nI b) A = some (-9) := by
  unfold d_X6_nextOnWay
  rw [distance_s hc hw hS ha hb, bd1_some, dI_n hf]
  have key : ∀ m y f, y + m = c → m < f → dX6_nextOnWay_10l (nI a) (nI b) (-9) A f (nI y) = some (-9) := by
    intro m
    induction m with
    | zero =>
      intro y f hy hm
      obtain ⟨f, rfl⟩ : ∃ f1, f = f1 + 1 := ⟨f - 1, by omega⟩
      have e : y = c := by omega
      subst e
      rw [dX6_nextOnWay_10l, hS.1, if_pos (le_t (Nat.le_refl _) (by omega))]
    | succ m ih =>
      intro y f hy hm
      obtain ⟨f, rfl⟩ : ∃ f1, f = f1 + 1 := ⟨f - 1, by omega⟩
      have hyc : y < c := by omega
      rw [dX6_nextOnWay_10l, hS.1, if_neg (le_f hyc (by omega)), length_s hc hS.1 ha hyc, bd1_some, distance_s hc hw hS hyc hb, bd1_some, nI_1, if_pos rfl]
      have := ih (y + 1) f (by omega) (by omega)
      split
      · exact this
      · exact this
  exact key c 0 FU (by omega) (show c < 2000 by omega)
/-- what way's count and corners are, of class and reference -/
theorem way_fin {c a b : Nat} {w : Nat → Nat → Nat} {A M : Mem} (hc : c ≤ 6) (hw : ∀ x y, w x y ≤ 9) (hX : XS c w A) (hM : MS c w M) (ha : a < c) (hb : b < c) (hf : fw w c a b < INF) : ∃ (p : Nat → Nat) (L : Nat), L ≤ 5 ∧ d_X6_cornersOnWay (nI a) (nI b) A = some (nI (L + 1)) ∧ (∀ K, K ≤ 5 → d_X6_cornerOnWay (nI a) (nI b) (nI K) A = some (if K ≤ L then nI (p K) else -9)) ∧ (∀ (k : Int32 → Int32 → Option Int32), dX9_way_53l (nI b) (-1) M k FU (nI a) 1 = k (nI b) (nI (L + 1))) ∧ ∀ K, K ≤ 5 → ∀ (k : Int32 → Int32 → Option Int32), dX9_way_53l (nI b) (nI K) M k FU (nI a) 1 = if K ≤ L then k (nI (p K)) (nI (K + 1)) else k (nI b) (nI (L + 1)) := by
  have hr := nr_lt (w := w) (b := b) ha
  obtain ⟨p, L, g1, g2, g3, g4⟩ := path_ex hc hw hb 5 a ha hf (by omega)
  have pc : ∀ j, j ≤ L → p j < c := fun j hj => by
    rcases Nat.lt_or_ge j L with q | q
    · exact (g4 j q).1
    · have : j = L := by omega
      rw [this, g2]; exact hb
  refine ⟨p, L, g3, ?_, fun K hK => ?_, fun k => ?_, fun K hK k => ?_⟩
  · have key : ∀ m j f, j + m = L → m < f → dX6_cornersOnWay_5l (nI b) A f (nI (j + 1)) (nI (p j)) = some (nI (L + 1)) := by
      intro m
      induction m with
      | zero =>
        intro j f hj hm
        obtain ⟨f, rfl⟩ : ∃ f1, f = f1 + 1 := ⟨f - 1, by omega⟩
        have e : j = L := by omega
        subst e
        rw [dX6_cornersOnWay_5l, g2, if_pos rfl]
      | succ m ih =>
        intro j f hj hm
        obtain ⟨f, rfl⟩ : ∃ f1, f = f1 + 1 := ⟨f - 1, by omega⟩
        obtain ⟨q1, q2, q3, q4, q5, q6⟩ := g4 j (by omega)
        rw [dX6_cornersOnWay_5l, if_neg (fun q => q2 ((nI_eq (by omega) (by omega)).mp q)), if_neg (show ¬ (6 : Int32) < nI (j + 1) from nI_nlt (a := 6) (by omega) (by decide)), nx_x hc hw hX q1 hb q4 q3 q5 q6, bd1_some, if_neg (nI_n9 (by omega)), nI_1]
        exact ih (j + 1) f (by omega) (by omega)
    have h := key L 0 FU (by omega) (show L < 2000 by omega)
    rw [g1] at h
    exact h
  · unfold d_X6_cornerOnWay
    rw [distance_s hc hw hX ha hb, bd1_some, if_neg (fun q => (dI_9.mp q) hf)]
    by_cases hKL : K ≤ L
    · rw [if_pos hKL]
      have key : ∀ m j f, j + m = K → m < f → dX6_cornerOnWay_20l (nI b) (nI K) A f (nI (p j)) (nI j) = some (nI (p K)) := by
        intro m
        induction m with
        | zero =>
          intro j f hj hm
          obtain ⟨f, rfl⟩ : ∃ f1, f = f1 + 1 := ⟨f - 1, by omega⟩
          have e : j = K := by omega
          subst e
          rw [dX6_cornerOnWay_20l, if_pos (le_t (Nat.le_refl _) (by omega))]
        | succ m ih =>
          intro j f hj hm
          obtain ⟨f, rfl⟩ : ∃ f1, f = f1 + 1 := ⟨f - 1, by omega⟩
          obtain ⟨q1, q2, q3, q4, q5, q6⟩ := g4 j (by omega)
          rw [dX6_cornerOnWay_20l, if_neg (le_f (by omega) (by omega)), if_neg (nI_n9 (by omega)), nx_x hc hw hX q1 hb q4 q3 q5 q6, bd1_some, nI_1]
          exact ih (j + 1) f (by omega) (by omega)
      have h := key K 0 FU (by omega) (show K < 2000 by omega)
      rw [g1] at h
      exact h
    · rw [if_neg hKL]
      have key : ∀ m j f, j + m = L → m + 5 < f → dX6_cornerOnWay_20l (nI b) (nI K) A f (nI (p j)) (nI j) = some (-9) := by
        intro m
        induction m with
        | zero =>
          intro j f hj hm
          obtain ⟨f, rfl⟩ : ∃ f1, f = f1 + 1 := ⟨f - 1, by omega⟩
          have e : j = L := by omega
          subst e
          rw [dX6_cornerOnWay_20l, if_neg (le_f (by omega) (by omega)), if_neg (nI_n9 (by have := pc j (Nat.le_refl _); omega)), g2, nx_b hc hw hX hb, bd1_some, nI_1]
          obtain ⟨f, rfl⟩ : ∃ f1, f = f1 + 1 := ⟨f - 1, by omega⟩
          rw [dX6_cornerOnWay_20l]
          by_cases z : nI K ≤ nI (j + 1)
          · rw [if_pos z]
          · rw [if_neg z, if_pos rfl]
        | succ m ih =>
          intro j f hj hm
          obtain ⟨f, rfl⟩ : ∃ f1, f = f1 + 1 := ⟨f - 1, by omega⟩
          obtain ⟨q1, q2, q3, q4, q5, q6⟩ := g4 j (by omega)
          rw [dX6_cornerOnWay_20l, if_neg (le_f (by omega) (by omega)), if_neg (nI_n9 (by omega)), nx_x hc hw hX q1 hb q4 q3 q5 q6, bd1_some, nI_1]
          exact ih (j + 1) f (by omega) (by omega)
      have h := key L 0 FU (by omega) (show L + 5 < 2000 by omega)
      rw [g1] at h
      exact h
  · have key : ∀ m j f, j + m = L → m < f → dX9_way_53l (nI b) (-1) M k f (nI (p j)) (nI (j + 1)) = k (nI b) (nI (L + 1)) := by
      intro m
      induction m with
      | zero =>
        intro j f hj hm
        obtain ⟨f, rfl⟩ : ∃ f1, f = f1 + 1 := ⟨f - 1, by omega⟩
        have e : j = L := by omega
        subst e
        rw [dX9_way_53l, g2, if_pos rfl]
      | succ m ih =>
        intro j f hj hm
        obtain ⟨f, rfl⟩ : ∃ f1, f = f1 + 1 := ⟨f - 1, by omega⟩
        obtain ⟨q1, q2, q3, q4, q5, q6⟩ := g4 j (by omega)
        rw [dX9_way_53l, if_neg (fun q => q2 ((nI_eq (by omega) (by omega)).mp q)), show (-1 : Int32) + 1 = 0 by decide, if_neg (nI_ne0 (by omega) (by omega)), ny_x hc hw hM q1 hb q4 q3 q5 q6, bd1_some, nI_1]
        exact ih (j + 1) f (by omega) (by omega)
    have h := key L 0 FU (by omega) (show L < 2000 by omega)
    rw [g1] at h
    exact h
  · by_cases hKL : K ≤ L
    · rw [if_pos hKL]
      have key : ∀ m j f, j + m = K → m < f → dX9_way_53l (nI b) (nI K) M k f (nI (p j)) (nI (j + 1)) = k (nI (p K)) (nI (K + 1)) := by
        intro m
        induction m with
        | zero =>
          intro j f hj hm
          obtain ⟨f, rfl⟩ : ∃ f1, f = f1 + 1 := ⟨f - 1, by omega⟩
          have e : j = K := by omega
          subst e
          rw [dX9_way_53l]
          by_cases z : nI (p j) = nI b
          · rw [if_pos z]
          · rw [if_neg z, if_pos (by rw [nI_1])]
        | succ m ih =>
          intro j f hj hm
          obtain ⟨f, rfl⟩ : ∃ f1, f = f1 + 1 := ⟨f - 1, by omega⟩
          obtain ⟨q1, q2, q3, q4, q5, q6⟩ := g4 j (by omega)
          rw [dX9_way_53l, if_neg (fun q => q2 ((nI_eq (by omega) (by omega)).mp q)), nI_1, if_neg (fun q => by have := (nI_eq (by omega) (by omega)).mp q; omega), ny_x hc hw hM q1 hb q4 q3 q5 q6, bd1_some, nI_1]
          exact ih (j + 1) f (by omega) (by omega)
      have h := key K 0 FU (by omega) (show K < 2000 by omega)
      rw [g1] at h
      exact h
    · rw [if_neg hKL]
      have key : ∀ m j f, j + m = L → m < f → dX9_way_53l (nI b) (nI K) M k f (nI (p j)) (nI (j + 1)) = k (nI b) (nI (L + 1)) := by
        intro m
        induction m with
        | zero =>
          intro j f hj hm
          obtain ⟨f, rfl⟩ : ∃ f1, f = f1 + 1 := ⟨f - 1, by omega⟩
          have e : j = L := by omega
          subst e
          rw [dX9_way_53l, g2, if_pos rfl]
        | succ m ih =>
          intro j f hj hm
          obtain ⟨f, rfl⟩ : ∃ f1, f = f1 + 1 := ⟨f - 1, by omega⟩
          obtain ⟨q1, q2, q3, q4, q5, q6⟩ := g4 j (by omega)
          rw [dX9_way_53l, if_neg (fun q => q2 ((nI_eq (by omega) (by omega)).mp q)), nI_1, if_neg (fun q => by have := (nI_eq (by omega) (by omega)).mp q; omega), ny_x hc hw hM q1 hb q4 q3 q5 q6, bd1_some, nI_1]
          exact ih (j + 1) f (by omega) (by omega)
      have h := key L 0 FU (by omega) (show L < 2000 by omega)
      rw [g1] at h
      exact h
theorem sim_way {n : Nat} {A M : Mem} (h : Rel n A M) (v1 v2 v3 : Int32) : OkE n (wM A (d_X8_way v1 v2 v3 A)) (wM M (d_X9_way v1 v2 v3 M)) := by
  obtain ⟨⟨c, k, kd, fr, to, cv, w, wk, s, hTw⟩, hSh, h6, h7, h8⟩ := id h
  obtain ⟨hT, hck, hXS, hXC, hXW, hMS, hMC, hMW, hs, hwk, hRd⟩ := id hTw
  have hc := hT.1
  have hw := hT.2.2.2.1
  unfold d_X8_way d_X9_way
  rw [Xhas_s (by omega) hXS.1, bd1_some, nC_s (by omega) hMS.1, bd1_some]
  by_cases r1 : rg v1 c
  · rw [bR_t r1, nb_t r1, if_neg one0, if_pos rfl, Xhas_s (by omega) hXS.1, bd1_some, nC_s (by omega) hMS.1, bd1_some]
    by_cases r2 : rg v2 c
    · obtain ⟨a, ha, rfl⟩ := rg_of (by omega) r1
      obtain ⟨b, hb, rfl⟩ := rg_of (by omega) r2
      rw [bR_t r2, nb_t r2, if_neg one0, if_pos rfl, in_s, bd1_some, Int32.toInt_toInt64]
      have e1 : (-1 : Int64).toInt = -1 := by decide
      have e5 : (5 : Int64).toInt = 5 := by decide
      have i1 : (-1 : Int32).toInt = -1 := by decide
      have i6 : (6 : Int32).toInt = 6 := by decide
      by_cases r3 : -1 ≤ v3.toInt ∧ v3.toInt ≤ 5
      · rw [bI_t (by omega), if_neg one0, if_neg (fun q => by have := Int32.lt_iff_toInt_lt.mp q; omega), if_pos (Int32.lt_iff_toInt_lt.mpr (by omega)), farFrom_s hc hMS ha hb, bd1_some]
        by_cases hf : fw w c a b < INF
        · obtain ⟨p, L, hL, q1, q2, q3, q4⟩ := way_fin hc hw hXS hMS ha hb hf
          rw [if_pos (show (0 : Int32) ≤ dI (fw w c a b) by rw [dI_f hf]; exact nI_pos' (fw_lt31 hw c a b))]
          by_cases e : v3 = -1
          · subst e
            rw [if_pos rfl, q1, bd1_some, q3, if_neg (show ¬ (0 : Int32) ≤ -1 by decide)]
            exact OkE.pp h _ rfl rfl
          · have : v3.toInt ≠ -1 := fun q => e (Int32.toInt_inj.mp (q.trans i1.symm))
            obtain ⟨K, hK, rfl⟩ : ∃ K : Nat, K < 6 ∧ v3 = nI K := rg_of (by omega) ⟨by omega, by omega⟩
            rw [if_neg e, q2 K (by omega), bd1_some, q4 K (by omega), if_pos (nI_pos' (by omega)), if_pos (nI_pos' (by omega)), nI_1]
            by_cases z : K ≤ L
            · rw [if_pos z, if_pos z, if_pos rfl]
              exact OkE.pp h _ rfl rfl
            · rw [if_neg z, if_neg z, if_neg (fun q => by have := (nI_eq (by omega) (by omega)).mp q; omega)]
              exact OkE.pp h _ rfl rfl
        · rw [if_neg (show ¬ (0 : Int32) ≤ dI (fw w c a b) by rw [dI_n hf]; decide)]
          by_cases e : v3 = -1
          · subst e
            have hab : a ≠ b := fun q => by subst q; rw [fw_aa] at hf; exact hf (by decide)
            rw [if_pos rfl]
            unfold d_X6_cornersOnWay
            rw [show dX6_cornersOnWay_5l (nI b) A FU 1 (nI a) = dX6_cornersOnWay_5l (nI b) A (1999 + 1) 1 (nI a) from rfl, dX6_cornersOnWay_5l, if_neg (fun q => hab ((nI_eq (by omega) (by omega)).mp q)), if_neg (by decide), nx_inf hc hw hXS ha hb hf, bd1_some, if_pos rfl, bd1_some]
            exact OkE.pp h _ rfl rfl
          · rw [if_neg e]
            unfold d_X6_cornerOnWay
            rw [distance_s hc hw hXS ha hb, bd1_some, if_pos (dI_9.mpr hf), bd1_some]
            exact OkE.pp h _ rfl rfl
      · rw [bI_f (by omega), if_pos rfl]
        by_cases z : v3 < -1
        · rw [if_pos z]; exact OkE.pp h (-2) rfl rfl
        · rw [if_neg z, if_neg (fun q => by
            have q1 := Int32.lt_iff_toInt_lt.mp q
            have : ¬ v3.toInt < -1 := fun q => z (Int32.lt_iff_toInt_lt.mpr (by omega))
            omega)]
          exact OkE.pp h (-2) rfl rfl
    · rw [bR_f r2, nb_f r2, if_pos rfl, if_neg one0]
      exact OkE.pp h (-1) rfl rfl
  · rw [bR_f r1, nb_f r1, if_pos rfl, if_neg one0]
    exact OkE.pp h (-1) rfl rfl
/-- how far the farthest of the first n corners is -/
def mx (c : Nat) (w : Nat → Nat → Nat) (a : Nat) : Nat → Nat
  | 0 => 0
  | n + 1 => max (mx c w a n) (fw w c a n)
theorem mx_le {c a : Nat} {w : Nat → Nat → Nat} (hw : ∀ x y, w x y ≤ 9) : ∀ n, mx c w a n ≤ INF
  | 0 => Nat.zero_le _
  | n + 1 => by
    have h1 := mx_le (c := c) (a := a) hw n
    have h2 := fw_le hw a n c
    show max _ _ ≤ INF
    omega
theorem mx_mono {c a : Nat} {w : Nat → Nat → Nat} (n : Nat) : ∀ m, mx c w a n ≤ mx c w a (n + m)
  | 0 => Nat.le_refl _
  | m + 1 => Nat.le_trans (mx_mono n m) (Nat.le_max_left _ _)
theorem Xfar_s {c a : Nat} {w : Nat → Nat → Nat} {A : Mem} (hc : c ≤ 6) (hw : ∀ x y, w x y ≤ 9) (hS : XS c w A) (ha : a < c) : d_X6_farthestFrom (nI a) A = some (dI (mx c w a c)) := by
  have key : ∀ m i f, i + m = c → m < f → mx c w a i < INF → dX6_farthestFrom_4l (nI a) A f (nI (mx c w a i)) (nI i) = some (dI (mx c w a c)) := by
    intro m
    induction m with
    | zero =>
      intro i f hi hf hx
      obtain ⟨f, rfl⟩ : ∃ f1, f = f1 + 1 := ⟨f - 1, by omega⟩
      have e : i = c := by omega
      subst e
      rw [dX6_farthestFrom_4l, hS.1, if_pos (le_t (Nat.le_refl _) (by omega)), dI_f hx]
    | succ m ih =>
      intro i f hi hf hx
      obtain ⟨f, rfl⟩ : ∃ f1, f = f1 + 1 := ⟨f - 1, by omega⟩
      have e : mx c w a (i + 1) = max (mx c w a i) (fw w c a i) := rfl
      have hl := fw_lt31 hw c a i
      rw [dX6_farthestFrom_4l, hS.1, if_neg (le_f (by omega) (by omega)), distance_s hc hw hS ha (show i < c by omega), bd1_some, nI_1]
      by_cases q : fw w c a i < INF
      · have h := ih (i + 1) f (by omega) (by omega) (by omega)
        rw [if_neg (fun z => (dI_9.mp z) q), dI_f q, lm_eq]
        rw [e] at h
        by_cases g : mx c w a i < fw w c a i
        · rw [if_pos (nI_lt g hl), show max (mx c w a i) (fw w c a i) = fw w c a i by omega] at *
          exact h
        · rw [if_neg (nI_nlt (by omega) (by rw [INF_v] at hx; omega)), show max (mx c w a i) (fw w c a i) = mx c w a i by omega] at *
          exact h
      · rw [if_pos (dI_9.mpr q)]
        have h2 := mx_mono (c := c) (w := w) (a := a) (i + 1) (c - (i + 1))
        rw [show i + 1 + (c - (i + 1)) = c by omega] at h2
        rw [dI_n (by omega)]
  exact key c 0 FU (by omega) (show c < 2000 by omega) (by show 0 < INF; decide)
theorem Mfar_s {c a : Nat} {w : Nat → Nat → Nat} {M : Mem} (hc : c ≤ 6) (hw : ∀ x y, w x y ≤ 9) (hS : MS c w M) (ha : a < c) : d_X9_farthest (nI a) M = some (dI (mx c w a c)) := by
  have key : ∀ m i f, i + m = c → m < f → dX9_farthest_4l (nI a) M f (dI (mx c w a i)) (nI i) = some (dI (mx c w a c)) := by
    intro m
    induction m with
    | zero =>
      intro i f hi hf
      obtain ⟨f, rfl⟩ : ∃ f1, f = f1 + 1 := ⟨f - 1, by omega⟩
      have e : i = c := by omega
      subst e
      rw [dX9_farthest_4l, hS.1, if_pos (le_t (Nat.le_refl _) (by omega))]
    | succ m ih =>
      intro i f hi hf
      obtain ⟨f, rfl⟩ : ∃ f1, f = f1 + 1 := ⟨f - 1, by omega⟩
      have e : mx c w a (i + 1) = max (mx c w a i) (fw w c a i) := rfl
      have hl := fw_lt31 hw c a i
      have h := ih (i + 1) f (by omega) (by omega)
      rw [e] at h
      rw [dX9_farthest_4l, hS.1, if_neg (le_f (by omega) (by omega)), farFrom_s hc hS ha (show i < c by omega), bd1_some, nI_1]
      by_cases q : mx c w a i < INF
      · rw [if_neg (fun z => (dI_neg.mp z) q)]
        by_cases g : fw w c a i < INF
        · rw [dI_f g, if_pos (nI_pos' hl), dI_f q]
          by_cases z : fw w c a i ≤ mx c w a i
          · rw [if_pos (le_t z (by rw [INF_v] at q; omega))]
            rw [show max (mx c w a i) (fw w c a i) = mx c w a i by omega, dI_f q] at h
            exact h
          · rw [if_neg (le_f (by omega) hl)]
            rw [show max (mx c w a i) (fw w c a i) = fw w c a i by omega, dI_f g] at h
            exact h
        · rw [dI_n g, if_neg (by decide)]
          rw [dI_n (show ¬ max (mx c w a i) (fw w c a i) < INF by omega)] at h
          exact h
      · rw [if_pos (dI_neg.mpr q)]
        rw [dI_n (show ¬ max (mx c w a i) (fw w c a i) < INF by omega)] at h
        exact h
  have h := key c 0 FU (by omega) (show c < 2000 by omega)
  exact h
/-- the middle so far: none, or a corner -/
def m1v (t : Option Nat) : Int32 := match t with | none => -9 | some x => nI x
def m2v (c : Nat) (w : Nat → Nat → Nat) (t : Option Nat) : Int32 := match t with | none => nI INF | some x => nI (mx c w x c)
def m3v (c : Nat) (w : Nat → Nat → Nat) (t : Option Nat) : Int32 := match t with | none => -9 | some x => nI (mx c w x c)
def mOK (c : Nat) (w : Nat → Nat → Nat) (t : Option Nat) : Prop := ∀ x, t = some x → x < c ∧ mx c w x c < INF
theorem mid_l {c : Nat} {w : Nat → Nat → Nat} {A M : Mem} (hc : c ≤ 6) (hw : ∀ x y, w x y ≤ 9) (hX : XS c w A) (hM : MS c w M) (v1 : Int32) (K : Int32 → Int32 → Option Int32) : ∀ m i f t, i + m = c → m < f → mOK c w t → ∃ u, mOK c w u ∧ dX6_middleCorner_8l A f (m1v t) (m2v c w t) (nI i) = some (m1v u) ∧ dX9_middle_32l v1 M K f (m1v t) (m3v c w t) (nI i) = K (m1v u) (m3v c w u) := by
  intro m
  induction m with
  | zero =>
    intro i f t hi hf ht
    obtain ⟨f, rfl⟩ : ∃ f1, f = f1 + 1 := ⟨f - 1, by omega⟩
    have e : i = c := by omega
    subst e
    exact ⟨t, ht, by rw [dX6_middleCorner_8l, hX.1, if_pos (le_t (Nat.le_refl _) (by omega))], by rw [dX9_middle_32l, hM.1, if_pos (le_t (Nat.le_refl _) (by omega))]⟩
  | succ m ih =>
    intro i f t hi hf ht
    obtain ⟨f, rfl⟩ : ∃ f1, f = f1 + 1 := ⟨f - 1, by omega⟩
    have hic : i < c := by omega
    have hm := mx_le (c := c) (a := i) hw c
    have hl : mx c w i c < 2 ^ 31 := Nat.lt_of_le_of_lt hm inf31
    rw [dX6_middleCorner_8l, hX.1, if_neg (le_f hic (by omega)), Xfar_s hc hw hX hic, bd1_some, dX9_middle_32l, hM.1, if_neg (le_f hic (by omega)), Mfar_s hc hw hM hic, bd1_some, nI_1]
    unfold dX9_middle_68j dX9_middle_64j dX9_middle_69j dX9_middle_82j
    simp only [if_neg one0, if_true, nI_1]
    by_cases q : mx c w i c < INF
    · rw [if_neg (fun z => (dI_9.mp z) q), if_neg (fun z => (dI_neg.mp z) q), dI_f q]
      have nw : mOK c w (some i) := fun x hx => by cases hx; exact ⟨hic, q⟩
      obtain ⟨u, u1, u2, u3⟩ := ih (i + 1) f (some i) (by omega) (by omega) nw
      cases t with
      | none =>
        refine ⟨u, u1, ?_, ?_⟩
        · rw [show m2v c w none = nI INF from rfl, if_neg (le_f q inf31)]; exact u2
        · rw [if_pos (show m1v none < (0 : Int32) by decide)]; exact u3
      | some x =>
        obtain ⟨t1, t2⟩ := ht x rfl
        have t3 : mx c w x c < 2 ^ 31 := Nat.lt_trans t2 inf31
        by_cases g : mx c w x c ≤ mx c w i c
        · obtain ⟨u, u1, u2, u3⟩ := ih (i + 1) f (some x) (by omega) (by omega) ht
          refine ⟨u, u1, ?_, ?_⟩
          · rw [show m2v c w (some x) = nI (mx c w x c) from rfl, if_pos (le_t g hl)]; exact u2
          · rw [if_neg (show ¬ m1v (some x) < (0 : Int32) from nI_pos (by omega)), show m3v c w (some x) = nI (mx c w x c) from rfl, if_pos (le_t g hl)]; exact u3
        · refine ⟨u, u1, ?_, ?_⟩
          · rw [show m2v c w (some x) = nI (mx c w x c) from rfl, if_neg (le_f (by omega) t3)]; exact u2
          · rw [if_neg (show ¬ m1v (some x) < (0 : Int32) from nI_pos (by omega)), show m3v c w (some x) = nI (mx c w x c) from rfl, if_neg (le_f (by omega) t3)]; exact u3
    · rw [if_pos (dI_9.mpr q), if_pos (dI_neg.mpr q)]
      exact ih (i + 1) f t (by omega) (by omega) ht
theorem sim_middle {n : Nat} {A M : Mem} (h : Rel n A M) (v1 : Int32) : OkE n (wM A (d_X8_middle v1 A)) (wM M (d_X9_middle v1 M)) := by
  obtain ⟨⟨c, k, kd, fr, to, cv, w, wk, s, hTw⟩, hSh, h6, h7, h8⟩ := id h
  obtain ⟨hT, hck, hXS, hXC, hXW, hMS, hMC, hMW, hs, hwk, hRd⟩ := id hTw
  have hc := hT.1
  have hk := hT.2.1
  have hw := hT.2.2.2.1
  unfold d_X8_middle d_X9_middle
  rw [hasTown_s hck hc hXS.1, bd1_some, hMC.1]
  by_cases z : k = 0
  · rw [nb_t z, if_pos rfl, z, if_pos nI_0]
    exact OkE.pp h (-3) rfl rfl
  · rw [nb_f z, if_neg one0, if_neg (nI_ne0 (by omega) (by omega)), inR_s (n := 2) (by decide) (by decide), bd1_some]
    by_cases r : rg v1 2
    · obtain ⟨c1, -, c2⟩ := ch_t (m := 1) r (by decide)
      rw [bR_t r, if_neg one0, if_neg c1, if_pos c2]
      obtain ⟨u, u1, u2, u3⟩ := mid_l hc hw hXS hMS v1 (fun (w11 : Int32) (w12 : Int32) => (if v1 = 0 then (some w11) else (some w12))) c 0 FU none (by omega) (show c < 2000 by omega) (fun x hx => by cases hx)
      unfold d_X6_middleCorner
      rw [show dX6_middleCorner_8l A FU (-9) 1000000 0 = some (m1v u) from u2, bd1_some, show dX9_middle_32l v1 M (fun (w11 : Int32) (w12 : Int32) => (if v1 = 0 then (some w11) else (some w12))) FU (-9) (-9) 0 = _ from u3]
      cases u with
      | none =>
        rw [if_pos (show m1v none = (-9 : Int32) from rfl)]
        by_cases e : v1 = 0
        · rw [if_pos e]; exact OkE.pp h _ rfl rfl
        · rw [if_neg e]; exact OkE.pp h _ rfl rfl
      | some x =>
        obtain ⟨t1, t2⟩ := u1 x rfl
        rw [if_neg (show ¬ m1v (some x) = (-9 : Int32) from nI_n9 (by omega))]
        by_cases e : v1 = 0
        · rw [if_pos e, if_pos e]; exact OkE.pp h _ rfl rfl
        · rw [if_neg e, if_neg e, show m1v (some x) = nI x from rfl, Xfar_s hc hw hXS t1, bd1_some, dI_f t2]
          exact OkE.pp h _ rfl rfl
    · rw [bR_f r, if_pos rfl, ch_f2 (m := 1) r (by decide)]
      exact OkE.pp h (-2) rfl rfl
