/-! errands, the reference's side -/
def lmx (D : Nat → Nat → Nat) : Nat → Nat → List Nat → Nat
  | _, a, [] => a
  | m, a, x :: q => lmx D (m + 1) (mxN a (D m x)) q
theorem lmx_le {D : Nat → Nat → Nat} {t : Nat} : ∀ {q : List Nat} {m a : Nat}, lmx D m a q ≤ t ↔ a ≤ t ∧ mxP D m q ≤ t
  | [], m, a => ⟨fun h => ⟨h, Nat.zero_le _⟩, fun h => h.1⟩
  | x :: q, m, a => by
    have ih := lmx_le (D := D) (t := t) (q := q) (m := m + 1) (a := mxN a (D m x))
    have k := mxN_le (a := a) (b := D m x) (t := t)
    show lmx D (m + 1) (mxN a (D m x)) q ≤ t ↔ a ≤ t ∧ (if D m x ≤ mxP D (m + 1) q then mxP D (m + 1) q else D m x) ≤ t
    rw [ih, k]
    split <;> omega
theorem lmx_mx {D : Nat → Nat → Nat} {q : List Nat} : lmx D 0 0 q = mxP D 0 q := by
  have h1 := (lmx_le (D := D) (t := lmx D 0 0 q) (q := q) (m := 0) (a := 0)).mp (Nat.le_refl _)
  have h2 := (lmx_le (D := D) (t := mxP D 0 q) (q := q) (m := 0) (a := 0)).mpr ⟨Nat.zero_le _, Nat.le_refl _⟩
  omega
theorem last_s {c k : Nat} {kd fr to cv : Nat → Nat} {w : Nat → Nat → Nat} {M : Mem} {sl p : List Nat} (hT : TOK c k kd fr to cv w) (hS : MS c w M) (hC : MC k kd fr to cv M) (hm : ∀ g, g ∈ sl → g < k) (hl : sl.length = k) (h15 : ∀ q, q < k → M 15 q = nI (to (sl.getD q 0))) (hp : p.length = k) (hpk : ∀ x, x ∈ p → x < k) (h16 : ∀ j, j < k → M 16 j = nI (p.getD j 0)) : d_X9_lastOne M = some (dI (mxP (DD c w kd fr to cv) 0 (p.map (fun x => sl.getD x 0)))) := by
  have hk := hT.2.1
  have hc := hT.1
  have hi := inf31
  have key : ∀ (q : List Nat) (i f a : Nat), i + q.length = k → q.length < f → (∀ x, x ∈ q → x < k) → (∀ j, j < q.length → M 16 (i + j) = nI (q.getD j 0)) → dX9_lastOne_4l M f (dI a) (nI i) = some (dI (lmx (DD c w kd fr to cv) i a (q.map (fun x => sl.getD x 0)))) := by
    intro q
    induction q with
    | nil =>
      intro i f a hi' hf hx h
      obtain ⟨f, rfl⟩ : ∃ f1, f = f1 + 1 := ⟨f - 1, by omega⟩
      have e : i = k := by simpa using hi'
      rw [e, dX9_lastOne_4l, hC.1, if_pos (le_t (Nat.le_refl _) (by omega))]
      rfl
    | cons x q ih =>
      intro i f a hi' hf hx h
      rw [List.length_cons] at hi' hf
      obtain ⟨f, rfl⟩ : ∃ f1, f = f1 + 1 := ⟨f - 1, by omega⟩
      have hik : i < k := by omega
      have hxk := hx x (List.mem_cons_self ..)
      have bi : inB (nI i) 6 = true := inB_t (show i < 6 by omega) (by decide)
      have bx : inB (nI x) 6 = true := inB_t (show x < 6 by omega) (by decide)
      have hxs : sl.getD x 0 < k := hm _ (by
        have e : sl.getD x 0 = sl[x]'(by omega) := by rw [List.getD_eq_getElem?_getD, List.getElem?_eq_getElem (by omega)]; rfl
        rw [e]; exact List.getElem_mem _)
      obtain ⟨f1, f2, f3, f4, f5⟩ := hT.2.2.1 i hik
      obtain ⟨-, -, t3, -⟩ := hT.2.2.1 (sl.getD x 0) hxs
      have hpn := paceN_in (kd := kd i) f4 f5
      have r0 := h 0 (by rw [List.length_cons]; omega)
      rw [Nat.add_zero] at r0
      have r0 : M 16 i = nI x := r0
      have ih' := ih (i + 1) f (mxN a (DD c w kd fr to cv i (sl.getD x 0))) (by omega) (by omega) (fun y hy => hx y (List.mem_cons_of_mem _ hy)) (fun j hj => by
        have := h (j + 1) (by rw [List.length_cons]; omega)
        rw [show i + (j + 1) = i + 1 + j by omega] at this
        exact this)
      have tgt : some (dI (lmx (DD c w kd fr to cv) i a ((x :: q).map (fun x => sl.getD x 0)))) = some (dI (lmx (DD c w kd fr to cv) (i + 1) (mxN a (DD c w kd fr to cv i (sl.getD x 0))) (q.map (fun x => sl.getD x 0)))) := rfl
      rw [tgt, ← ih']
      have j58 : ∀ d, d = DD c w kd fr to cv i (sl.getD x 0) → dX9_lastOne_58j (dX9_lastOne_4l M f) (dI a) (nI i) (dI d) M = dX9_lastOne_4l M f (dI (mxN a (DD c w kd fr to cv i (sl.getD x 0)))) (nI (i + 1)) := by
        intro d hd
        rw [← hd]
        unfold dX9_lastOne_58j
        rw [nI_1]
        by_cases qa : a < INF
        · rw [if_neg (fun z => (dI_neg.mp z) qa)]
          by_cases qd : d < INF
          · rw [if_pos (show (0 : Int32) ≤ dI d by rw [dI_f qd]; exact nI_le (a := 0) (by omega) (by omega)), dI_f qa, dI_f qd]
            by_cases z : d ≤ a
            · rw [if_pos (le_t z (by omega)), show mxN a d = a by unfold mxN; rw [if_neg (by omega)], dI_f qa]
            · rw [if_neg (le_f (by omega) (by omega)), show mxN a d = d by unfold mxN; rw [if_pos (by omega)], dI_f qd]
          · rw [if_neg (show ¬ (0 : Int32) ≤ dI d by rw [dI_n qd]; decide), show mxN a d = d by unfold mxN; rw [if_pos (by omega)], dI_n qd]
        · rw [if_pos (dI_neg.mpr qa), dI_n (show ¬ mxN a d < INF by unfold mxN; split <;> omega)]
      rw [dX9_lastOne_4l, hC.1, if_neg (le_f hik (by omega)), if_pos bi, if_pos bi, cl (j := i) (by omega), r0, if_pos bx, cl (j := x) (by omega), (hC.2 i hik).2.1, h15 x hxk, farFrom_s hc hS f2 t3, bd1_some]
      by_cases qf : fw w c (fr i) (to (sl.getD x 0)) < INF
      · have h5 := fw_576 hc hT.2.2.2.1 qf
        have hdd : DD c w kd fr to cv i (sl.getD x 0) = (fw w c (fr i) (to (sl.getD x 0)) + paceN (kd i) (cv i) - 1) / paceN (kd i) (cv i) := by unfold DD; rw [if_pos qf]
        have hlt : (fw w c (fr i) (to (sl.getD x 0)) + paceN (kd i) (cv i) - 1) / paceN (kd i) (cv i) ≤ 1000 := Nat.le_trans (Nat.div_le_self _ _) (by omega)
        rw [dI_f qf, if_pos (show (0 : Int32) ≤ nI (fw w c (fr i) (to (sl.getD x 0))) from nI_le (a := 0) (Nat.zero_le _) (by omega)), Mpace_s hT hik (hC.2 i hik).1 (hC.2 i hik).2.2.2, bd1_some, bd1_some, if_neg (nI_ne0 (by omega) (by omega)), nI_add, show nI (fw w c (fr i) (to (sl.getD x 0)) + paceN (kd i) (cv i)) - (1 : Int32) = nI (fw w c (fr i) (to (sl.getD x 0)) + paceN (kd i) (cv i) - 1) from pk_sub (b := 1) (by omega), pk_div (by omega) (by omega) (by omega)]
        have z := j58 _ rfl
        rw [hdd] at z
        rw [dI_f (show (fw w c (fr i) (to (sl.getD x 0)) + paceN (kd i) (cv i) - 1) / paceN (kd i) (cv i) < INF by rw [INF_v]; omega)] at z
        rw [hdd]
        exact z
      · have hdd : DD c w kd fr to cv i (sl.getD x 0) = INF := by unfold DD; rw [if_neg qf]
        rw [dI_n qf, if_neg (show ¬ (0 : Int32) ≤ -9 by decide)]
        have z := j58 _ rfl
        rw [hdd] at z
        rw [hdd]
        exact z
  have h := key p 0 FU 0 (by omega) (show p.length < 2000 by omega) hpk (fun j hj => by rw [Nat.zero_add]; exact h16 j (by omega))
  rw [lmx_mx] at h
  exact h
theorem sort_s {c k : Nat} {kd fr to cv : Nat → Nat} {w : Nat → Nat → Nat} {M : Mem} (hT : TOK c k kd fr to cv w) (hS : M 0 1 = nI c) (hC : MC k kd fr to cv M) : ∃ M1 sl, d_X9_sortsCorners M = some M1 ∧ (∀ q, q ≠ 15 → q ≠ 16 → M1 q = M q) ∧ srtd k to sl ∧ sl.length = k ∧ ∀ q, q < k → M1 15 q = nI (to (sl.getD q 0)) ∧ M1 16 q = nI q := by
  have hk := hT.2.1
  have hc := hT.1
  let St : Nat → Nat → List Nat → Mem → Prop := fun a i L M1 => (∀ q, q ≠ 15 → q ≠ 16 → M1 q = M q) ∧ L.Pairwise (fun x y => to x < to y ∨ to x = to y ∧ x < y) ∧ (∀ g, g ∈ L ↔ g < k ∧ (to g < a ∨ to g = a ∧ g < i)) ∧ ∀ q, q < L.length → M1 15 q = nI (to (L.getD q 0)) ∧ M1 16 q = nI q
  have len : ∀ a i L M1, St a i L M1 → L.length ≤ k := fun a i L M1 h => pig_le (h.2.1.imp (fun z q => by subst q; omega)) (fun g hg => ((h.2.2.1 g).mp hg).1)
  have inn : ∀ a, a < c → ∀ (K : Int32 → Mem → Option Mem) m i f L M1, i + m = k → m < f → St a i L M1 → ∃ L' M2, dX9_sortsCorners_14l (nI a) K f (nI L.length) (nI i) M1 = K (nI L'.length) M2 ∧ St a k L' M2 := by
    intro a ha K m
    induction m with
    | zero =>
      intro i f L M1 hi hf h
      obtain ⟨f, rfl⟩ : ∃ f1, f = f1 + 1 := ⟨f - 1, by omega⟩
      have e : i = k := by omega
      rw [e] at h ⊢
      exact ⟨L, M1, by rw [dX9_sortsCorners_14l, h.1 0 (by decide) (by decide), hC.1, if_pos (le_t (Nat.le_refl _) (by omega))], h⟩
    | succ m ih =>
      intro i f L M1 hi hf h
      obtain ⟨f, rfl⟩ : ∃ f1, f = f1 + 1 := ⟨f - 1, by omega⟩
      have hik : i < k := by omega
      obtain ⟨h1, h2, h3, h4⟩ := id h
      obtain ⟨-, -, t3, -⟩ := hT.2.2.1 i hik
      have bi : inB (nI i) 6 = true := inB_t (show i < 6 by omega) (by decide)
      rw [dX9_sortsCorners_14l, h1 0 (by decide) (by decide), hC.1, if_neg (le_f hik (by omega)), if_pos bi, cl (j := i) (by omega), h1 5 (by decide) (by decide), (hC.2 i hik).2.2.1, nI_1]
      by_cases e : to i = a
      · have st : St a (i + 1) (L ++ [i]) (mu (mu M1 15 L.length (nI a)) 16 L.length (nI L.length)) := by
          refine ⟨fun q q1 q2 => by rw [mu_ne q2, mu_ne q1]; exact h1 q q1 q2, List.pairwise_append.mpr ⟨h2, List.pairwise_singleton _ _, fun x hx y hy => ?_⟩, fun g => ?_, fun q hq => ?_⟩
          · have hy : y = i := by simpa using hy
            rw [hy]
            have := (h3 x).mp hx
            omega
          · rw [List.mem_append, h3, List.mem_singleton]
            constructor
            · rintro (⟨g1, g2⟩ | g1)
              · exact ⟨g1, by omega⟩
              · subst g1; exact ⟨hik, by omega⟩
            · rintro ⟨g1, g2⟩
              by_cases z : g = i
              · exact Or.inr z
              · exact Or.inl ⟨g1, by omega⟩
          · rw [List.length_append, List.length_singleton] at hq
            rw [mu_ne (show (15 : Nat) ≠ 16 by decide), mu_eq, mu_eq, mu_ne (show (16 : Nat) ≠ 15 by decide)]
            by_cases z : q = L.length
            · rw [z, upd_s, upd_s]
              refine ⟨?_, rfl⟩
              rw [List.getD_eq_getElem?_getD, List.getElem?_append_right (Nat.le_refl _), Nat.sub_self]
              show nI a = nI (to i)
              rw [e]
            · rw [upd_n z, upd_n z, List.getD_eq_getElem?_getD, List.getElem?_append_left (by omega), ← List.getD_eq_getElem?_getD]
              exact h4 q (by omega)
        have hl := len _ _ _ _ st
        rw [List.length_append, List.length_singleton] at hl
        have bl : inB (nI L.length) 6 = true := inB_t (show L.length < 6 by omega) (by decide)
        obtain ⟨L', M2, k1, k2⟩ := ih (i + 1) f (L ++ [i]) _ (by omega) (by omega) st
        rw [List.length_append, List.length_singleton] at k1
        rw [if_pos (by rw [e]), if_pos bl, cl (j := L.length) (by omega), lm_eq, if_pos bl, lm_eq, nI_1]
        exact ⟨L', M2, k1, k2⟩
      · rw [if_neg (fun z => e ((nI_eq (by omega) (by omega)).mp z)), nI_1]
        refine ih (i + 1) f L M1 (by omega) (by omega) ⟨h1, h2, fun g => ?_, h4⟩
        rw [h3]
        constructor
        · rintro ⟨g1, g2⟩; exact ⟨g1, by omega⟩
        · rintro ⟨g1, g2⟩
          refine ⟨g1, ?_⟩
          by_cases z : g = i
          · subst z; omega
          · omega
  have out : ∀ m a f L M1, a + m = c → m < f → St a 0 L M1 → ∃ L' M2, dX9_sortsCorners_4l f (nI L.length) (nI a) M1 = some M2 ∧ St c 0 L' M2 := by
    intro m
    induction m with
    | zero =>
      intro a f L M1 ha hf h
      obtain ⟨f, rfl⟩ : ∃ f1, f = f1 + 1 := ⟨f - 1, by omega⟩
      have e : a = c := by omega
      rw [e] at h ⊢
      exact ⟨L, M1, by rw [dX9_sortsCorners_4l, h.1 0 (by decide) (by decide), hS, if_pos (le_t (Nat.le_refl _) (by omega))], h⟩
    | succ m ih =>
      intro a f L M1 ha hf h
      obtain ⟨f, rfl⟩ : ∃ f1, f = f1 + 1 := ⟨f - 1, by omega⟩
      obtain ⟨L2, M2, k1, k2⟩ := inn a (by omega) (fun w6 M7 => ((dX9_sortsCorners_4l f) w6 (nI a + (1 : Int32)) M7)) k 0 FU L M1 (by omega) (show k < 2000 by omega) h
      obtain ⟨L3, M3, l1, l2⟩ := ih (a + 1) f L2 M2 (by omega) (by omega) ⟨k2.1, k2.2.1, fun g => by rw [k2.2.2.1]; constructor <;> (rintro ⟨g1, g2⟩; exact ⟨g1, by omega⟩), k2.2.2.2⟩
      refine ⟨L3, M3, ?_, l2⟩
      rw [dX9_sortsCorners_4l, h.1 0 (by decide) (by decide), hS, if_neg (le_f (by omega) (by omega))]
      refine k1.trans ?_
      rw [nI_1]; exact l1
  obtain ⟨L, M1, k1, k2⟩ := out c 0 FU [] M (by omega) (show c < 2000 by omega) ⟨fun _ _ _ => rfl, List.Pairwise.nil, fun g => ⟨(fun h => by cases h), fun h => by omega⟩, fun q hq => absurd hq (Nat.not_lt_zero _)⟩
  have hmem : ∀ g, g ∈ L ↔ g < k := fun g => (k2.2.2.1 g).trans ⟨fun h => h.1, fun h => ⟨h, Or.inl (hT.2.2.1 g h).2.2.1⟩⟩
  have hlen : L.length = k := Nat.le_antisymm (len _ _ _ _ k2) (pig_ge (fun g hg => (hmem g).mpr hg))
  exact ⟨M1, L, k1, k2.1, ⟨k2.2.1, hmem⟩, hlen, fun q hq => k2.2.2.2 q (by omega)⟩
