/-! readings: calves, kinds; odds -/
def asB (g : Nat → Bool) : Nat → Bool
  | 0 => true
  | n + 1 => asB g n && g n
theorem asB_f {g : Nat → Bool} {i : Nat} (h : g i = false) : ∀ m, asB g (i + 1 + m) = false
  | 0 => by
    show (asB g i && g i) = false
    rw [h]; simp
  | m + 1 => by
    show (asB g (i + 1 + m) && g (i + 1 + m)) = false
    rw [asB_f h m]; rfl
theorem Mpace_g {x kd cv : Nat} {M : Mem} (hx : x < 6) (h2 : kd ≤ 2) (h1 : 1 ≤ cv) (h9 : cv ≤ 9) (h3 : M 3 x = nI kd) (h6 : M 6 x = nI cv) : d_X9_paceOf (nI x) M = some (nI (paceN kd cv)) := by
  unfold d_X9_paceOf paceN
  have b6 : inB (nI x) 6 = true := inB_t hx (by decide)
  rw [if_pos b6, cl (by omega), lm_eq, if_pos b6, if_pos b6, if_pos b6, h3, h6, nI_1]
  by_cases a : kd = 0
  · rw [a, if_pos nI_0, if_pos rfl]
  · rw [if_neg (nI_ne0 (by omega) (by omega)), if_neg a]
    by_cases b : kd = 1
    · rw [b, if_pos (show nI 1 = (1 : Int32) from rfl), if_pos rfl]
    · rw [if_neg (fun e => b ((nI_eq (by omega) (by omega)).mp (e.trans (show (1 : Int32) = nI 1 from rfl)))), if_neg b, if_neg two0, show (2 : Int32) = nI 2 from rfl, pk_div (by omega) (by decide) (by decide)]
theorem areSo_s {r : Nat} {wh dy vl q : Nat → Nat} {M : Mem} (hr : r ≤ 8) (h0 : M 0 30 = nI r) (h : ∀ j, j < r → dy j ≤ 99 ∧ vl j ≤ 999 ∧ q j ≤ 10 ∧ M 18 j = nI (wh j) ∧ M 19 j = nI (dy j) ∧ M 20 j = nI (vl j) ∧ d_X9_paceOf (nI (wh j)) M = some (nI (q j))) : d_X9_areSo M = some (bI (asB (fun j => decide (q j * dy j = vl j)) r = true)) := by
  have zero : ∀ m i f, i + m = r → m < f → dX9_areSo_4l M f 0 (nI i) = some 0 := by
    intro m
    induction m with
    | zero =>
      intro i f hi hf
      obtain ⟨f, rfl⟩ : ∃ f1, f = f1 + 1 := ⟨f - 1, by omega⟩
      have e : i = r := by omega
      subst e
      rw [dX9_areSo_4l, h0, if_pos (le_t (Nat.le_refl _) (by omega)), if_pos (by decide)]
    | succ m ih =>
      intro i f hi hf
      obtain ⟨f, rfl⟩ : ∃ f1, f = f1 + 1 := ⟨f - 1, by omega⟩
      rw [dX9_areSo_4l, h0, if_neg (le_f (by omega) (by omega)), if_pos rfl]
      unfold dX9_areSo_46j
      rw [nI_1]
      exact ih (i + 1) f (by omega) (by omega)
  have key : ∀ m i f, i + m = r → m < f → asB (fun j => decide (q j * dy j = vl j)) i = true → dX9_areSo_4l M f 1 (nI i) = some (bI (asB (fun j => decide (q j * dy j = vl j)) r = true)) := by
    intro m
    induction m with
    | zero =>
      intro i f hi hf ht
      obtain ⟨f, rfl⟩ : ∃ f1, f = f1 + 1 := ⟨f - 1, by omega⟩
      have e : i = r := by omega
      subst e
      rw [dX9_areSo_4l, h0, if_pos (le_t (Nat.le_refl _) (by omega)), if_pos (by decide), bI_t ht]
    | succ m ih =>
      intro i f hi hf ht
      obtain ⟨f, rfl⟩ : ∃ f1, f = f1 + 1 := ⟨f - 1, by omega⟩
      obtain ⟨a1, a2, a3, a4, a5, a6, a7⟩ := h i (by omega)
      have b8 : inB (nI i) 8 = true := inB_t (show i < 8 by omega) (by decide)
      have hm : q i * dy i ≤ 10 * 99 := Nat.mul_le_mul a3 a1
      rw [dX9_areSo_4l, h0, if_neg (le_f (by omega) (by omega)), if_neg one0, if_pos b8, if_pos b8, cl (by omega), a4, a7, bd1_some, if_pos b8, a5, a6, pk_mul, nI_1, Nat.mul_comm]
      by_cases e : q i * dy i = vl i
      · rw [if_pos (by rw [e])]
        refine ih (i + 1) f (by omega) (by omega) ?_
        show (asB _ i && decide (q i * dy i = vl i)) = true
        rw [ht, decide_eq_true e]; rfl
      · rw [if_neg (fun z => e ((nI_eq (by omega) (by omega)).mp z))]
        unfold dX9_areSo_46j
        rw [nI_1, zero m (i + 1) f (by omega) (by omega)]
        have hz := asB_f (g := fun j => decide (q j * dy j = vl j)) (i := i) (decide_eq_false e) m
        rw [show i + 1 + m = r by omega] at hz
        rw [hz, bI_f (by decide)]
  exact key r 0 FU (by omega) (show r < 2000 by omega) rfl
theorem allSo_s {c k i P r : Nat} {kd fr to cv wh dy vl : Nat → Nat} {w : Nat → Nat → Nat} {A : Mem} (hT : TOK c k kd fr to cv w) (hC : XC 6 k kd fr to cv A) (hi : i < k) (hP : P ≤ 10) (hr : r ≤ 8) (h0 : A 25 3 = nI r) (h : ∀ j, j < r → wh j < k ∧ dy j ≤ 99 ∧ vl j ≤ 999 ∧ A 26 j = nI (wh j) ∧ A 27 j = nI (dy j) ∧ A 28 j = nI (vl j)) : d_X3_allAreSo 6 (nI i) (nI P) A = some (bI (asB (fun j => decide ((if wh j = i then P else paceN (kd (wh j)) (cv (wh j))) * dy j = vl j)) r = true)) := by
  have hk := hT.2.1
  have key : ∀ m x f, x + m = r → m < f → asB (fun j => decide ((if wh j = i then P else paceN (kd (wh j)) (cv (wh j))) * dy j = vl j)) x = true → dX3_allAreSo_3l 6 (nI i) (nI P) A f (nI x) = some (bI (asB (fun j => decide ((if wh j = i then P else paceN (kd (wh j)) (cv (wh j))) * dy j = vl j)) r = true)) := by
    intro m
    induction m with
    | zero =>
      intro x f hx hf ht
      obtain ⟨f, rfl⟩ : ∃ f1, f = f1 + 1 := ⟨f - 1, by omega⟩
      have e : x = r := by omega
      subst e
      rw [dX3_allAreSo_3l, h0, if_pos (le_t (Nat.le_refl _) (by omega)), bI_t ht]
    | succ m ih =>
      intro x f hx hf ht
      obtain ⟨f, rfl⟩ : ∃ f1, f = f1 + 1 := ⟨f - 1, by omega⟩
      obtain ⟨a1, a2, a3, a4, a5, a6⟩ := h x (by omega)
      have b8 : inB (nI x) 8 = true := inB_t (show x < 8 by omega) (by decide)
      have c6 : inB (nI (wh x)) 6 = true := inB_t (show wh x < 6 by omega) (by decide)
      obtain ⟨t1, -, -, t4, t5⟩ := hT.2.2.1 (wh x) a1
      have hpn := (paceN_in (kd := kd (wh x)) t4 t5).2
      have go : ∀ q, q ≤ 10 → q = (if wh x = i then P else paceN (kd (wh x)) (cv (wh x))) → dX3_allAreSo_52j (dX3_allAreSo_3l 6 (nI i) (nI P) A f) 6 (nI i) (nI P) (nI x) (nI q) A = some (bI (asB (fun j => decide ((if wh j = i then P else paceN (kd (wh j)) (cv (wh j))) * dy j = vl j)) r = true)) := by
        intro q hq hqe
        have hm : q * dy x ≤ 10 * 99 := Nat.mul_le_mul hq a2
        unfold dX3_allAreSo_52j
        rw [if_pos b8, if_pos b8, cl (by omega), a5, a6, pk_mul, nI_1]
        by_cases e : q * dy x = vl x
        · rw [if_pos (by rw [e])]
          refine ih (x + 1) f (by omega) (by omega) ?_
          show (asB _ x && decide ((if wh x = i then P else paceN (kd (wh x)) (cv (wh x))) * dy x = vl x)) = true
          rw [ht, ← hqe, decide_eq_true e]; rfl
        · rw [if_neg (fun z => e ((nI_eq (by omega) (by omega)).mp z))]
          have hz := asB_f (g := fun j => decide ((if wh j = i then P else paceN (kd (wh j)) (cv (wh j))) * dy j = vl j)) (i := x) (by show decide ((if wh x = i then P else paceN (kd (wh x)) (cv (wh x))) * dy x = vl x) = false; rw [← hqe]; exact decide_eq_false e) m
          rw [show x + 1 + m = r by omega] at hz
          rw [hz, bI_f (by decide)]
      rw [dX3_allAreSo_3l, h0, if_neg (le_f (by omega) (by omega)), if_pos b8, cl (by omega), lm_eq, a4, Chas_s (by omega) hC.1, bd1_some, bR_t ((rg_nI (by omega)).mpr a1), if_neg one0]
      by_cases e : wh x = i
      · rw [if_pos (by rw [e])]
        exact go P hP (by rw [if_pos e])
      · rw [if_neg (fun z => e ((nI_eq (by omega) (by omega)).mp z)), if_pos c6, cl (by omega), Fpace_s hT hC a1, bd1_some]
        exact go _ hpn (by rw [if_neg e])
  exact key r 0 FU (by omega) (show r < 2000 by omega) rfl
theorem or0 (x : Int32) : x ||| (0 : Int32) = x := by simp
theorem sim_calves {n : Nat} {A M : Mem} (h : Rel n A M) (v1 : Int32) : OkE n (wM A (d_X8_calves v1 A)) (d_X9_calves v1 M) := by
  obtain ⟨⟨c, k, kd, fr, to, cv, w, wk, s, hTw⟩, hSh, h6, h7, h8⟩ := id h
  obtain ⟨hT, hck, hXS, hXC, hXW, hMS, hMC, hMW, hs, hwk, r, wh, dy, vl, hr, hr1, hr2, hr3⟩ := id hTw
  have hk := hT.2.1
  unfold d_X8_calves d_X9_calves
  rw [Chas_s (by omega) hXC.1, bd1_some, nF_s (by omega) hMC.1, bd1_some]
  by_cases r1 : rg v1 k
  · obtain ⟨i, hi, rfl⟩ := rg_of (by omega) r1
    obtain ⟨f1, f2, f3, f4, f5⟩ := hT.2.2.1 i hi
    have b6 : inB (nI i) 6 = true := inB_t (show i < 6 by omega) (by decide)
    rw [bR_t r1, nb_t r1, if_neg one0, if_pos rfl, if_pos b6, if_pos b6, cl (by omega), lm_eq, lm_eq, (hXC.2 i hi).1, (hMC.2 i hi).2.2.2]
    have key : ∀ m v f acc u, v + m = 10 → 1 ≤ v → m < f → ∃ x, dX8_calves_31l (nI i) (nI (kd i)) A f acc (nI v) = some x ∧ dX9_calves_22l (nI i) (nI (cv i)) (fun (w10 : Int32) (M11 : Mem) => (if inB (nI i) 6 = true then (lm (mu M11 6 i (nI (cv i))) (fun (M12 : Mem) => (some (w10, M12)))) else none)) f acc (nI v) (mu M 6 i u) = some (x, mu M 6 i (nI (cv i))) := by
      intro m
      induction m with
      | zero =>
        intro v f acc u hv h1 hf
        obtain ⟨f, rfl⟩ : ∃ f1, f = f1 + 1 := ⟨f - 1, by omega⟩
        have e : v = 10 := by omega
        subst e
        exact ⟨acc, by rw [dX8_calves_31l, if_pos (by decide)], by rw [dX9_calves_22l, if_pos (by decide), if_pos b6, lm_eq, mu_mu]⟩
      | succ m ih =>
        intro v f acc u hv h1 hf
        obtain ⟨f, rfl⟩ : ∃ f1, f = f1 + 1 := ⟨f - 1, by omega⟩
        have hpn := (paceN_in (kd := kd i) h1 (show v ≤ 9 by omega)).2
        have hx := allSo_s (P := paceN (kd i) v) hT hXC hi hpn hr hr1 (fun j hj => by obtain ⟨a1, a2, a3, a4, a5, a6, -⟩ := hr3 j hj; exact ⟨a1, a2, a3, a4, a5, a6⟩)
        have hm := areSo_s (M := mu M 6 i (nI v)) (q := fun j => if wh j = i then paceN (kd i) v else paceN (kd (wh j)) (cv (wh j))) hr (by rw [mu_ne (by decide)]; exact hr2) (fun j hj => by
          obtain ⟨a1, a2, a3, -, -, -, a7, a8, a9⟩ := hr3 j hj
          obtain ⟨t1, -, -, t4, t5⟩ := hT.2.2.1 (wh j) a1
          obtain ⟨g0, -, -, g3⟩ := hMC.2 (wh j) a1
          refine ⟨a2, a3, ?_, by rw [mu_ne (by decide)]; exact a7, by rw [mu_ne (by decide)]; exact a8, by rw [mu_ne (by decide)]; exact a9, ?_⟩
          · show (if wh j = i then paceN (kd i) v else paceN (kd (wh j)) (cv (wh j))) ≤ 10
            split
            · exact hpn
            · exact (paceN_in t4 t5).2
          · show _ = some (nI (if wh j = i then paceN (kd i) v else paceN (kd (wh j)) (cv (wh j))))
            by_cases e : wh j = i
            · rw [if_pos e, e]
              exact Mpace_g (by omega) f1 h1 (by omega) (by rw [mu_ne (by decide)]; exact (hMC.2 i hi).1) (by rw [mu_eq, upd_s])
            · rw [if_neg e]
              exact Mpace_g (by omega) t1 t4 t5 (by rw [mu_ne (by decide)]; exact g0) (by rw [mu_eq, upd_n e]; exact g3))
        rw [dX8_calves_31l, if_neg (show ¬ (9 : Int32) < nI v from nI_nlt (a := 9) (by omega) (by decide)), Xpace_s f1 h1 (by omega), bd1_some, hx, bd1_some, dX9_calves_22l, if_neg (show ¬ (10 : Int32) ≤ nI v from nI_ge (b := 10) (by omega) (by decide)), if_pos b6, cl (by omega), lm_eq (mu (mu M 6 i u) 6 i (nI v)), mu_mu, hm, bd1_some, lm_eq, lm_eq, lm_eq, or0, nI_1]
        by_cases e : asB (fun j => decide ((if wh j = i then paceN (kd i) v else paceN (kd (wh j)) (cv (wh j))) * dy j = vl j)) r = true
        · rw [bI_t e, if_neg one0, if_neg one0]
          exact ih (v + 1) f _ _ (by omega) (by omega) (by omega)
        · rw [bI_f e, if_pos rfl, if_pos rfl]
          exact ih (v + 1) f _ _ (by omega) (by omega) (by omega)
    obtain ⟨x, g1, g2⟩ := key 9 1 FU 0 (nI (cv i)) (by omega) (by omega) (by decide)
    rw [mu_id (hMC.2 i hi).2.2.2] at g2
    exact OkE.pe h x g1 g2
  · rw [bR_f r1, nb_f r1, if_pos rfl, if_neg one0]
    exact OkE.pe h (-1) rfl rfl
theorem sim_kinds {n : Nat} {A M : Mem} (h : Rel n A M) (v1 : Int32) : OkE n (wM A (d_X8_kinds v1 A)) (d_X9_kinds v1 M) := by
  obtain ⟨⟨c, k, kd, fr, to, cv, w, wk, s, hTw⟩, hSh, h6, h7, h8⟩ := id h
  obtain ⟨hT, hck, hXS, hXC, hXW, hMS, hMC, hMW, hs, hwk, r, wh, dy, vl, hr, hr1, hr2, hr3⟩ := id hTw
  have hk := hT.2.1
  unfold d_X8_kinds d_X9_kinds
  rw [Chas_s (by omega) hXC.1, bd1_some, nF_s (by omega) hMC.1, bd1_some]
  by_cases r1 : rg v1 k
  · obtain ⟨i, hi, rfl⟩ := rg_of (by omega) r1
    obtain ⟨f1, f2, f3, f4, f5⟩ := hT.2.2.1 i hi
    have b6 : inB (nI i) 6 = true := inB_t (show i < 6 by omega) (by decide)
    rw [bR_t r1, nb_t r1, if_neg one0, if_pos rfl, if_pos b6, if_pos b6, cl (by omega), lm_eq, lm_eq, (hXC.2 i hi).2.2.2, (hMC.2 i hi).1]
    have key : ∀ m v f acc u, v + m = 3 → m < f → ∃ x, dX8_kinds_31l (nI i) (nI (cv i)) A f acc (nI v) = some x ∧ dX9_kinds_22l (nI i) (nI (kd i)) (fun (w10 : Int32) (M11 : Mem) => (if inB (nI i) 6 = true then (lm (mu M11 3 i (nI (kd i))) (fun (M12 : Mem) => (some (w10, M12)))) else none)) f acc (nI v) (mu M 3 i u) = some (x, mu M 3 i (nI (kd i))) := by
      intro m
      induction m with
      | zero =>
        intro v f acc u hv hf
        obtain ⟨f, rfl⟩ : ∃ f1, f = f1 + 1 := ⟨f - 1, by omega⟩
        have e : v = 3 := by omega
        subst e
        exact ⟨acc, by rw [dX8_kinds_31l, if_pos (by decide)], by rw [dX9_kinds_22l, if_pos (by decide), if_pos b6, lm_eq, mu_mu]⟩
      | succ m ih =>
        intro v f acc u hv hf
        obtain ⟨f, rfl⟩ : ∃ f1, f = f1 + 1 := ⟨f - 1, by omega⟩
        have hpn := (paceN_in (kd := v) f4 f5).2
        have hx := allSo_s (P := paceN v (cv i)) hT hXC hi hpn hr hr1 (fun j hj => by obtain ⟨a1, a2, a3, a4, a5, a6, -⟩ := hr3 j hj; exact ⟨a1, a2, a3, a4, a5, a6⟩)
        have hm := areSo_s (M := mu M 3 i (nI v)) (q := fun j => if wh j = i then paceN v (cv i) else paceN (kd (wh j)) (cv (wh j))) hr (by rw [mu_ne (by decide)]; exact hr2) (fun j hj => by
          obtain ⟨a1, a2, a3, -, -, -, a7, a8, a9⟩ := hr3 j hj
          obtain ⟨t1, -, -, t4, t5⟩ := hT.2.2.1 (wh j) a1
          obtain ⟨g0, -, -, g3⟩ := hMC.2 (wh j) a1
          refine ⟨a2, a3, ?_, by rw [mu_ne (by decide)]; exact a7, by rw [mu_ne (by decide)]; exact a8, by rw [mu_ne (by decide)]; exact a9, ?_⟩
          · show (if wh j = i then paceN v (cv i) else paceN (kd (wh j)) (cv (wh j))) ≤ 10
            split
            · exact hpn
            · exact (paceN_in t4 t5).2
          · show _ = some (nI (if wh j = i then paceN v (cv i) else paceN (kd (wh j)) (cv (wh j))))
            by_cases e : wh j = i
            · rw [if_pos e, e]
              exact Mpace_g (by omega) (by omega) f4 f5 (by rw [mu_eq, upd_s]) (by rw [mu_ne (by decide)]; exact (hMC.2 i hi).2.2.2)
            · rw [if_neg e]
              exact Mpace_g (by omega) t1 t4 t5 (by rw [mu_eq, upd_n e]; exact g0) (by rw [mu_ne (by decide)]; exact g3))
        rw [dX8_kinds_31l, if_neg (show ¬ (2 : Int32) < nI v from nI_nlt (a := 2) (by omega) (by decide)), Xpace_s (by omega) f4 f5, bd1_some, hx, bd1_some, dX9_kinds_22l, if_neg (show ¬ (3 : Int32) ≤ nI v from nI_ge (b := 3) (by omega) (by decide)), if_pos b6, cl (by omega), lm_eq (mu (mu M 3 i u) 3 i (nI v)), mu_mu, hm, bd1_some, lm_eq, lm_eq, lm_eq, or0, nI_1]
        by_cases e : asB (fun j => decide ((if wh j = i then paceN v (cv i) else paceN (kd (wh j)) (cv (wh j))) * dy j = vl j)) r = true
        · rw [bI_t e, if_neg one0, if_neg one0]
          exact ih (v + 1) f _ _ (by omega) (by omega)
        · rw [bI_f e, if_pos rfl, if_pos rfl]
          exact ih (v + 1) f _ _ (by omega) (by omega)
    obtain ⟨x, g1, g2⟩ := key 3 0 FU 0 (nI (kd i)) (by omega) (by decide)
    rw [mu_id (hMC.2 i hi).1] at g2
    exact OkE.pe h x g1 g2
  · rw [bR_f r1, nb_f r1, if_pos rfl, if_neg one0]
    exact OkE.pe h (-1) rfl rfl
def M00 : Mem := fun _ _ => 0
theorem cmn_M (a b : Int32) (M N : Mem) : ∀ f x, dX8_commonPart_2l a b M f x = dX8_commonPart_2l a b N f x
  | 0, _ => rfl
  | f + 1, x => by
    rw [dX8_commonPart_2l, dX8_commonPart_2l, cmn_M a b M N f]
theorem shr_M (a b : Int64) (v : Int32) (M N : Mem) (k : Int64 → Option Int64) : ∀ f x y, dX9_share_6l a b v M k f x y = dX9_share_6l a b v N k f x y
  | 0, _, _ => rfl
  | f + 1, x, y => by
    rw [dX9_share_6l, dX9_share_6l]
    split
    · rfl
    · split
      · rfl
      · rw [lm_eq, lm_eq, shr_M a b v M N k f]
theorem cmn_dec : ∀ r, r < 6 → ∀ q, q < 6 → 1 ≤ q → d_X8_commonPart (nI r) (nI q) M00 = some (nI (Nat.gcd r q)) := by decide +kernel
theorem shr_dec : ∀ r, r < 6 → ∀ q, q < 6 → 1 ≤ q → d_X9_share (lN r) (lN q) 0 M00 = some (lN (r / Nat.gcd r q)) ∧ d_X9_share (lN r) (lN q) 1 M00 = some (lN (q / Nat.gcd r q)) := by decide +kernel
theorem cmn_s {r q : Nat} (hr : r < 6) (hq : q < 6) (h1 : 1 ≤ q) (M : Mem) : d_X8_commonPart (nI r) (nI q) M = some (nI (Nat.gcd r q)) := (cmn_M _ _ M M00 FU _).trans (cmn_dec r hr q hq h1)
theorem shr_s {r q : Nat} (hr : r < 6) (hq : q < 6) (h1 : 1 ≤ q) (M : Mem) : d_X9_share (lN r) (lN q) 0 M = some (lN (r / Nat.gcd r q)) ∧ d_X9_share (lN r) (lN q) 1 M = some (lN (q / Nat.gcd r q)) := ⟨(shr_M _ _ _ M M00 _ FU _ _).trans (shr_dec r hr q hq h1).1, (shr_M _ _ _ M M00 _ FU _ _).trans (shr_dec r hr q hq h1).2⟩
theorem dG_s {x p : Nat} (hx : x ≤ 100000) (hp : 1 ≤ p ∧ p ≤ 10) (M : Mem) : d_X8_daysFor (nI x) (nI p) M = some (nI ((x + p - 1) / p)) := by
  have h := dF_s (x := x) (y := 0) hx (Nat.zero_le _) hp M
  rw [Nat.sub_zero, nI_0, Int32.sub_zero] at h
  exact h
theorem ceil_le {x p n : Nat} (hp : 1 ≤ p) : (x + p - 1) / p ≤ n ↔ x ≤ n * p := by
  have h := Nat.div_lt_iff_lt_mul (x := x + p - 1) (y := n + 1) (show 0 < p by omega)
  have e : (n + 1) * p = n * p + p := Nat.succ_mul n p
  rw [e] at h
  omega
def oB (c : Nat) (w : Nat → Nat → Nat) (f d p j : Nat) : Bool := decide (¬ j = f ∧ fw w c f j < INF ∧ fw w c f j ≤ d * p)
theorem oB_iff {c : Nat} {w : Nat → Nat → Nat} {f d p j : Nat} : oB c w f d p j = true ↔ (¬ j = f ∧ fw w c f j < INF ∧ fw w c f j ≤ d * p) := decide_eq_true_iff
theorem daysTo_s {c k o i j : Nat} {kd fr to cv : Nat → Nat} {w : Nat → Nat → Nat} {A : Mem} (hT : TOK c k kd fr to cv w) (hS : XS c w A) (hC : XC o k kd fr to cv A) (hi : i < k) (hj : j < c) : d_X2_daysTo (ft o i) (nI j) A = some (nI (if fw w c (fr i) j < INF then (fw w c (fr i) j + paceN (kd i) (cv i) - 1) / paceN (kd i) (cv i) else INF)) := by
  obtain ⟨f1, f2, f3, f4, f5⟩ := hT.2.2.1 i hi
  have hp := paceN_in (kd := kd i) f4 f5
  unfold d_X2_daysTo
  rw [(hC.2 i hi).2.1, distance_s hT.1 hT.2.2.2.1 hS f2 hj, bd1_some]
  by_cases q : fw w c (fr i) j < INF
  · have h5 := fw_576 hT.1 hT.2.2.2.1 q
    rw [if_neg (fun z => (dI_9.mp z) q), Fpace_s hT hC hi, bd1_some, dI_f q, dG_s (by omega) hp, bd1_some, if_pos q]
  · rw [if_pos (dI_9.mpr q), if_neg q]
    rfl
theorem sim_odds {n : Nat} {A M : Mem} (h : Rel n A M) (v1 v2 v3 : Int32) : OkL n (wM A (d_X8_odds v1 v2 v3 A)) (wM M (d_X9_odds v1 v2 v3 M)) := by
  obtain ⟨⟨c, k, kd, fr, to, cv, w, wk, s, hTw⟩, hSh, h6, h7, h8⟩ := id h
  obtain ⟨hT, hck, hXS, hXC, hXW, hMS, hMC, hMW, hs, hwk, hRd⟩ := id hTw
  have hc := hT.1
  have hk := hT.2.1
  have hw := hT.2.2.2.1
  unfold d_X8_odds d_X9_odds dX9_odds_30j
  rw [Chas_s (by omega) hXC.1, bd1_some, nF_s (by omega) hMC.1, bd1_some, lost_s, bd1_some]
  by_cases r1 : rg v1 k
  · rw [bR_t r1, nb_t r1, if_neg one0, if_pos rfl, inR_s (n := 100) (by decide) (by decide), bd1_some]
    by_cases r2 : rg v2 100
    · obtain ⟨c1, c2, -⟩ := ch_t (m := 99) r2 (by decide)
      rw [bR_t r2, if_neg one0, if_neg c1, if_neg c2, inR_s (n := 2) (by decide) (by decide), bd1_some]
      by_cases r3 : rg v3 2
      · obtain ⟨d1, -, d2⟩ := ch_t (m := 1) r3 (by decide)
        obtain ⟨i, hi, rfl⟩ := rg_of (by omega) r1
        obtain ⟨d, hd, rfl⟩ := rg_of (by omega) r2
        obtain ⟨f1, f2, f3, f4, f5⟩ := hT.2.2.1 i hi
        have hp := paceN_in (kd := kd i) f4 f5
        have b6 : inB (nI i) 6 = true := inB_t (show i < 6 by omega) (by decide)
        have hc2 : 2 ≤ c := by omega
        rw [bR_t r3, if_neg one0, if_neg d1, if_pos d2, if_pos b6, cl (by omega)]
        have hdp : d * paceN (kd i) (cv i) ≤ 100 * 10 := Nat.mul_le_mul (by omega) hp.2
        have xl : ∀ (K : Int32 → Option Int64) m j f, j + m = c → m < f → dX8_odds_51l (nI d) v3 (ft 6 i) A K f (nI (ctb (oB c w (fr i) d (paceN (kd i) (cv i))) j)) (nI j) = K (nI (ctb (oB c w (fr i) d (paceN (kd i) (cv i))) c)) := by
          intro K m
          induction m with
          | zero =>
            intro j f hj hf
            obtain ⟨f, rfl⟩ : ∃ f1, f = f1 + 1 := ⟨f - 1, by omega⟩
            have e : j = c := by omega
            subst e
            rw [dX8_odds_51l, hXS.1, if_pos (le_t (Nat.le_refl _) (by omega))]
          | succ m ih =>
            intro j f hj hf
            obtain ⟨f, rfl⟩ : ∃ f1, f = f1 + 1 := ⟨f - 1, by omega⟩
            have g := ih (j + 1) f (by omega) (by omega)
            have e : ctb (oB c w (fr i) d (paceN (kd i) (cv i))) (j + 1) = ctb (oB c w (fr i) d (paceN (kd i) (cv i))) j + if oB c w (fr i) d (paceN (kd i) (cv i)) j then 1 else 0 := rfl
            rw [e] at g
            rw [dX8_odds_51l, hXS.1, if_neg (le_f (by omega) (by omega)), (hXC.2 i hi).2.1, nI_1, nI_1]
            have no : oB c w (fr i) d (paceN (kd i) (cv i)) j = false → dX8_odds_51l (nI d) v3 (ft 6 i) A K f (nI (ctb (oB c w (fr i) d (paceN (kd i) (cv i))) j)) (nI (j + 1)) = K (nI (ctb (oB c w (fr i) d (paceN (kd i) (cv i))) c)) := fun z => by rw [z] at g; exact g
            have nob : ¬ (oB c w (fr i) d (paceN (kd i) (cv i)) j = true) → oB c w (fr i) d (paceN (kd i) (cv i)) j = false := fun z => by
              cases q : oB c w (fr i) d (paceN (kd i) (cv i)) j with
              | false => rfl
              | true => exact absurd q z
            by_cases e1 : j = fr i
            · rw [if_pos (by rw [e1])]
              exact no (nob (fun z => (oB_iff.mp z).1 e1))
            · rw [if_neg (fun z => e1 ((nI_eq (by omega) (by omega)).mp z)), daysTo_s hT hXS hXC hi (show j < c by omega), bd1_some]
              by_cases q : fw w c (fr i) j < INF
              · have h5 := fw_576 hc hw q
                have cl1 := ceil_le (x := fw w c (fr i) j) (n := d) hp.1
                have dl : (fw w c (fr i) j + paceN (kd i) (cv i) - 1) / paceN (kd i) (cv i) ≤ 1000 := Nat.le_trans (Nat.div_le_self _ _) (by omega)
                rw [if_pos q]
                by_cases z : (fw w c (fr i) j + paceN (kd i) (cv i) - 1) / paceN (kd i) (cv i) ≤ d
                · rw [if_neg (nI_nlt z (by omega))]
                  rw [oB_iff.mpr ⟨e1, q, cl1.mp z⟩] at g
                  exact g
                · rw [if_pos (nI_lt (by omega) (by omega))]
                  exact no (nob (fun y => z (cl1.mpr (oB_iff.mp y).2.2)))
              · rw [if_neg q, if_pos (nI_lt (by rw [INF_v]; omega) inf31)]
                exact no (nob (fun y => q (oB_iff.mp y).2.1))
        have ml : ∀ (K : Int64 → Option Int64) m j f, j + m = c → m < f → dX9_odds_40l (nI i) (nI d) v3 M K f (lN (ctb (oB c w (fr i) d (paceN (kd i) (cv i))) j)) (nI j) = K (lN (ctb (oB c w (fr i) d (paceN (kd i) (cv i))) c)) := by
          intro K m
          induction m with
          | zero =>
            intro j f hj hf
            obtain ⟨f, rfl⟩ : ∃ f1, f = f1 + 1 := ⟨f - 1, by omega⟩
            have e : j = c := by omega
            subst e
            rw [dX9_odds_40l, hMS.1, if_pos (le_t (Nat.le_refl _) (by omega))]
          | succ m ih =>
            intro j f hj hf
            obtain ⟨f, rfl⟩ : ∃ f1, f = f1 + 1 := ⟨f - 1, by omega⟩
            have g := ih (j + 1) f (by omega) (by omega)
            have e : ctb (oB c w (fr i) d (paceN (kd i) (cv i))) (j + 1) = ctb (oB c w (fr i) d (paceN (kd i) (cv i))) j + if oB c w (fr i) d (paceN (kd i) (cv i)) j then 1 else 0 := rfl
            rw [e] at g
            unfold dX9_odds_97j at *
            have add0L : ∀ x : Int64, x + (0 : Int64) = x := fun x => by simp
            rw [dX9_odds_40l, hMS.1, if_neg (le_f (by omega) (by omega)), if_pos b6, cl (by omega), (hMC.2 i hi).2.1, farFrom_s hc hMS f2 (show j < c by omega), bd1_some, if_pos b6]
            unfold dX9_odds_97j
            rw [lm_eq, lm_eq, add0L, nI_1]
            have no : oB c w (fr i) d (paceN (kd i) (cv i)) j = false → dX9_odds_40l (nI i) (nI d) v3 M K f (lN (ctb (oB c w (fr i) d (paceN (kd i) (cv i))) j)) (nI (j + 1)) = K (lN (ctb (oB c w (fr i) d (paceN (kd i) (cv i))) c)) := fun z => by rw [z] at g; exact g
            have nob : ¬ (oB c w (fr i) d (paceN (kd i) (cv i)) j = true) → oB c w (fr i) d (paceN (kd i) (cv i)) j = false := fun z => by
              cases q : oB c w (fr i) d (paceN (kd i) (cv i)) j with
              | false => rfl
              | true => exact absurd q z
            by_cases e1 : j = fr i
            · rw [if_pos (by rw [e1])]
              exact no (nob (fun z => (oB_iff.mp z).1 e1))
            · rw [if_neg (fun z => e1 ((nI_eq (by omega) (by omega)).mp z))]
              by_cases q : fw w c (fr i) j < INF
              · have h5 := fw_576 hc hw q
                rw [if_neg (fun z => (dI_neg.mp z) q), Mpace_s hT hi (hMC.2 i hi).1 (hMC.2 i hi).2.2.2, bd1_some, pk_mul, dI_f q, lN_1]
                by_cases z : fw w c (fr i) j ≤ d * paceN (kd i) (cv i)
                · rw [if_neg (nI_nlt z (by omega))]
                  rw [oB_iff.mpr ⟨e1, q, z⟩] at g
                  exact g
                · rw [if_pos (nI_lt (by omega) (by omega))]
                  exact no (nob (fun y => z (oB_iff.mp y).2.2))
              · rw [if_pos (dI_neg.mpr q)]
                exact no (nob (fun y => q (oB_iff.mp y).2.1))
        -- the count is at most c - 1
        have hcnt : ctb (oB c w (fr i) d (paceN (kd i) (cv i))) c ≤ c - 1 := by
          have z : ctb (oB c w (fr i) d (paceN (kd i) (cv i))) c < ctb (fun _ => true) c := ctb_lt (fun _ _ _ => rfl) ⟨fr i, f2, rfl, by
            cases q : oB c w (fr i) d (paceN (kd i) (cv i)) (fr i) with
            | false => rfl
            | true => exact absurd rfl (oB_iff.mp q).1⟩
          have z2 := ctb_le (fun _ => true) c
          omega
        have hX := xl (fun (w13 : Int32) => (lm ((A 2 3) - (1 : Int32)) (fun (x14 : Int32) => (bd1 (d_X8_commonPart w13 x14 A) (fun (r15 : Int32) => (if v3 = 0 then (if r15 = 0 then none else (some ((w13 / r15).toInt64))) else (if r15 = 0 then none else (some ((x14 / r15).toInt64))))))))) c 0 FU (by omega) (show c < 2000 by omega)
        have hM := ml (fun (w16 : Int64) => (bd1 (d_X9_share w16 (((M 0 1).toInt64) - (1 : Int64)) v3 M) (fun (r17 : Int64) => (some r17)))) c 0 FU (by omega) (show c < 2000 by omega)
        have hg : 0 < Nat.gcd (ctb (oB c w (fr i) d (paceN (kd i) (cv i))) c) (c - 1) := Nat.gcd_pos_of_pos_right _ (by omega)
        have hgl : Nat.gcd (ctb (oB c w (fr i) d (paceN (kd i) (cv i))) c) (c - 1) ≤ c - 1 := Nat.gcd_le_right _ (by omega)
        have hgn : ¬ nI (Nat.gcd (ctb (oB c w (fr i) d (paceN (kd i) (cv i))) c) (c - 1)) = 0 := nI_ne0 hg (Nat.lt_of_le_of_lt hgl (by omega))
        have e1 : (M 0 1).toInt64 - (1 : Int64) = lN (c - 1) := by
          rw [hMS.1, nI_l (by omega), show (1 : Int64) = lN 1 from rfl, lN_sub (by omega)]
        obtain ⟨s1, s2⟩ := shr_s (r := ctb (oB c w (fr i) d (paceN (kd i) (cv i))) c) (q := c - 1) (by omega) (by omega) (by omega) M
        have q1 : ctb (oB c w (fr i) d (paceN (kd i) (cv i))) c / Nat.gcd (ctb (oB c w (fr i) d (paceN (kd i) (cv i))) c) (c - 1) < 2 ^ 31 := Nat.lt_of_le_of_lt (Nat.div_le_self _ _) (by omega)
        have q2 : (c - 1) / Nat.gcd (ctb (oB c w (fr i) d (paceN (kd i) (cv i))) c) (c - 1) < 2 ^ 31 := Nat.lt_of_le_of_lt (Nat.div_le_self _ _) (by omega)
        obtain ⟨u, hu, rfl⟩ := rg_of (by omega) r3
        rcases (show u = 0 ∨ u = 1 by omega) with e | e
        · subst e
          refine OkL.pp h (lN ((ctb (oB c w (fr i) d (paceN (kd i) (cv i))) c) / Nat.gcd (ctb (oB c w (fr i) d (paceN (kd i) (cv i))) c) (c - 1))) (hX.trans ?_) (hM.trans ?_)
          · rw [lm_eq, hXS.1, show nI c - (1 : Int32) = nI (c - 1) from pk_sub (a := c) (b := 1) (by omega), cmn_s (Nat.lt_of_le_of_lt hcnt (by omega)) (by omega) (by omega), bd1_some, if_neg hgn, if_neg hgn, pk_div (a := ctb (oB c w (fr i) d (paceN (kd i) (cv i))) c) (Nat.lt_of_le_of_lt hcnt (by omega)) hg (Nat.lt_of_le_of_lt hgl (by omega)), pk_div (a := c - 1) (by omega) hg (Nat.lt_of_le_of_lt hgl (by omega)), if_pos nI_0, nI_l q1]
          · rw [e1, show nI 0 = (0 : Int32) from rfl, s1, bd1_some]
        · subst e
          refine OkL.pp h (lN ((c - 1) / Nat.gcd (ctb (oB c w (fr i) d (paceN (kd i) (cv i))) c) (c - 1))) (hX.trans ?_) (hM.trans ?_)
          · rw [lm_eq, hXS.1, show nI c - (1 : Int32) = nI (c - 1) from pk_sub (a := c) (b := 1) (by omega), cmn_s (Nat.lt_of_le_of_lt hcnt (by omega)) (by omega) (by omega), bd1_some, if_neg hgn, if_neg hgn, pk_div (a := ctb (oB c w (fr i) d (paceN (kd i) (cv i))) c) (Nat.lt_of_le_of_lt hcnt (by omega)) hg (Nat.lt_of_le_of_lt hgl (by omega)), pk_div (a := c - 1) (by omega) hg (Nat.lt_of_le_of_lt hgl (by omega)), if_neg (show ¬ nI 1 = (0 : Int32) by decide), nI_l q2]
          · rw [e1, show nI 1 = (1 : Int32) from rfl, s2, bd1_some]
      · rw [bR_f r3, if_pos rfl, ch_f2 (m := 1) r3 (by decide)]
        exact OkL.pp h _ rfl rfl
    · rw [bR_f r2, if_pos rfl, ch_f (m := 99) r2 (by decide)]
      exact OkL.pp h _ rfl rfl
  · rw [bR_f r1, nb_f r1, if_pos rfl, if_neg one0]
    exact OkL.pp h _ rfl rfl
