/-! errands -/
theorem fm_congr {f g : Nat → List (List Nat)} : ∀ {l : List Nat}, (∀ x, x ∈ l → f x = g x) → l.flatMap f = l.flatMap g
  | [], _ => rfl
  | a :: l, h => by
    rw [List.flatMap_cons, List.flatMap_cons, h a (List.mem_cons_self ..), fm_congr (fun x hx => h x (List.mem_cons_of_mem _ hx))]
theorem er_map {s : Nat → Nat} {x : Nat} : ∀ {l : List Nat}, (∀ y, y ∈ l → s y = s x → y = x) → (l.map s).erase (s x) = (l.erase x).map s
  | [], _ => rfl
  | a :: l, h => by
    by_cases e : a = x
    · subst e
      rw [List.map_cons, List.erase_cons_head, List.erase_cons_head]
    · have e2 : ¬ s a = s x := fun z => e (h a (List.mem_cons_self ..) z)
      rw [List.map_cons, List.erase_cons_tail (by simpa using e2), List.erase_cons_tail (by simpa using e), List.map_cons, er_map (fun y hy => h y (List.mem_cons_of_mem _ hy))]
theorem prm_map {s : Nat → Nat} : ∀ (n : Nat) (xs : List Nat), (∀ x, x ∈ xs → ∀ y, y ∈ xs → s x = s y → x = y) → (prm n xs).map (fun p => p.map s) = prm n (xs.map s)
  | 0, _, _ => rfl
  | n + 1, xs, h => by
    show (xs.flatMap (fun x => (prm n (xs.erase x)).map (fun p => x :: p))).map (fun p => p.map s) = (xs.map s).flatMap (fun x => (prm n ((xs.map s).erase x)).map (fun p => x :: p))
    rw [List.map_flatMap, List.flatMap_map]
    refine fm_congr (fun x hx => ?_)
    show ((prm n (xs.erase x)).map (fun p => x :: p)).map (fun p => p.map s) = (prm n ((xs.map s).erase (s x))).map (fun p => s x :: p)
    rw [er_map (fun y hy z => h y hy x hx z), ← prm_map n (xs.erase x) (fun y hy z hz => h y (List.mem_of_mem_erase hy) z (List.mem_of_mem_erase hz)), List.map_map, List.map_map]
    rfl
theorem prm_mem : ∀ {n : Nat} {xs p : List Nat}, xs.length = n → p ∈ prm n xs → p.length = n ∧ ∀ y, y ∈ p → y ∈ xs
  | 0, xs, p, _, h => by
    have h : p ∈ [[]] := h
    have e : p = [] := by simpa using h
    subst e
    exact ⟨rfl, fun y hy => by cases hy⟩
  | n + 1, xs, p, hl, h => by
    obtain ⟨x, hx, h2⟩ := List.mem_flatMap.mp h
    obtain ⟨q, hq, rfl⟩ := List.mem_map.mp h2
    obtain ⟨k1, k2⟩ := prm_mem (by rw [List.length_erase_of_mem hx]; omega) hq
    refine ⟨by rw [List.length_cons, k1], fun y hy => ?_⟩
    rcases List.mem_cons.mp hy with z | z
    · rw [z]; exact hx
    · exact List.mem_of_mem_erase (k2 y z)
theorem sl_map {k : Nat} {sl : List Nat} (hl : sl.length = k) : (List.range k).map (fun x => sl.getD x 0) = sl := by
  apply List.ext_getElem
  · rw [List.length_map, List.length_range, hl]
  · intro i h1 h2
    rw [List.getElem_map, List.getElem_range, List.getD_eq_getElem?_getD, List.getElem?_eq_getElem h2]
    rfl
theorem sl_inj {k : Nat} {to : Nat → Nat} {sl : List Nat} (h : srtd k to sl) (hl : sl.length = k) : ∀ x, x ∈ List.range k → ∀ y, y ∈ List.range k → sl.getD x 0 = sl.getD y 0 → x = y := by
  intro x hx y hy e
  rw [List.mem_range] at hx hy
  rw [List.getD_eq_getElem?_getD, List.getElem?_eq_getElem (by omega), List.getD_eq_getElem?_getD, List.getElem?_eq_getElem (by omega)] at e
  have e : sl[x]'(by omega) = sl[y]'(by omega) := e
  have hp := List.pairwise_iff_getElem.mp h.nd
  rcases Nat.lt_trichotomy x y with q | q | q
  · exact absurd e (hp x y (by omega) (by omega) q)
  · exact q
  · exact absurd e.symm (hp y x (by omega) (by omega) q)
def eB : Option (Nat × List Nat) → Int32
  | none => -9
  | some (v, _) => nI v
def inv (k : Nat) (to : Nat → Nat) (sl : List Nat) : Option (Nat × List Nat) → Mem → Prop
  | none, _ => True
  | some (v, r), M => v < INF ∧ ∀ j, j < k → M 17 j = nI (to (sl.getD (r.getD j 0) 0))
theorem best_step {k f : Nat} {to : Nat → Nat} {sl p : List Nat} {L : List (List Nat)} {F : List Nat → Nat} {M : Mem} (hk : k ≤ 6) (h02 : M 0 2 = nI k) (h15 : ∀ q, q < k → M 15 q = nI (to (sl.getD q 0))) (hpd : ∀ j, j < k → p.getD j 0 < k) (hlast : ∀ M1 : Mem, (∀ j, j < k → M1 16 j = nI (p.getD j 0)) → (∀ q, q ≠ 16 → q ≠ 17 → M1 q = M q) → d_X9_lastOne M1 = some (dI (F p))) (nxt : ∀ b M1, (∀ j, j < k → M1 16 j = nI (p.getD j 0)) → (∀ q, q ≠ 16 → q ≠ 17 → M1 q = M q) → inv k to sl b M1 → ∃ M2, dX9_bestErrands_100j (dX9_bestErrands_9l f) (eB b) M1 = some (eB (bst F b L), M2) ∧ (∀ q, q ≠ 16 → q ≠ 17 → M2 q = M q) ∧ inv k to sl (bst F b L) M2) : ∀ b M1, (∀ j, j < k → M1 16 j = nI (p.getD j 0)) → (∀ q, q ≠ 16 → q ≠ 17 → M1 q = M q) → inv k to sl b M1 → ∃ M2, dX9_bestErrands_9l (f + 1) (eB b) 1 M1 = some (eB (bst F b (p :: L)), M2) ∧ (∀ q, q ≠ 16 → q ≠ 17 → M2 q = M q) ∧ inv k to sl (bst F b (p :: L)) M2 := by
  intro b M1 hrow hq hb
  have hi := inf31
  have c0 : ∀ (K : Mem → Option (Int32 × Mem)) v1 v3 m j f1, j + m = k → m < f1 → dX9_bestErrands_41l v1 v3 0 K f1 (nI j) M1 = K M1 := by
    intro K v1 v3 m
    induction m with
    | zero =>
      intro j f1 hj hf
      obtain ⟨f1, rfl⟩ : ∃ f2, f1 = f2 + 1 := ⟨f1 - 1, by omega⟩
      have e : j = k := by omega
      rw [e, dX9_bestErrands_41l, hq 0 (by decide) (by decide), h02, if_pos (le_t (Nat.le_refl _) (by omega))]
    | succ m ih =>
      intro j f1 hj hf
      obtain ⟨f1, rfl⟩ : ∃ f2, f1 = f2 + 1 := ⟨f1 - 1, by omega⟩
      have bj : inB (nI j) 6 = true := inB_t (show j < 6 by omega) (by decide)
      rw [dX9_bestErrands_41l, hq 0 (by decide) (by decide), h02, if_neg (le_f (by omega) (by omega)), if_pos rfl, if_pos bj]
      unfold dX9_bestErrands_83j
      rw [if_pos bj, mu_id rfl, lm_eq, nI_1]
      exact ih (j + 1) f1 (by omega) (by omega)
  have c1 : ∀ (K : Mem → Option (Int32 × Mem)) v1 v3 m j f1 M2, j + m = k → m < f1 → (∀ q, q ≠ 17 → M2 q = M1 q) → (∀ y, y < j → M2 17 y = nI (to (sl.getD (p.getD y 0) 0))) → ∃ M3, dX9_bestErrands_41l v1 v3 1 K f1 (nI j) M2 = K M3 ∧ (∀ q, q ≠ 17 → M3 q = M1 q) ∧ ∀ y, y < k → M3 17 y = nI (to (sl.getD (p.getD y 0) 0)) := by
    intro K v1 v3 m
    induction m with
    | zero =>
      intro j f1 M2 hj hf h1 h2
      obtain ⟨f1, rfl⟩ : ∃ f2, f1 = f2 + 1 := ⟨f1 - 1, by omega⟩
      have e : j = k := by omega
      rw [e] at h2 ⊢
      exact ⟨M2, by rw [dX9_bestErrands_41l, h1 0 (by decide), hq 0 (by decide) (by decide), h02, if_pos (le_t (Nat.le_refl _) (by omega))], h1, h2⟩
    | succ m ih =>
      intro j f1 M2 hj hf h1 h2
      obtain ⟨f1, rfl⟩ : ∃ f2, f1 = f2 + 1 := ⟨f1 - 1, by omega⟩
      have hjk : j < k := by omega
      have bj : inB (nI j) 6 = true := inB_t (show j < 6 by omega) (by decide)
      have hd := hpd j hjk
      have bp : inB (nI (p.getD j 0)) 6 = true := inB_t (show p.getD j 0 < 6 by omega) (by decide)
      rw [dX9_bestErrands_41l, h1 0 (by decide), hq 0 (by decide) (by decide), h02, if_neg (le_f hjk (by omega)), if_neg one0, if_pos bj, cl (j := j) (by omega), h1 16 (by decide), hrow j hjk, if_pos bp, cl (j := p.getD j 0) (by omega), h1 15 (by decide), hq 15 (by decide) (by decide), h15 _ hd]
      unfold dX9_bestErrands_83j
      rw [if_pos bj, cl (j := j) (by omega), lm_eq, nI_1]
      refine ih (j + 1) f1 _ (by omega) (by omega) (fun q hn => by rw [mu_ne hn]; exact h1 q hn) (fun y hy => ?_)
      rw [mu_eq]
      by_cases z : y = j
      · rw [z, upd_s]
      · rw [upd_n z]; exact h2 y (by omega)
  have j35 : ∀ b' v3, inv k to sl b' M1 → ∃ M2, dX9_bestErrands_35j (dX9_bestErrands_9l f) (eB b') v3 M1 = some (eB (bst F b' L), M2) ∧ (∀ q, q ≠ 16 → q ≠ 17 → M2 q = M q) ∧ inv k to sl (bst F b' L) M2 := by
    intro b' v3 hb'
    obtain ⟨M2, k1, k2⟩ := nxt b' M1 hrow hq hb'
    refine ⟨M2, ?_, k2⟩
    unfold dX9_bestErrands_35j dX9_bestErrands_36j
    rw [show (0 : Int32) = nI 0 from rfl] at *
    refine (c0 _ _ _ k 0 FU (by omega) (show k < 2000 by omega)).trans ?_
    exact k1
  have j31 : ∀ v1 v, v < INF → ∃ M2, dX9_bestErrands_31j (dX9_bestErrands_9l f) v1 (nI v) M1 = some (eB (bst F (some (v, p)) L), M2) ∧ (∀ q, q ≠ 16 → q ≠ 17 → M2 q = M q) ∧ inv k to sl (bst F (some (v, p)) L) M2 := by
    intro v1 v hv
    unfold dX9_bestErrands_31j dX9_bestErrands_36j
    obtain ⟨M3, k1, k2, k3⟩ := c1 (fun (M8 : Mem) => (if (1 : Int32) = 0 then (dX9_bestErrands_100j (dX9_bestErrands_9l f) v1 M8) else (dX9_bestErrands_100j (dX9_bestErrands_9l f) (nI v) M8))) v1 (nI v) k 0 FU M1 (by omega) (show k < 2000 by omega) (fun _ _ => rfl) (fun y hy => absurd hy (Nat.not_lt_zero _))
    obtain ⟨M2, l1, l2⟩ := nxt (some (v, p)) M3 (fun j hj => by rw [k2 16 (by decide)]; exact hrow j hj) (fun q q1 q2 => by rw [k2 q q2]; exact hq q q1 q2) ⟨hv, k3⟩
    refine ⟨M2, ?_, l2⟩
    refine Eq.trans k1 ?_
    rw [if_neg one0]
    exact l1
  rw [dX9_bestErrands_9l, if_neg one0, hlast M1 hrow hq, bd1_some]
  cases b with
  | none =>
    by_cases z : F p < INF
    · have e : bst F none (p :: L) = bst F (some (F p, p)) L := by rw [bst, if_pos z]
      rw [e, dI_f z, if_neg (show ¬ nI (F p) < (0 : Int32) from nI_nlt (b := 0) (Nat.zero_le _) (by omega)), if_pos (show eB none < 0 by decide)]
      exact j31 _ _ z
    · have e : bst F none (p :: L) = bst F none L := by rw [bst, if_neg z]
      rw [e, if_pos (dI_neg.mpr z)]
      exact j35 none _ hb
  | some x =>
    obtain ⟨v, r⟩ := x
    have hb' : v < INF ∧ ∀ j, j < k → M1 17 j = nI (to (sl.getD (r.getD j 0) 0)) := hb
    by_cases z : F p < INF
    · rw [dI_f z, if_neg (show ¬ nI (F p) < (0 : Int32) from nI_nlt (b := 0) (Nat.zero_le _) (by omega)), if_neg (show ¬ eB (some (v, r)) < 0 from nI_nlt (a := v) (b := 0) (Nat.zero_le _) (by omega))]
      by_cases y : F p < v
      · have e : bst F (some (v, r)) (p :: L) = bst F (some (F p, p)) L := by rw [bst, if_pos y]
        rw [e, if_neg (show ¬ eB (some (v, r)) ≤ nI (F p) from le_f y (by omega))]
        exact j31 _ _ z
      · have e : bst F (some (v, r)) (p :: L) = bst F (some (v, r)) L := by rw [bst, if_neg y]
        rw [e, if_pos (show eB (some (v, r)) ≤ nI (F p) from le_t (by omega) (by omega))]
        exact j35 _ _ hb
    · have e : bst F (some (v, r)) (p :: L) = bst F (some (v, r)) L := by rw [bst, if_neg (by omega)]
      rw [e, if_pos (dI_neg.mpr z)]
      exact j35 _ _ hb
theorem best_s {k : Nat} {to : Nat → Nat} {sl : List Nat} {F : List Nat → Nat} {M : Mem} (hk : k ≤ 6) (hk1 : 1 ≤ k) (h02 : M 0 2 = nI k) (h15 : ∀ q, q < k → M 15 q = nI (to (sl.getD q 0))) (hlast : ∀ p : List Nat, p.length = k → (∀ x, x ∈ p → x < k) → ∀ M1 : Mem, (∀ j, j < k → M1 16 j = nI (p.getD j 0)) → (∀ q, q ≠ 16 → q ≠ 17 → M1 q = M q) → d_X9_lastOne M1 = some (dI (F p))) : ∀ (L : List (List Nat)) (p : List Nat) (f : Nat) (b : Option (Nat × List Nat)) (M1 : Mem), chk k (p :: L) = true → (∀ r, r ∈ p :: L → r.length = k ∧ ∀ x, x ∈ r → x < k) → L.length + 1 < f → (∀ j, j < k → M1 16 j = nI (p.getD j 0)) → (∀ q, q ≠ 16 → q ≠ 17 → M1 q = M q) → inv k to sl b M1 → ∃ M2, dX9_bestErrands_9l f (eB b) 1 M1 = some (eB (bst F b (p :: L)), M2) ∧ (∀ q, q ≠ 16 → q ≠ 17 → M2 q = M q) ∧ inv k to sl (bst F b (p :: L)) M2 := by
  intro L
  have gd : ∀ p : List Nat, p.length = k → (∀ x, x ∈ p → x < k) → ∀ j, j < k → p.getD j 0 < k := by
    intro p hp hx j hj
    rw [List.getD_eq_getElem?_getD, List.getElem?_eq_getElem (by omega)]
    exact hx _ (List.getElem_mem _)
  have rlk : ∀ (p : List Nat) (M1 : Mem), (∀ j, j < k → M1 16 j = nI (p.getD j 0)) → (∀ q, q ≠ 16 → q ≠ 17 → M1 q = M q) → rl k M1 (mkR k p) := fun p M1 h1 h2 => ⟨by rw [h2 0 (by decide) (by decide)]; exact h02, rfl, fun j hj => h1 j hj⟩
  induction L with
  | nil =>
    intro p f b M1 hc hr hf hrow hq hb
    obtain ⟨f, rfl⟩ : ∃ f2, f = f2 + 2 := ⟨f - 2, by simp at hf; omega⟩
    obtain ⟨p1, p2⟩ := hr p (List.mem_cons_self ..)
    refine best_step (f := f + 1) hk h02 h15 (gd p p1 p2) (hlast p p1 p2) (fun b' M2 r1 r2 r3 => ?_) b M1 hrow hq hb
    have hc : (okE k p && true) = true := hc
    rw [Bool.and_true] at hc
    unfold okE at hc
    cases e : d_X9_nextRow (mkR k p) with
    | none => rw [e] at hc; cases hc
    | some x =>
      obtain ⟨r, N⟩ := x
      rw [e] at hc
      have hc := of_decide_eq_true hc
      subst hc
      obtain ⟨M3, k1, k2, k3⟩ := nR_sim hk hk1 (rlk p M2 r1 r2) e
      refine ⟨M3, ?_, fun q q1 q2 => by rw [k3 q q1]; exact r2 q q1 q2, ?_⟩
      · unfold dX9_bestErrands_100j
        rw [k1, bd2_some, dX9_bestErrands_9l, if_pos rfl]
        rfl
      · cases b' with
        | none => trivial
        | some y =>
          obtain ⟨v, r⟩ := y
          exact ⟨r3.1, fun j hj => by rw [k3 17 (by decide)]; exact r3.2 j hj⟩
  | cons p' L ih =>
    intro p f b M1 hc hr hf hrow hq hb
    rw [List.length_cons] at hf
    obtain ⟨f, rfl⟩ : ∃ f2, f = f2 + 1 := ⟨f - 1, by omega⟩
    obtain ⟨p1, p2⟩ := hr p (List.mem_cons_self ..)
    refine best_step (f := f) hk h02 h15 (gd p p1 p2) (hlast p p1 p2) (fun b' M2 r1 r2 r3 => ?_) b M1 hrow hq hb
    have hc : (okN k p p' && chk k (p' :: L)) = true := hc
    rw [Bool.and_eq_true] at hc
    obtain ⟨hc, hc2⟩ := hc
    unfold okN at hc
    cases e : d_X9_nextRow (mkR k p) with
    | none => rw [e] at hc; cases hc
    | some x =>
      obtain ⟨r, N⟩ := x
      rw [e] at hc
      have hc : (decide (r = 1) && (List.range k).all (fun j => decide (N 16 j = nI (p'.getD j 0)))) = true := hc
      rw [Bool.and_eq_true] at hc
      obtain ⟨c1, c2⟩ := hc
      have c1 := of_decide_eq_true c1
      subst c1
      have c3 : ∀ j, j < k → N 16 j = nI (p'.getD j 0) := fun j hj => of_decide_eq_true (List.all_eq_true.mp c2 j (List.mem_range.mpr hj))
      obtain ⟨M3, k1, k2, k3⟩ := nR_sim hk hk1 (rlk p M2 r1 r2) e
      have hinv : inv k to sl b' M3 := by
        cases b' with
        | none => trivial
        | some y =>
          obtain ⟨v, r⟩ := y
          exact ⟨r3.1, fun j hj => by rw [k3 17 (by decide)]; exact r3.2 j hj⟩
      obtain ⟨M4, l1, l2⟩ := ih p' f b' M3 hc2 (fun r hr' => hr r (List.mem_cons_of_mem _ hr')) (by omega) (fun j hj => by rw [k2.2.2 j hj]; exact c3 j hj) (fun q q1 q2 => by rw [k3 q q1]; exact r2 q q1 q2) hinv
      refine ⟨M4, ?_, l2⟩
      unfold dX9_bestErrands_100j
      rw [k1, bd2_some]
      exact l1
theorem hd_dec : ∀ k, k < 7 → (prm k (List.range k)).head? = some (List.range k) := by decide +kernel
set_option maxRecDepth 20000 in
theorem ln_dec : ∀ k, k < 7 → (prm k (List.range k)).length ≤ 720 := by decide +kernel
theorem sim_errands {n : Nat} {A M : Mem} (h : Rel n A M) (v1 : Int32) : OkE n (d_X8_errands v1 A) (d_X9_errands v1 M) := by
  obtain ⟨⟨c, k, kd, fr, to, cv, w, wk, s, hTw⟩, hSh, h6, h7, h8⟩ := id h
  obtain ⟨hT, hck, hXS, hXC, hXW, hMS, hMC, hMW, hs, hwk, hRd⟩ := id hTw
  have hc := hT.1
  have hk := hT.2.1
  have hw := hT.2.2.2.1
  have hi := inf31
  unfold d_X8_errands d_X9_errands
  rw [hasTown_s hck hc hXS.1, bd1_some, hMC.1]
  by_cases ek : k = 0
  · subst ek
    rw [nb_t rfl, if_pos rfl, if_pos nI_0]
    exact OkE.ee h (-3) rfl rfl
  · have hk1 : 1 ≤ k := by omega
    have ev : v1.toInt64.toInt = v1.toInt := Int32.toInt_toInt64 v1
    rw [nb_f ek, if_neg one0, if_neg (nI_ne0 (by omega) (by omega)), in_s, bd1_some, ev, show (-1 : Int64).toInt = -1 by decide, show (5 : Int64).toInt = 5 by decide]
    have m1 : (-1 : Int32).toInt = -1 := by decide
    have m6 : (6 : Int32).toInt = 6 := by decide
    by_cases r1 : (-1 : Int) ≤ v1.toInt ∧ v1.toInt ≤ 5
    · rw [bI_t r1, if_neg one0, if_neg (fun z => by have := Int32.lt_iff_toInt_lt.mp z; omega), if_pos (Int32.lt_iff_toInt_lt.mpr (by omega))]
      obtain ⟨A1, a1, a2, a3⟩ := weigh_s hT hXS hXC hk1
      obtain ⟨M1, sl, b1, b2, hsl, hlen, b3⟩ := sort_s hT hMS.1 hMC
      have hMS1 : MS c w M1 := ⟨by rw [b2 0 (by decide) (by decide)]; exact hMS.1, by rw [b2 1 (by decide) (by decide)]; exact hMS.2.1, by rw [b2 2 (by decide) (by decide)]; exact hMS.2.2⟩
      have hMC1 : MC k kd fr to cv M1 := ⟨by rw [b2 0 (by decide) (by decide)]; exact hMC.1, by rw [b2 3 (by decide) (by decide), b2 4 (by decide) (by decide), b2 5 (by decide) (by decide), b2 6 (by decide) (by decide)]; exact hMC.2⟩
      let F : List Nat → Nat := fun p => mxP (DD c w kd fr to cv) 0 (p.map (fun x => sl.getD x 0))
      have hmem : ∀ r, r ∈ prm k (List.range k) → r.length = k ∧ ∀ x, x ∈ r → x < k := fun r hr => by
        obtain ⟨k1, k2⟩ := prm_mem (by rw [List.length_range]) hr
        exact ⟨k1, fun x hx => List.mem_range.mp (k2 x hx)⟩
      obtain ⟨L, hL⟩ : ∃ L, prm k (List.range k) = List.range k :: L := by
        have hd := hd_dec k (by omega)
        cases q : prm k (List.range k) with
        | nil => rw [q] at hd; cases hd
        | cons a L =>
          rw [q] at hd
          have hd : some a = some (List.range k) := hd
          exact ⟨L, by rw [Option.some.inj hd]⟩
      have hln := ln_dec k (by omega)
      rw [hL, List.length_cons] at hln
      have hck2 := chk_dec k (by omega) hk1
      rw [hL] at hck2
      obtain ⟨M2, d1, d2, d3⟩ := best_s (F := F) (to := to) (sl := sl) (M := M1) hk hk1 hMC1.1 (fun q hq => (b3 q hq).1) (fun p p1 p2 N n1 n2 => last_s hT ⟨by rw [n2 0 (by decide) (by decide)]; exact hMS1.1, by rw [n2 1 (by decide) (by decide)]; exact hMS1.2.1, by rw [n2 2 (by decide) (by decide)]; exact hMS1.2.2⟩ ⟨by rw [n2 0 (by decide) (by decide)]; exact hMC1.1, by rw [n2 3 (by decide) (by decide), n2 4 (by decide) (by decide), n2 5 (by decide) (by decide), n2 6 (by decide) (by decide)]; exact hMC1.2⟩ (fun g hg => (hsl.2 g).mp hg) hlen (fun q hq => by rw [n2 15 (by decide) (by decide)]; exact (b3 q hq).1) p1 p2 n1) L (List.range k) FU none M1 hck2 (fun r hr => hmem r (by rw [hL]; exact hr)) (show L.length + 1 < 2000 by omega) (fun j hj => by
        rw [(b3 j hj).2, List.getD_eq_getElem?_getD, List.getElem?_eq_getElem (by rw [List.length_range]; exact hj), List.getElem_range]; rfl) (fun _ _ _ => rfl) trivial
      rw [← hL] at d1 d3
      have d1' : d_X9_bestErrands M = some (eB (bst F none (prm k (List.range k))), M2) := by
        unfold d_X9_bestErrands
        rw [b1, bd1_some]
        exact d1
      have hR : Rel (n + 1) A1 M2 := h.own (fun q _ _ _ _ q24 _ => a2 q q24) (fun q hq => by
        have e1 := d2 q (by unfold Pq at hq; omega) (by unfold Pq at hq; omega)
        rw [e1]
        exact b2 q (by unfold Pq at hq; omega) (by unfold Pq at hq; omega)) (fun j _ => by rw [d2 0 (by decide) (by decide), b2 0 (by decide) (by decide)]) (by rw [a2 0 (by decide), d2 0 (by decide) (by decide), b2 0 (by decide) (by decide)]; exact h6) (by rw [a2 0 (by decide), d2 0 (by decide) (by decide), b2 0 (by decide) (by decide)]; exact h7) (by rw [a2 0 (by decide), d2 0 (by decide) (by decide), b2 0 (by decide) (by decide)]; exact h8)
      have hpm : (prm k (List.range k)).map (fun p => p.map (fun x => sl.getD x 0)) = prm k sl := by
        rw [prm_map k (List.range k) (sl_inj hsl hlen), sl_map hlen]
      have hf0 : frs sl 0 = sl := by
        unfold frs
        exact List.filter_eq_self.mpr (fun a _ => by rw [Nat.zero_testBit]; rfl)
      have t1 := T1 hk hsl.nd hsl.2 (tT_all (D := DD c w kd fr to cv) hk) (tT_hs hk) k 0 (Nat.two_pow_pos k) (by rw [pb_0]; omega)
      rw [pb_0, hf0, ← hpm] at t1
      have t2 : ∀ t, t < INF → (tT (DD c w kd fr to cv) k 0 ≤ t ↔ ∃ p, p ∈ prm k (List.range k) ∧ F p ≤ t) := by
        intro t ht
        rw [t1 t ht, List.any_map, List.any_eq_true]
        constructor
        · rintro ⟨p, p1, p2⟩; exact ⟨p, p1, okP_mx.mp p2⟩
        · rintro ⟨p, p1, p2⟩; exact ⟨p, p1, okP_mx.mpr p2⟩
      have hV := tT_le (D := DD c w kd fr to cv) (k := k) (S := 0) hk (Nat.two_pow_pos k)
      have hA0 := a3 0 (Nat.two_pow_pos k)
      have hXC1 := hXC.c24 hk a2
      have hXS1 := hXS.c24 a2
      rw [a1, bd1_some, d1', bd2_some]
      have b64 : inB (0 : Int32) 64 = true := by decide
      have c00 : (0 : Int32).toNatClampNeg = 0 := by decide
      have hLA : d_X1_lastArrival A1 = some (dI (tT (DD c w kd fr to cv) k 0)) := by
        unfold d_X1_lastArrival
        rw [if_pos b64, if_pos b64, c00, hA0, show (1000000 : Int32) = nI INF from rfl]
        by_cases z : tT (DD c w kd fr to cv) k 0 < INF
        · rw [if_neg (le_f z (by omega)), dI_f z]
        · rw [if_pos (le_t (by omega) (by omega)), dI_n z]
      have hM02 : M2 0 2 = nI k := by rw [d2 0 (by decide) (by decide)]; exact hMC1.1
      rcases bst_none (f := F) (L := prm k (List.range k)) with ⟨e1, e2⟩ | ⟨v, r, e1, e2, e3, e4, e5⟩
      · have hVI : ¬ tT (DD c w kd fr to cv) k 0 < INF := fun z => by
          obtain ⟨p, p1, p2⟩ := (t2 _ z).mp (Nat.le_refl _)
          have := e2 p p1
          omega
        rw [e1, if_pos (show eB none < 0 by decide)]
        refine ⟨-9, A1, M2, ?_, rfl, hR⟩
        by_cases z : v1 = -1
        · rw [if_pos z, hLA, bd1_some, dI_n hVI]
        · rw [if_neg z]
          unfold d_X1_goalOf
          rw [Chas_s (by omega) hXC1.1, bd1_some]
          by_cases y : rg v1 k
          · rw [bR_t y, if_neg one0, if_pos b64, c00, hA0, show (1000000 : Int32) = nI INF from rfl, if_neg (nI_nlt (by omega) (by omega))]
            rfl
          · rw [bR_f y, if_pos rfl]; rfl
      · have hVv : tT (DD c w kd fr to cv) k 0 = v := by
          have l1 := (t2 v e2).mpr ⟨r, List.mem_of_find?_eq_some e5, by omega⟩
          obtain ⟨p, p1, p2⟩ := (t2 _ (show tT (DD c w kd fr to cv) k 0 < INF by omega)).mp (Nat.le_refl _)
          have := e4 p p1
          omega
        rw [e1] at d3 ⊢
        have d3 : v < INF ∧ ∀ j, j < k → M2 17 j = nI (to (sl.getD (r.getD j 0) 0)) := d3
        rw [if_neg (show ¬ eB (some (v, r)) < 0 from nI_nlt (a := v) (b := 0) (Nat.zero_le _) (by omega))]
        by_cases z : v1 = -1
        · subst z
          rw [if_pos rfl, hLA, bd1_some, hVv, dI_f e2, if_neg (show ¬ (0 : Int32) ≤ -1 by decide)]
          exact ⟨_, _, _, rfl, rfl, hR⟩
        · have v0 : 0 ≤ v1.toInt := by
            have : v1.toInt ≠ -1 := fun q => z (Int32.toInt_inj.mp (q.trans m1.symm))
            omega
          obtain ⟨j, hj, rfl⟩ := rg_of (v := v1) (n := 6) (by decide) ⟨v0, by omega⟩
          rw [if_neg z, if_pos (show (0 : Int32) ≤ nI j from nI_le (a := 0) (Nat.zero_le _) (by omega)), hM02]
          unfold d_X1_goalOf
          rw [Chas_s (by omega) hXC1.1, bd1_some]
          by_cases y : j < k
          · have hfd : (prm k (frs sl 0)).find? (okP (DD c w kd fr to cv) (tT (DD c w kd fr to cv) k 0) 0) = some (r.map (fun x => sl.getD x 0)) := by
              rw [hf0, ← hpm, List.find?_map]
              have ef : (okP (DD c w kd fr to cv) (tT (DD c w kd fr to cv) k 0) 0 ∘ fun p => p.map (fun x => sl.getD x 0)) = fun p => decide (F p ≤ v) := by
                funext p
                rw [hVv]
                have o := okP_mx (D := DD c w kd fr to cv) (t := v) (p := p.map (fun x => sl.getD x 0)) (m := 0)
                by_cases g : F p ≤ v
                · rw [decide_eq_true g]; exact o.mpr g
                · rw [decide_eq_false g]
                  cases q : okP (DD c w kd fr to cv) v 0 (p.map (fun x => sl.getD x 0)) with
                  | false => exact q
                  | true => exact absurd (o.mp q) g
              rw [ef, e5]; rfl
            have gl := goal_l (v := j) hT hXS1 hXC1 hsl a3 (by rw [hVv]; exact e2) y (j + 1) 0 0 FU (-9) k (r.map (fun x => sl.getD x 0)) (by omega) (show j + 1 < 2000 by omega) (Nat.two_pow_pos k) (pb_0 6) (by omega) hfd
            have rl := (hmem r (List.mem_of_find?_eq_some e5)).1
            have eg : (r.map (fun x => sl.getD x 0)).getD j 0 = sl.getD (r.getD j 0) 0 := by
              rw [List.getD_eq_getElem?_getD, List.getElem?_map, List.getD_eq_getElem?_getD (l := r), List.getElem?_eq_getElem (by omega)]
              rfl
            rw [if_neg (by omega), Nat.add_sub_cancel, eg] at gl
            rw [bR_t ((rg_nI (by omega)).mpr y), if_neg one0, if_pos b64, c00, hA0, show (1000000 : Int32) = nI INF from rfl, if_pos (nI_lt (by omega) (by omega)), if_neg (le_f y (by omega)), if_pos (inB_t (show j < 6 by omega) (by decide)), cl (by omega), d3.2 j y]
            refine ⟨nI (to (sl.getD (r.getD j 0) 0)), A1, M2, ?_, rfl, hR⟩
            have gl' : dX1_goalOf_32l (nI j) 6 A1 FU 0 (-9) 0 = some (nI (to (sl.getD (r.getD j 0) 0))) := gl
            rw [gl']; rfl
          · rw [bR_f (fun q => y ((rg_nI (by omega)).mp q)), if_pos rfl, bd1_some, if_pos (le_t (by omega) (by omega))]
            exact ⟨_, _, _, rfl, rfl, hR⟩
    · rw [bI_f r1, if_pos rfl]
      by_cases z : v1 < (-1 : Int32)
      · rw [if_pos z]; exact OkE.ee h (-2) rfl rfl
      · rw [if_neg z, if_neg (fun q => by
          have q1 := Int32.lt_iff_toInt_lt.mp q
          have q2 : ¬ v1.toInt < (-1 : Int32).toInt := fun y => z (Int32.lt_iff_toInt_lt.mpr y)
          omega)]
        exact OkE.ee h (-2) rfl rfl
