theorem nwF_in : ∀ w ∈ nestF.map (fun q => Cond.fieldLinkNest q.1 q.2.1 q.2.2.1 q.2.2.2.1 q.2.2.2.2.1 q.2.2.2.2.2), w ∈ lw_tbl := pk_mem [85, 86, 111, 112, 114, 115, 117, 118, 119, 121, 122, 124, 125, 126, 128, 129, 144, 145, 146, 147, 149, 150, 151, 201, 217, 219] (by decide +kernel)
theorem nwM_in : ∀ w ∈ nestM.map (fun q => Cond.methodLinkNest q.1 q.2.1 q.2.2.1 q.2.2.2), w ∈ lw_tbl := pk_mem [77, 106, 159, 183, 193, 212, 361, 568] (by decide +kernel)
theorem lw_base {s : State} {b : Nat} (hts : ∀ w ∈ lw_tbl, w.before #[Value.ref b] s = true) : ∃ (D : va_G) (cA : Nat → ClassId), va_K D vwCl (tyL cA) s ∧ NWs s ∧ AOs s := by
  obtain ⟨c0, i0, k0⟩ := u_known (C := RX0) (T := TX0) (N := 2) (n := 2) hts inX0 (hts _ (wsL_law_in _ (List.mem_of_getElem? (i := 19) rfl)))
  obtain ⟨c1, i1, k1⟩ := u_known (C := RX1) (T := TX1) (N := 1) (n := 1) hts inX1 (hts _ (wsL_law_in _ (List.mem_of_getElem? (i := 27) rfl)))
  obtain ⟨c2, i2, k2⟩ := u_known (C := RX2) (T := TX2) (N := 6) (n := 6) hts inX2 (hts _ (wsL_law_in _ (List.mem_of_getElem? (i := 54) rfl)))
  obtain ⟨c3, i3, k3⟩ := u_known (C := RX3) (T := TX3) (N := 4) (n := 4) hts inX3 (hts _ (wsL_law_in _ (List.mem_of_getElem? (i := 31) rfl)))
  obtain ⟨c4, i4, k4⟩ := u_known (C := RX4) (T := TX4) (N := 5) (n := 5) hts inX4 (hts _ (wsL_law_in _ (List.mem_of_getElem? (i := 23) rfl)))
  obtain ⟨c5, i5, k5⟩ := u_known (C := RX5) (T := TX5) (N := 3) (n := 3) hts inX5 (hts _ (wsL_law_in _ (List.mem_of_getElem? (i := 37) rfl)))
  obtain ⟨c6, i6, k6⟩ := u_known (C := RX6) (T := TX6) (N := 4) (n := 4) hts inX6 (hts _ (wsL_law_in _ (List.mem_of_getElem? (i := 15) rfl)))
  obtain ⟨c7, i7, k7⟩ := u_known (C := RX8) (T := TX8) (N := 9) (n := 9) hts inX8 (hts _ (wsL_law_in _ (List.mem_of_getElem? (i := 1) rfl)))
  obtain ⟨c8, i8, k8⟩ := u_known (C := RX9) (T := TX9) (N := 39) (n := 39) hts inX9 (hts _ (wsL_law_in _ (List.mem_of_getElem? (i := 4) rfl)))
  have aI : (Cond.arrayClass .int).before #[Value.ref b] s = true := hts _ (List.mem_of_getElem? (i := 96) (by decide +kernel))
  have aF : (Cond.arrayOver (.object RX2)).before #[Value.ref b] s = true := hts _ (List.mem_of_getElem? (i := 104) (by decide +kernel))
  have aS : (Cond.arrayOver (.object RX5)).before #[Value.ref b] s = true := hts _ (List.mem_of_getElem? (i := 74) (by decide +kernel))
  obtain ⟨cI, kI, mI, f1, f2, f3⟩ := Cond.arrayClass_spec aI
  obtain ⟨mF, cF, kF, g1, -, g2, g3, g4⟩ := Cond.arrayOver_spec aF
  obtain ⟨mS, cS, kS, h1, -, h2, h3, h4⟩ := Cond.arrayOver_spec aS
  refine ⟨(fun k => match k with | 0 => c0 | 1 => c1 | 2 => c2 | 3 => c3 | 4 => c4 | 5 => c5 | 6 => c6 | 7 => c7 | _ => c8, fun k => match k with | 0 => i0 | 1 => i1 | 2 => i2 | 3 => i3 | 4 => i4 | 5 => i5 | 6 => i6 | 7 => i7 | _ => i8), fun k => match k with | 0 => cI | 1 => cF | _ => cS, ⟨?_, ?_⟩, ⟨fun q hq => va_Nw.of rfl (hts _ (nwF_in _ (List.mem_map.mpr ⟨q, hq, rfl⟩))), fun q hq => va_Nw.of rfl (hts _ (nwM_in _ (List.mem_map.mpr ⟨q, hq, rfl⟩)))⟩, ⟨va_AO.of aF, va_AO.of aS⟩⟩
  · intro k q hq
    have hk : k < 9 := (List.getElem?_eq_some_iff.mp hq).1
    rcases (show k = 0 ∨ k = 1 ∨ k = 2 ∨ k = 3 ∨ k = 4 ∨ k = 5 ∨ k = 6 ∨ k = 7 ∨ k = 8 by omega) with e | e | e | e | e | e | e | e | e
    · subst e; cases hq; exact k0
    · subst e; cases hq; exact k1
    · subst e; cases hq; exact k2
    · subst e; cases hq; exact k3
    · subst e; cases hq; exact k4
    · subst e; cases hq; exact k5
    · subst e; cases hq; exact k6
    · subst e; cases hq; exact k7
    · subst e; cases hq; exact k8
  · intro k q hq
    have hk : k < 3 := (List.getElem?_eq_some_iff.mp hq).1
    rcases (show k = 0 ∨ k = 1 ∨ k = 2 by omega) with e | e | e
    · subst e; cases hq
      exact ⟨fun N z => ⟨(fun k h => by cases h), kI, f2, mI, f3⟩, f1⟩
    · subst e; cases hq
      exact ⟨fun N z => ⟨(fun k h => by cases h), kF, g2, mF, g3⟩, kF, mF, g2, g3, g1, g4⟩
    · subst e; cases hq
      exact ⟨fun N z => ⟨(fun k h => by cases h), kS, h2, mS, h3⟩, kS, mS, h2, h3, h1, h4⟩
theorem wd_len {ad : Nat → Nat} {sh : Nat → (Nat → Int32) → va_E} {n : Nat} {M : Mem} : (wd ad sh n M).length = n := by simp [wd]
theorem wd_pick {ad : Nat → Nat} {sh : Nat → (Nat → Int32) → va_E} {n : Nat} {M : Mem} {x : va_W} : (List.range n).map (fun i => (wd ad sh n M ++ x)[i]?) = (wd ad sh n M).map some := by
  apply List.ext_getElem?
  intro i
  rcases Nat.lt_or_ge i n with h | h
  · rw [List.getElem?_map, List.getElem?_range h, List.getElem?_map]
    show some ((wd ad sh n M ++ x)[i]?) = _
    rw [List.getElem?_append_left (by rw [wd_len]; exact h), wd_at h]
    rfl
  · rw [List.getElem?_eq_none_iff.mpr (by simp [h]), List.getElem?_eq_none_iff.mpr (by simp [wd_len, h])]
theorem wd_last {ad : Nat → Nat} {sh : Nat → (Nat → Int32) → va_E} {n : Nat} {M : Mem} {x : Nat × va_E} : [n].map (fun i => (wd ad sh n M ++ [x])[i]?) = [x].map some := by
  show [(wd ad sh n M ++ [x])[n]?] = [some x]
  rw [List.getElem?_append_right (by rw [wd_len]; exact Nat.le_refl n), wd_len, Nat.sub_self]
  rfl
/-- from one world to two -/
theorem law_enter {p : Program} {l : Launch} {e : Env} {s : State} {m : MethodId} {below : List Frame} {meth : Method} {c : Code} {D : va_G} {cA : Nat → ClassId} {aX aM : Nat → Nat} {b L : Nat} {xs : Nat → Int32} (hL : L ≤ 384) (hx : p.tables.exec = Jvm.exec) (hb : c.code = code) (hr : meth.sig.returnType = ret) (hml : c.maxLocals = 4) (hown : s.vm.findClass RL = some m.cls) (hts : ∀ w ∈ wsL_law, w.before #[Value.ref b] s = true) (hK : va_K D vwCl (tyL cA) s) (hN : NWs s) (hX : va_X b L xs s s.heap) (hbl : b < s.heap.size) (hlk : meth.locks = false) {cells slots : Nat} (hc : cells ≤ 600000) (hs : slots ≤ 7302250) : CG p l e room_1 s m #[Value.ref b] below meth c D (fun q : Nat => s.heap.size ≤ q) 4 (lw_Z below #[Value.ref b] s) (wd aX (shX aX cA) 37 M0X ++ wd aM (shM aM cA) 25 M0M) cells slots 18 [(3, .int 0), (2, .ref (aM 0)), (1, .ref (aX 0)), (0, .ref b)] [] := by
  intro H locs ls hP hD hS hLv
  have wX : ∀ i, i < 37 → (wd aX (shX aX cA) 37 M0X ++ wd aM (shM aM cA) 25 M0M)[i]? = some (aX i, shX aX cA i (M0X i)) := fun i hi => by
    rw [List.getElem?_append_left (by rw [wd_len]; exact hi), wd_at hi]
  have wM : ∀ i, i < 25 → (wd aX (shX aX cA) 37 M0X ++ wd aM (shM aM cA) 25 M0M)[37 + i]? = some (aM i, shM aM cA i (M0M i)) := fun i hi => by
    rw [List.getElem?_append_right (by rw [wd_len]; omega), wd_len, show 37 + i - 37 = i by omega, wd_at hi]
  have hP1 : va_P D vwCl (wd aX (shX aX cA) 37 M0X) H := fun k q hk => by
    have h1 := (wd_in hk).1
    rw [wd_at h1] at hk
    exact hP k q ((wX k h1).trans hk)
  have hP2 : va_P D vwCl (wd aM (shM aM cA) 25 M0M) H := fun k q hk => by
    have h1 := (wd_in hk).1
    rw [wd_at h1] at hk
    exact hP (37 + k) q ((wM k h1).trans hk)
  have B : Lx p s m meth c D cA aX aM b L xs := ⟨hx, hb, hr, hml, hown, hts, hK, hN, hX, hbl, hlk, fun i j hi hj h => hD.1 i j _ _ (wX i hi) (wX j hj) h, fun i j hi hj h => by have := hD.1 (37 + i) (37 + j) _ _ (wM i hi) (wM j hj) h; omega, fun i j hi hj h => by have := hD.1 i (37 + j) _ _ (wX i hi) (wM j hj) h; omega, fun i hi => hD.2 i _ (wX i hi), fun i hi => hD.2 (37 + i) _ (wM i hi)⟩
  refine W.widen (k := 600000) (n := 7302250) hc hs ?_
  exact law_loop B hL 64 0 rfl M0X M0M rel_0 H locs ls hP1 hP2 hS hLv
set_option maxHeartbeats 4000000 in
set_option maxRecDepth 100000 in
theorem whole_start {p : Program} {e : Env} {s : State} {m : MethodId} {below : List Frame} {meth : Method} {c : Code} (l : Launch) (hflags : l.flags = flags0) {b L : Nat} {xs : Nat → Int32} (hL : L ≤ 384) (C0 : lw_At p s m meth c b L xs) : W p l e room_1 s m #[Value.ref b] below meth c s.heap [] 0 0 (lw_Z below #[Value.ref b] s) (entryFrame m ([Value.ref b] : List Value).toArray 4) := by
  obtain ⟨hx, hb, hr, hml, hown, hts, hX, hbl, hlk, hgv⟩ := id C0
  obtain ⟨D, cA, hK, hN, hO⟩ := lw_base hts
  have htl : ∀ w ∈ wsL_law, w.before #[Value.ref b] s = true := fun w hw => hts w (wsL_law_in w hw)
  have B : Cx p s m #[Value.ref b] c D cA (fun q : Nat => s.heap.size ≤ q) 4 RL code wsL_law := ⟨hx, hb, hml, hown, htl, hK, hN, hO, fun _ h => h⟩
  rw [lg_entry_eq]
  have G : CG p l e room_1 s m #[Value.ref b] below meth c D (fun q : Nat => s.heap.size ≤ q) 4 (lw_Z below #[Value.ref b] s) [] 0 0 0 [(0, .ref b)] [] := by
    refine c_new (ci := 7) (fs := [.null, .null, .null, .null, .null, .null, .int 0, .int 0, .int 0]) B inlX8 tyX8_ok (List.mem_of_getElem? (i := 0) rfl) (List.mem_of_getElem? (i := 1) rfl) (List.mem_of_getElem? (i := 2) rfl) rfl (fun j hj => by rcases (show j = 0 ∨ j = 1 ∨ j = 2 ∨ j = 3 ∨ j = 4 ∨ j = 5 ∨ j = 6 ∨ j = 7 ∨ j = 8 by omega) with rfl | rfl | rfl | rfl | rfl | rfl | rfl | rfl | rfl <;> rfl) (Nat.le_of_ble_eq_true rfl) (Nat.le_of_ble_eq_true rfl) dL_law_0 (fun q1 => ?_)
    refine c_w (w1 := [(q1, eO 7 [.null, .null, .null, .null, .null, .null, .int 0, .int 0, .int 0])]) (cells1 := 1) (slots1 := 9) rfl rfl rfl ?_
    refine c_dup B dL_law_3 rfl ?_
    refine c_callI (wr := []) B (k_X8_init l D cA q1) (cwI 0 B.2.2.2.2.1 gL_law_X8_init rfl rfl rfl (B.2.2.2.2.1 _ (List.mem_of_getElem? (i := 2) rfl)) (B.2.2.2.2.1 _ (List.mem_of_getElem? (i := 6) rfl)) (B.2.2.2.2.1 _ (List.mem_of_getElem? (i := 7) rfl)) rfl (by decide +kernel) ⟨Nat.le_of_ble_eq_true rfl, Nat.le_of_ble_eq_true rfl⟩) [0] [] rfl rfl (by decide) (by decide) (by decide) (Nat.le_of_ble_eq_true rfl) dL_law_4 (Nat.le_of_ble_eq_true rfl) (Nat.le_of_ble_eq_true rfl) (fun aX h1 => ?_)
    subst h1
    refine c_w (w1 := wd aX (shX aX cA) 37 M0X) (cells1 := 37) (slots1 := 533) rfl rfl rfl ?_
    refine c_astore_n (lv1 := [(1, .ref (aX 0)), (0, .ref b)]) B dL_law_7 rfl (by decide) rfl ?_
    refine c_new (ci := 8) (fs := [.int 0, .int 0, .int 0, .int 0, .int 0, .null, .null, .null, .null, .null, .null, .null, .int 0, .int 0, .int 0, .null, .null, .null, .null, .null, .int 0, .int 0, .null, .int 0, .null, .int 0, .int 0, .null, .null, .null, .int 0, .null, .null, .null, .null, .null, .null, .null, .int 0]) B inlX9 tyX9_ok (List.mem_of_getElem? (i := 3) rfl) (List.mem_of_getElem? (i := 4) rfl) (List.mem_of_getElem? (i := 5) rfl) rfl (fun j hj => by rcases (show j = 0 ∨ j = 1 ∨ j = 2 ∨ j = 3 ∨ j = 4 ∨ j = 5 ∨ j = 6 ∨ j = 7 ∨ j = 8 ∨ j = 9 ∨ j = 10 ∨ j = 11 ∨ j = 12 ∨ j = 13 ∨ j = 14 ∨ j = 15 ∨ j = 16 ∨ j = 17 ∨ j = 18 ∨ j = 19 ∨ j = 20 ∨ j = 21 ∨ j = 22 ∨ j = 23 ∨ j = 24 ∨ j = 25 ∨ j = 26 ∨ j = 27 ∨ j = 28 ∨ j = 29 ∨ j = 30 ∨ j = 31 ∨ j = 32 ∨ j = 33 ∨ j = 34 ∨ j = 35 ∨ j = 36 ∨ j = 37 ∨ j = 38 by omega) with rfl | rfl | rfl | rfl | rfl | rfl | rfl | rfl | rfl | rfl | rfl | rfl | rfl | rfl | rfl | rfl | rfl | rfl | rfl | rfl | rfl | rfl | rfl | rfl | rfl | rfl | rfl | rfl | rfl | rfl | rfl | rfl | rfl | rfl | rfl | rfl | rfl | rfl | rfl <;> rfl) (Nat.le_of_ble_eq_true rfl) (Nat.le_of_ble_eq_true rfl) dL_law_8 (fun q2 => ?_)
    refine c_w (w1 := wd aX (shX aX cA) 37 M0X ++ [(q2, eO 8 [.int 0, .int 0, .int 0, .int 0, .int 0, .null, .null, .null, .null, .null, .null, .null, .int 0, .int 0, .int 0, .null, .null, .null, .null, .null, .int 0, .int 0, .null, .int 0, .null, .int 0, .int 0, .null, .null, .null, .int 0, .null, .null, .null, .null, .null, .null, .null, .int 0])]) (cells1 := 38) (slots1 := 572) rfl rfl rfl ?_
    refine c_dup B dL_law_11 rfl ?_
    refine c_callI (wr := wd aX (shX aX cA) 37 M0X) B (k_X9_init l D cA q2) (cwI 0 B.2.2.2.2.1 gL_law_X9_init rfl rfl rfl (B.2.2.2.2.1 _ (List.mem_of_getElem? (i := 5) rfl)) (B.2.2.2.2.1 _ (List.mem_of_getElem? (i := 92) rfl)) (B.2.2.2.2.1 _ (List.mem_of_getElem? (i := 93) rfl)) rfl (by decide +kernel) ⟨Nat.le_of_ble_eq_true rfl, Nat.le_of_ble_eq_true rfl⟩) [37] (List.range 37) wd_last wd_pick (by decide) (by decide) (by decide) (Nat.le_of_ble_eq_true rfl) dL_law_12 (Nat.le_of_ble_eq_true rfl) (Nat.le_of_ble_eq_true rfl) (fun aM h2 => ?_)
    subst h2
    refine c_w (w1 := wd aX (shX aX cA) 37 M0X ++ wd aM (shM aM cA) 25 M0M) (cells1 := 62) (slots1 := 1096) rfl rfl rfl ?_
    refine c_astore_n (lv1 := [(2, .ref (aM 0)), (1, .ref (aX 0)), (0, .ref b)]) B dL_law_15 rfl (by decide) rfl ?_
    refine c_iconst (v := 0) B dL_law_16 (by decide) ?_
    refine c_istore_n (lv1 := [(3, .int 0), (2, .ref (aM 0)), (1, .ref (aX 0)), (0, .ref b)]) B dL_law_17 rfl (by decide) rfl ?_
    exact law_enter hL hx hb hr hml hown htl hK hN hX hbl hlk (Nat.le_of_ble_eq_true rfl) (Nat.le_of_ble_eq_true rfl)
  exact G s.heap [] _ (fun k q h => by simp at h) ⟨fun i j p q h => by simp at h, fun k q h => by simp at h⟩ va_S.rf (lv_entry [.ref b] (Nat.le_of_ble_eq_true rfl))
