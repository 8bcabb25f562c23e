/-! readings, bodies, kinds -/
theorem Tw.cong2 {n c k : Nat} {kd fr to cv : Nat → Nat} {w : Nat → Nat → Nat} {wk : Nat → Nat} {s : Nat} {A M A1 M1 : Mem} (h : Tw n c k kd fr to cv w wk s A M) (hA : ∀ q, 2 ≤ q → q ≤ 13 → q ≠ 5 → A1 q = A q) (hM : ∀ q, 1 ≤ q → q ≤ 7 → M1 q = M q) (h0 : ∀ j, j = 1 ∨ j = 2 ∨ j = 4 → M1 0 j = M 0 j) (hR : RdR k A1 M1) : Tw n c k kd fr to cv w wk s A1 M1 := by
  obtain ⟨hT, hck, hXS, hXC, hXW, hMS, hMC, hMW, hs, hwk, -⟩ := h
  have hk := hT.2.1
  have hft : ∀ i, i < k → A1 (ft 6 i) = A (ft 6 i) := fun i hi => hA _ (by unfold ft; omega) (by unfold ft; omega) (by unfold ft; omega)
  refine ⟨hT, hck, ⟨?_, fun a b ha hb => ?_, fun a b ha hb => ?_⟩, ⟨?_, fun i hi => ?_⟩, fun i hi => ?_, ⟨?_, fun a b ha hb => ?_, fun a b ha hb => ?_⟩, ⟨?_, fun i hi => ?_⟩, ⟨?_, fun i hi => ?_⟩, hs, hwk, hR⟩
  · rw [hA 2 (by omega) (by omega) (by omega)]; exact hXS.1
  · rw [hA 3 (by omega) (by omega) (by omega)]; exact hXS.2.1 a b ha hb
  · rw [hA 4 (by omega) (by omega) (by omega)]; exact hXS.2.2 a b ha hb
  · rw [hA 6 (by omega) (by omega) (by omega)]; exact hXC.1
  · rw [hft i hi]; exact hXC.2 i hi
  · rw [hft i hi]; exact hXW i hi
  · rw [h0 1 (by omega)]; exact hMS.1
  · rw [hM 1 (by omega) (by omega)]; exact hMS.2.1 a b ha hb
  · rw [hM 2 (by omega) (by omega)]; exact hMS.2.2 a b ha hb
  · rw [h0 2 (by omega)]; exact hMC.1
  · rw [hM 3 (by omega) (by omega), hM 4 (by omega) (by omega), hM 5 (by omega) (by omega), hM 6 (by omega) (by omega)]; exact hMC.2 i hi
  · rw [h0 4 (by omega)]; exact hMW.1
  · rw [hM 7 (by omega) (by omega)]; exact hMW.2 i hi
theorem ch_t {v m : Int32} {n : Nat} (h : rg v n) (hm : m.toInt + 1 = (n : Int)) : ¬ v < 0 ∧ ¬ m < v ∧ v ≤ m := by
  have h2 : (0 : Int32).toInt = 0 := by decide
  refine ⟨fun q => ?_, fun q => ?_, Int32.le_iff_toInt_le.mpr (by omega)⟩
  · have := Int32.lt_iff_toInt_lt.mp q; omega
  · have := Int32.lt_iff_toInt_lt.mp q; omega
theorem ch_f {α : Type} {v m : Int32} {n : Nat} (h : ¬ rg v n) (hm : m.toInt + 1 = (n : Int)) (X Y : α) : (if v < 0 then X else if m < v then X else Y) = X := by
  have h2 : (0 : Int32).toInt = 0 := by decide
  by_cases a : v < 0
  · rw [if_pos a]
  · rw [if_neg a, if_pos (Int32.lt_iff_toInt_lt.mpr ?_)]
    have : ¬ v.toInt < 0 := fun q => a (Int32.lt_iff_toInt_lt.mpr (by omega))
    omega
theorem ch_f2 {α : Type} {v m : Int32} {n : Nat} (h : ¬ rg v n) (hm : m.toInt + 1 = (n : Int)) (X Y : α) : (if v < 0 then X else if v ≤ m then Y else X) = X := by
  have h2 : (0 : Int32).toInt = 0 := by decide
  by_cases a : v < 0
  · rw [if_pos a]
  · rw [if_neg a, if_neg (fun q => ?_)]
    have q1 := Int32.le_iff_toInt_le.mp q
    have : ¬ v.toInt < 0 := fun q => a (Int32.lt_iff_toInt_lt.mpr (by omega))
    omega
theorem sim_reading {n : Nat} {A M : Mem} (h : Rel n A M) (v1 v2 v3 : Int32) : OkE n (d_X8_reading v1 v2 v3 A) (d_X9_reading v1 v2 v3 M) := by
  obtain ⟨⟨c, k, kd, fr, to, cv, w, wk, s, hTw⟩, hSh, h6, h7, h8⟩ := id h
  obtain ⟨hT, hck, hXS, hXC, hXW, hMS, hMC, hMW, hs, hwk, r, wh, dy, vl, hr, hr1, hr2, hr3⟩ := id hTw
  have hk := hT.2.1
  unfold d_X8_reading d_X9_reading
  simp only [Chas_s (show k < 2 ^ 31 by omega) hXC.1, nF_s (show k < 2 ^ 31 by omega) hMC.1, bd1_some]
  by_cases r1 : rg v1 k
  · rw [bR_t r1, nb_t r1, if_neg one0, if_pos rfl, inR_s (n := 100) (by decide) (by decide), bd1_some]
    by_cases r2 : rg v2 100
    · rw [bR_t r2, if_neg one0, inR_s (n := 1000) (by decide) (by decide), bd1_some]
      obtain ⟨c1, c2, -⟩ := ch_t (m := 99) r2 (by decide)
      rw [if_neg c1, if_neg c2]
      by_cases r3 : rg v3 1000
      · obtain ⟨d1, -, d2⟩ := ch_t (m := 999) r3 (by decide)
        rw [bR_t r3, if_neg one0, if_neg d1, if_pos d2, hr1, hr2]
        by_cases e : r = 8
        · subst e
          exact OkE.ee h (-4) (by rw [if_neg (show ¬ nI 8 < (8 : Int32) by decide)]) (by rw [if_pos (show nI 8 = (8 : Int32) by decide)])
        · obtain ⟨a, ha, rfl⟩ := rg_of (by omega) r1
          obtain ⟨b, hb, rfl⟩ := rg_of (by omega) r2
          obtain ⟨d, hd, rfl⟩ := rg_of (by omega) r3
          have b8 : inB (nI r) 8 = true := inB_t (show r < 8 by omega) (by decide)
          have ne8 : ¬ nI r = (8 : Int32) := fun q => e ((nI_eq (by omega) (by omega)).mp (q.trans (show (8 : Int32) = nI 8 from rfl)))
          refine ⟨nI r, mu (mu (mu (mu A 26 r (nI a)) 27 r (nI b)) 28 r (nI d)) 25 3 (nI (r + 1)), mu (mu (mu (mu M 18 r (nI a)) 19 r (nI b)) 20 r (nI d)) 0 30 (nI (r + 1)), ?_, ?_, ⟨c, k, kd, fr, to, cv, w, wk, s, ?_⟩, ?_, ?_, ?_, ?_⟩
          · rw [if_pos (show nI r < (8 : Int32) from nI_lt (show r < 8 by omega) (by decide))]
            unfold d_X3_add
            simp only [hr1, if_neg (show ¬ (8 : Int32) ≤ nI r from le_f (show r < 8 by omega) (by decide)), b8, lm_eq, mu_ne (show (25 : Nat) ≠ 26 by decide), mu_ne (show (25 : Nat) ≠ 27 by decide), mu_ne (show (25 : Nat) ≠ 28 by decide), cl (show r < 2 ^ 31 by omega), if_true, bd1_some, nI_1, mu_eq, upd_s, nI_pred]
          · rw [if_neg ne8]
            simp only [b8, lm_eq, mu_ne (show (0 : Nat) ≠ 18 by decide), mu_ne (show (0 : Nat) ≠ 19 by decide), mu_ne (show (0 : Nat) ≠ 20 by decide), hr2, cl (show r < 2 ^ 31 by omega), if_true, nI_1, mu_eq, upd_s, nI_pred]
          · refine (hTw.mono (Nat.le_succ n)).cong2 (fun q a b _ => ?_) (fun q a b => ?_) (fun j hj => ?_) ⟨r + 1, va_up wh r a, va_up dy r b, va_up vl r d, by omega, by rw [mu_eq, upd_s], by rw [mu_eq, upd_s], fun j hj => ?_⟩
            · rw [mu_ne (by omega), mu_ne (by omega), mu_ne (by omega), mu_ne (by omega)]
            · rw [mu_ne (by omega), mu_ne (by omega), mu_ne (by omega), mu_ne (by omega)]
            · rw [mu_eq, upd_n (by omega), mu_ne (by decide), mu_ne (by decide), mu_ne (by decide)]
            · rw [mu_ne (show (26 : Nat) ≠ 25 by decide), mu_ne (show (26 : Nat) ≠ 28 by decide), mu_ne (show (26 : Nat) ≠ 27 by decide), mu_eq, mu_ne (show (27 : Nat) ≠ 25 by decide), mu_ne (show (27 : Nat) ≠ 28 by decide), mu_eq, mu_ne (show (28 : Nat) ≠ 25 by decide), mu_eq, mu_ne (show (27 : Nat) ≠ 26 by decide), mu_ne (show (28 : Nat) ≠ 27 by decide), mu_ne (show (28 : Nat) ≠ 26 by decide), mu_ne (show (18 : Nat) ≠ 0 by decide), mu_ne (show (18 : Nat) ≠ 20 by decide), mu_ne (show (18 : Nat) ≠ 19 by decide), mu_eq, mu_ne (show (19 : Nat) ≠ 0 by decide), mu_ne (show (19 : Nat) ≠ 20 by decide), mu_eq, mu_ne (show (20 : Nat) ≠ 0 by decide), mu_eq, mu_ne (show (19 : Nat) ≠ 18 by decide), mu_ne (show (20 : Nat) ≠ 19 by decide), mu_ne (show (20 : Nat) ≠ 18 by decide)]
              simp only [upd_ap, va_up]
              by_cases q : j = r
              · subst q
                simp only [if_true]
                exact ⟨ha, by omega, by omega, trivial, trivial, trivial, trivial, trivial, trivial⟩
              · simp only [if_neg q]
                exact hr3 j (by omega)
          · refine hSh.cong (fun q a b => ?_) (fun q a b => ?_)
            · rw [mu_ne (by omega), mu_ne (by omega), mu_ne (by omega), mu_ne (by omega)]
            · rw [mu_ne (by omega), mu_ne (by omega), mu_ne (by omega), mu_ne (by omega)]
          · rw [mu_ne (by decide), mu_ne (by decide), mu_ne (by decide), mu_ne (by decide), mu_eq, upd_n (by decide), mu_ne (by decide), mu_ne (by decide), mu_ne (by decide)]; exact h6
          · rw [mu_ne (by decide), mu_ne (by decide), mu_ne (by decide), mu_ne (by decide), mu_eq, upd_n (by decide), mu_ne (by decide), mu_ne (by decide), mu_ne (by decide)]; exact h7
          · rw [mu_ne (by decide), mu_ne (by decide), mu_ne (by decide), mu_ne (by decide), mu_eq, upd_n (by decide), mu_ne (by decide), mu_ne (by decide), mu_ne (by decide)]; exact h8
      · rw [bR_f r3, if_pos rfl, ch_f2 (m := 999) r3 (by decide)]
        exact OkE.ee h (-2) rfl rfl
    · rw [bR_f r2, if_pos rfl, ch_f (m := 99) r2 (by decide)]
      exact OkE.ee h (-2) rfl rfl
  · rw [bR_f r1, nb_f r1, if_pos rfl, if_neg one0]
    exact OkE.ee h (-1) rfl rfl
theorem sim_back {n : Nat} {A M : Mem} (h : Rel n A M) (v1 : Int32) : OkE n (d_X8_back v1 A) (d_X9_back v1 M) := by
  obtain ⟨⟨c, k, kd, fr, to, cv, w, wk, s, hTw⟩, hSh, h6, h7, h8⟩ := id h
  obtain ⟨hT, hck, hXS, hXC, hXW, hMS, hMC, hMW, hs, hwk, r, wh, dy, vl, hr, hr1, hr2, hr3⟩ := id hTw
  unfold d_X8_back d_X9_back
  rw [inR_s (n := r + 1) (by decide) (by rw [hr2, Int32.toInt_toInt64, nI_toInt (by omega)]; omega), bd1_some, hr1, hr2]
  by_cases r1 : rg v1 (r + 1)
  · obtain ⟨c1, -, c2⟩ := ch_t (m := nI r) r1 (by rw [nI_toInt (by omega)]; omega)
    obtain ⟨j, hj, rfl⟩ := rg_of (by omega) r1
    rw [bR_t r1, if_neg one0, if_neg c1, if_pos c2, lm_eq, lm_eq, pk_sub (by omega)]
    refine ⟨nI (r - j), mu A 25 3 (nI (r - j)), mu M 0 30 (nI (r - j)), by rw [mu_eq, upd_s], by rw [mu_eq, upd_s], ⟨c, k, kd, fr, to, cv, w, wk, s, ?_⟩, ?_, ?_, ?_, ?_⟩
    · refine (hTw.mono (Nat.le_succ n)).cong2 (fun q a b _ => mu_ne (by omega)) (fun q a b => mu_ne (by omega)) (fun j hj => by rw [mu_eq, upd_n (by omega)]) ⟨r - j, wh, dy, vl, by omega, by rw [mu_eq, upd_s], by rw [mu_eq, upd_s], fun j hj => ?_⟩
      rw [mu_ne (by decide), mu_ne (by decide), mu_ne (by decide), mu_ne (by decide), mu_ne (by decide), mu_ne (by decide)]
      exact hr3 j (by omega)
    · exact hSh.cong (fun q a b => mu_ne (by omega)) (fun q a b => mu_ne (by omega))
    · rw [mu_ne (by decide), mu_eq, upd_n (by decide)]; exact h6
    · rw [mu_ne (by decide), mu_eq, upd_n (by decide)]; exact h7
    · rw [mu_ne (by decide), mu_eq, upd_n (by decide)]; exact h8
  · rw [bR_f r1, if_pos rfl, ch_f2 (m := nI r) r1 (by rw [nI_toInt (by omega)]; omega)]
    exact OkE.ee h (-2) rfl rfl
/-- the class's object and the reference's take one value each at the fields of fault, trace -/
theorem Rel.flt {n : Nat} {A M : Mem} (h : Rel n A M) (v : Int32) : Rel (n + 1) (mu A 0 8 v) (mu M 0 0 v) := by
  refine h.own (fun q a _ _ _ _ _ => mu_ne (by omega)) (fun q a => mu_ne (by unfold Pq at a; omega)) (fun j hj => by rw [mu_eq, upd_n (by omega)]) ?_ ?_ ?_
  · rw [mu_eq, mu_eq, upd_n (by decide), upd_n (by decide)]; exact h.2.2.1
  · rw [mu_eq, mu_eq, upd_n (by decide), upd_n (by decide)]; exact h.2.2.2.1
  · rw [mu_eq, mu_eq, upd_s, upd_s]
theorem Rel.flt2 {n : Nat} {A M : Mem} (h : Rel n A M) (u v : Int32) : Rel (n + 1) (mu (mu A 0 8 u) 0 8 v) (mu M 0 0 v) := by
  refine h.own (fun q a _ _ _ _ _ => by rw [mu_ne (by omega), mu_ne (by omega)]) (fun q a => mu_ne (by unfold Pq at a; omega)) (fun j hj => by rw [mu_eq, upd_n (by omega)]) ?_ ?_ ?_
  · rw [mu_eq, mu_eq, mu_eq, upd_n (by decide), upd_n (by decide), upd_n (by decide)]; exact h.2.2.1
  · rw [mu_eq, mu_eq, mu_eq, upd_n (by decide), upd_n (by decide), upd_n (by decide)]; exact h.2.2.2.1
  · rw [mu_eq, upd_s, mu_eq, upd_s]
theorem sim_as {n : Nat} {A M : Mem} (h : Rel n A M) (v1 v2 : Int32) : OkE n (d_X8_as v1 v2 A) (d_X9_as v1 v2 M) := by
  obtain ⟨⟨c, k, kd, fr, to, cv, w, wk, s, hTw⟩, hSh, h6, h7, h8⟩ := id h
  obtain ⟨hT, hck, hXS, hXC, hXW, hMS, hMC, hMW, hs, hwk, hRd⟩ := id hTw
  have hk := hT.2.1
  unfold d_X8_as d_X9_as d_X8_faulted d_X9_failed d_X9_refused
  simp only [lm_eq, Chas_s (M := mu A 0 8 0) (o := 6) (show k < 2 ^ 31 by omega) (by rw [mu_ne (show (6 : Nat) ≠ 0 by decide)]; exact hXC.1), nF_s (show k < 2 ^ 31 by omega) hMC.1, bd1_some, bd2_some, isKind_s]
  by_cases r1 : rg v1 k
  · rw [bR_t r1, nb_t r1, if_neg one0, if_pos rfl, inR_s (n := 3) (by decide) (by decide), bd1_some]
    by_cases r2 : rg v2 3
    · rw [bR_t r2, if_neg one0, if_neg one0]
      obtain ⟨i, hi, rfl⟩ := rg_of (by omega) r1
      have b6 : inB (nI i) 6 = true := inB_t (show i < 6 by omega) (by decide)
      rw [if_pos b6, if_pos b6, cl (by omega), mu_ne (show ft 6 i ≠ 0 by unfold ft; omega), (hXC.2 i hi).1, (hMC.2 i hi).1]
      by_cases q : nI (kd i) < v2
      · rw [if_pos q, if_pos q]
        exact ⟨_, _, _, rfl, rfl, h.flt2 0 2⟩
      · rw [if_neg q, if_neg q]
        exact ⟨_, _, _, rfl, rfl, h.flt 0⟩
    · rw [bR_f r2, if_pos rfl, if_pos rfl]
      exact ⟨_, _, _, rfl, rfl, h.flt 0⟩
  · rw [bR_f r1, nb_f r1, if_pos rfl, if_neg one0]
    exact ⟨_, _, _, rfl, rfl, h.flt 0⟩
def xt (A : Mem) (v : Int32) : Mem := mu A 0 7 (31 * A 0 7 + v)
def mt (M : Mem) (v : Int32) : Mem := mu M 0 38 (31 * M 0 38 + v)
theorem leave_s (v : Int32) (A : Mem) : d_X8_leave v A = some (xt A v) := rfl
theorem traced_s (v : Int32) (M : Mem) : d_X9_traced v M = some (mt M v) := rfl
theorem xt_ne {A : Mem} {v : Int32} {q : Nat} (h : q ≠ 0) : xt A v q = A q := mu_ne h
theorem mt_ne {M : Mem} {v : Int32} {q : Nat} (h : q ≠ 0) : mt M v q = M q := mu_ne h
/-- trace apart -/
def Rtr (n : Nat) (A M : Mem) : Prop := Rel n A M
theorem Rel.tr {n : Nat} {A M : Mem} (h : Rel n A M) (v : Int32) : Rel (n + 1) (xt A v) (mt M v) := by
  refine h.own (fun q a _ _ _ _ _ => mu_ne (by omega)) (fun q a => mu_ne (by unfold Pq at a; omega)) (fun j hj => by unfold mt; rw [mu_eq, upd_n (by omega)]) ?_ ?_ ?_
  · unfold xt mt; rw [mu_eq, mu_eq, upd_n (by decide), upd_n (by decide)]; exact h.2.2.1
  · unfold xt mt; rw [mu_eq, mu_eq, upd_s, upd_s, h.2.2.2.1]
  · unfold xt mt; rw [mu_eq, mu_eq, upd_n (by decide), upd_n (by decide)]; exact h.2.2.2.2
theorem Tw.dn {n n1 c k : Nat} {kd fr to cv : Nat → Nat} {w : Nat → Nat → Nat} {wk : Nat → Nat} {s : Nat} {A M A1 M1 : Mem} (h : Tw n c k kd fr to cv w wk s A M) (g : Tw n1 c k kd fr to cv w wk s A1 M1) : Tw n c k kd fr to cv w wk s A1 M1 := by
  obtain ⟨h1, h2, h3, h4, h5, h6, h7, h8, h9, h10, h11⟩ := g
  obtain ⟨-, -, -, -, -, -, -, -, -, k10, -⟩ := h
  exact ⟨h1, h2, h3, h4, h5, h6, h7, h8, h9, k10, h11⟩
theorem Rel.tr0 {n : Nat} {A M : Mem} (h : Rel n A M) (v : Int32) : Rel n (xt A v) (mt M v) := by
  have g := h.tr v
  obtain ⟨⟨c, k, kd, fr, to, cv, w, wk, s, hTw⟩, hSh, -⟩ := id h
  refine ⟨⟨c, k, kd, fr, to, cv, w, wk, s, hTw.cong (fun q a _ _ _ _ _ => mu_ne (by omega)) (fun q a _ => mu_ne (by unfold Pq at a; omega)) (fun j hj => by unfold mt; rw [mu_eq, upd_n (by omega)])⟩, g.2⟩
theorem sim_ring {n : Nat} {A M : Mem} (h : Rel n A M) (v1 : Int32) : OkE n (d_X8_ring v1 A) (d_X9_ring v1 M) := by
  obtain ⟨⟨c, k, kd, fr, to, cv, w, wk, s, hTw⟩, hSh, h6, h7, h8⟩ := id h
  obtain ⟨hT, hck, hXS, hXC, hXW, hMS, hMC, hMW, hs, hwk, hRd⟩ := id hTw
  have hk := hT.2.1
  unfold d_X8_ring d_X9_ring
  simp only [Chas_s (show k < 2 ^ 31 by omega) hXC.1, nF_s (show k < 2 ^ 31 by omega) hMC.1, bd1_some, leave_s]
  by_cases r1 : rg v1 k
  · rw [bR_t r1, nb_t r1, if_neg one0, if_pos rfl]
    obtain ⟨i, hi, rfl⟩ := rg_of (by omega) r1
    have b6 : inB (nI i) 6 = true := inB_t (show i < 6 by omega) (by decide)
    unfold dX9_ring_26j
    simp only [b6, if_true, cl (show i < 2 ^ 31 by omega), (hXC.2 i hi).1, (hMC.2 i hi).1, traced_s, bd1_some, mt_ne (show (3 : Nat) ≠ 0 by decide)]
    by_cases q : nI (kd i) = (2 : Int32)
    · simp only [if_pos q]
      exact ⟨_, _, _, rfl, rfl, h.tr 5⟩
    · simp only [if_neg q]
      exact ⟨_, _, _, rfl, rfl, h.tr 4⟩
  · rw [bR_f r1, nb_f r1, if_pos rfl, if_neg one0]
    exact OkE.ee h (-1) rfl rfl
theorem tell_sum (x : Int32) : x + 100 + x = 2 * x + 100 := by
  have : (2 : Int32) = 1 + 1 := by decide
  rw [this, Int32.add_mul, Int32.one_mul, Int32.add_assoc, Int32.add_comm 100 x, Int32.add_assoc]
theorem sim_tell {n : Nat} {A M : Mem} (h : Rel n A M) (v1 : Int32) : OkE n (d_X8_tell v1 A) (d_X9_tell v1 M) := by
  obtain ⟨⟨c, k, kd, fr, to, cv, w, wk, s, hTw⟩, hSh, h6, h7, h8⟩ := id h
  obtain ⟨hT, hck, hXS, hXC, hXW, hMS, hMC, hMW, hs, hwk, hRd⟩ := id hTw
  have hk := hT.2.1
  unfold d_X8_tell d_X9_tell
  simp only [Chas_s (show k < 2 ^ 31 by omega) hXC.1, nF_s (show k < 2 ^ 31 by omega) hMC.1, bd1_some]
  by_cases r1 : rg v1 k
  · rw [bR_t r1, nb_t r1, if_neg one0, if_pos rfl]
    obtain ⟨i, hi, rfl⟩ := rg_of (by omega) r1
    have b6 : inB (nI i) 6 = true := inB_t (show i < 6 by omega) (by decide)
    have f0 : ft 6 i ≠ 0 := by unfold ft; omega
    have hkd := (hT.2.2.1 i hi).1
    have e3 := (hXC.2 i hi).2.2.2
    have e6 := (hMC.2 i hi).2.2.2
    unfold d_X8_tellPair d_X8_tellMan d_X8_tellBoy dX9_tell_27j dX9_tell_36j dX9_tell_51j
    simp only [b6, if_true, cl (show i < 2 ^ 31 by omega), (hXC.2 i hi).1, (hMC.2 i hi).1, lm_eq, leave_s, traced_s, bd1_some, bd2_some, xt_ne f0, mt_ne (show (6 : Nat) ≠ 0 by decide), e3, e6]
    rcases (show kd i = 0 ∨ kd i = 1 ∨ kd i = 2 by omega) with q | q | q
    · rw [q]
      refine ⟨nI (cv i), xt A 1, mt M 1, by rw [if_pos nI_0], ?_, h.tr 1⟩
      rw [if_neg (show ¬ nI 0 = (2 : Int32) by decide), if_pos (show nI 0 ≤ (0 : Int32) by decide), if_neg (show ¬ nI 0 = (2 : Int32) by decide), if_pos nI_0]
    · rw [q]
      refine ⟨nI (cv i) + 100, xt (xt A 2) 1, mt (mt M 2) 1, ?_, ?_, (h.tr0 2).tr 1⟩
      · rw [if_neg (show ¬ nI 1 = (0 : Int32) by decide), if_pos (show nI 1 = (1 : Int32) by decide)]
      · rw [if_neg (show ¬ nI 1 = (2 : Int32) by decide), if_neg (show ¬ nI 1 ≤ (0 : Int32) by decide), if_neg (show ¬ nI 1 = (2 : Int32) by decide), if_neg (show ¬ nI 1 = (0 : Int32) by decide), if_pos (show nI 1 = (1 : Int32) by decide)]
    · rw [q]
      refine ⟨nI (cv i) + 100 + nI (cv i), xt (xt (xt (xt A 3) 2) 1) 1, mt (mt (mt (mt M 3) 2) 1) 1, ?_, ?_, (((h.tr0 3).tr0 2).tr0 1).tr 1⟩
      · rw [if_neg (show ¬ nI 2 = (0 : Int32) by decide), if_neg (show ¬ nI 2 = (1 : Int32) by decide)]
      · rw [if_pos (show nI 2 = (2 : Int32) by decide), if_neg (show ¬ nI 2 ≤ (0 : Int32) by decide), if_pos (show nI 2 = (2 : Int32) by decide), if_neg (show ¬ nI 2 = (0 : Int32) by decide), if_neg (show ¬ nI 2 = (1 : Int32) by decide), tell_sum]
  · rw [bR_f r1, nb_f r1, if_pos rfl, if_neg one0]
    exact OkE.ee h (-1) rfl rfl
