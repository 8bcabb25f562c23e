/-! kept -/
theorem wkI_s (c : Nat) (kd fr to cv : Nat → Nat) (w : Nat → Nat → Nat) (st wk : Nat → Nat) (d i : Nat) : wkI c kd fr to cv w st wk (d + 1) i = if st i = 0 ∧ arB c fr to w (wkI c kd fr to cv w st wk d) i = false then wkI c kd fr to cv w st wk d i + paceN (kd i) (cv i) else wkI c kd fr to cv w st wk d i := rfl
/-- who walks and hasn't arrived yet has walked d days' paces -/
theorem wkI_go {c : Nat} {kd fr to cv : Nat → Nat} {w : Nat → Nat → Nat} {st wk : Nat → Nat} {i : Nat} (hs : st i = 0) : ∀ d, (∀ e, e < d → wk i + e * paceN (kd i) (cv i) < fw w c (fr i) (to i)) → wkI c kd fr to cv w st wk d i = wk i + d * paceN (kd i) (cv i)
  | 0, _ => by rw [Nat.zero_mul, Nat.add_zero]; rfl
  | d + 1, h => by
    have ih := wkI_go hs d (fun e he => h e (by omega))
    have hd := h d (by omega)
    have hz : arB c fr to w (wkI c kd fr to cv w st wk d) i = false := by
      cases q : arB c fr to w (wkI c kd fr to cv w st wk d) i with
      | false => rfl
      | true =>
        have := (arB_iff.mp q).2
        rw [ih] at this
        omega
    have e : (d + 1) * paceN (kd i) (cv i) = d * paceN (kd i) (cv i) + paceN (kd i) (cv i) := Nat.succ_mul d _
    rw [wkI_s, if_pos ⟨hs, hz⟩, ih]
    omega
/-- who sits, or finds no way, never arrives anew -/
theorem wkI_no {c : Nat} {kd fr to cv : Nat → Nat} {w : Nat → Nat → Nat} {st wk : Nat → Nat} {i : Nat} (hs : ¬ st i = 0) : ∀ d, wkI c kd fr to cv w st wk d i = wk i
  | 0 => rfl
  | d + 1 => by
    rw [wkI_s, if_neg (fun q => hs q.1)]
    exact wkI_no hs d
/-- the reference's count of days till it has arrived, or one too many -/
theorem kp_loop {c k i s : Nat} {kd fr to cv wk : Nat → Nat} {w : Nat → Nat → Nat} {M : Mem} {bd : Nat} (hT : TOK c k kd fr to cv w) (hS : MS c w M) (hC : MC k kd fr to cv M) (hW : MW k wk s M) (hs : s < 64) (hB : ∀ j, j < k → wk j ≤ bd) (hbd : bd + 20000 < 2 ^ 31) (hi : i < k) (N : Nat) (hN : N ≤ 1000) (h1 : ∀ d, d < N → arB c fr to w (wkI c kd fr to cv w (bt s) wk d) i = false) (h2 : N = 1000 ∨ arB c fr to w (wkI c kd fr to cv w (bt s) wk N) i = true) (K : Int32 → Mem → Option (Int32 × Mem)) : ∀ (m d f : Nat) (B : Mem), d + m = N → m < f → MF k M B → MW k (wkI c kd fr to cv w (bt s) wk d) s B → ∃ B1 : Mem, dX9_kept_16l (nI i) K f (nI d) B = K (nI N) B1 ∧ MF k M B1 := by
  intro m
  induction m with
  | zero =>
    intro d f B hd hf hF hV
    obtain ⟨f, rfl⟩ : ∃ f1, f = f1 + 1 := ⟨f - 1, by omega⟩
    have e : d = N := by omega
    subst e
    rw [dX9_kept_16l]
    by_cases z : d = 1000
    · rw [if_pos (show (999 : Int32) < nI d from nI_lt (a := 999) (by omega) (by omega))]
      exact ⟨B, rfl, hF⟩
    · have hb := wkI_le hT (wk := wk) (st := bt s) hi d
      have hb2 := hB i hi
      rw [if_neg (show ¬ (999 : Int32) < nI d from nI_nlt (b := d) (a := 999) (by omega) (by decide)), Marr_s (bd := bd + 10000) hT (hF.S hS) (hF.C hC) hi (hV.2 i hi) (by omega) (by omega), bd1_some, bI_t (by rcases h2 with q | q; exact absurd q z; exact q), if_neg one0]
      exact ⟨B, rfl, hF⟩
  | succ m ih =>
    intro d f B hd hf hF hV
    obtain ⟨f, rfl⟩ : ∃ f1, f = f1 + 1 := ⟨f - 1, by omega⟩
    have hb := wkI_le hT (wk := wk) (st := bt s) hi d
    have hb2 := hB i hi
    rw [dX9_kept_16l, if_neg (show ¬ (999 : Int32) < nI d from nI_nlt (b := d) (a := 999) (by omega) (by decide)), Marr_s (bd := bd + 10000) hT (hF.S hS) (hF.C hC) hi (hV.2 i hi) (by omega) (by omega), bd1_some, bI_f (by rw [h1 d (by omega)]; decide), if_pos rfl]
    obtain ⟨B1, b1, b2, b3, b4⟩ := Mday_s (bd := bd + 10 * d) hT (hF.S hS) (hF.C hC) hV hs (fun j hj => by have := wkI_le hT (wk := wk) (st := bt s) hj d; have := hB j hj; omega) (by omega)
    rw [b1, bd1_some, nI_1]
    exact ih (d + 1) f B1 (by omega) (by omega) (hF.tr b3) b2
theorem dF_s {x y p : Nat} (hx : x ≤ 100000) (hy : y ≤ x) (hp : 1 ≤ p ∧ p ≤ 10) (M : Mem) : d_X8_daysFor (nI x - nI y) (nI p) M = some (nI ((x - y + p - 1) / p)) := by
  unfold d_X8_daysFor
  rw [pk_sub hy]
  by_cases e : x - y = 0
  · rw [e, if_neg (show ¬ (0 : Int32) < nI 0 by decide)]
    rw [show (0 + p - 1) / p = 0 from Nat.div_eq_of_lt (by omega)]
    rfl
  · rw [if_pos (show (0 : Int32) < nI (x - y) from nI_lt (a := 0) (by omega) (by omega)), if_pos (show (1 : Int32) ≤ nI p from nI_le (a := 1) (by omega) (by omega)), if_neg (nI_ne0 (by omega) (by omega)), nI_add, show (1 : Int32) = nI 1 from rfl, pk_sub (by omega), pk_div (by omega) (by omega) (by omega)]
theorem sim_kept {n : Nat} {A M : Mem} (h : Rel n A M) (hn : n ≤ 64) (v1 : Int32) : OkE n (wM A (d_X8_kept v1 A)) (d_X9_kept v1 M) := by
  obtain ⟨⟨c, k, kd, fr, to, cv, w, wk, s, hTw⟩, hSh, h6, h7, h8⟩ := id h
  obtain ⟨hT, hck, hXS, hXC, hXW, hMS, hMC, hMW, hs, hwk, hRd⟩ := id hTw
  have hc := hT.1
  have hk := hT.2.1
  have hw := hT.2.2.2.1
  have hp : 2 ^ k ≤ 2 ^ 6 := Nat.pow_le_pow_right (by decide) hk
  unfold d_X8_kept d_X9_kept
  rw [Chas_s (by omega) hXC.1, bd1_some, nF_s (by omega) hMC.1, bd1_some]
  by_cases r1 : rg v1 k
  · obtain ⟨i, hi, rfl⟩ := rg_of (by omega) r1
    obtain ⟨f1, f2, f3, f4, f5⟩ := hT.2.2.1 i hi
    obtain ⟨e0, e1, e2, e3⟩ := hXC.2 i hi
    obtain ⟨x4, x5⟩ := hXW i hi
    have hpc := paceN_in (kd := kd i) f4 f5
    have b6 : inB (nI i) 6 = true := inB_t (show i < 6 by omega) (by decide)
    obtain ⟨M1, a1, a2, a3, a4⟩ := keepAll_s hk hMC.1
    have S1 : MS c w M1 := ⟨by rw [a4 1 (by decide) (by decide)]; exact hMS.1, by rw [a3 1 (by decide) (by decide)]; exact hMS.2.1, by rw [a3 2 (by decide) (by decide)]; exact hMS.2.2⟩
    have C1 : MC k kd fr to cv M1 := ⟨by rw [a4 2 (by decide) (by decide)]; exact hMC.1, by rw [a3 3 (by decide) (by decide), a3 4 (by decide) (by decide), a3 5 (by decide) (by decide), a3 6 (by decide) (by decide)]; exact hMC.2⟩
    have W1 : MW k wk s M1 := ⟨by rw [a4 4 (by decide) (by decide)]; exact hMW.1, by rw [a3 7 (by decide) (by decide)]; exact hMW.2⟩
    -- the reference, for the right N
    have ref : ∀ N, N ≤ 1000 → (∀ d, d < N → arB c fr to w (wkI c kd fr to cv w (bt s) wk d) i = false) → (N = 1000 ∨ arB c fr to w (wkI c kd fr to cv w (bt s) wk N) i = true) → ∃ M3 : Mem, bd1 (d_X9_keepAll M) (fun (M3 : Mem) => (dX9_kept_16l (nI i) (fun (w8 : Int32) (M9 : Mem) => (bd1 (d_X9_bringBack M9) (fun (M10 : Mem) => (if w8 ≤ (999 : Int32) then (some (w8, M10)) else (some ((-9 : Int32), M10)))))) FU (0 : Int32) M3)) = some (if N = 1000 then -9 else nI N, M3) ∧ Rel (n + 1) A M3 := by
      intro N hN q1 q2
      obtain ⟨B1, b1, b2⟩ := kp_loop hT S1 C1 W1 (by omega) hwk (by omega) hi N hN q1 q2 (fun (w8 : Int32) (M9 : Mem) => (bd1 (d_X9_bringBack M9) (fun (M10 : Mem) => (if w8 ≤ (999 : Int32) then (some (w8, M10)) else (some ((-9 : Int32), M10)))))) N 0 FU M1 (by omega) (show N < 2000 by omega) (MF.rf k M1) W1
      obtain ⟨M3, c1, c2, c3⟩ := bringBack_s hk hMC.1 (a2.F b2)
      refine ⟨M3, ?_, h.own (fun q _ _ _ _ _ _ => rfl) c2 (fun j hj => c3 j (by omega) (by omega) (by omega)) (by rw [c3 3 (by decide) (by decide) (by decide)]; exact h6) (by rw [c3 38 (by decide) (by decide) (by decide)]; exact h7) (by rw [c3 0 (by decide) (by decide) (by decide)]; exact h8)⟩
      rw [a1, bd1_some, show (0 : Int32) = nI 0 from rfl, b1, c1, bd1_some]
      by_cases z : N = 1000
      · rw [if_pos z, z, if_neg (show ¬ nI 1000 ≤ (999 : Int32) by decide)]
      · rw [if_neg z, if_pos (show nI N ≤ (999 : Int32) from nI_le (b := 999) (by omega) (by decide))]
    rw [bR_t r1, nb_t r1, if_neg one0, if_pos rfl, if_pos b6, cl (by omega), Xarr_s hT hXS hXC hXW (WOK.of hwk) (by omega) hi, bd1_some, e1, e2, distance_s hc hw hXS f2 f3, bd1_some, x5, x4]
    have fin : ∀ N, N ≤ 1000 → (∀ d, d < N → arB c fr to w (wkI c kd fr to cv w (bt s) wk d) i = false) → (N = 1000 ∨ arB c fr to w (wkI c kd fr to cv w (bt s) wk N) i = true) → ∀ dx : Option Int32, dx = some (if N = 1000 then -9 else nI N) → OkE n (wM A dx) (bd1 (d_X9_keepAll M) (fun (M3 : Mem) => (dX9_kept_16l (nI i) (fun (w8 : Int32) (M9 : Mem) => (bd1 (d_X9_bringBack M9) (fun (M10 : Mem) => (if w8 ≤ (999 : Int32) then (some (w8, M10)) else (some ((-9 : Int32), M10)))))) FU (0 : Int32) M3))) := by
      intro N hN q1 q2 dx hdx
      obtain ⟨M3, c1, c2⟩ := ref N hN q1 q2
      exact ⟨_, A, M3, by rw [hdx]; rfl, c1, c2⟩
    cases ha : arB c fr to w wk i with
    | true =>
      rw [bI_t rfl, if_neg one0]
      exact fin 0 (by omega) (fun d hd => by omega) (Or.inr ha) _ (by rw [if_neg (by decide)]; rfl)
    | false =>
      rw [bI_f (by decide), if_pos rfl]
      by_cases hst : bt s i = 0
      · rw [hst, if_pos nI_0]
        by_cases g : fw w c (fr i) (to i) < INF
        · have g5 := fw_576 hc hw g
          have hlt : wk i < fw w c (fr i) (to i) := by
            rcases Nat.lt_or_ge (wk i) (fw w c (fr i) (to i)) with q | q
            · exact q
            · rw [arB_iff.mpr ⟨g, q⟩] at ha
              cases ha
          rw [if_neg (fun q => (dI_9.mp q) g), Fpace_s hT hXC hi, bd1_some, dI_f g, dF_s (by omega) (by omega) hpc, bd1_some]
          -- N = the cut quotient
          have hP0 : 0 < paceN (kd i) (cv i) := hpc.1
          have hlow : ∀ d, d < (fw w c (fr i) (to i) - wk i + paceN (kd i) (cv i) - 1) / paceN (kd i) (cv i) → wk i + d * paceN (kd i) (cv i) < fw w c (fr i) (to i) := by
            intro d hd
            have h1 := (Nat.lt_div_iff_mul_lt hP0).mp hd
            omega
          have hup : fw w c (fr i) (to i) ≤ wk i + ((fw w c (fr i) (to i) - wk i + paceN (kd i) (cv i) - 1) / paceN (kd i) (cv i)) * paceN (kd i) (cv i) := by
            have h1 := Nat.div_add_mod (fw w c (fr i) (to i) - wk i + paceN (kd i) (cv i) - 1) (paceN (kd i) (cv i))
            have h2 := Nat.mod_lt (fw w c (fr i) (to i) - wk i + paceN (kd i) (cv i) - 1) hP0
            rw [Nat.mul_comm] at h1
            omega
          have hN : (fw w c (fr i) (to i) - wk i + paceN (kd i) (cv i) - 1) / paceN (kd i) (cv i) ≤ 600 := Nat.le_trans (Nat.div_le_self _ _) (by omega)
          refine fin ((fw w c (fr i) (to i) - wk i + paceN (kd i) (cv i) - 1) / paceN (kd i) (cv i)) (by omega) (fun d hd => ?_) (Or.inr ?_) _ (by rw [if_neg (by omega)])
          · cases q : arB c fr to w (wkI c kd fr to cv w (bt s) wk d) i with
            | false => rfl
            | true =>
              have z := (arB_iff.mp q).2
              rw [wkI_go hst d (fun e he => hlow e (by omega))] at z
              have := hlow d hd
              omega
          · refine arB_iff.mpr ⟨g, ?_⟩
            rw [wkI_go hst _ (fun e he => hlow e he)]
            exact hup
        · rw [if_pos (dI_9.mpr g)]
          refine fin 1000 (by omega) (fun d _ => ?_) (Or.inl rfl) _ (by rw [if_pos rfl])
          cases q : arB c fr to w (wkI c kd fr to cv w (bt s) wk d) i with
          | false => rfl
          | true => exact absurd (arB_iff.mp q).1 g
      · rw [if_neg (nI_ne0 (by omega) (by have := bt_le s i; omega))]
        refine fin 1000 (by omega) (fun d _ => ?_) (Or.inl rfl) _ (by rw [if_pos rfl])
        cases q : arB c fr to w (wkI c kd fr to cv w (bt s) wk d) i with
        | false => rfl
        | true =>
          have z := arB_iff.mp q
          rw [wkI_no hst d] at z
          rw [arB_iff.mpr z] at ha
          cases ha
  · rw [bR_f r1, nb_f r1, if_pos rfl, if_neg one0]
    exact OkE.pe h (-1) rfl rfl
