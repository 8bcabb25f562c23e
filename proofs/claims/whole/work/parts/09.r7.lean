/-! who sits, as bits; sit, rise, give -/
theorem fa_and (a b : Nat) : nI a &&& nI b = nI (a &&& b) := by
  apply Int32.toBitVec_inj.1
  show BitVec.ofNat 32 a &&& BitVec.ofNat 32 b = BitVec.ofNat 32 (a &&& b)
  apply BitVec.eq_of_getLsbD_eq
  intro i hi
  simp [hi]
/-- how many of the lowest m bits are set -/
def pb : Nat → Nat → Nat
  | 0, _ => 0
  | m + 1, s => s % 2 + pb m (s / 2)
theorem pb_0 : ∀ m, pb m 0 = 0
  | 0 => rfl
  | m + 1 => by
    show 0 % 2 + pb m (0 / 2) = 0
    rw [show 0 / 2 = 0 from rfl, pb_0 m]
theorem bits_l (M : Mem) : ∀ m s a f, s < 2 ^ m → m ≤ 30 → m < f → a + m < 2 ^ 31 → dX9_bits_4l M f (nI a) (nI s) = some (nI (a + pb m s)) := by
  intro m
  induction m with
  | zero =>
    intro s a f hs hm hf ha
    obtain ⟨f, rfl⟩ : ∃ f1, f = f1 + 1 := ⟨f - 1, by omega⟩
    have e : s = 0 := by omega
    subst e
    rw [dX9_bits_4l, if_pos (by rw [nI_0]; decide)]
    rfl
  | succ m ih =>
    intro s a f hs hm hf ha
    obtain ⟨f, rfl⟩ : ∃ f1, f = f1 + 1 := ⟨f - 1, by omega⟩
    have h30 : 2 ^ (m + 1) ≤ 2 ^ 30 := Nat.pow_le_pow_right (by decide) hm
    rcases Nat.eq_zero_or_pos s with e | e
    · subst e
      rw [dX9_bits_4l, if_pos (by rw [nI_0]; decide), pb_0]
      rfl
    · rw [dX9_bits_4l, if_neg (nI_nle e (by omega)), lm_eq, lm_eq, pk_andN (show s < 2 ^ 32 by omega) 1 (by decide), nI_add, pk_shrN (show s < 2 ^ 31 by omega) _ 1 (by decide)]
      have hs2 : s / 2 < 2 ^ m := by rw [Nat.pow_succ] at hs; omega
      rw [ih (s / 2 ^ 1) (a + s % 2 ^ 1) f (by simpa using hs2) (by omega) (by omega) (by omega)]
      congr 2
      show a + s % 2 ^ 1 + pb m (s / 2 ^ 1) = a + (s % 2 + pb m (s / 2))
      simp only [Nat.pow_one]
      omega
theorem bits_s {m s : Nat} (hs : s < 2 ^ m) (hm : m ≤ 30) (M : Mem) : d_X9_bits (nI s) M = some (nI (pb m s)) := by
  have h := bits_l M m s 0 FU hs hm (show m < 2000 by omega) (by omega)
  rw [Nat.zero_add] at h
  exact h
/-- the machine's own way to count bits, over plain numbers -/
def pc1 (s : Nat) : Nat := s - (s / 2 &&& 1431655765)
def pc2 (s : Nat) : Nat := (pc1 s &&& 858993459) + (pc1 s / 4 &&& 858993459)
def pc3 (s : Nat) : Nat := (pc2 s + pc2 s / 16) &&& 252645135
def pc4 (s : Nat) : Nat := pc3 s + pc3 s / 256
def pc5 (s : Nat) : Nat := pc4 s + pc4 s / 65536
theorem bc_s {s : Nat} (hs : s < 2 ^ 15) (M : Mem) : d_J6_bitCount_0f7a4 (nI s) M = some (nI (pc5 s &&& 63)) := by
  have h1 : pc1 s ≤ s := by unfold pc1; omega
  have h2 : pc2 s ≤ 2 * s := by
    unfold pc2
    have a1 : pc1 s &&& 858993459 ≤ pc1 s := Nat.and_le_left
    have a2 : pc1 s / 4 &&& 858993459 ≤ pc1 s / 4 := Nat.and_le_left
    omega
  have h3 : pc3 s ≤ 4 * s := by
    unfold pc3
    have a1 : (pc2 s + pc2 s / 16) &&& 252645135 ≤ pc2 s + pc2 s / 16 := Nat.and_le_left
    omega
  have h4 : pc4 s ≤ 8 * s := by unfold pc4; omega
  unfold d_J6_bitCount_0f7a4
  simp only [lm_eq]
  have sub : s / 2 &&& 1431655765 ≤ s := Nat.le_trans Nat.and_le_left (by omega)
  rw [pk_ushrN (show s < 2 ^ 32 by omega) 1 1 (by decide), show (1431655765 : Int32) = nI 1431655765 from rfl, fa_and, pk_sub (by simpa using sub), show s - (s / 2 ^ 1 &&& 1431655765) = pc1 s from rfl, pk_ushrN (show pc1 s < 2 ^ 32 by omega) 2 2 (by decide), show (858993459 : Int32) = nI 858993459 from rfl, fa_and, fa_and, nI_add, show (pc1 s &&& 858993459) + (pc1 s / 2 ^ 2 &&& 858993459) = pc2 s from rfl, pk_ushrN (show pc2 s < 2 ^ 32 by omega) 4 4 (by decide), nI_add, show (252645135 : Int32) = nI 252645135 from rfl, fa_and, show (pc2 s + pc2 s / 2 ^ 4) &&& 252645135 = pc3 s from rfl, pk_ushrN (show pc3 s < 2 ^ 32 by omega) 8 8 (by decide), nI_add, show pc3 s + pc3 s / 2 ^ 8 = pc4 s from rfl, pk_ushrN (show pc4 s < 2 ^ 32 by omega) 16 16 (by decide), nI_add, show pc4 s + pc4 s / 2 ^ 16 = pc5 s from rfl, show (63 : Int32) = nI 63 from rfl, fa_and]
set_option maxRecDepth 20000 in
theorem pc_dec : ∀ a, a < 128 → ∀ b, b < 256 → pc5 (256 * a + b) &&& 63 = pb 15 (256 * a + b) := by decide +kernel
theorem bitCount_s {s : Nat} (hs : s < 2 ^ 15) (M : Mem) : d_J6_bitCount_0f7a4 (nI s) M = some (nI (pb 15 s)) := by
  rw [bc_s hs]
  have h := pc_dec (s / 256) (by omega) (s % 256) (by omega)
  rw [show 256 * (s / 256) + s % 256 = s by omega] at h
  rw [h]
theorem sit_dec : ∀ s, s < 64 → ∀ i, i < 6 → (nI (s % 2 ^ i) ||| ((1 : Int32) <<< (nI i &&& 31))) = nI (s % 2 ^ i + 2 ^ i) := by decide +kernel
theorem mod_dec : ∀ s, s < 64 → ∀ i, i < 6 → s % 2 ^ (i + 1) = s % 2 ^ i + bt s i * 2 ^ i := by decide +kernel
theorem sitters_s {o k s : Nat} {kd fr to cv wk : Nat → Nat} {A : Mem} (hk : k ≤ 6) (hC : XC o k kd fr to cv A) (hW : XW o k wk (bt s) A) (hs : s < 2 ^ k) : d_X0_sitters o A = some (nI s) := by
  have hp : 2 ^ k ≤ 2 ^ 6 := Nat.pow_le_pow_right (by decide) hk
  have key : ∀ n i f, i + n = k → n < f → dX0_sitters_4l o A f (nI (s % 2 ^ i)) (nI i) = some (nI (s % 2 ^ k)) := by
    intro n
    induction n with
    | zero =>
      intro i f hi hf
      obtain ⟨f, rfl⟩ : ∃ f1, f = f1 + 1 := ⟨f - 1, by omega⟩
      have e : i = k := by omega
      subst e
      rw [dX0_sitters_4l, hC.1, if_pos (le_t (Nat.le_refl _) (by omega))]
    | succ n ih =>
      intro i f hi hf
      obtain ⟨f, rfl⟩ : ∃ f1, f = f1 + 1 := ⟨f - 1, by omega⟩
      have h := ih (i + 1) f (by omega) (by omega)
      have hm := mod_dec s (by omega) i (by omega)
      rw [dX0_sitters_4l, hC.1, if_neg (le_f (by omega) (by omega)), if_pos (inB_t (show i < 6 by omega) (by decide)), cl (by omega), (hW i (by omega)).2, lm_eq, nI_1]
      rcases (show bt s i = 0 ∨ bt s i = 1 by have := bt_le s i; omega) with e | e
      · rw [e, if_pos nI_0]
        rw [e, Nat.zero_mul, Nat.add_zero] at hm
        rw [hm] at h
        exact h
      · rw [e, if_neg (show ¬ nI 1 = (0 : Int32) by decide), sit_dec s (by omega) i (by omega)]
        rw [e, Nat.one_mul] at hm
        rw [hm] at h
        exact h
  have h := key k 0 FU (by omega) (show k < 2000 by omega)
  rw [Nat.mod_eq_of_lt hs, show s % 2 ^ 0 = 0 by simp [Nat.mod_one]] at h
  exact h
theorem turn_s {o k i v : Nat} {kd fr to cv wk : Nat → Nat} {s : Nat} {A : Mem} (hk : k ≤ 6) (hC : XC o k kd fr to cv A) (hW : XW o k wk (bt s) A) (hi : i < k) (hv : v ≤ 1) : d_X0_turn o (nI i) (nI v) A = if bt s i = v then some (0, A) else some (1, mu A (ft o i) 5 (nI v)) := by
  unfold d_X0_turn
  have b6 : inB (nI i) 6 = true := inB_t (show i < 6 by omega) (by decide)
  have hz : isZ (nI v) = true := by rcases (show v = 0 ∨ v = 1 by omega) with e | e <;> subst e <;> decide
  rw [Chas_s (by omega) hC.1, bd1_some, bR_t ((rg_nI (by omega)).mpr hi), if_neg one0, if_pos b6, cl (by omega), (hW i hi).2, if_pos b6, if_pos hz, lm_eq]
  by_cases e : bt s i = v
  · rw [if_pos e, if_pos (by rw [e])]
  · rw [if_neg e, if_neg (fun q => e ((nI_eq (by have := bt_le s i; omega) (by omega)).mp q))]
theorem set_dec : ∀ s, s < 64 → ∀ i, i < 6 → (nI s ||| ((1 : Int32) <<< (nI i &&& 31))) = nI (s + (1 - bt s i) * 2 ^ i) := by decide +kernel
theorem clr_dec : ∀ s, s < 64 → ∀ i, i < 6 → (nI s &&& (((1 : Int32) <<< (nI i &&& 31)) ^^^ (-1 : Int32))) = nI (s - bt s i * 2 ^ i) := by decide +kernel
theorem sup_dec : ∀ s, s < 64 → ∀ i, i < 6 → ∀ j, j < 6 → bt (s + (1 - bt s i) * 2 ^ i) j = if j = i then 1 else bt s j := by decide +kernel
theorem sdn_dec : ∀ s, s < 64 → ∀ i, i < 6 → ∀ j, j < 6 → bt (s - bt s i * 2 ^ i) j = if j = i then 0 else bt s j := by decide +kernel
theorem slt_dec : ∀ k, k < 7 → ∀ s, s < 64 → ∀ i, i < 6 → s < 2 ^ k → i < k → s + (1 - bt s i) * 2 ^ i < 2 ^ k := by decide +kernel
/-- what a change of who sits leaves -/
theorem Rel.sits {n c k : Nat} {kd fr to cv : Nat → Nat} {w : Nat → Nat → Nat} {wk : Nat → Nat} {s s1 i : Nat} {A M : Mem} {v : Nat} (h : Rel n A M) (hTw : Tw n c k kd fr to cv w wk s A M) (hi : i < k) (h1 : s1 < 2 ^ k) (hb : ∀ j, j < k → bt s1 j = if j = i then v else bt s j) : Rel (n + 1) (mu A (ft 6 i) 5 (nI v)) (mu M 0 4 (nI s1)) := by
  obtain ⟨hT, hck, hXS, hXC, hXW, hMS, hMC, hMW, hs, hwk, hRd⟩ := hTw
  have hk := hT.2.1
  have hf : 8 ≤ ft 6 i ∧ ft 6 i ≤ 13 := by unfold ft; omega
  have aq : ∀ q, q < 8 ∨ 13 < q → mu A (ft 6 i) 5 (nI v) q = A q := fun q hq => mu_ne (by omega)
  have mq : ∀ q, q ≠ 0 → mu M 0 4 (nI s1) q = M q := fun q hq => mu_ne hq
  refine ⟨⟨c, k, kd, fr, to, cv, w, wk, s1, hT, hck, ⟨by rw [aq 2 (by omega)]; exact hXS.1, by rw [aq 3 (by omega)]; exact hXS.2.1, by rw [aq 4 (by omega)]; exact hXS.2.2⟩, ⟨by rw [aq 6 (by omega)]; exact hXC.1, fun j hj => ?_⟩, fun j hj => ?_, ⟨by rw [mu_eq, upd_n (by decide)]; exact hMS.1, by rw [mq 1 (by decide)]; exact hMS.2.1, by rw [mq 2 (by decide)]; exact hMS.2.2⟩, ⟨by rw [mu_eq, upd_n (by decide)]; exact hMC.1, by rw [mq 3 (by decide), mq 4 (by decide), mq 5 (by decide), mq 6 (by decide)]; exact hMC.2⟩, ⟨by rw [mu_eq, upd_s], by rw [mq 7 (by decide)]; exact hMW.2⟩, h1, fun j hj => by have := hwk j hj; omega, ?_⟩, ?_, ?_, ?_, ?_⟩
  · by_cases e : j = i
    · subst e
      rw [mu_eq, upd_n (by decide), upd_n (by decide), upd_n (by decide), upd_n (by decide)]
      exact hXC.2 j hj
    · rw [mu_ne (ft_ne e)]; exact hXC.2 j hj
  · by_cases e : j = i
    · subst e
      rw [mu_eq, upd_n (by decide), upd_s, hb j hj, if_pos rfl]
      exact ⟨(hXW j hj).1, rfl⟩
    · rw [mu_ne (ft_ne e), hb j hj, if_neg e]; exact hXW j hj
  · obtain ⟨r, wh, dy, vl, hr, hr1, hr2, hr3⟩ := hRd
    refine ⟨r, wh, dy, vl, hr, by rw [aq 25 (by omega)]; exact hr1, by rw [mu_eq, upd_n (by decide)]; exact hr2, ?_⟩
    rw [aq 26 (by omega), aq 27 (by omega), aq 28 (by omega), mq 18 (by decide), mq 19 (by decide), mq 20 (by decide)]
    exact hr3
  · exact h.2.1.cong (fun q x y => aq q (by omega)) (fun q x y => mq q (by omega))
  · rw [aq 0 (by omega), mu_eq, upd_n (by decide)]; exact h.2.2.1
  · rw [aq 0 (by omega), mu_eq, upd_n (by decide)]; exact h.2.2.2.1
  · rw [aq 0 (by omega), mu_eq, upd_n (by decide)]; exact h.2.2.2.2
theorem mu_id {M : Mem} {o j : Nat} {v : Int32} (h : M o j = v) : mu M o j v = M := by
  funext q
  by_cases e : q = o
  · subst e
    rw [mu_eq]
    funext i
    rw [upd_ap]
    by_cases f : i = j
    · subst f; rw [if_pos rfl, h]
    · rw [if_neg f]
  · rw [mu_ne e]
theorem sim_sit {n : Nat} {A M : Mem} (h : Rel n A M) (v1 : Int32) : OkE n (d_X8_sit v1 A) (d_X9_sit v1 M) := by
  obtain ⟨⟨c, k, kd, fr, to, cv, w, wk, s, hTw⟩, hSh, h6, h7, h8⟩ := id h
  obtain ⟨hT, hck, hXS, hXC, hXW, hMS, hMC, hMW, hs, hwk, hRd⟩ := id hTw
  have hk := hT.2.1
  have hp : 2 ^ k ≤ 2 ^ 6 := Nat.pow_le_pow_right (by decide) hk
  unfold d_X8_sit d_X9_sit
  rw [Chas_s (by omega) hXC.1, bd1_some, nF_s (by omega) hMC.1, bd1_some]
  by_cases r1 : rg v1 k
  · obtain ⟨i, hi, rfl⟩ := rg_of (by omega) r1
    rw [bR_t r1, nb_t r1, if_neg one0, if_pos rfl, show (1 : Int32) = nI 1 from rfl, turn_s hk hXC hXW hi (by omega)]
    unfold d_X9_sat dX9_sat_16j
    rw [hMW.1, isIn_s (by omega) (by omega), bd1_some, lm_eq, lm_eq, show (1 : Int32) = nI 1 from rfl, show (nI s ||| (nI 1 <<< (nI i &&& 31))) = nI (s + (1 - bt s i) * 2 ^ i) from set_dec s (by omega) i (by omega)]
    rcases (show bt s i = 0 ∨ bt s i = 1 by have := bt_le s i; omega) with e | e
    · rw [e, if_neg (by decide), bI_f (by decide), if_pos rfl, if_pos (by decide), bd2_some, bd2_some, if_neg (by decide), if_neg (by decide)]
      have g := h.sits hTw (v := 1) (s1 := s + (1 - bt s i) * 2 ^ i) hi (slt_dec k (by omega) s (by omega) i (by omega) hs hi) (fun j hj => sup_dec s (by omega) i (by omega) j (by omega))
      rw [e] at g
      have hlt := slt_dec k (by omega) s (by omega) i (by omega) hs hi
      rw [e] at hlt
      have gC : XC 6 k kd fr to cv (mu A (ft 6 i) 5 (nI 1)) := by
        refine ⟨by rw [mu_ne (by unfold ft; omega)]; exact hXC.1, fun j hj => ?_⟩
        by_cases q : j = i
        · subst q; rw [mu_eq, upd_n (by decide), upd_n (by decide), upd_n (by decide), upd_n (by decide)]; exact hXC.2 j hj
        · rw [mu_ne (ft_ne q)]; exact hXC.2 j hj
      have gW : XW 6 k wk (bt (s + (1 - 0) * 2 ^ i)) (mu A (ft 6 i) 5 (nI 1)) := fun j hj => by
        have hb := sup_dec s (by omega) i (by omega) j (by omega)
        rw [e] at hb
        by_cases q : j = i
        · subst q; rw [mu_eq, upd_n (by decide), upd_s, hb, if_pos rfl]; exact ⟨(hXW j hj).1, rfl⟩
        · rw [mu_ne (ft_ne q), hb, if_neg q]; exact hXW j hj
      rw [sitters_s hk gC gW hlt, bd1_some, bitCount_s (by omega), bd1_some, mu_eq, upd_s, bits_s (m := 15) (by omega) (by decide), bd1_some]
      exact ⟨_, _, _, rfl, rfl, g⟩
    · rw [e, if_pos rfl, bI_t rfl, if_neg one0, if_pos (by decide), bd2_some, bd2_some, if_pos rfl, if_pos rfl]
      refine ⟨_, _, _, rfl, rfl, ?_⟩
      rw [mu_id (by rw [hMW.1]; simp)]
      exact h.mono
  · rw [bR_f r1, nb_f r1, if_pos rfl, if_neg one0]
    exact OkE.ee h (-1) rfl rfl
theorem sim_rise {n : Nat} {A M : Mem} (h : Rel n A M) (v1 : Int32) : OkE n (d_X8_rise v1 A) (d_X9_rise v1 M) := by
  obtain ⟨⟨c, k, kd, fr, to, cv, w, wk, s, hTw⟩, hSh, h6, h7, h8⟩ := id h
  obtain ⟨hT, hck, hXS, hXC, hXW, hMS, hMC, hMW, hs, hwk, hRd⟩ := id hTw
  have hk := hT.2.1
  have hp : 2 ^ k ≤ 2 ^ 6 := Nat.pow_le_pow_right (by decide) hk
  unfold d_X8_rise d_X9_rise
  rw [Chas_s (by omega) hXC.1, bd1_some, nF_s (by omega) hMC.1, bd1_some]
  by_cases r1 : rg v1 k
  · obtain ⟨i, hi, rfl⟩ := rg_of (by omega) r1
    rw [bR_t r1, nb_t r1, if_neg one0, if_pos rfl, show d_X0_turn 6 (nI i) (0 : Int32) A = d_X0_turn 6 (nI i) (nI 0) A from rfl, turn_s hk hXC hXW hi (by omega)]
    unfold d_X9_rose
    rw [hMW.1, isIn_s (by omega) (by omega), bd1_some, lm_eq, clr_dec s (by omega) i (by omega), if_pos bI_Z]
    have hlt : s - bt s i * 2 ^ i < 2 ^ k := by omega
    rcases (show bt s i = 0 ∨ bt s i = 1 by have := bt_le s i; omega) with e | e
    · rw [e, if_pos rfl, bI_f (by decide), bd2_some, bd2_some, if_pos rfl, if_pos rfl]
      refine ⟨_, _, _, rfl, rfl, ?_⟩
      rw [mu_id (by rw [hMW.1]; simp)]
      exact h.mono
    · rw [if_neg (by omega), bI_t e, bd2_some, bd2_some, if_neg one0, if_neg one0]
      have g := h.sits hTw (v := 0) (s1 := s - bt s i * 2 ^ i) hi hlt (fun j hj => sdn_dec s (by omega) i (by omega) j (by omega))
      have gC : XC 6 k kd fr to cv (mu A (ft 6 i) 5 (nI 0)) := by
        refine ⟨by rw [mu_ne (by unfold ft; omega)]; exact hXC.1, fun j hj => ?_⟩
        by_cases q : j = i
        · subst q; rw [mu_eq, upd_n (by decide), upd_n (by decide), upd_n (by decide), upd_n (by decide)]; exact hXC.2 j hj
        · rw [mu_ne (ft_ne q)]; exact hXC.2 j hj
      have gW : XW 6 k wk (bt (s - bt s i * 2 ^ i)) (mu A (ft 6 i) 5 (nI 0)) := fun j hj => by
        have hb := sdn_dec s (by omega) i (by omega) j (by omega)
        by_cases q : j = i
        · subst q; rw [mu_eq, upd_n (by decide), upd_s, hb, if_pos rfl]; exact ⟨(hXW j hj).1, rfl⟩
        · rw [mu_ne (ft_ne q), hb, if_neg q]; exact hXW j hj
      rw [sitters_s hk gC gW hlt, bd1_some, bitCount_s (by omega), bd1_some, mu_eq, upd_s, bits_s (m := 15) (by omega) (by decide), bd1_some]
      exact ⟨_, _, _, rfl, rfl, g⟩
  · rw [bR_f r1, nb_f r1, if_pos rfl, if_neg one0]
    exact OkE.ee h (-1) rfl rfl
