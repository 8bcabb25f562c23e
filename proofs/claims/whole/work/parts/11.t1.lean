/-! tree -/
theorem fa_or (a b : Nat) : nI a ||| nI b = nI (a ||| b) := by
  apply Int32.toBitVec_inj.1
  show BitVec.ofNat 32 a ||| BitVec.ofNat 32 b = BitVec.ofNat 32 (a ||| b)
  apply BitVec.eq_of_getLsbD_eq
  intro i hi
  simp [hi]
def ri (c : Nat) : Nat → Nat
  | 0 => 0
  | i + 1 => ri c i + (c - 1 - i)
def dc (c : Nat) : Nat → Nat → Nat → Nat × Nat
  | 0, i, x => (i, i + 1 + x)
  | f + 1, i, x => if x < c - 1 - i then (i, i + 1 + x) else dc c f (i + 1) (x - (c - 1 - i))
theorem dc_d1 : ∀ c, c < 7 → ∀ i, i < 6 → ∀ j, j < 6 → j < c → i < j → (dc c 6 0 (ri c i + (j - i - 1))).1 = i := by decide +kernel
theorem dc_d2 : ∀ c, c < 7 → ∀ i, i < 6 → ∀ j, j < 6 → j < c → i < j → (dc c 6 0 (ri c i + (j - i - 1))).2 = j := by decide +kernel
theorem dc_d3 : ∀ c, c < 7 → ∀ i, i < 6 → ∀ j, j < 6 → j < c → i < j → ri c i + (j - i - 1) < ri c c := by decide +kernel
theorem dc_d4 : ∀ c, c < 7 → ri c c ≤ 15 := by decide +kernel
def lnx (c : Nat) (w : Nat → Nat → Nat) (x : Nat) : Nat := w (dc c 6 0 x).1 (dc c 6 0 x).2
theorem lnx_s {c i j : Nat} {w : Nat → Nat → Nat} (hc : c ≤ 6) (hij : i < j) (hj : j < c) : lnx c w (ri c i + (j - i - 1)) = w i j := by
  unfold lnx; rw [dc_d1 c (by omega) i (by omega) j (by omega) hj hij, dc_d2 c (by omega) i (by omega) j (by omega) hj hij]
def smb (p : Nat → Bool) (l : Nat → Nat) : Nat → Nat
  | 0 => 0
  | n + 1 => smb p l n + if p n = true then l n else 0
theorem smb_set {p q : Nat → Bool} {l : Nat → Nat} {x : Nat} (h : ∀ y, q y = (p y || decide (y = x))) (hx : p x = false) : ∀ n, smb q l n = smb p l n + if x < n then l x else 0
  | 0 => by
    rw [if_neg (Nat.not_lt_zero _)]; rfl
  | n + 1 => by
    have ih := smb_set (l := l) h hx n
    show smb q l n + (if q n = true then l n else 0) = smb p l n + (if p n = true then l n else 0) + if x < n + 1 then l x else 0
    rw [ih, h n]
    by_cases e : n = x
    · subst e
      simp [hx]
    · rw [decide_eq_false e, Bool.or_false, Nat.add_right_comm]
      congr 1
      by_cases z : x < n
      · rw [if_pos z, if_pos (show x < n + 1 by omega)]
      · rw [if_neg z, if_neg (show ¬ x < n + 1 by omega)]
theorem ctb_smb (p : Nat → Bool) : ∀ n, ctb p n = smb p (fun _ => 1) n
  | 0 => rfl
  | n + 1 => by
    show ctb p n + (if p n then 1 else 0) = smb p (fun _ => 1) n + if p n = true then 1 else 0
    rw [ctb_smb p n]
theorem ctb_low (p : Nat → Bool) : ∀ n, ctb p (n + 1) = (if p 0 = true then 1 else 0) + ctb (fun y => p (y + 1)) n
  | 0 => by
    show 0 + (if p 0 = true then 1 else 0) = (if p 0 = true then 1 else 0) + 0
    omega
  | n + 1 => by
    have ih := ctb_low p n
    show ctb p (n + 1) + (if p (n + 1) = true then 1 else 0) = (if p 0 = true then 1 else 0) + (ctb (fun y => p (y + 1)) n + if p (n + 1) = true then 1 else 0)
    rw [ih]; omega
theorem pb_ctb : ∀ m s, pb m s = ctb (fun y => s.testBit y) m
  | 0, _ => rfl
  | m + 1, s => by
    rw [ctb_low]
    show s % 2 + pb m (s / 2) = _
    rw [pb_ctb m (s / 2)]
    have e : (fun y => s.testBit (y + 1)) = fun y => (s / 2).testBit y := by funext y; rw [Nat.testBit_succ]
    rw [e, Nat.testBit_zero]
    rcases (show s % 2 = 0 ∨ s % 2 = 1 by omega) with z | z <;> rw [z] <;> rfl
theorem sh_dec : ∀ x, x < 15 → ((1 : Int32) <<< (nI x &&& 31)) = nI (2 ^ x) := by decide +kernel
theorem tb_or (s x y : Nat) : (s ||| 2 ^ x).testBit y = (s.testBit y || decide (y = x)) := by
  rw [Nat.testBit_or, Nat.testBit_two_pow]
  congr 1
  exact decide_eq_decide.mpr eq_comm
theorem or_lt {s x : Nat} (hs : s < 2 ^ 15) (hx : x < 15) : s ||| 2 ^ x < 2 ^ 15 := Nat.or_lt_two_pow hs (Nat.pow_lt_pow_right (by decide) hx)
theorem bit_s {s x : Nat} (hs : s < 2 ^ 15) (hx : x < 15) : ((nI s >>> (nI x &&& 31)) &&& (1 : Int32) = 1) ↔ s.testBit x = true := by
  have e : nI x &&& 31 = nI x := (show ∀ x, x < 15 → nI x &&& 31 = nI x by decide +kernel) x hx
  rw [e, pk_shrN (show s < 2 ^ 31 by omega) (nI x) x ((show ∀ x, x < 15 → ((nI x).toBitVec.smod 32).toNat = x by decide +kernel) x hx), pk_andN (show s / 2 ^ x < 2 ^ 32 from Nat.lt_of_le_of_lt (Nat.div_le_self _ _) (by omega)) 1 (by decide), Nat.testBit_eq_decide_div_mod_eq, decide_eq_true_iff]
  constructor
  · intro h
    exact (nI_eq (by omega) (by omega)).mp (h.trans (show (1 : Int32) = nI 1 from rfl))
  · intro h
    rw [show 2 ^ 1 = 2 from rfl, h]; rfl
def usd (c : Nat) (g : Nat → Nat) (l : Nat) : Bool := (List.range c).any (fun j => decide (g j = l))
theorem usd_i {c : Nat} {g : Nat → Nat} {l : Nat} : usd c g l = true ↔ ∃ j, j < c ∧ g j = l := by
  unfold usd
  simp [List.any_eq_true]
def jn (g : Nat → Nat) (a b : Nat) : Nat → Nat := fun y => if g y = b then a else g y
theorem usd_jn {c i j : Nat} {g : Nat → Nat} (hi : i < c) (hj : j < c) (hb : g j < c) (hn : g i ≠ g j) : ctb (usd c (jn g (g i) (g j))) c < ctb (usd c g) c := by
  refine ctb_lt (fun x hx h => ?_) ⟨g j, hb, usd_i.mpr ⟨j, hj, rfl⟩, ?_⟩
  · obtain ⟨y, hy, e⟩ := usd_i.mp h
    unfold jn at e
    by_cases z : g y = g j
    · rw [if_pos z] at e
      exact usd_i.mpr ⟨i, hi, e⟩
    · rw [if_neg z] at e
      exact usd_i.mpr ⟨y, hy, e⟩
  · cases q : usd c (jn g (g i) (g j)) (g j) with
    | false => rfl
    | true =>
      obtain ⟨y, hy, e⟩ := usd_i.mp q
      unfold jn at e
      by_cases z : g y = g j
      · rw [if_pos z] at e
        exact absurd e hn
      · rw [if_neg z] at e
        exact absurd e z
def StT (c : Nat) (w : Nat → Nat → Nat) (A M : Mem) (a v x r : Nat) (A1 M1 : Mem) : Prop := ∃ (g : Nat → Nat) (S : Nat), a ||| r = S ∧ S < 2 ^ 15 ∧ (∀ j, j < c → g j < c ∧ A1 5 j = nI (g j) ∧ M1 14 j = nI (g j)) ∧ M1 0 25 = nI S ∧ M1 0 26 = nI (smb (fun y => S.testBit y) (lnx c w) (ri c c)) ∧ ctb (usd c g) c + ctb (fun y => S.testBit y) 15 ≤ c ∧ (∀ y, S.testBit y = true → lnx c w y < v ∨ lnx c w y = v ∧ y < x) ∧ (∀ q, q ≠ 5 → A1 q = A q) ∧ (∀ q, q ≠ 0 → q ≠ 14 → M1 q = M q) ∧ ∀ j, j ≠ 25 → j ≠ 26 → M1 0 j = M 0 j
theorem StT.nx {c : Nat} {w : Nat → Nat → Nat} {A M : Mem} {a v x r : Nat} {A1 M1 : Mem} (h : StT c w A M a v x r A1 M1) : StT c w A M a v (x + 1) r A1 M1 := by
  obtain ⟨g, S, h1, h2, h3, h4, h5, h6, h7, h8, h9, h10⟩ := h
  exact ⟨g, S, h1, h2, h3, h4, h5, h6, fun y hy => by have := h7 y hy; omega, h8, h9, h10⟩
theorem joinG_s {c ga gb : Nat} {g : Nat → Nat} {A : Mem} (hc : c ≤ 6) (h0 : A 2 3 = nI c) (hA : ga < c ∧ gb < c) (h : ∀ j, j < c → g j < c ∧ A 5 j = nI (g j)) : ∃ A1, d_X6_joinGroups (nI ga) (nI gb) A = some A1 ∧ (∀ q, q ≠ 5 → A1 q = A q) ∧ ∀ j, j < c → A1 5 j = nI (jn g ga gb j) := by
  have key : ∀ m j f A1, j + m = c → m < f → (∀ q, q ≠ 5 → A1 q = A q) → (∀ y, y < c → A1 5 y = if y < j then nI (jn g ga gb y) else nI (g y)) → ∃ A2, dX6_joinGroups_2l (nI ga) (nI gb) f (nI j) A1 = some A2 ∧ (∀ q, q ≠ 5 → A2 q = A q) ∧ ∀ j, j < c → A2 5 j = nI (jn g ga gb j) := by
    intro m
    induction m with
    | zero =>
      intro j f A1 hj hf hq hy
      obtain ⟨f, rfl⟩ : ∃ f1, f = f1 + 1 := ⟨f - 1, by omega⟩
      have e : j = c := by omega
      subst e
      exact ⟨A1, by rw [dX6_joinGroups_2l, hq 2 (by decide), h0, if_pos (le_t (Nat.le_refl _) (by omega))], hq, fun y hc => by rw [hy y hc, if_pos hc]⟩
    | succ m ih =>
      intro j f A1 hj hf hq hy
      obtain ⟨f, rfl⟩ : ∃ f1, f = f1 + 1 := ⟨f - 1, by omega⟩
      have hjc : j < c := by omega
      have b6 : inB (nI j) 6 = true := inB_t (show j < 6 by omega) (by decide)
      have gj := (h j hjc).1
      rw [dX6_joinGroups_2l, hq 2 (by decide), h0, if_neg (le_f hjc (by omega)), if_pos b6, cl (by omega), hy j hjc, if_neg (Nat.lt_irrefl _), nI_1]
      by_cases e : g j = gb
      · rw [if_pos (by rw [e]), if_pos b6, lm_eq]
        refine ih (j + 1) f _ (by omega) (by omega) (fun q hn => by rw [mu_ne hn]; exact hq q hn) (fun y hyc => ?_)
        rw [mu_eq]
        by_cases z : y = j
        · subst z
          rw [upd_s, if_pos (by omega)]
          unfold jn
          rw [if_pos e]
        · rw [upd_n z, hy y hyc]
          by_cases q : y < j
          · rw [if_pos q, if_pos (by omega)]
          · rw [if_neg q, if_neg (by omega)]
      · rw [if_neg (fun z => e ((nI_eq (by omega) (by omega)).mp z))]
        refine ih (j + 1) f _ (by omega) (by omega) hq (fun y hyc => ?_)
        rw [hy y hyc]
        by_cases z : y = j
        · subst z
          rw [if_neg (Nat.lt_irrefl _), if_pos (by omega)]
          unfold jn
          rw [if_neg e]
        · by_cases q : y < j
          · rw [if_pos q, if_pos (by omega)]
          · rw [if_neg q, if_neg (by omega)]
  exact key c 0 FU A (by omega) (show c < 2000 by omega) (fun _ _ => rfl) (fun y hy => by rw [if_neg (Nat.not_lt_zero _)]; exact (h y hy).2)
theorem joins_s {c i j x S T : Nat} {g : Nat → Nat} {w : Nat → Nat → Nat} {M : Mem} (hc : c ≤ 6) (h0 : M 0 1 = nI c) (hw : M 1 (6 * i + j) = nI (w i j)) (hi : i < c) (hj : j < c) (hx : x < 15) (hn : g i ≠ g j) (h : ∀ j, j < c → g j < c ∧ M 14 j = nI (g j)) (hS : M 0 25 = nI S) (hT : M 0 26 = nI T) : ∃ M1, d_X9_joins (nI i) (nI j) (nI x) M = some M1 ∧ (∀ q, q ≠ 0 → q ≠ 14 → M1 q = M q) ∧ (∀ j, j ≠ 25 → j ≠ 26 → M1 0 j = M 0 j) ∧ M1 0 25 = nI (S ||| 2 ^ x) ∧ M1 0 26 = nI (T + w i j) ∧ ∀ y, y < c → M1 14 y = nI (jn g (g i) (g j) y) := by
  have bi : inB (nI i) 6 = true := inB_t (show i < 6 by omega) (by decide)
  have bj : inB (nI j) 6 = true := inB_t (show j < 6 by omega) (by decide)
  have bij : inB (nI (6 * i + j)) 36 = true := inB_t (show 6 * i + j < 36 by omega) (by decide)
  unfold d_X9_joins
  rw [if_pos bj, cl (by omega), lm_eq, (h j hj).2]
  have key : ∀ (K : Mem → Option Mem) m y f M1, y + m = c → m < f → (∀ q, q ≠ 14 → M1 q = M q) → (∀ z, z < c → M1 14 z = if z < y then nI (jn g (g i) (g j) z) else nI (g z)) → ∃ M2, dX9_joins_11l (nI i) (nI j) (nI x) (nI (g j)) K f (nI y) M1 = K M2 ∧ (∀ q, q ≠ 14 → M2 q = M q) ∧ ∀ z, z < c → M2 14 z = nI (jn g (g i) (g j) z) := by
    intro K m
    induction m with
    | zero =>
      intro y f M1 hy hf hq hz
      obtain ⟨f, rfl⟩ : ∃ f1, f = f1 + 1 := ⟨f - 1, by omega⟩
      have e : y = c := by omega
      subst e
      exact ⟨M1, by rw [dX9_joins_11l, hq 0 (by decide), h0, if_pos (le_t (Nat.le_refl _) (by omega))], hq, fun z hc => by rw [hz z hc, if_pos hc]⟩
    | succ m ih =>
      intro y f M1 hy hf hq hz
      obtain ⟨f, rfl⟩ : ∃ f1, f = f1 + 1 := ⟨f - 1, by omega⟩
      have hyc : y < c := by omega
      have b6 : inB (nI y) 6 = true := inB_t (show y < 6 by omega) (by decide)
      have gy := (h y hyc).1
      have gj := (h j hj).1
      have mi : M1 14 i = nI (g i) := by
        rw [hz i hi]
        unfold jn
        rw [if_neg hn]
        split <;> rfl
      have my : M1 14 y = nI (g y) := by rw [hz y hyc, if_neg (Nat.lt_irrefl _)]
      have st : ∀ u, u = jn g (g i) (g j) y → ∃ M2, dX9_joins_54j (dX9_joins_11l (nI i) (nI j) (nI x) (nI (g j)) K f) (nI i) (nI j) (nI x) (nI (g j)) (nI y) (nI u) (nI y) M1 = K M2 ∧ (∀ q, q ≠ 14 → M2 q = M q) ∧ ∀ z, z < c → M2 14 z = nI (jn g (g i) (g j) z) := by
        intro u hu
        unfold dX9_joins_54j
        rw [if_pos b6, cl (by omega), lm_eq, nI_1]
        refine ih (y + 1) f _ (by omega) (by omega) (fun q hn => by rw [mu_ne hn]; exact hq q hn) (fun z hzc => ?_)
        rw [mu_eq]
        by_cases e : z = y
        · subst e
          rw [upd_s, if_pos (by omega), hu]
        · rw [upd_n e, hz z hzc]
          by_cases q : z < y
          · rw [if_pos q, if_pos (by omega)]
          · rw [if_neg q, if_neg (by omega)]
      rw [dX9_joins_11l, hq 0 (by decide), h0, if_neg (le_f hyc (by omega)), if_pos b6, cl (by omega), my]
      by_cases e : g y = g j
      · rw [if_pos (by rw [e]), if_pos bi, cl (by omega), mi]
        exact st _ (by unfold jn; rw [if_pos e])
      · rw [if_neg (fun z => e ((nI_eq (by omega) (by omega)).mp z)), if_pos b6]
        exact st _ (by unfold jn; rw [if_neg e])
  obtain ⟨M2, k1, k2, k3⟩ := key (fun M5 => (lm (mu M5 0 25 ((M5 0 25) ||| ((1 : Int32) <<< (nI x &&& 31)))) (fun (M6 : Mem) => (if inB (((6 : Int32) * nI i) + nI j) 36 = true then (lm (mu M6 0 26 ((M6 0 26) + (M6 1 (((6 : Int32) * nI i) + nI j).toNatClampNeg))) (fun (M7 : Mem) => (some M7))) else none)))) c 0 FU M (by omega) (show c < 2000 by omega) (fun _ _ => rfl) (fun z hz => by rw [if_neg (Nat.not_lt_zero _)]; exact (h z hz).2)
  refine ⟨mu (mu M2 0 25 (nI (S ||| 2 ^ x))) 0 26 (nI (T + w i j)), k1.trans (by rw [lm_eq, ix6r, if_pos bij, cl (by omega), lm_eq, sh_dec x hx, k2 0 (by decide), hS, fa_or, mu_eq, upd_n (by decide), mu_ne (show (1 : Nat) ≠ 0 by decide), k2 0 (by decide), hT, k2 1 (by decide), hw, nI_add]), fun q q0 q14 => by rw [mu_ne q0, mu_ne q0]; exact k2 q q14, fun y y1 y2 => by rw [mu_eq, upd_n y2, mu_eq, upd_n y1, k2 0 (by decide)], by rw [mu_eq, upd_n (by decide), mu_eq, upd_s], by rw [mu_eq, upd_s], fun y hy => by rw [mu_ne (by decide), mu_ne (by decide)]; exact k3 y hy⟩
theorem tr_in {c i v a : Nat} {w : Nat → Nat → Nat} {A M : Mem} (hc : c ≤ 6) (hX : XS c w A) (hM : MS c w M) (hi : i < c) (hw : ∀ a b, w a b ≤ 9) (hv : 1 ≤ v ∧ v ≤ 9) (KX : Int32 → Int32 → Mem → Option (Int32 × Mem)) (KM : Int32 → Mem → Option Mem) : ∀ m j f f2 r A1 M1, j + m = c → i < j → m < f → m < f2 → StT c w A M a v (ri c i + (j - i - 1)) r A1 M1 → ∃ r' A2 M2, dX6_joinBy_22l (nI v) (nI i) KX f (nI r) (nI (ri c i + (j - i - 1))) (nI j) A1 = KX (nI r') (nI (ri c (i + 1))) A2 ∧ dX9_joinsAll_17l (nI v) (nI i) KM f2 (nI (ri c i + (j - i - 1))) (nI j) M1 = KM (nI (ri c (i + 1))) M2 ∧ StT c w A M a v (ri c (i + 1)) r' A2 M2 := by
  intro m
  induction m with
  | zero =>
    intro j f f2 r A1 M1 hj hij hf hf2 h
    obtain ⟨f, rfl⟩ : ∃ f1, f = f1 + 1 := ⟨f - 1, by omega⟩
    obtain ⟨f2, rfl⟩ : ∃ f1, f2 = f1 + 1 := ⟨f2 - 1, by omega⟩
    have e : j = c := by omega
    subst e
    have e2 : ri j i + (j - i - 1) = ri j (i + 1) := by
      show _ = ri j i + (j - 1 - i)
      omega
    rw [e2] at h ⊢
    obtain ⟨g, S, h1, h2, h3, h4, h5, h6, h7, h8, h9, h10⟩ := id h
    exact ⟨r, A1, M1, by rw [dX6_joinBy_22l, h8 2 (by decide), hX.1, if_pos (le_t (Nat.le_refl _) (by omega))], by rw [dX9_joinsAll_17l, h10 1 (by decide) (by decide), hM.1, if_pos (le_t (Nat.le_refl _) (by omega))], h⟩
  | succ m ih =>
    intro j f f2 r A1 M1 hj hij hf hf2 h
    obtain ⟨f, rfl⟩ : ∃ f1, f = f1 + 1 := ⟨f - 1, by omega⟩
    obtain ⟨f2, rfl⟩ : ∃ f1, f2 = f1 + 1 := ⟨f2 - 1, by omega⟩
    have hjc : j < c := by omega
    have bi : inB (nI i) 6 = true := inB_t (show i < 6 by omega) (by decide)
    have bj : inB (nI j) 6 = true := inB_t (show j < 6 by omega) (by decide)
    have bij : inB (nI (6 * i + j)) 36 = true := inB_t (show 6 * i + j < 36 by omega) (by decide)
    have e2 : ri c i + (j + 1 - i - 1) = ri c i + (j - i - 1) + 1 := by omega
    have hx := dc_d3 c (by omega) i (by omega) j (by omega) hjc hij
    have hx2 := dc_d4 c (by omega)
    have hl := lnx_s (w := w) hc hij hjc
    have ih' := ih (j + 1) f f2
    rw [e2] at ih'
    obtain ⟨g, S, h1, h2, h3, h4, h5, h6, h7, h8, h9, h10⟩ := id h
    have hwij := hw i j
    rw [dX6_joinBy_22l, h8 2 (by decide), hX.1, if_neg (le_f hjc (by omega)), length_s hc (by rw [h8 2 (by decide)]; exact hX.1) hi hjc, bd1_some, h8 3 (by decide), hX.2.1 i j hi hjc, nI_1, nI_1, dX9_joinsAll_17l, h10 1 (by decide) (by decide), hM.1, if_neg (le_f hjc (by omega)), ix6r, if_pos bij, cl (j := 6 * i + j) (by omega), h9 1 (by decide) (by decide), hM.2.1 i j hi hjc, nI_1, nI_1]
    by_cases e : w i j = v
    · have e' : nI (w i j) = nI v := by rw [e]
      simp only [if_pos e', if_pos bi, if_pos bj]
      rw [cl (j := i) (by omega), cl (j := j) (by omega), (h3 i hi).2.1, (h3 j hjc).2.1, (h3 i hi).2.2, (h3 j hjc).2.2]
      have gi := (h3 i hi).1
      have gj := (h3 j hjc).1
      by_cases z : g i = g j
      · have z' : nI (g i) = nI (g j) := by rw [z]
        rw [if_pos z', if_pos z']
        exact ih' r A1 M1 (by omega) (by omega) (by omega) (by omega) h.nx
      · have z2 : ¬ nI (g i) = nI (g j) := fun q => z ((nI_eq (by omega) (by omega)).mp q)
        rw [if_neg z2, if_neg z2]
        obtain ⟨A2, p1, p2, p3⟩ := joinG_s (A := A1) hc (by rw [h8 2 (by decide)]; exact hX.1) ⟨gi, gj⟩ (fun y hy => ⟨(h3 y hy).1, (h3 y hy).2.1⟩)
        obtain ⟨M2, q1, q2, q3, q4, q5, q6⟩ := joins_s (M := M1) (w := w) hc (by rw [h10 1 (by decide) (by decide)]; exact hM.1) (by rw [h9 1 (by decide) (by decide)]; exact hM.2.1 i j hi hjc) hi hjc (show ri c i + (j - i - 1) < 15 by omega) z (fun y hy => ⟨(h3 y hy).1, (h3 y hy).2.2⟩) h4 h5
        rw [p1, bd1_some, q1, bd1_some, lm_eq, sh_dec _ (show ri c i + (j - i - 1) < 15 by omega), fa_or]
        have nb : S.testBit (ri c i + (j - i - 1)) = false := by
          cases q : S.testBit (ri c i + (j - i - 1)) with
          | false => rfl
          | true => have := h7 _ q; omega
        refine ih' (r ||| 2 ^ (ri c i + (j - i - 1))) A2 M2 (by omega) (by omega) (by omega) (by omega) ⟨jn g (g i) (g j), S ||| 2 ^ (ri c i + (j - i - 1)), by rw [← h1, Nat.or_assoc], or_lt h2 (by omega), fun y hy => ⟨?_, p3 y hy, q6 y hy⟩, q4, ?_, ?_, ?_, fun q hq => by rw [p2 q hq]; exact h8 q hq, fun q hq hq2 => by rw [q2 q hq hq2]; exact h9 q hq hq2, fun y y1 y2 => by rw [q3 y y1 y2]; exact h10 y y1 y2⟩
        · unfold jn
          split
          · exact gi
          · exact (h3 y hy).1
        · rw [q5, smb_set (l := lnx c w) (tb_or S _) nb (ri c c), if_pos hx, hl]
        · have k1 := usd_jn hi hjc gj z
          have k2 := smb_set (p := fun y => S.testBit y) (q := fun y => (S ||| 2 ^ (ri c i + (j - i - 1))).testBit y) (l := fun _ => 1) (tb_or S _) nb 15
          rw [if_pos (by omega), ← ctb_smb, ← ctb_smb] at k2
          omega
        · intro y hy
          rw [tb_or] at hy
          rcases (Bool.or_eq_true _ _).mp hy with q | q
          · have := h7 y q; omega
          · have q := of_decide_eq_true q
            subst q
            right
            omega
    · have e3 : ¬ nI (w i j) = nI v := fun q => e ((nI_eq (by omega) (by omega)).mp q)
      rw [if_neg e3, if_neg e3]
      exact ih' r A1 M1 (by omega) (by omega) (by omega) (by omega) h.nx
theorem tr_mid {c v a : Nat} {w : Nat → Nat → Nat} {A M : Mem} (hc : c ≤ 6) (hX : XS c w A) (hM : MS c w M) (hw : ∀ a b, w a b ≤ 9) (hv : 1 ≤ v ∧ v ≤ 9) : ∀ m i f f2 r A1 M1, i + m = c → m < f → m < f2 → StT c w A M a v (ri c i) r A1 M1 → ∃ r' A2 M2, dX6_joinBy_7l (nI v) f (nI r) (nI (ri c i)) (nI i) A1 = some (nI r', A2) ∧ dX9_joinsAll_4l (nI v) f2 (nI (ri c i)) (nI i) M1 = some M2 ∧ StT c w A M a v (ri c c) r' A2 M2 := by
  intro m
  induction m with
  | zero =>
    intro i f f2 r A1 M1 hi hf hf2 h
    obtain ⟨f, rfl⟩ : ∃ f1, f = f1 + 1 := ⟨f - 1, by omega⟩
    obtain ⟨f2, rfl⟩ : ∃ f1, f2 = f1 + 1 := ⟨f2 - 1, by omega⟩
    have e : i = c := by omega
    subst e
    obtain ⟨g, S, h1, h2, h3, h4, h5, h6, h7, h8, h9, h10⟩ := id h
    exact ⟨r, A1, M1, by rw [dX6_joinBy_7l, h8 2 (by decide), hX.1, if_pos (le_t (Nat.le_refl _) (by omega))], by rw [dX9_joinsAll_4l, h10 1 (by decide) (by decide), hM.1, if_pos (le_t (Nat.le_refl _) (by omega))], h⟩
  | succ m ih =>
    intro i f f2 r A1 M1 hi hf hf2 h
    obtain ⟨f, rfl⟩ : ∃ f1, f = f1 + 1 := ⟨f - 1, by omega⟩
    obtain ⟨f2, rfl⟩ : ∃ f1, f2 = f1 + 1 := ⟨f2 - 1, by omega⟩
    have hic : i < c := by omega
    obtain ⟨g, S, h1, h2, h3, h4, h5, h6, h7, h8, h9, h10⟩ := id h
    have e0 : ri c i + (i + 1 - i - 1) = ri c i := by omega
    have h' := h
    rw [← e0] at h'
    obtain ⟨r1, A2, M2, k1, k2, k3⟩ := tr_in (a := a) hc hX hM hic hw hv (fun (w9 : Int32) (w10 : Int32) (M11 : Mem) => ((dX6_joinBy_7l (nI v) f) w9 w10 (nI i + (1 : Int32)) M11)) (fun (w7 : Int32) (M8 : Mem) => ((dX9_joinsAll_4l (nI v) f2) w7 (nI i + (1 : Int32)) M8)) (c - (i + 1)) (i + 1) FU FU r A1 M1 (by omega) (by omega) (show c - (i + 1) < 2000 by omega) (show c - (i + 1) < 2000 by omega) h'
    rw [e0] at k1 k2
    obtain ⟨r2, A3, M3, l1, l2, l3⟩ := ih (i + 1) f f2 r1 A2 M2 (by omega) (by omega) (by omega) k3
    refine ⟨r2, A3, M3, ?_, ?_, l3⟩
    · rw [dX6_joinBy_7l, h8 2 (by decide), hX.1, if_neg (le_f hic (by omega)), lm_eq]
      refine Eq.trans ?_ (k1.trans ?_)
      · rw [nI_1]
      · rw [nI_1]; exact l1
    · rw [dX9_joinsAll_4l, h10 1 (by decide) (by decide), hM.1, if_neg (le_f hic (by omega)), lm_eq]
      refine Eq.trans ?_ (k2.trans ?_)
      · rw [nI_1]
      · rw [nI_1]; exact l2
theorem len_s {c S : Nat} {w : Nat → Nat → Nat} {A : Mem} (hc : c ≤ 6) (hX : XS c w A) (hS : S < 2 ^ 15) : d_X6_lengthOf (nI S) A = some (nI (smb (fun y => S.testBit y) (lnx c w) (ri c c))) := by
  have inn : ∀ i, i < c → ∀ (K : Int32 → Int32 → Option Int32) m j f, j + m = c → i < j → m < f → dX6_lengthOf_22l (nI S) (nI i) A K f (nI (smb (fun y => S.testBit y) (lnx c w) (ri c i + (j - i - 1)))) (nI (ri c i + (j - i - 1))) (nI j) = K (nI (smb (fun y => S.testBit y) (lnx c w) (ri c (i + 1)))) (nI (ri c (i + 1))) := by
    intro i hi K m
    induction m with
    | zero =>
      intro j f hj hij hf
      obtain ⟨f, rfl⟩ : ∃ f1, f = f1 + 1 := ⟨f - 1, by omega⟩
      have e : j = c := by omega
      subst e
      have e2 : ri j i + (j - i - 1) = ri j (i + 1) := by
        show _ = ri j i + (j - 1 - i)
        omega
      rw [e2, dX6_lengthOf_22l, hX.1, if_pos (le_t (Nat.le_refl _) (by omega))]
    | succ m ih =>
      intro j f hj hij hf
      obtain ⟨f, rfl⟩ : ∃ f1, f = f1 + 1 := ⟨f - 1, by omega⟩
      have hjc : j < c := by omega
      have e2 : ri c i + (j + 1 - i - 1) = ri c i + (j - i - 1) + 1 := by omega
      have hx := dc_d3 c (by omega) i (by omega) j (by omega) hjc hij
      have hx2 := dc_d4 c (by omega)
      have hl := lnx_s (w := w) hc hij hjc
      have ih' := ih (j + 1) f (by omega) (by omega) (by omega)
      have e3 : smb (fun y => S.testBit y) (lnx c w) (ri c i + (j - i - 1) + 1) = smb (fun y => S.testBit y) (lnx c w) (ri c i + (j - i - 1)) + if S.testBit (ri c i + (j - i - 1)) = true then lnx c w (ri c i + (j - i - 1)) else 0 := rfl
      rw [e2, e3, hl] at ih'
      rw [dX6_lengthOf_22l, hX.1, if_neg (le_f hjc (by omega)), length_s hc hX.1 hi hjc, bd1_some, hX.2.1 i j hi hjc, lm_eq, nI_add, nI_1, nI_1]
      by_cases q : S.testBit (ri c i + (j - i - 1)) = true
      · rw [if_pos ((bit_s hS (by omega)).mpr q)]
        rw [if_pos q] at ih'
        exact ih'
      · rw [if_neg (fun z => q ((bit_s hS (by omega)).mp z))]
        rw [if_neg q] at ih'
        exact ih'
  have mid : ∀ m i f, i + m = c → m < f → dX6_lengthOf_7l (nI S) A f (nI (smb (fun y => S.testBit y) (lnx c w) (ri c i))) (nI (ri c i)) (nI i) = some (nI (smb (fun y => S.testBit y) (lnx c w) (ri c c))) := by
    intro m
    induction m with
    | zero =>
      intro i f hi hf
      obtain ⟨f, rfl⟩ : ∃ f1, f = f1 + 1 := ⟨f - 1, by omega⟩
      have e : i = c := by omega
      subst e
      rw [dX6_lengthOf_7l, hX.1, if_pos (le_t (Nat.le_refl _) (by omega))]
    | succ m ih =>
      intro i f hi hf
      obtain ⟨f, rfl⟩ : ∃ f1, f = f1 + 1 := ⟨f - 1, by omega⟩
      have hic : i < c := by omega
      have e0 : ri c i + (i + 1 - i - 1) = ri c i := by omega
      have g := inn i hic (fun (w7 : Int32) (w8 : Int32) => ((dX6_lengthOf_7l (nI S) A f) w7 w8 (nI i + (1 : Int32)))) (c - (i + 1)) (i + 1) FU (by omega) (by omega) (show c - (i + 1) < 2000 by omega)
      rw [e0] at g
      rw [dX6_lengthOf_7l, hX.1, if_neg (le_f hic (by omega)), lm_eq]
      refine Eq.trans ?_ (g.trans ?_)
      · rw [nI_1]
      · rw [nI_1]; exact ih (i + 1) f (by omega) (by omega)
  exact mid c 0 FU (by omega) (show c < 2000 by omega)
theorem tr_lev {c : Nat} {w : Nat → Nat → Nat} {A M : Mem} (hc : c ≤ 6) (hX : XS c w A) (hM : MS c w M) (hw : ∀ a b, w a b ≤ 9) (v1 : Int32) (KX : Int32 → Mem → Option (Int32 × Mem)) (KM : Mem → Option (Int32 × Mem)) : ∀ m v f f2 a A1 M1, v + m = 10 → 1 ≤ v → m < f → m < f2 → StT c w A M a v 0 0 A1 M1 → ∃ a' A2 M2, dX6_leastTree_27l KX f (nI a) (nI v) A1 = KX (nI a') A2 ∧ dX9_tree_58l v1 KM f2 (nI v) M1 = KM M2 ∧ StT c w A M a' 10 0 0 A2 M2 := by
  intro m
  induction m with
  | zero =>
    intro v f f2 a A1 M1 hv h1 hf hf2 h
    obtain ⟨f, rfl⟩ : ∃ f1, f = f1 + 1 := ⟨f - 1, by omega⟩
    obtain ⟨f2, rfl⟩ : ∃ f1, f2 = f1 + 1 := ⟨f2 - 1, by omega⟩
    have e : v = 10 := by omega
    subst e
    exact ⟨a, A1, M1, by rw [dX6_leastTree_27l, if_pos (by decide)], by rw [dX9_tree_58l, if_pos (by decide)], h⟩
  | succ m ih =>
    intro v f f2 a A1 M1 hv h1 hf hf2 h
    obtain ⟨f, rfl⟩ : ∃ f1, f = f1 + 1 := ⟨f - 1, by omega⟩
    obtain ⟨f2, rfl⟩ : ∃ f1, f2 = f1 + 1 := ⟨f2 - 1, by omega⟩
    obtain ⟨r, A2, M2, k1, k2, k3⟩ := tr_mid (a := a) hc hX hM hw ⟨h1, by omega⟩ c 0 FU FU 0 A1 M1 (by omega) (show c < 2000 by omega) (show c < 2000 by omega) h
    have k1' : d_X6_joinBy (nI v) A1 = some (nI r, A2) := k1
    have k2' : d_X9_joinsAll (nI v) M1 = some M2 := k2
    obtain ⟨g, S, h1', h2, h3, h4, h5, h6, h7, h8, h9, h10⟩ := k3
    rw [dX6_leastTree_27l, if_neg (show ¬ (9 : Int32) < nI v from nI_nlt (a := 9) (by omega) (by decide)), k1', bd2_some, lm_eq, fa_or, nI_1, dX9_tree_58l, if_neg (show ¬ (10 : Int32) ≤ nI v from nI_ge (b := 10) (by omega) (by decide)), k2', bd1_some, nI_1]
    exact ih (v + 1) f f2 (a ||| r) A2 M2 (by omega) (by omega) (by omega) (by omega) ⟨g, S, by rw [Nat.or_zero]; exact h1', h2, h3, h4, h5, h6, fun y hy => by have := h7 y hy; omega, h8, h9, h10⟩
theorem sim_tree {n : Nat} {A M : Mem} (h : Rel n A M) (v1 : Int32) : OkE n (d_X8_tree v1 A) (d_X9_tree v1 M) := by
  obtain ⟨⟨c, k, kd, fr, to, cv, w, wk, s, hTw⟩, hSh, h6, h7, h8⟩ := id h
  obtain ⟨hT, hck, hXS, hXC, hXW, hMS, hMC, hMW, hs, hwk, hRd⟩ := id hTw
  have hc := hT.1
  have hk := hT.2.1
  have hw := hT.2.2.2.1
  unfold d_X8_tree d_X9_tree
  rw [hasTown_s hck hc hXS.1, bd1_some, hMC.1]
  by_cases ek : k = 0
  · subst ek
    rw [nb_t rfl, if_pos rfl, if_pos nI_0]
    exact OkE.ee h (-3) rfl rfl
  · rw [nb_f ek, if_neg one0, if_neg (nI_ne0 (by omega) (by omega)), inR_s (n := 2) (by decide) (by decide), bd1_some]
    by_cases r3 : rg v1 2
    · obtain ⟨d1, -, d2⟩ := ch_t (m := 1) r3 (by decide)
      rw [bR_t r3, if_neg one0, if_neg d1, if_pos d2]
      have hc2 : 2 ≤ c := by omega
      have inX : ∀ (K : Mem → Option (Int32 × Mem)) m j f A1, j + m = c → m < f → (∀ q, q ≠ 5 → A1 q = A q) → (∀ y, y < j → A1 5 y = nI y) → ∃ A2, dX6_leastTree_2l K f (nI j) A1 = K A2 ∧ (∀ q, q ≠ 5 → A2 q = A q) ∧ ∀ y, y < c → A2 5 y = nI y := by
        intro K m
        induction m with
        | zero =>
          intro j f A1 hj hf hq hy
          obtain ⟨f, rfl⟩ : ∃ f1, f = f1 + 1 := ⟨f - 1, by omega⟩
          have e : j = c := by omega
          subst e
          exact ⟨A1, by rw [dX6_leastTree_2l, hq 2 (by decide), hXS.1, if_pos (le_t (Nat.le_refl _) (by omega))], hq, hy⟩
        | succ m ih =>
          intro j f A1 hj hf hq hy
          obtain ⟨f, rfl⟩ : ∃ f1, f = f1 + 1 := ⟨f - 1, by omega⟩
          rw [dX6_leastTree_2l, hq 2 (by decide), hXS.1, if_neg (le_f (by omega) (by omega)), if_pos (inB_t (show j < 6 by omega) (by decide)), cl (by omega), lm_eq, nI_1]
          refine ih (j + 1) f _ (by omega) (by omega) (fun q hn => by rw [mu_ne hn]; exact hq q hn) (fun y hyj => ?_)
          rw [mu_eq]
          by_cases z : y = j
          · subst z; rw [upd_s]
          · rw [upd_n z]; exact hy y (by omega)
      have inM : ∀ (K : Mem → Option (Int32 × Mem)) m j f M1, j + m = c → m < f → (∀ q, q ≠ 14 → M1 q = M q) → (∀ y, y < j → M1 14 y = nI y) → ∃ M2, dX9_tree_25l v1 K f (nI j) M1 = K M2 ∧ (∀ q, q ≠ 14 → M2 q = M q) ∧ ∀ y, y < c → M2 14 y = nI y := by
        intro K m
        induction m with
        | zero =>
          intro j f M1 hj hf hq hy
          obtain ⟨f, rfl⟩ : ∃ f1, f = f1 + 1 := ⟨f - 1, by omega⟩
          have e : j = c := by omega
          subst e
          exact ⟨M1, by rw [dX9_tree_25l, hq 0 (by decide), hMS.1, if_pos (le_t (Nat.le_refl _) (by omega))], hq, hy⟩
        | succ m ih =>
          intro j f M1 hj hf hq hy
          obtain ⟨f, rfl⟩ : ∃ f1, f = f1 + 1 := ⟨f - 1, by omega⟩
          rw [dX9_tree_25l, hq 0 (by decide), hMS.1, if_neg (le_f (by omega) (by omega)), if_pos (inB_t (show j < 6 by omega) (by decide)), cl (by omega), lm_eq, nI_1]
          refine ih (j + 1) f _ (by omega) (by omega) (fun q hn => by rw [mu_ne hn]; exact hq q hn) (fun y hyj => ?_)
          rw [mu_eq]
          by_cases z : y = j
          · subst z; rw [upd_s]
          · rw [upd_n z]; exact hy y (by omega)
      unfold d_X6_leastTree
      obtain ⟨A1, x1, x2, x3⟩ := inX (fun (M3 : Mem) => (dX6_leastTree_27l (fun (w8 : Int32) (M9 : Mem) => (bd1 (d_J6_bitCount_0f7a4 w8 M9) (fun (r10 : Int32) => (if r10 = ((M9 2 3) - (1 : Int32)) then (some (w8, M9)) else (some ((-9 : Int32), M9)))))) FU (0 : Int32) (1 : Int32) M3)) c 0 FU A (by omega) (show c < 2000 by omega) (fun _ _ => rfl) (fun y hy => absurd hy (Nat.not_lt_zero _))
      let KM : Mem → Option (Int32 × Mem) := (fun (M11 : Mem) => (bd1 (d_X9_bits (M11 0 25) M11) (fun (r12 : Int32) => (if ((M11 0 1) - (1 : Int32)) ≤ r12 then (if v1 = 0 then (some ((M11 0 26), M11)) else (some ((M11 0 25), M11))) else (some ((-9 : Int32), M11))))))
      obtain ⟨M1, y1, y2, y3⟩ := inM (fun (M6 : Mem) => (lm (mu M6 0 25 (0 : Int32)) (fun (M7 : Mem) => (lm (mu M7 0 26 (0 : Int32)) (fun (M8 : Mem) => (dX9_tree_58l v1 KM FU (1 : Int32) M8)))))) c 0 FU M (by omega) (show c < 2000 by omega) (fun _ _ => rfl) (fun y hy => absurd hy (Nat.not_lt_zero _))
      have st : StT c w A M 0 1 0 0 A1 (mu (mu M1 0 25 0) 0 26 0) := by
        have z0 : ∀ m, smb (fun y => Nat.testBit 0 y) (lnx c w) m = 0 := by
          intro m
          induction m with
          | zero => rfl
          | succ m ih =>
            show smb _ _ m + (if Nat.testBit 0 m = true then _ else 0) = 0
            rw [ih, Nat.zero_testBit]; rfl
        refine ⟨fun j => j, 0, rfl, by decide, fun j hj => ⟨hj, x3 j hj, by rw [mu_ne (by decide), mu_ne (by decide)]; exact y3 j hj⟩, by rw [mu_eq, upd_n (by decide), mu_eq, upd_s]; rfl, by rw [mu_eq, upd_s, z0]; rfl, ?_, fun y hy => ?_, x2, fun q q0 q14 => by rw [mu_ne q0, mu_ne q0]; exact y2 q q14, fun y a b => by rw [mu_eq, upd_n b, mu_eq, upd_n a, y2 0 (by decide)]⟩
        · rw [← pb_ctb, pb_0]
          exact ctb_le _ c
        · rw [Nat.zero_testBit] at hy
          exact absurd hy (by decide)
      obtain ⟨S, A2, M2, k1, k2, g, S', h1, h2, h3, h4, h5, hh6, hh7, hh8, hh9, h10⟩ := tr_lev hc hXS hMS hw v1 (fun (w8 : Int32) (M9 : Mem) => (bd1 (d_J6_bitCount_0f7a4 w8 M9) (fun (r10 : Int32) => (if r10 = ((M9 2 3) - (1 : Int32)) then (some (w8, M9)) else (some ((-9 : Int32), M9)))))) KM 9 1 FU FU 0 A1 (mu (mu M1 0 25 0) 0 26 0) (by omega) (by omega) (by decide) (by decide) st
      rw [Nat.or_zero] at h1
      subst h1
      have hpb : pb 15 S ≤ c - 1 := by
        rw [pb_ctb]
        have z : ctb (fun _ => false) c < ctb (usd c g) c := ctb_lt (fun _ _ q => absurd q (by decide)) ⟨g 0, (h3 0 (by omega)).1, usd_i.mpr ⟨0, by omega, rfl⟩, rfl⟩
        omega
      have hR : Rel (n + 1) A2 M2 := h.own (fun q _ _ q5 _ _ _ => hh8 q q5) (fun q hq => hh9 q (by unfold Pq at hq; omega) (by unfold Pq at hq; omega)) (fun j hj => h10 j (by omega) (by omega)) (by rw [hh8 0 (by decide), h10 3 (by decide) (by decide)]; exact h6) (by rw [hh8 0 (by decide), h10 38 (by decide) (by decide)]; exact h7) (by rw [hh8 0 (by decide), h10 0 (by decide) (by decide)]; exact h8)
      have hx2 : A2 2 3 = nI c := by rw [hh8 2 (by decide)]; exact hXS.1
      have hm2 : M2 0 1 = nI c := by rw [h10 1 (by decide) (by decide)]; exact hMS.1
      have hXS2 : XS c w A2 := ⟨hx2, by rw [hh8 3 (by decide)]; exact hXS.2.1, by rw [hh8 4 (by decide)]; exact hXS.2.2⟩
      have cs : nI c - (1 : Int32) = nI (c - 1) := pk_sub (a := c) (b := 1) (by omega)
      have hX : dX6_leastTree_2l (fun (M3 : Mem) => (dX6_leastTree_27l (fun (w8 : Int32) (M9 : Mem) => (bd1 (d_J6_bitCount_0f7a4 w8 M9) (fun (r10 : Int32) => (if r10 = ((M9 2 3) - (1 : Int32)) then (some (w8, M9)) else (some ((-9 : Int32), M9)))))) FU (0 : Int32) (1 : Int32) M3)) FU (0 : Int32) A = if pb 15 S = c - 1 then some (nI S, A2) else some (-9, A2) := by
        refine x1.trans (k1.trans ?_)
        rw [bitCount_s h2, bd1_some, hx2, cs]
        by_cases e : pb 15 S = c - 1
        · rw [if_pos e, if_pos (by rw [e])]
        · rw [if_neg e, if_neg (fun z => e ((nI_eq (by omega) (by omega)).mp z))]
      have hM : dX9_tree_25l v1 (fun (M6 : Mem) => (lm (mu M6 0 25 (0 : Int32)) (fun (M7 : Mem) => (lm (mu M7 0 26 (0 : Int32)) (fun (M8 : Mem) => (dX9_tree_58l v1 KM FU (1 : Int32) M8)))))) FU (0 : Int32) M = if pb 15 S = c - 1 then (if v1 = 0 then some (nI (smb (fun y => S.testBit y) (lnx c w) (ri c c)), M2) else some (nI S, M2)) else some (-9, M2) := by
        refine y1.trans (k2.trans ?_)
        show bd1 (d_X9_bits (M2 0 25) M2) _ = _
        rw [h4, bits_s (m := 15) h2 (by decide), bd1_some, hm2, cs, h5]
        by_cases e : pb 15 S = c - 1
        · rw [if_pos e, if_pos (by rw [e]; exact le_t (Nat.le_refl _) (by omega))]
        · rw [if_neg e, if_neg (le_f (by omega) (by omega))]
      rw [hX, hM]
      have s9 : ¬ nI S = (-9 : Int32) := fun z => by
        have z1 := congrArg Int32.toInt z
        rw [nI_toInt (by omega)] at z1
        rw [show (-9 : Int32).toInt = -9 by decide] at z1
        omega
      by_cases e : pb 15 S = c - 1
      · rw [if_pos e, if_pos e, bd2_some, if_neg s9]
        by_cases z : v1 = 0
        · subst z
          rw [if_neg (by decide), len_s hc hXS2 h2, bd1_some, if_pos rfl]
          exact ⟨_, _, _, rfl, rfl, hR⟩
        · have z1 : v1 = 1 := by
            obtain ⟨u, hu, rfl⟩ := rg_of (by omega) r3
            rcases (show u = 0 ∨ u = 1 by omega) with q | q
            · subst q; exact absurd nI_0 z
            · subst q; rfl
          rw [if_pos z1, if_neg z]
          exact ⟨_, _, _, rfl, rfl, hR⟩
      · rw [if_neg e, if_neg e, bd2_some, if_pos rfl]
        exact ⟨_, _, _, rfl, rfl, hR⟩
    · rw [bR_f r3, if_pos rfl, ch_f2 (m := 1) r3 (by decide)]
      exact OkE.ee h (-2) rfl rfl
