/-! pure part 1: what the small functions answer -/
theorem lm_eq {α β : Type} (x : α) (k : α → β) : lm x k = k x := rfl
theorem bd1_some {α β : Type} (a : α) (k : α → Option β) : bd1 (some a) k = k a := rfl
theorem bd2_some {α β : Type} (a : α) (M : Mem) (k : α → Mem → Option β) : bd2 (some (a, M)) k = k a M := rfl
theorem mu_q (M : Mem) (o j : Nat) (v : Int32) (q : Nat) : mu M o j v q = if q = o then upd (M o) j v else M q := rfl
theorem mu_ne {M : Mem} {o j : Nat} {v : Int32} {q : Nat} (h : q ≠ o) : mu M o j v q = M q := if_neg h
theorem mu_eq {M : Mem} {o j : Nat} {v : Int32} : mu M o j v o = upd (M o) j v := if_pos rfl
theorem upd_ap (f : Nat → Int32) (k : Nat) (x : Int32) (j : Nat) : upd f k x j = if j = k then x else f j := rfl
theorem upd_s {f : Nat → Int32} {k : Nat} {x : Int32} : upd f k x k = x := if_pos rfl
theorem upd_n {f : Nat → Int32} {k j : Nat} {x : Int32} (h : j ≠ k) : upd f k x j = f j := if_neg h
def bI (p : Prop) [Decidable p] : Int32 := if p then 1 else 0
theorem bI_t {p : Prop} [Decidable p] (h : p) : bI p = 1 := if_pos h
theorem bI_f {p : Prop} [Decidable p] (h : ¬ p) : bI p = 0 := if_neg h
theorem bI_0 {p : Prop} [Decidable p] : bI p = 0 ↔ ¬ p := by
  by_cases h : p
  · rw [bI_t h]; exact ⟨fun e => absurd e (by decide), fun e => absurd h e⟩
  · rw [bI_f h]; exact ⟨fun _ => h, fun _ => rfl⟩
theorem bI_c {p q : Prop} [Decidable p] [Decidable q] (h : p ↔ q) : bI p = bI q := by
  by_cases hp : p
  · rw [bI_t hp, bI_t (h.mp hp)]
  · rw [bI_f hp, bI_f (fun e => hp (h.mpr e))]
theorem bI_Z {p : Prop} [Decidable p] : isZ (bI p) = true := by
  by_cases hp : p
  · rw [bI_t hp]; decide
  · rw [bI_f hp]; decide
abbrev rg (v : Int32) (n : Nat) : Prop := 0 ≤ v.toInt ∧ v.toInt < (n : Int)
/-- 1 if v is a number 0 .. n - 1 -/
def bR (v : Int32) (n : Nat) : Int32 := bI (0 ≤ v.toInt ∧ v.toInt < (n : Int))
theorem rg_of {v : Int32} {n : Nat} (hn : n < 2 ^ 31) (h : rg v n) : ∃ j : Nat, j < n ∧ v = nI j := vp_in_of (vp_in_iff.mpr h) hn
theorem rg_nI {j n : Nat} (hj : j < 2 ^ 31) : rg (nI j) n ↔ j < n := by
  unfold rg
  rw [nI_toInt hj]
  omega
theorem inB_rg {v : Int32} {n : Nat} : inB v n = true ↔ rg v n := by
  unfold inB rg
  exact decide_eq_true_iff
theorem inB_t {j n : Nat} (hj : j < n) (hn : n < 2 ^ 31) : inB (nI j) n = true := inB_rg.mpr ((rg_nI (by omega)).mpr hj)
theorem bR_t {v : Int32} {n : Nat} (h : rg v n) : bR v n = 1 := bI_t h
theorem bR_f {v : Int32} {n : Nat} (h : ¬ rg v n) : bR v n = 0 := bI_f h
theorem one0 : ¬ ((1 : Int32) = 0) := by decide
theorem rg_lt0 {v : Int32} {n : Nat} (h : v < 0) : ¬ rg v n := fun q => by
  have h1 := Int32.lt_iff_toInt_lt.mp h
  have h2 : (0 : Int32).toInt = 0 := by decide
  unfold rg at q
  omega
theorem bR_ite {v m : Int32} {n : Nat} (hm : m.toInt = (n : Int)) : (if v < 0 then some (0 : Int32) else if m ≤ v then some (0 : Int32) else some (1 : Int32)) = some (bR v n) := by
  have h2 : (0 : Int32).toInt = 0 := by decide
  by_cases h : v < 0
  · rw [if_pos h, bR_f (rg_lt0 h)]
  · rw [if_neg h]
    have h1 : ¬ v.toInt < 0 := fun q => h (Int32.lt_iff_toInt_lt.mpr (by rw [h2]; exact q))
    by_cases g : m ≤ v
    · rw [if_pos g, bR_f]
      have g1 := Int32.le_iff_toInt_le.mp g
      unfold rg
      omega
    · rw [if_neg g, bR_t]
      have g1 : ¬ m.toInt ≤ v.toInt := fun q => g (Int32.le_iff_toInt_le.mpr q)
      unfold rg
      omega
theorem bR_ite2 {v m : Int32} {n : Nat} (hm : m.toInt + 1 = (n : Int)) : (if v < 0 then some (0 : Int32) else if m < v then some (0 : Int32) else some (1 : Int32)) = some (bR v n) := by
  have h2 : (0 : Int32).toInt = 0 := by decide
  by_cases h : v < 0
  · rw [if_pos h, bR_f (rg_lt0 h)]
  · rw [if_neg h]
    have h1 : ¬ v.toInt < 0 := fun q => h (Int32.lt_iff_toInt_lt.mpr (by rw [h2]; exact q))
    by_cases g : m < v
    · rw [if_pos g, bR_f]
      have g1 := Int32.lt_iff_toInt_lt.mp g
      unfold rg
      omega
    · rw [if_neg g, bR_t]
      have g1 : ¬ m.toInt < v.toInt := fun q => g (Int32.lt_iff_toInt_lt.mpr q)
      unfold rg
      omega
theorem isSheet_s (v : Int32) (M : Mem) : d_X8_isSheet v M = some (bR v 4) := bR_ite (by decide)
theorem isLane_s (v : Int32) (M : Mem) : d_X8_isLane v M = some (bR v 3) := bR_ite2 (by decide)
theorem isKind_s (v : Int32) (M : Mem) : d_X8_isKind v M = some (bR v 3) := bR_ite2 (by decide)
theorem Xhas_s {M : Mem} {c : Nat} (hc : c < 2 ^ 31) (h : M 2 3 = nI c) (v : Int32) : d_X6_has v M = some (bR v c) := bR_ite (by rw [h]; exact nI_toInt hc)
theorem Chas_s {M : Mem} {o k : Nat} (hk : k < 2 ^ 31) (h : M o 1 = nI k) (v : Int32) : d_X0_has o v M = some (bR v k) := bR_ite (by rw [h]; exact nI_toInt hk)
theorem in_s (v l h : Int64) (M : Mem) : d_X9_in v l h M = some (bI (l.toInt ≤ v.toInt ∧ v.toInt ≤ h.toInt)) := by
  unfold d_X9_in
  by_cases h1 : lg_cmp v l < 0
  · have h2 := Int64.lt_iff_toInt_lt.mp ((lg_cmp_lt v l).mp h1)
    rw [if_pos h1, bI_f (by omega)]
  · have h2 : ¬ v.toInt < l.toInt := fun q => h1 ((lg_cmp_lt v l).mpr (Int64.lt_iff_toInt_lt.mpr q))
    rw [if_neg h1]
    by_cases g1 : 0 < lg_cmp v h
    · have g2 := Int64.lt_iff_toInt_lt.mp ((lg_cmp_gt v h).mp g1)
      rw [if_pos g1, bI_f (by omega)]
    · have g2 : ¬ h.toInt < v.toInt := fun q => g1 ((lg_cmp_gt v h).mpr (Int64.lt_iff_toInt_lt.mpr q))
      rw [if_neg g1, bI_t (by omega)]
theorem sub1_s {k : Nat} (hk : k < 2 ^ 31) : ((nI k).toInt64 - (1 : Int64)).toInt = (k : Int) - 1 := by
  rw [nI_l hk]
  rcases Nat.eq_zero_or_pos k with h | h
  · subst h; decide
  · rw [show (1 : Int64) = lN 1 from rfl, lN_sub h, lN_toInt (by omega)]
    omega
theorem notb {p : Prop} [Decidable p] (M : Mem) : (bd1 (some (bI p)) (fun (r1 : Int32) => (if r1 = 0 then (some (1 : Int32)) else (some (0 : Int32))))) = some (bI (¬ p)) := by
  rw [bd1_some]
  by_cases h : p
  · rw [bI_t h, if_neg one0, bI_f (fun q => q h)]
  · rw [bI_f h, if_pos rfl, bI_t h]
theorem nF_s {M : Mem} {k : Nat} (hk : k < 2 ^ 31) (h : M 0 2 = nI k) (v : Int32) : d_X9_noFootman v M = some (bI (¬ rg v k)) := by
  unfold d_X9_noFootman
  rw [in_s, notb M]
  congr 1
  refine bI_c ?_
  rw [h, sub1_s hk, Int32.toInt_toInt64]
  have e : (0 : Int64).toInt = 0 := by decide
  unfold rg
  omega
theorem nC_s {M : Mem} {c : Nat} (hc : c < 2 ^ 31) (h : M 0 1 = nI c) (v : Int32) : d_X9_noCorner v M = some (bI (¬ rg v c)) := by
  unfold d_X9_noCorner
  rw [in_s, notb M]
  congr 1
  refine bI_c ?_
  rw [h, sub1_s hc, Int32.toInt_toInt64]
  have e : (0 : Int64).toInt = 0 := by decide
  unfold rg
  omega
theorem nS_s (M : Mem) (v : Int32) : d_X9_noSheet v M = some (bI (¬ rg v 4)) := by
  unfold d_X9_noSheet
  rw [in_s, notb M]
  congr 1
  refine bI_c ?_
  rw [Int32.toInt_toInt64]
  have e : (0 : Int64).toInt = 0 := by decide
  have e2 : (3 : Int64).toInt = 3 := by decide
  unfold rg
  omega
theorem inR_s {v : Int32} {l h : Int64} {M : Mem} {n : Nat} (hl : l.toInt = 0) (hh : h.toInt + 1 = (n : Int)) : d_X9_in v.toInt64 l h M = some (bR v n) := by
  rw [in_s]
  congr 1
  refine bI_c ?_
  rw [Int32.toInt_toInt64]
  omega
