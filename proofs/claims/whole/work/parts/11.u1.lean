/-! errands, over plain numbers -/
def prm : Nat → List Nat → List (List Nat)
  | 0, _ => [[]]
  | n + 1, xs => xs.flatMap (fun x => (prm n (xs.erase x)).map (fun p => x :: p))
def okP (D : Nat → Nat → Nat) (t : Nat) : Nat → List Nat → Bool
  | _, [] => true
  | m, x :: p => decide (D m x ≤ t) && okP D t (m + 1) p
def mxP (D : Nat → Nat → Nat) : Nat → List Nat → Nat
  | _, [] => 0
  | m, x :: p => if D m x ≤ mxP D (m + 1) p then mxP D (m + 1) p else D m x
theorem okP_mx {D : Nat → Nat → Nat} {t : Nat} : ∀ {p : List Nat} {m : Nat}, okP D t m p = true ↔ mxP D m p ≤ t
  | [], m => ⟨fun _ => Nat.zero_le _, fun _ => rfl⟩
  | x :: p, m => by
    have ih := okP_mx (D := D) (t := t) (p := p) (m := m + 1)
    show (decide (D m x ≤ t) && okP D t (m + 1) p) = true ↔ (if D m x ≤ mxP D (m + 1) p then mxP D (m + 1) p else D m x) ≤ t
    rw [Bool.and_eq_true, decide_eq_true_iff, ih]
    split <;> omega
theorem find_prm (D : Nat → Nat → Nat) (t m n : Nat) (xs : List Nat) : (prm (n + 1) xs).find? (okP D t m) = xs.findSome? (fun x => if D m x ≤ t then ((prm n (xs.erase x)).find? (okP D t (m + 1))).map (fun p => x :: p) else none) := by
  show (xs.flatMap (fun x => (prm n (xs.erase x)).map (fun p => x :: p))).find? (okP D t m) = _
  rw [List.find?_flatMap]
  congr 1
  funext x
  rw [List.find?_map]
  by_cases e : D m x ≤ t
  · rw [if_pos e]
    congr 2
    funext p
    show (decide (D m x ≤ t) && okP D t (m + 1) p) = _
    rw [decide_eq_true e, Bool.true_and]
  · rw [if_neg e]
    have z : (okP D t m ∘ fun p => x :: p) = fun _ => false := by
      funext p
      show (decide (D m x ≤ t) && okP D t (m + 1) p) = false
      rw [decide_eq_false e, Bool.false_and]
    rw [z]
    have y : ∀ l : List (List Nat), l.find? (fun _ => false) = none := by
      intro l
      induction l with
      | nil => rfl
      | cons a l ih => exact ih
    rw [y]; rfl
theorem fs_f {f : Nat → Option (List Nat)} {c : Nat → Bool} : ∀ {l : List Nat}, (∀ x, x ∈ l → ((f x).isSome = c x)) → ∀ {p : List Nat}, l.findSome? f = some p → ∃ g, l.find? c = some g ∧ f g = some p
  | [], _, _, h => by cases h
  | a :: l, hc, p, h => by
    have ha := hc a (List.mem_cons_self ..)
    rw [List.findSome?_cons] at h
    rw [List.find?_cons]
    cases q : f a with
    | none =>
      rw [q] at h ha
      rw [← ha]
      exact fs_f (fun x hx => hc x (List.mem_cons_of_mem _ hx)) h
    | some y =>
      rw [q] at h ha
      rw [← ha]
      exact ⟨a, rfl, q.trans h⟩
/-- the first of the best, as the reference walks -/
def bst (f : List Nat → Nat) : Option (Nat × List Nat) → List (List Nat) → Option (Nat × List Nat)
  | b, [] => b
  | none, p :: l => bst f (if f p < INF then some (f p, p) else none) l
  | some (v, r), p :: l => bst f (if f p < v then some (f p, p) else some (v, r)) l
theorem bst_some {f : List Nat → Nat} : ∀ {L : List (List Nat)} {v : Nat} {r : List Nat}, ∃ v' r', bst f (some (v, r)) L = some (v', r') ∧ (v' = v ∧ r' = r ∧ (∀ p, p ∈ L → v ≤ f p) ∨ v' < v ∧ v' = f r' ∧ (∀ p, p ∈ L → v' ≤ f p) ∧ L.find? (fun p => decide (f p ≤ v')) = some r')
  | [], v, r => ⟨v, r, rfl, Or.inl ⟨rfl, rfl, fun p hp => by cases hp⟩⟩
  | a :: L, v, r => by
    by_cases e : f a < v
    · obtain ⟨v', r', h1, h2⟩ := bst_some (f := f) (L := L) (v := f a) (r := a)
      refine ⟨v', r', by rw [bst, if_pos e]; exact h1, Or.inr ?_⟩
      rcases h2 with ⟨e1, e2, h3⟩ | ⟨h3, h4, h5, h6⟩
      · subst e1 e2
        refine ⟨e, rfl, fun p hp => ?_, ?_⟩
        · rcases List.mem_cons.mp hp with q | q
          · rw [q]; exact Nat.le_refl _
          · exact h3 p q
        · rw [List.find?_cons, decide_eq_true (Nat.le_refl _)]
      · refine ⟨by omega, h4, fun p hp => ?_, ?_⟩
        · rcases List.mem_cons.mp hp with q | q
          · rw [q]; omega
          · exact h5 p q
        · rw [List.find?_cons, decide_eq_false (by omega)]
          exact h6
    · obtain ⟨v', r', h1, h2⟩ := bst_some (f := f) (L := L) (v := v) (r := r)
      refine ⟨v', r', by rw [bst, if_neg e]; exact h1, ?_⟩
      rcases h2 with ⟨e1, e2, h3⟩ | ⟨h3, h4, h5, h6⟩
      · refine Or.inl ⟨e1, e2, fun p hp => ?_⟩
        rcases List.mem_cons.mp hp with q | q
        · rw [q]; omega
        · exact h3 p q
      · refine Or.inr ⟨h3, h4, fun p hp => ?_, ?_⟩
        · rcases List.mem_cons.mp hp with q | q
          · rw [q]; omega
          · exact h5 p q
        · rw [List.find?_cons, decide_eq_false (by omega)]
          exact h6
theorem bst_none {f : List Nat → Nat} : ∀ {L : List (List Nat)}, (bst f none L = none ∧ ∀ p, p ∈ L → INF ≤ f p) ∨ ∃ v r, bst f none L = some (v, r) ∧ v < INF ∧ v = f r ∧ (∀ p, p ∈ L → v ≤ f p) ∧ L.find? (fun p => decide (f p ≤ v)) = some r
  | [] => Or.inl ⟨rfl, fun p hp => by cases hp⟩
  | a :: L => by
    by_cases e : f a < INF
    · right
      obtain ⟨v', r', h1, h2⟩ := bst_some (f := f) (L := L) (v := f a) (r := a)
      refine ⟨v', r', by rw [bst, if_pos e]; exact h1, ?_⟩
      rcases h2 with ⟨e1, e2, h3⟩ | ⟨h3, h4, h5, h6⟩
      · subst e1 e2
        refine ⟨e, rfl, fun p hp => ?_, ?_⟩
        · rcases List.mem_cons.mp hp with q | q
          · rw [q]; exact Nat.le_refl _
          · exact h3 p q
        · rw [List.find?_cons, decide_eq_true (Nat.le_refl _)]
      · refine ⟨by omega, h4, fun p hp => ?_, ?_⟩
        · rcases List.mem_cons.mp hp with q | q
          · rw [q]; omega
          · exact h5 p q
        · rw [List.find?_cons, decide_eq_false (by omega)]
          exact h6
    · rcases bst_none (f := f) (L := L) with ⟨h1, h2⟩ | ⟨v, r, h1, h2, h3, h4, h5⟩
      · refine Or.inl ⟨by rw [bst, if_neg e]; exact h1, fun p hp => ?_⟩
        rcases List.mem_cons.mp hp with q | q
        · rw [q]; omega
        · exact h2 p q
      · refine Or.inr ⟨v, r, by rw [bst, if_neg e]; exact h1, h2, h3, fun p hp => ?_, ?_⟩
        · rcases List.mem_cons.mp hp with q | q
          · rw [q]; omega
          · exact h4 p q
        · rw [List.find?_cons, decide_eq_false (by omega)]
          exact h5
theorem pig_le : ∀ {k : Nat} {L : List Nat}, L.Nodup → (∀ g, g ∈ L → g < k) → L.length ≤ k
  | 0, [], _, _ => Nat.le_refl _
  | 0, a :: L, _, h => absurd (h a (List.mem_cons_self ..)) (Nat.not_lt_zero _)
  | k + 1, L, hn, h => by
    by_cases e : k ∈ L
    · have h1 := pig_le (k := k) (L := L.erase k) (hn.erase k) (fun g hg => by
        have h2 := h g (List.mem_of_mem_erase hg)
        have h3 : g ≠ k := fun q => by subst q; exact (hn.not_mem_erase) hg
        omega)
      have h4 := List.length_erase_of_mem e
      omega
    · have h1 := pig_le (k := k) hn (fun g hg => by
        have h2 := h g hg
        have h3 : g ≠ k := fun q => by subst q; exact e hg
        omega)
      omega
theorem pig_ge : ∀ {k : Nat} {L : List Nat}, (∀ g, g < k → g ∈ L) → k ≤ L.length
  | 0, _, _ => Nat.zero_le _
  | k + 1, L, h => by
    have e := h k (by omega)
    have h1 := pig_ge (k := k) (L := L.erase k) (fun g hg => (List.mem_erase_of_ne (by omega)).mpr (h g (by omega)))
    have h4 := List.length_erase_of_mem e
    have h5 := List.length_pos_of_mem e
    omega
def frs (sl : List Nat) (S : Nat) : List Nat := sl.filter (fun g => !S.testBit g)
theorem pop_all : ∀ k, k < 7 → ∀ S, S < 64 → S < 2 ^ k → pb 6 S = k → S = 2 ^ k - 1 := by decide +kernel
theorem pop_top : ∀ k, k < 7 → pb 6 (2 ^ k - 1) = k := by decide +kernel
theorem pop_or {S g : Nat} (hg : g < 6) (h : S.testBit g = false) : pb 6 (S ||| 2 ^ g) = pb 6 S + 1 := by
  have k2 := smb_set (p := fun y => S.testBit y) (q := fun y => (S ||| 2 ^ g).testBit y) (l := fun _ => 1) (tb_or S _) h 6
  rw [if_pos hg, ← ctb_smb, ← ctb_smb] at k2
  rw [pb_ctb, pb_ctb]
  exact k2
theorem frs_or {sl : List Nat} (hn : sl.Nodup) (S g : Nat) : frs sl (S ||| 2 ^ g) = (frs sl S).erase g := by
  unfold frs
  have hnf : (sl.filter (fun g => !S.testBit g)).Nodup := hn.filter _
  rw [List.Nodup.erase_eq_filter hnf, List.filter_filter]
  congr 1
  funext y
  rw [tb_or]
  by_cases e : y = g
  · subst e; simp
  · rw [decide_eq_false e, Bool.or_false]
    simp [e]
theorem T1 {k : Nat} {D : Nat → Nat → Nat} {sn : Nat → Nat} {sl : List Nat} (hk : k ≤ 6) (hn : sl.Nodup) (hm : ∀ g, g ∈ sl ↔ g < k) (h0 : sn (2 ^ k - 1) = 0) (hs : ∀ S, S < 2 ^ k - 1 → ∀ t, t < INF → (sn S ≤ t ↔ ∃ g, g < k ∧ S.testBit g = false ∧ D (pb 6 S) g ≤ t ∧ sn (S ||| 2 ^ g) ≤ t)) : ∀ n S, S < 2 ^ k → pb 6 S + n = k → ∀ t, t < INF → (sn S ≤ t ↔ (prm n (frs sl S)).any (okP D t (pb 6 S)) = true) := by
  have h64 : 2 ^ k ≤ 2 ^ 6 := Nat.pow_le_pow_right (by decide) hk
  intro n
  induction n with
  | zero =>
    intro S hS hp t ht
    rw [pop_all k (by omega) S (by omega) hS hp, h0]
    exact ⟨fun _ => rfl, fun _ => Nat.zero_le _⟩
  | succ n ih =>
    intro S hS hp t ht
    have hlt : S < 2 ^ k - 1 := by
      have h1 : S ≠ 2 ^ k - 1 := fun q => by rw [q, pop_top k (by omega)] at hp; omega
      omega
    rw [hs S hlt t ht]
    show _ ↔ ((frs sl S).flatMap (fun x => (prm n ((frs sl S).erase x)).map (fun p => x :: p))).any (okP D t (pb 6 S)) = true
    rw [List.any_eq_true]
    constructor
    · rintro ⟨g, g1, g2, g3, g4⟩
      have hS2 : S ||| 2 ^ g < 2 ^ k := Nat.or_lt_two_pow hS (Nat.pow_lt_pow_right (by decide) g1)
      have h2 := (ih (S ||| 2 ^ g) hS2 (by rw [pop_or (by omega) g2]; omega) t ht).mp g4
      rw [frs_or hn, pop_or (by omega) g2, List.any_eq_true] at h2
      obtain ⟨p, p1, p2⟩ := h2
      refine ⟨g :: p, List.mem_flatMap.mpr ⟨g, ?_, List.mem_map.mpr ⟨p, p1, rfl⟩⟩, ?_⟩
      · unfold frs
        exact List.mem_filter.mpr ⟨(hm g).mpr g1, by rw [g2]; rfl⟩
      · show (decide (D (pb 6 S) g ≤ t) && okP D t (pb 6 S + 1) p) = true
        rw [decide_eq_true g3, p2]; rfl
    · rintro ⟨p, p1, p2⟩
      obtain ⟨g, q1, q2⟩ := List.mem_flatMap.mp p1
      obtain ⟨r, r1, rfl⟩ := List.mem_map.mp q2
      unfold frs at q1
      obtain ⟨q3, q4⟩ := List.mem_filter.mp q1
      have g1 := (hm g).mp q3
      have g2 : S.testBit g = false := by
        cases q : S.testBit g with
        | false => rfl
        | true => rw [q] at q4; cases q4
      have p3 : (decide (D (pb 6 S) g ≤ t) && okP D t (pb 6 S + 1) r) = true := p2
      rw [Bool.and_eq_true, decide_eq_true_iff] at p3
      have hS2 : S ||| 2 ^ g < 2 ^ k := Nat.or_lt_two_pow hS (Nat.pow_lt_pow_right (by decide) g1)
      refine ⟨g, g1, g2, p3.1, (ih (S ||| 2 ^ g) hS2 (by rw [pop_or (by omega) g2]; omega) t ht).mpr ?_⟩
      rw [frs_or hn, pop_or (by omega) g2, List.any_eq_true]
      exact ⟨r, r1, p3.2⟩
/-- what the class takes next is the head of what the reference found -/
theorem T2 {k : Nat} {D : Nat → Nat → Nat} {sn : Nat → Nat} {sl : List Nat} (hk : k ≤ 6) (hn : sl.Nodup) (hm : ∀ g, g ∈ sl ↔ g < k) (h0 : sn (2 ^ k - 1) = 0) (hs : ∀ S, S < 2 ^ k - 1 → ∀ t, t < INF → (sn S ≤ t ↔ ∃ g, g < k ∧ S.testBit g = false ∧ D (pb 6 S) g ≤ t ∧ sn (S ||| 2 ^ g) ≤ t)) {n S t : Nat} (hS : S < 2 ^ k) (hp : pb 6 S + (n + 1) = k) (ht : t < INF) {p : List Nat} (h : (prm (n + 1) (frs sl S)).find? (okP D t (pb 6 S)) = some p) : ∃ g q, p = g :: q ∧ (frs sl S).find? (fun g => decide (D (pb 6 S) g ≤ t ∧ sn (S ||| 2 ^ g) ≤ t)) = some g ∧ (prm n (frs sl (S ||| 2 ^ g))).find? (okP D t (pb 6 S + 1)) = some q := by
  rw [find_prm] at h
  obtain ⟨g, h1, h2⟩ := fs_f (c := fun g => decide (D (pb 6 S) g ≤ t ∧ sn (S ||| 2 ^ g) ≤ t)) (fun x hx => by
    unfold frs at hx
    obtain ⟨q3, q4⟩ := List.mem_filter.mp hx
    have g1 := (hm x).mp q3
    have g2 : S.testBit x = false := by
      cases q : S.testBit x with
      | false => rfl
      | true => rw [q] at q4; cases q4
    have hS2 : S ||| 2 ^ x < 2 ^ k := Nat.or_lt_two_pow hS (Nat.pow_lt_pow_right (by decide) g1)
    have t1 := T1 hk hn hm h0 hs n (S ||| 2 ^ x) hS2 (by rw [pop_or (by omega) g2]; omega) t ht
    rw [frs_or hn, pop_or (by omega) g2] at t1
    by_cases e : D (pb 6 S) x ≤ t
    · rw [if_pos e, Option.isSome_map]
      by_cases z : sn (S ||| 2 ^ x) ≤ t
      · rw [decide_eq_true ⟨e, z⟩, List.isSome_find?, t1.mp z]
      · rw [decide_eq_false (fun y => z y.2)]
        cases q : ((prm n ((frs sl S).erase x)).find? (okP D t (pb 6 S + 1))).isSome with
        | false => rfl
        | true => rw [List.isSome_find?] at q; exact absurd (t1.mpr q) z
    · rw [if_neg e, decide_eq_false (fun y => e y.1)]; rfl) h
  have hd := List.find?_some h1
  have hd := of_decide_eq_true hd
  rw [if_pos hd.1] at h2
  cases q : (prm n ((frs sl S).erase g)).find? (okP D t (pb 6 S + 1)) with
  | none => rw [q] at h2; cases h2
  | some y =>
    rw [q] at h2
    refine ⟨g, y, ?_, h1, by rw [frs_or hn]; exact q⟩
    exact (Option.some.inj h2).symm
