/-! memory of a world: what cell o holds at place j; a world: n cells at the addresses ad, their kinds by sh -/
abbrev Mem : Type := Nat → Nat → Int32
def mu (M : Mem) (o j : Nat) (v : Int32) : Mem := fun q => if q = o then upd (M o) j v else M q
def wd (ad : Nat → Nat) (sh : Nat → (Nat → Int32) → va_E) (n : Nat) (M : Mem) : va_W := (List.range n).map (fun o => (ad o, sh o (M o)))
theorem wd_at {ad : Nat → Nat} {sh : Nat → (Nat → Int32) → va_E} {n : Nat} {M : Mem} {o : Nat} (h : o < n) : (wd ad sh n M)[o]? = some (ad o, sh o (M o)) := by
  simp [wd, h]
theorem wd_in {ad : Nat → Nat} {sh : Nat → (Nat → Int32) → va_E} {n : Nat} {M : Mem} {k : Nat} {q : Nat × va_E} (h : (wd ad sh n M)[k]? = some q) : k < n ∧ q.1 = ad k := by
  rcases Nat.lt_or_ge k n with hk | hk
  · rw [wd_at hk] at h
    exact ⟨hk, by rw [← Option.some.inj h]⟩
  · have : (wd ad sh n M)[k]? = none := by simp [wd, hk]
    rw [this] at h
    cases h
theorem wd_set {ad : Nat → Nat} {sh : Nat → (Nat → Int32) → va_E} {n : Nat} {M : Mem} {o : Nat} {f : Nat → Int32} (h : o < n) : (wd ad sh n M).set o (ad o, sh o f) = wd ad sh n (fun q => if q = o then f else M q) := by
  apply List.ext_getElem?
  intro i
  rcases Nat.lt_or_ge i n with hi | hi
  · rw [wd_at hi, List.getElem?_set]
    by_cases e : o = i
    · subst e
      simp [wd, h]
    · rw [if_neg e, wd_at hi]
      have e2 : ¬ i = o := fun q => e q.symm
      simp [e2]
  · have h1 : (wd ad sh n (fun q => if q = o then f else M q))[i]? = none := by simp [wd, hi]
    have h2 : ((wd ad sh n M).set o (ad o, sh o f))[i]? = none := by simp [wd, hi]
    rw [h1, h2]
def adOK (ad : Nat → Nat) (n : Nat) : Prop := ∀ i j : Nat, i < n → j < n → ad i = ad j → i = j
def AX (ad : Nat → Nat) (n sz : Nat) : Nat → Prop := fun q => (∃ o : Nat, o < n ∧ q = ad o) ∨ sz ≤ q
theorem wd_D {ad : Nat → Nat} {sh : Nat → (Nat → Int32) → va_E} {n sz : Nat} (h : adOK ad n) (M : Mem) : va_D (AX ad n sz) (wd ad sh n M) := by
  refine ⟨fun i j p q hp hq e => ?_, fun k q hq => ?_⟩
  · obtain ⟨h1, h2⟩ := wd_in hp
    obtain ⟨h3, h4⟩ := wd_in hq
    exact h i j h1 h3 (by rw [← h2, ← h4]; exact e)
  · obtain ⟨h1, h2⟩ := wd_in hq
    exact Or.inl ⟨k, h1, h2⟩
def inB (i : Int32) (n : Nat) : Bool := decide (0 ≤ i.toInt ∧ i.toInt < (n : Int))
theorem inB_vp {i : Int32} {n : Nat} (h : inB i n = true) : vp_in i n := vp_in_iff.mpr (of_decide_eq_true h)
theorem inB_lt {i : Int32} {n : Nat} (h : inB i n = true) : i.toNatClampNeg < n := by
  have h1 : 0 ≤ i.toInt ∧ i.toInt < (n : Int) := of_decide_eq_true h
  have h2 : i.toNatClampNeg = i.toInt.toNat := rfl
  omega
def rowR (ad : Nat → Nat) (n : Nat) (g : Nat → Nat) : Nat → Option Nat := fun j => if j < n then some (ad (g j)) else none
abbrev tyL (cA : Nat → ClassId) : List (ClassId × FieldType) := [(cA 0, .int), (cA 1, .object RX2), (cA 2, .object RX5)]
/-! the words on private members of nest mates -/

def nestF : List (String × Nat × String × String × String × String) := [("PromiseWalk$TownText", 44, "PromiseWalk$Streets", "corners", "I", "PromiseWalk"), ("PromiseWalk", 236, "PromiseWalk$Streets", "corners", "I", "PromiseWalk"), ("PromiseWalk$Company", 22, "PromiseWalk$Footman", "kind", "I", "PromiseWalk"), ("PromiseWalk", 99, "PromiseWalk$Footman", "kind", "I", "PromiseWalk"), ("PromiseWalk$Company", 25, "PromiseWalk$Footman", "from", "I", "PromiseWalk"), ("PromiseWalk", 104, "PromiseWalk$Footman", "from", "I", "PromiseWalk"), ("PromiseWalk$Company", 28, "PromiseWalk$Footman", "to", "I", "PromiseWalk"), ("PromiseWalk$Errands", 46, "PromiseWalk$Footman", "to", "I", "PromiseWalk"), ("PromiseWalk", 107, "PromiseWalk$Footman", "to", "I", "PromiseWalk"), ("PromiseWalk$Company", 31, "PromiseWalk$Footman", "calves", "I", "PromiseWalk"), ("PromiseWalk", 110, "PromiseWalk$Footman", "calves", "I", "PromiseWalk"), ("PromiseWalk$Company", 34, "PromiseWalk$Footman", "walked", "I", "PromiseWalk"), ("PromiseWalk", 117, "PromiseWalk$Footman", "walked", "I", "PromiseWalk"), ("PromiseWalk$Season", 76, "PromiseWalk$Footman", "walked", "I", "PromiseWalk"), ("PromiseWalk$Company", 37, "PromiseWalk$Footman", "sits", "Z", "PromiseWalk"), ("PromiseWalk", 120, "PromiseWalk$Footman", "sits", "Z", "PromiseWalk"), ("PromiseWalk", 95, "PromiseWalk$Company", "footmen", "[LPromiseWalk$Footman;", "PromiseWalk"), ("PromiseWalk$Errands", 42, "PromiseWalk$Company", "footmen", "[LPromiseWalk$Footman;", "PromiseWalk"), ("PromiseWalk$Readings", 31, "PromiseWalk$Company", "footmen", "[LPromiseWalk$Footman;", "PromiseWalk"), ("PromiseWalk$Season", 72, "PromiseWalk$Company", "footmen", "[LPromiseWalk$Footman;", "PromiseWalk"), ("PromiseWalk$Errands", 15, "PromiseWalk$Company", "count", "I", "PromiseWalk"), ("PromiseWalk", 91, "PromiseWalk$Company", "count", "I", "PromiseWalk"), ("PromiseWalk$TownText", 55, "PromiseWalk$Company", "count", "I", "PromiseWalk"), ("PromiseWalk", 88, "PromiseWalk$Readings", "count", "I", "PromiseWalk"), ("PromiseWalk", 267, "PromiseWalk$Sheet", "cells", "[I", "PromiseWalk"), ("PromiseWalk", 264, "PromiseWalk$Sheet", "lane", "I", "PromiseWalk")]
def nestM : List (String × Nat × MethodName × String) := [("PromiseWalk", 19, ⟨"PromiseWalk$Streets", "<init>", "()V"⟩, "PromiseWalk"), ("PromiseWalk$Company", 21, ⟨"PromiseWalk$Footman", "<init>", "()V"⟩, "PromiseWalk"), ("PromiseWalk", 33, ⟨"PromiseWalk$Season", "<init>", "()V"⟩, "PromiseWalk"), ("PromiseWalk", 40, ⟨"PromiseWalk$Errands", "<init>", "()V"⟩, "PromiseWalk"), ("PromiseWalk", 47, ⟨"PromiseWalk$Readings", "<init>", "()V"⟩, "PromiseWalk"), ("PromiseWalk", 62, ⟨"PromiseWalk$Sheet", "<init>", "()V"⟩, "PromiseWalk"), ("PromiseWalk$Footman", 31, ⟨"PromiseWalk", "paceOf", "(II)I"⟩, "PromiseWalk"), ("PromiseWalk$Footman", 45, ⟨"PromiseWalk", "daysFor", "(II)I"⟩, "PromiseWalk")]
def NWs (U : State) : Prop := (∀ q ∈ nestF, va_Nw (.fieldLinkNest q.1 q.2.1 q.2.2.1 q.2.2.2.1 q.2.2.2.2.1 q.2.2.2.2.2) U) ∧ ∀ q ∈ nestM, va_Nw (.methodLinkNest q.1 q.2.1 q.2.2.1 q.2.2.2) U
theorem NWs.warm {s U : State} (hW : s.WarmedH U.vm) (h : NWs s) : NWs U := ⟨fun q hq => va_Nw.warmF hW (h.1 q hq), fun q hq => va_Nw.warmM hW (h.2 q hq)⟩
theorem NWs.same {s U : State} (hv : s.vm = U.vm) (h : NWs s) : NWs U := ⟨fun q hq => va_Nw.same rfl hv (h.1 q hq), fun q hq => va_Nw.same rfl hv (h.2 q hq)⟩
theorem NWs.f {U : State} (h : NWs U) (k : Nat) {q : String × Nat × String × String × String × String} (hk : nestF[k]? = some q) {args : Array Value} : (Cond.fieldLinkNest q.1 q.2.1 q.2.2.1 q.2.2.2.1 q.2.2.2.2.1 q.2.2.2.2.2).before args U = true := va_Nw.use rfl (h.1 q (List.mem_of_getElem? hk))
theorem NWs.m {U : State} (h : NWs U) (k : Nat) {q : String × Nat × MethodName × String} (hk : nestM[k]? = some q) : va_Nw (.methodLinkNest q.1 q.2.1 q.2.2.1 q.2.2.2) U := h.2 q (List.mem_of_getElem? hk)
/-! contracts: from a world with memory M, the answer and the memory that the function d tells -/
def PreG (D : va_G) (cA : Nat → ClassId) (ad : Nat → Nat) (sh : Nat → (Nat → Int32) → va_E) (n sz : Nat) (M : Mem) (U : State) : Prop := U.heap.size = sz ∧ va_P D vwCl (wd ad sh n M) U.heap ∧ va_K D vwCl (tyL cA) U ∧ NWs U
def QI (D : va_G) (ad : Nat → Nat) (sh : Nat → (Nat → Int32) → va_E) (n sz : Nat) (R0 : Int32 × Mem) : Array Value → State → Outcome → State → Prop := va_Qi (fun r M' => (r, M') = R0) (fun M' t => va_P D vwCl (wd ad sh n M') t.heap) (AX ad n sz)
def QL (D : va_G) (ad : Nat → Nat) (sh : Nat → (Nat → Int32) → va_E) (n sz : Nat) (R0 : Int64 × Mem) : Array Value → State → Outcome → State → Prop := va_Ql (fun r M' => (r, M') = R0) (fun M' t => va_P D vwCl (wd ad sh n M') t.heap) (AX ad n sz)
def QV (D : va_G) (ad : Nat → Nat) (sh : Nat → (Nat → Int32) → va_E) (n sz : Nat) (R0 : Mem) : Array Value → State → Outcome → State → Prop := va_Qv (fun M' => M' = R0) (fun M' t => va_P D vwCl (wd ad sh n M') t.heap) (AX ad n sz)
def CI (l : Launch) (y : MethodName) (ws : List Cond) (rm : Room) (D : va_G) (cA : Nat → ClassId) (ad : Nat → Nat) (sh : Nat → (Nat → Int32) → va_E) (n : Nat) (As : List Value) (M : Mem) (d : Option (Int32 × Mem)) : Prop := ∀ (sz : Nat) (R0 : Int32 × Mem), d = some R0 → Met l y ws rm (va_Pc As (PreG D cA ad sh n sz M)) (QI D ad sh n sz R0) 0 0 (AX ad n sz)
def CL (l : Launch) (y : MethodName) (ws : List Cond) (rm : Room) (D : va_G) (cA : Nat → ClassId) (ad : Nat → Nat) (sh : Nat → (Nat → Int32) → va_E) (n : Nat) (As : List Value) (M : Mem) (d : Option (Int64 × Mem)) : Prop := ∀ (sz : Nat) (R0 : Int64 × Mem), d = some R0 → Met l y ws rm (va_Pc As (PreG D cA ad sh n sz M)) (QL D ad sh n sz R0) 0 0 (AX ad n sz)
def CV (l : Launch) (y : MethodName) (ws : List Cond) (rm : Room) (D : va_G) (cA : Nat → ClassId) (ad : Nat → Nat) (sh : Nat → (Nat → Int32) → va_E) (n : Nat) (As : List Value) (M : Mem) (d : Option Mem) : Prop := ∀ (sz : Nat) (R0 : Mem), d = some R0 → Met l y ws rm (va_Pc As (PreG D cA ad sh n sz M)) (QV D ad sh n sz R0) 0 0 (AX ad n sz)
/-- a pure answer: the memory stays -/
def wM {α : Type} (M : Mem) (d : Option α) : Option (α × Mem) := d.map (fun r => (r, M))
theorem wM_some {α : Type} {M : Mem} {d : Option α} {R : α × Mem} (h : wM M d = some R) : d = some R.1 ∧ M = R.2 := by
  cases d with
  | none => cases h
  | some r =>
    have h1 := Option.some.inj h
    exact ⟨by rw [← h1], by rw [← h1]⟩
theorem preG_blind {D : va_G} {cA : Nat → ClassId} {ad : Nat → Nat} {sh : Nat → (Nat → Int32) → va_E} {n sz : Nat} {M : Mem} {As : List Value} : FrameBlind (va_Pc As (PreG D cA ad sh n sz M)) := fun a U g mk q => by
  obtain ⟨q0, q1, qP, qK, qN⟩ := q
  exact ⟨q0, q1, qP, va_K.moved (u := U) (U := U.calling g mk a) (Vm.Alike.refl U.vm) qK, NWs.same (s := U) rfl qN⟩
/-- what a body stands on -/
def Bx (p : Program) (s : State) (m : MethodId) (args : Array Value) (c : Code) (D : va_G) (cA : Nat → ClassId) (ad : Nat → Nat) (n nL : Nat) (own : String) (cc : ByteArray) (ws : List Cond) : Prop :=
  p.tables.exec = Jvm.exec ∧ c.code = cc ∧ c.maxLocals = nL ∧ s.vm.findClass own = some m.cls ∧ (∀ w ∈ ws, w.before args s = true) ∧ va_K D vwCl (tyL cA) s ∧ adOK ad n ∧ NWs s
/-- the machine at pc, with locals lv and stack st over memory M, comes to Q if what is left, d, ends with R0 -/
def GG {ρ : Type} (p : Program) (l : Launch) (e : Env) (R : Room) (s : State) (m : MethodId) (args : Array Value) (below : List Frame) (meth : Method) (c : Code) (D : va_G) (ad : Nat → Nat) (sh : Nat → (Nat → Int32) → va_E) (n nL : Nat) (Q : State → Prop) (R0 : ρ) (M : Mem) (pc : Nat) (lv : List (Nat × Value)) (st : List Value) (d : Option ρ) : Prop :=
  d = some R0 → ∀ (H : Heap) (locs : List Loc) (ls : Array Slot), va_P D vwCl (wd ad sh n M) H → va_S (AX ad n s.heap.size) s.heap H locs → lv_has ls nL lv → W p l e R s m args below meth c H locs 0 0 Q (F0 m pc ls st)

section GK
variable {ρ : Type} {p : Program} {l : Launch} {e : Env} {R : Room} {s : State} {m : MethodId} {args : Array Value} {below : List Frame} {meth : Method} {c : Code} {D : va_G} {cA : Nat → ClassId} {ad : Nat → Nat} {sh : Nat → (Nat → Int32) → va_E} {n nL : Nat} {own : String} {cc : ByteArray} {ws : List Cond} {Q : State → Prop} {R0 : ρ} {M : Mem} {pc : Nat} {lv : List (Nat × Value)} {st : List Value} {d d1 d2 : Option ρ}
theorem g_d (h : d = d1) (kk : GG p l e R s m args below meth c D ad sh n nL Q R0 M pc lv st d1) : GG p l e R s m args below meth c D ad sh n nL Q R0 M pc lv st d := fun hd => kk (h.symm.trans hd)
theorem g_none : GG p l e R s m args below meth c D ad sh n nL Q R0 M pc lv st none := fun hd => nomatch hd
theorem g_lv {lv1 : List (Nat × Value)} (ks : List Nat) (h : lv_pick lv ks = lv1) (kk : GG p l e R s m args below meth c D ad sh n nL Q R0 M pc lv1 st d) : GG p l e R s m args below meth c D ad sh n nL Q R0 M pc lv st d := fun hd H locs ls hP hS hL => kk hd H locs ls hP hS (lv_sub hL ks h)
theorem g_M {M1 : Mem} (h : M = M1) (kk : GG p l e R s m args below meth c D ad sh n nL Q R0 M1 pc lv st d) : GG p l e R s m args below meth c D ad sh n nL Q R0 M pc lv st d := by subst h; exact kk
theorem g_if {q : Prop} [Decidable q] (kt : q → GG p l e R s m args below meth c D ad sh n nL Q R0 M pc lv st d1) (kf : ¬ q → GG p l e R s m args below meth c D ad sh n nL Q R0 M pc lv st d2) : GG p l e R s m args below meth c D ad sh n nL Q R0 M pc lv st (if q then d1 else d2) := by
  by_cases h : q
  · rw [if_pos h]; exact kt h
  · rw [if_neg h]; exact kf h
theorem g_gd {q : Prop} [Decidable q] (kt : q → GG p l e R s m args below meth c D ad sh n nL Q R0 M pc lv st d) : GG p l e R s m args below meth c D ad sh n nL Q R0 M pc lv st (if q then d else none) := g_if kt (fun _ => g_none)
theorem g_iload_n (B : Bx p s m args c D cA ad n nL own cc ws) {k : Fin 4} {i : Nat} {x : Int32} (hdg : decode cc pc = .ok (.iload_n k, 1)) (j : Nat) (hi : (k : Nat) = i) (hl : lv[j]? = some (i, Value.int x)) (kk : GG p l e R s m args below meth c D ad sh n nL Q R0 M (pc + 1) lv (Value.int x :: st) d) : GG p l e R s m args below meth c D ad sh n nL Q R0 M pc lv st d := fun hd H locs ls hP hS hL => lv_iload_n B.1 B.2.1 hdg hi (lv_at hL j hl) (kk hd H locs ls hP hS hL)
theorem g_iload (B : Bx p s m args c D cA ad n nL own cc ws) {i : Nat} {x : Int32} (hdg : decode cc pc = .ok (.iload i, 2)) (j : Nat) (hl : lv[j]? = some (i, Value.int x)) (kk : GG p l e R s m args below meth c D ad sh n nL Q R0 M (pc + 2) lv (Value.int x :: st) d) : GG p l e R s m args below meth c D ad sh n nL Q R0 M pc lv st d := fun hd H locs ls hP hS hL => lv_iload B.1 B.2.1 hdg (lv_at hL j hl) (kk hd H locs ls hP hS hL)
theorem g_aload_n (B : Bx p s m args c D cA ad n nL own cc ws) {k : Fin 4} {i : Nat} {x : Nat} (hdg : decode cc pc = .ok (.aload_n k, 1)) (j : Nat) (hi : (k : Nat) = i) (hl : lv[j]? = some (i, Value.ref x)) (kk : GG p l e R s m args below meth c D ad sh n nL Q R0 M (pc + 1) lv (Value.ref x :: st) d) : GG p l e R s m args below meth c D ad sh n nL Q R0 M pc lv st d := fun hd H locs ls hP hS hL => lv_aload_n B.1 B.2.1 hdg hi (lv_at hL j hl) (kk hd H locs ls hP hS hL)
theorem g_aload (B : Bx p s m args c D cA ad n nL own cc ws) {i : Nat} {x : Nat} (hdg : decode cc pc = .ok (.aload i, 2)) (j : Nat) (hl : lv[j]? = some (i, Value.ref x)) (kk : GG p l e R s m args below meth c D ad sh n nL Q R0 M (pc + 2) lv (Value.ref x :: st) d) : GG p l e R s m args below meth c D ad sh n nL Q R0 M pc lv st d := fun hd H locs ls hP hS hL => lv_aload B.1 B.2.1 hdg (lv_at hL j hl) (kk hd H locs ls hP hS hL)
theorem g_lload_n (B : Bx p s m args c D cA ad n nL own cc ws) {k : Fin 4} {i : Nat} {x : Int64} (hdg : decode cc pc = .ok (.lload_n k, 1)) (j : Nat) (hi : (k : Nat) = i) (hl : lv[j]? = some (i, Value.long x)) (kk : GG p l e R s m args below meth c D ad sh n nL Q R0 M (pc + 1) lv (Value.long x :: st) d) : GG p l e R s m args below meth c D ad sh n nL Q R0 M pc lv st d := fun hd H locs ls hP hS hL => lv_lload_n B.1 B.2.1 hdg hi (lv_at hL j hl) (kk hd H locs ls hP hS hL)
theorem g_lload (B : Bx p s m args c D cA ad n nL own cc ws) {i : Nat} {x : Int64} (hdg : decode cc pc = .ok (.lload i, 2)) (j : Nat) (hl : lv[j]? = some (i, Value.long x)) (kk : GG p l e R s m args below meth c D ad sh n nL Q R0 M (pc + 2) lv (Value.long x :: st) d) : GG p l e R s m args below meth c D ad sh n nL Q R0 M pc lv st d := fun hd H locs ls hP hS hL => lv_lload B.1 B.2.1 hdg (lv_at hL j hl) (kk hd H locs ls hP hS hL)
theorem g_istore_n (B : Bx p s m args c D cA ad n nL own cc ws) {k : Fin 4} {i : Nat} {x : Int32} {lv1 : List (Nat × Value)} (hdg : decode cc pc = .ok (.istore_n k, 1)) (hi : (k : Nat) = i) (hn : i < nL) (hl : (i, Value.int x) :: lv.filter (fun q => !(q.1 == i) && !(q.1 + 1 == i && q.2.category == 2)) = lv1) (kk : GG p l e R s m args below meth c D ad sh n nL Q R0 M (pc + 1) lv1 st d) : GG p l e R s m args below meth c D ad sh n nL Q R0 M pc lv (Value.int x :: st) d := fun hd H locs ls hP hS hL => lv_istore_n B.1 B.2.1 hdg hi hL hn hl (fun ls1 hL1 => kk hd H locs ls1 hP hS hL1)
theorem g_istore (B : Bx p s m args c D cA ad n nL own cc ws) {i : Nat} {x : Int32} {lv1 : List (Nat × Value)} (hdg : decode cc pc = .ok (.istore i, 2)) (hn : i < nL) (hl : (i, Value.int x) :: lv.filter (fun q => !(q.1 == i) && !(q.1 + 1 == i && q.2.category == 2)) = lv1) (kk : GG p l e R s m args below meth c D ad sh n nL Q R0 M (pc + 2) lv1 st d) : GG p l e R s m args below meth c D ad sh n nL Q R0 M pc lv (Value.int x :: st) d := fun hd H locs ls hP hS hL => lv_istore B.1 B.2.1 hdg hL hn hl (fun ls1 hL1 => kk hd H locs ls1 hP hS hL1)
theorem g_astore_n (B : Bx p s m args c D cA ad n nL own cc ws) {k : Fin 4} {i : Nat} {x : Nat} {lv1 : List (Nat × Value)} (hdg : decode cc pc = .ok (.astore_n k, 1)) (hi : (k : Nat) = i) (hn : i < nL) (hl : (i, Value.ref x) :: lv.filter (fun q => !(q.1 == i) && !(q.1 + 1 == i && q.2.category == 2)) = lv1) (kk : GG p l e R s m args below meth c D ad sh n nL Q R0 M (pc + 1) lv1 st d) : GG p l e R s m args below meth c D ad sh n nL Q R0 M pc lv (Value.ref x :: st) d := fun hd H locs ls hP hS hL => lv_astore_n B.1 B.2.1 hdg hi hL hn hl (fun ls1 hL1 => kk hd H locs ls1 hP hS hL1)
theorem g_astore (B : Bx p s m args c D cA ad n nL own cc ws) {i : Nat} {x : Nat} {lv1 : List (Nat × Value)} (hdg : decode cc pc = .ok (.astore i, 2)) (hn : i < nL) (hl : (i, Value.ref x) :: lv.filter (fun q => !(q.1 == i) && !(q.1 + 1 == i && q.2.category == 2)) = lv1) (kk : GG p l e R s m args below meth c D ad sh n nL Q R0 M (pc + 2) lv1 st d) : GG p l e R s m args below meth c D ad sh n nL Q R0 M pc lv (Value.ref x :: st) d := fun hd H locs ls hP hS hL => lv_astore B.1 B.2.1 hdg hL hn hl (fun ls1 hL1 => kk hd H locs ls1 hP hS hL1)
theorem g_iinc (B : Bx p s m args c D cA ad n nL own cc ws) {i : Nat} {nn : Int} {x v : Int32} {lv1 : List (Nat × Value)} (hdg : decode cc pc = .ok (.iinc i nn, 3)) (k : Nat) (hk : lv[k]? = some (i, .int x)) (hv : x + Int32.ofInt nn = v) (hn : i < nL) (hl : (i, Value.int v) :: lv.filter (fun q => !(q.1 == i) && !(q.1 + 1 == i && q.2.category == 2)) = lv1) (kk : GG p l e R s m args below meth c D ad sh n nL Q R0 M (pc + 3) lv1 st d) : GG p l e R s m args below meth c D ad sh n nL Q R0 M pc lv st d := fun hd H locs ls hP hS hL => lv_iinc B.1 B.2.1 hdg hL hk hv hn hl (fun ls1 hL1 => kk hd H locs ls1 hP hS hL1)
theorem g_iconst (B : Bx p s m args c D cA ad n nL own cc ws) {nn : Int} {v : Int32} (hdg : decode cc pc = .ok (.iconst nn, 1)) (hv : Int32.ofInt nn = v) (kk : GG p l e R s m args below meth c D ad sh n nL Q R0 M (pc + 1) lv (.int v :: st) d) : GG p l e R s m args below meth c D ad sh n nL Q R0 M pc lv st d := fun hd H locs ls hP hS hL => lv_iconst B.1 B.2.1 hdg hv (kk hd H locs ls hP hS hL)
theorem g_bipush (B : Bx p s m args c D cA ad n nL own cc ws) {nn : Int} {v : Int32} (hdg : decode cc pc = .ok (.bipush nn, 2)) (hv : (Int8.ofInt nn).toInt32 = v) (kk : GG p l e R s m args below meth c D ad sh n nL Q R0 M (pc + 2) lv (.int v :: st) d) : GG p l e R s m args below meth c D ad sh n nL Q R0 M pc lv st d := fun hd H locs ls hP hS hL => lv_bipush B.1 B.2.1 hdg hv (kk hd H locs ls hP hS hL)
theorem g_sipush (B : Bx p s m args c D cA ad n nL own cc ws) {nn : Int} {v : Int32} (hdg : decode cc pc = .ok (.sipush nn, 3)) (hv : (Int16.ofInt nn).toInt32 = v) (kk : GG p l e R s m args below meth c D ad sh n nL Q R0 M (pc + 3) lv (.int v :: st) d) : GG p l e R s m args below meth c D ad sh n nL Q R0 M pc lv st d := fun hd H locs ls hP hS hL => lv_sipush B.1 B.2.1 hdg hv (kk hd H locs ls hP hS hL)
theorem g_lconst (B : Bx p s m args c D cA ad n nL own cc ws) {nn : Fin 2} {v : Int64} (hdg : decode cc pc = .ok (.lconst nn, 1)) (hv : Int64.ofNat (nn : Nat) = v) (kk : GG p l e R s m args below meth c D ad sh n nL Q R0 M (pc + 1) lv (.long v :: st) d) : GG p l e R s m args below meth c D ad sh n nL Q R0 M pc lv st d := fun hd H locs ls hP hS hL => lv_lconst B.1 B.2.1 hdg hv (kk hd H locs ls hP hS hL)
theorem g_ldc (B : Bx p s m args c D cA ad n nL own cc ws) {index : Nat} {v : Int32} (hdg : decode cc pc = .ok (.ldc index, 2)) (hw : Cond.constant own index v ∈ ws) (kk : GG p l e R s m args below meth c D ad sh n nL Q R0 M (pc + 2) lv (.int v :: st) d) : GG p l e R s m args below meth c D ad sh n nL Q R0 M pc lv st d := fun hd H locs ls hP hS hL => lv_ldc B.1 B.2.1 B.2.2.2.1 (B.2.2.2.2.1 _ hw) hdg (kk hd H locs ls hP hS hL)
theorem g_ldcw (B : Bx p s m args c D cA ad n nL own cc ws) {index : Nat} {v : Int32} (hdg : decode cc pc = .ok (.ldc_w index, 3)) (hw : Cond.constant own index v ∈ ws) (kk : GG p l e R s m args below meth c D ad sh n nL Q R0 M (pc + 3) lv (.int v :: st) d) : GG p l e R s m args below meth c D ad sh n nL Q R0 M pc lv st d := fun hd H locs ls hP hS hL => lv_ldcw B.1 B.2.1 B.2.2.2.1 (B.2.2.2.2.1 _ hw) hdg (kk hd H locs ls hP hS hL)
theorem g_ldc2 (B : Bx p s m args c D cA ad n nL own cc ws) {index : Nat} {v : Int64} (hdg : decode cc pc = .ok (.ldc2_w index, 3)) (hw : Cond.constantLong own index v ∈ ws) (kk : GG p l e R s m args below meth c D ad sh n nL Q R0 M (pc + 3) lv (.long v :: st) d) : GG p l e R s m args below meth c D ad sh n nL Q R0 M pc lv st d := fun hd H locs ls hP hS hL => lv_ldc2 B.1 B.2.1 B.2.2.2.1 (B.2.2.2.2.1 _ hw) hdg (kk hd H locs ls hP hS hL)
theorem g_iadd (B : Bx p s m args c D cA ad n nL own cc ws) {x y : Int32} (hdg : decode cc pc = .ok (.iadd, 1))  (kk : GG p l e R s m args below meth c D ad sh n nL Q R0 M (pc + 1) lv (.int (x + y) :: st) d) : GG p l e R s m args below meth c D ad sh n nL Q R0 M pc lv (.int y :: .int x :: st) d := fun hd H locs ls hP hS hL => lv_iadd B.1 B.2.1 hdg (kk hd H locs ls hP hS hL)
theorem g_isub (B : Bx p s m args c D cA ad n nL own cc ws) {x y : Int32} (hdg : decode cc pc = .ok (.isub, 1))  (kk : GG p l e R s m args below meth c D ad sh n nL Q R0 M (pc + 1) lv (.int (x - y) :: st) d) : GG p l e R s m args below meth c D ad sh n nL Q R0 M pc lv (.int y :: .int x :: st) d := fun hd H locs ls hP hS hL => lv_isub B.1 B.2.1 hdg (kk hd H locs ls hP hS hL)
theorem g_imul (B : Bx p s m args c D cA ad n nL own cc ws) {x y : Int32} (hdg : decode cc pc = .ok (.imul, 1))  (kk : GG p l e R s m args below meth c D ad sh n nL Q R0 M (pc + 1) lv (.int (x * y) :: st) d) : GG p l e R s m args below meth c D ad sh n nL Q R0 M pc lv (.int y :: .int x :: st) d := fun hd H locs ls hP hS hL => lv_imul B.1 B.2.1 hdg (kk hd H locs ls hP hS hL)
theorem g_ishl (B : Bx p s m args c D cA ad n nL own cc ws) {x y : Int32} (hdg : decode cc pc = .ok (.ishl, 1))  (kk : GG p l e R s m args below meth c D ad sh n nL Q R0 M (pc + 1) lv (.int (x <<< (y &&& 31)) :: st) d) : GG p l e R s m args below meth c D ad sh n nL Q R0 M pc lv (.int y :: .int x :: st) d := fun hd H locs ls hP hS hL => lv_ishl B.1 B.2.1 hdg (kk hd H locs ls hP hS hL)
theorem g_ishr (B : Bx p s m args c D cA ad n nL own cc ws) {x y : Int32} (hdg : decode cc pc = .ok (.ishr, 1))  (kk : GG p l e R s m args below meth c D ad sh n nL Q R0 M (pc + 1) lv (.int (x >>> (y &&& 31)) :: st) d) : GG p l e R s m args below meth c D ad sh n nL Q R0 M pc lv (.int y :: .int x :: st) d := fun hd H locs ls hP hS hL => lv_ishr B.1 B.2.1 hdg (kk hd H locs ls hP hS hL)
theorem g_iand (B : Bx p s m args c D cA ad n nL own cc ws) {x y : Int32} (hdg : decode cc pc = .ok (.iand, 1))  (kk : GG p l e R s m args below meth c D ad sh n nL Q R0 M (pc + 1) lv (.int (x &&& y) :: st) d) : GG p l e R s m args below meth c D ad sh n nL Q R0 M pc lv (.int y :: .int x :: st) d := fun hd H locs ls hP hS hL => lv_iand B.1 B.2.1 hdg (kk hd H locs ls hP hS hL)
theorem g_ior (B : Bx p s m args c D cA ad n nL own cc ws) {x y : Int32} (hdg : decode cc pc = .ok (.ior, 1))  (kk : GG p l e R s m args below meth c D ad sh n nL Q R0 M (pc + 1) lv (.int (x ||| y) :: st) d) : GG p l e R s m args below meth c D ad sh n nL Q R0 M pc lv (.int y :: .int x :: st) d := fun hd H locs ls hP hS hL => lv_ior B.1 B.2.1 hdg (kk hd H locs ls hP hS hL)
theorem g_ixor (B : Bx p s m args c D cA ad n nL own cc ws) {x y : Int32} (hdg : decode cc pc = .ok (.ixor, 1))  (kk : GG p l e R s m args below meth c D ad sh n nL Q R0 M (pc + 1) lv (.int (x ^^^ y) :: st) d) : GG p l e R s m args below meth c D ad sh n nL Q R0 M pc lv (.int y :: .int x :: st) d := fun hd H locs ls hP hS hL => lv_ixor B.1 B.2.1 hdg (kk hd H locs ls hP hS hL)
theorem g_iushr (B : Bx p s m args c D cA ad n nL own cc ws) {x y : Int32} (hdg : decode cc pc = .ok (.iushr, 1))  (kk : GG p l e R s m args below meth c D ad sh n nL Q R0 M (pc + 1) lv (.int (x.toUInt32 >>> (y.toUInt32 &&& Int32.toUInt32 31)).toInt32 :: st) d) : GG p l e R s m args below meth c D ad sh n nL Q R0 M pc lv (.int y :: .int x :: st) d := fun hd H locs ls hP hS hL => lv_iushr B.1 B.2.1 hdg rfl (kk hd H locs ls hP hS hL)
theorem g_ladd (B : Bx p s m args c D cA ad n nL own cc ws) {x y : Int64} (hdg : decode cc pc = .ok (.ladd, 1))  (kk : GG p l e R s m args below meth c D ad sh n nL Q R0 M (pc + 1) lv (.long (x + y) :: st) d) : GG p l e R s m args below meth c D ad sh n nL Q R0 M pc lv (.long y :: .long x :: st) d := fun hd H locs ls hP hS hL => lv_ladd B.1 B.2.1 hdg (kk hd H locs ls hP hS hL)
theorem g_lsub (B : Bx p s m args c D cA ad n nL own cc ws) {x y : Int64} (hdg : decode cc pc = .ok (.lsub, 1))  (kk : GG p l e R s m args below meth c D ad sh n nL Q R0 M (pc + 1) lv (.long (x - y) :: st) d) : GG p l e R s m args below meth c D ad sh n nL Q R0 M pc lv (.long y :: .long x :: st) d := fun hd H locs ls hP hS hL => lv_lsub B.1 B.2.1 hdg (kk hd H locs ls hP hS hL)
theorem g_lmul (B : Bx p s m args c D cA ad n nL own cc ws) {x y : Int64} (hdg : decode cc pc = .ok (.lmul, 1))  (kk : GG p l e R s m args below meth c D ad sh n nL Q R0 M (pc + 1) lv (.long (x * y) :: st) d) : GG p l e R s m args below meth c D ad sh n nL Q R0 M pc lv (.long y :: .long x :: st) d := fun hd H locs ls hP hS hL => lv_lmul B.1 B.2.1 hdg (kk hd H locs ls hP hS hL)
theorem g_idiv (B : Bx p s m args c D cA ad n nL own cc ws) {x y : Int32} (hdg : decode cc pc = .ok (.idiv, 1)) (kk : GG p l e R s m args below meth c D ad sh n nL Q R0 M (pc + 1) lv (.int (x / y) :: st) d) : GG p l e R s m args below meth c D ad sh n nL Q R0 M pc lv (.int y :: .int x :: st) (if y = 0 then none else d) := g_if (fun _ => g_none) (fun hne => fun hd H locs ls hP hS hL => lv_idiv B.1 B.2.1 hdg hne (kk hd H locs ls hP hS hL))
theorem g_irem (B : Bx p s m args c D cA ad n nL own cc ws) {x y : Int32} (hdg : decode cc pc = .ok (.irem, 1)) (kk : GG p l e R s m args below meth c D ad sh n nL Q R0 M (pc + 1) lv (.int (x - x / y * y) :: st) d) : GG p l e R s m args below meth c D ad sh n nL Q R0 M pc lv (.int y :: .int x :: st) (if y = 0 then none else d) := g_if (fun _ => g_none) (fun hne => fun hd H locs ls hP hS hL => lv_irem B.1 B.2.1 hdg hne (kk hd H locs ls hP hS hL))
theorem g_ldiv (B : Bx p s m args c D cA ad n nL own cc ws) {x y : Int64} (hdg : decode cc pc = .ok (.ldiv, 1)) (kk : GG p l e R s m args below meth c D ad sh n nL Q R0 M (pc + 1) lv (.long (x / y) :: st) d) : GG p l e R s m args below meth c D ad sh n nL Q R0 M pc lv (.long y :: .long x :: st) (if y = 0 then none else d) := g_if (fun _ => g_none) (fun hne => fun hd H locs ls hP hS hL => lv_ldiv B.1 B.2.1 hdg hne (kk hd H locs ls hP hS hL))
theorem g_lrem (B : Bx p s m args c D cA ad n nL own cc ws) {x y : Int64} (hdg : decode cc pc = .ok (.lrem, 1)) (kk : GG p l e R s m args below meth c D ad sh n nL Q R0 M (pc + 1) lv (.long (x - x / y * y) :: st) d) : GG p l e R s m args below meth c D ad sh n nL Q R0 M pc lv (.long y :: .long x :: st) (if y = 0 then none else d) := g_if (fun _ => g_none) (fun hne => fun hd H locs ls hP hS hL => lv_lrem B.1 B.2.1 hdg hne (kk hd H locs ls hP hS hL))
theorem g_i2l (B : Bx p s m args c D cA ad n nL own cc ws) {x : Int32} (hdg : decode cc pc = .ok (.i2l, 1))  (kk : GG p l e R s m args below meth c D ad sh n nL Q R0 M (pc + 1) lv (.long x.toInt64 :: st) d) : GG p l e R s m args below meth c D ad sh n nL Q R0 M pc lv (.int x :: st) d := fun hd H locs ls hP hS hL => lv_i2l B.1 B.2.1 hdg rfl (kk hd H locs ls hP hS hL)
theorem g_i2b (B : Bx p s m args c D cA ad n nL own cc ws) {x : Int32} (hdg : decode cc pc = .ok (.i2b, 1))  (kk : GG p l e R s m args below meth c D ad sh n nL Q R0 M (pc + 1) lv (.int x.toInt8.toInt32 :: st) d) : GG p l e R s m args below meth c D ad sh n nL Q R0 M pc lv (.int x :: st) d := fun hd H locs ls hP hS hL => lv_i2b B.1 B.2.1 hdg rfl (kk hd H locs ls hP hS hL)
theorem g_i2s (B : Bx p s m args c D cA ad n nL own cc ws) {x : Int32} (hdg : decode cc pc = .ok (.i2s, 1))  (kk : GG p l e R s m args below meth c D ad sh n nL Q R0 M (pc + 1) lv (.int x.toInt16.toInt32 :: st) d) : GG p l e R s m args below meth c D ad sh n nL Q R0 M pc lv (.int x :: st) d := fun hd H locs ls hP hS hL => lv_i2s B.1 B.2.1 hdg rfl (kk hd H locs ls hP hS hL)
theorem g_l2i (B : Bx p s m args c D cA ad n nL own cc ws) {x : Int64} (hdg : decode cc pc = .ok (.l2i, 1))  (kk : GG p l e R s m args below meth c D ad sh n nL Q R0 M (pc + 1) lv (.int x.toInt32 :: st) d) : GG p l e R s m args below meth c D ad sh n nL Q R0 M pc lv (.long x :: st) d := fun hd H locs ls hP hS hL => lv_l2i B.1 B.2.1 hdg rfl (kk hd H locs ls hP hS hL)
theorem g_dup (B : Bx p s m args c D cA ad n nL own cc ws) {va : Value} (hdg : decode cc pc = .ok (.dup, 1)) (hva : va.category = 1) (kk : GG p l e R s m args below meth c D ad sh n nL Q R0 M (pc + 1) lv (va :: va :: st) d) : GG p l e R s m args below meth c D ad sh n nL Q R0 M pc lv (va :: st) d := fun hd H locs ls hP hS hL => lv_dup B.1 B.2.1 hdg hva (kk hd H locs ls hP hS hL)
theorem g_dup2 (B : Bx p s m args c D cA ad n nL own cc ws) {va vb : Value} (hdg : decode cc pc = .ok (.dup2, 1)) (hva : va.category = 1) (hvb : vb.category = 1) (kk : GG p l e R s m args below meth c D ad sh n nL Q R0 M (pc + 1) lv (va :: vb :: va :: vb :: st) d) : GG p l e R s m args below meth c D ad sh n nL Q R0 M pc lv (va :: vb :: st) d := fun hd H locs ls hP hS hL => lv_dup2_11 B.1 B.2.1 hdg hva hvb (kk hd H locs ls hP hS hL)
theorem g_pop (B : Bx p s m args c D cA ad n nL own cc ws) {va : Value} (hdg : decode cc pc = .ok (.pop, 1)) (hva : va.category = 1) (kk : GG p l e R s m args below meth c D ad sh n nL Q R0 M (pc + 1) lv st d) : GG p l e R s m args below meth c D ad sh n nL Q R0 M pc lv (va :: st) d := fun hd H locs ls hP hS hL => lv_pop B.1 B.2.1 hdg hva (kk hd H locs ls hP hS hL)
theorem g_goto (B : Bx p s m args c D cA ad n nL own cc ws) {off : Int} {tgt : Nat} (hdg : decode cc pc = .ok (.goto off, 3)) (ht : (pc : Int) + off = (tgt : Int)) (kk : GG p l e R s m args below meth c D ad sh n nL Q R0 M tgt lv st d) : GG p l e R s m args below meth c D ad sh n nL Q R0 M pc lv st d := fun hd H locs ls hP hS hL => lv_goto B.1 B.2.1 hdg ht (kk hd H locs ls hP hS hL)
theorem g_icmp_eq (B : Bx p s m args c D cA ad n nL own cc ws) {x y : Int32} [Decidable (x = y)] {off : Int} {tgt : Nat} (hdg : decode cc pc = .ok (.if_icmp .eq off, 3)) (ht : (pc : Int) + off = (tgt : Int)) (kt : x = y → GG p l e R s m args below meth c D ad sh n nL Q R0 M tgt lv st d1) (kf : ¬ x = y → GG p l e R s m args below meth c D ad sh n nL Q R0 M (pc + 3) lv st d2) : GG p l e R s m args below meth c D ad sh n nL Q R0 M pc lv (.int y :: .int x :: st) (if x = y then d1 else d2) := fun hd H locs ls hP hS hL => lv_icmp_eq B.1 B.2.1 hdg ht (fun h => kt h (by first | (rw [if_pos h] at hd; exact hd) | (rw [if_neg h] at hd; exact hd)) H locs ls hP hS hL) (fun h => kf h (by rw [if_neg h] at hd; exact hd) H locs ls hP hS hL)
theorem g_icmp_ne (B : Bx p s m args c D cA ad n nL own cc ws) {x y : Int32} [Decidable (x = y)] {off : Int} {tgt : Nat} (hdg : decode cc pc = .ok (.if_icmp .ne off, 3)) (ht : (pc : Int) + off = (tgt : Int)) (kt : x = y → GG p l e R s m args below meth c D ad sh n nL Q R0 M (pc + 3) lv st d1) (kf : ¬ x = y → GG p l e R s m args below meth c D ad sh n nL Q R0 M tgt lv st d2) : GG p l e R s m args below meth c D ad sh n nL Q R0 M pc lv (.int y :: .int x :: st) (if x = y then d1 else d2) := fun hd H locs ls hP hS hL => lv_icmp_ne B.1 B.2.1 hdg ht (fun h => kf h (by first | (rw [if_pos h] at hd; exact hd) | (rw [if_neg h] at hd; exact hd)) H locs ls hP hS hL) (fun h => kt h (by rw [if_pos h] at hd; exact hd) H locs ls hP hS hL)
theorem g_icmp_lt (B : Bx p s m args c D cA ad n nL own cc ws) {x y : Int32} [Decidable (x < y)] {off : Int} {tgt : Nat} (hdg : decode cc pc = .ok (.if_icmp .lt off, 3)) (ht : (pc : Int) + off = (tgt : Int)) (kt : x < y → GG p l e R s m args below meth c D ad sh n nL Q R0 M tgt lv st d1) (kf : ¬ x < y → GG p l e R s m args below meth c D ad sh n nL Q R0 M (pc + 3) lv st d2) : GG p l e R s m args below meth c D ad sh n nL Q R0 M pc lv (.int y :: .int x :: st) (if x < y then d1 else d2) := fun hd H locs ls hP hS hL => lv_icmp_lt B.1 B.2.1 hdg ht (fun h => kt h (by first | (rw [if_pos h] at hd; exact hd) | (rw [if_neg h] at hd; exact hd)) H locs ls hP hS hL) (fun h => kf h (by rw [if_neg h] at hd; exact hd) H locs ls hP hS hL)
theorem g_icmp_ge (B : Bx p s m args c D cA ad n nL own cc ws) {x y : Int32} [Decidable (y ≤ x)] {off : Int} {tgt : Nat} (hdg : decode cc pc = .ok (.if_icmp .ge off, 3)) (ht : (pc : Int) + off = (tgt : Int)) (kt : y ≤ x → GG p l e R s m args below meth c D ad sh n nL Q R0 M tgt lv st d1) (kf : ¬ y ≤ x → GG p l e R s m args below meth c D ad sh n nL Q R0 M (pc + 3) lv st d2) : GG p l e R s m args below meth c D ad sh n nL Q R0 M pc lv (.int y :: .int x :: st) (if y ≤ x then d1 else d2) := fun hd H locs ls hP hS hL => lv_icmp_ge B.1 B.2.1 hdg ht (fun h => kt h (by first | (rw [if_pos h] at hd; exact hd) | (rw [if_neg h] at hd; exact hd)) H locs ls hP hS hL) (fun h => kf h (by rw [if_neg h] at hd; exact hd) H locs ls hP hS hL)
theorem g_icmp_gt (B : Bx p s m args c D cA ad n nL own cc ws) {x y : Int32} [Decidable (y < x)] {off : Int} {tgt : Nat} (hdg : decode cc pc = .ok (.if_icmp .gt off, 3)) (ht : (pc : Int) + off = (tgt : Int)) (kt : y < x → GG p l e R s m args below meth c D ad sh n nL Q R0 M tgt lv st d1) (kf : ¬ y < x → GG p l e R s m args below meth c D ad sh n nL Q R0 M (pc + 3) lv st d2) : GG p l e R s m args below meth c D ad sh n nL Q R0 M pc lv (.int y :: .int x :: st) (if y < x then d1 else d2) := fun hd H locs ls hP hS hL => lv_icmp_gt B.1 B.2.1 hdg ht (fun h => kt h (by first | (rw [if_pos h] at hd; exact hd) | (rw [if_neg h] at hd; exact hd)) H locs ls hP hS hL) (fun h => kf h (by rw [if_neg h] at hd; exact hd) H locs ls hP hS hL)
theorem g_icmp_le (B : Bx p s m args c D cA ad n nL own cc ws) {x y : Int32} [Decidable (x ≤ y)] {off : Int} {tgt : Nat} (hdg : decode cc pc = .ok (.if_icmp .le off, 3)) (ht : (pc : Int) + off = (tgt : Int)) (kt : x ≤ y → GG p l e R s m args below meth c D ad sh n nL Q R0 M tgt lv st d1) (kf : ¬ x ≤ y → GG p l e R s m args below meth c D ad sh n nL Q R0 M (pc + 3) lv st d2) : GG p l e R s m args below meth c D ad sh n nL Q R0 M pc lv (.int y :: .int x :: st) (if x ≤ y then d1 else d2) := fun hd H locs ls hP hS hL => lv_icmp_le B.1 B.2.1 hdg ht (fun h => kt h (by first | (rw [if_pos h] at hd; exact hd) | (rw [if_neg h] at hd; exact hd)) H locs ls hP hS hL) (fun h => kf h (by rw [if_neg h] at hd; exact hd) H locs ls hP hS hL)
theorem g_if_eq (B : Bx p s m args c D cA ad n nL own cc ws) {x : Int32} [Decidable (x = 0)] {off : Int} {tgt : Nat} (hdg : decode cc pc = .ok (.ifCond .eq off, 3)) (ht : (pc : Int) + off = (tgt : Int)) (kt : x = 0 → GG p l e R s m args below meth c D ad sh n nL Q R0 M tgt lv st d1) (kf : ¬ x = 0 → GG p l e R s m args below meth c D ad sh n nL Q R0 M (pc + 3) lv st d2) : GG p l e R s m args below meth c D ad sh n nL Q R0 M pc lv (.int x :: st) (if x = 0 then d1 else d2) := fun hd H locs ls hP hS hL => lv_if_eq B.1 B.2.1 hdg ht (fun h => kt h (by first | (rw [if_pos h] at hd; exact hd) | (rw [if_neg h] at hd; exact hd)) H locs ls hP hS hL) (fun h => kf h (by rw [if_neg h] at hd; exact hd) H locs ls hP hS hL)
theorem g_if_ne (B : Bx p s m args c D cA ad n nL own cc ws) {x : Int32} [Decidable (x = 0)] {off : Int} {tgt : Nat} (hdg : decode cc pc = .ok (.ifCond .ne off, 3)) (ht : (pc : Int) + off = (tgt : Int)) (kt : x = 0 → GG p l e R s m args below meth c D ad sh n nL Q R0 M (pc + 3) lv st d1) (kf : ¬ x = 0 → GG p l e R s m args below meth c D ad sh n nL Q R0 M tgt lv st d2) : GG p l e R s m args below meth c D ad sh n nL Q R0 M pc lv (.int x :: st) (if x = 0 then d1 else d2) := fun hd H locs ls hP hS hL => lv_if_ne B.1 B.2.1 hdg ht (fun h => kf h (by first | (rw [if_pos h] at hd; exact hd) | (rw [if_neg h] at hd; exact hd)) H locs ls hP hS hL) (fun h => kt h (by rw [if_pos h] at hd; exact hd) H locs ls hP hS hL)
theorem g_if_lt (B : Bx p s m args c D cA ad n nL own cc ws) {x : Int32} [Decidable (x < 0)] {off : Int} {tgt : Nat} (hdg : decode cc pc = .ok (.ifCond .lt off, 3)) (ht : (pc : Int) + off = (tgt : Int)) (kt : x < 0 → GG p l e R s m args below meth c D ad sh n nL Q R0 M tgt lv st d1) (kf : ¬ x < 0 → GG p l e R s m args below meth c D ad sh n nL Q R0 M (pc + 3) lv st d2) : GG p l e R s m args below meth c D ad sh n nL Q R0 M pc lv (.int x :: st) (if x < 0 then d1 else d2) := fun hd H locs ls hP hS hL => lv_if_lt B.1 B.2.1 hdg ht (fun h => kt h (by first | (rw [if_pos h] at hd; exact hd) | (rw [if_neg h] at hd; exact hd)) H locs ls hP hS hL) (fun h => kf h (by rw [if_neg h] at hd; exact hd) H locs ls hP hS hL)
theorem g_if_ge (B : Bx p s m args c D cA ad n nL own cc ws) {x : Int32} [Decidable (0 ≤ x)] {off : Int} {tgt : Nat} (hdg : decode cc pc = .ok (.ifCond .ge off, 3)) (ht : (pc : Int) + off = (tgt : Int)) (kt : 0 ≤ x → GG p l e R s m args below meth c D ad sh n nL Q R0 M tgt lv st d1) (kf : ¬ 0 ≤ x → GG p l e R s m args below meth c D ad sh n nL Q R0 M (pc + 3) lv st d2) : GG p l e R s m args below meth c D ad sh n nL Q R0 M pc lv (.int x :: st) (if 0 ≤ x then d1 else d2) := fun hd H locs ls hP hS hL => lv_if_ge B.1 B.2.1 hdg ht (fun h => kt h (by first | (rw [if_pos h] at hd; exact hd) | (rw [if_neg h] at hd; exact hd)) H locs ls hP hS hL) (fun h => kf h (by rw [if_neg h] at hd; exact hd) H locs ls hP hS hL)
theorem g_if_gt (B : Bx p s m args c D cA ad n nL own cc ws) {x : Int32} [Decidable (0 < x)] {off : Int} {tgt : Nat} (hdg : decode cc pc = .ok (.ifCond .gt off, 3)) (ht : (pc : Int) + off = (tgt : Int)) (kt : 0 < x → GG p l e R s m args below meth c D ad sh n nL Q R0 M tgt lv st d1) (kf : ¬ 0 < x → GG p l e R s m args below meth c D ad sh n nL Q R0 M (pc + 3) lv st d2) : GG p l e R s m args below meth c D ad sh n nL Q R0 M pc lv (.int x :: st) (if 0 < x then d1 else d2) := fun hd H locs ls hP hS hL => lv_if_gt B.1 B.2.1 hdg ht (fun h => kt h (by first | (rw [if_pos h] at hd; exact hd) | (rw [if_neg h] at hd; exact hd)) H locs ls hP hS hL) (fun h => kf h (by rw [if_neg h] at hd; exact hd) H locs ls hP hS hL)
theorem g_if_le (B : Bx p s m args c D cA ad n nL own cc ws) {x : Int32} [Decidable (x ≤ 0)] {off : Int} {tgt : Nat} (hdg : decode cc pc = .ok (.ifCond .le off, 3)) (ht : (pc : Int) + off = (tgt : Int)) (kt : x ≤ 0 → GG p l e R s m args below meth c D ad sh n nL Q R0 M tgt lv st d1) (kf : ¬ x ≤ 0 → GG p l e R s m args below meth c D ad sh n nL Q R0 M (pc + 3) lv st d2) : GG p l e R s m args below meth c D ad sh n nL Q R0 M pc lv (.int x :: st) (if x ≤ 0 then d1 else d2) := fun hd H locs ls hP hS hL => lv_if_le B.1 B.2.1 hdg ht (fun h => kt h (by first | (rw [if_pos h] at hd; exact hd) | (rw [if_neg h] at hd; exact hd)) H locs ls hP hS hL) (fun h => kf h (by rw [if_neg h] at hd; exact hd) H locs ls hP hS hL)
theorem g_lcmp (B : Bx p s m args c D cA ad n nL own cc ws) {x y : Int64} (hdg : decode cc pc = .ok (.lcmp, 1))  (kk : GG p l e R s m args below meth c D ad sh n nL Q R0 M (pc + 1) lv (.int (lg_cmp x y) :: st) d) : GG p l e R s m args below meth c D ad sh n nL Q R0 M pc lv (.long y :: .long x :: st) d := fun hd H locs ls hP hS hL => W.lcmp B.1 B.2.1 hdg (kk hd H locs ls hP hS hL)
theorem g_tin (B : Bx p s m args c D cA ad n nL own cc ws) {dflt lo hi : Int} {offs : Array Int} {len : Nat} {x : Int32} (v : Int32) {off : Int} {tgt : Nat} (hdg : decode cc pc = .ok (.tableswitch dflt lo hi offs, len)) (he : x = v) (h1 : ¬ v.toInt < lo) (h2 : ¬ hi < v.toInt) (ho : offs[(v.toInt - lo).toNat]? = some off) (ht : (pc : Int) + off = (tgt : Int)) (kk : GG p l e R s m args below meth c D ad sh n nL Q R0 M tgt lv st d) : GG p l e R s m args below meth c D ad sh n nL Q R0 M pc lv (.int x :: st) d := fun hd H locs ls hP hS hL => lv_tableIn B.1 B.2.1 hdg (by rw [he]; exact h1) (by rw [he]; exact h2) (by rw [he]; exact ho) ht (kk hd H locs ls hP hS hL)
theorem g_tout (B : Bx p s m args c D cA ad n nL own cc ws) {dflt lo hi : Int} {offs : Array Int} {len : Nat} {x : Int32} {tgt : Nat} (hdg : decode cc pc = .ok (.tableswitch dflt lo hi offs, len)) (h : x.toInt < lo ∨ hi < x.toInt) (ht : (pc : Int) + dflt = (tgt : Int)) (kk : GG p l e R s m args below meth c D ad sh n nL Q R0 M tgt lv st d) : GG p l e R s m args below meth c D ad sh n nL Q R0 M pc lv (.int x :: st) d := fun hd H locs ls hP hS hL => lv_tableOut B.1 B.2.1 hdg h ht (kk hd H locs ls hP hS hL)
theorem g_look (B : Bx p s m args c D cA ad n nL own cc ws) {dflt : Int} {ps : Array (Int × Int)} {len : Nat} {x : Int32} {off : Int} {tgt : Nat} (hdg : decode cc pc = .ok (.lookupswitch dflt ps, len)) (hp : (ps.toList.zip (ps.toList.drop 1)).all (fun (a, next) => a.1 < next.1) = true) (ho : Op.lookupswitch.offset ps.toList dflt x.toInt = off) (ht : (pc : Int) + off = (tgt : Int)) (kk : GG p l e R s m args below meth c D ad sh n nL Q R0 M tgt lv st d) : GG p l e R s m args below meth c D ad sh n nL Q R0 M pc lv (.int x :: st) d := fun hd H locs ls hP hS hL => lv_lookup B.1 B.2.1 hdg hp ho ht (kk hd H locs ls hP hS hL)
theorem g_lstore (B : Bx p s m args c D cA ad n nL own cc ws) {i : Nat} {x : Int64} {lv1 : List (Nat × Value)} (hdg : decode cc pc = .ok (.lstore i, 2)) (hn : i + 1 < nL) (hl : (i, Value.long x) :: lv.filter (fun q => !(q.1 == i) && (!(q.1 == i + 1) && !(q.1 + 1 == i && q.2.category == 2))) = lv1) (kk : GG p l e R s m args below meth c D ad sh n nL Q R0 M (pc + 2) lv1 st d) : GG p l e R s m args below meth c D ad sh n nL Q R0 M pc lv (.long x :: st) d := fun hd H locs ls hP hS hL => lv_lstore B.1 B.2.1 hdg hL hn hl (fun ls1 hL1 => kk hd H locs ls1 hP hS hL1)
theorem g_lstore_n (B : Bx p s m args c D cA ad n nL own cc ws) {k : Fin 4} {i : Nat} {x : Int64} {lv1 : List (Nat × Value)} (hdg : decode cc pc = .ok (.lstore_n k, 1)) (hi : (k : Nat) = i) (hn : i + 1 < nL) (hl : (i, Value.long x) :: lv.filter (fun q => !(q.1 == i) && (!(q.1 == i + 1) && !(q.1 + 1 == i && q.2.category == 2))) = lv1) (kk : GG p l e R s m args below meth c D ad sh n nL Q R0 M (pc + 1) lv1 st d) : GG p l e R s m args below meth c D ad sh n nL Q R0 M pc lv (.long x :: st) d := fun hd H locs ls hP hS hL => lv_lstore_n B.1 B.2.1 hdg hi hL hn hl (fun ls1 hL1 => kk hd H locs ls1 hP hS hL1)
theorem g_get (B : Bx p s m args c D cA ad n nL own cc ws) {ref C : String} {T : u_T} {N ci index o : Nat} {fl : (Nat → Int32) → List Value} (hsh : ∀ f, sh o f = .inr (ci, fl f)) (ho : o < n) (hin : ∀ w ∈ u_ws C T N, w ∈ ws) (hc : vwCl[ci]? = some (C, T, N)) (k : Nat) (hk : k < N) (hlink : Cond.fieldLink own index ref (T k).2.1 (T k).2.2.1 ∈ ws) (href : (T k).1 = ref) {v : Value} (hv : (fl (M o))[k]? = some v) (hdg : decode cc pc = .ok (.getfield index, 3)) (kk : GG p l e R s m args below meth c D ad sh n nL Q R0 M (pc + 3) lv (v :: st) d) : GG p l e R s m args below meth c D ad sh n nL Q R0 M pc lv (.ref (ad o) :: st) d := fun hd H locs ls hP hS hL => va_get B.1 B.2.1 B.2.2.2.2.1 hin B.2.2.2.1 B.2.2.2.2.2.1 hP o (by rw [wd_at ho, hsh]) hc k hk (B.2.2.2.2.1 _ hlink) (fun _ h => by rw [← href]; exact h) hv hdg (kk hd H locs ls hP hS hL)
theorem g_put (B : Bx p s m args c D cA ad n nL own cc ws) {ref C : String} {T : u_T} {N ci index o : Nat} {fl : (Nat → Int32) → List Value} (hsh : ∀ f, sh o f = .inr (ci, fl f)) (ho : o < n) (hin : ∀ w ∈ u_ws C T N, w ∈ ws) {ty0 : Nat → FieldType} (hty : ∀ k, k < N → parseFieldDescriptor (T k).2.2.1 = some (ty0 k)) (hnm : ∀ a, a < N → ∀ b, b < N → a ≠ b → (T a).2.1 ≠ (T b).2.1) (hc : vwCl[ci]? = some (C, T, N)) (k : Nat) (hk : k < N) (hlink : Cond.fieldLink own index ref (T k).2.1 (T k).2.2.1 ∈ ws) (href : (T k).1 = ref) (hfin : (T k).2.2.2 = false) {ty : FieldType} {x : Int32} (hd0 : parseFieldDescriptor (T k).2.2.1 = some ty) (hn : narrow ty (.int x) = .int x) (hfit : fits ty (.int x) = true) (hlen : ∀ f, k < (fl f).length) (hs : ∀ f x, (fl f).set k (.int x) = fl (upd f k x)) (hdg : decode cc pc = .ok (.putfield index, 3)) (kk : GG p l e R s m args below meth c D ad sh n nL Q R0 (mu M o k x) (pc + 3) lv st d) : GG p l e R s m args below meth c D ad sh n nL Q R0 M pc lv (.int x :: .ref (ad o) :: st) d := fun hd H locs ls hP hS hL => va_put B.1 B.2.1 B.2.2.2.2.1 hin ty0 hty hnm B.2.2.2.1 B.2.2.2.2.2.1 hP (wd_D B.2.2.2.2.2.2.1 M) hS o (fs := fl (M o)) (by rw [wd_at ho, hsh]) hc k hk (B.2.2.2.2.1 _ hlink) (fun _ h => by rw [← href]; exact h) hfin hd0 hn hfit (hlen _) hdg (fun H1 locs1 hP1 _ hS1 => kk hd H1 locs1 ls (by rw [hs, ← hsh, wd_set ho] at hP1; exact hP1) hS1 hL)
theorem g_getN (B : Bx p s m args c D cA ad n nL own cc ws) {host : String} {ref C : String} {T : u_T} {N ci index o : Nat} {fl : (Nat → Int32) → List Value} (hsh : ∀ f, sh o f = .inr (ci, fl f)) (ho : o < n) (hin : ∀ w ∈ u_ws C T N, w ∈ ws) (hc : vwCl[ci]? = some (C, T, N)) (k : Nat) (hk : k < N) (q : Nat) (hlink : nestF[q]? = some (own, index, ref, (T k).2.1, (T k).2.2.1, host)) (href : (T k).1 = ref) {v : Value} (hv : (fl (M o))[k]? = some v) (hdg : decode cc pc = .ok (.getfield index, 3)) (kk : GG p l e R s m args below meth c D ad sh n nL Q R0 M (pc + 3) lv (v :: st) d) : GG p l e R s m args below meth c D ad sh n nL Q R0 M pc lv (.ref (ad o) :: st) d := fun hd H locs ls hP hS hL => va_getN B.1 B.2.1 B.2.2.2.2.1 hin B.2.2.2.1 B.2.2.2.2.2.1 hP o (by rw [wd_at ho, hsh]) hc k hk (B.2.2.2.2.2.2.2.f q hlink) (fun _ h => by rw [← href]; exact h) hv hdg (kk hd H locs ls hP hS hL)
theorem g_putN (B : Bx p s m args c D cA ad n nL own cc ws) {host : String} {ref C : String} {T : u_T} {N ci index o : Nat} {fl : (Nat → Int32) → List Value} (hsh : ∀ f, sh o f = .inr (ci, fl f)) (ho : o < n) (hin : ∀ w ∈ u_ws C T N, w ∈ ws) {ty0 : Nat → FieldType} (hty : ∀ k, k < N → parseFieldDescriptor (T k).2.2.1 = some (ty0 k)) (hnm : ∀ a, a < N → ∀ b, b < N → a ≠ b → (T a).2.1 ≠ (T b).2.1) (hc : vwCl[ci]? = some (C, T, N)) (k : Nat) (hk : k < N) (q : Nat) (hlink : nestF[q]? = some (own, index, ref, (T k).2.1, (T k).2.2.1, host)) (href : (T k).1 = ref) (hfin : (T k).2.2.2 = false) {ty : FieldType} {x : Int32} (hd0 : parseFieldDescriptor (T k).2.2.1 = some ty) (hn : narrow ty (.int x) = .int x) (hfit : fits ty (.int x) = true) (hlen : ∀ f, k < (fl f).length) (hs : ∀ f x, (fl f).set k (.int x) = fl (upd f k x)) (hdg : decode cc pc = .ok (.putfield index, 3)) (kk : GG p l e R s m args below meth c D ad sh n nL Q R0 (mu M o k x) (pc + 3) lv st d) : GG p l e R s m args below meth c D ad sh n nL Q R0 M pc lv (.int x :: .ref (ad o) :: st) d := fun hd H locs ls hP hS hL => va_putN B.1 B.2.1 B.2.2.2.2.1 hin ty0 hty hnm B.2.2.2.1 B.2.2.2.2.2.1 hP (wd_D B.2.2.2.2.2.2.1 M) hS o (fs := fl (M o)) (by rw [wd_at ho, hsh]) hc k hk (B.2.2.2.2.2.2.2.f q hlink) (fun _ h => by rw [← href]; exact h) hfin hd0 hn hfit (hlen _) hdg (fun H1 locs1 hP1 _ hS1 => kk hd H1 locs1 ls (by rw [hs, ← hsh, wd_set ho] at hP1; exact hP1) hS1 hL)
theorem g_iald (B : Bx p s m args c D cA ad n nL own cc ws) {o len : Nat} (hsh : ∀ f, sh o f = .inl (cA 0, (len, .inl f))) (ho : o < n) {i : Int32} (hdg : decode cc pc = .ok (.iaload, 1)) (kk : GG p l e R s m args below meth c D ad sh n nL Q R0 M (pc + 1) lv (.int (M o i.toNatClampNeg) :: st) d) : GG p l e R s m args below meth c D ad sh n nL Q R0 M pc lv (.int i :: .ref (ad o) :: st) (if inB i len = true then d else none) := g_gd (fun hi => fun hd H locs ls hP hS hL => va_iald B.1 B.2.1 B.2.2.2.2.2.1 hP o 0 (by rw [wd_at ho, hsh]) rfl (inB_vp hi) hdg (kk hd H locs ls hP hS hL))
theorem g_iast (B : Bx p s m args c D cA ad n nL own cc ws) {o len : Nat} (hsh : ∀ f, sh o f = .inl (cA 0, (len, .inl f))) (ho : o < n) {i x : Int32} (hdg : decode cc pc = .ok (.iastore, 1)) (kk : GG p l e R s m args below meth c D ad sh n nL Q R0 (mu M o i.toNatClampNeg x) (pc + 1) lv st d) : GG p l e R s m args below meth c D ad sh n nL Q R0 M pc lv (.int x :: .int i :: .ref (ad o) :: st) (if inB i len = true then d else none) := g_gd (fun hi => fun hd H locs ls hP hS hL => va_iast B.1 B.2.1 B.2.2.2.2.2.1 hP (wd_D B.2.2.2.2.2.2.1 M) hS o 0 (f := M o) (by rw [wd_at ho, hsh]) rfl (inB_vp hi) hdg (fun H1 locs1 hP1 _ hS1 => kk hd H1 locs1 ls (by rw [← hsh, wd_set ho] at hP1; exact hP1) hS1 hL))
theorem g_aald (B : Bx p s m args c D cA ad n nL own cc ws) {o len : Nat} {g : Nat → Nat} (t : Nat) {C : String} (ht : (tyL cA)[t]? = some (cA t, .object C)) (hsh : ∀ f, sh o f = .inl (cA t, (len, .inr (.inr (.inr (.inr (rowR ad len g))))))) (ho : o < n) {i : Int32} (hdg : decode cc pc = .ok (.aaload, 1)) (kk : inB i len = true → GG p l e R s m args below meth c D ad sh n nL Q R0 M (pc + 1) lv (.ref (ad (g i.toNatClampNeg)) :: st) d) : GG p l e R s m args below meth c D ad sh n nL Q R0 M pc lv (.int i :: .ref (ad o) :: st) (if inB i len = true then d else none) := g_gd (fun hi => fun hd H locs ls hP hS hL => va_aldq B.1 B.2.1 B.2.2.2.2.2.1 hP o t (f := rowR ad len g) (by rw [wd_at ho, hsh]) ht (inB_vp hi) hdg (by rw [show rowR ad len g i.toNatClampNeg = some (ad (g i.toNatClampNeg)) from if_pos (inB_lt hi)]; exact kk hi hd H locs ls hP hS hL))
theorem g_alen (B : Bx p s m args c D cA ad n nL own cc ws) {o len : Nat} {v : Int32} (hsh : ∀ f, sh o f = .inl (cA 0, (len, .inl f))) (ho : o < n) (hv : Int32.ofNat len = v) (hdg : decode cc pc = .ok (.arraylength, 1)) (kk : GG p l e R s m args below meth c D ad sh n nL Q R0 M (pc + 1) lv (.int v :: st) d) : GG p l e R s m args below meth c D ad sh n nL Q R0 M pc lv (.ref (ad o) :: st) d := fun hd H locs ls hP hS hL => va_alen B.1 B.2.1 B.2.2.2.2.2.1 hP o 0 (x := (len, .inl (M o))) (by rw [wd_at ho, hsh]) rfl hv hdg (kk hd H locs ls hP hS hL)
theorem g_max (B : Bx p s m args c D cA ad n nL own cc ws) {index : Nat} {x y : Int32} (hdg : decode cc pc = .ok (.invokestatic index, 3)) (h1 : Cond.methodLink own index Lib.Math.max.name ∈ ws) (h2 : Cond.static Lib.Math.max.name ∈ ws) (h3 : Cond.initialized "java/lang/Math" ∈ ws) (h4 : Cond.code Lib.Math.max.name Lib.Math.max.code 2 (some .int) ∈ ws) (hf : 1 ≤ R.frames) (hlo : (st.map fun v => v.category).sum + 13 ≤ R.locals) (kk : GG p l e R s m args below meth c D ad sh n nL Q R0 M (pc + 3) lv (.int (if x < y then y else x) :: st) d) : GG p l e R s m args below meth c D ad sh n nL Q R0 M pc lv (.int y :: .int x :: st) d := fun hd H locs ls hP hS hL => va_mmax B.1 B.2.1 (B.2.2.1.trans hL.1.symm) B.2.2.2.1 (B.2.2.2.2.1 _ h1) (B.2.2.2.2.1 _ h2) (B.2.2.2.2.1 _ h3) (B.2.2.2.2.1 _ h4) hf hlo (Nat.zero_le _) (Nat.zero_le _) hdg (kk hd H locs ls hP hS hL)
theorem g_min (B : Bx p s m args c D cA ad n nL own cc ws) {index : Nat} {x y : Int32} (hdg : decode cc pc = .ok (.invokestatic index, 3)) (h1 : Cond.methodLink own index Lib.Math.min.name ∈ ws) (h2 : Cond.static Lib.Math.min.name ∈ ws) (h3 : Cond.initialized "java/lang/Math" ∈ ws) (h4 : Cond.code Lib.Math.min.name Lib.Math.min.code 2 (some .int) ∈ ws) (hf : 1 ≤ R.frames) (hlo : (st.map fun v => v.category).sum + 13 ≤ R.locals) (kk : GG p l e R s m args below meth c D ad sh n nL Q R0 M (pc + 3) lv (.int (if y < x then y else x) :: st) d) : GG p l e R s m args below meth c D ad sh n nL Q R0 M pc lv (.int y :: .int x :: st) d := fun hd H locs ls hP hS hL => va_mmin B.1 B.2.1 (B.2.2.1.trans hL.1.symm) B.2.2.2.1 (B.2.2.2.2.1 _ h1) (B.2.2.2.2.1 _ h2) (B.2.2.2.2.1 _ h3) (B.2.2.2.2.1 _ h4) hf hlo (Nat.zero_le _) (Nat.zero_le _) hdg (kk hd H locs ls hP hS hL)
end GK
def mcp (M : Mem) (o0 o1 sp dp nn : Nat) : Mem := fun q => if q = o1 then va_cpy (M o0) (M o1) sp dp nn else M q
def cpB (sp dp nn : Int32) (n0 n1 : Nat) : Bool := decide (¬ sp < 0 ∧ ¬ dp < 0 ∧ ¬ nn < 0 ∧ sp.toNatClampNeg + nn.toNatClampNeg ≤ n0 ∧ dp.toNatClampNeg + nn.toNatClampNeg ≤ n1)
section GK2
variable {ρ : Type} {p : Program} {l : Launch} {e : Env} {R : Room} {s : State} {m : MethodId} {args : Array Value} {below : List Frame} {meth : Method} {c : Code} {D : va_G} {cA : Nat → ClassId} {ad : Nat → Nat} {sh : Nat → (Nat → Int32) → va_E} {n nL : Nat} {own : String} {cc : ByteArray} {ws : List Cond} {Q : State → Prop} {R0 : ρ} {M : Mem} {pc : Nat} {lv : List (Nat × Value)} {st : List Value} {d d1 d2 : Option ρ}
theorem g_copy (B : Bx p s m args c D cA ad n nL own cc ws) {o0 o1 n0 n1 : Nat} {index : Nat} {sp dp nn : Int32} (hsh0 : ∀ f, sh o0 f = .inl (cA 0, (n0, .inl f))) (ho0 : o0 < n) (hsh1 : ∀ f, sh o1 f = .inl (cA 0, (n1, .inl f))) (ho1 : o1 < n) (hdg : decode cc pc = .ok (.invokestatic index, 3)) (h1 : Cond.methodLink own index arraycopyName ∈ ws) (h2 : Cond.native arraycopyName ∈ ws) (h3 : Cond.static arraycopyName ∈ ws) (h4 : Cond.initialized "java/lang/System" ∈ ws) (hf : 1 ≤ R.frames) (hlo : (st.map fun v => v.category).sum + (nativeFrameWords "java/lang/System" "arraycopy" 5 + 11) ≤ R.locals) (kk : GG p l e R s m args below meth c D ad sh n nL Q R0 (mcp M o0 o1 sp.toNatClampNeg dp.toNatClampNeg nn.toNatClampNeg) (pc + 3) lv st d) : GG p l e R s m args below meth c D ad sh n nL Q R0 M pc lv (.int nn :: .int dp :: .ref (ad o1) :: .int sp :: .ref (ad o0) :: st) (if cpB sp dp nn n0 n1 = true then d else none) := g_gd (fun hi => by
  obtain ⟨a1, a2, a3, a4, a5⟩ := of_decide_eq_true hi
  exact fun hd H locs ls hP hS hL => va_copyi B.1 B.2.1 (B.2.2.1.trans hL.1.symm) B.2.2.2.1 (B.2.2.2.2.1 _ h1) (B.2.2.2.2.1 _ h2) (B.2.2.2.2.1 _ h3) (B.2.2.2.2.1 _ h4) B.2.2.2.2.2.1 hP (wd_D B.2.2.2.2.2.2.1 M) hS o0 o1 0 0 (f := M o0) (g := M o1) (by rw [wd_at ho0, hsh0]) (by rw [wd_at ho1, hsh1]) rfl rfl rfl a1 a2 a3 a4 a5 (fun _ _ => rfl) hf hlo hdg (fun H1 locs1 hP1 _ hS1 => kk hd H1 locs1 ls (by rw [← hsh1, wd_set ho1] at hP1; exact hP1) hS1 hL))
theorem g_callVIp (B : Bx p s m args c D cA ad n nL own cc ws) {y : MethodName} {bytes : ByteArray} {maxL index na : Nat} {ret : Option FieldType} {wsC : List Cond} {rm : Room} {As : List Value} {st0 : List Value} {o ci : Nat} {fl : (Nat → Int32) → List Value} {q : vw_C} {dc : Option Int32} {k : Int32 → Option ρ} (hC : CI l y wsC rm D cA ad sh n (.ref (ad o) :: As) M (wM M dc)) (cw : CallW R s args own q.1 index y bytes maxL ret wsC rm 0 0 na) (hsh : ∀ f, sh o f = .inr (ci, fl f)) (ho : o < n) (hcl : vwCl[ci]? = some q) (hn : As.length = na) (hst : st0 = (As.reverse ++ .ref (ad o) :: st)) (hW : (st.map fun v => v.category).sum ≤ 8) (hdg : decode cc pc = .ok (.invokevirtual index, 3)) (kk : ∀ r, dc = some r → GG p l e R s m args below meth c D ad sh n nL Q R0 M (pc + 3) lv (.int r :: st) (k r)) : GG p l e R s m args below meth c D ad sh n nL Q R0 M pc lv st0 (dc.bind k) := by
  subst hst
  intro hd H locs ls hP hS hL
  cases hdc : dc with
  | none => rw [hdc] at hd; cases hd
  | some r1 =>
    rw [hdc] at hd
    have hM := hC H.size (r1, M) (by rw [hdc]; rfl)
    refine va_calli (va_runV (As := As) (rest := st) ⟨B.1, B.2.1, B.2.2.1, B.2.2.2.1, B.2.2.2.2.1⟩ hM cw ⟨preG_blind, va_recv B.2.2.2.2.2.1 hP hcl (q0 := o) (a := ad o) (by rw [wd_at ho, hsh]), fun U hU hW => ⟨rfl, by rw [hU], by rw [hU]; exact hP, va_K.moved hW.alike B.2.2.2.2.2.1, B.2.2.2.2.2.2.2.warm hW⟩⟩ rfl hn hL.1 rfl (lv_room hW) hdg ⟨Nat.zero_le _, Nat.zero_le _⟩) hS (fun q hq h => ?_) (fun q h => ?_) (fun r u t H1 locs1 ht _ hw hB _ _ hS1 => by
      have e1 : r = r1 := congrArg Prod.fst hw
      have e2 : u = M := congrArg Prod.snd hw
      subst e1; subst e2
      exact kk r hdc hd H1 locs1 ls (by rw [← ht]; exact hB) hS1 hL)
    · rcases h with h | h
      · exact Or.inl h
      · omega
    · rcases h with h | h
      · exact Or.inl h
      · exact Or.inr (Nat.le_trans hS.1 h)
theorem g_callVIe (B : Bx p s m args c D cA ad n nL own cc ws) {y : MethodName} {bytes : ByteArray} {maxL index na : Nat} {ret : Option FieldType} {wsC : List Cond} {rm : Room} {As : List Value} {st0 : List Value} {o ci : Nat} {fl : (Nat → Int32) → List Value} {q : vw_C} {dc : Option (Int32 × Mem)} {k : Int32 × Mem → Option ρ} (hC : CI l y wsC rm D cA ad sh n (.ref (ad o) :: As) M dc) (cw : CallW R s args own q.1 index y bytes maxL ret wsC rm 0 0 na) (hsh : ∀ f, sh o f = .inr (ci, fl f)) (ho : o < n) (hcl : vwCl[ci]? = some q) (hn : As.length = na) (hst : st0 = (As.reverse ++ .ref (ad o) :: st)) (hW : (st.map fun v => v.category).sum ≤ 8) (hdg : decode cc pc = .ok (.invokevirtual index, 3)) (kk : ∀ r M1, dc = some (r, M1) → GG p l e R s m args below meth c D ad sh n nL Q R0 M1 (pc + 3) lv (.int r :: st) (k (r, M1))) : GG p l e R s m args below meth c D ad sh n nL Q R0 M pc lv st0 (dc.bind k) := by
  subst hst
  intro hd H locs ls hP hS hL
  cases hdc : dc with
  | none => rw [hdc] at hd; cases hd
  | some R1 =>
    rw [hdc] at hd
    have hM := hC H.size R1 hdc
    refine va_calli (va_runV (As := As) (rest := st) ⟨B.1, B.2.1, B.2.2.1, B.2.2.2.1, B.2.2.2.2.1⟩ hM cw ⟨preG_blind, va_recv B.2.2.2.2.2.1 hP hcl (q0 := o) (a := ad o) (by rw [wd_at ho, hsh]), fun U hU hW => ⟨rfl, by rw [hU], by rw [hU]; exact hP, va_K.moved hW.alike B.2.2.2.2.2.1, B.2.2.2.2.2.2.2.warm hW⟩⟩ rfl hn hL.1 rfl (lv_room hW) hdg ⟨Nat.zero_le _, Nat.zero_le _⟩) hS (fun q hq h => ?_) (fun q h => ?_) (fun r u t H1 locs1 ht _ hw hB _ _ hS1 => by
      have e : dc = some (r, u) := by rw [hw]; exact hdc
      exact kk r u e (by rw [← hw] at hd; exact hd) H1 locs1 ls (by rw [← ht]; exact hB) hS1 hL)
    · rcases h with h | h
      · exact Or.inl h
      · omega
    · rcases h with h | h
      · exact Or.inl h
      · exact Or.inr (Nat.le_trans hS.1 h)
theorem g_callVLp (B : Bx p s m args c D cA ad n nL own cc ws) {y : MethodName} {bytes : ByteArray} {maxL index na : Nat} {ret : Option FieldType} {wsC : List Cond} {rm : Room} {As : List Value} {st0 : List Value} {o ci : Nat} {fl : (Nat → Int32) → List Value} {q : vw_C} {dc : Option Int64} {k : Int64 → Option ρ} (hC : CL l y wsC rm D cA ad sh n (.ref (ad o) :: As) M (wM M dc)) (cw : CallW R s args own q.1 index y bytes maxL ret wsC rm 0 0 na) (hsh : ∀ f, sh o f = .inr (ci, fl f)) (ho : o < n) (hcl : vwCl[ci]? = some q) (hn : As.length = na) (hst : st0 = (As.reverse ++ .ref (ad o) :: st)) (hW : (st.map fun v => v.category).sum ≤ 8) (hdg : decode cc pc = .ok (.invokevirtual index, 3)) (kk : ∀ r, dc = some r → GG p l e R s m args below meth c D ad sh n nL Q R0 M (pc + 3) lv (.long r :: st) (k r)) : GG p l e R s m args below meth c D ad sh n nL Q R0 M pc lv st0 (dc.bind k) := by
  subst hst
  intro hd H locs ls hP hS hL
  cases hdc : dc with
  | none => rw [hdc] at hd; cases hd
  | some r1 =>
    rw [hdc] at hd
    have hM := hC H.size (r1, M) (by rw [hdc]; rfl)
    refine va_calll (va_runV (As := As) (rest := st) ⟨B.1, B.2.1, B.2.2.1, B.2.2.2.1, B.2.2.2.2.1⟩ hM cw ⟨preG_blind, va_recv B.2.2.2.2.2.1 hP hcl (q0 := o) (a := ad o) (by rw [wd_at ho, hsh]), fun U hU hW => ⟨rfl, by rw [hU], by rw [hU]; exact hP, va_K.moved hW.alike B.2.2.2.2.2.1, B.2.2.2.2.2.2.2.warm hW⟩⟩ rfl hn hL.1 rfl (lv_room hW) hdg ⟨Nat.zero_le _, Nat.zero_le _⟩) hS (fun q hq h => ?_) (fun q h => ?_) (fun r u t H1 locs1 ht _ hw hB _ _ hS1 => by
      have e1 : r = r1 := congrArg Prod.fst hw
      have e2 : u = M := congrArg Prod.snd hw
      subst e1; subst e2
      exact kk r hdc hd H1 locs1 ls (by rw [← ht]; exact hB) hS1 hL)
    · rcases h with h | h
      · exact Or.inl h
      · omega
    · rcases h with h | h
      · exact Or.inl h
      · exact Or.inr (Nat.le_trans hS.1 h)
theorem g_callVLe (B : Bx p s m args c D cA ad n nL own cc ws) {y : MethodName} {bytes : ByteArray} {maxL index na : Nat} {ret : Option FieldType} {wsC : List Cond} {rm : Room} {As : List Value} {st0 : List Value} {o ci : Nat} {fl : (Nat → Int32) → List Value} {q : vw_C} {dc : Option (Int64 × Mem)} {k : Int64 × Mem → Option ρ} (hC : CL l y wsC rm D cA ad sh n (.ref (ad o) :: As) M dc) (cw : CallW R s args own q.1 index y bytes maxL ret wsC rm 0 0 na) (hsh : ∀ f, sh o f = .inr (ci, fl f)) (ho : o < n) (hcl : vwCl[ci]? = some q) (hn : As.length = na) (hst : st0 = (As.reverse ++ .ref (ad o) :: st)) (hW : (st.map fun v => v.category).sum ≤ 8) (hdg : decode cc pc = .ok (.invokevirtual index, 3)) (kk : ∀ r M1, dc = some (r, M1) → GG p l e R s m args below meth c D ad sh n nL Q R0 M1 (pc + 3) lv (.long r :: st) (k (r, M1))) : GG p l e R s m args below meth c D ad sh n nL Q R0 M pc lv st0 (dc.bind k) := by
  subst hst
  intro hd H locs ls hP hS hL
  cases hdc : dc with
  | none => rw [hdc] at hd; cases hd
  | some R1 =>
    rw [hdc] at hd
    have hM := hC H.size R1 hdc
    refine va_calll (va_runV (As := As) (rest := st) ⟨B.1, B.2.1, B.2.2.1, B.2.2.2.1, B.2.2.2.2.1⟩ hM cw ⟨preG_blind, va_recv B.2.2.2.2.2.1 hP hcl (q0 := o) (a := ad o) (by rw [wd_at ho, hsh]), fun U hU hW => ⟨rfl, by rw [hU], by rw [hU]; exact hP, va_K.moved hW.alike B.2.2.2.2.2.1, B.2.2.2.2.2.2.2.warm hW⟩⟩ rfl hn hL.1 rfl (lv_room hW) hdg ⟨Nat.zero_le _, Nat.zero_le _⟩) hS (fun q hq h => ?_) (fun q h => ?_) (fun r u t H1 locs1 ht _ hw hB _ _ hS1 => by
      have e : dc = some (r, u) := by rw [hw]; exact hdc
      exact kk r u e (by rw [← hw] at hd; exact hd) H1 locs1 ls (by rw [← ht]; exact hB) hS1 hL)
    · rcases h with h | h
      · exact Or.inl h
      · omega
    · rcases h with h | h
      · exact Or.inl h
      · exact Or.inr (Nat.le_trans hS.1 h)
theorem g_callVVe (B : Bx p s m args c D cA ad n nL own cc ws) {y : MethodName} {bytes : ByteArray} {maxL index na : Nat} {ret : Option FieldType} {wsC : List Cond} {rm : Room} {As : List Value} {st0 : List Value} {o ci : Nat} {fl : (Nat → Int32) → List Value} {q : vw_C} {dc : Option Mem} {k : Mem → Option ρ} (hC : CV l y wsC rm D cA ad sh n (.ref (ad o) :: As) M dc) (cw : CallW R s args own q.1 index y bytes maxL ret wsC rm 0 0 na) (hsh : ∀ f, sh o f = .inr (ci, fl f)) (ho : o < n) (hcl : vwCl[ci]? = some q) (hn : As.length = na) (hst : st0 = (As.reverse ++ .ref (ad o) :: st)) (hW : (st.map fun v => v.category).sum ≤ 8) (hdg : decode cc pc = .ok (.invokevirtual index, 3)) (kk : ∀ M1, dc = some M1 → GG p l e R s m args below meth c D ad sh n nL Q R0 M1 (pc + 3) lv st (k M1)) : GG p l e R s m args below meth c D ad sh n nL Q R0 M pc lv st0 (dc.bind k) := by
  subst hst
  intro hd H locs ls hP hS hL
  cases hdc : dc with
  | none => rw [hdc] at hd; cases hd
  | some M1 =>
    rw [hdc] at hd
    have hM := hC H.size M1 hdc
    refine va_callv (va_runV (As := As) (rest := st) ⟨B.1, B.2.1, B.2.2.1, B.2.2.2.1, B.2.2.2.2.1⟩ hM cw ⟨preG_blind, va_recv B.2.2.2.2.2.1 hP hcl (q0 := o) (a := ad o) (by rw [wd_at ho, hsh]), fun U hU hW => ⟨rfl, by rw [hU], by rw [hU]; exact hP, va_K.moved hW.alike B.2.2.2.2.2.1, B.2.2.2.2.2.2.2.warm hW⟩⟩ rfl hn hL.1 rfl (lv_room hW) hdg ⟨Nat.zero_le _, Nat.zero_le _⟩) hS (fun q hq h => ?_) (fun q h => ?_) (fun u t H1 locs1 ht _ hw hB _ _ hS1 => kk M1 hdc hd H1 locs1 ls (by rw [← hw, ← ht]; exact hB) hS1 hL)
    · rcases h with h | h
      · exact Or.inl h
      · omega
    · rcases h with h | h
      · exact Or.inl h
      · exact Or.inr (Nat.le_trans hS.1 h)
theorem g_callSIp (B : Bx p s m args c D cA ad n nL own cc ws) {y : MethodName} {bytes : ByteArray} {maxL index na : Nat} {ret : Option FieldType} {wsC : List Cond} {rm : Room} {As : List Value} {st0 : List Value}  {dc : Option Int32} {k : Int32 → Option ρ} (hC : CI l y wsC rm D cA ad sh n As M (wM M dc)) (cw : CallB R s args own index y bytes maxL ret wsC rm 0 0 na ∧ (Cond.static y).before args s = true)  (hn : As.length = na) (hst : st0 = (As.reverse ++ st)) (hW : (st.map fun v => v.category).sum ≤ 8) (hdg : decode cc pc = .ok (.invokestatic index, 3)) (kk : ∀ r, dc = some r → GG p l e R s m args below meth c D ad sh n nL Q R0 M (pc + 3) lv (.int r :: st) (k r)) : GG p l e R s m args below meth c D ad sh n nL Q R0 M pc lv st0 (dc.bind k) := by
  subst hst
  intro hd H locs ls hP hS hL
  cases hdc : dc with
  | none => rw [hdc] at hd; cases hd
  | some r1 =>
    rw [hdc] at hd
    have hM := hC H.size (r1, M) (by rw [hdc]; rfl)
    refine va_calli (va_runS (As := As) (rest := st) ⟨B.1, B.2.1, B.2.2.1, B.2.2.2.1, B.2.2.2.2.1⟩ hM cw ⟨preG_blind, fun U hU hW => ⟨rfl, by rw [hU], by rw [hU]; exact hP, va_K.moved hW.alike B.2.2.2.2.2.1, B.2.2.2.2.2.2.2.warm hW⟩⟩ rfl hn hL.1 rfl (lv_room hW) hdg ⟨Nat.zero_le _, Nat.zero_le _⟩) hS (fun q hq h => ?_) (fun q h => ?_) (fun r u t H1 locs1 ht _ hw hB _ _ hS1 => by
      have e1 : r = r1 := congrArg Prod.fst hw
      have e2 : u = M := congrArg Prod.snd hw
      subst e1; subst e2
      exact kk r hdc hd H1 locs1 ls (by rw [← ht]; exact hB) hS1 hL)
    · rcases h with h | h
      · exact Or.inl h
      · omega
    · rcases h with h | h
      · exact Or.inl h
      · exact Or.inr (Nat.le_trans hS.1 h)
theorem g_callSIe (B : Bx p s m args c D cA ad n nL own cc ws) {y : MethodName} {bytes : ByteArray} {maxL index na : Nat} {ret : Option FieldType} {wsC : List Cond} {rm : Room} {As : List Value} {st0 : List Value}  {dc : Option (Int32 × Mem)} {k : Int32 × Mem → Option ρ} (hC : CI l y wsC rm D cA ad sh n As M dc) (cw : CallB R s args own index y bytes maxL ret wsC rm 0 0 na ∧ (Cond.static y).before args s = true)  (hn : As.length = na) (hst : st0 = (As.reverse ++ st)) (hW : (st.map fun v => v.category).sum ≤ 8) (hdg : decode cc pc = .ok (.invokestatic index, 3)) (kk : ∀ r M1, dc = some (r, M1) → GG p l e R s m args below meth c D ad sh n nL Q R0 M1 (pc + 3) lv (.int r :: st) (k (r, M1))) : GG p l e R s m args below meth c D ad sh n nL Q R0 M pc lv st0 (dc.bind k) := by
  subst hst
  intro hd H locs ls hP hS hL
  cases hdc : dc with
  | none => rw [hdc] at hd; cases hd
  | some R1 =>
    rw [hdc] at hd
    have hM := hC H.size R1 hdc
    refine va_calli (va_runS (As := As) (rest := st) ⟨B.1, B.2.1, B.2.2.1, B.2.2.2.1, B.2.2.2.2.1⟩ hM cw ⟨preG_blind, fun U hU hW => ⟨rfl, by rw [hU], by rw [hU]; exact hP, va_K.moved hW.alike B.2.2.2.2.2.1, B.2.2.2.2.2.2.2.warm hW⟩⟩ rfl hn hL.1 rfl (lv_room hW) hdg ⟨Nat.zero_le _, Nat.zero_le _⟩) hS (fun q hq h => ?_) (fun q h => ?_) (fun r u t H1 locs1 ht _ hw hB _ _ hS1 => by
      have e : dc = some (r, u) := by rw [hw]; exact hdc
      exact kk r u e (by rw [← hw] at hd; exact hd) H1 locs1 ls (by rw [← ht]; exact hB) hS1 hL)
    · rcases h with h | h
      · exact Or.inl h
      · omega
    · rcases h with h | h
      · exact Or.inl h
      · exact Or.inr (Nat.le_trans hS.1 h)
theorem g_callSLp (B : Bx p s m args c D cA ad n nL own cc ws) {y : MethodName} {bytes : ByteArray} {maxL index na : Nat} {ret : Option FieldType} {wsC : List Cond} {rm : Room} {As : List Value} {st0 : List Value}  {dc : Option Int64} {k : Int64 → Option ρ} (hC : CL l y wsC rm D cA ad sh n As M (wM M dc)) (cw : CallB R s args own index y bytes maxL ret wsC rm 0 0 na ∧ (Cond.static y).before args s = true)  (hn : As.length = na) (hst : st0 = (As.reverse ++ st)) (hW : (st.map fun v => v.category).sum ≤ 8) (hdg : decode cc pc = .ok (.invokestatic index, 3)) (kk : ∀ r, dc = some r → GG p l e R s m args below meth c D ad sh n nL Q R0 M (pc + 3) lv (.long r :: st) (k r)) : GG p l e R s m args below meth c D ad sh n nL Q R0 M pc lv st0 (dc.bind k) := by
  subst hst
  intro hd H locs ls hP hS hL
  cases hdc : dc with
  | none => rw [hdc] at hd; cases hd
  | some r1 =>
    rw [hdc] at hd
    have hM := hC H.size (r1, M) (by rw [hdc]; rfl)
    refine va_calll (va_runS (As := As) (rest := st) ⟨B.1, B.2.1, B.2.2.1, B.2.2.2.1, B.2.2.2.2.1⟩ hM cw ⟨preG_blind, fun U hU hW => ⟨rfl, by rw [hU], by rw [hU]; exact hP, va_K.moved hW.alike B.2.2.2.2.2.1, B.2.2.2.2.2.2.2.warm hW⟩⟩ rfl hn hL.1 rfl (lv_room hW) hdg ⟨Nat.zero_le _, Nat.zero_le _⟩) hS (fun q hq h => ?_) (fun q h => ?_) (fun r u t H1 locs1 ht _ hw hB _ _ hS1 => by
      have e1 : r = r1 := congrArg Prod.fst hw
      have e2 : u = M := congrArg Prod.snd hw
      subst e1; subst e2
      exact kk r hdc hd H1 locs1 ls (by rw [← ht]; exact hB) hS1 hL)
    · rcases h with h | h
      · exact Or.inl h
      · omega
    · rcases h with h | h
      · exact Or.inl h
      · exact Or.inr (Nat.le_trans hS.1 h)
theorem g_callSLe (B : Bx p s m args c D cA ad n nL own cc ws) {y : MethodName} {bytes : ByteArray} {maxL index na : Nat} {ret : Option FieldType} {wsC : List Cond} {rm : Room} {As : List Value} {st0 : List Value}  {dc : Option (Int64 × Mem)} {k : Int64 × Mem → Option ρ} (hC : CL l y wsC rm D cA ad sh n As M dc) (cw : CallB R s args own index y bytes maxL ret wsC rm 0 0 na ∧ (Cond.static y).before args s = true)  (hn : As.length = na) (hst : st0 = (As.reverse ++ st)) (hW : (st.map fun v => v.category).sum ≤ 8) (hdg : decode cc pc = .ok (.invokestatic index, 3)) (kk : ∀ r M1, dc = some (r, M1) → GG p l e R s m args below meth c D ad sh n nL Q R0 M1 (pc + 3) lv (.long r :: st) (k (r, M1))) : GG p l e R s m args below meth c D ad sh n nL Q R0 M pc lv st0 (dc.bind k) := by
  subst hst
  intro hd H locs ls hP hS hL
  cases hdc : dc with
  | none => rw [hdc] at hd; cases hd
  | some R1 =>
    rw [hdc] at hd
    have hM := hC H.size R1 hdc
    refine va_calll (va_runS (As := As) (rest := st) ⟨B.1, B.2.1, B.2.2.1, B.2.2.2.1, B.2.2.2.2.1⟩ hM cw ⟨preG_blind, fun U hU hW => ⟨rfl, by rw [hU], by rw [hU]; exact hP, va_K.moved hW.alike B.2.2.2.2.2.1, B.2.2.2.2.2.2.2.warm hW⟩⟩ rfl hn hL.1 rfl (lv_room hW) hdg ⟨Nat.zero_le _, Nat.zero_le _⟩) hS (fun q hq h => ?_) (fun q h => ?_) (fun r u t H1 locs1 ht _ hw hB _ _ hS1 => by
      have e : dc = some (r, u) := by rw [hw]; exact hdc
      exact kk r u e (by rw [← hw] at hd; exact hd) H1 locs1 ls (by rw [← ht]; exact hB) hS1 hL)
    · rcases h with h | h
      · exact Or.inl h
      · omega
    · rcases h with h | h
      · exact Or.inl h
      · exact Or.inr (Nat.le_trans hS.1 h)
theorem g_callSVe (B : Bx p s m args c D cA ad n nL own cc ws) {y : MethodName} {bytes : ByteArray} {maxL index na : Nat} {ret : Option FieldType} {wsC : List Cond} {rm : Room} {As : List Value} {st0 : List Value}  {dc : Option Mem} {k : Mem → Option ρ} (hC : CV l y wsC rm D cA ad sh n As M dc) (cw : CallB R s args own index y bytes maxL ret wsC rm 0 0 na ∧ (Cond.static y).before args s = true)  (hn : As.length = na) (hst : st0 = (As.reverse ++ st)) (hW : (st.map fun v => v.category).sum ≤ 8) (hdg : decode cc pc = .ok (.invokestatic index, 3)) (kk : ∀ M1, dc = some M1 → GG p l e R s m args below meth c D ad sh n nL Q R0 M1 (pc + 3) lv st (k M1)) : GG p l e R s m args below meth c D ad sh n nL Q R0 M pc lv st0 (dc.bind k) := by
  subst hst
  intro hd H locs ls hP hS hL
  cases hdc : dc with
  | none => rw [hdc] at hd; cases hd
  | some M1 =>
    rw [hdc] at hd
    have hM := hC H.size M1 hdc
    refine va_callv (va_runS (As := As) (rest := st) ⟨B.1, B.2.1, B.2.2.1, B.2.2.2.1, B.2.2.2.2.1⟩ hM cw ⟨preG_blind, fun U hU hW => ⟨rfl, by rw [hU], by rw [hU]; exact hP, va_K.moved hW.alike B.2.2.2.2.2.1, B.2.2.2.2.2.2.2.warm hW⟩⟩ rfl hn hL.1 rfl (lv_room hW) hdg ⟨Nat.zero_le _, Nat.zero_le _⟩) hS (fun q hq h => ?_) (fun q h => ?_) (fun u t H1 locs1 ht _ hw hB _ _ hS1 => kk M1 hdc hd H1 locs1 ls (by rw [← hw, ← ht]; exact hB) hS1 hL)
    · rcases h with h | h
      · exact Or.inl h
      · omega
    · rcases h with h | h
      · exact Or.inl h
      · exact Or.inr (Nat.le_trans hS.1 h)
theorem g_callSNIp (B : Bx p s m args c D cA ad n nL own cc ws) {y : MethodName} {bytes : ByteArray} {maxL index na : Nat} {ret : Option FieldType} {wsC : List Cond} {rm : Room} {As : List Value} {st0 : List Value}  {dc : Option Int32} {k : Int32 → Option ρ} (hC : CI l y wsC rm D cA ad sh n As M (wM M dc)) {host : String} (cw : va_CN R s args own index y host bytes maxL ret wsC rm 0 0 na ∧ (Cond.static y).before args s = true ∧ True)  (hn : As.length = na) (hst : st0 = (As.reverse ++ st)) (hW : (st.map fun v => v.category).sum ≤ 8) (hdg : decode cc pc = .ok (.invokestatic index, 3)) (kk : ∀ r, dc = some r → GG p l e R s m args below meth c D ad sh n nL Q R0 M (pc + 3) lv (.int r :: st) (k r)) : GG p l e R s m args below meth c D ad sh n nL Q R0 M pc lv st0 (dc.bind k) := by
  subst hst
  intro hd H locs ls hP hS hL
  cases hdc : dc with
  | none => rw [hdc] at hd; cases hd
  | some r1 =>
    rw [hdc] at hd
    have hM := hC H.size (r1, M) (by rw [hdc]; rfl)
    refine va_calli (va_runSN (As := As) (rest := st) ⟨B.1, B.2.1, B.2.2.1, B.2.2.2.1, B.2.2.2.2.1⟩ hM cw ⟨preG_blind, fun U hU hW => ⟨rfl, by rw [hU], by rw [hU]; exact hP, va_K.moved hW.alike B.2.2.2.2.2.1, B.2.2.2.2.2.2.2.warm hW⟩⟩ rfl hn hL.1 rfl (lv_room hW) hdg ⟨Nat.zero_le _, Nat.zero_le _⟩) hS (fun q hq h => ?_) (fun q h => ?_) (fun r u t H1 locs1 ht _ hw hB _ _ hS1 => by
      have e1 : r = r1 := congrArg Prod.fst hw
      have e2 : u = M := congrArg Prod.snd hw
      subst e1; subst e2
      exact kk r hdc hd H1 locs1 ls (by rw [← ht]; exact hB) hS1 hL)
    · rcases h with h | h
      · exact Or.inl h
      · omega
    · rcases h with h | h
      · exact Or.inl h
      · exact Or.inr (Nat.le_trans hS.1 h)
theorem g_callSNIe (B : Bx p s m args c D cA ad n nL own cc ws) {y : MethodName} {bytes : ByteArray} {maxL index na : Nat} {ret : Option FieldType} {wsC : List Cond} {rm : Room} {As : List Value} {st0 : List Value}  {dc : Option (Int32 × Mem)} {k : Int32 × Mem → Option ρ} (hC : CI l y wsC rm D cA ad sh n As M dc) {host : String} (cw : va_CN R s args own index y host bytes maxL ret wsC rm 0 0 na ∧ (Cond.static y).before args s = true ∧ True)  (hn : As.length = na) (hst : st0 = (As.reverse ++ st)) (hW : (st.map fun v => v.category).sum ≤ 8) (hdg : decode cc pc = .ok (.invokestatic index, 3)) (kk : ∀ r M1, dc = some (r, M1) → GG p l e R s m args below meth c D ad sh n nL Q R0 M1 (pc + 3) lv (.int r :: st) (k (r, M1))) : GG p l e R s m args below meth c D ad sh n nL Q R0 M pc lv st0 (dc.bind k) := by
  subst hst
  intro hd H locs ls hP hS hL
  cases hdc : dc with
  | none => rw [hdc] at hd; cases hd
  | some R1 =>
    rw [hdc] at hd
    have hM := hC H.size R1 hdc
    refine va_calli (va_runSN (As := As) (rest := st) ⟨B.1, B.2.1, B.2.2.1, B.2.2.2.1, B.2.2.2.2.1⟩ hM cw ⟨preG_blind, fun U hU hW => ⟨rfl, by rw [hU], by rw [hU]; exact hP, va_K.moved hW.alike B.2.2.2.2.2.1, B.2.2.2.2.2.2.2.warm hW⟩⟩ rfl hn hL.1 rfl (lv_room hW) hdg ⟨Nat.zero_le _, Nat.zero_le _⟩) hS (fun q hq h => ?_) (fun q h => ?_) (fun r u t H1 locs1 ht _ hw hB _ _ hS1 => by
      have e : dc = some (r, u) := by rw [hw]; exact hdc
      exact kk r u e (by rw [← hw] at hd; exact hd) H1 locs1 ls (by rw [← ht]; exact hB) hS1 hL)
    · rcases h with h | h
      · exact Or.inl h
      · omega
    · rcases h with h | h
      · exact Or.inl h
      · exact Or.inr (Nat.le_trans hS.1 h)
theorem g_callSNLp (B : Bx p s m args c D cA ad n nL own cc ws) {y : MethodName} {bytes : ByteArray} {maxL index na : Nat} {ret : Option FieldType} {wsC : List Cond} {rm : Room} {As : List Value} {st0 : List Value}  {dc : Option Int64} {k : Int64 → Option ρ} (hC : CL l y wsC rm D cA ad sh n As M (wM M dc)) {host : String} (cw : va_CN R s args own index y host bytes maxL ret wsC rm 0 0 na ∧ (Cond.static y).before args s = true ∧ True)  (hn : As.length = na) (hst : st0 = (As.reverse ++ st)) (hW : (st.map fun v => v.category).sum ≤ 8) (hdg : decode cc pc = .ok (.invokestatic index, 3)) (kk : ∀ r, dc = some r → GG p l e R s m args below meth c D ad sh n nL Q R0 M (pc + 3) lv (.long r :: st) (k r)) : GG p l e R s m args below meth c D ad sh n nL Q R0 M pc lv st0 (dc.bind k) := by
  subst hst
  intro hd H locs ls hP hS hL
  cases hdc : dc with
  | none => rw [hdc] at hd; cases hd
  | some r1 =>
    rw [hdc] at hd
    have hM := hC H.size (r1, M) (by rw [hdc]; rfl)
    refine va_calll (va_runSN (As := As) (rest := st) ⟨B.1, B.2.1, B.2.2.1, B.2.2.2.1, B.2.2.2.2.1⟩ hM cw ⟨preG_blind, fun U hU hW => ⟨rfl, by rw [hU], by rw [hU]; exact hP, va_K.moved hW.alike B.2.2.2.2.2.1, B.2.2.2.2.2.2.2.warm hW⟩⟩ rfl hn hL.1 rfl (lv_room hW) hdg ⟨Nat.zero_le _, Nat.zero_le _⟩) hS (fun q hq h => ?_) (fun q h => ?_) (fun r u t H1 locs1 ht _ hw hB _ _ hS1 => by
      have e1 : r = r1 := congrArg Prod.fst hw
      have e2 : u = M := congrArg Prod.snd hw
      subst e1; subst e2
      exact kk r hdc hd H1 locs1 ls (by rw [← ht]; exact hB) hS1 hL)
    · rcases h with h | h
      · exact Or.inl h
      · omega
    · rcases h with h | h
      · exact Or.inl h
      · exact Or.inr (Nat.le_trans hS.1 h)
theorem g_callSNLe (B : Bx p s m args c D cA ad n nL own cc ws) {y : MethodName} {bytes : ByteArray} {maxL index na : Nat} {ret : Option FieldType} {wsC : List Cond} {rm : Room} {As : List Value} {st0 : List Value}  {dc : Option (Int64 × Mem)} {k : Int64 × Mem → Option ρ} (hC : CL l y wsC rm D cA ad sh n As M dc) {host : String} (cw : va_CN R s args own index y host bytes maxL ret wsC rm 0 0 na ∧ (Cond.static y).before args s = true ∧ True)  (hn : As.length = na) (hst : st0 = (As.reverse ++ st)) (hW : (st.map fun v => v.category).sum ≤ 8) (hdg : decode cc pc = .ok (.invokestatic index, 3)) (kk : ∀ r M1, dc = some (r, M1) → GG p l e R s m args below meth c D ad sh n nL Q R0 M1 (pc + 3) lv (.long r :: st) (k (r, M1))) : GG p l e R s m args below meth c D ad sh n nL Q R0 M pc lv st0 (dc.bind k) := by
  subst hst
  intro hd H locs ls hP hS hL
  cases hdc : dc with
  | none => rw [hdc] at hd; cases hd
  | some R1 =>
    rw [hdc] at hd
    have hM := hC H.size R1 hdc
    refine va_calll (va_runSN (As := As) (rest := st) ⟨B.1, B.2.1, B.2.2.1, B.2.2.2.1, B.2.2.2.2.1⟩ hM cw ⟨preG_blind, fun U hU hW => ⟨rfl, by rw [hU], by rw [hU]; exact hP, va_K.moved hW.alike B.2.2.2.2.2.1, B.2.2.2.2.2.2.2.warm hW⟩⟩ rfl hn hL.1 rfl (lv_room hW) hdg ⟨Nat.zero_le _, Nat.zero_le _⟩) hS (fun q hq h => ?_) (fun q h => ?_) (fun r u t H1 locs1 ht _ hw hB _ _ hS1 => by
      have e : dc = some (r, u) := by rw [hw]; exact hdc
      exact kk r u e (by rw [← hw] at hd; exact hd) H1 locs1 ls (by rw [← ht]; exact hB) hS1 hL)
    · rcases h with h | h
      · exact Or.inl h
      · omega
    · rcases h with h | h
      · exact Or.inl h
      · exact Or.inr (Nat.le_trans hS.1 h)
theorem g_callSNVe (B : Bx p s m args c D cA ad n nL own cc ws) {y : MethodName} {bytes : ByteArray} {maxL index na : Nat} {ret : Option FieldType} {wsC : List Cond} {rm : Room} {As : List Value} {st0 : List Value}  {dc : Option Mem} {k : Mem → Option ρ} (hC : CV l y wsC rm D cA ad sh n As M dc) {host : String} (cw : va_CN R s args own index y host bytes maxL ret wsC rm 0 0 na ∧ (Cond.static y).before args s = true ∧ True)  (hn : As.length = na) (hst : st0 = (As.reverse ++ st)) (hW : (st.map fun v => v.category).sum ≤ 8) (hdg : decode cc pc = .ok (.invokestatic index, 3)) (kk : ∀ M1, dc = some M1 → GG p l e R s m args below meth c D ad sh n nL Q R0 M1 (pc + 3) lv st (k M1)) : GG p l e R s m args below meth c D ad sh n nL Q R0 M pc lv st0 (dc.bind k) := by
  subst hst
  intro hd H locs ls hP hS hL
  cases hdc : dc with
  | none => rw [hdc] at hd; cases hd
  | some M1 =>
    rw [hdc] at hd
    have hM := hC H.size M1 hdc
    refine va_callv (va_runSN (As := As) (rest := st) ⟨B.1, B.2.1, B.2.2.1, B.2.2.2.1, B.2.2.2.2.1⟩ hM cw ⟨preG_blind, fun U hU hW => ⟨rfl, by rw [hU], by rw [hU]; exact hP, va_K.moved hW.alike B.2.2.2.2.2.1, B.2.2.2.2.2.2.2.warm hW⟩⟩ rfl hn hL.1 rfl (lv_room hW) hdg ⟨Nat.zero_le _, Nat.zero_le _⟩) hS (fun q hq h => ?_) (fun q h => ?_) (fun u t H1 locs1 ht _ hw hB _ _ hS1 => kk M1 hdc hd H1 locs1 ls (by rw [← hw, ← ht]; exact hB) hS1 hL)
    · rcases h with h | h
      · exact Or.inl h
      · omega
    · rcases h with h | h
      · exact Or.inl h
      · exact Or.inr (Nat.le_trans hS.1 h)
end GK2
section GR
variable {p : Program} {l : Launch} {e : Env} {R : Room} {s : State} {m : MethodId} {args : Array Value} {below : List Frame} {meth : Method} {c : Code} {D : va_G} {cA : Nat → ClassId} {ad : Nat → Nat} {sh : Nat → (Nat → Int32) → va_E} {n nL : Nat} {own : String} {cc : ByteArray} {ws : List Cond} {M : Mem} {pc : Nat} {lv : List (Nat × Value)} {st : List Value} 
theorem g_iret (B : Bx p s m args c D cA ad n nL own cc ws) {R0 : Int32 × Mem} (hr : meth.sig.returnType = some .int) (hk : meth.locks = false) {x : Int32} (hdg : decode cc pc = .ok (.ireturn, 1)) : GG p l e R s m args below meth c D ad sh n nL (MQ below (QI D ad sh n s.heap.size R0) args s 0 0 (AX ad n s.heap.size)) R0 M pc lv [.int x] (some (x, M)) := fun hd H locs ls hP hS hL => W.iret B.1 B.2.1 hr (fun t ht _ => ⟨⟨x, M, rfl, Option.some.inj hd, by show va_P D vwCl (wd ad sh n M) t.heap; rw [ht]; exact hP⟩, hS.F ht⟩) hS.2.2 hdg hk
theorem g_iretp (B : Bx p s m args c D cA ad n nL own cc ws) {r0 : Int32} (hr : meth.sig.returnType = some .int) (hk : meth.locks = false) {x : Int32} (hdg : decode cc pc = .ok (.ireturn, 1)) : GG p l e R s m args below meth c D ad sh n nL (MQ below (QI D ad sh n s.heap.size (r0, M)) args s 0 0 (AX ad n s.heap.size)) r0 M pc lv [.int x] (some x) := fun hd H locs ls hP hS hL => W.iret B.1 B.2.1 hr (fun t ht _ => ⟨⟨x, M, rfl, by rw [Option.some.inj hd], by show va_P D vwCl (wd ad sh n M) t.heap; rw [ht]; exact hP⟩, hS.F ht⟩) hS.2.2 hdg hk
theorem g_zret (B : Bx p s m args c D cA ad n nL own cc ws) {R0 : Int32 × Mem} (hr : meth.sig.returnType = some .boolean) (hk : meth.locks = false) {x : Int32} (hx : narrow .boolean (.int x) = .int x) (hdg : decode cc pc = .ok (.ireturn, 1)) : GG p l e R s m args below meth c D ad sh n nL (MQ below (QI D ad sh n s.heap.size R0) args s 0 0 (AX ad n s.heap.size)) R0 M pc lv [.int x] (some (x, M)) := fun hd H locs ls hP hS hL => W.zret B.1 B.2.1 hr hx (fun t ht _ => ⟨⟨x, M, rfl, Option.some.inj hd, by show va_P D vwCl (wd ad sh n M) t.heap; rw [ht]; exact hP⟩, hS.F ht⟩) hS.2.2 hdg hk
theorem g_zretp (B : Bx p s m args c D cA ad n nL own cc ws) {r0 : Int32} (hr : meth.sig.returnType = some .boolean) (hk : meth.locks = false) {x : Int32} (hx : narrow .boolean (.int x) = .int x) (hdg : decode cc pc = .ok (.ireturn, 1)) : GG p l e R s m args below meth c D ad sh n nL (MQ below (QI D ad sh n s.heap.size (r0, M)) args s 0 0 (AX ad n s.heap.size)) r0 M pc lv [.int x] (some x) := fun hd H locs ls hP hS hL => W.zret B.1 B.2.1 hr hx (fun t ht _ => ⟨⟨x, M, rfl, by rw [Option.some.inj hd], by show va_P D vwCl (wd ad sh n M) t.heap; rw [ht]; exact hP⟩, hS.F ht⟩) hS.2.2 hdg hk
theorem g_lret (B : Bx p s m args c D cA ad n nL own cc ws) {R0 : Int64 × Mem} (hr : meth.sig.returnType = some .long) (hk : meth.locks = false) {x : Int64} (hdg : decode cc pc = .ok (.lreturn, 1)) : GG p l e R s m args below meth c D ad sh n nL (MQ below (QL D ad sh n s.heap.size R0) args s 0 0 (AX ad n s.heap.size)) R0 M pc lv [.long x] (some (x, M)) := fun hd H locs ls hP hS hL => W.lret B.1 B.2.1 hr (fun t ht _ => ⟨⟨x, M, rfl, Option.some.inj hd, by show va_P D vwCl (wd ad sh n M) t.heap; rw [ht]; exact hP⟩, hS.F ht⟩) hS.2.2 hdg hk
theorem g_lretp (B : Bx p s m args c D cA ad n nL own cc ws) {r0 : Int64} (hr : meth.sig.returnType = some .long) (hk : meth.locks = false) {x : Int64} (hdg : decode cc pc = .ok (.lreturn, 1)) : GG p l e R s m args below meth c D ad sh n nL (MQ below (QL D ad sh n s.heap.size (r0, M)) args s 0 0 (AX ad n s.heap.size)) r0 M pc lv [.long x] (some x) := fun hd H locs ls hP hS hL => W.lret B.1 B.2.1 hr (fun t ht _ => ⟨⟨x, M, rfl, by rw [Option.some.inj hd], by show va_P D vwCl (wd ad sh n M) t.heap; rw [ht]; exact hP⟩, hS.F ht⟩) hS.2.2 hdg hk
theorem g_vret (B : Bx p s m args c D cA ad n nL own cc ws) {R0 : Mem} (hr : meth.sig.returnType = none) (hk : meth.locks = false) (hdg : decode cc pc = .ok (.return_, 1)) : GG p l e R s m args below meth c D ad sh n nL (MQ below (QV D ad sh n s.heap.size R0) args s 0 0 (AX ad n s.heap.size)) R0 M pc lv [] (some M) := fun hd H locs ls hP hS hL => W.vret B.1 B.2.1 hr (fun t ht _ => ⟨⟨M, rfl, Option.some.inj hd, by show va_P D vwCl (wd ad sh n M) t.heap; rw [ht]; exact hP⟩, hS.F ht⟩) hS.2.2 hdg hk
end GR
theorem CI_of {l : Launch} {y : MethodName} {ws ws1 : List Cond} {rm : Room} {D : va_G} {cA : Nat → ClassId} {ad : Nat → Nat} {sh : Nat → (Nat → Int32) → va_E} {n maxL : Nat} {own : String} {cc : ByteArray} {rt : FieldType} {As : List Value} {M : Mem} {dc : Option (Int32 × Mem)} (had : adOK ad n) (hy : plainName y.cls = true) (hyc : y.cls = own) (hw : ws = Cond.code y cc maxL (some rt) :: ws1) (hAs : (lg_sl As).length ≤ maxL)
    (body : ∀ (p : Program) (e : Env) (s : State) (m : MethodId) (args : Array Value) (below : List Frame) (meth : Method) (c : Code) (R0 : Int32 × Mem), Bx p s m args c D cA ad n maxL own cc ws → meth.sig.returnType = (some rt) → meth.locks = false → GG p l e (headSpec ws rm).room s m args below meth c D ad sh n maxL (MQ below (QI D ad sh n s.heap.size R0) args s 0 0 (AX ad n s.heap.size)) R0 M 0 (lv_args 0 As) [] dc) : CI l y ws rm D cA ad sh n As M dc := by
  intro sz R0 hd
  refine Met.ofW (cc := cc) (maxL := maxL) (ret := (some rt)) hy hw ?_
  intro p e s m args below meth c s₁ B hml hv
  obtain ⟨rfl, hsz, hP, hK, hN⟩ := hv
  subst hsz
  subst hyc
  rw [lg_entry_eq]
  exact body p e s m _ below meth c R0 ⟨B.exec, B.bytes, hml, findClass_of_methodNamed B.named, atoms_spec B.pre, hK, had, hN⟩ B.returns B.notSynchronized hd s.heap [] _ hP va_S.rf (lv_entry As hAs)
theorem CI_ofp {l : Launch} {y : MethodName} {ws ws1 : List Cond} {rm : Room} {D : va_G} {cA : Nat → ClassId} {ad : Nat → Nat} {sh : Nat → (Nat → Int32) → va_E} {n maxL : Nat} {own : String} {cc : ByteArray} {rt : FieldType} {As : List Value} {M : Mem} {dc : Option (Int32)} (had : adOK ad n) (hy : plainName y.cls = true) (hyc : y.cls = own) (hw : ws = Cond.code y cc maxL (some rt) :: ws1) (hAs : (lg_sl As).length ≤ maxL)
    (body : ∀ (p : Program) (e : Env) (s : State) (m : MethodId) (args : Array Value) (below : List Frame) (meth : Method) (c : Code) (R0 : Int32), Bx p s m args c D cA ad n maxL own cc ws → meth.sig.returnType = (some rt) → meth.locks = false → GG p l e (headSpec ws rm).room s m args below meth c D ad sh n maxL (MQ below (QI D ad sh n s.heap.size (R0, M)) args s 0 0 (AX ad n s.heap.size)) R0 M 0 (lv_args 0 As) [] dc) : CI l y ws rm D cA ad sh n As M (wM M dc) := by
  intro sz R0 hd
  refine Met.ofW (cc := cc) (maxL := maxL) (ret := (some rt)) hy hw ?_
  intro p e s m args below meth c s₁ B hml hv
  obtain ⟨rfl, hsz, hP, hK, hN⟩ := hv
  subst hsz
  subst hyc
  rw [lg_entry_eq]
  obtain ⟨h1, h2⟩ := wM_some hd
  subst h2
  exact body p e s m _ below meth c R0.1 ⟨B.exec, B.bytes, hml, findClass_of_methodNamed B.named, atoms_spec B.pre, hK, had, hN⟩ B.returns B.notSynchronized h1 s.heap [] _ hP va_S.rf (lv_entry As hAs)
theorem CL_of {l : Launch} {y : MethodName} {ws ws1 : List Cond} {rm : Room} {D : va_G} {cA : Nat → ClassId} {ad : Nat → Nat} {sh : Nat → (Nat → Int32) → va_E} {n maxL : Nat} {own : String} {cc : ByteArray} {rt : FieldType} {As : List Value} {M : Mem} {dc : Option (Int64 × Mem)} (had : adOK ad n) (hy : plainName y.cls = true) (hyc : y.cls = own) (hw : ws = Cond.code y cc maxL (some rt) :: ws1) (hAs : (lg_sl As).length ≤ maxL)
    (body : ∀ (p : Program) (e : Env) (s : State) (m : MethodId) (args : Array Value) (below : List Frame) (meth : Method) (c : Code) (R0 : Int64 × Mem), Bx p s m args c D cA ad n maxL own cc ws → meth.sig.returnType = (some rt) → meth.locks = false → GG p l e (headSpec ws rm).room s m args below meth c D ad sh n maxL (MQ below (QL D ad sh n s.heap.size R0) args s 0 0 (AX ad n s.heap.size)) R0 M 0 (lv_args 0 As) [] dc) : CL l y ws rm D cA ad sh n As M dc := by
  intro sz R0 hd
  refine Met.ofW (cc := cc) (maxL := maxL) (ret := (some rt)) hy hw ?_
  intro p e s m args below meth c s₁ B hml hv
  obtain ⟨rfl, hsz, hP, hK, hN⟩ := hv
  subst hsz
  subst hyc
  rw [lg_entry_eq]
  exact body p e s m _ below meth c R0 ⟨B.exec, B.bytes, hml, findClass_of_methodNamed B.named, atoms_spec B.pre, hK, had, hN⟩ B.returns B.notSynchronized hd s.heap [] _ hP va_S.rf (lv_entry As hAs)
theorem CL_ofp {l : Launch} {y : MethodName} {ws ws1 : List Cond} {rm : Room} {D : va_G} {cA : Nat → ClassId} {ad : Nat → Nat} {sh : Nat → (Nat → Int32) → va_E} {n maxL : Nat} {own : String} {cc : ByteArray} {rt : FieldType} {As : List Value} {M : Mem} {dc : Option (Int64)} (had : adOK ad n) (hy : plainName y.cls = true) (hyc : y.cls = own) (hw : ws = Cond.code y cc maxL (some rt) :: ws1) (hAs : (lg_sl As).length ≤ maxL)
    (body : ∀ (p : Program) (e : Env) (s : State) (m : MethodId) (args : Array Value) (below : List Frame) (meth : Method) (c : Code) (R0 : Int64), Bx p s m args c D cA ad n maxL own cc ws → meth.sig.returnType = (some rt) → meth.locks = false → GG p l e (headSpec ws rm).room s m args below meth c D ad sh n maxL (MQ below (QL D ad sh n s.heap.size (R0, M)) args s 0 0 (AX ad n s.heap.size)) R0 M 0 (lv_args 0 As) [] dc) : CL l y ws rm D cA ad sh n As M (wM M dc) := by
  intro sz R0 hd
  refine Met.ofW (cc := cc) (maxL := maxL) (ret := (some rt)) hy hw ?_
  intro p e s m args below meth c s₁ B hml hv
  obtain ⟨rfl, hsz, hP, hK, hN⟩ := hv
  subst hsz
  subst hyc
  rw [lg_entry_eq]
  obtain ⟨h1, h2⟩ := wM_some hd
  subst h2
  exact body p e s m _ below meth c R0.1 ⟨B.exec, B.bytes, hml, findClass_of_methodNamed B.named, atoms_spec B.pre, hK, had, hN⟩ B.returns B.notSynchronized h1 s.heap [] _ hP va_S.rf (lv_entry As hAs)
theorem CV_of {l : Launch} {y : MethodName} {ws ws1 : List Cond} {rm : Room} {D : va_G} {cA : Nat → ClassId} {ad : Nat → Nat} {sh : Nat → (Nat → Int32) → va_E} {n maxL : Nat} {own : String} {cc : ByteArray} {As : List Value} {M : Mem} {dc : Option (Mem)} (had : adOK ad n) (hy : plainName y.cls = true) (hyc : y.cls = own) (hw : ws = Cond.code y cc maxL none :: ws1) (hAs : (lg_sl As).length ≤ maxL)
    (body : ∀ (p : Program) (e : Env) (s : State) (m : MethodId) (args : Array Value) (below : List Frame) (meth : Method) (c : Code) (R0 : Mem), Bx p s m args c D cA ad n maxL own cc ws → meth.sig.returnType = none → meth.locks = false → GG p l e (headSpec ws rm).room s m args below meth c D ad sh n maxL (MQ below (QV D ad sh n s.heap.size R0) args s 0 0 (AX ad n s.heap.size)) R0 M 0 (lv_args 0 As) [] dc) : CV l y ws rm D cA ad sh n As M dc := by
  intro sz R0 hd
  refine Met.ofW (cc := cc) (maxL := maxL) (ret := none) hy hw ?_
  intro p e s m args below meth c s₁ B hml hv
  obtain ⟨rfl, hsz, hP, hK, hN⟩ := hv
  subst hsz
  subst hyc
  rw [lg_entry_eq]
  exact body p e s m _ below meth c R0 ⟨B.exec, B.bytes, hml, findClass_of_methodNamed B.named, atoms_spec B.pre, hK, had, hN⟩ B.returns B.notSynchronized hd s.heap [] _ hP va_S.rf (lv_entry As hAs)
