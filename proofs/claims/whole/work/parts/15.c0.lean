/-! constructors: worlds that grow, a row an instruction -/
def AOs (U : State) : Prop := va_AO RX2 U ∧ va_AO RX5 U
theorem AOs.moved {s U : State} (hv : s.vm.Alike U.vm) (h : AOs s) : AOs U := ⟨va_AO.moved hv h.1, va_AO.moved hv h.2⟩
abbrev z0 : Nat → Int32 := fun _ => 0
abbrev eI (cA : Nat → ClassId) (n : Nat) (f : Nat → Int32) : va_E := .inl (cA 0, (n, .inl f))
abbrev eR (cA : Nat → ClassId) (t n : Nat) (f : Nat → Option Nat) : va_E := .inl (cA t, (n, .inr (.inr (.inr (.inr f)))))
abbrev eO (ci : Nat) (fs : List Value) : va_E := .inr (ci, fs)
def PreN (D : va_G) (cA : Nat → ClassId) (w0 : va_W) (sz : Nat) (U : State) : Prop := U.heap.size = sz ∧ va_P D vwCl w0 U.heap ∧ va_K D vwCl (tyL cA) U ∧ NWs U ∧ AOs U ∧ va_D (fun _ => True) w0
def QN (D : va_G) (w0 : va_W) (w1 : (Nat → Nat) → va_W) (h0 sz : Nat) : Array Value → State → Outcome → State → Prop := va_Qv (fun a : Nat → Nat => a 0 = h0) (fun a t => va_P D vwCl (w1 a) t.heap ∧ va_D (va_A w0 sz) (w1 a)) (va_A w0 sz)
/-- a constructor's contract: from the object as it is born to the world behind it, at the addresses that some a tells -/
def NV (l : Launch) (y : MethodName) (Ts : List Cond) (rm : Room) (D : va_G) (cA : Nat → ClassId) (h0 : Nat) (w0 : va_W) (w1 : (Nat → Nat) → va_W) (mc ms : Nat) : Prop := ∀ sz : Nat, Met l y Ts rm (va_Pc [.ref h0] (PreN D cA w0 sz)) (QN D w0 w1 h0 sz) mc ms (va_A w0 sz)
theorem preN_blind {D : va_G} {cA : Nat → ClassId} {w0 : va_W} {sz : Nat} {As : List Value} : FrameBlind (va_Pc As (PreN D cA w0 sz)) := fun a U g mk q => by
  obtain ⟨q0, q1, qP, qK, qN, qA, qD⟩ := q
  exact ⟨q0, q1, qP, va_K.moved (u := U) (U := U.calling g mk a) (Vm.Alike.refl U.vm) qK, NWs.same (s := U) rfl qN, AOs.moved (s := U) (U := U.calling g mk a) (Vm.Alike.refl U.vm) qA, qD⟩
theorem ty_one {D : va_G} {cl : List vw_C} {tys : List (ClassId × FieldType)} {U : State} (h : va_K D cl tys U) {i j : Nat} {c1 c2 : ClassId} {ty : FieldType} (h1 : tys[i]? = some (c1, ty)) (h2 : tys[j]? = some (c2, ty)) : c1 = c2 := by
  have a := (h.2 i _ h1).2
  have b := (h.2 j _ h2).2
  cases ty with
  | object C =>
    obtain ⟨_, _, _, _, _, a4⟩ := a
    obtain ⟨_, _, _, _, _, b4⟩ := b
    exact Option.some.inj (a4.symm.trans b4)
  | _ => exact Option.some.inj (Eq.trans (Eq.symm a) b)
theorem wP_map {D : va_G} {cl : List vw_C} {w w' : va_W} {H : Heap} (h : va_P D cl w H) {is : List Nat} (hs : is.map (fun i => w[i]?) = w'.map some) : va_P D cl w' H := by
  intro k q hk
  have h1 : (is.map (fun i => w[i]?))[k]? = some (some q) := by rw [hs, List.getElem?_map, hk]; rfl
  rw [List.getElem?_map] at h1
  cases hi : is[k]? with
  | none => rw [hi] at h1; cases h1
  | some i => rw [hi] at h1; exact h i q (Option.some.inj h1)
/-- what a constructor's body stands on -/
def Cx (p : Program) (s : State) (m : MethodId) (args : Array Value) (c : Code) (D : va_G) (cA : Nat → ClassId) (A : Nat → Prop) (nL : Nat) (own : String) (cc : ByteArray) (Ts : List Cond) : Prop :=
  p.tables.exec = Jvm.exec ∧ c.code = cc ∧ c.maxLocals = nL ∧ s.vm.findClass own = some m.cls ∧ (∀ w ∈ Ts, w.before args s = true) ∧ va_K D vwCl (tyL cA) s ∧ NWs s ∧ AOs s ∧ ∀ q, s.heap.size ≤ q → A q
def CG (p : Program) (l : Launch) (e : Env) (R : Room) (s : State) (m : MethodId) (args : Array Value) (below : List Frame) (meth : Method) (c : Code) (D : va_G) (A : Nat → Prop) (nL : Nat) (Q : State → Prop) (w : va_W) (cells slots pc : Nat) (lv : List (Nat × Value)) (st : List Value) : Prop :=
  ∀ (H : Heap) (locs : List Loc) (ls : Array Slot), va_P D vwCl w H → va_D A w → va_S A s.heap H locs → lv_has ls nL lv → W p l e R s m args below meth c H locs cells slots Q (F0 m pc ls st)
section CK
variable {p : Program} {l : Launch} {e : Env} {R : Room} {s : State} {m : MethodId} {args : Array Value} {below : List Frame} {meth : Method} {c : Code} {D : va_G} {cA : Nat → ClassId} {A : Nat → Prop} {nL : Nat} {own : String} {cc : ByteArray} {Ts : List Cond} {Q : State → Prop} {w : va_W} {cells slots pc : Nat} {lv : List (Nat × Value)} {st : List Value}
theorem c_w {w1 : va_W} {cells1 slots1 : Nat} (h : w = w1) (hc : cells = cells1) (hs : slots = slots1) (kk : CG p l e R s m args below meth c D A nL Q w1 cells1 slots1 pc lv st) : CG p l e R s m args below meth c D A nL Q w cells slots pc lv st := by
  rw [h, hc, hs]
  exact kk
theorem c_aload_n (B : Cx p s m args c D cA A nL own cc Ts) {k : Fin 4} {i : Nat} {x : Nat} (hdg : decode cc pc = .ok (.aload_n k, 1)) (j : Nat) (hi : (k : Nat) = i) (hl : lv[j]? = some (i, Value.ref x)) (kk : CG p l e R s m args below meth c D A nL Q w cells slots (pc + 1) lv (.ref x :: st)) : CG p l e R s m args below meth c D A nL Q w cells slots pc lv st := fun H locs ls hP hD hS hL => lv_aload_n B.1 B.2.1 hdg hi (lv_at hL j hl) (kk H locs ls hP hD hS hL)
theorem c_iload_n (B : Cx p s m args c D cA A nL own cc Ts) {k : Fin 4} {i : Nat} {x : Int32} (hdg : decode cc pc = .ok (.iload_n k, 1)) (j : Nat) (hi : (k : Nat) = i) (hl : lv[j]? = some (i, Value.int x)) (kk : CG p l e R s m args below meth c D A nL Q w cells slots (pc + 1) lv (.int x :: st)) : CG p l e R s m args below meth c D A nL Q w cells slots pc lv st := fun H locs ls hP hD hS hL => lv_iload_n B.1 B.2.1 hdg hi (lv_at hL j hl) (kk H locs ls hP hD hS hL)
theorem c_istore_n (B : Cx p s m args c D cA A nL own cc Ts) {k : Fin 4} {i : Nat} {x : Int32} {lv1 : List (Nat × Value)} (hdg : decode cc pc = .ok (.istore_n k, 1)) (hi : (k : Nat) = i) (hn : i < nL) (hl : (i, Value.int x) :: lv.filter (fun q => !(q.1 == i) && !(q.1 + 1 == i && q.2.category == 2)) = lv1) (kk : CG p l e R s m args below meth c D A nL Q w cells slots (pc + 1) lv1 st) : CG p l e R s m args below meth c D A nL Q w cells slots pc lv (.int x :: st) := fun H locs ls hP hD hS hL => lv_istore_n B.1 B.2.1 hdg hi hL hn hl (fun ls1 hL1 => kk H locs ls1 hP hD hS hL1)
theorem c_astore_n (B : Cx p s m args c D cA A nL own cc Ts) {k : Fin 4} {i : Nat} {x : Nat} {lv1 : List (Nat × Value)} (hdg : decode cc pc = .ok (.astore_n k, 1)) (hi : (k : Nat) = i) (hn : i < nL) (hl : (i, Value.ref x) :: lv.filter (fun q => !(q.1 == i) && !(q.1 + 1 == i && q.2.category == 2)) = lv1) (kk : CG p l e R s m args below meth c D A nL Q w cells slots (pc + 1) lv1 st) : CG p l e R s m args below meth c D A nL Q w cells slots pc lv (.ref x :: st) := fun H locs ls hP hD hS hL => lv_astore_n B.1 B.2.1 hdg hi hL hn hl (fun ls1 hL1 => kk H locs ls1 hP hD hS hL1)
theorem c_iinc (B : Cx p s m args c D cA A nL own cc Ts) {i : Nat} {nn : Int} {x v : Int32} {lv1 : List (Nat × Value)} (hdg : decode cc pc = .ok (.iinc i nn, 3)) (k : Nat) (hk : lv[k]? = some (i, .int x)) (hv : x + Int32.ofInt nn = v) (hn : i < nL) (hl : (i, Value.int v) :: lv.filter (fun q => !(q.1 == i) && !(q.1 + 1 == i && q.2.category == 2)) = lv1) (kk : CG p l e R s m args below meth c D A nL Q w cells slots (pc + 3) lv1 st) : CG p l e R s m args below meth c D A nL Q w cells slots pc lv st := fun H locs ls hP hD hS hL => lv_iinc B.1 B.2.1 hdg hL hk hv hn hl (fun ls1 hL1 => kk H locs ls1 hP hD hS hL1)
theorem c_iconst (B : Cx p s m args c D cA A nL own cc Ts) {nn : Int} {v : Int32} (hdg : decode cc pc = .ok (.iconst nn, 1)) (hv : Int32.ofInt nn = v) (kk : CG p l e R s m args below meth c D A nL Q w cells slots (pc + 1) lv (.int v :: st)) : CG p l e R s m args below meth c D A nL Q w cells slots pc lv st := fun H locs ls hP hD hS hL => lv_iconst B.1 B.2.1 hdg hv (kk H locs ls hP hD hS hL)
theorem c_bipush (B : Cx p s m args c D cA A nL own cc Ts) {nn : Int} {v : Int32} (hdg : decode cc pc = .ok (.bipush nn, 2)) (hv : (Int8.ofInt nn).toInt32 = v) (kk : CG p l e R s m args below meth c D A nL Q w cells slots (pc + 2) lv (.int v :: st)) : CG p l e R s m args below meth c D A nL Q w cells slots pc lv st := fun H locs ls hP hD hS hL => lv_bipush B.1 B.2.1 hdg hv (kk H locs ls hP hD hS hL)
theorem c_sipush (B : Cx p s m args c D cA A nL own cc Ts) {nn : Int} {v : Int32} (hdg : decode cc pc = .ok (.sipush nn, 3)) (hv : (Int16.ofInt nn).toInt32 = v) (kk : CG p l e R s m args below meth c D A nL Q w cells slots (pc + 3) lv (.int v :: st)) : CG p l e R s m args below meth c D A nL Q w cells slots pc lv st := fun H locs ls hP hD hS hL => lv_sipush B.1 B.2.1 hdg hv (kk H locs ls hP hD hS hL)
theorem c_dup (B : Cx p s m args c D cA A nL own cc Ts) {va : Value} (hdg : decode cc pc = .ok (.dup, 1)) (hva : va.category = 1) (kk : CG p l e R s m args below meth c D A nL Q w cells slots (pc + 1) lv (va :: va :: st)) : CG p l e R s m args below meth c D A nL Q w cells slots pc lv (va :: st) := fun H locs ls hP hD hS hL => lv_dup B.1 B.2.1 hdg hva (kk H locs ls hP hD hS hL)
theorem c_goto (B : Cx p s m args c D cA A nL own cc Ts) {off : Int} {tgt : Nat} (hdg : decode cc pc = .ok (.goto off, 3)) (ht : (pc : Int) + off = (tgt : Int)) (kk : CG p l e R s m args below meth c D A nL Q w cells slots tgt lv st) : CG p l e R s m args below meth c D A nL Q w cells slots pc lv st := fun H locs ls hP hD hS hL => lv_goto B.1 B.2.1 hdg ht (kk H locs ls hP hD hS hL)
theorem c_icmp_ge_f (B : Cx p s m args c D cA A nL own cc Ts) {x y : Int32} {off : Int} {tgt : Nat} (hdg : decode cc pc = .ok (.if_icmp .ge off, 3)) (ht : (pc : Int) + off = (tgt : Int)) (h : ¬ y ≤ x) (kk : CG p l e R s m args below meth c D A nL Q w cells slots (pc + 3) lv st) : CG p l e R s m args below meth c D A nL Q w cells slots pc lv (.int y :: .int x :: st) := fun H locs ls hP hD hS hL => lv_icmp_ge B.1 B.2.1 hdg ht (fun h1 => absurd h1 h) (fun _ => kk H locs ls hP hD hS hL)
theorem c_icmp_ge_t (B : Cx p s m args c D cA A nL own cc Ts) {x y : Int32} {off : Int} {tgt : Nat} (hdg : decode cc pc = .ok (.if_icmp .ge off, 3)) (ht : (pc : Int) + off = (tgt : Int)) (h : y ≤ x) (kk : CG p l e R s m args below meth c D A nL Q w cells slots tgt lv st) : CG p l e R s m args below meth c D A nL Q w cells slots pc lv (.int y :: .int x :: st) := fun H locs ls hP hD hS hL => lv_icmp_ge B.1 B.2.1 hdg ht (fun _ => kk H locs ls hP hD hS hL) (fun h1 => absurd h h1)
theorem c_obj (B : Cx p s m args c D cA A nL own cc Ts) {idx a : Nat} (h1 : Cond.methodLink own idx Lib.objectInit ∈ Ts) (h2 : Cond.instanceMethod Lib.objectInit ∈ Ts) (h3 : Cond.code Lib.objectInit ⟨#[0xb1]⟩ 1 none ∈ Ts) (hf : 1 ≤ R.frames) (hlo : 12 ≤ R.locals) (hdg : decode cc pc = .ok (.invokespecial idx, 3)) (kk : CG p l e R s m args below meth c D A nL Q w cells slots (pc + 3) lv []) : CG p l e R s m args below meth c D A nL Q w cells slots pc lv [.ref a] := fun H locs ls hP hD hS hL => W.objInit B.1 B.2.1 B.2.2.2.1 (B.2.2.2.2.1 _ h1) (B.2.2.2.2.1 _ h2) (B.2.2.2.2.1 _ h3) rfl (hL.1.trans B.2.2.1.symm) rfl hdg hf hlo (kk H locs ls hP hD hS hL)
theorem c_new (B : Cx p s m args c D cA A nL own cc Ts) {C : String} {T : u_T} {N ci index : Nat} {fs : List Value} (hin : ∀ w ∈ u_ws C T N, w ∈ Ts) {ty0 : Nat → FieldType} (hty : ∀ k, k < N → parseFieldDescriptor (T k).2.2.1 = some (ty0 k)) (hcl : Cond.classLink own index C ∈ Ts) (hinst : Cond.instantiable C N ∈ Ts) (hini : Cond.initialized C ∈ Ts) (hc : vwCl[ci]? = some (C, T, N)) (hfs : ∀ j, j < N → defaultValue (ty0 j) = vp_V fs j) (hcells : cells + 1 ≤ R.cells) (hslots : slots + N ≤ R.slots) (hdg : decode cc pc = .ok (.new index, 3)) (kk : ∀ q : Nat, CG p l e R s m args below meth c D A nL Q (w ++ [(q, eO ci fs)]) (cells + 1) (slots + N) (pc + 3) lv (.ref q :: st)) : CG p l e R s m args below meth c D A nL Q w cells slots pc lv st := fun H locs ls hP hD hS hL => va_new (ci := ci) (fs := fs) B.1 B.2.1 B.2.2.2.2.1 hin ty0 hty B.2.2.2.1 (B.2.2.2.2.1 _ hcl) (B.2.2.2.2.1 _ hinst) (B.2.2.2.2.1 _ hini) B.2.2.2.2.2.1 hP hD hS B.2.2.2.2.2.2.2.2 hc hfs hcells hslots hdg (fun q H1 hP1 hD1 hS1 => kk q H1 locs ls hP1 hD1 hS1 hL)
theorem c_newI (B : Cx p s m args c D cA A nL own cc Ts) {n : Int32} {N : Nat} (hm : Cond.arrayClass .int ∈ Ts) (hn : ¬ n < 0) (hN : n.toNatClampNeg = N) (hbytes : N * componentBytes .int ≤ 536870912) (hcells : cells + 1 ≤ R.cells) (hslots : slots + N ≤ R.slots) (hdg : decode cc pc = .ok (.newarray .int, 2)) (kk : ∀ q : Nat, CG p l e R s m args below meth c D A nL Q (w ++ [(q, eI cA N z0)]) (cells + 1) (slots + N) (pc + 2) lv (.ref q :: st)) : CG p l e R s m args below meth c D A nL Q w cells slots pc lv (.int n :: st) := fun H locs ls hP hD hS hL => va_newa (atype := .int) (ty := .int) (N' := N) (a0 := (N, .inl z0)) B.1 B.2.1 (B.2.2.2.2.1 _ hm) rfl B.2.2.2.2.2.1 hP hD hS B.2.2.2.2.2.2.2.2 (fun _ => rfl) hn hN hbytes hcells hslots hdg (fun q cB H1 hK1 hP1 hD1 hS1 => by
  have e1 : cB = cA 0 := ty_one hK1 (i := 3) (j := 0) (ty := .int) rfl rfl
  subst e1
  exact kk q H1 locs ls hP1 hD1 hS1 hL)
theorem c_newQ (B : Cx p s m args c D cA A nL own cc Ts) {C : String} {index : Nat} {n : Int32} {N : Nat} (t : Nat) (ht : (tyL cA)[t]? = some (cA t, .object C)) (ho : va_AO C s) (hm : Cond.classLink own index C ∈ Ts) (hn : ¬ n < 0) (hN : n.toNatClampNeg = N) (hbytes : N * 4 ≤ 536870912) (hcells : cells + 1 ≤ R.cells) (hslots : slots + N ≤ R.slots) (hdg : decode cc pc = .ok (.anewarray index, 3)) (kk : ∀ q : Nat, CG p l e R s m args below meth c D A nL Q (w ++ [(q, eR cA t N (fun _ => none))]) (cells + 1) (slots + N) (pc + 3) lv (.ref q :: st)) : CG p l e R s m args below meth c D A nL Q w cells slots pc lv (.int n :: st) := fun H locs ls hP hD hS hL => va_newq (N' := N) B.1 B.2.1 B.2.2.2.1 (B.2.2.2.2.1 _ hm) ho B.2.2.2.2.2.1 hP hD hS B.2.2.2.2.2.2.2.2 hn hN hbytes hcells hslots hdg (fun q cB H1 hK1 hP1 hD1 hS1 => by
  have e1 : cB = cA t := ty_one hK1 (i := 3) (j := t) (ty := .object C) rfl ((List.getElem?_append_left (List.getElem?_eq_some_iff.mp ht).1).trans ht)
  subst e1
  exact kk q H1 locs ls hP1 hD1 hS1 hL)
theorem c_put (B : Cx p s m args c D cA A nL own cc Ts) {ref C : String} {T : u_T} {N ci index a : Nat} (hin : ∀ w ∈ u_ws C T N, w ∈ Ts) {ty0 : Nat → FieldType} (hty : ∀ k, k < N → parseFieldDescriptor (T k).2.2.1 = some (ty0 k)) (hnm : ∀ a, a < N → ∀ b, b < N → a ≠ b → (T a).2.1 ≠ (T b).2.1) (q0 : Nat) {fs : List Value} (he : w[q0]? = some (a, .inr (ci, fs))) (hc : vwCl[ci]? = some (C, T, N)) (k : Nat) (hk : k < N) (hlink : Cond.fieldLink own index ref (T k).2.1 (T k).2.2.1 ∈ Ts) (href : (T k).1 = ref) (hfin : (T k).2.2.2 = false) {v : Value} (hn : narrow (ty0 k) v = v) (hfit : fits (ty0 k) v = true) (hl : k < fs.length) (hdg : decode cc pc = .ok (.putfield index, 3)) (kk : CG p l e R s m args below meth c D A nL Q (w.set q0 (a, .inr (ci, fs.set k v))) cells slots (pc + 3) lv st) : CG p l e R s m args below meth c D A nL Q w cells slots pc lv (v :: .ref a :: st) := fun H locs ls hP hD hS hL => va_put B.1 B.2.1 B.2.2.2.2.1 hin ty0 hty hnm B.2.2.2.1 B.2.2.2.2.2.1 hP hD hS q0 he hc k hk (B.2.2.2.2.1 _ hlink) (fun _ h => by rw [← href]; exact h) hfin (hty k hk) hn hfit hl hdg (fun H1 locs1 hP1 hD1 hS1 => kk H1 locs1 ls hP1 hD1 hS1 hL)
theorem c_putF (B : Cx p s m args c D cA A nL own cc Ts) (hini : meth.name = "<init>") {ref C : String} {T : u_T} {N ci index a : Nat} (hin : ∀ w ∈ u_ws C T N, w ∈ Ts) {ty0 : Nat → FieldType} (hty : ∀ k, k < N → parseFieldDescriptor (T k).2.2.1 = some (ty0 k)) (hnm : ∀ a, a < N → ∀ b, b < N → a ≠ b → (T a).2.1 ≠ (T b).2.1) (q0 : Nat) {fs : List Value} (he : w[q0]? = some (a, .inr (ci, fs))) (hc : vwCl[ci]? = some (C, T, N)) (k : Nat) (hk : k < N) (hlink : Cond.fieldLink own index ref (T k).2.1 (T k).2.2.1 ∈ Ts) (href : (T k).1 = ref) (hfin : (T k).2.2.2 = true) (hdecl : (T k).1 = own) {v : Value} (hn : narrow (ty0 k) v = v) (hfit : fits (ty0 k) v = true) (hl : k < fs.length) (hdg : decode cc pc = .ok (.putfield index, 3)) (kk : CG p l e R s m args below meth c D A nL Q (w.set q0 (a, .inr (ci, fs.set k v))) cells slots (pc + 3) lv st) : CG p l e R s m args below meth c D A nL Q w cells slots pc lv (v :: .ref a :: st) := fun H locs ls hP hD hS hL => va_putF B.1 B.2.1 B.2.2.2.2.1 hin ty0 hty hnm B.2.2.2.1 B.2.2.2.2.2.1 hP hD hS q0 he hc k hk (B.2.2.2.2.1 _ hlink) (fun _ h => by rw [← href]; exact h) hfin hini hdecl (hty k hk) hn hfit hl hdg (fun H1 locs1 hP1 hD1 hS1 => kk H1 locs1 ls hP1 hD1 hS1 hL)
theorem c_get (B : Cx p s m args c D cA A nL own cc Ts) {ref C : String} {T : u_T} {N ci index a : Nat} (hin : ∀ w ∈ u_ws C T N, w ∈ Ts) (q0 : Nat) {fs : List Value} (he : w[q0]? = some (a, .inr (ci, fs))) (hc : vwCl[ci]? = some (C, T, N)) (k : Nat) (hk : k < N) (hlink : Cond.fieldLink own index ref (T k).2.1 (T k).2.2.1 ∈ Ts) (href : (T k).1 = ref) {v : Value} (hv : fs[k]? = some v) (hdg : decode cc pc = .ok (.getfield index, 3)) (kk : CG p l e R s m args below meth c D A nL Q w cells slots (pc + 3) lv (v :: st)) : CG p l e R s m args below meth c D A nL Q w cells slots pc lv (.ref a :: st) := fun H locs ls hP hD hS hL => va_get B.1 B.2.1 B.2.2.2.2.1 hin B.2.2.2.1 B.2.2.2.2.2.1 hP q0 he hc k hk (B.2.2.2.2.1 _ hlink) (fun _ h => by rw [← href]; exact h) hv hdg (kk H locs ls hP hD hS hL)
theorem c_iast (B : Cx p s m args c D cA A nL own cc Ts) {a n j : Nat} {f : Nat → Int32} (q0 : Nat) (ha : w[q0]? = some (a, eI cA n f)) {i x : Int32} (hin : vp_in i n) (hj : i.toNatClampNeg = j) (hdg : decode cc pc = .ok (.iastore, 1)) (kk : CG p l e R s m args below meth c D A nL Q (w.set q0 (a, eI cA n (upd f j x))) cells slots (pc + 1) lv st) : CG p l e R s m args below meth c D A nL Q w cells slots pc lv (.int x :: .int i :: .ref a :: st) := fun H locs ls hP hD hS hL => by
  subst hj
  exact va_iast B.1 B.2.1 B.2.2.2.2.2.1 hP hD hS q0 0 ha rfl hin hdg (fun H1 locs1 hP1 hD1 hS1 => kk H1 locs1 ls hP1 hD1 hS1 hL)
theorem c_aast (B : Cx p s m args c D cA A nL own cc Ts) {a n j ci v : Nat} {f : Nat → Option Nat} {vs : List Value} {r : vw_C} (q0 t qk : Nat) (ha : w[q0]? = some (a, eR cA t n f)) (ht : (tyL cA)[t]? = some (cA t, .object r.1)) (hv : w[qk]? = some (v, .inr (ci, vs))) (hc : vwCl[ci]? = some r) {i : Int32} (hin : vp_in i n) (hj : i.toNatClampNeg = j) (hdg : decode cc pc = .ok (.aastore, 1)) (kk : CG p l e R s m args below meth c D A nL Q (w.set q0 (a, eR cA t n (va_up f j (some v)))) cells slots (pc + 1) lv st) : CG p l e R s m args below meth c D A nL Q w cells slots pc lv (.ref v :: .int i :: .ref a :: st) := fun H locs ls hP hD hS hL => by
  subst hj
  exact va_astq B.1 B.2.1 B.2.2.2.2.2.1 hP hD hS q0 t qk ci ha ht hv hc hin hdg (fun H1 locs1 hP1 hD1 hS1 => kk H1 locs1 ls hP1 hD1 hS1 hL)
theorem c_callN (B : Cx p s m args c D cA A nL own cc Ts) {y : MethodName} {bytes : ByteArray} {maxL index mc ms h0 : Nat} {wsC : List Cond} {rm : Room} {w0 wr : va_W} {w1 : (Nat → Nat) → va_W} (hM : NV l y wsC rm D cA h0 w0 w1 mc ms) {host : String} (cw : va_CN R s args own index y host bytes maxL none wsC rm mc ms 0 ∧ y.name = "<init>" ∧ (Cond.instanceMethod y).before args s = true) (isC isR : List Nat) (hC : isC.map (fun i => w[i]?) = w0.map some) (hR : isR.map (fun i => w[i]?) = wr.map some) (hnC : va_nd isC = true) (hnR : va_nd isR = true) (hdis : ∀ i ∈ isR, i ∉ isC) (hW : (st.map fun v => v.category).sum ≤ 8) (hdg : decode cc pc = .ok (.invokespecial index, 3)) (hcells : cells + mc ≤ R.cells) (hslots : slots + ms ≤ R.slots) (kk : ∀ a : Nat → Nat, a 0 = h0 → CG p l e R s m args below meth c D A nL Q (wr ++ w1 a) (cells + mc) (slots + ms) (pc + 3) lv st) : CG p l e R s m args below meth c D A nL Q w cells slots pc lv (.ref h0 :: st) := fun H locs ls hP hD hS hL => by
  have hPc := wP_map hP hC
  have hDc := hD.sub isC hnC hC
  have hFc := va_free hD hS B.2.2.2.2.2.2.2.2 isC hC
  refine va_callv (va_runIN (As := []) (rest := st) ⟨B.1, B.2.1, B.2.2.1, B.2.2.2.1, B.2.2.2.2.1⟩ (hM H.size) cw ⟨preN_blind, fun U hU hW => ⟨rfl, by rw [hU], by rw [hU]; exact hPc, va_K.moved hW.alike B.2.2.2.2.2.1, B.2.2.2.2.2.2.1.warm hW, B.2.2.2.2.2.2.2.1.moved hW.alike, hDc.weaken (fun _ _ _ _ => trivial)⟩⟩ rfl rfl hL.1 rfl (lv_room hW) hdg ⟨hcells, hslots⟩) hS (fun q _ h => hFc q h) hFc (fun a t H1 locs1 ht _ hw hB _ hk1 hS1 => ?_)
  obtain ⟨hP1, hD1⟩ := hB
  rw [ht] at hP1
  obtain ⟨hP2, hD2⟩ := va_join hP hD isC isR hC hR hnR hdis hk1 hFc hP1 hD1
  exact kk a hw H1 locs1 ls hP2 hD2 hS1 hL
theorem c_callI (B : Cx p s m args c D cA A nL own cc Ts) {y : MethodName} {bytes : ByteArray} {maxL index mc ms h0 : Nat} {wsC : List Cond} {rm : Room} {w0 wr : va_W} {w1 : (Nat → Nat) → va_W} (hM : NV l y wsC rm D cA h0 w0 w1 mc ms) (cw : CallB R s args own index y bytes maxL none wsC rm mc ms 0 ∧ y.name = "<init>" ∧ (Cond.instanceMethod y).before args s = true) (isC isR : List Nat) (hC : isC.map (fun i => w[i]?) = w0.map some) (hR : isR.map (fun i => w[i]?) = wr.map some) (hnC : va_nd isC = true) (hnR : va_nd isR = true) (hdis : ∀ i ∈ isR, i ∉ isC) (hW : (st.map fun v => v.category).sum ≤ 8) (hdg : decode cc pc = .ok (.invokespecial index, 3)) (hcells : cells + mc ≤ R.cells) (hslots : slots + ms ≤ R.slots) (kk : ∀ a : Nat → Nat, a 0 = h0 → CG p l e R s m args below meth c D A nL Q (wr ++ w1 a) (cells + mc) (slots + ms) (pc + 3) lv st) : CG p l e R s m args below meth c D A nL Q w cells slots pc lv (.ref h0 :: st) := fun H locs ls hP hD hS hL => by
  have hPc := wP_map hP hC
  have hDc := hD.sub isC hnC hC
  have hFc := va_free hD hS B.2.2.2.2.2.2.2.2 isC hC
  refine va_callv (va_runI (As := []) (rest := st) ⟨B.1, B.2.1, B.2.2.1, B.2.2.2.1, B.2.2.2.2.1⟩ (hM H.size) cw ⟨preN_blind, fun U hU hW => ⟨rfl, by rw [hU], by rw [hU]; exact hPc, va_K.moved hW.alike B.2.2.2.2.2.1, B.2.2.2.2.2.2.1.warm hW, B.2.2.2.2.2.2.2.1.moved hW.alike, hDc.weaken (fun _ _ _ _ => trivial)⟩⟩ rfl rfl hL.1 rfl (lv_room hW) hdg ⟨hcells, hslots⟩) hS (fun q _ h => hFc q h) hFc (fun a t H1 locs1 ht _ hw hB _ hk1 hS1 => ?_)
  obtain ⟨hP1, hD1⟩ := hB
  rw [ht] at hP1
  obtain ⟨hP2, hD2⟩ := va_join hP hD isC isR hC hR hnR hdis hk1 hFc hP1 hD1
  exact kk a hw H1 locs1 ls hP2 hD2 hS1 hL
theorem c_ret {h0 : Nat} {w0 : va_W} {w1 : (Nat → Nat) → va_W} (B : Cx p s m args c D cA (va_A w0 s.heap.size) nL own cc Ts) (hr : meth.sig.returnType = none) (hk : meth.locks = false) (hdg : decode cc pc = .ok (.return_, 1)) (a : Nat → Nat) (h0a : a 0 = h0) (hw : w1 a = w) : CG p l e R s m args below meth c D (va_A w0 s.heap.size) nL (MQ below (QN D w0 w1 h0 s.heap.size) args s cells slots (va_A w0 s.heap.size)) w cells slots pc lv [] := fun H locs ls hP hD hS hL => W.vret B.1 B.2.1 hr (fun t ht _ => ⟨⟨a, rfl, h0a, by
  show va_P D vwCl (w1 a) t.heap ∧ va_D (va_A w0 s.heap.size) (w1 a)
  rw [ht, hw]
  exact ⟨hP, hD⟩⟩, hS.F ht⟩) hS.2.2 hdg hk
end CK
theorem NV_of {l : Launch} {y : MethodName} {Ts ws1 : List Cond} {rm : Room} {D : va_G} {cA : Nat → ClassId} {h0 maxL mc ms : Nat} {w0 : va_W} {w1 : (Nat → Nat) → va_W} {own : String} {cc : ByteArray} (hy : plainName y.cls = true) (hyc : y.cls = own) (hyn : y.name = "<init>") (hw : Ts = Cond.code y cc maxL none :: ws1) (hAs : (lg_sl [Value.ref h0]).length ≤ maxL)
    (body : ∀ (p : Program) (e : Env) (s : State) (m : MethodId) (args : Array Value) (below : List Frame) (meth : Method) (c : Code), Cx p s m args c D cA (va_A w0 s.heap.size) maxL own cc Ts → meth.name = "<init>" → meth.sig.returnType = none → meth.locks = false → CG p l e (headSpec Ts rm).room s m args below meth c D (va_A w0 s.heap.size) maxL (MQ below (QN D w0 w1 h0 s.heap.size) args s mc ms (va_A w0 s.heap.size)) w0 0 0 0 [(0, .ref h0)] []) : NV l y Ts rm D cA h0 w0 w1 mc ms := by
  intro sz
  refine Met.ofW (cc := cc) (maxL := maxL) (ret := none) hy hw ?_
  intro p e s m args below meth c s₁ B hml hv
  obtain ⟨rfl, hsz, hP, hK, hN, hO, hD0⟩ := hv
  subst hsz
  subst hyc
  rw [lg_entry_eq]
  exact body p e s m _ below meth c ⟨B.exec, B.bytes, hml, findClass_of_methodNamed B.named, atoms_spec B.pre, hK, hN, hO, fun q h => Or.inr h⟩ ((name_of_methodNamed B.named B.method).1.trans hyn) B.returns B.notSynchronized s.heap [] _ hP hD0.self va_S.rf (lv_entry [.ref h0] hAs)
/-! rows of references -/
theorem rowR_g {a b : Nat → Nat} {n : Nat} {f g : Nat → Nat} (h : ∀ j, j < n → a (f j) = b (g j)) : rowR a n f = rowR b n g := by
  funext j
  unfold rowR
  by_cases hj : j < n
  · rw [if_pos hj, if_pos hj, h j hj]
  · rw [if_neg hj, if_neg hj]
theorem row6 {a f : Nat → Nat} {x0 x1 x2 x3 x4 x5 : Nat} (h0 : a (f 0) = x0) (h1 : a (f 1) = x1) (h2 : a (f 2) = x2) (h3 : a (f 3) = x3) (h4 : a (f 4) = x4) (h5 : a (f 5) = x5) : rowR a 6 f = va_up (va_up (va_up (va_up (va_up (va_up (fun _ => none) 0 (some x0)) 1 (some x1)) 2 (some x2)) 3 (some x3)) 4 (some x4)) 5 (some x5) := by
  subst h0 h1 h2 h3 h4 h5
  funext j
  unfold rowR
  by_cases hj : j < 6
  · rw [if_pos hj]
    rcases (show j = 0 ∨ j = 1 ∨ j = 2 ∨ j = 3 ∨ j = 4 ∨ j = 5 by omega) with q | q | q | q | q | q <;> subst q <;> rfl
  · rw [if_neg hj]
    show none = if j = 5 then _ else if j = 4 then _ else if j = 3 then _ else if j = 2 then _ else if j = 1 then _ else if j = 0 then _ else none
    rw [if_neg (by omega), if_neg (by omega), if_neg (by omega), if_neg (by omega), if_neg (by omega), if_neg (by omega)]
theorem row4 {a f : Nat → Nat} {x0 x1 x2 x3 : Nat} (h0 : a (f 0) = x0) (h1 : a (f 1) = x1) (h2 : a (f 2) = x2) (h3 : a (f 3) = x3) : rowR a 4 f = va_up (va_up (va_up (va_up (fun _ => none) 0 (some x0)) 1 (some x1)) 2 (some x2)) 3 (some x3) := by
  subst h0 h1 h2 h3
  funext j
  unfold rowR
  by_cases hj : j < 4
  · rw [if_pos hj]
    rcases (show j = 0 ∨ j = 1 ∨ j = 2 ∨ j = 3 by omega) with q | q | q | q <;> subst q <;> rfl
  · rw [if_neg hj]
    show none = if j = 3 then _ else if j = 2 then _ else if j = 1 then _ else if j = 0 then _ else none
    rw [if_neg (by omega), if_neg (by omega), if_neg (by omega), if_neg (by omega)]
theorem wd_eq {ad : Nat → Nat} {sh : Nat → (Nat → Int32) → va_E} {n : Nat} {M : Mem} {w : va_W} (hl : w.length = n) (h : ∀ o, o < n → w[o]? = some (ad o, sh o (M o))) : wd ad sh n M = w := by
  apply List.ext_getElem?
  intro i
  rcases Nat.lt_or_ge i n with hi | hi
  · rw [wd_at hi, h i hi]
  · have h1 : (wd ad sh n M)[i]? = none := by simp [wd, hi]
    have h2 : w[i]? = none := List.getElem?_eq_none_iff.mpr (by omega)
    rw [h1, h2]
