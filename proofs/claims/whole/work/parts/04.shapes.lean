/-! the cells of the two worlds: the class's 37 (ids by their making), the reference's 25 -/
def isCo (o : Nat) : Prop := o = 6 ∨ o = 15
def isFt (o : Nat) : Prop := o = 8 ∨ o = 9 ∨ o = 10 ∨ o = 11 ∨ o = 12 ∨ o = 13 ∨ o = 17 ∨ o = 18 ∨ o = 19 ∨ o = 20 ∨ o = 21 ∨ o = 22
def isSh (o : Nat) : Prop := o = 29 ∨ o = 31 ∨ o = 33 ∨ o = 35
def ft (o j : Nat) : Nat := o + 2 + j
def shd (j : Nat) : Nat := 29 + 2 * j
def isZ (x : Int32) : Bool := decide (x = 0 ∨ x = 1)
theorem co6 : isCo 6 := Or.inl rfl
theorem co15 : isCo 15 := Or.inr rfl
theorem ft_ok {o : Nat} {i : Int32} (h : isCo o) (hi : inB i 6 = true) : isFt (ft o i.toNatClampNeg) := by
  have h1 := inB_lt hi
  unfold isFt ft
  rcases h with h | h <;> omega
theorem shd_ok {i : Int32} (hi : inB i 4 = true) : isSh (shd i.toNatClampNeg) := by
  have h1 := inB_lt hi
  unfold isSh shd
  omega
theorem co_lt {o : Nat} (h : isCo o) : o < 37 := by unfold isCo at h; omega
theorem ft_lt {o : Nat} (h : isFt o) : o < 37 := by unfold isFt at h; omega
theorem sh_lt {o : Nat} (h : isSh o) : o < 37 := by unfold isSh at h; omega
theorem fts_lt {o : Nat} (h : isCo o) : o + 1 < 37 := by unfold isCo at h; omega
theorem ce_lt {o : Nat} (h : isSh o) : o + 1 < 37 := by unfold isSh at h; omega
theorem nz {x : Int32} (h : isZ x = true) : narrow .boolean (.int x) = .int x := by
  rcases (of_decide_eq_true h : x = 0 ∨ x = 1) with h | h <;> subst h <;> rfl
theorem fz {x : Int32} (h : isZ x = true) : fits .boolean (.int x) = true := by
  rcases (of_decide_eq_true h : x = 0 ∨ x = 1) with h | h <;> subst h <;> rfl
def fl8 (ad : Nat → Nat) (f : Nat → Int32) : List Value := [.ref (ad 1), .ref (ad 2), .ref (ad 6), .ref (ad 14), .ref (ad 23), .ref (ad 25), .int (f 6), .int (f 7), .int (f 8)]
def fl6 (ad : Nat → Nat) (f : Nat → Int32) : List Value := [.ref (ad 3), .ref (ad 4), .ref (ad 5), .int (f 3)]
def fl0 (ad : Nat → Nat) (o : Nat) (f : Nat → Int32) : List Value := [.ref (ad (o + 1)), .int (f 1)]
def fl2 (f : Nat → Int32) : List Value := [.int (f 0), .int (f 1), .int (f 2), .int (f 3), .int (f 4), .int (f 5)]
def fl4 (ad : Nat → Nat) (f : Nat → Int32) : List Value := [.ref (ad 15), .int (f 1), .int (f 2), .int (f 3), .int (f 4)]
def fl1 (ad : Nat → Nat) (_ : Nat → Int32) : List Value := [.ref (ad 24)]
def fl3 (ad : Nat → Nat) (f : Nat → Int32) : List Value := [.ref (ad 26), .ref (ad 27), .ref (ad 28), .int (f 3)]
def fl5 (ad : Nat → Nat) (o : Nat) (f : Nat → Int32) : List Value := [.ref (ad (o + 1)), .int (f 1), .int (f 2)]
def shX (ad : Nat → Nat) (cA : Nat → ClassId) (o : Nat) (f : Nat → Int32) : va_E := match o with
  | 0 => .inr (7, fl8 ad f)
  | 1 => .inl (cA 2, (4, .inr (.inr (.inr (.inr (rowR ad 4 shd))))))
  | 2 => .inr (6, fl6 ad f)
  | 3 => .inl (cA 0, (36, .inl f))
  | 4 => .inl (cA 0, (36, .inl f))
  | 5 => .inl (cA 0, (6, .inl f))
  | 6 => .inr (0, fl0 ad 6 f)
  | 7 => .inl (cA 1, (6, .inr (.inr (.inr (.inr (rowR ad 6 (ft 6)))))))
  | 14 => .inr (4, fl4 ad f)
  | 15 => .inr (0, fl0 ad 15 f)
  | 16 => .inl (cA 1, (6, .inr (.inr (.inr (.inr (rowR ad 6 (ft 15)))))))
  | 23 => .inr (1, fl1 ad f)
  | 24 => .inl (cA 0, (64, .inl f))
  | 25 => .inr (3, fl3 ad f)
  | 26 => .inl (cA 0, (8, .inl f))
  | 27 => .inl (cA 0, (8, .inl f))
  | 28 => .inl (cA 0, (8, .inl f))
  | 29 => .inr (5, fl5 ad 29 f)
  | 30 => .inl (cA 0, (60, .inl f))
  | 31 => .inr (5, fl5 ad 31 f)
  | 32 => .inl (cA 0, (60, .inl f))
  | 33 => .inr (5, fl5 ad 33 f)
  | 34 => .inl (cA 0, (60, .inl f))
  | 35 => .inr (5, fl5 ad 35 f)
  | 36 => .inl (cA 0, (60, .inl f))
  | _ => .inr (2, fl2 f)
section
variable {ad : Nat → Nat} {cA : Nat → ClassId}
theorem shX_pw : ∀ f, shX ad cA 0 f = .inr (7, fl8 ad f) := fun _ => rfl
theorem shX_shs : ∀ f, shX ad cA 1 f = .inl (cA 2, (4, .inr (.inr (.inr (.inr (rowR ad 4 shd)))))) := fun _ => rfl
theorem shX_st : ∀ f, shX ad cA 2 f = .inr (6, fl6 ad f) := fun _ => rfl
theorem shX_3 : ∀ f, shX ad cA 3 f = .inl (cA 0, (36, .inl f)) := fun _ => rfl
theorem shX_4 : ∀ f, shX ad cA 4 f = .inl (cA 0, (36, .inl f)) := fun _ => rfl
theorem shX_5 : ∀ f, shX ad cA 5 f = .inl (cA 0, (6, .inl f)) := fun _ => rfl
theorem shX_24 : ∀ f, shX ad cA 24 f = .inl (cA 0, (64, .inl f)) := fun _ => rfl
theorem shX_26 : ∀ f, shX ad cA 26 f = .inl (cA 0, (8, .inl f)) := fun _ => rfl
theorem shX_27 : ∀ f, shX ad cA 27 f = .inl (cA 0, (8, .inl f)) := fun _ => rfl
theorem shX_28 : ∀ f, shX ad cA 28 f = .inl (cA 0, (8, .inl f)) := fun _ => rfl
theorem shX_se : ∀ f, shX ad cA 14 f = .inr (4, fl4 ad f) := fun _ => rfl
theorem shX_er : ∀ f, shX ad cA 23 f = .inr (1, fl1 ad f) := fun _ => rfl
theorem shX_re : ∀ f, shX ad cA 25 f = .inr (3, fl3 ad f) := fun _ => rfl
theorem shX_co {o : Nat} (h : isCo o) : ∀ f, shX ad cA o f = .inr (0, fl0 ad o f) := by rcases h with h | h <;> subst h <;> intro f <;> rfl
theorem shX_fts {o : Nat} (h : isCo o) : ∀ f, shX ad cA (o + 1) f = .inl (cA 1, (6, .inr (.inr (.inr (.inr (rowR ad 6 (ft o))))))) := by rcases h with h | h <;> subst h <;> intro f <;> rfl
theorem shX_ft {o : Nat} (h : isFt o) : ∀ f, shX ad cA o f = .inr (2, fl2 f) := by rcases h with h | h | h | h | h | h | h | h | h | h | h | h <;> subst h <;> intro f <;> rfl
theorem shX_sh {o : Nat} (h : isSh o) : ∀ f, shX ad cA o f = .inr (5, fl5 ad o f) := by rcases h with h | h | h | h <;> subst h <;> intro f <;> rfl
theorem shX_ce {o : Nat} (h : isSh o) : ∀ f, shX ad cA (o + 1) f = .inl (cA 0, (60, .inl f)) := by rcases h with h | h | h | h <;> subst h <;> intro f <;> rfl
end
def flM (ad : Nat → Nat) (f : Nat → Int32) : List Value := [.int (f 0), .int (f 1), .int (f 2), .int (f 3), .int (f 4), .ref (ad 1), .ref (ad 2), .ref (ad 3), .ref (ad 4), .ref (ad 5), .ref (ad 6), .ref (ad 7), .int (f 12), .int (f 13), .int (f 14), .ref (ad 8), .ref (ad 9), .ref (ad 10), .ref (ad 11), .ref (ad 12), .int (f 20), .int (f 21), .ref (ad 13), .int (f 23), .ref (ad 14), .int (f 25), .int (f 26), .ref (ad 15), .ref (ad 16), .ref (ad 17), .int (f 30), .ref (ad 18), .ref (ad 19), .ref (ad 20), .ref (ad 21), .ref (ad 22), .ref (ad 23), .ref (ad 24), .int (f 38)]
def lenM : Nat → Nat := fun o => match o with
  | 1 => 36
  | 2 => 36
  | 3 => 6
  | 4 => 6
  | 5 => 6
  | 6 => 6
  | 7 => 6
  | 8 => 36
  | 9 => 6
  | 10 => 6
  | 11 => 6
  | 12 => 6
  | 13 => 6
  | 14 => 6
  | 15 => 6
  | 16 => 6
  | 17 => 6
  | 18 => 8
  | 19 => 8
  | 20 => 8
  | 21 => 4
  | 22 => 4
  | 23 => 240
  | 24 => 60
  | _ => 0
def shM (ad : Nat → Nat) (cA : Nat → ClassId) (o : Nat) (f : Nat → Int32) : va_E := match o with
  | 0 => .inr (8, flM ad f)
  | _ => .inl (cA 0, (lenM o, .inl f))
section
variable {ad : Nat → Nat} {cA : Nat → ClassId}
theorem shM_o : ∀ f, shM ad cA 0 f = .inr (8, flM ad f) := fun _ => rfl
theorem shM_a1 : ∀ f, shM ad cA 1 f = .inl (cA 0, (36, .inl f)) := fun _ => rfl
theorem shM_a2 : ∀ f, shM ad cA 2 f = .inl (cA 0, (36, .inl f)) := fun _ => rfl
theorem shM_a3 : ∀ f, shM ad cA 3 f = .inl (cA 0, (6, .inl f)) := fun _ => rfl
theorem shM_a4 : ∀ f, shM ad cA 4 f = .inl (cA 0, (6, .inl f)) := fun _ => rfl
theorem shM_a5 : ∀ f, shM ad cA 5 f = .inl (cA 0, (6, .inl f)) := fun _ => rfl
theorem shM_a6 : ∀ f, shM ad cA 6 f = .inl (cA 0, (6, .inl f)) := fun _ => rfl
theorem shM_a7 : ∀ f, shM ad cA 7 f = .inl (cA 0, (6, .inl f)) := fun _ => rfl
theorem shM_a8 : ∀ f, shM ad cA 8 f = .inl (cA 0, (36, .inl f)) := fun _ => rfl
theorem shM_a9 : ∀ f, shM ad cA 9 f = .inl (cA 0, (6, .inl f)) := fun _ => rfl
theorem shM_a10 : ∀ f, shM ad cA 10 f = .inl (cA 0, (6, .inl f)) := fun _ => rfl
theorem shM_a11 : ∀ f, shM ad cA 11 f = .inl (cA 0, (6, .inl f)) := fun _ => rfl
theorem shM_a12 : ∀ f, shM ad cA 12 f = .inl (cA 0, (6, .inl f)) := fun _ => rfl
theorem shM_a13 : ∀ f, shM ad cA 13 f = .inl (cA 0, (6, .inl f)) := fun _ => rfl
theorem shM_a14 : ∀ f, shM ad cA 14 f = .inl (cA 0, (6, .inl f)) := fun _ => rfl
theorem shM_a15 : ∀ f, shM ad cA 15 f = .inl (cA 0, (6, .inl f)) := fun _ => rfl
theorem shM_a16 : ∀ f, shM ad cA 16 f = .inl (cA 0, (6, .inl f)) := fun _ => rfl
theorem shM_a17 : ∀ f, shM ad cA 17 f = .inl (cA 0, (6, .inl f)) := fun _ => rfl
theorem shM_a18 : ∀ f, shM ad cA 18 f = .inl (cA 0, (8, .inl f)) := fun _ => rfl
theorem shM_a19 : ∀ f, shM ad cA 19 f = .inl (cA 0, (8, .inl f)) := fun _ => rfl
theorem shM_a20 : ∀ f, shM ad cA 20 f = .inl (cA 0, (8, .inl f)) := fun _ => rfl
theorem shM_a21 : ∀ f, shM ad cA 21 f = .inl (cA 0, (4, .inl f)) := fun _ => rfl
theorem shM_a22 : ∀ f, shM ad cA 22 f = .inl (cA 0, (4, .inl f)) := fun _ => rfl
theorem shM_a23 : ∀ f, shM ad cA 23 f = .inl (cA 0, (240, .inl f)) := fun _ => rfl
theorem shM_a24 : ∀ f, shM ad cA 24 f = .inl (cA 0, (60, .inl f)) := fun _ => rfl
end
/-! let, and what a call leaves -/
def lm {α β : Type} (x : α) (k : α → β) : β := k x
def bd1 {α β : Type} (d : Option α) (k : α → Option β) : Option β := d.bind k
def bd2 {α β : Type} (d : Option (α × Mem)) (k : α → Mem → Option β) : Option β := d.bind (fun x => k x.1 x.2)
def FU : Nat := 2000
section GL
variable {ρ : Type} {p : Program} {l : Launch} {e : Env} {R : Room} {s : State} {m : MethodId} {args : Array Value} {below : List Frame} {meth : Method} {c : Code} {D : va_G} {cA : Nat → ClassId} {ad : Nat → Nat} {sh : Nat → (Nat → Int32) → va_E} {n nL : Nat} {own : String} {cc : ByteArray} {ws : List Cond} {Q : State → Prop} {R0 : ρ} {M : Mem} {pc : Nat} {lv : List (Nat × Value)} {st : List Value} {d d1 d2 : Option ρ}
theorem g_lmM {k : Mem → Option ρ} (kk : ∀ M1 : Mem, GG p l e R s m args below meth c D ad sh n nL Q R0 M1 pc lv st (k M1)) : GG p l e R s m args below meth c D ad sh n nL Q R0 M pc lv st (lm M k) := kk M
theorem g_lmI {x : Int32} {k : Int32 → Option ρ} (kk : ∀ x1 : Int32, GG p l e R s m args below meth c D ad sh n nL Q R0 M pc lv (.int x1 :: st) (k x1)) : GG p l e R s m args below meth c D ad sh n nL Q R0 M pc lv (.int x :: st) (lm x k) := kk x
theorem g_lmL {x : Int64} {k : Int64 → Option ρ} (kk : ∀ x1 : Int64, GG p l e R s m args below meth c D ad sh n nL Q R0 M pc lv (.long x1 :: st) (k x1)) : GG p l e R s m args below meth c D ad sh n nL Q R0 M pc lv (.long x :: st) (lm x k) := kk x
end GL
theorem sw_4 {x : Int32} (h0 : ¬ x = 0) (h1 : ¬ x = 1) (h2 : ¬ x = 2) (h3 : ¬ x = 3) : x.toInt < 0 ∨ 3 < x.toInt := by
  have e0 : ¬ x.toInt = 0 := fun e => h0 (Int32.toInt_inj.mp (e.trans (by decide)))
  have e1 : ¬ x.toInt = 1 := fun e => h1 (Int32.toInt_inj.mp (e.trans (by decide)))
  have e2 : ¬ x.toInt = 2 := fun e => h2 (Int32.toInt_inj.mp (e.trans (by decide)))
  have e3 : ¬ x.toInt = 3 := fun e => h3 (Int32.toInt_inj.mp (e.trans (by decide)))
  omega
theorem sw_5 {x : Int32} (h0 : ¬ x = 0) (h1 : ¬ x = 1) (h2 : ¬ x = 2) (h3 : ¬ x = 3) (h4 : ¬ x = 4) : x.toInt < 0 ∨ 4 < x.toInt := by
  have e0 : ¬ x.toInt = 0 := fun e => h0 (Int32.toInt_inj.mp (e.trans (by decide)))
  have e1 : ¬ x.toInt = 1 := fun e => h1 (Int32.toInt_inj.mp (e.trans (by decide)))
  have e2 : ¬ x.toInt = 2 := fun e => h2 (Int32.toInt_inj.mp (e.trans (by decide)))
  have e3 : ¬ x.toInt = 3 := fun e => h3 (Int32.toInt_inj.mp (e.trans (by decide)))
  have e4 : ¬ x.toInt = 4 := fun e => h4 (Int32.toInt_inj.mp (e.trans (by decide)))
  omega
theorem sw_8 {x : Int32} (h0 : ¬ x = 0) (h1 : ¬ x = 1) (h2 : ¬ x = 2) (h3 : ¬ x = 3) (h4 : ¬ x = 4) (h5 : ¬ x = 5) (h6 : ¬ x = 6) (h7 : ¬ x = 7) : x.toInt < 0 ∨ 7 < x.toInt := by
  have e0 : ¬ x.toInt = 0 := fun e => h0 (Int32.toInt_inj.mp (e.trans (by decide)))
  have e1 : ¬ x.toInt = 1 := fun e => h1 (Int32.toInt_inj.mp (e.trans (by decide)))
  have e2 : ¬ x.toInt = 2 := fun e => h2 (Int32.toInt_inj.mp (e.trans (by decide)))
  have e3 : ¬ x.toInt = 3 := fun e => h3 (Int32.toInt_inj.mp (e.trans (by decide)))
  have e4 : ¬ x.toInt = 4 := fun e => h4 (Int32.toInt_inj.mp (e.trans (by decide)))
  have e5 : ¬ x.toInt = 5 := fun e => h5 (Int32.toInt_inj.mp (e.trans (by decide)))
  have e6 : ¬ x.toInt = 6 := fun e => h6 (Int32.toInt_inj.mp (e.trans (by decide)))
  have e7 : ¬ x.toInt = 7 := fun e => h7 (Int32.toInt_inj.mp (e.trans (by decide)))
  omega
theorem sw_32 {x : Int32} (h0 : ¬ x = 0) (h1 : ¬ x = 1) (h2 : ¬ x = 2) (h3 : ¬ x = 3) (h4 : ¬ x = 4) (h5 : ¬ x = 5) (h6 : ¬ x = 6) (h7 : ¬ x = 7) (h8 : ¬ x = 8) (h9 : ¬ x = 9) (h10 : ¬ x = 10) (h11 : ¬ x = 11) (h12 : ¬ x = 12) (h13 : ¬ x = 13) (h14 : ¬ x = 14) (h15 : ¬ x = 15) (h16 : ¬ x = 16) (h17 : ¬ x = 17) (h18 : ¬ x = 18) (h19 : ¬ x = 19) (h20 : ¬ x = 20) (h21 : ¬ x = 21) (h22 : ¬ x = 22) (h23 : ¬ x = 23) (h24 : ¬ x = 24) (h25 : ¬ x = 25) (h26 : ¬ x = 26) (h27 : ¬ x = 27) (h28 : ¬ x = 28) (h29 : ¬ x = 29) (h30 : ¬ x = 30) (h31 : ¬ x = 31) : x.toInt < 0 ∨ 31 < x.toInt := by
  have e0 : ¬ x.toInt = 0 := fun e => h0 (Int32.toInt_inj.mp (e.trans (by decide)))
  have e1 : ¬ x.toInt = 1 := fun e => h1 (Int32.toInt_inj.mp (e.trans (by decide)))
  have e2 : ¬ x.toInt = 2 := fun e => h2 (Int32.toInt_inj.mp (e.trans (by decide)))
  have e3 : ¬ x.toInt = 3 := fun e => h3 (Int32.toInt_inj.mp (e.trans (by decide)))
  have e4 : ¬ x.toInt = 4 := fun e => h4 (Int32.toInt_inj.mp (e.trans (by decide)))
  have e5 : ¬ x.toInt = 5 := fun e => h5 (Int32.toInt_inj.mp (e.trans (by decide)))
  have e6 : ¬ x.toInt = 6 := fun e => h6 (Int32.toInt_inj.mp (e.trans (by decide)))
  have e7 : ¬ x.toInt = 7 := fun e => h7 (Int32.toInt_inj.mp (e.trans (by decide)))
  have e8 : ¬ x.toInt = 8 := fun e => h8 (Int32.toInt_inj.mp (e.trans (by decide)))
  have e9 : ¬ x.toInt = 9 := fun e => h9 (Int32.toInt_inj.mp (e.trans (by decide)))
  have e10 : ¬ x.toInt = 10 := fun e => h10 (Int32.toInt_inj.mp (e.trans (by decide)))
  have e11 : ¬ x.toInt = 11 := fun e => h11 (Int32.toInt_inj.mp (e.trans (by decide)))
  have e12 : ¬ x.toInt = 12 := fun e => h12 (Int32.toInt_inj.mp (e.trans (by decide)))
  have e13 : ¬ x.toInt = 13 := fun e => h13 (Int32.toInt_inj.mp (e.trans (by decide)))
  have e14 : ¬ x.toInt = 14 := fun e => h14 (Int32.toInt_inj.mp (e.trans (by decide)))
  have e15 : ¬ x.toInt = 15 := fun e => h15 (Int32.toInt_inj.mp (e.trans (by decide)))
  have e16 : ¬ x.toInt = 16 := fun e => h16 (Int32.toInt_inj.mp (e.trans (by decide)))
  have e17 : ¬ x.toInt = 17 := fun e => h17 (Int32.toInt_inj.mp (e.trans (by decide)))
  have e18 : ¬ x.toInt = 18 := fun e => h18 (Int32.toInt_inj.mp (e.trans (by decide)))
  have e19 : ¬ x.toInt = 19 := fun e => h19 (Int32.toInt_inj.mp (e.trans (by decide)))
  have e20 : ¬ x.toInt = 20 := fun e => h20 (Int32.toInt_inj.mp (e.trans (by decide)))
  have e21 : ¬ x.toInt = 21 := fun e => h21 (Int32.toInt_inj.mp (e.trans (by decide)))
  have e22 : ¬ x.toInt = 22 := fun e => h22 (Int32.toInt_inj.mp (e.trans (by decide)))
  have e23 : ¬ x.toInt = 23 := fun e => h23 (Int32.toInt_inj.mp (e.trans (by decide)))
  have e24 : ¬ x.toInt = 24 := fun e => h24 (Int32.toInt_inj.mp (e.trans (by decide)))
  have e25 : ¬ x.toInt = 25 := fun e => h25 (Int32.toInt_inj.mp (e.trans (by decide)))
  have e26 : ¬ x.toInt = 26 := fun e => h26 (Int32.toInt_inj.mp (e.trans (by decide)))
  have e27 : ¬ x.toInt = 27 := fun e => h27 (Int32.toInt_inj.mp (e.trans (by decide)))
  have e28 : ¬ x.toInt = 28 := fun e => h28 (Int32.toInt_inj.mp (e.trans (by decide)))
  have e29 : ¬ x.toInt = 29 := fun e => h29 (Int32.toInt_inj.mp (e.trans (by decide)))
  have e30 : ¬ x.toInt = 30 := fun e => h30 (Int32.toInt_inj.mp (e.trans (by decide)))
  have e31 : ¬ x.toInt = 31 := fun e => h31 (Int32.toInt_inj.mp (e.trans (by decide)))
  omega
theorem lk_no {x v : Int32} (h : ¬ x = v) {k : Int} (hk : v.toInt = k) {o r : Int} {l : List (Int × Int)} (ht : Op.lookupswitch.offset l r x.toInt = r) : Op.lookupswitch.offset ((k, o) :: l) r x.toInt = r := by
  rw [Op.lookupswitch.offset_cons, if_neg (fun e => h (Int32.toInt_inj.mp (e.symm.trans hk.symm)))]
  exact ht
theorem in_X8_init_X8 : ∀ w ∈ wsX80, w ∈ wsX8_init := fun _ h => List.mem_cons_of_mem _ (List.mem_append_left _ (List.mem_append_left _ (List.mem_append_left _ (List.mem_append_left _ (List.mem_append_left _ (List.mem_append_left _ (List.mem_append_left _ (List.mem_append_right _ h))))))))
theorem in_X8_init_X6 : ∀ w ∈ wsX60, w ∈ wsX8_init := fun _ h => List.mem_cons_of_mem _ (List.mem_append_left _ (List.mem_append_left _ (List.mem_append_left _ (List.mem_append_left _ (List.mem_append_left _ (List.mem_append_left _ (List.mem_append_right _ h)))))))
theorem in_X8_init_X0 : ∀ w ∈ wsX00, w ∈ wsX8_init := fun _ h => List.mem_cons_of_mem _ (List.mem_append_left _ (List.mem_append_left _ (List.mem_append_left _ (List.mem_append_left _ (List.mem_append_left _ (List.mem_append_right _ h))))))
theorem in_X8_init_X4 : ∀ w ∈ wsX40, w ∈ wsX8_init := fun _ h => List.mem_cons_of_mem _ (List.mem_append_left _ (List.mem_append_left _ (List.mem_append_left _ (List.mem_append_left _ (List.mem_append_right _ h)))))
theorem in_X8_init_X1 : ∀ w ∈ wsX10, w ∈ wsX8_init := fun _ h => List.mem_cons_of_mem _ (List.mem_append_left _ (List.mem_append_left _ (List.mem_append_left _ (List.mem_append_right _ h))))
theorem in_X8_init_X3 : ∀ w ∈ wsX30, w ∈ wsX8_init := fun _ h => List.mem_cons_of_mem _ (List.mem_append_left _ (List.mem_append_left _ (List.mem_append_right _ h)))
theorem in_X8_init_X5 : ∀ w ∈ wsX50, w ∈ wsX8_init := fun _ h => List.mem_cons_of_mem _ (List.mem_append_left _ (List.mem_append_right _ h))
theorem in_X8_init_X2 : ∀ w ∈ wsX20, w ∈ wsX8_init := fun _ h => List.mem_cons_of_mem _ (List.mem_append_right _ h)
theorem in_X8_town_X8 : ∀ w ∈ wsX80, w ∈ wsX8_town := fun _ h => List.mem_cons_of_mem _ (List.mem_append_left _ (List.mem_append_left _ (List.mem_append_left _ (List.mem_append_left _ (List.mem_append_left _ (List.mem_append_right _ h))))))
theorem in_X8_town_X3 : ∀ w ∈ wsX30, w ∈ wsX8_town := fun _ h => List.mem_cons_of_mem _ (List.mem_append_left _ (List.mem_append_left _ (List.mem_append_left _ (List.mem_append_left _ (List.mem_append_right _ h)))))
theorem in_X8_town_X0 : ∀ w ∈ wsX00, w ∈ wsX8_town := fun _ h => List.mem_cons_of_mem _ (List.mem_append_left _ (List.mem_append_left _ (List.mem_append_left _ (List.mem_append_right _ h))))
theorem in_X8_town_X5 : ∀ w ∈ wsX50, w ∈ wsX8_town := fun _ h => List.mem_cons_of_mem _ (List.mem_append_left _ (List.mem_append_left _ (List.mem_append_right _ h)))
theorem in_X8_town_X6 : ∀ w ∈ wsX60, w ∈ wsX8_town := fun _ h => List.mem_cons_of_mem _ (List.mem_append_left _ (List.mem_append_right _ h))
theorem in_X8_town_X2 : ∀ w ∈ wsX20, w ∈ wsX8_town := fun _ h => List.mem_cons_of_mem _ (List.mem_append_right _ h)
theorem in_X8_ofFootman_X8 : ∀ w ∈ wsX80, w ∈ wsX8_ofFootman := fun _ h => List.mem_cons_of_mem _ (List.mem_append_left _ (List.mem_append_left _ (List.mem_append_left _ (List.mem_append_right _ h))))
theorem in_X8_ofFootman_X0 : ∀ w ∈ wsX00, w ∈ wsX8_ofFootman := fun _ h => List.mem_cons_of_mem _ (List.mem_append_left _ (List.mem_append_left _ (List.mem_append_right _ h)))
theorem in_X8_ofFootman_X2 : ∀ w ∈ wsX20, w ∈ wsX8_ofFootman := fun _ h => List.mem_cons_of_mem _ (List.mem_append_left _ (List.mem_append_right _ h))
theorem in_X8_ofFootman_X6 : ∀ w ∈ wsX60, w ∈ wsX8_ofFootman := fun _ h => List.mem_cons_of_mem _ (List.mem_append_right _ h)
theorem in_X8_street_X8 : ∀ w ∈ wsX80, w ∈ wsX8_street := fun _ h => List.mem_cons_of_mem _ (List.mem_append_left _ (List.mem_append_right _ h))
theorem in_X8_street_X6 : ∀ w ∈ wsX60, w ∈ wsX8_street := fun _ h => List.mem_cons_of_mem _ (List.mem_append_right _ h)
theorem in_X8_pave_X8 : ∀ w ∈ wsX80, w ∈ wsX8_pave := fun _ h => List.mem_cons_of_mem _ (List.mem_append_left _ (List.mem_append_right _ h))
theorem in_X8_pave_X6 : ∀ w ∈ wsX60, w ∈ wsX8_pave := fun _ h => List.mem_cons_of_mem _ (List.mem_append_right _ h)
theorem in_X8_far_X8 : ∀ w ∈ wsX80, w ∈ wsX8_far := fun _ h => List.mem_cons_of_mem _ (List.mem_append_left _ (List.mem_append_right _ h))
theorem in_X8_far_X6 : ∀ w ∈ wsX60, w ∈ wsX8_far := fun _ h => List.mem_cons_of_mem _ (List.mem_append_right _ h)
theorem in_X8_days_X8 : ∀ w ∈ wsX80, w ∈ wsX8_days := fun _ h => List.mem_cons_of_mem _ (List.mem_append_left _ (List.mem_append_left _ (List.mem_append_left _ (List.mem_append_right _ h))))
theorem in_X8_days_X6 : ∀ w ∈ wsX60, w ∈ wsX8_days := fun _ h => List.mem_cons_of_mem _ (List.mem_append_left _ (List.mem_append_left _ (List.mem_append_right _ h)))
theorem in_X8_days_X0 : ∀ w ∈ wsX00, w ∈ wsX8_days := fun _ h => List.mem_cons_of_mem _ (List.mem_append_left _ (List.mem_append_right _ h))
theorem in_X8_days_X2 : ∀ w ∈ wsX20, w ∈ wsX8_days := fun _ h => List.mem_cons_of_mem _ (List.mem_append_right _ h)
theorem in_X8_sit_X8 : ∀ w ∈ wsX80, w ∈ wsX8_sit := fun _ h => List.mem_cons_of_mem _ (List.mem_append_left _ (List.mem_append_left _ (List.mem_append_right _ h)))
theorem in_X8_sit_X0 : ∀ w ∈ wsX00, w ∈ wsX8_sit := fun _ h => List.mem_cons_of_mem _ (List.mem_append_left _ (List.mem_append_right _ h))
theorem in_X8_sit_X2 : ∀ w ∈ wsX20, w ∈ wsX8_sit := fun _ h => List.mem_cons_of_mem _ (List.mem_append_right _ h)
theorem in_X8_rise_X8 : ∀ w ∈ wsX80, w ∈ wsX8_rise := fun _ h => List.mem_cons_of_mem _ (List.mem_append_left _ (List.mem_append_left _ (List.mem_append_right _ h)))
theorem in_X8_rise_X0 : ∀ w ∈ wsX00, w ∈ wsX8_rise := fun _ h => List.mem_cons_of_mem _ (List.mem_append_left _ (List.mem_append_right _ h))
theorem in_X8_rise_X2 : ∀ w ∈ wsX20, w ∈ wsX8_rise := fun _ h => List.mem_cons_of_mem _ (List.mem_append_right _ h)
theorem in_X8_give_X8 : ∀ w ∈ wsX80, w ∈ wsX8_give := fun _ h => List.mem_cons_of_mem _ (List.mem_append_left _ (List.mem_append_left _ (List.mem_append_left _ (List.mem_append_right _ h))))
theorem in_X8_give_X0 : ∀ w ∈ wsX00, w ∈ wsX8_give := fun _ h => List.mem_cons_of_mem _ (List.mem_append_left _ (List.mem_append_left _ (List.mem_append_right _ h)))
theorem in_X8_give_X6 : ∀ w ∈ wsX60, w ∈ wsX8_give := fun _ h => List.mem_cons_of_mem _ (List.mem_append_left _ (List.mem_append_right _ h))
theorem in_X8_give_X2 : ∀ w ∈ wsX20, w ∈ wsX8_give := fun _ h => List.mem_cons_of_mem _ (List.mem_append_right _ h)
theorem in_X8_season_X8 : ∀ w ∈ wsX80, w ∈ wsX8_season := fun _ h => List.mem_cons_of_mem _ (List.mem_append_left _ (List.mem_append_left _ (List.mem_append_left _ (List.mem_append_left _ (List.mem_append_left _ (List.mem_append_right _ h))))))
theorem in_X8_season_X6 : ∀ w ∈ wsX60, w ∈ wsX8_season := fun _ h => List.mem_cons_of_mem _ (List.mem_append_left _ (List.mem_append_left _ (List.mem_append_left _ (List.mem_append_left _ (List.mem_append_right _ h)))))
theorem in_X8_season_X5 : ∀ w ∈ wsX50, w ∈ wsX8_season := fun _ h => List.mem_cons_of_mem _ (List.mem_append_left _ (List.mem_append_left _ (List.mem_append_left _ (List.mem_append_right _ h))))
theorem in_X8_season_X0 : ∀ w ∈ wsX00, w ∈ wsX8_season := fun _ h => List.mem_cons_of_mem _ (List.mem_append_left _ (List.mem_append_left _ (List.mem_append_right _ h)))
theorem in_X8_season_X4 : ∀ w ∈ wsX40, w ∈ wsX8_season := fun _ h => List.mem_cons_of_mem _ (List.mem_append_left _ (List.mem_append_right _ h))
theorem in_X8_season_X2 : ∀ w ∈ wsX20, w ∈ wsX8_season := fun _ h => List.mem_cons_of_mem _ (List.mem_append_right _ h)
theorem in_X8_way_X8 : ∀ w ∈ wsX80, w ∈ wsX8_way := fun _ h => List.mem_cons_of_mem _ (List.mem_append_left _ (List.mem_append_right _ h))
theorem in_X8_way_X6 : ∀ w ∈ wsX60, w ∈ wsX8_way := fun _ h => List.mem_cons_of_mem _ (List.mem_append_right _ h)
theorem in_X8_round_X8 : ∀ w ∈ wsX80, w ∈ wsX8_round := fun _ h => List.mem_cons_of_mem _ (List.mem_append_left _ (List.mem_append_left _ (List.mem_append_left _ (List.mem_append_right _ h))))
theorem in_X8_round_X0 : ∀ w ∈ wsX00, w ∈ wsX8_round := fun _ h => List.mem_cons_of_mem _ (List.mem_append_left _ (List.mem_append_left _ (List.mem_append_right _ h)))
theorem in_X8_round_X2 : ∀ w ∈ wsX20, w ∈ wsX8_round := fun _ h => List.mem_cons_of_mem _ (List.mem_append_left _ (List.mem_append_right _ h))
theorem in_X8_round_X6 : ∀ w ∈ wsX60, w ∈ wsX8_round := fun _ h => List.mem_cons_of_mem _ (List.mem_append_right _ h)
theorem in_X8_kept_X8 : ∀ w ∈ wsX80, w ∈ wsX8_kept := fun _ h => List.mem_cons_of_mem _ (List.mem_append_left _ (List.mem_append_left _ (List.mem_append_left _ (List.mem_append_right _ h))))
theorem in_X8_kept_X0 : ∀ w ∈ wsX00, w ∈ wsX8_kept := fun _ h => List.mem_cons_of_mem _ (List.mem_append_left _ (List.mem_append_left _ (List.mem_append_right _ h)))
theorem in_X8_kept_X2 : ∀ w ∈ wsX20, w ∈ wsX8_kept := fun _ h => List.mem_cons_of_mem _ (List.mem_append_left _ (List.mem_append_right _ h))
theorem in_X8_kept_X6 : ∀ w ∈ wsX60, w ∈ wsX8_kept := fun _ h => List.mem_cons_of_mem _ (List.mem_append_right _ h)
theorem in_X8_middle_X8 : ∀ w ∈ wsX80, w ∈ wsX8_middle := fun _ h => List.mem_cons_of_mem _ (List.mem_append_left _ (List.mem_append_right _ h))
theorem in_X8_middle_X6 : ∀ w ∈ wsX60, w ∈ wsX8_middle := fun _ h => List.mem_cons_of_mem _ (List.mem_append_right _ h)
theorem in_X8_tree_X8 : ∀ w ∈ wsX80, w ∈ wsX8_tree := fun _ h => List.mem_cons_of_mem _ (List.mem_append_left _ (List.mem_append_right _ h))
theorem in_X8_tree_X6 : ∀ w ∈ wsX60, w ∈ wsX8_tree := fun _ h => List.mem_cons_of_mem _ (List.mem_append_right _ h)
theorem in_X8_errands_X8 : ∀ w ∈ wsX80, w ∈ wsX8_errands := fun _ h => List.mem_cons_of_mem _ (List.mem_append_left _ (List.mem_append_left _ (List.mem_append_left _ (List.mem_append_left _ (List.mem_append_right _ h)))))
theorem in_X8_errands_X6 : ∀ w ∈ wsX60, w ∈ wsX8_errands := fun _ h => List.mem_cons_of_mem _ (List.mem_append_left _ (List.mem_append_left _ (List.mem_append_left _ (List.mem_append_right _ h))))
theorem in_X8_errands_X0 : ∀ w ∈ wsX00, w ∈ wsX8_errands := fun _ h => List.mem_cons_of_mem _ (List.mem_append_left _ (List.mem_append_left _ (List.mem_append_right _ h)))
theorem in_X8_errands_X1 : ∀ w ∈ wsX10, w ∈ wsX8_errands := fun _ h => List.mem_cons_of_mem _ (List.mem_append_left _ (List.mem_append_right _ h))
theorem in_X8_errands_X2 : ∀ w ∈ wsX20, w ∈ wsX8_errands := fun _ h => List.mem_cons_of_mem _ (List.mem_append_right _ h)
theorem in_X8_reading_X8 : ∀ w ∈ wsX80, w ∈ wsX8_reading := fun _ h => List.mem_cons_of_mem _ (List.mem_append_left _ (List.mem_append_left _ (List.mem_append_right _ h)))
theorem in_X8_reading_X3 : ∀ w ∈ wsX30, w ∈ wsX8_reading := fun _ h => List.mem_cons_of_mem _ (List.mem_append_left _ (List.mem_append_right _ h))
theorem in_X8_reading_X0 : ∀ w ∈ wsX00, w ∈ wsX8_reading := fun _ h => List.mem_cons_of_mem _ (List.mem_append_right _ h)
theorem in_X8_back_X8 : ∀ w ∈ wsX80, w ∈ wsX8_back := fun _ h => List.mem_cons_of_mem _ (List.mem_append_left _ (List.mem_append_right _ h))
theorem in_X8_back_X3 : ∀ w ∈ wsX30, w ∈ wsX8_back := fun _ h => List.mem_cons_of_mem _ (List.mem_append_right _ h)
theorem in_X8_calves_X8 : ∀ w ∈ wsX80, w ∈ wsX8_calves := fun _ h => List.mem_cons_of_mem _ (List.mem_append_left _ (List.mem_append_left _ (List.mem_append_left _ (List.mem_append_right _ h))))
theorem in_X8_calves_X0 : ∀ w ∈ wsX00, w ∈ wsX8_calves := fun _ h => List.mem_cons_of_mem _ (List.mem_append_left _ (List.mem_append_left _ (List.mem_append_right _ h)))
theorem in_X8_calves_X2 : ∀ w ∈ wsX20, w ∈ wsX8_calves := fun _ h => List.mem_cons_of_mem _ (List.mem_append_left _ (List.mem_append_right _ h))
theorem in_X8_calves_X3 : ∀ w ∈ wsX30, w ∈ wsX8_calves := fun _ h => List.mem_cons_of_mem _ (List.mem_append_right _ h)
theorem in_X8_kinds_X8 : ∀ w ∈ wsX80, w ∈ wsX8_kinds := fun _ h => List.mem_cons_of_mem _ (List.mem_append_left _ (List.mem_append_left _ (List.mem_append_left _ (List.mem_append_right _ h))))
theorem in_X8_kinds_X0 : ∀ w ∈ wsX00, w ∈ wsX8_kinds := fun _ h => List.mem_cons_of_mem _ (List.mem_append_left _ (List.mem_append_left _ (List.mem_append_right _ h)))
theorem in_X8_kinds_X2 : ∀ w ∈ wsX20, w ∈ wsX8_kinds := fun _ h => List.mem_cons_of_mem _ (List.mem_append_left _ (List.mem_append_right _ h))
theorem in_X8_kinds_X3 : ∀ w ∈ wsX30, w ∈ wsX8_kinds := fun _ h => List.mem_cons_of_mem _ (List.mem_append_right _ h)
theorem in_X8_odds_X8 : ∀ w ∈ wsX80, w ∈ wsX8_odds := fun _ h => List.mem_cons_of_mem _ (List.mem_append_left _ (List.mem_append_left _ (List.mem_append_left _ (List.mem_append_right _ h))))
theorem in_X8_odds_X0 : ∀ w ∈ wsX00, w ∈ wsX8_odds := fun _ h => List.mem_cons_of_mem _ (List.mem_append_left _ (List.mem_append_left _ (List.mem_append_right _ h)))
theorem in_X8_odds_X6 : ∀ w ∈ wsX60, w ∈ wsX8_odds := fun _ h => List.mem_cons_of_mem _ (List.mem_append_left _ (List.mem_append_right _ h))
theorem in_X8_odds_X2 : ∀ w ∈ wsX20, w ∈ wsX8_odds := fun _ h => List.mem_cons_of_mem _ (List.mem_append_right _ h)
theorem in_X8_sheet_X8 : ∀ w ∈ wsX80, w ∈ wsX8_sheet := fun _ h => List.mem_cons_of_mem _ (List.mem_append_left _ (List.mem_append_right _ h))
theorem in_X8_sheet_X5 : ∀ w ∈ wsX50, w ∈ wsX8_sheet := fun _ h => List.mem_cons_of_mem _ (List.mem_append_right _ h)
theorem in_X8_lose_X8 : ∀ w ∈ wsX80, w ∈ wsX8_lose := fun _ h => List.mem_cons_of_mem _ (List.mem_append_left _ (List.mem_append_right _ h))
theorem in_X8_lose_X5 : ∀ w ∈ wsX50, w ∈ wsX8_lose := fun _ h => List.mem_cons_of_mem _ (List.mem_append_right _ h)
theorem in_X8_put_X8 : ∀ w ∈ wsX80, w ∈ wsX8_put := fun _ h => List.mem_cons_of_mem _ (List.mem_append_left _ (List.mem_append_right _ h))
theorem in_X8_put_X5 : ∀ w ∈ wsX50, w ∈ wsX8_put := fun _ h => List.mem_cons_of_mem _ (List.mem_append_right _ h)
theorem in_X8_cell_X8 : ∀ w ∈ wsX80, w ∈ wsX8_cell := fun _ h => List.mem_cons_of_mem _ (List.mem_append_left _ (List.mem_append_right _ h))
theorem in_X8_cell_X5 : ∀ w ∈ wsX50, w ∈ wsX8_cell := fun _ h => List.mem_cons_of_mem _ (List.mem_append_right _ h)
theorem in_X8_copy_X8 : ∀ w ∈ wsX80, w ∈ wsX8_copy := fun _ h => List.mem_cons_of_mem _ (List.mem_append_left _ (List.mem_append_right _ h))
theorem in_X8_copy_X5 : ∀ w ∈ wsX50, w ∈ wsX8_copy := fun _ h => List.mem_cons_of_mem _ (List.mem_append_right _ h)
theorem in_X8_tell_X8 : ∀ w ∈ wsX80, w ∈ wsX8_tell := fun _ h => List.mem_cons_of_mem _ (List.mem_append_left _ (List.mem_append_left _ (List.mem_append_right _ h)))
theorem in_X8_tell_X0 : ∀ w ∈ wsX00, w ∈ wsX8_tell := fun _ h => List.mem_cons_of_mem _ (List.mem_append_left _ (List.mem_append_right _ h))
theorem in_X8_tell_X2 : ∀ w ∈ wsX20, w ∈ wsX8_tell := fun _ h => List.mem_cons_of_mem _ (List.mem_append_right _ h)
theorem in_X8_ring_X8 : ∀ w ∈ wsX80, w ∈ wsX8_ring := fun _ h => List.mem_cons_of_mem _ (List.mem_append_left _ (List.mem_append_left _ (List.mem_append_right _ h)))
theorem in_X8_ring_X0 : ∀ w ∈ wsX00, w ∈ wsX8_ring := fun _ h => List.mem_cons_of_mem _ (List.mem_append_left _ (List.mem_append_right _ h))
theorem in_X8_ring_X2 : ∀ w ∈ wsX20, w ∈ wsX8_ring := fun _ h => List.mem_cons_of_mem _ (List.mem_append_right _ h)
theorem in_X8_as_X8 : ∀ w ∈ wsX80, w ∈ wsX8_as := fun _ h => List.mem_cons_of_mem _ (List.mem_append_left _ (List.mem_append_left _ (List.mem_append_right _ h)))
theorem in_X8_as_X0 : ∀ w ∈ wsX00, w ∈ wsX8_as := fun _ h => List.mem_cons_of_mem _ (List.mem_append_left _ (List.mem_append_right _ h))
theorem in_X8_as_X2 : ∀ w ∈ wsX20, w ∈ wsX8_as := fun _ h => List.mem_cons_of_mem _ (List.mem_append_right _ h)
theorem in_X8_trace_X8 : ∀ w ∈ wsX80, w ∈ wsX8_trace := fun _ h => List.mem_cons_of_mem _ (List.mem_append_right _ h)
theorem in_X8_fault_X8 : ∀ w ∈ wsX80, w ∈ wsX8_fault := fun _ h => List.mem_cons_of_mem _ (List.mem_append_right _ h)
theorem in_X8_many_X8 : ∀ w ∈ wsX80, w ∈ wsX8_many := fun _ h => List.mem_cons_of_mem _ (List.mem_append_left _ (List.mem_append_left _ (List.mem_append_left _ (List.mem_append_left _ (List.mem_append_right _ h)))))
theorem in_X8_many_X0 : ∀ w ∈ wsX00, w ∈ wsX8_many := fun _ h => List.mem_cons_of_mem _ (List.mem_append_left _ (List.mem_append_left _ (List.mem_append_left _ (List.mem_append_right _ h))))
theorem in_X8_many_X6 : ∀ w ∈ wsX60, w ∈ wsX8_many := fun _ h => List.mem_cons_of_mem _ (List.mem_append_left _ (List.mem_append_left _ (List.mem_append_right _ h)))
theorem in_X8_many_X3 : ∀ w ∈ wsX30, w ∈ wsX8_many := fun _ h => List.mem_cons_of_mem _ (List.mem_append_left _ (List.mem_append_right _ h))
theorem in_X8_many_X2 : ∀ w ∈ wsX20, w ∈ wsX8_many := fun _ h => List.mem_cons_of_mem _ (List.mem_append_right _ h)
theorem in_X8_hasTown_X8 : ∀ w ∈ wsX80, w ∈ wsX8_hasTown := fun _ h => List.mem_cons_of_mem _ (List.mem_append_left _ (List.mem_append_right _ h))
theorem in_X8_hasTown_X6 : ∀ w ∈ wsX60, w ∈ wsX8_hasTown := fun _ h => List.mem_cons_of_mem _ (List.mem_append_right _ h)
theorem in_X8_faulted_X8 : ∀ w ∈ wsX80, w ∈ wsX8_faulted := fun _ h => List.mem_cons_of_mem _ (List.mem_append_right _ h)
theorem in_X8_leave_X8 : ∀ w ∈ wsX80, w ∈ wsX8_leave := fun _ h => List.mem_cons_of_mem _ (List.mem_append_right _ h)
theorem in_X8_tellBoy_X2 : ∀ w ∈ wsX20, w ∈ wsX8_tellBoy := fun _ h => List.mem_cons_of_mem _ (List.mem_append_left _ (List.mem_append_right _ h))
theorem in_X8_tellBoy_X8 : ∀ w ∈ wsX80, w ∈ wsX8_tellBoy := fun _ h => List.mem_cons_of_mem _ (List.mem_append_right _ h)
theorem in_X8_tellMan_X8 : ∀ w ∈ wsX80, w ∈ wsX8_tellMan := fun _ h => List.mem_cons_of_mem _ (List.mem_append_left _ (List.mem_append_right _ h))
theorem in_X8_tellMan_X2 : ∀ w ∈ wsX20, w ∈ wsX8_tellMan := fun _ h => List.mem_cons_of_mem _ (List.mem_append_right _ h)
theorem in_X8_tellPair_X8 : ∀ w ∈ wsX80, w ∈ wsX8_tellPair := fun _ h => List.mem_cons_of_mem _ (List.mem_append_left _ (List.mem_append_right _ h))
theorem in_X8_tellPair_X2 : ∀ w ∈ wsX20, w ∈ wsX8_tellPair := fun _ h => List.mem_cons_of_mem _ (List.mem_append_right _ h)
theorem in_X9_init_X9 : ∀ w ∈ wsX90, w ∈ wsX9_init := fun _ h => List.mem_cons_of_mem _ (List.mem_append_right _ h)
theorem in_X9_refused_X9 : ∀ w ∈ wsX90, w ∈ wsX9_refused := fun _ h => List.mem_cons_of_mem _ (List.mem_append_right _ h)
theorem in_X9_failed_X9 : ∀ w ∈ wsX90, w ∈ wsX9_failed := fun _ h => List.mem_cons_of_mem _ (List.mem_append_right _ h)
theorem in_X9_failedLong_X9 : ∀ w ∈ wsX90, w ∈ wsX9_failedLong := fun _ h => List.mem_cons_of_mem _ (List.mem_append_right _ h)
theorem in_X9_noFootman_X9 : ∀ w ∈ wsX90, w ∈ wsX9_noFootman := fun _ h => List.mem_cons_of_mem _ (List.mem_append_right _ h)
theorem in_X9_noCorner_X9 : ∀ w ∈ wsX90, w ∈ wsX9_noCorner := fun _ h => List.mem_cons_of_mem _ (List.mem_append_right _ h)
theorem in_X9_codeAt_X9 : ∀ w ∈ wsX90, w ∈ wsX9_codeAt := fun _ h => List.mem_cons_of_mem _ (List.mem_append_right _ h)
theorem in_X9_figure_X9 : ∀ w ∈ wsX90, w ∈ wsX9_figure := fun _ h => List.mem_cons_of_mem _ (List.mem_append_right _ h)
theorem in_X9_readsStreets_X9 : ∀ w ∈ wsX90, w ∈ wsX9_readsStreets := fun _ h => List.mem_cons_of_mem _ (List.mem_append_right _ h)
theorem in_X9_readsFootman_X9 : ∀ w ∈ wsX90, w ∈ wsX9_readsFootman := fun _ h => List.mem_cons_of_mem _ (List.mem_append_right _ h)
theorem in_X9_readsTown_X9 : ∀ w ∈ wsX90, w ∈ wsX9_readsTown := fun _ h => List.mem_cons_of_mem _ (List.mem_append_right _ h)
theorem in_X9_cellsBarred_X9 : ∀ w ∈ wsX90, w ∈ wsX9_cellsBarred := fun _ h => List.mem_cons_of_mem _ (List.mem_append_right _ h)
theorem in_X9_town_X9 : ∀ w ∈ wsX90, w ∈ wsX9_town := fun _ h => List.mem_cons_of_mem _ (List.mem_append_right _ h)
theorem in_X9_measures_X9 : ∀ w ∈ wsX90, w ∈ wsX9_measures := fun _ h => List.mem_cons_of_mem _ (List.mem_append_right _ h)
theorem in_X9_farFrom_X9 : ∀ w ∈ wsX90, w ∈ wsX9_farFrom := fun _ h => List.mem_cons_of_mem _ (List.mem_append_right _ h)
theorem in_X9_paceOf_X9 : ∀ w ∈ wsX90, w ∈ wsX9_paceOf := fun _ h => List.mem_cons_of_mem _ (List.mem_append_right _ h)
theorem in_X9_hasArrived_X9 : ∀ w ∈ wsX90, w ∈ wsX9_hasArrived := fun _ h => List.mem_cons_of_mem _ (List.mem_append_right _ h)
theorem in_X9_ofFootman_X9 : ∀ w ∈ wsX90, w ∈ wsX9_ofFootman := fun _ h => List.mem_cons_of_mem _ (List.mem_append_right _ h)
theorem in_X9_street_X9 : ∀ w ∈ wsX90, w ∈ wsX9_street := fun _ h => List.mem_cons_of_mem _ (List.mem_append_right _ h)
theorem in_X9_pave_X9 : ∀ w ∈ wsX90, w ∈ wsX9_pave := fun _ h => List.mem_cons_of_mem _ (List.mem_append_right _ h)
theorem in_X9_far_X9 : ∀ w ∈ wsX90, w ∈ wsX9_far := fun _ h => List.mem_cons_of_mem _ (List.mem_append_right _ h)
theorem in_X9_arrived_X9 : ∀ w ∈ wsX90, w ∈ wsX9_arrived := fun _ h => List.mem_cons_of_mem _ (List.mem_append_right _ h)
theorem in_X9_passes_X9 : ∀ w ∈ wsX90, w ∈ wsX9_passes := fun _ h => List.mem_cons_of_mem _ (List.mem_append_right _ h)
theorem in_X9_days_X9 : ∀ w ∈ wsX90, w ∈ wsX9_days := fun _ h => List.mem_cons_of_mem _ (List.mem_append_right _ h)
theorem in_X9_sat_X9 : ∀ w ∈ wsX90, w ∈ wsX9_sat := fun _ h => List.mem_cons_of_mem _ (List.mem_append_right _ h)
theorem in_X9_rose_X9 : ∀ w ∈ wsX90, w ∈ wsX9_rose := fun _ h => List.mem_cons_of_mem _ (List.mem_append_right _ h)
theorem in_X9_sit_X9 : ∀ w ∈ wsX90, w ∈ wsX9_sit := fun _ h => List.mem_cons_of_mem _ (List.mem_append_right _ h)
theorem in_X9_rise_X9 : ∀ w ∈ wsX90, w ∈ wsX9_rise := fun _ h => List.mem_cons_of_mem _ (List.mem_append_right _ h)
theorem in_X9_give_X9 : ∀ w ∈ wsX90, w ∈ wsX9_give := fun _ h => List.mem_cons_of_mem _ (List.mem_append_right _ h)
theorem in_X9_keepAll_X9 : ∀ w ∈ wsX90, w ∈ wsX9_keepAll := fun _ h => List.mem_cons_of_mem _ (List.mem_append_right _ h)
theorem in_X9_bringBack_X9 : ∀ w ∈ wsX90, w ∈ wsX9_bringBack := fun _ h => List.mem_cons_of_mem _ (List.mem_append_right _ h)
theorem in_X9_pairsBarred_X9 : ∀ w ∈ wsX90, w ∈ wsX9_pairsBarred := fun _ h => List.mem_cons_of_mem _ (List.mem_append_right _ h)
theorem in_X9_looksAround_X9 : ∀ w ∈ wsX90, w ∈ wsX9_looksAround := fun _ h => List.mem_cons_of_mem _ (List.mem_append_right _ h)
theorem in_X9_did_X9 : ∀ w ∈ wsX90, w ∈ wsX9_did := fun _ h => List.mem_cons_of_mem _ (List.mem_append_right _ h)
theorem in_X9_seasonBy_X9 : ∀ w ∈ wsX90, w ∈ wsX9_seasonBy := fun _ h => List.mem_cons_of_mem _ (List.mem_append_right _ h)
theorem in_X9_season_X9 : ∀ w ∈ wsX90, w ∈ wsX9_season := fun _ h => List.mem_cons_of_mem _ (List.mem_append_right _ h)
theorem in_X9_nextTo_X9 : ∀ w ∈ wsX90, w ∈ wsX9_nextTo := fun _ h => List.mem_cons_of_mem _ (List.mem_append_right _ h)
theorem in_X9_way_X9 : ∀ w ∈ wsX90, w ∈ wsX9_way := fun _ h => List.mem_cons_of_mem _ (List.mem_append_right _ h)
theorem in_X9_round_X9 : ∀ w ∈ wsX90, w ∈ wsX9_round := fun _ h => List.mem_cons_of_mem _ (List.mem_append_right _ h)
theorem in_X9_kept_X9 : ∀ w ∈ wsX90, w ∈ wsX9_kept := fun _ h => List.mem_cons_of_mem _ (List.mem_append_right _ h)
theorem in_X9_farthest_X9 : ∀ w ∈ wsX90, w ∈ wsX9_farthest := fun _ h => List.mem_cons_of_mem _ (List.mem_append_right _ h)
theorem in_X9_middle_X9 : ∀ w ∈ wsX90, w ∈ wsX9_middle := fun _ h => List.mem_cons_of_mem _ (List.mem_append_right _ h)
theorem in_X9_joins_X9 : ∀ w ∈ wsX90, w ∈ wsX9_joins := fun _ h => List.mem_cons_of_mem _ (List.mem_append_right _ h)
theorem in_X9_joinsAll_X9 : ∀ w ∈ wsX90, w ∈ wsX9_joinsAll := fun _ h => List.mem_cons_of_mem _ (List.mem_append_right _ h)
theorem in_X9_tree_X9 : ∀ w ∈ wsX90, w ∈ wsX9_tree := fun _ h => List.mem_cons_of_mem _ (List.mem_append_right _ h)
theorem in_X9_sortsCorners_X9 : ∀ w ∈ wsX90, w ∈ wsX9_sortsCorners := fun _ h => List.mem_cons_of_mem _ (List.mem_append_right _ h)
theorem in_X9_exchange_X9 : ∀ w ∈ wsX90, w ∈ wsX9_exchange := fun _ h => List.mem_cons_of_mem _ (List.mem_append_right _ h)
theorem in_X9_nextRow_X9 : ∀ w ∈ wsX90, w ∈ wsX9_nextRow := fun _ h => List.mem_cons_of_mem _ (List.mem_append_right _ h)
theorem in_X9_lastOne_X9 : ∀ w ∈ wsX90, w ∈ wsX9_lastOne := fun _ h => List.mem_cons_of_mem _ (List.mem_append_right _ h)
theorem in_X9_bestErrands_X9 : ∀ w ∈ wsX90, w ∈ wsX9_bestErrands := fun _ h => List.mem_cons_of_mem _ (List.mem_append_right _ h)
theorem in_X9_errands_X9 : ∀ w ∈ wsX90, w ∈ wsX9_errands := fun _ h => List.mem_cons_of_mem _ (List.mem_append_right _ h)
theorem in_X9_reading_X9 : ∀ w ∈ wsX90, w ∈ wsX9_reading := fun _ h => List.mem_cons_of_mem _ (List.mem_append_right _ h)
theorem in_X9_back_X9 : ∀ w ∈ wsX90, w ∈ wsX9_back := fun _ h => List.mem_cons_of_mem _ (List.mem_append_right _ h)
theorem in_X9_areSo_X9 : ∀ w ∈ wsX90, w ∈ wsX9_areSo := fun _ h => List.mem_cons_of_mem _ (List.mem_append_right _ h)
theorem in_X9_calves_X9 : ∀ w ∈ wsX90, w ∈ wsX9_calves := fun _ h => List.mem_cons_of_mem _ (List.mem_append_right _ h)
theorem in_X9_kinds_X9 : ∀ w ∈ wsX90, w ∈ wsX9_kinds := fun _ h => List.mem_cons_of_mem _ (List.mem_append_right _ h)
theorem in_X9_odds_X9 : ∀ w ∈ wsX90, w ∈ wsX9_odds := fun _ h => List.mem_cons_of_mem _ (List.mem_append_right _ h)
theorem in_X9_sheet_X9 : ∀ w ∈ wsX90, w ∈ wsX9_sheet := fun _ h => List.mem_cons_of_mem _ (List.mem_append_right _ h)
theorem in_X9_lose_X9 : ∀ w ∈ wsX90, w ∈ wsX9_lose := fun _ h => List.mem_cons_of_mem _ (List.mem_append_right _ h)
theorem in_X9_noCell_X9 : ∀ w ∈ wsX90, w ∈ wsX9_noCell := fun _ h => List.mem_cons_of_mem _ (List.mem_append_right _ h)
theorem in_X9_put_X9 : ∀ w ∈ wsX90, w ∈ wsX9_put := fun _ h => List.mem_cons_of_mem _ (List.mem_append_right _ h)
theorem in_X9_cell_X9 : ∀ w ∈ wsX90, w ∈ wsX9_cell := fun _ h => List.mem_cons_of_mem _ (List.mem_append_right _ h)
theorem in_X9_copy_X9 : ∀ w ∈ wsX90, w ∈ wsX9_copy := fun _ h => List.mem_cons_of_mem _ (List.mem_append_right _ h)
theorem in_X9_traced_X9 : ∀ w ∈ wsX90, w ∈ wsX9_traced := fun _ h => List.mem_cons_of_mem _ (List.mem_append_right _ h)
theorem in_X9_tell_X9 : ∀ w ∈ wsX90, w ∈ wsX9_tell := fun _ h => List.mem_cons_of_mem _ (List.mem_append_right _ h)
theorem in_X9_ring_X9 : ∀ w ∈ wsX90, w ∈ wsX9_ring := fun _ h => List.mem_cons_of_mem _ (List.mem_append_right _ h)
theorem in_X9_as_X9 : ∀ w ∈ wsX90, w ∈ wsX9_as := fun _ h => List.mem_cons_of_mem _ (List.mem_append_right _ h)
theorem in_X9_trace_X9 : ∀ w ∈ wsX90, w ∈ wsX9_trace := fun _ h => List.mem_cons_of_mem _ (List.mem_append_right _ h)
theorem in_X9_fault_X9 : ∀ w ∈ wsX90, w ∈ wsX9_fault := fun _ h => List.mem_cons_of_mem _ (List.mem_append_right _ h)
theorem in_X9_many_X9 : ∀ w ∈ wsX90, w ∈ wsX9_many := fun _ h => List.mem_cons_of_mem _ (List.mem_append_right _ h)
theorem in_X0_init_X0 : ∀ w ∈ wsX00, w ∈ wsX0_init := fun _ h => List.mem_cons_of_mem _ (List.mem_append_left _ (List.mem_append_right _ h))
theorem in_X0_init_X2 : ∀ w ∈ wsX20, w ∈ wsX0_init := fun _ h => List.mem_cons_of_mem _ (List.mem_append_right _ h)
theorem in_X0_has_X0 : ∀ w ∈ wsX00, w ∈ wsX0_has := fun _ h => List.mem_cons_of_mem _ (List.mem_append_right _ h)
theorem in_X0_add_X0 : ∀ w ∈ wsX00, w ∈ wsX0_add := fun _ h => List.mem_cons_of_mem _ (List.mem_append_left _ (List.mem_append_right _ h))
theorem in_X0_add_X2 : ∀ w ∈ wsX20, w ∈ wsX0_add := fun _ h => List.mem_cons_of_mem _ (List.mem_append_right _ h)
theorem in_X0_copyFrom_X0 : ∀ w ∈ wsX00, w ∈ wsX0_copyFrom := fun _ h => List.mem_cons_of_mem _ (List.mem_append_left _ (List.mem_append_right _ h))
theorem in_X0_copyFrom_X2 : ∀ w ∈ wsX20, w ∈ wsX0_copyFrom := fun _ h => List.mem_cons_of_mem _ (List.mem_append_right _ h)
theorem in_X0_turn_X0 : ∀ w ∈ wsX00, w ∈ wsX0_turn := fun _ h => List.mem_cons_of_mem _ (List.mem_append_left _ (List.mem_append_right _ h))
theorem in_X0_turn_X2 : ∀ w ∈ wsX20, w ∈ wsX0_turn := fun _ h => List.mem_cons_of_mem _ (List.mem_append_right _ h)
theorem in_X0_passDay_X0 : ∀ w ∈ wsX00, w ∈ wsX0_passDay := fun _ h => List.mem_cons_of_mem _ (List.mem_append_left _ (List.mem_append_left _ (List.mem_append_right _ h)))
theorem in_X0_passDay_X2 : ∀ w ∈ wsX20, w ∈ wsX0_passDay := fun _ h => List.mem_cons_of_mem _ (List.mem_append_left _ (List.mem_append_right _ h))
theorem in_X0_passDay_X6 : ∀ w ∈ wsX60, w ∈ wsX0_passDay := fun _ h => List.mem_cons_of_mem _ (List.mem_append_right _ h)
theorem in_X0_countArrived_X0 : ∀ w ∈ wsX00, w ∈ wsX0_countArrived := fun _ h => List.mem_cons_of_mem _ (List.mem_append_left _ (List.mem_append_left _ (List.mem_append_right _ h)))
theorem in_X0_countArrived_X2 : ∀ w ∈ wsX20, w ∈ wsX0_countArrived := fun _ h => List.mem_cons_of_mem _ (List.mem_append_left _ (List.mem_append_right _ h))
theorem in_X0_countArrived_X6 : ∀ w ∈ wsX60, w ∈ wsX0_countArrived := fun _ h => List.mem_cons_of_mem _ (List.mem_append_right _ h)
theorem in_X0_allArrived_X0 : ∀ w ∈ wsX00, w ∈ wsX0_allArrived := fun _ h => List.mem_cons_of_mem _ (List.mem_append_left _ (List.mem_append_left _ (List.mem_append_right _ h)))
theorem in_X0_allArrived_X2 : ∀ w ∈ wsX20, w ∈ wsX0_allArrived := fun _ h => List.mem_cons_of_mem _ (List.mem_append_left _ (List.mem_append_right _ h))
theorem in_X0_allArrived_X6 : ∀ w ∈ wsX60, w ∈ wsX0_allArrived := fun _ h => List.mem_cons_of_mem _ (List.mem_append_right _ h)
theorem in_X0_sitters_X0 : ∀ w ∈ wsX00, w ∈ wsX0_sitters := fun _ h => List.mem_cons_of_mem _ (List.mem_append_left _ (List.mem_append_right _ h))
theorem in_X0_sitters_X2 : ∀ w ∈ wsX20, w ∈ wsX0_sitters := fun _ h => List.mem_cons_of_mem _ (List.mem_append_right _ h)
theorem in_X0_walkedTogether_X0 : ∀ w ∈ wsX00, w ∈ wsX0_walkedTogether := fun _ h => List.mem_cons_of_mem _ (List.mem_append_left _ (List.mem_append_right _ h))
theorem in_X0_walkedTogether_X2 : ∀ w ∈ wsX20, w ∈ wsX0_walkedTogether := fun _ h => List.mem_cons_of_mem _ (List.mem_append_right _ h)
theorem in_X1_init_X1 : ∀ w ∈ wsX10, w ∈ wsX1_init := fun _ h => List.mem_cons_of_mem _ (List.mem_append_right _ h)
theorem in_X1_weigh_X0 : ∀ w ∈ wsX00, w ∈ wsX1_weigh := fun _ h => List.mem_cons_of_mem _ (List.mem_append_left _ (List.mem_append_left _ (List.mem_append_left _ (List.mem_append_right _ h))))
theorem in_X1_weigh_X1 : ∀ w ∈ wsX10, w ∈ wsX1_weigh := fun _ h => List.mem_cons_of_mem _ (List.mem_append_left _ (List.mem_append_left _ (List.mem_append_right _ h)))
theorem in_X1_weigh_X2 : ∀ w ∈ wsX20, w ∈ wsX1_weigh := fun _ h => List.mem_cons_of_mem _ (List.mem_append_left _ (List.mem_append_right _ h))
theorem in_X1_weigh_X6 : ∀ w ∈ wsX60, w ∈ wsX1_weigh := fun _ h => List.mem_cons_of_mem _ (List.mem_append_right _ h)
theorem in_X1_arrivalWith_X0 : ∀ w ∈ wsX00, w ∈ wsX1_arrivalWith := fun _ h => List.mem_cons_of_mem _ (List.mem_append_left _ (List.mem_append_left _ (List.mem_append_left _ (List.mem_append_right _ h))))
theorem in_X1_arrivalWith_X2 : ∀ w ∈ wsX20, w ∈ wsX1_arrivalWith := fun _ h => List.mem_cons_of_mem _ (List.mem_append_left _ (List.mem_append_left _ (List.mem_append_right _ h)))
theorem in_X1_arrivalWith_X1 : ∀ w ∈ wsX10, w ∈ wsX1_arrivalWith := fun _ h => List.mem_cons_of_mem _ (List.mem_append_left _ (List.mem_append_right _ h))
theorem in_X1_arrivalWith_X6 : ∀ w ∈ wsX60, w ∈ wsX1_arrivalWith := fun _ h => List.mem_cons_of_mem _ (List.mem_append_right _ h)
theorem in_X1_lastArrival_X1 : ∀ w ∈ wsX10, w ∈ wsX1_lastArrival := fun _ h => List.mem_cons_of_mem _ (List.mem_append_right _ h)
theorem in_X1_goalOf_X1 : ∀ w ∈ wsX10, w ∈ wsX1_goalOf := fun _ h => List.mem_cons_of_mem _ (List.mem_append_left _ (List.mem_append_left _ (List.mem_append_left _ (List.mem_append_right _ h))))
theorem in_X1_goalOf_X0 : ∀ w ∈ wsX00, w ∈ wsX1_goalOf := fun _ h => List.mem_cons_of_mem _ (List.mem_append_left _ (List.mem_append_left _ (List.mem_append_right _ h)))
theorem in_X1_goalOf_X2 : ∀ w ∈ wsX20, w ∈ wsX1_goalOf := fun _ h => List.mem_cons_of_mem _ (List.mem_append_left _ (List.mem_append_right _ h))
theorem in_X1_goalOf_X6 : ∀ w ∈ wsX60, w ∈ wsX1_goalOf := fun _ h => List.mem_cons_of_mem _ (List.mem_append_right _ h)
theorem in_X1_leastGoal_X0 : ∀ w ∈ wsX00, w ∈ wsX1_leastGoal := fun _ h => List.mem_cons_of_mem _ (List.mem_append_left _ (List.mem_append_left _ (List.mem_append_left _ (List.mem_append_right _ h))))
theorem in_X1_leastGoal_X1 : ∀ w ∈ wsX10, w ∈ wsX1_leastGoal := fun _ h => List.mem_cons_of_mem _ (List.mem_append_left _ (List.mem_append_left _ (List.mem_append_right _ h)))
theorem in_X1_leastGoal_X2 : ∀ w ∈ wsX20, w ∈ wsX1_leastGoal := fun _ h => List.mem_cons_of_mem _ (List.mem_append_left _ (List.mem_append_right _ h))
theorem in_X1_leastGoal_X6 : ∀ w ∈ wsX60, w ∈ wsX1_leastGoal := fun _ h => List.mem_cons_of_mem _ (List.mem_append_right _ h)
theorem in_X2_init_X2 : ∀ w ∈ wsX20, w ∈ wsX2_init := fun _ h => List.mem_cons_of_mem _ (List.mem_append_right _ h)
theorem in_X2_copyFrom_X2 : ∀ w ∈ wsX20, w ∈ wsX2_copyFrom := fun _ h => List.mem_cons_of_mem _ (List.mem_append_right _ h)
theorem in_X2_pace_X2 : ∀ w ∈ wsX20, w ∈ wsX2_pace := fun _ h => List.mem_cons_of_mem _ (List.mem_append_right _ h)
theorem in_X2_hasArrived_X2 : ∀ w ∈ wsX20, w ∈ wsX2_hasArrived := fun _ h => List.mem_cons_of_mem _ (List.mem_append_left _ (List.mem_append_right _ h))
theorem in_X2_hasArrived_X6 : ∀ w ∈ wsX60, w ∈ wsX2_hasArrived := fun _ h => List.mem_cons_of_mem _ (List.mem_append_right _ h)
theorem in_X2_daysTo_X2 : ∀ w ∈ wsX20, w ∈ wsX2_daysTo := fun _ h => List.mem_cons_of_mem _ (List.mem_append_left _ (List.mem_append_right _ h))
theorem in_X2_daysTo_X6 : ∀ w ∈ wsX60, w ∈ wsX2_daysTo := fun _ h => List.mem_cons_of_mem _ (List.mem_append_right _ h)
theorem in_X3_init_X3 : ∀ w ∈ wsX30, w ∈ wsX3_init := fun _ h => List.mem_cons_of_mem _ (List.mem_append_right _ h)
theorem in_X3_add_X3 : ∀ w ∈ wsX30, w ∈ wsX3_add := fun _ h => List.mem_cons_of_mem _ (List.mem_append_right _ h)
theorem in_X3_allAreSo_X3 : ∀ w ∈ wsX30, w ∈ wsX3_allAreSo := fun _ h => List.mem_cons_of_mem _ (List.mem_append_left _ (List.mem_append_left _ (List.mem_append_right _ h)))
theorem in_X3_allAreSo_X0 : ∀ w ∈ wsX00, w ∈ wsX3_allAreSo := fun _ h => List.mem_cons_of_mem _ (List.mem_append_left _ (List.mem_append_right _ h))
theorem in_X3_allAreSo_X2 : ∀ w ∈ wsX20, w ∈ wsX3_allAreSo := fun _ h => List.mem_cons_of_mem _ (List.mem_append_right _ h)
theorem in_X4_init_X0 : ∀ w ∈ wsX00, w ∈ wsX4_init := fun _ h => List.mem_cons_of_mem _ (List.mem_append_left _ (List.mem_append_left _ (List.mem_append_right _ h)))
theorem in_X4_init_X4 : ∀ w ∈ wsX40, w ∈ wsX4_init := fun _ h => List.mem_cons_of_mem _ (List.mem_append_left _ (List.mem_append_right _ h))
theorem in_X4_init_X2 : ∀ w ∈ wsX20, w ∈ wsX4_init := fun _ h => List.mem_cons_of_mem _ (List.mem_append_right _ h)
theorem in_X4_refusal_X5 : ∀ w ∈ wsX50, w ∈ wsX4_refusal := fun _ h => List.mem_cons_of_mem _ (List.mem_append_left _ (List.mem_append_right _ h))
theorem in_X4_refusal_X0 : ∀ w ∈ wsX00, w ∈ wsX4_refusal := fun _ h => List.mem_cons_of_mem _ (List.mem_append_right _ h)
theorem in_X4_play_X4 : ∀ w ∈ wsX40, w ∈ wsX4_play := fun _ h => List.mem_cons_of_mem _ (List.mem_append_left _ (List.mem_append_left _ (List.mem_append_left _ (List.mem_append_left _ (List.mem_append_right _ h)))))
theorem in_X4_play_X0 : ∀ w ∈ wsX00, w ∈ wsX4_play := fun _ h => List.mem_cons_of_mem _ (List.mem_append_left _ (List.mem_append_left _ (List.mem_append_left _ (List.mem_append_right _ h))))
theorem in_X4_play_X2 : ∀ w ∈ wsX20, w ∈ wsX4_play := fun _ h => List.mem_cons_of_mem _ (List.mem_append_left _ (List.mem_append_left _ (List.mem_append_right _ h)))
theorem in_X4_play_X6 : ∀ w ∈ wsX60, w ∈ wsX4_play := fun _ h => List.mem_cons_of_mem _ (List.mem_append_left _ (List.mem_append_right _ h))
theorem in_X4_play_X5 : ∀ w ∈ wsX50, w ∈ wsX4_play := fun _ h => List.mem_cons_of_mem _ (List.mem_append_right _ h)
theorem in_X4_passDays_X4 : ∀ w ∈ wsX40, w ∈ wsX4_passDays := fun _ h => List.mem_cons_of_mem _ (List.mem_append_left _ (List.mem_append_left _ (List.mem_append_left _ (List.mem_append_right _ h))))
theorem in_X4_passDays_X0 : ∀ w ∈ wsX00, w ∈ wsX4_passDays := fun _ h => List.mem_cons_of_mem _ (List.mem_append_left _ (List.mem_append_left _ (List.mem_append_right _ h)))
theorem in_X4_passDays_X2 : ∀ w ∈ wsX20, w ∈ wsX4_passDays := fun _ h => List.mem_cons_of_mem _ (List.mem_append_left _ (List.mem_append_right _ h))
theorem in_X4_passDays_X6 : ∀ w ∈ wsX60, w ∈ wsX4_passDays := fun _ h => List.mem_cons_of_mem _ (List.mem_append_right _ h)
theorem in_X4_told_X4 : ∀ w ∈ wsX40, w ∈ wsX4_told := fun _ h => List.mem_cons_of_mem _ (List.mem_append_left _ (List.mem_append_left _ (List.mem_append_left _ (List.mem_append_right _ h))))
theorem in_X4_told_X0 : ∀ w ∈ wsX00, w ∈ wsX4_told := fun _ h => List.mem_cons_of_mem _ (List.mem_append_left _ (List.mem_append_left _ (List.mem_append_right _ h)))
theorem in_X4_told_X2 : ∀ w ∈ wsX20, w ∈ wsX4_told := fun _ h => List.mem_cons_of_mem _ (List.mem_append_left _ (List.mem_append_right _ h))
theorem in_X4_told_X6 : ∀ w ∈ wsX60, w ∈ wsX4_told := fun _ h => List.mem_cons_of_mem _ (List.mem_append_right _ h)
theorem in_X5_init_X5 : ∀ w ∈ wsX50, w ∈ wsX5_init := fun _ h => List.mem_cons_of_mem _ (List.mem_append_right _ h)
theorem in_X5_hasNothing_X5 : ∀ w ∈ wsX50, w ∈ wsX5_hasNothing := fun _ h => List.mem_cons_of_mem _ (List.mem_append_right _ h)
theorem in_X5_clear_X5 : ∀ w ∈ wsX50, w ∈ wsX5_clear := fun _ h => List.mem_cons_of_mem _ (List.mem_append_right _ h)
theorem in_X5_renew_X5 : ∀ w ∈ wsX50, w ∈ wsX5_renew := fun _ h => List.mem_cons_of_mem _ (List.mem_append_right _ h)
theorem in_X5_at_X5 : ∀ w ∈ wsX50, w ∈ wsX5_at := fun _ h => List.mem_cons_of_mem _ (List.mem_append_right _ h)
theorem in_X5_set_X5 : ∀ w ∈ wsX50, w ∈ wsX5_set := fun _ h => List.mem_cons_of_mem _ (List.mem_append_right _ h)
theorem in_X5_cut_X5 : ∀ w ∈ wsX50, w ∈ wsX5_cut := fun _ h => List.mem_cons_of_mem _ (List.mem_append_right _ h)
theorem in_X5_faultAsRow_X5 : ∀ w ∈ wsX50, w ∈ wsX5_faultAsRow := fun _ h => List.mem_cons_of_mem _ (List.mem_append_right _ h)
theorem in_X5_faultOfCells_X5 : ∀ w ∈ wsX50, w ∈ wsX5_faultOfCells := fun _ h => List.mem_cons_of_mem _ (List.mem_append_right _ h)
theorem in_X6_init_X6 : ∀ w ∈ wsX60, w ∈ wsX6_init := fun _ h => List.mem_cons_of_mem _ (List.mem_append_right _ h)
theorem in_X6_has_X6 : ∀ w ∈ wsX60, w ∈ wsX6_has := fun _ h => List.mem_cons_of_mem _ (List.mem_append_right _ h)
theorem in_X6_hasTwo_X6 : ∀ w ∈ wsX60, w ∈ wsX6_hasTwo := fun _ h => List.mem_cons_of_mem _ (List.mem_append_right _ h)
theorem in_X6_renew_X6 : ∀ w ∈ wsX60, w ∈ wsX6_renew := fun _ h => List.mem_cons_of_mem _ (List.mem_append_right _ h)
theorem in_X6_length_X6 : ∀ w ∈ wsX60, w ∈ wsX6_length := fun _ h => List.mem_cons_of_mem _ (List.mem_append_right _ h)
theorem in_X6_lay_X6 : ∀ w ∈ wsX60, w ∈ wsX6_lay := fun _ h => List.mem_cons_of_mem _ (List.mem_append_right _ h)
theorem in_X6_measure_X6 : ∀ w ∈ wsX60, w ∈ wsX6_measure := fun _ h => List.mem_cons_of_mem _ (List.mem_append_right _ h)
theorem in_X6_shortenBy_X6 : ∀ w ∈ wsX60, w ∈ wsX6_shortenBy := fun _ h => List.mem_cons_of_mem _ (List.mem_append_right _ h)
theorem in_X6_distance_X6 : ∀ w ∈ wsX60, w ∈ wsX6_distance := fun _ h => List.mem_cons_of_mem _ (List.mem_append_right _ h)
theorem in_X6_cornersOnWay_X6 : ∀ w ∈ wsX60, w ∈ wsX6_cornersOnWay := fun _ h => List.mem_cons_of_mem _ (List.mem_append_right _ h)
theorem in_X6_cornerOnWay_X6 : ∀ w ∈ wsX60, w ∈ wsX6_cornerOnWay := fun _ h => List.mem_cons_of_mem _ (List.mem_append_right _ h)
theorem in_X6_nextOnWay_X6 : ∀ w ∈ wsX60, w ∈ wsX6_nextOnWay := fun _ h => List.mem_cons_of_mem _ (List.mem_append_right _ h)
theorem in_X6_middleCorner_X6 : ∀ w ∈ wsX60, w ∈ wsX6_middleCorner := fun _ h => List.mem_cons_of_mem _ (List.mem_append_right _ h)
theorem in_X6_farthestFrom_X6 : ∀ w ∈ wsX60, w ∈ wsX6_farthestFrom := fun _ h => List.mem_cons_of_mem _ (List.mem_append_right _ h)
theorem in_X6_leastTree_X6 : ∀ w ∈ wsX60, w ∈ wsX6_leastTree := fun _ h => List.mem_cons_of_mem _ (List.mem_append_right _ h)
theorem in_X6_joinBy_X6 : ∀ w ∈ wsX60, w ∈ wsX6_joinBy := fun _ h => List.mem_cons_of_mem _ (List.mem_append_right _ h)
theorem in_X6_joinGroups_X6 : ∀ w ∈ wsX60, w ∈ wsX6_joinGroups := fun _ h => List.mem_cons_of_mem _ (List.mem_append_right _ h)
theorem in_X6_lengthOf_X6 : ∀ w ∈ wsX60, w ∈ wsX6_lengthOf := fun _ h => List.mem_cons_of_mem _ (List.mem_append_right _ h)
theorem in_X7_firstFault_X5 : ∀ w ∈ wsX50, w ∈ wsX7_firstFault := fun _ h => List.mem_cons_of_mem _ (List.mem_append_right _ h)
theorem in_X7_goesOn_X5 : ∀ w ∈ wsX50, w ∈ wsX7_goesOn := fun _ h => List.mem_cons_of_mem _ (List.mem_append_right _ h)
theorem in_X7_isWhole_X5 : ∀ w ∈ wsX50, w ∈ wsX7_isWhole := fun _ h => List.mem_cons_of_mem _ (List.mem_append_right _ h)
theorem in_X7_take_X6 : ∀ w ∈ wsX60, w ∈ wsX7_take := fun _ h => List.mem_cons_of_mem _ (List.mem_append_left _ (List.mem_append_left _ (List.mem_append_left _ (List.mem_append_right _ h))))
theorem in_X7_take_X0 : ∀ w ∈ wsX00, w ∈ wsX7_take := fun _ h => List.mem_cons_of_mem _ (List.mem_append_left _ (List.mem_append_left _ (List.mem_append_right _ h)))
theorem in_X7_take_X5 : ∀ w ∈ wsX50, w ∈ wsX7_take := fun _ h => List.mem_cons_of_mem _ (List.mem_append_left _ (List.mem_append_right _ h))
theorem in_X7_take_X2 : ∀ w ∈ wsX20, w ∈ wsX7_take := fun _ h => List.mem_cons_of_mem _ (List.mem_append_right _ h)
theorem in_X7_digit_X5 : ∀ w ∈ wsX50, w ∈ wsX7_digit := fun _ h => List.mem_cons_of_mem _ (List.mem_append_right _ h)
