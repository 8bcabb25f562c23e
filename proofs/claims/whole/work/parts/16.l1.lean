/-! the law's walk: two worlds side by side, a row an instruction -/
def Lx (p : Program) (s : State) (m : MethodId) (meth : Method) (c : Code) (D : va_G) (cA : Nat → ClassId) (aX aM : Nat → Nat) (b L : Nat) (xs : Nat → Int32) : Prop :=
  p.tables.exec = Jvm.exec ∧ c.code = code ∧ meth.sig.returnType = ret ∧ c.maxLocals = 4 ∧ s.vm.findClass RL = some m.cls ∧ (∀ w ∈ wsL_law, w.before #[Value.ref b] s = true) ∧ va_K D vwCl (tyL cA) s ∧ NWs s ∧ va_X b L xs s s.heap ∧ b < s.heap.size ∧ meth.locks = false ∧ adOK aX 37 ∧ adOK aM 25 ∧ (∀ i j : Nat, i < 37 → j < 25 → aX i ≠ aM j) ∧ (∀ i : Nat, i < 37 → s.heap.size ≤ aX i) ∧ (∀ i : Nat, i < 25 → s.heap.size ≤ aM i)
def LG (p : Program) (l : Launch) (e : Env) (s : State) (m : MethodId) (below : List Frame) (meth : Method) (c : Code) (D : va_G) (cA : Nat → ClassId) (aX aM : Nat → Nat) (b : Nat) (A M : Mem) (x3 : Int32) (pc : Nat) (st : List Value) : Prop :=
  ∀ (H : Heap) (locs : List Loc) (ls : Array Slot), va_P D vwCl (wd aX (shX aX cA) 37 A) H → va_P D vwCl (wd aM (shM aM cA) 25 M) H → va_S (fun q : Nat => s.heap.size ≤ q) s.heap H locs → lv_has ls 4 [(3, .int x3), (2, .ref (aM 0)), (1, .ref (aX 0)), (0, .ref b)] → W p l e room_1 s m #[Value.ref b] below meth c H locs 600000 7302250 (lw_Z below #[Value.ref b] s) (F0 m pc ls st)
section LK
variable {p : Program} {l : Launch} {e : Env} {s : State} {m : MethodId} {below : List Frame} {meth : Method} {c : Code} {D : va_G} {cA : Nat → ClassId} {aX aM : Nat → Nat} {b L : Nat} {xs : Nat → Int32} {A M : Mem} {x3 : Int32} {pc : Nat} {st : List Value}
theorem l_ax (B : Lx p s m meth c D cA aX aM b L xs) (hdg : decode code pc = .ok (.aload_n 1, 1)) (kk : LG p l e s m below meth c D cA aX aM b A M x3 (pc + 1) (.ref (aX 0) :: st)) : LG p l e s m below meth c D cA aX aM b A M x3 pc st := fun H locs ls hP hQ hS hL => lv_aload_n (i := 1) B.1 B.2.1 hdg rfl (lv_at hL 2 rfl) (kk H locs ls hP hQ hS hL)
theorem l_am (B : Lx p s m meth c D cA aX aM b L xs) (hdg : decode code pc = .ok (.aload_n 2, 1)) (kk : LG p l e s m below meth c D cA aX aM b A M x3 (pc + 1) (.ref (aM 0) :: st)) : LG p l e s m below meth c D cA aX aM b A M x3 pc st := fun H locs ls hP hQ hS hL => lv_aload_n (i := 2) B.1 B.2.1 hdg rfl (lv_at hL 1 rfl) (kk H locs ls hP hQ hS hL)
/-- script[i + k] -/
theorem l_arg (B : Lx p s m meth c D cA aX aM b L xs) {nn : Int} {k v : Int32} (h0 : decode code pc = .ok (.aload_n 0, 1)) (h1 : decode code (pc + 1) = .ok (.iload_n 3, 1)) (h2 : decode code (pc + 2) = .ok (.iconst nn, 1)) (h3 : decode code (pc + 3) = .ok (.iadd, 1)) (h4 : decode code (pc + 4) = .ok (.iaload, 1)) (hn : Int32.ofInt nn = k) (hv : vp_in (x3 + k) L ∧ xs (x3 + k).toNatClampNeg = v) (kk : LG p l e s m below meth c D cA aX aM b A M x3 (pc + 5) (.int v :: st)) : LG p l e s m below meth c D cA aX aM b A M x3 pc st := fun H locs ls hP hQ hS hL => by
  obtain ⟨hx, hb, hr, hml, hown, hts, hK, hN, hX, hbl, hlk, oX, oM, hap, gX, gM⟩ := id B
  have hbA : ¬ (fun q : Nat => s.heap.size ≤ q) b := Nat.not_le.mpr hbl
  refine lv_aload_n (i := 0) hx hb h0 rfl (lv_at hL 3 rfl) ?_
  refine lv_iload_n (i := 3) hx hb h1 rfl (lv_at hL 0 rfl) ?_
  refine lv_iconst hx hb h2 hn ?_
  refine lv_iadd hx hb h3 ?_
  refine va_sld hx hb hX hbl hbA hS hv.1 h4 ?_
  rw [hv.2]
  exact kk H locs ls hP hQ hS hL
theorem l_callX (B : Lx p s m meth c D cA aX aM b L xs) {y : MethodName} {bytes : ByteArray} {maxL index na : Nat} {rt : Option FieldType} {wsC : List Cond} {rm : Room} {As st0 : List Value} {dc : Option (Int32 × Mem)} {r : Int32} {A1 : Mem} (hC : CI l y wsC rm D cA aX (shX aX cA) 37 (.ref (aX 0) :: As) A dc) (cw : CallW room_1 s #[Value.ref b] RL RX8 index y bytes maxL rt wsC rm 0 0 na) (hdc : dc = some (r, A1)) (hn : As.length = na) (hst : st0 = As.reverse ++ .ref (aX 0) :: st) (hW : (st.map fun v => v.category).sum ≤ 8) (hdg : decode code pc = .ok (.invokevirtual index, 3)) (kk : LG p l e s m below meth c D cA aX aM b A1 M x3 (pc + 3) (.int r :: st)) : LG p l e s m below meth c D cA aX aM b A M x3 pc st0 := by
  subst hst
  intro H locs ls hP hQ hS hL
  obtain ⟨hx, hb, hr, hml, hown, hts, hK, hN, hX, hbl, hlk, oX, oM, hap, gX, gM⟩ := id B
  have hM := hC H.size (r, A1) hdc
  refine va_calli (va_runV (As := As) (rest := st) ⟨hx, hb, hml, hown, hts⟩ hM cw ⟨preG_blind, va_recv hK hP (ci := 7) (q0 := 0) (a := aX 0) (q := (RX8, TX8, 9)) rfl (by rw [wd_at (by decide)]; rfl), fun U hU hW => ⟨rfl, by rw [hU], by rw [hU]; exact hP, va_K.moved hW.alike hK, hN.warm hW⟩⟩ rfl hn hL.1 rfl (lv_room hW) hdg ⟨Nat.le_of_ble_eq_true rfl, Nat.le_of_ble_eq_true rfl⟩) hS (fun q hq h => ?_) (fun q h => ?_) (fun r1 u t H1 locs1 ht _ hw hB _ hk1 hS1 => ?_)
  · rcases h with ⟨o, ho, e⟩ | h
    · rw [e]; exact gX o ho
    · omega
  · rcases h with ⟨o, ho, e⟩ | h
    · rw [e]; exact gX o ho
    · exact Nat.le_trans hS.1 h
  · have e1 : r1 = r := congrArg Prod.fst hw
    have e2 : u = A1 := congrArg Prod.snd hw
    subst e1
    subst e2
    refine kk H1 locs1 ls (by rw [← ht]; exact hB) (hQ.kept (fun k q hk => ?_)) hS1 hL
    obtain ⟨h1, h2⟩ := wd_in hk
    have h3 : q.1 < H.size := (hQ k q hk).lt
    refine hk1 q.1 h3 (fun z => ?_)
    rcases z with ⟨o, ho, e⟩ | z
    · exact hap o k ho h1 (by rw [← h2, e])
    · omega
theorem l_callM (B : Lx p s m meth c D cA aX aM b L xs) {y : MethodName} {bytes : ByteArray} {maxL index na : Nat} {rt : Option FieldType} {wsC : List Cond} {rm : Room} {As st0 : List Value} {dc : Option (Int32 × Mem)} {r : Int32} {M1 : Mem} (hC : CI l y wsC rm D cA aM (shM aM cA) 25 (.ref (aM 0) :: As) M dc) (cw : CallW room_1 s #[Value.ref b] RL RX9 index y bytes maxL rt wsC rm 0 0 na) (hdc : dc = some (r, M1)) (hn : As.length = na) (hst : st0 = As.reverse ++ .ref (aM 0) :: st) (hW : (st.map fun v => v.category).sum ≤ 8) (hdg : decode code pc = .ok (.invokevirtual index, 3)) (kk : LG p l e s m below meth c D cA aX aM b A M1 x3 (pc + 3) (.int r :: st)) : LG p l e s m below meth c D cA aX aM b A M x3 pc st0 := by
  subst hst
  intro H locs ls hP hQ hS hL
  obtain ⟨hx, hb, hr, hml, hown, hts, hK, hN, hX, hbl, hlk, oX, oM, hap, gX, gM⟩ := id B
  have hM := hC H.size (r, M1) hdc
  refine va_calli (va_runV (As := As) (rest := st) ⟨hx, hb, hml, hown, hts⟩ hM cw ⟨preG_blind, va_recv hK hQ (ci := 8) (q0 := 0) (a := aM 0) (q := (RX9, TX9, 39)) rfl (by rw [wd_at (by decide)]; rfl), fun U hU hW => ⟨rfl, by rw [hU], by rw [hU]; exact hQ, va_K.moved hW.alike hK, hN.warm hW⟩⟩ rfl hn hL.1 rfl (lv_room hW) hdg ⟨Nat.le_of_ble_eq_true rfl, Nat.le_of_ble_eq_true rfl⟩) hS (fun q hq h => ?_) (fun q h => ?_) (fun r1 u t H1 locs1 ht _ hw hB _ hk1 hS1 => ?_)
  · rcases h with ⟨o, ho, e⟩ | h
    · rw [e]; exact gM o ho
    · omega
  · rcases h with ⟨o, ho, e⟩ | h
    · rw [e]; exact gM o ho
    · exact Nat.le_trans hS.1 h
  · have e1 : r1 = r := congrArg Prod.fst hw
    have e2 : u = M1 := congrArg Prod.snd hw
    subst e1
    subst e2
    refine kk H1 locs1 ls (hP.kept (fun k q hk => ?_)) (by rw [← ht]; exact hB) hS1 hL
    obtain ⟨h1, h2⟩ := wd_in hk
    have h3 : q.1 < H.size := (hP k q hk).lt
    refine hk1 q.1 h3 (fun z => ?_)
    rcases z with ⟨o, ho, e⟩ | z
    · exact hap k o h1 ho (by rw [← h2, e])
    · omega
theorem l_callXL (B : Lx p s m meth c D cA aX aM b L xs) {y : MethodName} {bytes : ByteArray} {maxL index na : Nat} {rt : Option FieldType} {wsC : List Cond} {rm : Room} {As st0 : List Value} {dc : Option (Int64 × Mem)} {r : Int64} {A1 : Mem} (hC : CL l y wsC rm D cA aX (shX aX cA) 37 (.ref (aX 0) :: As) A dc) (cw : CallW room_1 s #[Value.ref b] RL RX8 index y bytes maxL rt wsC rm 0 0 na) (hdc : dc = some (r, A1)) (hn : As.length = na) (hst : st0 = As.reverse ++ .ref (aX 0) :: st) (hW : (st.map fun v => v.category).sum ≤ 8) (hdg : decode code pc = .ok (.invokevirtual index, 3)) (kk : LG p l e s m below meth c D cA aX aM b A1 M x3 (pc + 3) (.long r :: st)) : LG p l e s m below meth c D cA aX aM b A M x3 pc st0 := by
  subst hst
  intro H locs ls hP hQ hS hL
  obtain ⟨hx, hb, hr, hml, hown, hts, hK, hN, hX, hbl, hlk, oX, oM, hap, gX, gM⟩ := id B
  have hM := hC H.size (r, A1) hdc
  refine va_calll (va_runV (As := As) (rest := st) ⟨hx, hb, hml, hown, hts⟩ hM cw ⟨preG_blind, va_recv hK hP (ci := 7) (q0 := 0) (a := aX 0) (q := (RX8, TX8, 9)) rfl (by rw [wd_at (by decide)]; rfl), fun U hU hW => ⟨rfl, by rw [hU], by rw [hU]; exact hP, va_K.moved hW.alike hK, hN.warm hW⟩⟩ rfl hn hL.1 rfl (lv_room hW) hdg ⟨Nat.le_of_ble_eq_true rfl, Nat.le_of_ble_eq_true rfl⟩) hS (fun q hq h => ?_) (fun q h => ?_) (fun r1 u t H1 locs1 ht _ hw hB _ hk1 hS1 => ?_)
  · rcases h with ⟨o, ho, e⟩ | h
    · rw [e]; exact gX o ho
    · omega
  · rcases h with ⟨o, ho, e⟩ | h
    · rw [e]; exact gX o ho
    · exact Nat.le_trans hS.1 h
  · have e1 : r1 = r := congrArg Prod.fst hw
    have e2 : u = A1 := congrArg Prod.snd hw
    subst e1
    subst e2
    refine kk H1 locs1 ls (by rw [← ht]; exact hB) (hQ.kept (fun k q hk => ?_)) hS1 hL
    obtain ⟨h1, h2⟩ := wd_in hk
    have h3 : q.1 < H.size := (hQ k q hk).lt
    refine hk1 q.1 h3 (fun z => ?_)
    rcases z with ⟨o, ho, e⟩ | z
    · exact hap o k ho h1 (by rw [← h2, e])
    · omega
theorem l_callML (B : Lx p s m meth c D cA aX aM b L xs) {y : MethodName} {bytes : ByteArray} {maxL index na : Nat} {rt : Option FieldType} {wsC : List Cond} {rm : Room} {As st0 : List Value} {dc : Option (Int64 × Mem)} {r : Int64} {M1 : Mem} (hC : CL l y wsC rm D cA aM (shM aM cA) 25 (.ref (aM 0) :: As) M dc) (cw : CallW room_1 s #[Value.ref b] RL RX9 index y bytes maxL rt wsC rm 0 0 na) (hdc : dc = some (r, M1)) (hn : As.length = na) (hst : st0 = As.reverse ++ .ref (aM 0) :: st) (hW : (st.map fun v => v.category).sum ≤ 8) (hdg : decode code pc = .ok (.invokevirtual index, 3)) (kk : LG p l e s m below meth c D cA aX aM b A M1 x3 (pc + 3) (.long r :: st)) : LG p l e s m below meth c D cA aX aM b A M x3 pc st0 := by
  subst hst
  intro H locs ls hP hQ hS hL
  obtain ⟨hx, hb, hr, hml, hown, hts, hK, hN, hX, hbl, hlk, oX, oM, hap, gX, gM⟩ := id B
  have hM := hC H.size (r, M1) hdc
  refine va_calll (va_runV (As := As) (rest := st) ⟨hx, hb, hml, hown, hts⟩ hM cw ⟨preG_blind, va_recv hK hQ (ci := 8) (q0 := 0) (a := aM 0) (q := (RX9, TX9, 39)) rfl (by rw [wd_at (by decide)]; rfl), fun U hU hW => ⟨rfl, by rw [hU], by rw [hU]; exact hQ, va_K.moved hW.alike hK, hN.warm hW⟩⟩ rfl hn hL.1 rfl (lv_room hW) hdg ⟨Nat.le_of_ble_eq_true rfl, Nat.le_of_ble_eq_true rfl⟩) hS (fun q hq h => ?_) (fun q h => ?_) (fun r1 u t H1 locs1 ht _ hw hB _ hk1 hS1 => ?_)
  · rcases h with ⟨o, ho, e⟩ | h
    · rw [e]; exact gM o ho
    · omega
  · rcases h with ⟨o, ho, e⟩ | h
    · rw [e]; exact gM o ho
    · exact Nat.le_trans hS.1 h
  · have e1 : r1 = r := congrArg Prod.fst hw
    have e2 : u = M1 := congrArg Prod.snd hw
    subst e1
    subst e2
    refine kk H1 locs1 ls (hP.kept (fun k q hk => ?_)) (by rw [← ht]; exact hB) hS1 hL
    obtain ⟨h1, h2⟩ := wd_in hk
    have h3 : q.1 < H.size := (hP k q hk).lt
    refine hk1 q.1 h3 (fun z => ?_)
    rcases z with ⟨o, ho, e⟩ | z
    · exact hap k o h1 ho (by rw [← h2, e])
    · omega
theorem l_eq (B : Lx p s m meth c D cA aX aM b L xs) {r : Int32} {off : Int} (hdg : decode code pc = .ok (.if_icmp .eq off, 3)) (ht : (pc : Int) + off = ((1224 : Nat) : Int)) (kk : LG p l e s m below meth c D cA aX aM b A M x3 1224 st) : LG p l e s m below meth c D cA aX aM b A M x3 pc (.int r :: .int r :: st) := fun H locs ls hP hQ hS hL => lv_icmp_eq B.1 B.2.1 hdg ht (fun _ => kk H locs ls hP hQ hS hL) (fun h => absurd rfl h)
theorem l_leq (B : Lx p s m meth c D cA aX aM b L xs) {r : Int64} {off : Int} (h1 : decode code pc = .ok (.lcmp, 1)) (hdg : decode code (pc + 1) = .ok (.ifCond .eq off, 3)) (ht : ((pc + 1 : Nat) : Int) + off = ((1224 : Nat) : Int)) (kk : LG p l e s m below meth c D cA aX aM b A M x3 1224 st) : LG p l e s m below meth c D cA aX aM b A M x3 pc (.long r :: .long r :: st) := fun H locs ls hP hQ hS hL => W.lcmp B.1 B.2.1 h1 (lv_if_eq B.1 B.2.1 hdg ht (fun _ => kk H locs ls hP hQ hS hL) (fun h => absurd ((lg_cmp_eq r r).mpr rfl) h))
theorem l_tin (B : Lx p s m meth c D cA aX aM b L xs) {dflt lo hi : Int} {offs : Array Int} {len : Nat} {x : Int32} (v : Int32) {off : Int} {tgt : Nat} (hdg : decode code pc = .ok (.tableswitch dflt lo hi offs, len)) (he : x = v) (h1 : ¬ v.toInt < lo) (h2 : ¬ hi < v.toInt) (ho : offs[(v.toInt - lo).toNat]? = some off) (ht : (pc : Int) + off = (tgt : Int)) (kk : LG p l e s m below meth c D cA aX aM b A M x3 tgt st) : LG p l e s m below meth c D cA aX aM b A M x3 pc (.int x :: st) := fun H locs ls hP hQ hS hL => lv_tableIn B.1 B.2.1 hdg (by rw [he]; exact h1) (by rw [he]; exact h2) (by rw [he]; exact ho) ht (kk H locs ls hP hQ hS hL)
theorem l_tout (B : Lx p s m meth c D cA aX aM b L xs) {dflt lo hi : Int} {offs : Array Int} {len : Nat} {x : Int32} {tgt : Nat} (hdg : decode code pc = .ok (.tableswitch dflt lo hi offs, len)) (h : x.toInt < lo ∨ hi < x.toInt) (ht : (pc : Int) + dflt = (tgt : Int)) (kk : LG p l e s m below meth c D cA aX aM b A M x3 tgt st) : LG p l e s m below meth c D cA aX aM b A M x3 pc (.int x :: st) := fun H locs ls hP hQ hS hL => lv_tableOut B.1 B.2.1 hdg h ht (kk H locs ls hP hQ hS hL)
/-- the law's end -/
theorem l_exit (B : Lx p s m meth c D cA aX aM b L xs) : LG p l e s m below meth c D cA aX aM b A M x3 1230 [] := fun H locs ls hP hQ hS hL => by
  obtain ⟨hx, hb, hr, hml, hown, hts, hK, hN, hX, hbl, hlk, oX, oM, hap, gX, gM⟩ := id B
  refine lv_iconst (v := 1) hx hb dL_law_1230 (by decide) ?_
  refine va_forget (fun q hq => hS.2.2 q hq) ?_
  exact lw_ret hx hb hr hlk dL_law_1231
/-- i += 6 -/
theorem l_next (B : Lx p s m meth c D cA aX aM b L xs) {v : Int32} (hv : x3 + 6 = v) (kk : LG p l e s m below meth c D cA aX aM b A M v 18 []) : LG p l e s m below meth c D cA aX aM b A M x3 1224 [] := fun H locs ls hP hQ hS hL => by
  obtain ⟨hx, hb, hr, hml, hown, hts, hK, hN, hX, hbl, hlk, oX, oM, hap, gX, gM⟩ := id B
  refine lv_iinc (v := v) (lv' := [(3, .int v), (2, .ref (aM 0)), (1, .ref (aX 0)), (0, .ref b)]) hx hb dL_law_1224 hL (k := 0) rfl (by rw [← hv]; rfl) (by decide) rfl (fun ls1 hL1 => ?_)
  refine lv_goto (tgt := 18) hx hb dL_law_1227 (by decide) ?_
  exact kk H locs ls1 hP hQ hS hL1
theorem sub6_s {L : Nat} (hL : L ≤ 384) : (Int32.ofNat L - 6).toInt = (L : Int) - 6 := by
  have h1 : (Int32.ofNat L).toInt = (L : Int) := nI_toInt (n := L) (by omega)
  rw [Int32.toInt_sub, h1, show (6 : Int32).toInt = 6 by decide, Int.bmod_def]
  split <;> omega
/-- the loop's head -/
theorem l_head (B : Lx p s m meth c D cA aX aM b L xs) (hL : L ≤ 384) {n : Nat} (hn : n ≤ 64) (hgo : 6 * n + 6 ≤ L → LG p l e s m below meth c D cA aX aM b A M (nI (6 * n)) 33 [.int (xs (6 * n) &&& 31)]) : LG p l e s m below meth c D cA aX aM b A M (nI (6 * n)) 18 [] := fun H locs ls hP hQ hS hLv => by
  obtain ⟨hx, hb, hr, hml, hown, hts, hK, hN, hX, hbl, hlk, oX, oM, hap, gX, gM⟩ := id B
  have hbA : ¬ (fun q : Nat => s.heap.size ≤ q) b := Nat.not_le.mpr hbl
  have h1 := sub6_s hL
  have h2 : (nI (6 * n)).toInt = ((6 * n : Nat) : Int) := nI_toInt (by omega)
  refine lv_iload_n (i := 3) hx hb dL_law_18 rfl (lv_at hLv 0 rfl) ?_
  refine lv_aload_n (i := 0) hx hb dL_law_19 rfl (lv_at hLv 3 rfl) ?_
  refine va_slen hx hb hX hbl hbA hS dL_law_20 ?_
  refine lv_bipush (v := 6) hx hb dL_law_21 (by decide) ?_
  refine lv_isub hx hb dL_law_23 ?_
  refine lv_icmp_gt (tgt := 1230) hx hb dL_law_24 (by decide) (fun _ => ?_) (fun h => ?_)
  · exact l_exit B H locs ls hP hQ hS hLv
  · have h3 : ¬ (Int32.ofNat L - 6).toInt < (nI (6 * n)).toInt := fun q => h (Int32.lt_iff_toInt_lt.mpr q)
    have h4 : 6 * n + 6 ≤ L := by omega
    refine lv_aload_n (i := 0) hx hb dL_law_27 rfl (lv_at hLv 3 rfl) ?_
    refine lv_iload_n (i := 3) hx hb dL_law_28 rfl (lv_at hLv 0 rfl) ?_
    refine va_sld hx hb hX hbl hbA hS (vp_in_nI (by omega) (by omega)) dL_law_29 ?_
    rw [nI_clamp (by omega)]
    refine lv_bipush (v := 31) hx hb dL_law_30 (by decide) ?_
    refine lv_iand hx hb dL_law_32 ?_
    exact hgo h4 H locs ls hP hQ hS hLv
end LK
