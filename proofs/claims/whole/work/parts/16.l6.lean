section LC9
variable {p : Program} {l : Launch} {e : Env} {s : State} {m : MethodId} {below : List Frame} {meth : Method} {c : Code} {D : va_G} {cA : Nat → ClassId} {aX aM : Nat → Nat} {b L : Nat} {xs : Nat → Int32} {A M : Mem} {x3 : Int32}
set_option maxHeartbeats 4000000 in
set_option maxRecDepth 100000 in
theorem law_switch (B : Lx p s m meth c D cA aX aM b L xs) {n : Nat} (hn : n ≤ 64) (hR : Rel n A M) {x : Int32} (h1 : vp_in (x3 + 1) L) (h2 : vp_in (x3 + 2) L) (h3 : vp_in (x3 + 3) L) (h4 : vp_in (x3 + 4) L) (h5 : vp_in (x3 + 5) L) (next : ∀ A1 M1 : Mem, Rel (n + 1) A1 M1 → LG p l e s m below meth c D cA aX aM b A1 M1 x3 1224 []) : LG p l e s m below meth c D cA aX aM b A M x3 33 [.int x] := by
  by_cases c0 : x = 0
  · exact l_tin (v := 0) (off := 143) (tgt := 176) B dL_law_33 c0 (by decide) (by decide) rfl (by decide) (law_case_0 B hn hR ⟨h1, rfl⟩ ⟨h2, rfl⟩ ⟨h3, rfl⟩ ⟨h4, rfl⟩ next)
  by_cases c1 : x = 1
  · exact l_tin (v := 1) (off := 196) (tgt := 229) B dL_law_33 c1 (by decide) (by decide) rfl (by decide) (law_case_1 B hn hR ⟨h1, rfl⟩ ⟨h2, rfl⟩ next)
  by_cases c2 : x = 2
  · exact l_tin (v := 2) (off := 229) (tgt := 262) B dL_law_33 c2 (by decide) (by decide) rfl (by decide) (law_case_2 B hn hR ⟨h1, rfl⟩ ⟨h2, rfl⟩ next)
  by_cases c3 : x = 3
  · exact l_tin (v := 3) (off := 262) (tgt := 295) B dL_law_33 c3 (by decide) (by decide) rfl (by decide) (law_case_3 B hn hR ⟨h1, rfl⟩ ⟨h2, rfl⟩ ⟨h3, rfl⟩ next)
  by_cases c4 : x = 4
  · exact l_tin (v := 4) (off := 305) (tgt := 338) B dL_law_33 c4 (by decide) (by decide) rfl (by decide) (law_case_4 B hn hR ⟨h1, rfl⟩ ⟨h2, rfl⟩ next)
  by_cases c5 : x = 5
  · exact l_tin (v := 5) (off := 338) (tgt := 371) B dL_law_33 c5 (by decide) (by decide) rfl (by decide) (law_case_5 B hn hR ⟨h1, rfl⟩ next)
  by_cases c6 : x = 6
  · exact l_tin (v := 6) (off := 361) (tgt := 394) B dL_law_33 c6 (by decide) (by decide) rfl (by decide) (law_case_6 B hn hR ⟨h1, rfl⟩ next)
  by_cases c7 : x = 7
  · exact l_tin (v := 7) (off := 384) (tgt := 417) B dL_law_33 c7 (by decide) (by decide) rfl (by decide) (law_case_7 B hn hR ⟨h1, rfl⟩ next)
  by_cases c8 : x = 8
  · exact l_tin (v := 8) (off := 407) (tgt := 440) B dL_law_33 c8 (by decide) (by decide) rfl (by decide) (law_case_8 B hn hR ⟨h1, rfl⟩ ⟨h2, rfl⟩ ⟨h3, rfl⟩ ⟨h4, rfl⟩ next)
  by_cases c9 : x = 9
  · exact l_tin (v := 9) (off := 460) (tgt := 493) B dL_law_33 c9 (by decide) (by decide) rfl (by decide) (law_case_9 B hn hR ⟨h1, rfl⟩ ⟨h2, rfl⟩ ⟨h3, rfl⟩ ⟨h4, rfl⟩ ⟨h5, rfl⟩ next)
  by_cases c10 : x = 10
  · exact l_tin (v := 10) (off := 523) (tgt := 556) B dL_law_33 c10 (by decide) (by decide) rfl (by decide) (law_case_10 B hn hR ⟨h1, rfl⟩ ⟨h2, rfl⟩ ⟨h3, rfl⟩ next)
  by_cases c11 : x = 11
  · exact l_tin (v := 11) (off := 566) (tgt := 599) B dL_law_33 c11 (by decide) (by decide) rfl (by decide) (law_case_11 B hn hR ⟨h1, rfl⟩ ⟨h2, rfl⟩ next)
  by_cases c12 : x = 12
  · exact l_tin (v := 12) (off := 599) (tgt := 632) B dL_law_33 c12 (by decide) (by decide) rfl (by decide) (law_case_12 B hn hR ⟨h1, rfl⟩ next)
  by_cases c13 : x = 13
  · exact l_tin (v := 13) (off := 622) (tgt := 655) B dL_law_33 c13 (by decide) (by decide) rfl (by decide) (law_case_13 B hn hR ⟨h1, rfl⟩ next)
  by_cases c14 : x = 14
  · exact l_tin (v := 14) (off := 645) (tgt := 678) B dL_law_33 c14 (by decide) (by decide) rfl (by decide) (law_case_14 B hn hR ⟨h1, rfl⟩ next)
  by_cases c15 : x = 15
  · exact l_tin (v := 15) (off := 668) (tgt := 701) B dL_law_33 c15 (by decide) (by decide) rfl (by decide) (law_case_15 B hn hR ⟨h1, rfl⟩ next)
  by_cases c16 : x = 16
  · exact l_tin (v := 16) (off := 691) (tgt := 724) B dL_law_33 c16 (by decide) (by decide) rfl (by decide) (law_case_16 B hn hR ⟨h1, rfl⟩ ⟨h2, rfl⟩ ⟨h3, rfl⟩ next)
  by_cases c17 : x = 17
  · exact l_tin (v := 17) (off := 734) (tgt := 767) B dL_law_33 c17 (by decide) (by decide) rfl (by decide) (law_case_17 B hn hR ⟨h1, rfl⟩ next)
  by_cases c18 : x = 18
  · exact l_tin (v := 18) (off := 757) (tgt := 790) B dL_law_33 c18 (by decide) (by decide) rfl (by decide) (law_case_18 B hn hR ⟨h1, rfl⟩ next)
  by_cases c19 : x = 19
  · exact l_tin (v := 19) (off := 780) (tgt := 813) B dL_law_33 c19 (by decide) (by decide) rfl (by decide) (law_case_19 B hn hR ⟨h1, rfl⟩ next)
  by_cases c20 : x = 20
  · exact l_tin (v := 20) (off := 803) (tgt := 836) B dL_law_33 c20 (by decide) (by decide) rfl (by decide) (law_case_20 B hn hR ⟨h1, rfl⟩ ⟨h2, rfl⟩ ⟨h3, rfl⟩ next)
  by_cases c21 : x = 21
  · exact l_tin (v := 21) (off := 847) (tgt := 880) B dL_law_33 c21 (by decide) (by decide) rfl (by decide) (law_case_21 B hn hR ⟨h1, rfl⟩ ⟨h2, rfl⟩ ⟨h3, rfl⟩ next)
  by_cases c22 : x = 22
  · exact l_tin (v := 22) (off := 890) (tgt := 923) B dL_law_33 c22 (by decide) (by decide) rfl (by decide) (law_case_22 B hn hR ⟨h1, rfl⟩ next)
  by_cases c23 : x = 23
  · exact l_tin (v := 23) (off := 913) (tgt := 946) B dL_law_33 c23 (by decide) (by decide) rfl (by decide) (law_case_23 B hn hR ⟨h1, rfl⟩ ⟨h2, rfl⟩ ⟨h3, rfl⟩ next)
  by_cases c24 : x = 24
  · exact l_tin (v := 24) (off := 956) (tgt := 989) B dL_law_33 c24 (by decide) (by decide) rfl (by decide) (law_case_24 B hn hR ⟨h1, rfl⟩ ⟨h2, rfl⟩ ⟨h3, rfl⟩ next)
  by_cases c25 : x = 25
  · exact l_tin (v := 25) (off := 1000) (tgt := 1033) B dL_law_33 c25 (by decide) (by decide) rfl (by decide) (law_case_25 B hn hR ⟨h1, rfl⟩ ⟨h2, rfl⟩ ⟨h3, rfl⟩ ⟨h4, rfl⟩ ⟨h5, rfl⟩ next)
  by_cases c26 : x = 26
  · exact l_tin (v := 26) (off := 1063) (tgt := 1096) B dL_law_33 c26 (by decide) (by decide) rfl (by decide) (law_case_26 B hn hR ⟨h1, rfl⟩ next)
  by_cases c27 : x = 27
  · exact l_tin (v := 27) (off := 1086) (tgt := 1119) B dL_law_33 c27 (by decide) (by decide) rfl (by decide) (law_case_27 B hn hR ⟨h1, rfl⟩ next)
  by_cases c28 : x = 28
  · exact l_tin (v := 28) (off := 1109) (tgt := 1142) B dL_law_33 c28 (by decide) (by decide) rfl (by decide) (law_case_28 B hn hR ⟨h1, rfl⟩ ⟨h2, rfl⟩ next)
  by_cases c29 : x = 29
  · exact l_tin (v := 29) (off := 1142) (tgt := 1175) B dL_law_33 c29 (by decide) (by decide) rfl (by decide) (law_case_29 B hn hR next)
  by_cases c30 : x = 30
  · exact l_tin (v := 30) (off := 1155) (tgt := 1188) B dL_law_33 c30 (by decide) (by decide) rfl (by decide) (law_case_30 B hn hR next)
  by_cases c31 : x = 31
  · exact l_tin (v := 31) (off := 1168) (tgt := 1201) B dL_law_33 c31 (by decide) (by decide) rfl (by decide) (law_case_31 B hn hR ⟨h1, rfl⟩ next)
  exact l_tout (tgt := 1224) B dL_law_33 (sw_32 c0 c1 c2 c3 c4 c5 c6 c7 c8 c9 c10 c11 c12 c13 c14 c15 c16 c17 c18 c19 c20 c21 c22 c23 c24 c25 c26 c27 c28 c29 c30 c31) (by decide) (next A M hR.mono)
theorem law_loop (B : Lx p s m meth c D cA aX aM b L xs) (hL : L ≤ 384) : ∀ (k n : Nat), n + k = 64 → ∀ A M : Mem, Rel n A M → LG p l e s m below meth c D cA aX aM b A M (nI (6 * n)) 18 [] := by
  intro k
  induction k with
  | zero => exact fun n hk A M hR => l_head B hL (by omega) (fun h => by omega)
  | succ k ih =>
    intro n hk A M hR
    refine l_head B hL (by omega) (fun h => ?_)
    have hj : ∀ j : Nat, j < 6 → vp_in (nI (6 * n) + nI j) L := fun j hj => by rw [nI_add]; exact vp_in_nI (by omega) (by omega)
    refine law_switch B (by omega) hR (hj 1 (by decide)) (hj 2 (by decide)) (hj 3 (by decide)) (hj 4 (by decide)) (hj 5 (by decide)) (fun A1 M1 hR1 => ?_)
    refine l_next B (v := nI (6 * (n + 1))) ?_ (ih (n + 1) (by omega) A1 M1 hR1)
    exact nI_add (6 * n) 6
end LC9
