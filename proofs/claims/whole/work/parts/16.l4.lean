section LC2
variable {p : Program} {l : Launch} {e : Env} {s : State} {m : MethodId} {below : List Frame} {meth : Method} {c : Code} {D : va_G} {cA : Nat → ClassId} {aX aM : Nat → Nat} {b L : Nat} {xs : Nat → Int32} {A M : Mem} {x3 : Int32}
set_option maxHeartbeats 4000000 in
set_option maxRecDepth 100000 in
theorem law_case_16 (B : Lx p s m meth c D cA aX aM b L xs) {n : Nat} (hn : n ≤ 64) (hR : Rel n A M) {v1 v2 v3 : Int32} (h1 : vp_in (x3 + 1) L ∧ xs (x3 + 1).toNatClampNeg = v1) (h2 : vp_in (x3 + 2) L ∧ xs (x3 + 2).toNatClampNeg = v2) (h3 : vp_in (x3 + 3) L ∧ xs (x3 + 3).toNatClampNeg = v3) (next : ∀ A1 M1 : Mem, Rel (n + 1) A1 M1 → LG p l e s m below meth c D cA aX aM b A1 M1 x3 1224 []) : LG p l e s m below meth c D cA aX aM b A M x3 724 [] := by
  obtain ⟨r, A1, M1, e1, e2, hR1⟩ := sim_reading hR v1 v2 v3
  refine l_ax B dL_law_724 ?_
  refine l_arg (k := 1) B dL_law_725 dL_law_726 dL_law_727 dL_law_728 dL_law_729 (by decide) h1 ?_
  refine l_arg (k := 2) B dL_law_730 dL_law_731 dL_law_732 dL_law_733 dL_law_734 (by decide) h2 ?_
  refine l_arg (k := 3) B dL_law_735 dL_law_736 dL_law_737 dL_law_738 dL_law_739 (by decide) h3 ?_
  refine l_callX (As := [.int v1, .int v2, .int v3]) (st := []) B (k_X8_reading l D cA aX B.2.2.2.2.2.2.2.2.2.2.2.1 v1 v2 v3 A) (cwV 3 B.2.2.2.2.2.1 gL_law_X8_reading rfl rfl rfl (by decide +kernel) ⟨Nat.le_of_ble_eq_true rfl, Nat.le_of_ble_eq_true rfl⟩) e1 rfl rfl (Nat.le_of_ble_eq_true rfl) dL_law_740 ?_
  refine l_am B dL_law_743 ?_
  refine l_arg (k := 1) B dL_law_744 dL_law_745 dL_law_746 dL_law_747 dL_law_748 (by decide) h1 ?_
  refine l_arg (k := 2) B dL_law_749 dL_law_750 dL_law_751 dL_law_752 dL_law_753 (by decide) h2 ?_
  refine l_arg (k := 3) B dL_law_754 dL_law_755 dL_law_756 dL_law_757 dL_law_758 (by decide) h3 ?_
  refine l_callM (As := [.int v1, .int v2, .int v3]) (st := [.int r]) B (k_X9_reading l D cA aM B.2.2.2.2.2.2.2.2.2.2.2.2.1 v1 v2 v3 M) (cwV 3 B.2.2.2.2.2.1 gL_law_X9_reading rfl rfl rfl (by decide +kernel) ⟨Nat.le_of_ble_eq_true rfl, Nat.le_of_ble_eq_true rfl⟩) e2 rfl rfl (Nat.le_of_ble_eq_true rfl) dL_law_759 ?_
  exact l_eq B dL_law_762 (by decide) (next A1 M1 hR1)
set_option maxHeartbeats 4000000 in
set_option maxRecDepth 100000 in
theorem law_case_17 (B : Lx p s m meth c D cA aX aM b L xs) {n : Nat} (hn : n ≤ 64) (hR : Rel n A M) {v1 : Int32} (h1 : vp_in (x3 + 1) L ∧ xs (x3 + 1).toNatClampNeg = v1) (next : ∀ A1 M1 : Mem, Rel (n + 1) A1 M1 → LG p l e s m below meth c D cA aX aM b A1 M1 x3 1224 []) : LG p l e s m below meth c D cA aX aM b A M x3 767 [] := by
  obtain ⟨r, A1, M1, e1, e2, hR1⟩ := sim_back hR v1
  refine l_ax B dL_law_767 ?_
  refine l_arg (k := 1) B dL_law_768 dL_law_769 dL_law_770 dL_law_771 dL_law_772 (by decide) h1 ?_
  refine l_callX (As := [.int v1]) (st := []) B (k_X8_back l D cA aX B.2.2.2.2.2.2.2.2.2.2.2.1 v1 A) (cwV 1 B.2.2.2.2.2.1 gL_law_X8_back rfl rfl rfl (by decide +kernel) ⟨Nat.le_of_ble_eq_true rfl, Nat.le_of_ble_eq_true rfl⟩) e1 rfl rfl (Nat.le_of_ble_eq_true rfl) dL_law_773 ?_
  refine l_am B dL_law_776 ?_
  refine l_arg (k := 1) B dL_law_777 dL_law_778 dL_law_779 dL_law_780 dL_law_781 (by decide) h1 ?_
  refine l_callM (As := [.int v1]) (st := [.int r]) B (k_X9_back l D cA aM B.2.2.2.2.2.2.2.2.2.2.2.2.1 v1 M) (cwV 1 B.2.2.2.2.2.1 gL_law_X9_back rfl rfl rfl (by decide +kernel) ⟨Nat.le_of_ble_eq_true rfl, Nat.le_of_ble_eq_true rfl⟩) e2 rfl rfl (Nat.le_of_ble_eq_true rfl) dL_law_782 ?_
  exact l_eq B dL_law_785 (by decide) (next A1 M1 hR1)
set_option maxHeartbeats 4000000 in
set_option maxRecDepth 100000 in
theorem law_case_18 (B : Lx p s m meth c D cA aX aM b L xs) {n : Nat} (hn : n ≤ 64) (hR : Rel n A M) {v1 : Int32} (h1 : vp_in (x3 + 1) L ∧ xs (x3 + 1).toNatClampNeg = v1) (next : ∀ A1 M1 : Mem, Rel (n + 1) A1 M1 → LG p l e s m below meth c D cA aX aM b A1 M1 x3 1224 []) : LG p l e s m below meth c D cA aX aM b A M x3 790 [] := by
  obtain ⟨r, A1, M1, e1, e2, hR1⟩ := sim_calves hR v1
  refine l_ax B dL_law_790 ?_
  refine l_arg (k := 1) B dL_law_791 dL_law_792 dL_law_793 dL_law_794 dL_law_795 (by decide) h1 ?_
  refine l_callX (As := [.int v1]) (st := []) B (k_X8_calves l D cA aX B.2.2.2.2.2.2.2.2.2.2.2.1 v1 A) (cwV 1 B.2.2.2.2.2.1 gL_law_X8_calves rfl rfl rfl (by decide +kernel) ⟨Nat.le_of_ble_eq_true rfl, Nat.le_of_ble_eq_true rfl⟩) e1 rfl rfl (Nat.le_of_ble_eq_true rfl) dL_law_796 ?_
  refine l_am B dL_law_799 ?_
  refine l_arg (k := 1) B dL_law_800 dL_law_801 dL_law_802 dL_law_803 dL_law_804 (by decide) h1 ?_
  refine l_callM (As := [.int v1]) (st := [.int r]) B (k_X9_calves l D cA aM B.2.2.2.2.2.2.2.2.2.2.2.2.1 v1 M) (cwV 1 B.2.2.2.2.2.1 gL_law_X9_calves rfl rfl rfl (by decide +kernel) ⟨Nat.le_of_ble_eq_true rfl, Nat.le_of_ble_eq_true rfl⟩) e2 rfl rfl (Nat.le_of_ble_eq_true rfl) dL_law_805 ?_
  exact l_eq B dL_law_808 (by decide) (next A1 M1 hR1)
set_option maxHeartbeats 4000000 in
set_option maxRecDepth 100000 in
theorem law_case_19 (B : Lx p s m meth c D cA aX aM b L xs) {n : Nat} (hn : n ≤ 64) (hR : Rel n A M) {v1 : Int32} (h1 : vp_in (x3 + 1) L ∧ xs (x3 + 1).toNatClampNeg = v1) (next : ∀ A1 M1 : Mem, Rel (n + 1) A1 M1 → LG p l e s m below meth c D cA aX aM b A1 M1 x3 1224 []) : LG p l e s m below meth c D cA aX aM b A M x3 813 [] := by
  obtain ⟨r, A1, M1, e1, e2, hR1⟩ := sim_kinds hR v1
  refine l_ax B dL_law_813 ?_
  refine l_arg (k := 1) B dL_law_814 dL_law_815 dL_law_816 dL_law_817 dL_law_818 (by decide) h1 ?_
  refine l_callX (As := [.int v1]) (st := []) B (k_X8_kinds l D cA aX B.2.2.2.2.2.2.2.2.2.2.2.1 v1 A) (cwV 1 B.2.2.2.2.2.1 gL_law_X8_kinds rfl rfl rfl (by decide +kernel) ⟨Nat.le_of_ble_eq_true rfl, Nat.le_of_ble_eq_true rfl⟩) e1 rfl rfl (Nat.le_of_ble_eq_true rfl) dL_law_819 ?_
  refine l_am B dL_law_822 ?_
  refine l_arg (k := 1) B dL_law_823 dL_law_824 dL_law_825 dL_law_826 dL_law_827 (by decide) h1 ?_
  refine l_callM (As := [.int v1]) (st := [.int r]) B (k_X9_kinds l D cA aM B.2.2.2.2.2.2.2.2.2.2.2.2.1 v1 M) (cwV 1 B.2.2.2.2.2.1 gL_law_X9_kinds rfl rfl rfl (by decide +kernel) ⟨Nat.le_of_ble_eq_true rfl, Nat.le_of_ble_eq_true rfl⟩) e2 rfl rfl (Nat.le_of_ble_eq_true rfl) dL_law_828 ?_
  exact l_eq B dL_law_831 (by decide) (next A1 M1 hR1)
set_option maxHeartbeats 4000000 in
set_option maxRecDepth 100000 in
theorem law_case_20 (B : Lx p s m meth c D cA aX aM b L xs) {n : Nat} (hn : n ≤ 64) (hR : Rel n A M) {v1 v2 v3 : Int32} (h1 : vp_in (x3 + 1) L ∧ xs (x3 + 1).toNatClampNeg = v1) (h2 : vp_in (x3 + 2) L ∧ xs (x3 + 2).toNatClampNeg = v2) (h3 : vp_in (x3 + 3) L ∧ xs (x3 + 3).toNatClampNeg = v3) (next : ∀ A1 M1 : Mem, Rel (n + 1) A1 M1 → LG p l e s m below meth c D cA aX aM b A1 M1 x3 1224 []) : LG p l e s m below meth c D cA aX aM b A M x3 836 [] := by
  obtain ⟨r, A1, M1, e1, e2, hR1⟩ := sim_odds hR v1 v2 v3
  refine l_ax B dL_law_836 ?_
  refine l_arg (k := 1) B dL_law_837 dL_law_838 dL_law_839 dL_law_840 dL_law_841 (by decide) h1 ?_
  refine l_arg (k := 2) B dL_law_842 dL_law_843 dL_law_844 dL_law_845 dL_law_846 (by decide) h2 ?_
  refine l_arg (k := 3) B dL_law_847 dL_law_848 dL_law_849 dL_law_850 dL_law_851 (by decide) h3 ?_
  refine l_callXL (As := [.int v1, .int v2, .int v3]) (st := []) B (k_X8_odds l D cA aX B.2.2.2.2.2.2.2.2.2.2.2.1 v1 v2 v3 A) (cwV 3 B.2.2.2.2.2.1 gL_law_X8_odds rfl rfl rfl (by decide +kernel) ⟨Nat.le_of_ble_eq_true rfl, Nat.le_of_ble_eq_true rfl⟩) e1 rfl rfl (Nat.le_of_ble_eq_true rfl) dL_law_852 ?_
  refine l_am B dL_law_855 ?_
  refine l_arg (k := 1) B dL_law_856 dL_law_857 dL_law_858 dL_law_859 dL_law_860 (by decide) h1 ?_
  refine l_arg (k := 2) B dL_law_861 dL_law_862 dL_law_863 dL_law_864 dL_law_865 (by decide) h2 ?_
  refine l_arg (k := 3) B dL_law_866 dL_law_867 dL_law_868 dL_law_869 dL_law_870 (by decide) h3 ?_
  refine l_callML (As := [.int v1, .int v2, .int v3]) (st := [.long r]) B (k_X9_odds l D cA aM B.2.2.2.2.2.2.2.2.2.2.2.2.1 v1 v2 v3 M) (cwV 3 B.2.2.2.2.2.1 gL_law_X9_odds rfl rfl rfl (by decide +kernel) ⟨Nat.le_of_ble_eq_true rfl, Nat.le_of_ble_eq_true rfl⟩) e2 rfl rfl (Nat.le_of_ble_eq_true rfl) dL_law_871 ?_
  exact l_leq B dL_law_874 dL_law_875 (by decide) (next A1 M1 hR1)
set_option maxHeartbeats 4000000 in
set_option maxRecDepth 100000 in
theorem law_case_21 (B : Lx p s m meth c D cA aX aM b L xs) {n : Nat} (hn : n ≤ 64) (hR : Rel n A M) {v1 v2 v3 : Int32} (h1 : vp_in (x3 + 1) L ∧ xs (x3 + 1).toNatClampNeg = v1) (h2 : vp_in (x3 + 2) L ∧ xs (x3 + 2).toNatClampNeg = v2) (h3 : vp_in (x3 + 3) L ∧ xs (x3 + 3).toNatClampNeg = v3) (next : ∀ A1 M1 : Mem, Rel (n + 1) A1 M1 → LG p l e s m below meth c D cA aX aM b A1 M1 x3 1224 []) : LG p l e s m below meth c D cA aX aM b A M x3 880 [] := by
  obtain ⟨r, A1, M1, e1, e2, hR1⟩ := sim_sheet hR v1 v2 v3
  refine l_ax B dL_law_880 ?_
  refine l_arg (k := 1) B dL_law_881 dL_law_882 dL_law_883 dL_law_884 dL_law_885 (by decide) h1 ?_
  refine l_arg (k := 2) B dL_law_886 dL_law_887 dL_law_888 dL_law_889 dL_law_890 (by decide) h2 ?_
  refine l_arg (k := 3) B dL_law_891 dL_law_892 dL_law_893 dL_law_894 dL_law_895 (by decide) h3 ?_
  refine l_callX (As := [.int v1, .int v2, .int v3]) (st := []) B (k_X8_sheet l D cA aX B.2.2.2.2.2.2.2.2.2.2.2.1 v1 v2 v3 A) (cwV 3 B.2.2.2.2.2.1 gL_law_X8_sheet rfl rfl rfl (by decide +kernel) ⟨Nat.le_of_ble_eq_true rfl, Nat.le_of_ble_eq_true rfl⟩) e1 rfl rfl (Nat.le_of_ble_eq_true rfl) dL_law_896 ?_
  refine l_am B dL_law_899 ?_
  refine l_arg (k := 1) B dL_law_900 dL_law_901 dL_law_902 dL_law_903 dL_law_904 (by decide) h1 ?_
  refine l_arg (k := 2) B dL_law_905 dL_law_906 dL_law_907 dL_law_908 dL_law_909 (by decide) h2 ?_
  refine l_arg (k := 3) B dL_law_910 dL_law_911 dL_law_912 dL_law_913 dL_law_914 (by decide) h3 ?_
  refine l_callM (As := [.int v1, .int v2, .int v3]) (st := [.int r]) B (k_X9_sheet l D cA aM B.2.2.2.2.2.2.2.2.2.2.2.2.1 v1 v2 v3 M) (cwV 3 B.2.2.2.2.2.1 gL_law_X9_sheet rfl rfl rfl (by decide +kernel) ⟨Nat.le_of_ble_eq_true rfl, Nat.le_of_ble_eq_true rfl⟩) e2 rfl rfl (Nat.le_of_ble_eq_true rfl) dL_law_915 ?_
  exact l_eq B dL_law_918 (by decide) (next A1 M1 hR1)
set_option maxHeartbeats 4000000 in
set_option maxRecDepth 100000 in
theorem law_case_22 (B : Lx p s m meth c D cA aX aM b L xs) {n : Nat} (hn : n ≤ 64) (hR : Rel n A M) {v1 : Int32} (h1 : vp_in (x3 + 1) L ∧ xs (x3 + 1).toNatClampNeg = v1) (next : ∀ A1 M1 : Mem, Rel (n + 1) A1 M1 → LG p l e s m below meth c D cA aX aM b A1 M1 x3 1224 []) : LG p l e s m below meth c D cA aX aM b A M x3 923 [] := by
  obtain ⟨r, A1, M1, e1, e2, hR1⟩ := sim_lose hR v1
  refine l_ax B dL_law_923 ?_
  refine l_arg (k := 1) B dL_law_924 dL_law_925 dL_law_926 dL_law_927 dL_law_928 (by decide) h1 ?_
  refine l_callX (As := [.int v1]) (st := []) B (k_X8_lose l D cA aX B.2.2.2.2.2.2.2.2.2.2.2.1 v1 A) (cwV 1 B.2.2.2.2.2.1 gL_law_X8_lose rfl rfl rfl (by decide +kernel) ⟨Nat.le_of_ble_eq_true rfl, Nat.le_of_ble_eq_true rfl⟩) e1 rfl rfl (Nat.le_of_ble_eq_true rfl) dL_law_929 ?_
  refine l_am B dL_law_932 ?_
  refine l_arg (k := 1) B dL_law_933 dL_law_934 dL_law_935 dL_law_936 dL_law_937 (by decide) h1 ?_
  refine l_callM (As := [.int v1]) (st := [.int r]) B (k_X9_lose l D cA aM B.2.2.2.2.2.2.2.2.2.2.2.2.1 v1 M) (cwV 1 B.2.2.2.2.2.1 gL_law_X9_lose rfl rfl rfl (by decide +kernel) ⟨Nat.le_of_ble_eq_true rfl, Nat.le_of_ble_eq_true rfl⟩) e2 rfl rfl (Nat.le_of_ble_eq_true rfl) dL_law_938 ?_
  exact l_eq B dL_law_941 (by decide) (next A1 M1 hR1)
set_option maxHeartbeats 4000000 in
set_option maxRecDepth 100000 in
theorem law_case_23 (B : Lx p s m meth c D cA aX aM b L xs) {n : Nat} (hn : n ≤ 64) (hR : Rel n A M) {v1 v2 v3 : Int32} (h1 : vp_in (x3 + 1) L ∧ xs (x3 + 1).toNatClampNeg = v1) (h2 : vp_in (x3 + 2) L ∧ xs (x3 + 2).toNatClampNeg = v2) (h3 : vp_in (x3 + 3) L ∧ xs (x3 + 3).toNatClampNeg = v3) (next : ∀ A1 M1 : Mem, Rel (n + 1) A1 M1 → LG p l e s m below meth c D cA aX aM b A1 M1 x3 1224 []) : LG p l e s m below meth c D cA aX aM b A M x3 946 [] := by
  obtain ⟨r, A1, M1, e1, e2, hR1⟩ := sim_put hR v1 v2 v3
  refine l_ax B dL_law_946 ?_
  refine l_arg (k := 1) B dL_law_947 dL_law_948 dL_law_949 dL_law_950 dL_law_951 (by decide) h1 ?_
  refine l_arg (k := 2) B dL_law_952 dL_law_953 dL_law_954 dL_law_955 dL_law_956 (by decide) h2 ?_
  refine l_arg (k := 3) B dL_law_957 dL_law_958 dL_law_959 dL_law_960 dL_law_961 (by decide) h3 ?_
  refine l_callX (As := [.int v1, .int v2, .int v3]) (st := []) B (k_X8_put l D cA aX B.2.2.2.2.2.2.2.2.2.2.2.1 v1 v2 v3 A) (cwV 3 B.2.2.2.2.2.1 gL_law_X8_put rfl rfl rfl (by decide +kernel) ⟨Nat.le_of_ble_eq_true rfl, Nat.le_of_ble_eq_true rfl⟩) e1 rfl rfl (Nat.le_of_ble_eq_true rfl) dL_law_962 ?_
  refine l_am B dL_law_965 ?_
  refine l_arg (k := 1) B dL_law_966 dL_law_967 dL_law_968 dL_law_969 dL_law_970 (by decide) h1 ?_
  refine l_arg (k := 2) B dL_law_971 dL_law_972 dL_law_973 dL_law_974 dL_law_975 (by decide) h2 ?_
  refine l_arg (k := 3) B dL_law_976 dL_law_977 dL_law_978 dL_law_979 dL_law_980 (by decide) h3 ?_
  refine l_callM (As := [.int v1, .int v2, .int v3]) (st := [.int r]) B (k_X9_put l D cA aM B.2.2.2.2.2.2.2.2.2.2.2.2.1 v1 v2 v3 M) (cwV 3 B.2.2.2.2.2.1 gL_law_X9_put rfl rfl rfl (by decide +kernel) ⟨Nat.le_of_ble_eq_true rfl, Nat.le_of_ble_eq_true rfl⟩) e2 rfl rfl (Nat.le_of_ble_eq_true rfl) dL_law_981 ?_
  exact l_eq B dL_law_984 (by decide) (next A1 M1 hR1)
end LC2