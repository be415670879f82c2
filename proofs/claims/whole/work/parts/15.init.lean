/-! both constructors, printed by wip/whole/gen_init.py -/
theorem nf_0 : ∀ j, j < 5 → defaultValue (tyX0 j) = f_v 0 (fun _ _ => 0) 0 j (([1, 1, 1, 0, 0] : List Nat).getD j 0) := by decide +kernel
theorem nf_1 : ∀ j, j < 3 → defaultValue (tyX1 j) = f_v 0 (fun _ _ => 0) 0 j (([1, 1, 1] : List Nat).getD j 0) := by decide +kernel
theorem nf_2 : ∀ j, j < 3 → defaultValue (tyX2 j) = f_v 0 (fun _ _ => 0) 0 j (([1, 1, 1] : List Nat).getD j 0) := by decide +kernel
theorem nf_3 : ∀ j, j < 8 → defaultValue (tyX3 j) = f_v 0 (fun _ _ => 0) 0 j (([1, 1, 0, 1, 1, 1, 1, 0] : List Nat).getD j 0) := by decide +kernel
theorem nf_4 : ∀ j, j < 4 → defaultValue (tyX4 j) = f_v 0 (fun _ _ => 0) 0 j (([1, 1, 1, 0] : List Nat).getD j 0) := by decide +kernel
theorem nf_5 : ∀ j, j < 3 → defaultValue (tyX5 j) = f_v 0 (fun _ _ => 0) 0 j (([1, 1, 1] : List Nat).getD j 0) := by decide +kernel
theorem nf_6 : ∀ j, j < 3 → defaultValue (tyX6 j) = f_v 0 (fun _ _ => 0) 0 j (([0, 1, 1] : List Nat).getD j 0) := by decide +kernel
theorem nf_7 : ∀ j, j < 12 → defaultValue (tyX7 j) = f_v 0 (fun _ _ => 0) 0 j (([0, 0, 0, 0, 0, 1, 1, 1, 1, 1, 1, 1] : List Nat).getD j 0) := by decide +kernel
theorem nf_8 : ∀ j, j < 12 → defaultValue (tyX8 j) = f_v 0 (fun _ _ => 0) 0 j (([1, 1, 1, 0, 1, 1, 1, 1, 1, 1, 1, 1] : List Nat).getD j 0) := by decide +kernel
theorem nf_9 : ∀ j, j < 22 → defaultValue (tyX9 j) = f_v 0 (fun _ _ => 0) 0 j (([1, 1, 1, 1, 1, 0, 1, 1, 0, 0, 0, 0, 0, 1, 1, 1, 1, 0, 0, 0, 1, 0] : List Nat).getD j 0) := by decide +kernel
abbrev k_X7_init_1 : kX := (cX7_init, "WhoseHourItIs$Town", "<init>", none, 1, 1)
def m_X7_init_1_1 (m : mM) : mM := m_up m 1 3 (-9)
def s_X7_init_1_2 (sh : Nat → hSh) : Nat → hSh := s_ups (s_up sh 2 (.inr (.inl (8, 3)))) 3 8 (.inl 3)
def m_X7_init_1_3 (m : mM) : mM := m_clrs (m_X7_init_1_1 m) 3 8
def s_X7_init_1_4 (sh : Nat → hSh) : Nat → hSh := s_up (s_X7_init_1_2 sh) 1 (.inr (.inr (7, [0, 0, 0, 0, 0, 4, 1, 1, 1, 1, 1, 1])))
def s_X7_init_1_5 (sh : Nat → hSh) : Nat → hSh := s_up (s_X7_init_1_4 sh) 11 (.inl 8)
def m_X7_init_1_6 (m : mM) : mM := m_clr (m_X7_init_1_3 m) 11
def s_X7_init_1_7 (sh : Nat → hSh) : Nat → hSh := s_up (s_X7_init_1_5 sh) 1 (.inr (.inr (7, [0, 0, 0, 0, 0, 4, 13, 1, 1, 1, 1, 1])))
def s_X7_init_1_8 (sh : Nat → hSh) : Nat → hSh := s_up (s_X7_init_1_7 sh) 12 (.inl 8)
def m_X7_init_1_9 (m : mM) : mM := m_clr (m_X7_init_1_6 m) 12
def m_X7_init_1_10 (m : mM) : mM := m_up (m_X7_init_1_9 m) 12 0 (-9)
def m_X7_init_1_11 (m : mM) : mM := m_up (m_X7_init_1_10 m) 12 1 (-9)
def m_X7_init_1_12 (m : mM) : mM := m_up (m_X7_init_1_11 m) 12 2 (-9)
def m_X7_init_1_13 (m : mM) : mM := m_up (m_X7_init_1_12 m) 12 3 (-9)
def m_X7_init_1_14 (m : mM) : mM := m_up (m_X7_init_1_13 m) 12 4 (-9)
def m_X7_init_1_15 (m : mM) : mM := m_up (m_X7_init_1_14 m) 12 5 (-9)
def m_X7_init_1_16 (m : mM) : mM := m_up (m_X7_init_1_15 m) 12 6 (-9)
def m_X7_init_1_17 (m : mM) : mM := m_up (m_X7_init_1_16 m) 12 7 (-9)
def s_X7_init_1_18 (sh : Nat → hSh) : Nat → hSh := s_up (s_X7_init_1_8 sh) 1 (.inr (.inr (7, [0, 0, 0, 0, 0, 4, 13, 14, 1, 1, 1, 1])))
def s_X7_init_1_19 (sh : Nat → hSh) : Nat → hSh := s_up (s_X7_init_1_18 sh) 13 (.inl 28)
def m_X7_init_1_20 (m : mM) : mM := m_clr (m_X7_init_1_17 m) 13
def s_X7_init_1_21 (sh : Nat → hSh) : Nat → hSh := s_up (s_X7_init_1_19 sh) 1 (.inr (.inr (7, [0, 0, 0, 0, 0, 4, 13, 14, 15, 1, 1, 1])))
def s_X7_init_1_22 (sh : Nat → hSh) : Nat → hSh := s_ups (s_up (s_X7_init_1_21 sh) 14 (.inr (.inl (28, 15)))) 15 28 (.inl 3)
def m_X7_init_1_23 (m : mM) : mM := m_clrs (m_X7_init_1_20 m) 15 28
def s_X7_init_1_24 (sh : Nat → hSh) : Nat → hSh := s_up (s_X7_init_1_22 sh) 1 (.inr (.inr (7, [0, 0, 0, 0, 0, 4, 13, 14, 15, 16, 1, 1])))
def s_X7_init_1_25 (sh : Nat → hSh) : Nat → hSh := s_ups (s_up (s_X7_init_1_24 sh) 43 (.inr (.inl (6, 44)))) 44 6 (.inl 6)
def m_X7_init_1_26 (m : mM) : mM := m_clrs (m_X7_init_1_23 m) 44 6
def s_X7_init_1_27 (sh : Nat → hSh) : Nat → hSh := s_up (s_X7_init_1_25 sh) 1 (.inr (.inr (7, [0, 0, 0, 0, 0, 4, 13, 14, 15, 16, 45, 1])))
def s_X7_init_1_28 (sh : Nat → hSh) : Nat → hSh := s_up (s_X7_init_1_27 sh) 50 (.inl 4)
def m_X7_init_1_29 (m : mM) : mM := m_clr (m_X7_init_1_26 m) 50
def m_X7_init_1_30 (m : mM) : mM := m_up (m_X7_init_1_29 m) 50 0 (100)
def m_X7_init_1_31 (m : mM) : mM := m_up (m_X7_init_1_30 m) 50 1 (100)
def m_X7_init_1_32 (m : mM) : mM := m_up (m_X7_init_1_31 m) 50 2 (100)
def m_X7_init_1_33 (m : mM) : mM := m_up (m_X7_init_1_32 m) 50 3 (100)
def s_X7_init_1_34 (sh : Nat → hSh) : Nat → hSh := s_up (s_X7_init_1_28 sh) 1 (.inr (.inr (7, [0, 0, 0, 0, 0, 4, 13, 14, 15, 16, 45, 52])))
def sF_X7_init_1 (sh : Nat → hSh) : Nat → hSh := (s_X7_init_1_34 sh)
def mF_X7_init_1 (m : mM) : mM := (m_X7_init_1_33 m)
set_option maxRecDepth 100000 in
set_option maxHeartbeats 4000000 in
theorem i_X7_init_1 {V : eV} {sh : Nat → hSh} {m : mM} (hs : sh 1 = .inr (.inr (7, [0, 0, 0, 0, 0, 1, 1, 1, 1, 1, 1, 1]))) : eE V 1 yX7_init cX7_init 1 none [.ref (vB V + 1)] (2, 24, sh, m) none (51, 258, sF_X7_init_1 sh, mF_X7_init_1 m) := by
  refine eE_of (by decide) (Nat.le_of_ble_eq_true rfl) ?_
  show gG V k_X7_init_1 0 [(0, .ref (vB V + 1))] [] (2, 24, sh, m) none (51, 258, (s_X7_init_1_34 sh), (m_X7_init_1_33 m))
  refine g_aload_n 0 dX7_init_0 rfl rfl ?_
  refine g_objInit w_88 w_81 w_82 (Nat.le_of_ble_eq_true rfl) (Nat.le_of_ble_eq_true rfl) dX7_init_1 ?_
  refine g_aload_n 0 dX7_init_4 rfl rfl ?_
  refine g_bipush (v := -9) dX7_init_5 rfl ?_
  refine g_putI (k := 3) (T := TX7) (N := 12) (C := RX7) (ty := .int) tyX7 dX7_init_7 (Nat.le_of_ble_eq_true rfl) hs rfl (by decide) inT_7 tyX7_ok nmX7 w_107 rfl rfl (by decide +kernel) rfl rfl ?_
  show gG V k_X7_init_1 10 [(0, .ref (vB V + 1))] [] (2, 24, sh, (m_X7_init_1_1 m)) _ _
  refine g_aload_n 0 dX7_init_10 rfl rfl ?_
  refine g_bipush (v := 8) dX7_init_11 rfl ?_
  refine g_iconst (v := 3) dX7_init_13 rfl ?_
  refine g_mna (N := 8) (M := 3) w_89 dX7_init_14 (by decide) (by decide) rfl rfl (by decide) (by decide) ?_
  show gG V k_X7_init_1 18 [(0, .ref (vB V + 1))] [.ref (vB V + 2), .ref (vB V + 1)] (11, 56, (s_X7_init_1_2 sh), (m_X7_init_1_3 m)) _ _
  refine g_putR (k := 5) (T := TX7) (N := 12) (C := RX7) (ty := (.array (.array .int))) tyX7 dX7_init_18 (Nat.le_of_ble_eq_true rfl) hs rfl (by decide) inT_7 tyX7_ok nmX7 w_111 rfl rfl rfl (by decide) (by decide +kernel) rfl rfl ?_
  show gG V k_X7_init_1 21 [(0, .ref (vB V + 1))] [] (11, 56, (s_X7_init_1_4 sh), (m_X7_init_1_3 m)) _ _
  refine g_aload_n 0 dX7_init_21 rfl rfl ?_
  refine g_bipush (v := 8) dX7_init_22 rfl ?_
  refine g_newa (N := 8) w_167 dX7_init_24 (by decide) rfl (by decide) ?_
  show gG V k_X7_init_1 26 [(0, .ref (vB V + 1))] [.ref (vB V + 11), .ref (vB V + 1)] (12, 64, (s_X7_init_1_5 sh), (m_X7_init_1_6 m)) _ _
  refine g_putR (k := 6) (T := TX7) (N := 12) (C := RX7) (ty := (.array .int)) tyX7 dX7_init_26 (Nat.le_of_ble_eq_true rfl) rfl rfl (by decide) inT_7 tyX7_ok nmX7 w_115 rfl rfl rfl (by decide) (by decide +kernel) rfl rfl ?_
  show gG V k_X7_init_1 29 [(0, .ref (vB V + 1))] [] (12, 64, (s_X7_init_1_7 sh), (m_X7_init_1_6 m)) _ _
  refine g_aload_n 0 dX7_init_29 rfl rfl ?_
  refine g_bipush (v := 8) dX7_init_30 rfl ?_
  refine g_newa (N := 8) w_167 dX7_init_32 (by decide) rfl (by decide) ?_
  show gG V k_X7_init_1 34 [(0, .ref (vB V + 1))] [.ref (vB V + 12), .ref (vB V + 1)] (13, 72, (s_X7_init_1_8 sh), (m_X7_init_1_9 m)) _ _
  refine g_dup dX7_init_34 rfl ?_
  refine g_iconst (v := 0) dX7_init_35 rfl ?_
  refine g_bipush (v := -9) dX7_init_36 rfl ?_
  refine g_iast (n := 8) dX7_init_38 (Nat.le_of_ble_eq_true rfl) rfl (by unfold vp_in; decide) ?_
  show gG V k_X7_init_1 39 [(0, .ref (vB V + 1))] [.ref (vB V + 12), .ref (vB V + 1)] (13, 72, (s_X7_init_1_8 sh), (m_X7_init_1_10 m)) _ _
  refine g_dup dX7_init_39 rfl ?_
  refine g_iconst (v := 1) dX7_init_40 rfl ?_
  refine g_bipush (v := -9) dX7_init_41 rfl ?_
  refine g_iast (n := 8) dX7_init_43 (Nat.le_of_ble_eq_true rfl) rfl (by unfold vp_in; decide) ?_
  show gG V k_X7_init_1 44 [(0, .ref (vB V + 1))] [.ref (vB V + 12), .ref (vB V + 1)] (13, 72, (s_X7_init_1_8 sh), (m_X7_init_1_11 m)) _ _
  refine g_dup dX7_init_44 rfl ?_
  refine g_iconst (v := 2) dX7_init_45 rfl ?_
  refine g_bipush (v := -9) dX7_init_46 rfl ?_
  refine g_iast (n := 8) dX7_init_48 (Nat.le_of_ble_eq_true rfl) rfl (by unfold vp_in; decide) ?_
  show gG V k_X7_init_1 49 [(0, .ref (vB V + 1))] [.ref (vB V + 12), .ref (vB V + 1)] (13, 72, (s_X7_init_1_8 sh), (m_X7_init_1_12 m)) _ _
  refine g_dup dX7_init_49 rfl ?_
  refine g_iconst (v := 3) dX7_init_50 rfl ?_
  refine g_bipush (v := -9) dX7_init_51 rfl ?_
  refine g_iast (n := 8) dX7_init_53 (Nat.le_of_ble_eq_true rfl) rfl (by unfold vp_in; decide) ?_
  show gG V k_X7_init_1 54 [(0, .ref (vB V + 1))] [.ref (vB V + 12), .ref (vB V + 1)] (13, 72, (s_X7_init_1_8 sh), (m_X7_init_1_13 m)) _ _
  refine g_dup dX7_init_54 rfl ?_
  refine g_iconst (v := 4) dX7_init_55 rfl ?_
  refine g_bipush (v := -9) dX7_init_56 rfl ?_
  refine g_iast (n := 8) dX7_init_58 (Nat.le_of_ble_eq_true rfl) rfl (by unfold vp_in; decide) ?_
  show gG V k_X7_init_1 59 [(0, .ref (vB V + 1))] [.ref (vB V + 12), .ref (vB V + 1)] (13, 72, (s_X7_init_1_8 sh), (m_X7_init_1_14 m)) _ _
  refine g_dup dX7_init_59 rfl ?_
  refine g_iconst (v := 5) dX7_init_60 rfl ?_
  refine g_bipush (v := -9) dX7_init_61 rfl ?_
  refine g_iast (n := 8) dX7_init_63 (Nat.le_of_ble_eq_true rfl) rfl (by unfold vp_in; decide) ?_
  show gG V k_X7_init_1 64 [(0, .ref (vB V + 1))] [.ref (vB V + 12), .ref (vB V + 1)] (13, 72, (s_X7_init_1_8 sh), (m_X7_init_1_15 m)) _ _
  refine g_dup dX7_init_64 rfl ?_
  refine g_bipush (v := 6) dX7_init_65 rfl ?_
  refine g_bipush (v := -9) dX7_init_67 rfl ?_
  refine g_iast (n := 8) dX7_init_69 (Nat.le_of_ble_eq_true rfl) rfl (by unfold vp_in; decide) ?_
  show gG V k_X7_init_1 70 [(0, .ref (vB V + 1))] [.ref (vB V + 12), .ref (vB V + 1)] (13, 72, (s_X7_init_1_8 sh), (m_X7_init_1_16 m)) _ _
  refine g_dup dX7_init_70 rfl ?_
  refine g_bipush (v := 7) dX7_init_71 rfl ?_
  refine g_bipush (v := -9) dX7_init_73 rfl ?_
  refine g_iast (n := 8) dX7_init_75 (Nat.le_of_ble_eq_true rfl) rfl (by unfold vp_in; decide) ?_
  show gG V k_X7_init_1 76 [(0, .ref (vB V + 1))] [.ref (vB V + 12), .ref (vB V + 1)] (13, 72, (s_X7_init_1_8 sh), (m_X7_init_1_17 m)) _ _
  refine g_putR (k := 7) (T := TX7) (N := 12) (C := RX7) (ty := (.array .int)) tyX7 dX7_init_76 (Nat.le_of_ble_eq_true rfl) rfl rfl (by decide) inT_7 tyX7_ok nmX7 w_119 rfl rfl rfl (by decide) (by decide +kernel) rfl rfl ?_
  show gG V k_X7_init_1 79 [(0, .ref (vB V + 1))] [] (13, 72, (s_X7_init_1_18 sh), (m_X7_init_1_17 m)) _ _
  refine g_aload_n 0 dX7_init_79 rfl rfl ?_
  refine g_bipush (v := 28) dX7_init_80 rfl ?_
  refine g_newa (N := 28) w_167 dX7_init_82 (by decide) rfl (by decide) ?_
  show gG V k_X7_init_1 84 [(0, .ref (vB V + 1))] [.ref (vB V + 13), .ref (vB V + 1)] (14, 100, (s_X7_init_1_19 sh), (m_X7_init_1_20 m)) _ _
  refine g_putR (k := 8) (T := TX7) (N := 12) (C := RX7) (ty := (.array .int)) tyX7 dX7_init_84 (Nat.le_of_ble_eq_true rfl) rfl rfl (by decide) inT_7 tyX7_ok nmX7 w_122 rfl rfl rfl (by decide) (by decide +kernel) rfl rfl ?_
  show gG V k_X7_init_1 87 [(0, .ref (vB V + 1))] [] (14, 100, (s_X7_init_1_21 sh), (m_X7_init_1_20 m)) _ _
  refine g_aload_n 0 dX7_init_87 rfl rfl ?_
  refine g_bipush (v := 28) dX7_init_88 rfl ?_
  refine g_iconst (v := 3) dX7_init_90 rfl ?_
  refine g_mna (N := 28) (M := 3) w_89 dX7_init_91 (by decide) (by decide) rfl rfl (by decide) (by decide) ?_
  show gG V k_X7_init_1 95 [(0, .ref (vB V + 1))] [.ref (vB V + 14), .ref (vB V + 1)] (43, 212, (s_X7_init_1_22 sh), (m_X7_init_1_23 m)) _ _
  refine g_putR (k := 9) (T := TX7) (N := 12) (C := RX7) (ty := (.array (.array .int))) tyX7 dX7_init_95 (Nat.le_of_ble_eq_true rfl) rfl rfl (by decide) inT_7 tyX7_ok nmX7 w_127 rfl rfl rfl (by decide) (by decide +kernel) rfl rfl ?_
  show gG V k_X7_init_1 98 [(0, .ref (vB V + 1))] [] (43, 212, (s_X7_init_1_24 sh), (m_X7_init_1_23 m)) _ _
  refine g_aload_n 0 dX7_init_98 rfl rfl ?_
  refine g_bipush (v := 6) dX7_init_99 rfl ?_
  refine g_bipush (v := 6) dX7_init_101 rfl ?_
  refine g_mna (N := 6) (M := 6) w_89 dX7_init_103 (by decide) (by decide) rfl rfl (by decide) (by decide) ?_
  show gG V k_X7_init_1 107 [(0, .ref (vB V + 1))] [.ref (vB V + 43), .ref (vB V + 1)] (50, 254, (s_X7_init_1_25 sh), (m_X7_init_1_26 m)) _ _
  refine g_putR (k := 10) (T := TX7) (N := 12) (C := RX7) (ty := (.array (.array .int))) tyX7 dX7_init_107 (Nat.le_of_ble_eq_true rfl) rfl rfl (by decide) inT_7 tyX7_ok nmX7 w_131 rfl rfl rfl (by decide) (by decide +kernel) rfl rfl ?_
  show gG V k_X7_init_1 110 [(0, .ref (vB V + 1))] [] (50, 254, (s_X7_init_1_27 sh), (m_X7_init_1_26 m)) _ _
  refine g_aload_n 0 dX7_init_110 rfl rfl ?_
  refine g_iconst (v := 4) dX7_init_111 rfl ?_
  refine g_newa (N := 4) w_167 dX7_init_112 (by decide) rfl (by decide) ?_
  show gG V k_X7_init_1 114 [(0, .ref (vB V + 1))] [.ref (vB V + 50), .ref (vB V + 1)] (51, 258, (s_X7_init_1_28 sh), (m_X7_init_1_29 m)) _ _
  refine g_dup dX7_init_114 rfl ?_
  refine g_iconst (v := 0) dX7_init_115 rfl ?_
  refine g_bipush (v := 100) dX7_init_116 rfl ?_
  refine g_iast (n := 4) dX7_init_118 (Nat.le_of_ble_eq_true rfl) rfl (by unfold vp_in; decide) ?_
  show gG V k_X7_init_1 119 [(0, .ref (vB V + 1))] [.ref (vB V + 50), .ref (vB V + 1)] (51, 258, (s_X7_init_1_28 sh), (m_X7_init_1_30 m)) _ _
  refine g_dup dX7_init_119 rfl ?_
  refine g_iconst (v := 1) dX7_init_120 rfl ?_
  refine g_bipush (v := 100) dX7_init_121 rfl ?_
  refine g_iast (n := 4) dX7_init_123 (Nat.le_of_ble_eq_true rfl) rfl (by unfold vp_in; decide) ?_
  show gG V k_X7_init_1 124 [(0, .ref (vB V + 1))] [.ref (vB V + 50), .ref (vB V + 1)] (51, 258, (s_X7_init_1_28 sh), (m_X7_init_1_31 m)) _ _
  refine g_dup dX7_init_124 rfl ?_
  refine g_iconst (v := 2) dX7_init_125 rfl ?_
  refine g_bipush (v := 100) dX7_init_126 rfl ?_
  refine g_iast (n := 4) dX7_init_128 (Nat.le_of_ble_eq_true rfl) rfl (by unfold vp_in; decide) ?_
  show gG V k_X7_init_1 129 [(0, .ref (vB V + 1))] [.ref (vB V + 50), .ref (vB V + 1)] (51, 258, (s_X7_init_1_28 sh), (m_X7_init_1_32 m)) _ _
  refine g_dup dX7_init_129 rfl ?_
  refine g_iconst (v := 3) dX7_init_130 rfl ?_
  refine g_bipush (v := 100) dX7_init_131 rfl ?_
  refine g_iast (n := 4) dX7_init_133 (Nat.le_of_ble_eq_true rfl) rfl (by unfold vp_in; decide) ?_
  show gG V k_X7_init_1 134 [(0, .ref (vB V + 1))] [.ref (vB V + 50), .ref (vB V + 1)] (51, 258, (s_X7_init_1_28 sh), (m_X7_init_1_33 m)) _ _
  refine g_putR (k := 11) (T := TX7) (N := 12) (C := RX7) (ty := (.array .int)) tyX7 dX7_init_134 (Nat.le_of_ble_eq_true rfl) rfl rfl (by decide) inT_7 tyX7_ok nmX7 w_139 rfl rfl rfl (by decide) (by decide +kernel) rfl rfl ?_
  show gG V k_X7_init_1 137 [(0, .ref (vB V + 1))] [] (51, 258, (s_X7_init_1_34 sh), (m_X7_init_1_33 m)) _ _
  exact g_vret dX7_init_137 rfl
abbrev k_X7_init_51 : kX := (cX7_init, "WhoseHourItIs$Town", "<init>", none, 1, 1)
def m_X7_init_51_1 (m : mM) : mM := m_up m 51 3 (-9)
def s_X7_init_51_2 (sh : Nat → hSh) : Nat → hSh := s_ups (s_up sh 52 (.inr (.inl (8, 53)))) 53 8 (.inl 3)
def m_X7_init_51_3 (m : mM) : mM := m_clrs (m_X7_init_51_1 m) 53 8
def s_X7_init_51_4 (sh : Nat → hSh) : Nat → hSh := s_up (s_X7_init_51_2 sh) 51 (.inr (.inr (7, [0, 0, 0, 0, 0, 54, 1, 1, 1, 1, 1, 1])))
def s_X7_init_51_5 (sh : Nat → hSh) : Nat → hSh := s_up (s_X7_init_51_4 sh) 61 (.inl 8)
def m_X7_init_51_6 (m : mM) : mM := m_clr (m_X7_init_51_3 m) 61
def s_X7_init_51_7 (sh : Nat → hSh) : Nat → hSh := s_up (s_X7_init_51_5 sh) 51 (.inr (.inr (7, [0, 0, 0, 0, 0, 54, 63, 1, 1, 1, 1, 1])))
def s_X7_init_51_8 (sh : Nat → hSh) : Nat → hSh := s_up (s_X7_init_51_7 sh) 62 (.inl 8)
def m_X7_init_51_9 (m : mM) : mM := m_clr (m_X7_init_51_6 m) 62
def m_X7_init_51_10 (m : mM) : mM := m_up (m_X7_init_51_9 m) 62 0 (-9)
def m_X7_init_51_11 (m : mM) : mM := m_up (m_X7_init_51_10 m) 62 1 (-9)
def m_X7_init_51_12 (m : mM) : mM := m_up (m_X7_init_51_11 m) 62 2 (-9)
def m_X7_init_51_13 (m : mM) : mM := m_up (m_X7_init_51_12 m) 62 3 (-9)
def m_X7_init_51_14 (m : mM) : mM := m_up (m_X7_init_51_13 m) 62 4 (-9)
def m_X7_init_51_15 (m : mM) : mM := m_up (m_X7_init_51_14 m) 62 5 (-9)
def m_X7_init_51_16 (m : mM) : mM := m_up (m_X7_init_51_15 m) 62 6 (-9)
def m_X7_init_51_17 (m : mM) : mM := m_up (m_X7_init_51_16 m) 62 7 (-9)
def s_X7_init_51_18 (sh : Nat → hSh) : Nat → hSh := s_up (s_X7_init_51_8 sh) 51 (.inr (.inr (7, [0, 0, 0, 0, 0, 54, 63, 64, 1, 1, 1, 1])))
def s_X7_init_51_19 (sh : Nat → hSh) : Nat → hSh := s_up (s_X7_init_51_18 sh) 63 (.inl 28)
def m_X7_init_51_20 (m : mM) : mM := m_clr (m_X7_init_51_17 m) 63
def s_X7_init_51_21 (sh : Nat → hSh) : Nat → hSh := s_up (s_X7_init_51_19 sh) 51 (.inr (.inr (7, [0, 0, 0, 0, 0, 54, 63, 64, 65, 1, 1, 1])))
def s_X7_init_51_22 (sh : Nat → hSh) : Nat → hSh := s_ups (s_up (s_X7_init_51_21 sh) 64 (.inr (.inl (28, 65)))) 65 28 (.inl 3)
def m_X7_init_51_23 (m : mM) : mM := m_clrs (m_X7_init_51_20 m) 65 28
def s_X7_init_51_24 (sh : Nat → hSh) : Nat → hSh := s_up (s_X7_init_51_22 sh) 51 (.inr (.inr (7, [0, 0, 0, 0, 0, 54, 63, 64, 65, 66, 1, 1])))
def s_X7_init_51_25 (sh : Nat → hSh) : Nat → hSh := s_ups (s_up (s_X7_init_51_24 sh) 93 (.inr (.inl (6, 94)))) 94 6 (.inl 6)
def m_X7_init_51_26 (m : mM) : mM := m_clrs (m_X7_init_51_23 m) 94 6
def s_X7_init_51_27 (sh : Nat → hSh) : Nat → hSh := s_up (s_X7_init_51_25 sh) 51 (.inr (.inr (7, [0, 0, 0, 0, 0, 54, 63, 64, 65, 66, 95, 1])))
def s_X7_init_51_28 (sh : Nat → hSh) : Nat → hSh := s_up (s_X7_init_51_27 sh) 100 (.inl 4)
def m_X7_init_51_29 (m : mM) : mM := m_clr (m_X7_init_51_26 m) 100
def m_X7_init_51_30 (m : mM) : mM := m_up (m_X7_init_51_29 m) 100 0 (100)
def m_X7_init_51_31 (m : mM) : mM := m_up (m_X7_init_51_30 m) 100 1 (100)
def m_X7_init_51_32 (m : mM) : mM := m_up (m_X7_init_51_31 m) 100 2 (100)
def m_X7_init_51_33 (m : mM) : mM := m_up (m_X7_init_51_32 m) 100 3 (100)
def s_X7_init_51_34 (sh : Nat → hSh) : Nat → hSh := s_up (s_X7_init_51_28 sh) 51 (.inr (.inr (7, [0, 0, 0, 0, 0, 54, 63, 64, 65, 66, 95, 102])))
def sF_X7_init_51 (sh : Nat → hSh) : Nat → hSh := (s_X7_init_51_34 sh)
def mF_X7_init_51 (m : mM) : mM := (m_X7_init_51_33 m)
set_option maxRecDepth 100000 in
set_option maxHeartbeats 4000000 in
theorem i_X7_init_51 {V : eV} {sh : Nat → hSh} {m : mM} (hs : sh 51 = .inr (.inr (7, [0, 0, 0, 0, 0, 1, 1, 1, 1, 1, 1, 1]))) : eE V 1 yX7_init cX7_init 1 none [.ref (vB V + 51)] (52, 270, sh, m) none (101, 504, sF_X7_init_51 sh, mF_X7_init_51 m) := by
  refine eE_of (by decide) (Nat.le_of_ble_eq_true rfl) ?_
  show gG V k_X7_init_51 0 [(0, .ref (vB V + 51))] [] (52, 270, sh, m) none (101, 504, (s_X7_init_51_34 sh), (m_X7_init_51_33 m))
  refine g_aload_n 0 dX7_init_0 rfl rfl ?_
  refine g_objInit w_88 w_81 w_82 (Nat.le_of_ble_eq_true rfl) (Nat.le_of_ble_eq_true rfl) dX7_init_1 ?_
  refine g_aload_n 0 dX7_init_4 rfl rfl ?_
  refine g_bipush (v := -9) dX7_init_5 rfl ?_
  refine g_putI (k := 3) (T := TX7) (N := 12) (C := RX7) (ty := .int) tyX7 dX7_init_7 (Nat.le_of_ble_eq_true rfl) hs rfl (by decide) inT_7 tyX7_ok nmX7 w_107 rfl rfl (by decide +kernel) rfl rfl ?_
  show gG V k_X7_init_51 10 [(0, .ref (vB V + 51))] [] (52, 270, sh, (m_X7_init_51_1 m)) _ _
  refine g_aload_n 0 dX7_init_10 rfl rfl ?_
  refine g_bipush (v := 8) dX7_init_11 rfl ?_
  refine g_iconst (v := 3) dX7_init_13 rfl ?_
  refine g_mna (N := 8) (M := 3) w_89 dX7_init_14 (by decide) (by decide) rfl rfl (by decide) (by decide) ?_
  show gG V k_X7_init_51 18 [(0, .ref (vB V + 51))] [.ref (vB V + 52), .ref (vB V + 51)] (61, 302, (s_X7_init_51_2 sh), (m_X7_init_51_3 m)) _ _
  refine g_putR (k := 5) (T := TX7) (N := 12) (C := RX7) (ty := (.array (.array .int))) tyX7 dX7_init_18 (Nat.le_of_ble_eq_true rfl) hs rfl (by decide) inT_7 tyX7_ok nmX7 w_111 rfl rfl rfl (by decide) (by decide +kernel) rfl rfl ?_
  show gG V k_X7_init_51 21 [(0, .ref (vB V + 51))] [] (61, 302, (s_X7_init_51_4 sh), (m_X7_init_51_3 m)) _ _
  refine g_aload_n 0 dX7_init_21 rfl rfl ?_
  refine g_bipush (v := 8) dX7_init_22 rfl ?_
  refine g_newa (N := 8) w_167 dX7_init_24 (by decide) rfl (by decide) ?_
  show gG V k_X7_init_51 26 [(0, .ref (vB V + 51))] [.ref (vB V + 61), .ref (vB V + 51)] (62, 310, (s_X7_init_51_5 sh), (m_X7_init_51_6 m)) _ _
  refine g_putR (k := 6) (T := TX7) (N := 12) (C := RX7) (ty := (.array .int)) tyX7 dX7_init_26 (Nat.le_of_ble_eq_true rfl) rfl rfl (by decide) inT_7 tyX7_ok nmX7 w_115 rfl rfl rfl (by decide) (by decide +kernel) rfl rfl ?_
  show gG V k_X7_init_51 29 [(0, .ref (vB V + 51))] [] (62, 310, (s_X7_init_51_7 sh), (m_X7_init_51_6 m)) _ _
  refine g_aload_n 0 dX7_init_29 rfl rfl ?_
  refine g_bipush (v := 8) dX7_init_30 rfl ?_
  refine g_newa (N := 8) w_167 dX7_init_32 (by decide) rfl (by decide) ?_
  show gG V k_X7_init_51 34 [(0, .ref (vB V + 51))] [.ref (vB V + 62), .ref (vB V + 51)] (63, 318, (s_X7_init_51_8 sh), (m_X7_init_51_9 m)) _ _
  refine g_dup dX7_init_34 rfl ?_
  refine g_iconst (v := 0) dX7_init_35 rfl ?_
  refine g_bipush (v := -9) dX7_init_36 rfl ?_
  refine g_iast (n := 8) dX7_init_38 (Nat.le_of_ble_eq_true rfl) rfl (by unfold vp_in; decide) ?_
  show gG V k_X7_init_51 39 [(0, .ref (vB V + 51))] [.ref (vB V + 62), .ref (vB V + 51)] (63, 318, (s_X7_init_51_8 sh), (m_X7_init_51_10 m)) _ _
  refine g_dup dX7_init_39 rfl ?_
  refine g_iconst (v := 1) dX7_init_40 rfl ?_
  refine g_bipush (v := -9) dX7_init_41 rfl ?_
  refine g_iast (n := 8) dX7_init_43 (Nat.le_of_ble_eq_true rfl) rfl (by unfold vp_in; decide) ?_
  show gG V k_X7_init_51 44 [(0, .ref (vB V + 51))] [.ref (vB V + 62), .ref (vB V + 51)] (63, 318, (s_X7_init_51_8 sh), (m_X7_init_51_11 m)) _ _
  refine g_dup dX7_init_44 rfl ?_
  refine g_iconst (v := 2) dX7_init_45 rfl ?_
  refine g_bipush (v := -9) dX7_init_46 rfl ?_
  refine g_iast (n := 8) dX7_init_48 (Nat.le_of_ble_eq_true rfl) rfl (by unfold vp_in; decide) ?_
  show gG V k_X7_init_51 49 [(0, .ref (vB V + 51))] [.ref (vB V + 62), .ref (vB V + 51)] (63, 318, (s_X7_init_51_8 sh), (m_X7_init_51_12 m)) _ _
  refine g_dup dX7_init_49 rfl ?_
  refine g_iconst (v := 3) dX7_init_50 rfl ?_
  refine g_bipush (v := -9) dX7_init_51 rfl ?_
  refine g_iast (n := 8) dX7_init_53 (Nat.le_of_ble_eq_true rfl) rfl (by unfold vp_in; decide) ?_
  show gG V k_X7_init_51 54 [(0, .ref (vB V + 51))] [.ref (vB V + 62), .ref (vB V + 51)] (63, 318, (s_X7_init_51_8 sh), (m_X7_init_51_13 m)) _ _
  refine g_dup dX7_init_54 rfl ?_
  refine g_iconst (v := 4) dX7_init_55 rfl ?_
  refine g_bipush (v := -9) dX7_init_56 rfl ?_
  refine g_iast (n := 8) dX7_init_58 (Nat.le_of_ble_eq_true rfl) rfl (by unfold vp_in; decide) ?_
  show gG V k_X7_init_51 59 [(0, .ref (vB V + 51))] [.ref (vB V + 62), .ref (vB V + 51)] (63, 318, (s_X7_init_51_8 sh), (m_X7_init_51_14 m)) _ _
  refine g_dup dX7_init_59 rfl ?_
  refine g_iconst (v := 5) dX7_init_60 rfl ?_
  refine g_bipush (v := -9) dX7_init_61 rfl ?_
  refine g_iast (n := 8) dX7_init_63 (Nat.le_of_ble_eq_true rfl) rfl (by unfold vp_in; decide) ?_
  show gG V k_X7_init_51 64 [(0, .ref (vB V + 51))] [.ref (vB V + 62), .ref (vB V + 51)] (63, 318, (s_X7_init_51_8 sh), (m_X7_init_51_15 m)) _ _
  refine g_dup dX7_init_64 rfl ?_
  refine g_bipush (v := 6) dX7_init_65 rfl ?_
  refine g_bipush (v := -9) dX7_init_67 rfl ?_
  refine g_iast (n := 8) dX7_init_69 (Nat.le_of_ble_eq_true rfl) rfl (by unfold vp_in; decide) ?_
  show gG V k_X7_init_51 70 [(0, .ref (vB V + 51))] [.ref (vB V + 62), .ref (vB V + 51)] (63, 318, (s_X7_init_51_8 sh), (m_X7_init_51_16 m)) _ _
  refine g_dup dX7_init_70 rfl ?_
  refine g_bipush (v := 7) dX7_init_71 rfl ?_
  refine g_bipush (v := -9) dX7_init_73 rfl ?_
  refine g_iast (n := 8) dX7_init_75 (Nat.le_of_ble_eq_true rfl) rfl (by unfold vp_in; decide) ?_
  show gG V k_X7_init_51 76 [(0, .ref (vB V + 51))] [.ref (vB V + 62), .ref (vB V + 51)] (63, 318, (s_X7_init_51_8 sh), (m_X7_init_51_17 m)) _ _
  refine g_putR (k := 7) (T := TX7) (N := 12) (C := RX7) (ty := (.array .int)) tyX7 dX7_init_76 (Nat.le_of_ble_eq_true rfl) rfl rfl (by decide) inT_7 tyX7_ok nmX7 w_119 rfl rfl rfl (by decide) (by decide +kernel) rfl rfl ?_
  show gG V k_X7_init_51 79 [(0, .ref (vB V + 51))] [] (63, 318, (s_X7_init_51_18 sh), (m_X7_init_51_17 m)) _ _
  refine g_aload_n 0 dX7_init_79 rfl rfl ?_
  refine g_bipush (v := 28) dX7_init_80 rfl ?_
  refine g_newa (N := 28) w_167 dX7_init_82 (by decide) rfl (by decide) ?_
  show gG V k_X7_init_51 84 [(0, .ref (vB V + 51))] [.ref (vB V + 63), .ref (vB V + 51)] (64, 346, (s_X7_init_51_19 sh), (m_X7_init_51_20 m)) _ _
  refine g_putR (k := 8) (T := TX7) (N := 12) (C := RX7) (ty := (.array .int)) tyX7 dX7_init_84 (Nat.le_of_ble_eq_true rfl) rfl rfl (by decide) inT_7 tyX7_ok nmX7 w_122 rfl rfl rfl (by decide) (by decide +kernel) rfl rfl ?_
  show gG V k_X7_init_51 87 [(0, .ref (vB V + 51))] [] (64, 346, (s_X7_init_51_21 sh), (m_X7_init_51_20 m)) _ _
  refine g_aload_n 0 dX7_init_87 rfl rfl ?_
  refine g_bipush (v := 28) dX7_init_88 rfl ?_
  refine g_iconst (v := 3) dX7_init_90 rfl ?_
  refine g_mna (N := 28) (M := 3) w_89 dX7_init_91 (by decide) (by decide) rfl rfl (by decide) (by decide) ?_
  show gG V k_X7_init_51 95 [(0, .ref (vB V + 51))] [.ref (vB V + 64), .ref (vB V + 51)] (93, 458, (s_X7_init_51_22 sh), (m_X7_init_51_23 m)) _ _
  refine g_putR (k := 9) (T := TX7) (N := 12) (C := RX7) (ty := (.array (.array .int))) tyX7 dX7_init_95 (Nat.le_of_ble_eq_true rfl) rfl rfl (by decide) inT_7 tyX7_ok nmX7 w_127 rfl rfl rfl (by decide) (by decide +kernel) rfl rfl ?_
  show gG V k_X7_init_51 98 [(0, .ref (vB V + 51))] [] (93, 458, (s_X7_init_51_24 sh), (m_X7_init_51_23 m)) _ _
  refine g_aload_n 0 dX7_init_98 rfl rfl ?_
  refine g_bipush (v := 6) dX7_init_99 rfl ?_
  refine g_bipush (v := 6) dX7_init_101 rfl ?_
  refine g_mna (N := 6) (M := 6) w_89 dX7_init_103 (by decide) (by decide) rfl rfl (by decide) (by decide) ?_
  show gG V k_X7_init_51 107 [(0, .ref (vB V + 51))] [.ref (vB V + 93), .ref (vB V + 51)] (100, 500, (s_X7_init_51_25 sh), (m_X7_init_51_26 m)) _ _
  refine g_putR (k := 10) (T := TX7) (N := 12) (C := RX7) (ty := (.array (.array .int))) tyX7 dX7_init_107 (Nat.le_of_ble_eq_true rfl) rfl rfl (by decide) inT_7 tyX7_ok nmX7 w_131 rfl rfl rfl (by decide) (by decide +kernel) rfl rfl ?_
  show gG V k_X7_init_51 110 [(0, .ref (vB V + 51))] [] (100, 500, (s_X7_init_51_27 sh), (m_X7_init_51_26 m)) _ _
  refine g_aload_n 0 dX7_init_110 rfl rfl ?_
  refine g_iconst (v := 4) dX7_init_111 rfl ?_
  refine g_newa (N := 4) w_167 dX7_init_112 (by decide) rfl (by decide) ?_
  show gG V k_X7_init_51 114 [(0, .ref (vB V + 51))] [.ref (vB V + 100), .ref (vB V + 51)] (101, 504, (s_X7_init_51_28 sh), (m_X7_init_51_29 m)) _ _
  refine g_dup dX7_init_114 rfl ?_
  refine g_iconst (v := 0) dX7_init_115 rfl ?_
  refine g_bipush (v := 100) dX7_init_116 rfl ?_
  refine g_iast (n := 4) dX7_init_118 (Nat.le_of_ble_eq_true rfl) rfl (by unfold vp_in; decide) ?_
  show gG V k_X7_init_51 119 [(0, .ref (vB V + 51))] [.ref (vB V + 100), .ref (vB V + 51)] (101, 504, (s_X7_init_51_28 sh), (m_X7_init_51_30 m)) _ _
  refine g_dup dX7_init_119 rfl ?_
  refine g_iconst (v := 1) dX7_init_120 rfl ?_
  refine g_bipush (v := 100) dX7_init_121 rfl ?_
  refine g_iast (n := 4) dX7_init_123 (Nat.le_of_ble_eq_true rfl) rfl (by unfold vp_in; decide) ?_
  show gG V k_X7_init_51 124 [(0, .ref (vB V + 51))] [.ref (vB V + 100), .ref (vB V + 51)] (101, 504, (s_X7_init_51_28 sh), (m_X7_init_51_31 m)) _ _
  refine g_dup dX7_init_124 rfl ?_
  refine g_iconst (v := 2) dX7_init_125 rfl ?_
  refine g_bipush (v := 100) dX7_init_126 rfl ?_
  refine g_iast (n := 4) dX7_init_128 (Nat.le_of_ble_eq_true rfl) rfl (by unfold vp_in; decide) ?_
  show gG V k_X7_init_51 129 [(0, .ref (vB V + 51))] [.ref (vB V + 100), .ref (vB V + 51)] (101, 504, (s_X7_init_51_28 sh), (m_X7_init_51_32 m)) _ _
  refine g_dup dX7_init_129 rfl ?_
  refine g_iconst (v := 3) dX7_init_130 rfl ?_
  refine g_bipush (v := 100) dX7_init_131 rfl ?_
  refine g_iast (n := 4) dX7_init_133 (Nat.le_of_ble_eq_true rfl) rfl (by unfold vp_in; decide) ?_
  show gG V k_X7_init_51 134 [(0, .ref (vB V + 51))] [.ref (vB V + 100), .ref (vB V + 51)] (101, 504, (s_X7_init_51_28 sh), (m_X7_init_51_33 m)) _ _
  refine g_putR (k := 11) (T := TX7) (N := 12) (C := RX7) (ty := (.array .int)) tyX7 dX7_init_134 (Nat.le_of_ble_eq_true rfl) rfl rfl (by decide) inT_7 tyX7_ok nmX7 w_139 rfl rfl rfl (by decide) (by decide +kernel) rfl rfl ?_
  show gG V k_X7_init_51 137 [(0, .ref (vB V + 51))] [] (101, 504, (s_X7_init_51_34 sh), (m_X7_init_51_33 m)) _ _
  exact g_vret dX7_init_137 rfl
abbrev k_X7_init_101 : kX := (cX7_init, "WhoseHourItIs$Town", "<init>", none, 1, 1)
def m_X7_init_101_1 (m : mM) : mM := m_up m 101 3 (-9)
def s_X7_init_101_2 (sh : Nat → hSh) : Nat → hSh := s_ups (s_up sh 102 (.inr (.inl (8, 103)))) 103 8 (.inl 3)
def m_X7_init_101_3 (m : mM) : mM := m_clrs (m_X7_init_101_1 m) 103 8
def s_X7_init_101_4 (sh : Nat → hSh) : Nat → hSh := s_up (s_X7_init_101_2 sh) 101 (.inr (.inr (7, [0, 0, 0, 0, 0, 104, 1, 1, 1, 1, 1, 1])))
def s_X7_init_101_5 (sh : Nat → hSh) : Nat → hSh := s_up (s_X7_init_101_4 sh) 111 (.inl 8)
def m_X7_init_101_6 (m : mM) : mM := m_clr (m_X7_init_101_3 m) 111
def s_X7_init_101_7 (sh : Nat → hSh) : Nat → hSh := s_up (s_X7_init_101_5 sh) 101 (.inr (.inr (7, [0, 0, 0, 0, 0, 104, 113, 1, 1, 1, 1, 1])))
def s_X7_init_101_8 (sh : Nat → hSh) : Nat → hSh := s_up (s_X7_init_101_7 sh) 112 (.inl 8)
def m_X7_init_101_9 (m : mM) : mM := m_clr (m_X7_init_101_6 m) 112
def m_X7_init_101_10 (m : mM) : mM := m_up (m_X7_init_101_9 m) 112 0 (-9)
def m_X7_init_101_11 (m : mM) : mM := m_up (m_X7_init_101_10 m) 112 1 (-9)
def m_X7_init_101_12 (m : mM) : mM := m_up (m_X7_init_101_11 m) 112 2 (-9)
def m_X7_init_101_13 (m : mM) : mM := m_up (m_X7_init_101_12 m) 112 3 (-9)
def m_X7_init_101_14 (m : mM) : mM := m_up (m_X7_init_101_13 m) 112 4 (-9)
def m_X7_init_101_15 (m : mM) : mM := m_up (m_X7_init_101_14 m) 112 5 (-9)
def m_X7_init_101_16 (m : mM) : mM := m_up (m_X7_init_101_15 m) 112 6 (-9)
def m_X7_init_101_17 (m : mM) : mM := m_up (m_X7_init_101_16 m) 112 7 (-9)
def s_X7_init_101_18 (sh : Nat → hSh) : Nat → hSh := s_up (s_X7_init_101_8 sh) 101 (.inr (.inr (7, [0, 0, 0, 0, 0, 104, 113, 114, 1, 1, 1, 1])))
def s_X7_init_101_19 (sh : Nat → hSh) : Nat → hSh := s_up (s_X7_init_101_18 sh) 113 (.inl 28)
def m_X7_init_101_20 (m : mM) : mM := m_clr (m_X7_init_101_17 m) 113
def s_X7_init_101_21 (sh : Nat → hSh) : Nat → hSh := s_up (s_X7_init_101_19 sh) 101 (.inr (.inr (7, [0, 0, 0, 0, 0, 104, 113, 114, 115, 1, 1, 1])))
def s_X7_init_101_22 (sh : Nat → hSh) : Nat → hSh := s_ups (s_up (s_X7_init_101_21 sh) 114 (.inr (.inl (28, 115)))) 115 28 (.inl 3)
def m_X7_init_101_23 (m : mM) : mM := m_clrs (m_X7_init_101_20 m) 115 28
def s_X7_init_101_24 (sh : Nat → hSh) : Nat → hSh := s_up (s_X7_init_101_22 sh) 101 (.inr (.inr (7, [0, 0, 0, 0, 0, 104, 113, 114, 115, 116, 1, 1])))
def s_X7_init_101_25 (sh : Nat → hSh) : Nat → hSh := s_ups (s_up (s_X7_init_101_24 sh) 143 (.inr (.inl (6, 144)))) 144 6 (.inl 6)
def m_X7_init_101_26 (m : mM) : mM := m_clrs (m_X7_init_101_23 m) 144 6
def s_X7_init_101_27 (sh : Nat → hSh) : Nat → hSh := s_up (s_X7_init_101_25 sh) 101 (.inr (.inr (7, [0, 0, 0, 0, 0, 104, 113, 114, 115, 116, 145, 1])))
def s_X7_init_101_28 (sh : Nat → hSh) : Nat → hSh := s_up (s_X7_init_101_27 sh) 150 (.inl 4)
def m_X7_init_101_29 (m : mM) : mM := m_clr (m_X7_init_101_26 m) 150
def m_X7_init_101_30 (m : mM) : mM := m_up (m_X7_init_101_29 m) 150 0 (100)
def m_X7_init_101_31 (m : mM) : mM := m_up (m_X7_init_101_30 m) 150 1 (100)
def m_X7_init_101_32 (m : mM) : mM := m_up (m_X7_init_101_31 m) 150 2 (100)
def m_X7_init_101_33 (m : mM) : mM := m_up (m_X7_init_101_32 m) 150 3 (100)
def s_X7_init_101_34 (sh : Nat → hSh) : Nat → hSh := s_up (s_X7_init_101_28 sh) 101 (.inr (.inr (7, [0, 0, 0, 0, 0, 104, 113, 114, 115, 116, 145, 152])))
def sF_X7_init_101 (sh : Nat → hSh) : Nat → hSh := (s_X7_init_101_34 sh)
def mF_X7_init_101 (m : mM) : mM := (m_X7_init_101_33 m)
set_option maxRecDepth 100000 in
set_option maxHeartbeats 4000000 in
theorem i_X7_init_101 {V : eV} {sh : Nat → hSh} {m : mM} (hs : sh 101 = .inr (.inr (7, [0, 0, 0, 0, 0, 1, 1, 1, 1, 1, 1, 1]))) : eE V 1 yX7_init cX7_init 1 none [.ref (vB V + 101)] (102, 516, sh, m) none (151, 750, sF_X7_init_101 sh, mF_X7_init_101 m) := by
  refine eE_of (by decide) (Nat.le_of_ble_eq_true rfl) ?_
  show gG V k_X7_init_101 0 [(0, .ref (vB V + 101))] [] (102, 516, sh, m) none (151, 750, (s_X7_init_101_34 sh), (m_X7_init_101_33 m))
  refine g_aload_n 0 dX7_init_0 rfl rfl ?_
  refine g_objInit w_88 w_81 w_82 (Nat.le_of_ble_eq_true rfl) (Nat.le_of_ble_eq_true rfl) dX7_init_1 ?_
  refine g_aload_n 0 dX7_init_4 rfl rfl ?_
  refine g_bipush (v := -9) dX7_init_5 rfl ?_
  refine g_putI (k := 3) (T := TX7) (N := 12) (C := RX7) (ty := .int) tyX7 dX7_init_7 (Nat.le_of_ble_eq_true rfl) hs rfl (by decide) inT_7 tyX7_ok nmX7 w_107 rfl rfl (by decide +kernel) rfl rfl ?_
  show gG V k_X7_init_101 10 [(0, .ref (vB V + 101))] [] (102, 516, sh, (m_X7_init_101_1 m)) _ _
  refine g_aload_n 0 dX7_init_10 rfl rfl ?_
  refine g_bipush (v := 8) dX7_init_11 rfl ?_
  refine g_iconst (v := 3) dX7_init_13 rfl ?_
  refine g_mna (N := 8) (M := 3) w_89 dX7_init_14 (by decide) (by decide) rfl rfl (by decide) (by decide) ?_
  show gG V k_X7_init_101 18 [(0, .ref (vB V + 101))] [.ref (vB V + 102), .ref (vB V + 101)] (111, 548, (s_X7_init_101_2 sh), (m_X7_init_101_3 m)) _ _
  refine g_putR (k := 5) (T := TX7) (N := 12) (C := RX7) (ty := (.array (.array .int))) tyX7 dX7_init_18 (Nat.le_of_ble_eq_true rfl) hs rfl (by decide) inT_7 tyX7_ok nmX7 w_111 rfl rfl rfl (by decide) (by decide +kernel) rfl rfl ?_
  show gG V k_X7_init_101 21 [(0, .ref (vB V + 101))] [] (111, 548, (s_X7_init_101_4 sh), (m_X7_init_101_3 m)) _ _
  refine g_aload_n 0 dX7_init_21 rfl rfl ?_
  refine g_bipush (v := 8) dX7_init_22 rfl ?_
  refine g_newa (N := 8) w_167 dX7_init_24 (by decide) rfl (by decide) ?_
  show gG V k_X7_init_101 26 [(0, .ref (vB V + 101))] [.ref (vB V + 111), .ref (vB V + 101)] (112, 556, (s_X7_init_101_5 sh), (m_X7_init_101_6 m)) _ _
  refine g_putR (k := 6) (T := TX7) (N := 12) (C := RX7) (ty := (.array .int)) tyX7 dX7_init_26 (Nat.le_of_ble_eq_true rfl) rfl rfl (by decide) inT_7 tyX7_ok nmX7 w_115 rfl rfl rfl (by decide) (by decide +kernel) rfl rfl ?_
  show gG V k_X7_init_101 29 [(0, .ref (vB V + 101))] [] (112, 556, (s_X7_init_101_7 sh), (m_X7_init_101_6 m)) _ _
  refine g_aload_n 0 dX7_init_29 rfl rfl ?_
  refine g_bipush (v := 8) dX7_init_30 rfl ?_
  refine g_newa (N := 8) w_167 dX7_init_32 (by decide) rfl (by decide) ?_
  show gG V k_X7_init_101 34 [(0, .ref (vB V + 101))] [.ref (vB V + 112), .ref (vB V + 101)] (113, 564, (s_X7_init_101_8 sh), (m_X7_init_101_9 m)) _ _
  refine g_dup dX7_init_34 rfl ?_
  refine g_iconst (v := 0) dX7_init_35 rfl ?_
  refine g_bipush (v := -9) dX7_init_36 rfl ?_
  refine g_iast (n := 8) dX7_init_38 (Nat.le_of_ble_eq_true rfl) rfl (by unfold vp_in; decide) ?_
  show gG V k_X7_init_101 39 [(0, .ref (vB V + 101))] [.ref (vB V + 112), .ref (vB V + 101)] (113, 564, (s_X7_init_101_8 sh), (m_X7_init_101_10 m)) _ _
  refine g_dup dX7_init_39 rfl ?_
  refine g_iconst (v := 1) dX7_init_40 rfl ?_
  refine g_bipush (v := -9) dX7_init_41 rfl ?_
  refine g_iast (n := 8) dX7_init_43 (Nat.le_of_ble_eq_true rfl) rfl (by unfold vp_in; decide) ?_
  show gG V k_X7_init_101 44 [(0, .ref (vB V + 101))] [.ref (vB V + 112), .ref (vB V + 101)] (113, 564, (s_X7_init_101_8 sh), (m_X7_init_101_11 m)) _ _
  refine g_dup dX7_init_44 rfl ?_
  refine g_iconst (v := 2) dX7_init_45 rfl ?_
  refine g_bipush (v := -9) dX7_init_46 rfl ?_
  refine g_iast (n := 8) dX7_init_48 (Nat.le_of_ble_eq_true rfl) rfl (by unfold vp_in; decide) ?_
  show gG V k_X7_init_101 49 [(0, .ref (vB V + 101))] [.ref (vB V + 112), .ref (vB V + 101)] (113, 564, (s_X7_init_101_8 sh), (m_X7_init_101_12 m)) _ _
  refine g_dup dX7_init_49 rfl ?_
  refine g_iconst (v := 3) dX7_init_50 rfl ?_
  refine g_bipush (v := -9) dX7_init_51 rfl ?_
  refine g_iast (n := 8) dX7_init_53 (Nat.le_of_ble_eq_true rfl) rfl (by unfold vp_in; decide) ?_
  show gG V k_X7_init_101 54 [(0, .ref (vB V + 101))] [.ref (vB V + 112), .ref (vB V + 101)] (113, 564, (s_X7_init_101_8 sh), (m_X7_init_101_13 m)) _ _
  refine g_dup dX7_init_54 rfl ?_
  refine g_iconst (v := 4) dX7_init_55 rfl ?_
  refine g_bipush (v := -9) dX7_init_56 rfl ?_
  refine g_iast (n := 8) dX7_init_58 (Nat.le_of_ble_eq_true rfl) rfl (by unfold vp_in; decide) ?_
  show gG V k_X7_init_101 59 [(0, .ref (vB V + 101))] [.ref (vB V + 112), .ref (vB V + 101)] (113, 564, (s_X7_init_101_8 sh), (m_X7_init_101_14 m)) _ _
  refine g_dup dX7_init_59 rfl ?_
  refine g_iconst (v := 5) dX7_init_60 rfl ?_
  refine g_bipush (v := -9) dX7_init_61 rfl ?_
  refine g_iast (n := 8) dX7_init_63 (Nat.le_of_ble_eq_true rfl) rfl (by unfold vp_in; decide) ?_
  show gG V k_X7_init_101 64 [(0, .ref (vB V + 101))] [.ref (vB V + 112), .ref (vB V + 101)] (113, 564, (s_X7_init_101_8 sh), (m_X7_init_101_15 m)) _ _
  refine g_dup dX7_init_64 rfl ?_
  refine g_bipush (v := 6) dX7_init_65 rfl ?_
  refine g_bipush (v := -9) dX7_init_67 rfl ?_
  refine g_iast (n := 8) dX7_init_69 (Nat.le_of_ble_eq_true rfl) rfl (by unfold vp_in; decide) ?_
  show gG V k_X7_init_101 70 [(0, .ref (vB V + 101))] [.ref (vB V + 112), .ref (vB V + 101)] (113, 564, (s_X7_init_101_8 sh), (m_X7_init_101_16 m)) _ _
  refine g_dup dX7_init_70 rfl ?_
  refine g_bipush (v := 7) dX7_init_71 rfl ?_
  refine g_bipush (v := -9) dX7_init_73 rfl ?_
  refine g_iast (n := 8) dX7_init_75 (Nat.le_of_ble_eq_true rfl) rfl (by unfold vp_in; decide) ?_
  show gG V k_X7_init_101 76 [(0, .ref (vB V + 101))] [.ref (vB V + 112), .ref (vB V + 101)] (113, 564, (s_X7_init_101_8 sh), (m_X7_init_101_17 m)) _ _
  refine g_putR (k := 7) (T := TX7) (N := 12) (C := RX7) (ty := (.array .int)) tyX7 dX7_init_76 (Nat.le_of_ble_eq_true rfl) rfl rfl (by decide) inT_7 tyX7_ok nmX7 w_119 rfl rfl rfl (by decide) (by decide +kernel) rfl rfl ?_
  show gG V k_X7_init_101 79 [(0, .ref (vB V + 101))] [] (113, 564, (s_X7_init_101_18 sh), (m_X7_init_101_17 m)) _ _
  refine g_aload_n 0 dX7_init_79 rfl rfl ?_
  refine g_bipush (v := 28) dX7_init_80 rfl ?_
  refine g_newa (N := 28) w_167 dX7_init_82 (by decide) rfl (by decide) ?_
  show gG V k_X7_init_101 84 [(0, .ref (vB V + 101))] [.ref (vB V + 113), .ref (vB V + 101)] (114, 592, (s_X7_init_101_19 sh), (m_X7_init_101_20 m)) _ _
  refine g_putR (k := 8) (T := TX7) (N := 12) (C := RX7) (ty := (.array .int)) tyX7 dX7_init_84 (Nat.le_of_ble_eq_true rfl) rfl rfl (by decide) inT_7 tyX7_ok nmX7 w_122 rfl rfl rfl (by decide) (by decide +kernel) rfl rfl ?_
  show gG V k_X7_init_101 87 [(0, .ref (vB V + 101))] [] (114, 592, (s_X7_init_101_21 sh), (m_X7_init_101_20 m)) _ _
  refine g_aload_n 0 dX7_init_87 rfl rfl ?_
  refine g_bipush (v := 28) dX7_init_88 rfl ?_
  refine g_iconst (v := 3) dX7_init_90 rfl ?_
  refine g_mna (N := 28) (M := 3) w_89 dX7_init_91 (by decide) (by decide) rfl rfl (by decide) (by decide) ?_
  show gG V k_X7_init_101 95 [(0, .ref (vB V + 101))] [.ref (vB V + 114), .ref (vB V + 101)] (143, 704, (s_X7_init_101_22 sh), (m_X7_init_101_23 m)) _ _
  refine g_putR (k := 9) (T := TX7) (N := 12) (C := RX7) (ty := (.array (.array .int))) tyX7 dX7_init_95 (Nat.le_of_ble_eq_true rfl) rfl rfl (by decide) inT_7 tyX7_ok nmX7 w_127 rfl rfl rfl (by decide) (by decide +kernel) rfl rfl ?_
  show gG V k_X7_init_101 98 [(0, .ref (vB V + 101))] [] (143, 704, (s_X7_init_101_24 sh), (m_X7_init_101_23 m)) _ _
  refine g_aload_n 0 dX7_init_98 rfl rfl ?_
  refine g_bipush (v := 6) dX7_init_99 rfl ?_
  refine g_bipush (v := 6) dX7_init_101 rfl ?_
  refine g_mna (N := 6) (M := 6) w_89 dX7_init_103 (by decide) (by decide) rfl rfl (by decide) (by decide) ?_
  show gG V k_X7_init_101 107 [(0, .ref (vB V + 101))] [.ref (vB V + 143), .ref (vB V + 101)] (150, 746, (s_X7_init_101_25 sh), (m_X7_init_101_26 m)) _ _
  refine g_putR (k := 10) (T := TX7) (N := 12) (C := RX7) (ty := (.array (.array .int))) tyX7 dX7_init_107 (Nat.le_of_ble_eq_true rfl) rfl rfl (by decide) inT_7 tyX7_ok nmX7 w_131 rfl rfl rfl (by decide) (by decide +kernel) rfl rfl ?_
  show gG V k_X7_init_101 110 [(0, .ref (vB V + 101))] [] (150, 746, (s_X7_init_101_27 sh), (m_X7_init_101_26 m)) _ _
  refine g_aload_n 0 dX7_init_110 rfl rfl ?_
  refine g_iconst (v := 4) dX7_init_111 rfl ?_
  refine g_newa (N := 4) w_167 dX7_init_112 (by decide) rfl (by decide) ?_
  show gG V k_X7_init_101 114 [(0, .ref (vB V + 101))] [.ref (vB V + 150), .ref (vB V + 101)] (151, 750, (s_X7_init_101_28 sh), (m_X7_init_101_29 m)) _ _
  refine g_dup dX7_init_114 rfl ?_
  refine g_iconst (v := 0) dX7_init_115 rfl ?_
  refine g_bipush (v := 100) dX7_init_116 rfl ?_
  refine g_iast (n := 4) dX7_init_118 (Nat.le_of_ble_eq_true rfl) rfl (by unfold vp_in; decide) ?_
  show gG V k_X7_init_101 119 [(0, .ref (vB V + 101))] [.ref (vB V + 150), .ref (vB V + 101)] (151, 750, (s_X7_init_101_28 sh), (m_X7_init_101_30 m)) _ _
  refine g_dup dX7_init_119 rfl ?_
  refine g_iconst (v := 1) dX7_init_120 rfl ?_
  refine g_bipush (v := 100) dX7_init_121 rfl ?_
  refine g_iast (n := 4) dX7_init_123 (Nat.le_of_ble_eq_true rfl) rfl (by unfold vp_in; decide) ?_
  show gG V k_X7_init_101 124 [(0, .ref (vB V + 101))] [.ref (vB V + 150), .ref (vB V + 101)] (151, 750, (s_X7_init_101_28 sh), (m_X7_init_101_31 m)) _ _
  refine g_dup dX7_init_124 rfl ?_
  refine g_iconst (v := 2) dX7_init_125 rfl ?_
  refine g_bipush (v := 100) dX7_init_126 rfl ?_
  refine g_iast (n := 4) dX7_init_128 (Nat.le_of_ble_eq_true rfl) rfl (by unfold vp_in; decide) ?_
  show gG V k_X7_init_101 129 [(0, .ref (vB V + 101))] [.ref (vB V + 150), .ref (vB V + 101)] (151, 750, (s_X7_init_101_28 sh), (m_X7_init_101_32 m)) _ _
  refine g_dup dX7_init_129 rfl ?_
  refine g_iconst (v := 3) dX7_init_130 rfl ?_
  refine g_bipush (v := 100) dX7_init_131 rfl ?_
  refine g_iast (n := 4) dX7_init_133 (Nat.le_of_ble_eq_true rfl) rfl (by unfold vp_in; decide) ?_
  show gG V k_X7_init_101 134 [(0, .ref (vB V + 101))] [.ref (vB V + 150), .ref (vB V + 101)] (151, 750, (s_X7_init_101_28 sh), (m_X7_init_101_33 m)) _ _
  refine g_putR (k := 11) (T := TX7) (N := 12) (C := RX7) (ty := (.array .int)) tyX7 dX7_init_134 (Nat.le_of_ble_eq_true rfl) rfl rfl (by decide) inT_7 tyX7_ok nmX7 w_139 rfl rfl rfl (by decide) (by decide +kernel) rfl rfl ?_
  show gG V k_X7_init_101 137 [(0, .ref (vB V + 101))] [] (151, 750, (s_X7_init_101_34 sh), (m_X7_init_101_33 m)) _ _
  exact g_vret dX7_init_137 rfl
abbrev k_X6_init_151 : kX := (cX6_init, "WhoseHourItIs$Tape", "<init>", none, 1, 1)
def s_X6_init_151_1 (sh : Nat → hSh) : Nat → hSh := s_up sh 152 (.inl 64)
def m_X6_init_151_2 (m : mM) : mM := m_clr m 152
def s_X6_init_151_3 (sh : Nat → hSh) : Nat → hSh := s_up (s_X6_init_151_1 sh) 151 (.inr (.inr (6, [0, 154, 1])))
def s_X6_init_151_4 (sh : Nat → hSh) : Nat → hSh := s_up (s_X6_init_151_3 sh) 153 (.inl 6)
def m_X6_init_151_5 (m : mM) : mM := m_clr (m_X6_init_151_2 m) 153
def s_X6_init_151_6 (sh : Nat → hSh) : Nat → hSh := s_up (s_X6_init_151_4 sh) 151 (.inr (.inr (6, [0, 154, 155])))
def sF_X6_init_151 (sh : Nat → hSh) : Nat → hSh := (s_X6_init_151_6 sh)
def mF_X6_init_151 (m : mM) : mM := (m_X6_init_151_5 m)
set_option maxRecDepth 100000 in
set_option maxHeartbeats 4000000 in
theorem i_X6_init_151 {V : eV} {sh : Nat → hSh} {m : mM} (hs : sh 151 = .inr (.inr (6, [0, 1, 1]))) : eE V 1 yX6_init cX6_init 1 none [.ref (vB V + 151)] (152, 753, sh, m) none (154, 823, sF_X6_init_151 sh, mF_X6_init_151 m) := by
  refine eE_of (by decide) (Nat.le_of_ble_eq_true rfl) ?_
  show gG V k_X6_init_151 0 [(0, .ref (vB V + 151))] [] (152, 753, sh, m) none (154, 823, (s_X6_init_151_6 sh), (m_X6_init_151_5 m))
  refine g_aload_n 0 dX6_init_0 rfl rfl ?_
  refine g_objInit w_173 w_81 w_82 (Nat.le_of_ble_eq_true rfl) (Nat.le_of_ble_eq_true rfl) dX6_init_1 ?_
  refine g_aload_n 0 dX6_init_4 rfl rfl ?_
  refine g_bipush (v := 64) dX6_init_5 rfl ?_
  refine g_newa (N := 64) w_167 dX6_init_7 (by decide) rfl (by decide) ?_
  show gG V k_X6_init_151 9 [(0, .ref (vB V + 151))] [.ref (vB V + 152), .ref (vB V + 151)] (153, 817, (s_X6_init_151_1 sh), (m_X6_init_151_2 m)) _ _
  refine g_putR (k := 1) (T := TX6) (N := 3) (C := RX6) (ty := (.array .int)) tyX6 dX6_init_9 (Nat.le_of_ble_eq_true rfl) hs rfl (by decide) inT_6 tyX6_ok nmX6 w_176 rfl rfl rfl (by decide) (by decide +kernel) rfl rfl ?_
  show gG V k_X6_init_151 12 [(0, .ref (vB V + 151))] [] (153, 817, (s_X6_init_151_3 sh), (m_X6_init_151_2 m)) _ _
  refine g_aload_n 0 dX6_init_12 rfl rfl ?_
  refine g_bipush (v := 6) dX6_init_13 rfl ?_
  refine g_newa (N := 6) w_167 dX6_init_15 (by decide) rfl (by decide) ?_
  show gG V k_X6_init_151 17 [(0, .ref (vB V + 151))] [.ref (vB V + 153), .ref (vB V + 151)] (154, 823, (s_X6_init_151_4 sh), (m_X6_init_151_5 m)) _ _
  refine g_putR (k := 2) (T := TX6) (N := 3) (C := RX6) (ty := (.array .int)) tyX6 dX6_init_17 (Nat.le_of_ble_eq_true rfl) rfl rfl (by decide) inT_6 tyX6_ok nmX6 w_177 rfl rfl rfl (by decide) (by decide +kernel) rfl rfl ?_
  show gG V k_X6_init_151 20 [(0, .ref (vB V + 151))] [] (154, 823, (s_X6_init_151_6 sh), (m_X6_init_151_5 m)) _ _
  exact g_vret dX6_init_20 rfl
abbrev k_X0_init_154 : kX := (cX0_init, "WhoseHourItIs$Costs", "<init>", none, 2, 1)
def s_X0_init_154_1 (sh : Nat → hSh) : Nat → hSh := s_up sh 155 (.inl 28)
def m_X0_init_154_2 (m : mM) : mM := m_clr m 155
def s_X0_init_154_3 (sh : Nat → hSh) : Nat → hSh := s_up (s_X0_init_154_1 sh) 154 (.inr (.inr (0, [1, 157, 1, 0, 0])))
def s_X0_init_154_4 (sh : Nat → hSh) : Nat → hSh := s_up (s_X0_init_154_3 sh) 156 (.inl 7)
def m_X0_init_154_5 (m : mM) : mM := m_clr (m_X0_init_154_2 m) 156
def s_X0_init_154_6 (sh : Nat → hSh) : Nat → hSh := s_up (s_X0_init_154_4 sh) 154 (.inr (.inr (0, [1, 157, 158, 0, 0])))
def s_X0_init_154_7 (sh : Nat → hSh) : Nat → hSh := s_up (s_X0_init_154_6 sh) 154 (.inr (.inr (0, [3, 157, 158, 0, 0])))
def sF_X0_init_154 (sh : Nat → hSh) : Nat → hSh := (s_X0_init_154_7 sh)
def mF_X0_init_154 (m : mM) : mM := (m_X0_init_154_5 m)
set_option maxRecDepth 100000 in
set_option maxHeartbeats 4000000 in
theorem i_X0_init_154 {V : eV} {sh : Nat → hSh} {m : mM} (hs : sh 154 = .inr (.inr (0, [1, 1, 1, 0, 0]))) : eE V 1 yX0_init cX0_init 2 none [.ref (vB V + 154), .ref (vB V + 1)] (155, 828, sh, m) none (157, 863, sF_X0_init_154 sh, mF_X0_init_154 m) := by
  refine eE_of (by decide) (Nat.le_of_ble_eq_true rfl) ?_
  show gG V k_X0_init_154 0 [(0, .ref (vB V + 154)), (1, .ref (vB V + 1))] [] (155, 828, sh, m) none (157, 863, (s_X0_init_154_7 sh), (m_X0_init_154_5 m))
  refine g_aload_n 0 dX0_init_0 rfl rfl ?_
  refine g_objInit w_190 w_81 w_82 (Nat.le_of_ble_eq_true rfl) (Nat.le_of_ble_eq_true rfl) dX0_init_1 ?_
  refine g_aload_n 0 dX0_init_4 rfl rfl ?_
  refine g_bipush (v := 28) dX0_init_5 rfl ?_
  refine g_newa (N := 28) w_167 dX0_init_7 (by decide) rfl (by decide) ?_
  show gG V k_X0_init_154 9 [(0, .ref (vB V + 154)), (1, .ref (vB V + 1))] [.ref (vB V + 155), .ref (vB V + 154)] (156, 856, (s_X0_init_154_1 sh), (m_X0_init_154_2 m)) _ _
  refine g_putR (k := 1) (T := TX0) (N := 5) (C := RX0) (ty := (.array .int)) tyX0 dX0_init_9 (Nat.le_of_ble_eq_true rfl) hs rfl (by decide) inT_0 tyX0_ok nmX0 w_192 rfl rfl rfl (by decide) (by decide +kernel) rfl rfl ?_
  show gG V k_X0_init_154 12 [(0, .ref (vB V + 154)), (1, .ref (vB V + 1))] [] (156, 856, (s_X0_init_154_3 sh), (m_X0_init_154_2 m)) _ _
  refine g_aload_n 0 dX0_init_12 rfl rfl ?_
  refine g_bipush (v := 7) dX0_init_13 rfl ?_
  refine g_newa (N := 7) w_167 dX0_init_15 (by decide) rfl (by decide) ?_
  show gG V k_X0_init_154 17 [(0, .ref (vB V + 154)), (1, .ref (vB V + 1))] [.ref (vB V + 156), .ref (vB V + 154)] (157, 863, (s_X0_init_154_4 sh), (m_X0_init_154_5 m)) _ _
  refine g_putR (k := 2) (T := TX0) (N := 5) (C := RX0) (ty := (.array .int)) tyX0 dX0_init_17 (Nat.le_of_ble_eq_true rfl) rfl rfl (by decide) inT_0 tyX0_ok nmX0 w_193 rfl rfl rfl (by decide) (by decide +kernel) rfl rfl ?_
  show gG V k_X0_init_154 20 [(0, .ref (vB V + 154)), (1, .ref (vB V + 1))] [] (157, 863, (s_X0_init_154_6 sh), (m_X0_init_154_5 m)) _ _
  refine g_aload_n 0 dX0_init_20 rfl rfl ?_
  refine g_aload_n 1 dX0_init_21 rfl rfl ?_
  refine g_putR (k := 0) (T := TX0) (N := 5) (C := RX0) (ty := (.object "WhoseHourItIs$Town")) tyX0 dX0_init_22 (Nat.le_of_ble_eq_true rfl) rfl rfl (by decide) inT_0 tyX0_ok nmX0 w_191 rfl rfl rfl (by decide) (by decide +kernel) rfl rfl ?_
  show gG V k_X0_init_154 25 [(0, .ref (vB V + 154)), (1, .ref (vB V + 1))] [] (157, 863, (s_X0_init_154_7 sh), (m_X0_init_154_5 m)) _ _
  exact g_vret dX0_init_25 rfl
abbrev k_X1_init_157 : kX := (cX1_init, "WhoseHourItIs$Market", "<init>", none, 3, 1)
def s_X1_init_157_1 (sh : Nat → hSh) : Nat → hSh := s_up sh 158 (.inl 8)
def m_X1_init_157_2 (m : mM) : mM := m_clr m 158
def s_X1_init_157_3 (sh : Nat → hSh) : Nat → hSh := s_up (s_X1_init_157_1 sh) 157 (.inr (.inr (1, [1, 1, 160])))
def s_X1_init_157_4 (sh : Nat → hSh) : Nat → hSh := s_up (s_X1_init_157_3 sh) 157 (.inr (.inr (1, [3, 1, 160])))
def s_X1_init_157_5 (sh : Nat → hSh) : Nat → hSh := s_up (s_X1_init_157_4 sh) 157 (.inr (.inr (1, [3, 156, 160])))
def sF_X1_init_157 (sh : Nat → hSh) : Nat → hSh := (s_X1_init_157_5 sh)
def mF_X1_init_157 (m : mM) : mM := (m_X1_init_157_2 m)
set_option maxRecDepth 100000 in
set_option maxHeartbeats 4000000 in
theorem i_X1_init_157 {V : eV} {sh : Nat → hSh} {m : mM} (hs : sh 157 = .inr (.inr (1, [1, 1, 1]))) : eE V 1 yX1_init cX1_init 3 none [.ref (vB V + 157), .ref (vB V + 1), .ref (vB V + 154)] (158, 866, sh, m) none (159, 874, sF_X1_init_157 sh, mF_X1_init_157 m) := by
  refine eE_of (by decide) (Nat.le_of_ble_eq_true rfl) ?_
  show gG V k_X1_init_157 0 [(0, .ref (vB V + 157)), (1, .ref (vB V + 1)), (2, .ref (vB V + 154))] [] (158, 866, sh, m) none (159, 874, (s_X1_init_157_5 sh), (m_X1_init_157_2 m))
  refine g_aload_n 0 dX1_init_0 rfl rfl ?_
  refine g_objInit w_217 w_81 w_82 (Nat.le_of_ble_eq_true rfl) (Nat.le_of_ble_eq_true rfl) dX1_init_1 ?_
  refine g_aload_n 0 dX1_init_4 rfl rfl ?_
  refine g_bipush (v := 8) dX1_init_5 rfl ?_
  refine g_newa (N := 8) w_167 dX1_init_7 (by decide) rfl (by decide) ?_
  show gG V k_X1_init_157 9 [(0, .ref (vB V + 157)), (1, .ref (vB V + 1)), (2, .ref (vB V + 154))] [.ref (vB V + 158), .ref (vB V + 157)] (159, 874, (s_X1_init_157_1 sh), (m_X1_init_157_2 m)) _ _
  refine g_putR (k := 2) (T := TX1) (N := 3) (C := RX1) (ty := (.array .int)) tyX1 dX1_init_9 (Nat.le_of_ble_eq_true rfl) hs rfl (by decide) inT_1 tyX1_ok nmX1 w_220 rfl rfl rfl (by decide) (by decide +kernel) rfl rfl ?_
  show gG V k_X1_init_157 12 [(0, .ref (vB V + 157)), (1, .ref (vB V + 1)), (2, .ref (vB V + 154))] [] (159, 874, (s_X1_init_157_3 sh), (m_X1_init_157_2 m)) _ _
  refine g_aload_n 0 dX1_init_12 rfl rfl ?_
  refine g_aload_n 1 dX1_init_13 rfl rfl ?_
  refine g_putR (k := 0) (T := TX1) (N := 3) (C := RX1) (ty := (.object "WhoseHourItIs$Town")) tyX1 dX1_init_14 (Nat.le_of_ble_eq_true rfl) rfl rfl (by decide) inT_1 tyX1_ok nmX1 w_218 rfl rfl rfl (by decide) (by decide +kernel) rfl rfl ?_
  show gG V k_X1_init_157 17 [(0, .ref (vB V + 157)), (1, .ref (vB V + 1)), (2, .ref (vB V + 154))] [] (159, 874, (s_X1_init_157_4 sh), (m_X1_init_157_2 m)) _ _
  refine g_aload_n 0 dX1_init_17 rfl rfl ?_
  refine g_aload_n 2 dX1_init_18 rfl rfl ?_
  refine g_putR (k := 1) (T := TX1) (N := 3) (C := RX1) (ty := (.object "WhoseHourItIs$Costs")) tyX1 dX1_init_19 (Nat.le_of_ble_eq_true rfl) rfl rfl (by decide) inT_1 tyX1_ok nmX1 w_219 rfl rfl rfl (by decide) (by decide +kernel) rfl rfl ?_
  show gG V k_X1_init_157 22 [(0, .ref (vB V + 157)), (1, .ref (vB V + 1)), (2, .ref (vB V + 154))] [] (159, 874, (s_X1_init_157_5 sh), (m_X1_init_157_2 m)) _ _
  exact g_vret dX1_init_22 rfl
abbrev k_X3_init_159 : kX := (cX3_init, "WhoseHourItIs$Plan", "<init>", none, 3, 1)
def s_X3_init_159_1 (sh : Nat → hSh) : Nat → hSh := s_up sh 160 (.inl 3)
def m_X3_init_159_2 (m : mM) : mM := m_clr m 160
def s_X3_init_159_3 (sh : Nat → hSh) : Nat → hSh := s_up (s_X3_init_159_1 sh) 159 (.inr (.inr (3, [1, 1, 0, 162, 1, 1, 1, 0])))
def s_X3_init_159_4 (sh : Nat → hSh) : Nat → hSh := s_ups (s_up (s_X3_init_159_3 sh) 161 (.inr (.inl (3, 162)))) 162 3 (.inl 28)
def m_X3_init_159_5 (m : mM) : mM := m_clrs (m_X3_init_159_2 m) 162 3
def s_X3_init_159_6 (sh : Nat → hSh) : Nat → hSh := s_up (s_X3_init_159_4 sh) 159 (.inr (.inr (3, [1, 1, 0, 162, 163, 1, 1, 0])))
def s_X3_init_159_7 (sh : Nat → hSh) : Nat → hSh := s_up (s_X3_init_159_6 sh) 165 (.inl 3)
def m_X3_init_159_8 (m : mM) : mM := m_clr (m_X3_init_159_5 m) 165
def s_X3_init_159_9 (sh : Nat → hSh) : Nat → hSh := s_up (s_X3_init_159_7 sh) 159 (.inr (.inr (3, [1, 1, 0, 162, 163, 167, 1, 0])))
def s_X3_init_159_10 (sh : Nat → hSh) : Nat → hSh := s_up (s_X3_init_159_9 sh) 166 (.inl 3)
def m_X3_init_159_11 (m : mM) : mM := m_clr (m_X3_init_159_8 m) 166
def s_X3_init_159_12 (sh : Nat → hSh) : Nat → hSh := s_up (s_X3_init_159_10 sh) 159 (.inr (.inr (3, [1, 1, 0, 162, 163, 167, 168, 0])))
def s_X3_init_159_13 (sh : Nat → hSh) : Nat → hSh := s_up (s_X3_init_159_12 sh) 159 (.inr (.inr (3, [3, 1, 0, 162, 163, 167, 168, 0])))
def s_X3_init_159_14 (sh : Nat → hSh) : Nat → hSh := s_up (s_X3_init_159_13 sh) 159 (.inr (.inr (3, [3, 156, 0, 162, 163, 167, 168, 0])))
def sF_X3_init_159 (sh : Nat → hSh) : Nat → hSh := (s_X3_init_159_14 sh)
def mF_X3_init_159 (m : mM) : mM := (m_X3_init_159_11 m)
set_option maxRecDepth 100000 in
set_option maxHeartbeats 4000000 in
theorem i_X3_init_159 {V : eV} {sh : Nat → hSh} {m : mM} (hs : sh 159 = .inr (.inr (3, [1, 1, 0, 1, 1, 1, 1, 0]))) : eE V 1 yX3_init cX3_init 3 none [.ref (vB V + 159), .ref (vB V + 1), .ref (vB V + 154)] (160, 882, sh, m) none (167, 978, sF_X3_init_159 sh, mF_X3_init_159 m) := by
  refine eE_of (by decide) (Nat.le_of_ble_eq_true rfl) ?_
  show gG V k_X3_init_159 0 [(0, .ref (vB V + 159)), (1, .ref (vB V + 1)), (2, .ref (vB V + 154))] [] (160, 882, sh, m) none (167, 978, (s_X3_init_159_14 sh), (m_X3_init_159_11 m))
  refine g_aload_n 0 dX3_init_0 rfl rfl ?_
  refine g_objInit w_233 w_81 w_82 (Nat.le_of_ble_eq_true rfl) (Nat.le_of_ble_eq_true rfl) dX3_init_1 ?_
  refine g_aload_n 0 dX3_init_4 rfl rfl ?_
  refine g_iconst (v := 3) dX3_init_5 rfl ?_
  refine g_newa (N := 3) w_167 dX3_init_6 (by decide) rfl (by decide) ?_
  show gG V k_X3_init_159 8 [(0, .ref (vB V + 159)), (1, .ref (vB V + 1)), (2, .ref (vB V + 154))] [.ref (vB V + 160), .ref (vB V + 159)] (161, 885, (s_X3_init_159_1 sh), (m_X3_init_159_2 m)) _ _
  refine g_putR (k := 3) (T := TX3) (N := 8) (C := RX3) (ty := (.array .int)) tyX3 dX3_init_8 (Nat.le_of_ble_eq_true rfl) hs rfl (by decide) inT_3 tyX3_ok nmX3 w_238 rfl rfl rfl (by decide) (by decide +kernel) rfl rfl ?_
  show gG V k_X3_init_159 11 [(0, .ref (vB V + 159)), (1, .ref (vB V + 1)), (2, .ref (vB V + 154))] [] (161, 885, (s_X3_init_159_3 sh), (m_X3_init_159_2 m)) _ _
  refine g_aload_n 0 dX3_init_11 rfl rfl ?_
  refine g_iconst (v := 3) dX3_init_12 rfl ?_
  refine g_bipush (v := 28) dX3_init_13 rfl ?_
  refine g_mna (N := 3) (M := 28) w_234 dX3_init_15 (by decide) (by decide) rfl rfl (by decide) (by decide) ?_
  show gG V k_X3_init_159 19 [(0, .ref (vB V + 159)), (1, .ref (vB V + 1)), (2, .ref (vB V + 154))] [.ref (vB V + 161), .ref (vB V + 159)] (165, 972, (s_X3_init_159_4 sh), (m_X3_init_159_5 m)) _ _
  refine g_putR (k := 4) (T := TX3) (N := 8) (C := RX3) (ty := (.array (.array .int))) tyX3 dX3_init_19 (Nat.le_of_ble_eq_true rfl) rfl rfl (by decide) inT_3 tyX3_ok nmX3 w_239 rfl rfl rfl (by decide) (by decide +kernel) rfl rfl ?_
  show gG V k_X3_init_159 22 [(0, .ref (vB V + 159)), (1, .ref (vB V + 1)), (2, .ref (vB V + 154))] [] (165, 972, (s_X3_init_159_6 sh), (m_X3_init_159_5 m)) _ _
  refine g_aload_n 0 dX3_init_22 rfl rfl ?_
  refine g_iconst (v := 3) dX3_init_23 rfl ?_
  refine g_newa (N := 3) w_167 dX3_init_24 (by decide) rfl (by decide) ?_
  show gG V k_X3_init_159 26 [(0, .ref (vB V + 159)), (1, .ref (vB V + 1)), (2, .ref (vB V + 154))] [.ref (vB V + 165), .ref (vB V + 159)] (166, 975, (s_X3_init_159_7 sh), (m_X3_init_159_8 m)) _ _
  refine g_putR (k := 5) (T := TX3) (N := 8) (C := RX3) (ty := (.array .int)) tyX3 dX3_init_26 (Nat.le_of_ble_eq_true rfl) rfl rfl (by decide) inT_3 tyX3_ok nmX3 w_240 rfl rfl rfl (by decide) (by decide +kernel) rfl rfl ?_
  show gG V k_X3_init_159 29 [(0, .ref (vB V + 159)), (1, .ref (vB V + 1)), (2, .ref (vB V + 154))] [] (166, 975, (s_X3_init_159_9 sh), (m_X3_init_159_8 m)) _ _
  refine g_aload_n 0 dX3_init_29 rfl rfl ?_
  refine g_iconst (v := 3) dX3_init_30 rfl ?_
  refine g_newa (N := 3) w_167 dX3_init_31 (by decide) rfl (by decide) ?_
  show gG V k_X3_init_159 33 [(0, .ref (vB V + 159)), (1, .ref (vB V + 1)), (2, .ref (vB V + 154))] [.ref (vB V + 166), .ref (vB V + 159)] (167, 978, (s_X3_init_159_10 sh), (m_X3_init_159_11 m)) _ _
  refine g_putR (k := 6) (T := TX3) (N := 8) (C := RX3) (ty := (.array .int)) tyX3 dX3_init_33 (Nat.le_of_ble_eq_true rfl) rfl rfl (by decide) inT_3 tyX3_ok nmX3 w_241 rfl rfl rfl (by decide) (by decide +kernel) rfl rfl ?_
  show gG V k_X3_init_159 36 [(0, .ref (vB V + 159)), (1, .ref (vB V + 1)), (2, .ref (vB V + 154))] [] (167, 978, (s_X3_init_159_12 sh), (m_X3_init_159_11 m)) _ _
  refine g_aload_n 0 dX3_init_36 rfl rfl ?_
  refine g_aload_n 1 dX3_init_37 rfl rfl ?_
  refine g_putR (k := 0) (T := TX3) (N := 8) (C := RX3) (ty := (.object "WhoseHourItIs$Town")) tyX3 dX3_init_38 (Nat.le_of_ble_eq_true rfl) rfl rfl (by decide) inT_3 tyX3_ok nmX3 w_235 rfl rfl rfl (by decide) (by decide +kernel) rfl rfl ?_
  show gG V k_X3_init_159 41 [(0, .ref (vB V + 159)), (1, .ref (vB V + 1)), (2, .ref (vB V + 154))] [] (167, 978, (s_X3_init_159_13 sh), (m_X3_init_159_11 m)) _ _
  refine g_aload_n 0 dX3_init_41 rfl rfl ?_
  refine g_aload_n 2 dX3_init_42 rfl rfl ?_
  refine g_putR (k := 1) (T := TX3) (N := 8) (C := RX3) (ty := (.object "WhoseHourItIs$Costs")) tyX3 dX3_init_43 (Nat.le_of_ble_eq_true rfl) rfl rfl (by decide) inT_3 tyX3_ok nmX3 w_236 rfl rfl rfl (by decide) (by decide +kernel) rfl rfl ?_
  show gG V k_X3_init_159 46 [(0, .ref (vB V + 159)), (1, .ref (vB V + 1)), (2, .ref (vB V + 154))] [] (167, 978, (s_X3_init_159_14 sh), (m_X3_init_159_11 m)) _ _
  exact g_vret dX3_init_46 rfl
abbrev k_X5_init_167 : kX := (cX5_init, "WhoseHourItIs$Strikes", "<init>", none, 2, 1)
def s_X5_init_167_1 (sh : Nat → hSh) : Nat → hSh := s_ups (s_up sh 168 (.inr (.inl (6, 169)))) 169 6 (.inl 28)
def m_X5_init_167_2 (m : mM) : mM := m_clrs m 169 6
def s_X5_init_167_3 (sh : Nat → hSh) : Nat → hSh := s_up (s_X5_init_167_1 sh) 167 (.inr (.inr (5, [1, 170, 1])))
def s_X5_init_167_4 (sh : Nat → hSh) : Nat → hSh := s_ups (s_up (s_X5_init_167_3 sh) 175 (.inr (.inl (6, 176)))) 176 6 (.inl 28)
def m_X5_init_167_5 (m : mM) : mM := m_clrs (m_X5_init_167_2 m) 176 6
def s_X5_init_167_6 (sh : Nat → hSh) : Nat → hSh := s_up (s_X5_init_167_4 sh) 167 (.inr (.inr (5, [1, 170, 177])))
def s_X5_init_167_7 (sh : Nat → hSh) : Nat → hSh := s_up (s_X5_init_167_6 sh) 167 (.inr (.inr (5, [3, 170, 177])))
def sF_X5_init_167 (sh : Nat → hSh) : Nat → hSh := (s_X5_init_167_7 sh)
def mF_X5_init_167 (m : mM) : mM := (m_X5_init_167_5 m)
set_option maxRecDepth 100000 in
set_option maxHeartbeats 4000000 in
theorem i_X5_init_167 {V : eV} {sh : Nat → hSh} {m : mM} (hs : sh 167 = .inr (.inr (5, [1, 1, 1]))) : eE V 1 yX5_init cX5_init 2 none [.ref (vB V + 167), .ref (vB V + 1)] (168, 981, sh, m) none (182, 1329, sF_X5_init_167 sh, mF_X5_init_167 m) := by
  refine eE_of (by decide) (Nat.le_of_ble_eq_true rfl) ?_
  show gG V k_X5_init_167 0 [(0, .ref (vB V + 167)), (1, .ref (vB V + 1))] [] (168, 981, sh, m) none (182, 1329, (s_X5_init_167_7 sh), (m_X5_init_167_5 m))
  refine g_aload_n 0 dX5_init_0 rfl rfl ?_
  refine g_objInit w_266 w_81 w_82 (Nat.le_of_ble_eq_true rfl) (Nat.le_of_ble_eq_true rfl) dX5_init_1 ?_
  refine g_aload_n 0 dX5_init_4 rfl rfl ?_
  refine g_bipush (v := 6) dX5_init_5 rfl ?_
  refine g_bipush (v := 28) dX5_init_7 rfl ?_
  refine g_mna (N := 6) (M := 28) w_267 dX5_init_9 (by decide) (by decide) rfl rfl (by decide) (by decide) ?_
  show gG V k_X5_init_167 13 [(0, .ref (vB V + 167)), (1, .ref (vB V + 1))] [.ref (vB V + 168), .ref (vB V + 167)] (175, 1155, (s_X5_init_167_1 sh), (m_X5_init_167_2 m)) _ _
  refine g_putR (k := 1) (T := TX5) (N := 3) (C := RX5) (ty := (.array (.array .int))) tyX5 dX5_init_13 (Nat.le_of_ble_eq_true rfl) hs rfl (by decide) inT_5 tyX5_ok nmX5 w_269 rfl rfl rfl (by decide) (by decide +kernel) rfl rfl ?_
  show gG V k_X5_init_167 16 [(0, .ref (vB V + 167)), (1, .ref (vB V + 1))] [] (175, 1155, (s_X5_init_167_3 sh), (m_X5_init_167_2 m)) _ _
  refine g_aload_n 0 dX5_init_16 rfl rfl ?_
  refine g_bipush (v := 6) dX5_init_17 rfl ?_
  refine g_bipush (v := 28) dX5_init_19 rfl ?_
  refine g_mna (N := 6) (M := 28) w_267 dX5_init_21 (by decide) (by decide) rfl rfl (by decide) (by decide) ?_
  show gG V k_X5_init_167 25 [(0, .ref (vB V + 167)), (1, .ref (vB V + 1))] [.ref (vB V + 175), .ref (vB V + 167)] (182, 1329, (s_X5_init_167_4 sh), (m_X5_init_167_5 m)) _ _
  refine g_putR (k := 2) (T := TX5) (N := 3) (C := RX5) (ty := (.array (.array .int))) tyX5 dX5_init_25 (Nat.le_of_ble_eq_true rfl) rfl rfl (by decide) inT_5 tyX5_ok nmX5 w_270 rfl rfl rfl (by decide) (by decide +kernel) rfl rfl ?_
  show gG V k_X5_init_167 28 [(0, .ref (vB V + 167)), (1, .ref (vB V + 1))] [] (182, 1329, (s_X5_init_167_6 sh), (m_X5_init_167_5 m)) _ _
  refine g_aload_n 0 dX5_init_28 rfl rfl ?_
  refine g_aload_n 1 dX5_init_29 rfl rfl ?_
  refine g_putR (k := 0) (T := TX5) (N := 3) (C := RX5) (ty := (.object "WhoseHourItIs$Town")) tyX5 dX5_init_30 (Nat.le_of_ble_eq_true rfl) rfl rfl (by decide) inT_5 tyX5_ok nmX5 w_268 rfl rfl rfl (by decide) (by decide +kernel) rfl rfl ?_
  show gG V k_X5_init_167 33 [(0, .ref (vB V + 167)), (1, .ref (vB V + 1))] [] (182, 1329, (s_X5_init_167_7 sh), (m_X5_init_167_5 m)) _ _
  exact g_vret dX5_init_33 rfl
abbrev k_X2_init_182 : kX := (cX2_init, "WhoseHourItIs$Outlook", "<init>", none, 3, 1)
def s_X2_init_182_1 (sh : Nat → hSh) : Nat → hSh := s_up sh 183 (.inl 6)
def m_X2_init_182_2 (m : mM) : mM := m_clr m 183
def s_X2_init_182_3 (sh : Nat → hSh) : Nat → hSh := s_up (s_X2_init_182_1 sh) 182 (.inr (.inr (2, [1, 1, 185])))
def s_X2_init_182_4 (sh : Nat → hSh) : Nat → hSh := s_up (s_X2_init_182_3 sh) 182 (.inr (.inr (2, [3, 1, 185])))
def s_X2_init_182_5 (sh : Nat → hSh) : Nat → hSh := s_up (s_X2_init_182_4 sh) 182 (.inr (.inr (2, [3, 156, 185])))
def sF_X2_init_182 (sh : Nat → hSh) : Nat → hSh := (s_X2_init_182_5 sh)
def mF_X2_init_182 (m : mM) : mM := (m_X2_init_182_2 m)
set_option maxRecDepth 100000 in
set_option maxHeartbeats 4000000 in
theorem i_X2_init_182 {V : eV} {sh : Nat → hSh} {m : mM} (hs : sh 182 = .inr (.inr (2, [1, 1, 1]))) : eE V 1 yX2_init cX2_init 3 none [.ref (vB V + 182), .ref (vB V + 1), .ref (vB V + 154)] (183, 1332, sh, m) none (184, 1338, sF_X2_init_182 sh, mF_X2_init_182 m) := by
  refine eE_of (by decide) (Nat.le_of_ble_eq_true rfl) ?_
  show gG V k_X2_init_182 0 [(0, .ref (vB V + 182)), (1, .ref (vB V + 1)), (2, .ref (vB V + 154))] [] (183, 1332, sh, m) none (184, 1338, (s_X2_init_182_5 sh), (m_X2_init_182_2 m))
  refine g_aload_n 0 dX2_init_0 rfl rfl ?_
  refine g_objInit w_283 w_81 w_82 (Nat.le_of_ble_eq_true rfl) (Nat.le_of_ble_eq_true rfl) dX2_init_1 ?_
  refine g_aload_n 0 dX2_init_4 rfl rfl ?_
  refine g_bipush (v := 6) dX2_init_5 rfl ?_
  refine g_newa (N := 6) w_167 dX2_init_7 (by decide) rfl (by decide) ?_
  show gG V k_X2_init_182 9 [(0, .ref (vB V + 182)), (1, .ref (vB V + 1)), (2, .ref (vB V + 154))] [.ref (vB V + 183), .ref (vB V + 182)] (184, 1338, (s_X2_init_182_1 sh), (m_X2_init_182_2 m)) _ _
  refine g_putR (k := 2) (T := TX2) (N := 3) (C := RX2) (ty := (.array .int)) tyX2 dX2_init_9 (Nat.le_of_ble_eq_true rfl) hs rfl (by decide) inT_2 tyX2_ok nmX2 w_286 rfl rfl rfl (by decide) (by decide +kernel) rfl rfl ?_
  show gG V k_X2_init_182 12 [(0, .ref (vB V + 182)), (1, .ref (vB V + 1)), (2, .ref (vB V + 154))] [] (184, 1338, (s_X2_init_182_3 sh), (m_X2_init_182_2 m)) _ _
  refine g_aload_n 0 dX2_init_12 rfl rfl ?_
  refine g_aload_n 1 dX2_init_13 rfl rfl ?_
  refine g_putR (k := 0) (T := TX2) (N := 3) (C := RX2) (ty := (.object "WhoseHourItIs$Town")) tyX2 dX2_init_14 (Nat.le_of_ble_eq_true rfl) rfl rfl (by decide) inT_2 tyX2_ok nmX2 w_284 rfl rfl rfl (by decide) (by decide +kernel) rfl rfl ?_
  show gG V k_X2_init_182 17 [(0, .ref (vB V + 182)), (1, .ref (vB V + 1)), (2, .ref (vB V + 154))] [] (184, 1338, (s_X2_init_182_4 sh), (m_X2_init_182_2 m)) _ _
  refine g_aload_n 0 dX2_init_17 rfl rfl ?_
  refine g_aload_n 2 dX2_init_18 rfl rfl ?_
  refine g_putR (k := 1) (T := TX2) (N := 3) (C := RX2) (ty := (.object "WhoseHourItIs$Costs")) tyX2 dX2_init_19 (Nat.le_of_ble_eq_true rfl) rfl rfl (by decide) inT_2 tyX2_ok nmX2 w_285 rfl rfl rfl (by decide) (by decide +kernel) rfl rfl ?_
  show gG V k_X2_init_182 22 [(0, .ref (vB V + 182)), (1, .ref (vB V + 1)), (2, .ref (vB V + 154))] [] (184, 1338, (s_X2_init_182_5 sh), (m_X2_init_182_2 m)) _ _
  exact g_vret dX2_init_22 rfl
abbrev k_X4_init_184 : kX := (cX4_init, "WhoseHourItIs$Row", "<init>", none, 3, 1)
def s_X4_init_184_1 (sh : Nat → hSh) : Nat → hSh := s_up sh 185 (.inl 28)
def m_X4_init_184_2 (m : mM) : mM := m_clr m 185
def s_X4_init_184_3 (sh : Nat → hSh) : Nat → hSh := s_up (s_X4_init_184_1 sh) 184 (.inr (.inr (4, [1, 1, 187, 0])))
def s_X4_init_184_4 (sh : Nat → hSh) : Nat → hSh := s_up (s_X4_init_184_3 sh) 184 (.inr (.inr (4, [3, 1, 187, 0])))
def s_X4_init_184_5 (sh : Nat → hSh) : Nat → hSh := s_up (s_X4_init_184_4 sh) 184 (.inr (.inr (4, [3, 156, 187, 0])))
def sF_X4_init_184 (sh : Nat → hSh) : Nat → hSh := (s_X4_init_184_5 sh)
def mF_X4_init_184 (m : mM) : mM := (m_X4_init_184_2 m)
set_option maxRecDepth 100000 in
set_option maxHeartbeats 4000000 in
theorem i_X4_init_184 {V : eV} {sh : Nat → hSh} {m : mM} (hs : sh 184 = .inr (.inr (4, [1, 1, 1, 0]))) : eE V 1 yX4_init cX4_init 3 none [.ref (vB V + 184), .ref (vB V + 1), .ref (vB V + 154)] (185, 1342, sh, m) none (186, 1370, sF_X4_init_184 sh, mF_X4_init_184 m) := by
  refine eE_of (by decide) (Nat.le_of_ble_eq_true rfl) ?_
  show gG V k_X4_init_184 0 [(0, .ref (vB V + 184)), (1, .ref (vB V + 1)), (2, .ref (vB V + 154))] [] (185, 1342, sh, m) none (186, 1370, (s_X4_init_184_5 sh), (m_X4_init_184_2 m))
  refine g_aload_n 0 dX4_init_0 rfl rfl ?_
  refine g_objInit w_299 w_81 w_82 (Nat.le_of_ble_eq_true rfl) (Nat.le_of_ble_eq_true rfl) dX4_init_1 ?_
  refine g_aload_n 0 dX4_init_4 rfl rfl ?_
  refine g_bipush (v := 28) dX4_init_5 rfl ?_
  refine g_newa (N := 28) w_167 dX4_init_7 (by decide) rfl (by decide) ?_
  show gG V k_X4_init_184 9 [(0, .ref (vB V + 184)), (1, .ref (vB V + 1)), (2, .ref (vB V + 154))] [.ref (vB V + 185), .ref (vB V + 184)] (186, 1370, (s_X4_init_184_1 sh), (m_X4_init_184_2 m)) _ _
  refine g_putR (k := 2) (T := TX4) (N := 4) (C := RX4) (ty := (.array .int)) tyX4 dX4_init_9 (Nat.le_of_ble_eq_true rfl) hs rfl (by decide) inT_4 tyX4_ok nmX4 w_302 rfl rfl rfl (by decide) (by decide +kernel) rfl rfl ?_
  show gG V k_X4_init_184 12 [(0, .ref (vB V + 184)), (1, .ref (vB V + 1)), (2, .ref (vB V + 154))] [] (186, 1370, (s_X4_init_184_3 sh), (m_X4_init_184_2 m)) _ _
  refine g_aload_n 0 dX4_init_12 rfl rfl ?_
  refine g_aload_n 1 dX4_init_13 rfl rfl ?_
  refine g_putR (k := 0) (T := TX4) (N := 4) (C := RX4) (ty := (.object "WhoseHourItIs$Town")) tyX4 dX4_init_14 (Nat.le_of_ble_eq_true rfl) rfl rfl (by decide) inT_4 tyX4_ok nmX4 w_300 rfl rfl rfl (by decide) (by decide +kernel) rfl rfl ?_
  show gG V k_X4_init_184 17 [(0, .ref (vB V + 184)), (1, .ref (vB V + 1)), (2, .ref (vB V + 154))] [] (186, 1370, (s_X4_init_184_4 sh), (m_X4_init_184_2 m)) _ _
  refine g_aload_n 0 dX4_init_17 rfl rfl ?_
  refine g_aload_n 2 dX4_init_18 rfl rfl ?_
  refine g_putR (k := 1) (T := TX4) (N := 4) (C := RX4) (ty := (.object "WhoseHourItIs$Costs")) tyX4 dX4_init_19 (Nat.le_of_ble_eq_true rfl) rfl rfl (by decide) inT_4 tyX4_ok nmX4 w_301 rfl rfl rfl (by decide) (by decide +kernel) rfl rfl ?_
  show gG V k_X4_init_184 22 [(0, .ref (vB V + 184)), (1, .ref (vB V + 1)), (2, .ref (vB V + 154))] [] (186, 1370, (s_X4_init_184_5 sh), (m_X4_init_184_2 m)) _ _
  exact g_vret dX4_init_22 rfl
abbrev k_X8_init_0 : kX := (cX8_init, "WhoseHourItIs", "<init>", none, 1, 2)
def s_X8_init_0_1 (sh : Nat → hSh) : Nat → hSh := s_up sh 1 (.inr (.inr (7, [0, 0, 0, 0, 0, 1, 1, 1, 1, 1, 1, 1])))
def m_X8_init_0_2 (m : mM) : mM := m_clr m 1
def s_X8_init_0_3 (sh : Nat → hSh) : Nat → hSh := sF_X7_init_1 (s_X8_init_0_1 sh)
def m_X8_init_0_4 (m : mM) : mM := mF_X7_init_1 (m_X8_init_0_2 m)
def s_X8_init_0_5 (sh : Nat → hSh) : Nat → hSh := s_up (s_X8_init_0_3 sh) 0 (.inr (.inr (8, [3, 1, 1, 0, 1, 1, 1, 1, 1, 1, 1, 1])))
def s_X8_init_0_6 (sh : Nat → hSh) : Nat → hSh := s_up (s_X8_init_0_5 sh) 51 (.inr (.inr (7, [0, 0, 0, 0, 0, 1, 1, 1, 1, 1, 1, 1])))
def m_X8_init_0_7 (m : mM) : mM := m_clr (m_X8_init_0_4 m) 51
def s_X8_init_0_8 (sh : Nat → hSh) : Nat → hSh := sF_X7_init_51 (s_X8_init_0_6 sh)
def m_X8_init_0_9 (m : mM) : mM := mF_X7_init_51 (m_X8_init_0_7 m)
def s_X8_init_0_10 (sh : Nat → hSh) : Nat → hSh := s_up (s_X8_init_0_8 sh) 0 (.inr (.inr (8, [3, 53, 1, 0, 1, 1, 1, 1, 1, 1, 1, 1])))
def s_X8_init_0_11 (sh : Nat → hSh) : Nat → hSh := s_up (s_X8_init_0_10 sh) 101 (.inr (.inr (7, [0, 0, 0, 0, 0, 1, 1, 1, 1, 1, 1, 1])))
def m_X8_init_0_12 (m : mM) : mM := m_clr (m_X8_init_0_9 m) 101
def s_X8_init_0_13 (sh : Nat → hSh) : Nat → hSh := sF_X7_init_101 (s_X8_init_0_11 sh)
def m_X8_init_0_14 (m : mM) : mM := mF_X7_init_101 (m_X8_init_0_12 m)
def s_X8_init_0_15 (sh : Nat → hSh) : Nat → hSh := s_up (s_X8_init_0_13 sh) 0 (.inr (.inr (8, [3, 53, 103, 0, 1, 1, 1, 1, 1, 1, 1, 1])))
def s_X8_init_0_16 (sh : Nat → hSh) : Nat → hSh := s_up (s_X8_init_0_15 sh) 151 (.inr (.inr (6, [0, 1, 1])))
def m_X8_init_0_17 (m : mM) : mM := m_clr (m_X8_init_0_14 m) 151
def s_X8_init_0_18 (sh : Nat → hSh) : Nat → hSh := sF_X6_init_151 (s_X8_init_0_16 sh)
def m_X8_init_0_19 (m : mM) : mM := mF_X6_init_151 (m_X8_init_0_17 m)
def s_X8_init_0_20 (sh : Nat → hSh) : Nat → hSh := s_up (s_X8_init_0_18 sh) 0 (.inr (.inr (8, [3, 53, 103, 0, 153, 1, 1, 1, 1, 1, 1, 1])))
def s_X8_init_0_21 (sh : Nat → hSh) : Nat → hSh := s_up (s_X8_init_0_20 sh) 154 (.inr (.inr (0, [1, 1, 1, 0, 0])))
def m_X8_init_0_22 (m : mM) : mM := m_clr (m_X8_init_0_19 m) 154
def s_X8_init_0_23 (sh : Nat → hSh) : Nat → hSh := sF_X0_init_154 (s_X8_init_0_21 sh)
def m_X8_init_0_24 (m : mM) : mM := mF_X0_init_154 (m_X8_init_0_22 m)
def s_X8_init_0_25 (sh : Nat → hSh) : Nat → hSh := s_up (s_X8_init_0_23 sh) 0 (.inr (.inr (8, [3, 53, 103, 0, 153, 156, 1, 1, 1, 1, 1, 1])))
def s_X8_init_0_26 (sh : Nat → hSh) : Nat → hSh := s_up (s_X8_init_0_25 sh) 157 (.inr (.inr (1, [1, 1, 1])))
def m_X8_init_0_27 (m : mM) : mM := m_clr (m_X8_init_0_24 m) 157
def s_X8_init_0_28 (sh : Nat → hSh) : Nat → hSh := sF_X1_init_157 (s_X8_init_0_26 sh)
def m_X8_init_0_29 (m : mM) : mM := mF_X1_init_157 (m_X8_init_0_27 m)
def s_X8_init_0_30 (sh : Nat → hSh) : Nat → hSh := s_up (s_X8_init_0_28 sh) 0 (.inr (.inr (8, [3, 53, 103, 0, 153, 156, 159, 1, 1, 1, 1, 1])))
def s_X8_init_0_31 (sh : Nat → hSh) : Nat → hSh := s_up (s_X8_init_0_30 sh) 159 (.inr (.inr (3, [1, 1, 0, 1, 1, 1, 1, 0])))
def m_X8_init_0_32 (m : mM) : mM := m_clr (m_X8_init_0_29 m) 159
def s_X8_init_0_33 (sh : Nat → hSh) : Nat → hSh := sF_X3_init_159 (s_X8_init_0_31 sh)
def m_X8_init_0_34 (m : mM) : mM := mF_X3_init_159 (m_X8_init_0_32 m)
def s_X8_init_0_35 (sh : Nat → hSh) : Nat → hSh := s_up (s_X8_init_0_33 sh) 0 (.inr (.inr (8, [3, 53, 103, 0, 153, 156, 159, 161, 1, 1, 1, 1])))
def s_X8_init_0_36 (sh : Nat → hSh) : Nat → hSh := s_up (s_X8_init_0_35 sh) 167 (.inr (.inr (5, [1, 1, 1])))
def m_X8_init_0_37 (m : mM) : mM := m_clr (m_X8_init_0_34 m) 167
def s_X8_init_0_38 (sh : Nat → hSh) : Nat → hSh := sF_X5_init_167 (s_X8_init_0_36 sh)
def m_X8_init_0_39 (m : mM) : mM := mF_X5_init_167 (m_X8_init_0_37 m)
def s_X8_init_0_40 (sh : Nat → hSh) : Nat → hSh := s_up (s_X8_init_0_38 sh) 0 (.inr (.inr (8, [3, 53, 103, 0, 153, 156, 159, 161, 169, 1, 1, 1])))
def s_X8_init_0_41 (sh : Nat → hSh) : Nat → hSh := s_up (s_X8_init_0_40 sh) 182 (.inr (.inr (2, [1, 1, 1])))
def m_X8_init_0_42 (m : mM) : mM := m_clr (m_X8_init_0_39 m) 182
def s_X8_init_0_43 (sh : Nat → hSh) : Nat → hSh := sF_X2_init_182 (s_X8_init_0_41 sh)
def m_X8_init_0_44 (m : mM) : mM := mF_X2_init_182 (m_X8_init_0_42 m)
def s_X8_init_0_45 (sh : Nat → hSh) : Nat → hSh := s_up (s_X8_init_0_43 sh) 0 (.inr (.inr (8, [3, 53, 103, 0, 153, 156, 159, 161, 169, 184, 1, 1])))
def s_X8_init_0_46 (sh : Nat → hSh) : Nat → hSh := s_up (s_X8_init_0_45 sh) 184 (.inr (.inr (4, [1, 1, 1, 0])))
def m_X8_init_0_47 (m : mM) : mM := m_clr (m_X8_init_0_44 m) 184
def s_X8_init_0_48 (sh : Nat → hSh) : Nat → hSh := sF_X4_init_184 (s_X8_init_0_46 sh)
def m_X8_init_0_49 (m : mM) : mM := mF_X4_init_184 (m_X8_init_0_47 m)
def s_X8_init_0_50 (sh : Nat → hSh) : Nat → hSh := s_up (s_X8_init_0_48 sh) 0 (.inr (.inr (8, [3, 53, 103, 0, 153, 156, 159, 161, 169, 184, 186, 1])))
def s_X8_init_0_51 (sh : Nat → hSh) : Nat → hSh := s_up (s_X8_init_0_50 sh) 186 (.inl 7)
def m_X8_init_0_52 (m : mM) : mM := m_clr (m_X8_init_0_49 m) 186
def s_X8_init_0_53 (sh : Nat → hSh) : Nat → hSh := s_up (s_X8_init_0_51 sh) 0 (.inr (.inr (8, [3, 53, 103, 0, 153, 156, 159, 161, 169, 184, 186, 188])))
def sF_X8_init_0 (sh : Nat → hSh) : Nat → hSh := (s_X8_init_0_53 sh)
def mF_X8_init_0 (m : mM) : mM := (m_X8_init_0_52 m)
set_option maxRecDepth 100000 in
set_option maxHeartbeats 4000000 in
theorem i_X8_init_0 {V : eV} {sh : Nat → hSh} {m : mM} (hs : sh 0 = .inr (.inr (8, [1, 1, 1, 0, 1, 1, 1, 1, 1, 1, 1, 1]))) : eE V 2 yX8_init cX8_init 1 none [.ref (vB V + 0)] (1, 12, sh, m) none (187, 1377, sF_X8_init_0 sh, mF_X8_init_0 m) := by
  refine eE_of (by decide) (Nat.le_of_ble_eq_true rfl) ?_
  show gG V k_X8_init_0 0 [(0, .ref (vB V + 0))] [] (1, 12, sh, m) none (187, 1377, (s_X8_init_0_53 sh), (m_X8_init_0_52 m))
  refine g_aload_n 0 dX8_init_0 rfl rfl ?_
  refine g_objInit w_80 w_81 w_82 (Nat.le_of_ble_eq_true rfl) (Nat.le_of_ble_eq_true rfl) dX8_init_1 ?_
  refine g_aload_n 0 dX8_init_4 rfl rfl ?_
  refine g_new (ci := 7) (ty0 := tyX7) (fs := [0, 0, 0, 0, 0, 1, 1, 1, 1, 1, 1, 1]) w_83 w_84 w_58 dX8_init_5 rfl inT_7 tyX7_ok nf_7 (by decide) ?_
  show gG V k_X8_init_0 8 [(0, .ref (vB V + 0))] [.ref (vB V + 1), .ref (vB V + 0)] (2, 24, (s_X8_init_0_1 sh), (m_X8_init_0_2 m)) _ _
  refine g_dup dX8_init_8 rfl ?_
  refine g_callIN (As := []) (rest := [.ref (vB V + 1), .ref (vB V + 0)]) (i_X7_init_1 (V := V) (sh := (s_X8_init_0_1 sh)) (m := (m_X8_init_0_2 m)) rfl) cw_85 w_86 rfl (Nat.le_of_ble_eq_true rfl) rfl rfl (Nat.le_of_ble_eq_true rfl) dX8_init_9 ?_
  show gG V k_X8_init_0 12 [(0, .ref (vB V + 0))] [.ref (vB V + 1), .ref (vB V + 0)] (51, 258, (s_X8_init_0_3 sh), (m_X8_init_0_4 m)) _ _
  refine g_putR (k := 0) (T := TX8) (N := 12) (C := RX8) (ty := (.object "WhoseHourItIs$Town")) tyX8 dX8_init_12 (Nat.le_of_ble_eq_true rfl) hs rfl (by decide) inT_8 tyX8_ok nmX8 w_314 rfl rfl rfl (by decide) (by decide +kernel) rfl rfl ?_
  show gG V k_X8_init_0 15 [(0, .ref (vB V + 0))] [] (51, 258, (s_X8_init_0_5 sh), (m_X8_init_0_4 m)) _ _
  refine g_aload_n 0 dX8_init_15 rfl rfl ?_
  refine g_new (ci := 7) (ty0 := tyX7) (fs := [0, 0, 0, 0, 0, 1, 1, 1, 1, 1, 1, 1]) w_83 w_84 w_58 dX8_init_16 rfl inT_7 tyX7_ok nf_7 (by decide) ?_
  show gG V k_X8_init_0 19 [(0, .ref (vB V + 0))] [.ref (vB V + 51), .ref (vB V + 0)] (52, 270, (s_X8_init_0_6 sh), (m_X8_init_0_7 m)) _ _
  refine g_dup dX8_init_19 rfl ?_
  refine g_callIN (As := []) (rest := [.ref (vB V + 51), .ref (vB V + 0)]) (i_X7_init_51 (V := V) (sh := (s_X8_init_0_6 sh)) (m := (m_X8_init_0_7 m)) rfl) cw_85 w_86 rfl (Nat.le_of_ble_eq_true rfl) rfl rfl (Nat.le_of_ble_eq_true rfl) dX8_init_20 ?_
  show gG V k_X8_init_0 23 [(0, .ref (vB V + 0))] [.ref (vB V + 51), .ref (vB V + 0)] (101, 504, (s_X8_init_0_8 sh), (m_X8_init_0_9 m)) _ _
  refine g_putR (k := 1) (T := TX8) (N := 12) (C := RX8) (ty := (.object "WhoseHourItIs$Town")) tyX8 dX8_init_23 (Nat.le_of_ble_eq_true rfl) rfl rfl (by decide) inT_8 tyX8_ok nmX8 w_315 rfl rfl rfl (by decide) (by decide +kernel) rfl rfl ?_
  show gG V k_X8_init_0 26 [(0, .ref (vB V + 0))] [] (101, 504, (s_X8_init_0_10 sh), (m_X8_init_0_9 m)) _ _
  refine g_aload_n 0 dX8_init_26 rfl rfl ?_
  refine g_new (ci := 7) (ty0 := tyX7) (fs := [0, 0, 0, 0, 0, 1, 1, 1, 1, 1, 1, 1]) w_83 w_84 w_58 dX8_init_27 rfl inT_7 tyX7_ok nf_7 (by decide) ?_
  show gG V k_X8_init_0 30 [(0, .ref (vB V + 0))] [.ref (vB V + 101), .ref (vB V + 0)] (102, 516, (s_X8_init_0_11 sh), (m_X8_init_0_12 m)) _ _
  refine g_dup dX8_init_30 rfl ?_
  refine g_callIN (As := []) (rest := [.ref (vB V + 101), .ref (vB V + 0)]) (i_X7_init_101 (V := V) (sh := (s_X8_init_0_11 sh)) (m := (m_X8_init_0_12 m)) rfl) cw_85 w_86 rfl (Nat.le_of_ble_eq_true rfl) rfl rfl (Nat.le_of_ble_eq_true rfl) dX8_init_31 ?_
  show gG V k_X8_init_0 34 [(0, .ref (vB V + 0))] [.ref (vB V + 101), .ref (vB V + 0)] (151, 750, (s_X8_init_0_13 sh), (m_X8_init_0_14 m)) _ _
  refine g_putR (k := 2) (T := TX8) (N := 12) (C := RX8) (ty := (.object "WhoseHourItIs$Town")) tyX8 dX8_init_34 (Nat.le_of_ble_eq_true rfl) rfl rfl (by decide) inT_8 tyX8_ok nmX8 w_316 rfl rfl rfl (by decide) (by decide +kernel) rfl rfl ?_
  show gG V k_X8_init_0 37 [(0, .ref (vB V + 0))] [] (151, 750, (s_X8_init_0_15 sh), (m_X8_init_0_14 m)) _ _
  refine g_aload_n 0 dX8_init_37 rfl rfl ?_
  refine g_new (ci := 6) (ty0 := tyX6) (fs := [0, 1, 1]) w_168 w_169 w_59 dX8_init_38 rfl inT_6 tyX6_ok nf_6 (by decide) ?_
  show gG V k_X8_init_0 41 [(0, .ref (vB V + 0))] [.ref (vB V + 151), .ref (vB V + 0)] (152, 753, (s_X8_init_0_16 sh), (m_X8_init_0_17 m)) _ _
  refine g_dup dX8_init_41 rfl ?_
  refine g_callIN (As := []) (rest := [.ref (vB V + 151), .ref (vB V + 0)]) (i_X6_init_151 (V := V) (sh := (s_X8_init_0_16 sh)) (m := (m_X8_init_0_17 m)) rfl) cw_170 w_171 rfl (Nat.le_of_ble_eq_true rfl) rfl rfl (Nat.le_of_ble_eq_true rfl) dX8_init_42 ?_
  show gG V k_X8_init_0 45 [(0, .ref (vB V + 0))] [.ref (vB V + 151), .ref (vB V + 0)] (154, 823, (s_X8_init_0_18 sh), (m_X8_init_0_19 m)) _ _
  refine g_putR (k := 4) (T := TX8) (N := 12) (C := RX8) (ty := (.object "WhoseHourItIs$Tape")) tyX8 dX8_init_45 (Nat.le_of_ble_eq_true rfl) rfl rfl (by decide) inT_8 tyX8_ok nmX8 w_318 rfl rfl rfl (by decide) (by decide +kernel) rfl rfl ?_
  show gG V k_X8_init_0 48 [(0, .ref (vB V + 0))] [] (154, 823, (s_X8_init_0_20 sh), (m_X8_init_0_19 m)) _ _
  refine g_aload_n 0 dX8_init_48 rfl rfl ?_
  refine g_new (ci := 0) (ty0 := tyX0) (fs := [1, 1, 1, 0, 0]) w_185 w_186 w_60 dX8_init_49 rfl inT_0 tyX0_ok nf_0 (by decide) ?_
  show gG V k_X8_init_0 52 [(0, .ref (vB V + 0))] [.ref (vB V + 154), .ref (vB V + 0)] (155, 828, (s_X8_init_0_21 sh), (m_X8_init_0_22 m)) _ _
  refine g_dup dX8_init_52 rfl ?_
  refine g_aload_n 0 dX8_init_53 rfl rfl ?_
  refine g_get (k := 0) (T := TX8) (N := 12) (C := RX8) (v := .ref (vB V + 1)) dX8_init_54 (Nat.le_of_ble_eq_true rfl) rfl rfl (by decide) inT_8 w_314 rfl ?_
  refine g_callI (As := [.ref (vB V + 1)]) (rest := [.ref (vB V + 154), .ref (vB V + 0)]) (i_X0_init_154 (V := V) (sh := (s_X8_init_0_21 sh)) (m := (m_X8_init_0_22 m)) rfl) cw_187 w_188 rfl (Nat.le_of_ble_eq_true rfl) rfl rfl (Nat.le_of_ble_eq_true rfl) dX8_init_57 ?_
  show gG V k_X8_init_0 60 [(0, .ref (vB V + 0))] [.ref (vB V + 154), .ref (vB V + 0)] (157, 863, (s_X8_init_0_23 sh), (m_X8_init_0_24 m)) _ _
  refine g_putR (k := 5) (T := TX8) (N := 12) (C := RX8) (ty := (.object "WhoseHourItIs$Costs")) tyX8 dX8_init_60 (Nat.le_of_ble_eq_true rfl) rfl rfl (by decide) inT_8 tyX8_ok nmX8 w_319 rfl rfl rfl (by decide) (by decide +kernel) rfl rfl ?_
  show gG V k_X8_init_0 63 [(0, .ref (vB V + 0))] [] (157, 863, (s_X8_init_0_25 sh), (m_X8_init_0_24 m)) _ _
  refine g_aload_n 0 dX8_init_63 rfl rfl ?_
  refine g_new (ci := 1) (ty0 := tyX1) (fs := [1, 1, 1]) w_212 w_213 w_61 dX8_init_64 rfl inT_1 tyX1_ok nf_1 (by decide) ?_
  show gG V k_X8_init_0 67 [(0, .ref (vB V + 0))] [.ref (vB V + 157), .ref (vB V + 0)] (158, 866, (s_X8_init_0_26 sh), (m_X8_init_0_27 m)) _ _
  refine g_dup dX8_init_67 rfl ?_
  refine g_aload_n 0 dX8_init_68 rfl rfl ?_
  refine g_get (k := 0) (T := TX8) (N := 12) (C := RX8) (v := .ref (vB V + 1)) dX8_init_69 (Nat.le_of_ble_eq_true rfl) rfl rfl (by decide) inT_8 w_314 rfl ?_
  refine g_aload_n 0 dX8_init_72 rfl rfl ?_
  refine g_get (k := 5) (T := TX8) (N := 12) (C := RX8) (v := .ref (vB V + 154)) dX8_init_73 (Nat.le_of_ble_eq_true rfl) rfl rfl (by decide) inT_8 w_319 rfl ?_
  refine g_callI (As := [.ref (vB V + 1), .ref (vB V + 154)]) (rest := [.ref (vB V + 157), .ref (vB V + 0)]) (i_X1_init_157 (V := V) (sh := (s_X8_init_0_26 sh)) (m := (m_X8_init_0_27 m)) rfl) cw_214 w_215 rfl (Nat.le_of_ble_eq_true rfl) rfl rfl (Nat.le_of_ble_eq_true rfl) dX8_init_76 ?_
  show gG V k_X8_init_0 79 [(0, .ref (vB V + 0))] [.ref (vB V + 157), .ref (vB V + 0)] (159, 874, (s_X8_init_0_28 sh), (m_X8_init_0_29 m)) _ _
  refine g_putR (k := 6) (T := TX8) (N := 12) (C := RX8) (ty := (.object "WhoseHourItIs$Market")) tyX8 dX8_init_79 (Nat.le_of_ble_eq_true rfl) rfl rfl (by decide) inT_8 tyX8_ok nmX8 w_320 rfl rfl rfl (by decide) (by decide +kernel) rfl rfl ?_
  show gG V k_X8_init_0 82 [(0, .ref (vB V + 0))] [] (159, 874, (s_X8_init_0_30 sh), (m_X8_init_0_29 m)) _ _
  refine g_aload_n 0 dX8_init_82 rfl rfl ?_
  refine g_new (ci := 3) (ty0 := tyX3) (fs := [1, 1, 0, 1, 1, 1, 1, 0]) w_228 w_229 w_62 dX8_init_83 rfl inT_3 tyX3_ok nf_3 (by decide) ?_
  show gG V k_X8_init_0 86 [(0, .ref (vB V + 0))] [.ref (vB V + 159), .ref (vB V + 0)] (160, 882, (s_X8_init_0_31 sh), (m_X8_init_0_32 m)) _ _
  refine g_dup dX8_init_86 rfl ?_
  refine g_aload_n 0 dX8_init_87 rfl rfl ?_
  refine g_get (k := 0) (T := TX8) (N := 12) (C := RX8) (v := .ref (vB V + 1)) dX8_init_88 (Nat.le_of_ble_eq_true rfl) rfl rfl (by decide) inT_8 w_314 rfl ?_
  refine g_aload_n 0 dX8_init_91 rfl rfl ?_
  refine g_get (k := 5) (T := TX8) (N := 12) (C := RX8) (v := .ref (vB V + 154)) dX8_init_92 (Nat.le_of_ble_eq_true rfl) rfl rfl (by decide) inT_8 w_319 rfl ?_
  refine g_callI (As := [.ref (vB V + 1), .ref (vB V + 154)]) (rest := [.ref (vB V + 159), .ref (vB V + 0)]) (i_X3_init_159 (V := V) (sh := (s_X8_init_0_31 sh)) (m := (m_X8_init_0_32 m)) rfl) cw_230 w_231 rfl (Nat.le_of_ble_eq_true rfl) rfl rfl (Nat.le_of_ble_eq_true rfl) dX8_init_95 ?_
  show gG V k_X8_init_0 98 [(0, .ref (vB V + 0))] [.ref (vB V + 159), .ref (vB V + 0)] (167, 978, (s_X8_init_0_33 sh), (m_X8_init_0_34 m)) _ _
  refine g_putR (k := 7) (T := TX8) (N := 12) (C := RX8) (ty := (.object "WhoseHourItIs$Plan")) tyX8 dX8_init_98 (Nat.le_of_ble_eq_true rfl) rfl rfl (by decide) inT_8 tyX8_ok nmX8 w_321 rfl rfl rfl (by decide) (by decide +kernel) rfl rfl ?_
  show gG V k_X8_init_0 101 [(0, .ref (vB V + 0))] [] (167, 978, (s_X8_init_0_35 sh), (m_X8_init_0_34 m)) _ _
  refine g_aload_n 0 dX8_init_101 rfl rfl ?_
  refine g_new (ci := 5) (ty0 := tyX5) (fs := [1, 1, 1]) w_261 w_262 w_63 dX8_init_102 rfl inT_5 tyX5_ok nf_5 (by decide) ?_
  show gG V k_X8_init_0 105 [(0, .ref (vB V + 0))] [.ref (vB V + 167), .ref (vB V + 0)] (168, 981, (s_X8_init_0_36 sh), (m_X8_init_0_37 m)) _ _
  refine g_dup dX8_init_105 rfl ?_
  refine g_aload_n 0 dX8_init_106 rfl rfl ?_
  refine g_get (k := 0) (T := TX8) (N := 12) (C := RX8) (v := .ref (vB V + 1)) dX8_init_107 (Nat.le_of_ble_eq_true rfl) rfl rfl (by decide) inT_8 w_314 rfl ?_
  refine g_callI (As := [.ref (vB V + 1)]) (rest := [.ref (vB V + 167), .ref (vB V + 0)]) (i_X5_init_167 (V := V) (sh := (s_X8_init_0_36 sh)) (m := (m_X8_init_0_37 m)) rfl) cw_263 w_264 rfl (Nat.le_of_ble_eq_true rfl) rfl rfl (Nat.le_of_ble_eq_true rfl) dX8_init_110 ?_
  show gG V k_X8_init_0 113 [(0, .ref (vB V + 0))] [.ref (vB V + 167), .ref (vB V + 0)] (182, 1329, (s_X8_init_0_38 sh), (m_X8_init_0_39 m)) _ _
  refine g_putR (k := 8) (T := TX8) (N := 12) (C := RX8) (ty := (.object "WhoseHourItIs$Strikes")) tyX8 dX8_init_113 (Nat.le_of_ble_eq_true rfl) rfl rfl (by decide) inT_8 tyX8_ok nmX8 w_322 rfl rfl rfl (by decide) (by decide +kernel) rfl rfl ?_
  show gG V k_X8_init_0 116 [(0, .ref (vB V + 0))] [] (182, 1329, (s_X8_init_0_40 sh), (m_X8_init_0_39 m)) _ _
  refine g_aload_n 0 dX8_init_116 rfl rfl ?_
  refine g_new (ci := 2) (ty0 := tyX2) (fs := [1, 1, 1]) w_278 w_279 w_64 dX8_init_117 rfl inT_2 tyX2_ok nf_2 (by decide) ?_
  show gG V k_X8_init_0 120 [(0, .ref (vB V + 0))] [.ref (vB V + 182), .ref (vB V + 0)] (183, 1332, (s_X8_init_0_41 sh), (m_X8_init_0_42 m)) _ _
  refine g_dup dX8_init_120 rfl ?_
  refine g_aload_n 0 dX8_init_121 rfl rfl ?_
  refine g_get (k := 0) (T := TX8) (N := 12) (C := RX8) (v := .ref (vB V + 1)) dX8_init_122 (Nat.le_of_ble_eq_true rfl) rfl rfl (by decide) inT_8 w_314 rfl ?_
  refine g_aload_n 0 dX8_init_125 rfl rfl ?_
  refine g_get (k := 5) (T := TX8) (N := 12) (C := RX8) (v := .ref (vB V + 154)) dX8_init_126 (Nat.le_of_ble_eq_true rfl) rfl rfl (by decide) inT_8 w_319 rfl ?_
  refine g_callI (As := [.ref (vB V + 1), .ref (vB V + 154)]) (rest := [.ref (vB V + 182), .ref (vB V + 0)]) (i_X2_init_182 (V := V) (sh := (s_X8_init_0_41 sh)) (m := (m_X8_init_0_42 m)) rfl) cw_280 w_281 rfl (Nat.le_of_ble_eq_true rfl) rfl rfl (Nat.le_of_ble_eq_true rfl) dX8_init_129 ?_
  show gG V k_X8_init_0 132 [(0, .ref (vB V + 0))] [.ref (vB V + 182), .ref (vB V + 0)] (184, 1338, (s_X8_init_0_43 sh), (m_X8_init_0_44 m)) _ _
  refine g_putR (k := 9) (T := TX8) (N := 12) (C := RX8) (ty := (.object "WhoseHourItIs$Outlook")) tyX8 dX8_init_132 (Nat.le_of_ble_eq_true rfl) rfl rfl (by decide) inT_8 tyX8_ok nmX8 w_323 rfl rfl rfl (by decide) (by decide +kernel) rfl rfl ?_
  show gG V k_X8_init_0 135 [(0, .ref (vB V + 0))] [] (184, 1338, (s_X8_init_0_45 sh), (m_X8_init_0_44 m)) _ _
  refine g_aload_n 0 dX8_init_135 rfl rfl ?_
  refine g_new (ci := 4) (ty0 := tyX4) (fs := [1, 1, 1, 0]) w_294 w_295 w_65 dX8_init_136 rfl inT_4 tyX4_ok nf_4 (by decide) ?_
  show gG V k_X8_init_0 139 [(0, .ref (vB V + 0))] [.ref (vB V + 184), .ref (vB V + 0)] (185, 1342, (s_X8_init_0_46 sh), (m_X8_init_0_47 m)) _ _
  refine g_dup dX8_init_139 rfl ?_
  refine g_aload_n 0 dX8_init_140 rfl rfl ?_
  refine g_get (k := 0) (T := TX8) (N := 12) (C := RX8) (v := .ref (vB V + 1)) dX8_init_141 (Nat.le_of_ble_eq_true rfl) rfl rfl (by decide) inT_8 w_314 rfl ?_
  refine g_aload_n 0 dX8_init_144 rfl rfl ?_
  refine g_get (k := 5) (T := TX8) (N := 12) (C := RX8) (v := .ref (vB V + 154)) dX8_init_145 (Nat.le_of_ble_eq_true rfl) rfl rfl (by decide) inT_8 w_319 rfl ?_
  refine g_callI (As := [.ref (vB V + 1), .ref (vB V + 154)]) (rest := [.ref (vB V + 184), .ref (vB V + 0)]) (i_X4_init_184 (V := V) (sh := (s_X8_init_0_46 sh)) (m := (m_X8_init_0_47 m)) rfl) cw_296 w_297 rfl (Nat.le_of_ble_eq_true rfl) rfl rfl (Nat.le_of_ble_eq_true rfl) dX8_init_148 ?_
  show gG V k_X8_init_0 151 [(0, .ref (vB V + 0))] [.ref (vB V + 184), .ref (vB V + 0)] (186, 1370, (s_X8_init_0_48 sh), (m_X8_init_0_49 m)) _ _
  refine g_putR (k := 10) (T := TX8) (N := 12) (C := RX8) (ty := (.object "WhoseHourItIs$Row")) tyX8 dX8_init_151 (Nat.le_of_ble_eq_true rfl) rfl rfl (by decide) inT_8 tyX8_ok nmX8 w_324 rfl rfl rfl (by decide) (by decide +kernel) rfl rfl ?_
  show gG V k_X8_init_0 154 [(0, .ref (vB V + 0))] [] (186, 1370, (s_X8_init_0_50 sh), (m_X8_init_0_49 m)) _ _
  refine g_aload_n 0 dX8_init_154 rfl rfl ?_
  refine g_bipush (v := 7) dX8_init_155 rfl ?_
  refine g_newa (N := 7) w_167 dX8_init_157 (by decide) rfl (by decide) ?_
  show gG V k_X8_init_0 159 [(0, .ref (vB V + 0))] [.ref (vB V + 186), .ref (vB V + 0)] (187, 1377, (s_X8_init_0_51 sh), (m_X8_init_0_52 m)) _ _
  refine g_putR (k := 11) (T := TX8) (N := 12) (C := RX8) (ty := (.array .int)) tyX8 dX8_init_159 (Nat.le_of_ble_eq_true rfl) rfl rfl (by decide) inT_8 tyX8_ok nmX8 w_325 rfl rfl rfl (by decide) (by decide +kernel) rfl rfl ?_
  show gG V k_X8_init_0 162 [(0, .ref (vB V + 0))] [] (187, 1377, (s_X8_init_0_53 sh), (m_X8_init_0_52 m)) _ _
  exact g_vret dX8_init_162 rfl
abbrev k_X9_init_187 : kX := (cX9_init, "WhoseHourItIsModel", "<init>", none, 2, 1)
def s_X9_init_187_1 (sh : Nat → hSh) : Nat → hSh := s_up sh 188 (.inl 7)
def m_X9_init_187_2 (m : mM) : mM := m_clr m 188
def s_X9_init_187_3 (sh : Nat → hSh) : Nat → hSh := s_up (s_X9_init_187_1 sh) 187 (.inr (.inr (9, [190, 1, 1, 1, 1, 0, 1, 1, 0, 0, 0, 0, 0, 1, 1, 1, 1, 0, 0, 0, 1, 0])))
def s_X9_init_187_4 (sh : Nat → hSh) : Nat → hSh := s_up (s_X9_init_187_3 sh) 189 (.inl 189)
def m_X9_init_187_5 (m : mM) : mM := m_clr (m_X9_init_187_2 m) 189
def s_X9_init_187_6 (sh : Nat → hSh) : Nat → hSh := s_up (s_X9_init_187_4 sh) 187 (.inr (.inr (9, [190, 191, 1, 1, 1, 0, 1, 1, 0, 0, 0, 0, 0, 1, 1, 1, 1, 0, 0, 0, 1, 0])))
def s_X9_init_187_7 (sh : Nat → hSh) : Nat → hSh := s_up (s_X9_init_187_6 sh) 190 (.inl 189)
def m_X9_init_187_8 (m : mM) : mM := m_clr (m_X9_init_187_5 m) 190
def s_X9_init_187_9 (sh : Nat → hSh) : Nat → hSh := s_up (s_X9_init_187_7 sh) 187 (.inr (.inr (9, [190, 191, 192, 1, 1, 0, 1, 1, 0, 0, 0, 0, 0, 1, 1, 1, 1, 0, 0, 0, 1, 0])))
def s_X9_init_187_10 (sh : Nat → hSh) : Nat → hSh := s_up (s_X9_init_187_9 sh) 191 (.inl 189)
def m_X9_init_187_11 (m : mM) : mM := m_clr (m_X9_init_187_8 m) 191
def s_X9_init_187_12 (sh : Nat → hSh) : Nat → hSh := s_up (s_X9_init_187_10 sh) 187 (.inr (.inr (9, [190, 191, 192, 193, 1, 0, 1, 1, 0, 0, 0, 0, 0, 1, 1, 1, 1, 0, 0, 0, 1, 0])))
def s_X9_init_187_13 (sh : Nat → hSh) : Nat → hSh := s_up (s_X9_init_187_12 sh) 192 (.inl 189)
def m_X9_init_187_14 (m : mM) : mM := m_clr (m_X9_init_187_11 m) 192
def s_X9_init_187_15 (sh : Nat → hSh) : Nat → hSh := s_up (s_X9_init_187_13 sh) 187 (.inr (.inr (9, [190, 191, 192, 193, 194, 0, 1, 1, 0, 0, 0, 0, 0, 1, 1, 1, 1, 0, 0, 0, 1, 0])))
def s_X9_init_187_16 (sh : Nat → hSh) : Nat → hSh := s_up (s_X9_init_187_15 sh) 193 (.inl 64)
def m_X9_init_187_17 (m : mM) : mM := m_clr (m_X9_init_187_14 m) 193
def s_X9_init_187_18 (sh : Nat → hSh) : Nat → hSh := s_up (s_X9_init_187_16 sh) 187 (.inr (.inr (9, [190, 191, 192, 193, 194, 0, 195, 1, 0, 0, 0, 0, 0, 1, 1, 1, 1, 0, 0, 0, 1, 0])))
def s_X9_init_187_19 (sh : Nat → hSh) : Nat → hSh := s_up (s_X9_init_187_18 sh) 194 (.inl 6)
def m_X9_init_187_20 (m : mM) : mM := m_clr (m_X9_init_187_17 m) 194
def s_X9_init_187_21 (sh : Nat → hSh) : Nat → hSh := s_up (s_X9_init_187_19 sh) 187 (.inr (.inr (9, [190, 191, 192, 193, 194, 0, 195, 196, 0, 0, 0, 0, 0, 1, 1, 1, 1, 0, 0, 0, 1, 0])))
def m_X9_init_187_22 (m : mM) : mM := m_up (m_X9_init_187_20 m) 187 10 (-9)
def s_X9_init_187_23 (sh : Nat → hSh) : Nat → hSh := s_up (s_X9_init_187_21 sh) 195 (.inl 7)
def m_X9_init_187_24 (m : mM) : mM := m_clr (m_X9_init_187_22 m) 195
def s_X9_init_187_25 (sh : Nat → hSh) : Nat → hSh := s_up (s_X9_init_187_23 sh) 187 (.inr (.inr (9, [190, 191, 192, 193, 194, 0, 195, 196, 0, 0, 0, 0, 0, 197, 1, 1, 1, 0, 0, 0, 1, 0])))
def s_X9_init_187_26 (sh : Nat → hSh) : Nat → hSh := s_up (s_X9_init_187_25 sh) 196 (.inl 7)
def m_X9_init_187_27 (m : mM) : mM := m_clr (m_X9_init_187_24 m) 196
def s_X9_init_187_28 (sh : Nat → hSh) : Nat → hSh := s_up (s_X9_init_187_26 sh) 187 (.inr (.inr (9, [190, 191, 192, 193, 194, 0, 195, 196, 0, 0, 0, 0, 0, 197, 198, 1, 1, 0, 0, 0, 1, 0])))
def s_X9_init_187_29 (sh : Nat → hSh) : Nat → hSh := s_up (s_X9_init_187_28 sh) 197 (.inl 6)
def m_X9_init_187_30 (m : mM) : mM := m_clr (m_X9_init_187_27 m) 197
def s_X9_init_187_31 (sh : Nat → hSh) : Nat → hSh := s_up (s_X9_init_187_29 sh) 187 (.inr (.inr (9, [190, 191, 192, 193, 194, 0, 195, 196, 0, 0, 0, 0, 0, 197, 198, 199, 1, 0, 0, 0, 1, 0])))
def s_X9_init_187_32 (sh : Nat → hSh) : Nat → hSh := s_up (s_X9_init_187_31 sh) 198 (.inl 6)
def m_X9_init_187_33 (m : mM) : mM := m_clr (m_X9_init_187_30 m) 198
def s_X9_init_187_34 (sh : Nat → hSh) : Nat → hSh := s_up (s_X9_init_187_32 sh) 187 (.inr (.inr (9, [190, 191, 192, 193, 194, 0, 195, 196, 0, 0, 0, 0, 0, 197, 198, 199, 200, 0, 0, 0, 1, 0])))
def s_X9_init_187_35 (sh : Nat → hSh) : Nat → hSh := s_up (s_X9_init_187_34 sh) 199 (.inl 28)
def m_X9_init_187_36 (m : mM) : mM := m_clr (m_X9_init_187_33 m) 199
def s_X9_init_187_37 (sh : Nat → hSh) : Nat → hSh := s_up (s_X9_init_187_35 sh) 187 (.inr (.inr (9, [190, 191, 192, 193, 194, 0, 195, 196, 0, 0, 0, 0, 0, 197, 198, 199, 200, 0, 0, 0, 201, 0])))
def m_X9_init_187_38 (m : mM) : mM := m_up (m_X9_init_187_36 m) 189 3 (-9)
def m_X9_init_187_39 (m : mM) : mM := m_up (m_X9_init_187_38 m) 189 5 (100)
def m_X9_init_187_40 (m : mM) : mM := m_up (m_X9_init_187_39 m) 189 6 (100)
def m_X9_init_187_41 (m : mM) : mM := m_up (m_X9_init_187_40 m) 189 7 (100)
def m_X9_init_187_42 (m : mM) : mM := m_up (m_X9_init_187_41 m) 189 8 (100)
def m_X9_init_187_43 (m : mM) : mM := m_up (m_X9_init_187_42 m) 189 124 (-9)
def m_X9_init_187_44 (m : mM) : mM := m_up (m_X9_init_187_43 m) 189 128 (-9)
def m_X9_init_187_45 (m : mM) : mM := m_up (m_X9_init_187_44 m) 189 132 (-9)
def m_X9_init_187_46 (m : mM) : mM := m_up (m_X9_init_187_45 m) 189 136 (-9)
def m_X9_init_187_47 (m : mM) : mM := m_up (m_X9_init_187_46 m) 189 140 (-9)
def m_X9_init_187_48 (m : mM) : mM := m_up (m_X9_init_187_47 m) 189 144 (-9)
def m_X9_init_187_49 (m : mM) : mM := m_up (m_X9_init_187_48 m) 189 148 (-9)
def m_X9_init_187_50 (m : mM) : mM := m_up (m_X9_init_187_49 m) 189 152 (-9)
def sF_X9_init_187 (sh : Nat → hSh) : Nat → hSh := (s_X9_init_187_37 sh)
def mF_X9_init_187 (m : mM) : mM := (m_X9_init_187_50 m)
set_option maxRecDepth 100000 in
set_option maxHeartbeats 4000000 in
theorem i_X9_init_187 {V : eV} {sh : Nat → hSh} {m : mM} (hs : sh 187 = .inr (.inr (9, [1, 1, 1, 1, 1, 0, 1, 1, 0, 0, 0, 0, 0, 1, 1, 1, 1, 0, 0, 0, 1, 0]))) : eE V 1 yX9_init cX9_init 2 none [.ref (vB V + 187)] (188, 1399, sh, m) none (200, 2286, sF_X9_init_187 sh, mF_X9_init_187 m) := by
  refine eE_of (by decide) (Nat.le_of_ble_eq_true rfl) ?_
  show gG V k_X9_init_187 0 [(0, .ref (vB V + 187))] [] (188, 1399, sh, m) none (200, 2286, (s_X9_init_187_37 sh), (m_X9_init_187_50 m))
  refine g_aload_n 0 dX9_init_0 rfl rfl ?_
  refine g_objInit w_928 w_81 w_82 (Nat.le_of_ble_eq_true rfl) (Nat.le_of_ble_eq_true rfl) dX9_init_1 ?_
  refine g_aload_n 0 dX9_init_4 rfl rfl ?_
  refine g_bipush (v := 7) dX9_init_5 rfl ?_
  refine g_newa (N := 7) w_167 dX9_init_7 (by decide) rfl (by decide) ?_
  show gG V k_X9_init_187 9 [(0, .ref (vB V + 187))] [.ref (vB V + 188), .ref (vB V + 187)] (189, 1406, (s_X9_init_187_1 sh), (m_X9_init_187_2 m)) _ _
  refine g_putR (k := 0) (T := TX9) (N := 22) (C := RX9) (ty := (.array .int)) tyX9 dX9_init_9 (Nat.le_of_ble_eq_true rfl) hs rfl (by decide) inT_9 tyX9_ok nmX9 w_929 rfl rfl rfl (by decide) (by decide +kernel) rfl rfl ?_
  show gG V k_X9_init_187 12 [(0, .ref (vB V + 187))] [] (189, 1406, (s_X9_init_187_3 sh), (m_X9_init_187_2 m)) _ _
  refine g_aload_n 0 dX9_init_12 rfl rfl ?_
  refine g_sipush (v := 189) dX9_init_13 rfl ?_
  refine g_newa (N := 189) w_167 dX9_init_16 (by decide) rfl (by decide) ?_
  show gG V k_X9_init_187 18 [(0, .ref (vB V + 187))] [.ref (vB V + 189), .ref (vB V + 187)] (190, 1595, (s_X9_init_187_4 sh), (m_X9_init_187_5 m)) _ _
  refine g_putR (k := 1) (T := TX9) (N := 22) (C := RX9) (ty := (.array .int)) tyX9 dX9_init_18 (Nat.le_of_ble_eq_true rfl) rfl rfl (by decide) inT_9 tyX9_ok nmX9 w_930 rfl rfl rfl (by decide) (by decide +kernel) rfl rfl ?_
  show gG V k_X9_init_187 21 [(0, .ref (vB V + 187))] [] (190, 1595, (s_X9_init_187_6 sh), (m_X9_init_187_5 m)) _ _
  refine g_aload_n 0 dX9_init_21 rfl rfl ?_
  refine g_sipush (v := 189) dX9_init_22 rfl ?_
  refine g_newa (N := 189) w_167 dX9_init_25 (by decide) rfl (by decide) ?_
  show gG V k_X9_init_187 27 [(0, .ref (vB V + 187))] [.ref (vB V + 190), .ref (vB V + 187)] (191, 1784, (s_X9_init_187_7 sh), (m_X9_init_187_8 m)) _ _
  refine g_putR (k := 2) (T := TX9) (N := 22) (C := RX9) (ty := (.array .int)) tyX9 dX9_init_27 (Nat.le_of_ble_eq_true rfl) rfl rfl (by decide) inT_9 tyX9_ok nmX9 w_931 rfl rfl rfl (by decide) (by decide +kernel) rfl rfl ?_
  show gG V k_X9_init_187 30 [(0, .ref (vB V + 187))] [] (191, 1784, (s_X9_init_187_9 sh), (m_X9_init_187_8 m)) _ _
  refine g_aload_n 0 dX9_init_30 rfl rfl ?_
  refine g_sipush (v := 189) dX9_init_31 rfl ?_
  refine g_newa (N := 189) w_167 dX9_init_34 (by decide) rfl (by decide) ?_
  show gG V k_X9_init_187 36 [(0, .ref (vB V + 187))] [.ref (vB V + 191), .ref (vB V + 187)] (192, 1973, (s_X9_init_187_10 sh), (m_X9_init_187_11 m)) _ _
  refine g_putR (k := 3) (T := TX9) (N := 22) (C := RX9) (ty := (.array .int)) tyX9 dX9_init_36 (Nat.le_of_ble_eq_true rfl) rfl rfl (by decide) inT_9 tyX9_ok nmX9 w_932 rfl rfl rfl (by decide) (by decide +kernel) rfl rfl ?_
  show gG V k_X9_init_187 39 [(0, .ref (vB V + 187))] [] (192, 1973, (s_X9_init_187_12 sh), (m_X9_init_187_11 m)) _ _
  refine g_aload_n 0 dX9_init_39 rfl rfl ?_
  refine g_sipush (v := 189) dX9_init_40 rfl ?_
  refine g_newa (N := 189) w_167 dX9_init_43 (by decide) rfl (by decide) ?_
  show gG V k_X9_init_187 45 [(0, .ref (vB V + 187))] [.ref (vB V + 192), .ref (vB V + 187)] (193, 2162, (s_X9_init_187_13 sh), (m_X9_init_187_14 m)) _ _
  refine g_putR (k := 4) (T := TX9) (N := 22) (C := RX9) (ty := (.array .int)) tyX9 dX9_init_45 (Nat.le_of_ble_eq_true rfl) rfl rfl (by decide) inT_9 tyX9_ok nmX9 w_933 rfl rfl rfl (by decide) (by decide +kernel) rfl rfl ?_
  show gG V k_X9_init_187 48 [(0, .ref (vB V + 187))] [] (193, 2162, (s_X9_init_187_15 sh), (m_X9_init_187_14 m)) _ _
  refine g_aload_n 0 dX9_init_48 rfl rfl ?_
  refine g_bipush (v := 64) dX9_init_49 rfl ?_
  refine g_newa (N := 64) w_167 dX9_init_51 (by decide) rfl (by decide) ?_
  show gG V k_X9_init_187 53 [(0, .ref (vB V + 187))] [.ref (vB V + 193), .ref (vB V + 187)] (194, 2226, (s_X9_init_187_16 sh), (m_X9_init_187_17 m)) _ _
  refine g_putR (k := 6) (T := TX9) (N := 22) (C := RX9) (ty := (.array .int)) tyX9 dX9_init_53 (Nat.le_of_ble_eq_true rfl) rfl rfl (by decide) inT_9 tyX9_ok nmX9 w_935 rfl rfl rfl (by decide) (by decide +kernel) rfl rfl ?_
  show gG V k_X9_init_187 56 [(0, .ref (vB V + 187))] [] (194, 2226, (s_X9_init_187_18 sh), (m_X9_init_187_17 m)) _ _
  refine g_aload_n 0 dX9_init_56 rfl rfl ?_
  refine g_bipush (v := 6) dX9_init_57 rfl ?_
  refine g_newa (N := 6) w_167 dX9_init_59 (by decide) rfl (by decide) ?_
  show gG V k_X9_init_187 61 [(0, .ref (vB V + 187))] [.ref (vB V + 194), .ref (vB V + 187)] (195, 2232, (s_X9_init_187_19 sh), (m_X9_init_187_20 m)) _ _
  refine g_putR (k := 7) (T := TX9) (N := 22) (C := RX9) (ty := (.array .int)) tyX9 dX9_init_61 (Nat.le_of_ble_eq_true rfl) rfl rfl (by decide) inT_9 tyX9_ok nmX9 w_936 rfl rfl rfl (by decide) (by decide +kernel) rfl rfl ?_
  show gG V k_X9_init_187 64 [(0, .ref (vB V + 187))] [] (195, 2232, (s_X9_init_187_21 sh), (m_X9_init_187_20 m)) _ _
  refine g_aload_n 0 dX9_init_64 rfl rfl ?_
  refine g_bipush (v := -9) dX9_init_65 rfl ?_
  refine g_putI (k := 10) (T := TX9) (N := 22) (C := RX9) (ty := .int) tyX9 dX9_init_67 (Nat.le_of_ble_eq_true rfl) rfl rfl (by decide) inT_9 tyX9_ok nmX9 w_939 rfl rfl (by decide +kernel) rfl rfl ?_
  show gG V k_X9_init_187 70 [(0, .ref (vB V + 187))] [] (195, 2232, (s_X9_init_187_21 sh), (m_X9_init_187_22 m)) _ _
  refine g_aload_n 0 dX9_init_70 rfl rfl ?_
  refine g_bipush (v := 7) dX9_init_71 rfl ?_
  refine g_newa (N := 7) w_167 dX9_init_73 (by decide) rfl (by decide) ?_
  show gG V k_X9_init_187 75 [(0, .ref (vB V + 187))] [.ref (vB V + 195), .ref (vB V + 187)] (196, 2239, (s_X9_init_187_23 sh), (m_X9_init_187_24 m)) _ _
  refine g_putR (k := 13) (T := TX9) (N := 22) (C := RX9) (ty := (.array .int)) tyX9 dX9_init_75 (Nat.le_of_ble_eq_true rfl) rfl rfl (by decide) inT_9 tyX9_ok nmX9 w_942 rfl rfl rfl (by decide) (by decide +kernel) rfl rfl ?_
  show gG V k_X9_init_187 78 [(0, .ref (vB V + 187))] [] (196, 2239, (s_X9_init_187_25 sh), (m_X9_init_187_24 m)) _ _
  refine g_aload_n 0 dX9_init_78 rfl rfl ?_
  refine g_bipush (v := 7) dX9_init_79 rfl ?_
  refine g_newa (N := 7) w_167 dX9_init_81 (by decide) rfl (by decide) ?_
  show gG V k_X9_init_187 83 [(0, .ref (vB V + 187))] [.ref (vB V + 196), .ref (vB V + 187)] (197, 2246, (s_X9_init_187_26 sh), (m_X9_init_187_27 m)) _ _
  refine g_putR (k := 14) (T := TX9) (N := 22) (C := RX9) (ty := (.array .int)) tyX9 dX9_init_83 (Nat.le_of_ble_eq_true rfl) rfl rfl (by decide) inT_9 tyX9_ok nmX9 w_943 rfl rfl rfl (by decide) (by decide +kernel) rfl rfl ?_
  show gG V k_X9_init_187 86 [(0, .ref (vB V + 187))] [] (197, 2246, (s_X9_init_187_28 sh), (m_X9_init_187_27 m)) _ _
  refine g_aload_n 0 dX9_init_86 rfl rfl ?_
  refine g_bipush (v := 6) dX9_init_87 rfl ?_
  refine g_newa (N := 6) w_167 dX9_init_89 (by decide) rfl (by decide) ?_
  show gG V k_X9_init_187 91 [(0, .ref (vB V + 187))] [.ref (vB V + 197), .ref (vB V + 187)] (198, 2252, (s_X9_init_187_29 sh), (m_X9_init_187_30 m)) _ _
  refine g_putR (k := 15) (T := TX9) (N := 22) (C := RX9) (ty := (.array .int)) tyX9 dX9_init_91 (Nat.le_of_ble_eq_true rfl) rfl rfl (by decide) inT_9 tyX9_ok nmX9 w_944 rfl rfl rfl (by decide) (by decide +kernel) rfl rfl ?_
  show gG V k_X9_init_187 94 [(0, .ref (vB V + 187))] [] (198, 2252, (s_X9_init_187_31 sh), (m_X9_init_187_30 m)) _ _
  refine g_aload_n 0 dX9_init_94 rfl rfl ?_
  refine g_bipush (v := 6) dX9_init_95 rfl ?_
  refine g_newa (N := 6) w_167 dX9_init_97 (by decide) rfl (by decide) ?_
  show gG V k_X9_init_187 99 [(0, .ref (vB V + 187))] [.ref (vB V + 198), .ref (vB V + 187)] (199, 2258, (s_X9_init_187_32 sh), (m_X9_init_187_33 m)) _ _
  refine g_putR (k := 16) (T := TX9) (N := 22) (C := RX9) (ty := (.array .int)) tyX9 dX9_init_99 (Nat.le_of_ble_eq_true rfl) rfl rfl (by decide) inT_9 tyX9_ok nmX9 w_945 rfl rfl rfl (by decide) (by decide +kernel) rfl rfl ?_
  show gG V k_X9_init_187 102 [(0, .ref (vB V + 187))] [] (199, 2258, (s_X9_init_187_34 sh), (m_X9_init_187_33 m)) _ _
  refine g_aload_n 0 dX9_init_102 rfl rfl ?_
  refine g_bipush (v := 28) dX9_init_103 rfl ?_
  refine g_newa (N := 28) w_167 dX9_init_105 (by decide) rfl (by decide) ?_
  show gG V k_X9_init_187 107 [(0, .ref (vB V + 187))] [.ref (vB V + 199), .ref (vB V + 187)] (200, 2286, (s_X9_init_187_35 sh), (m_X9_init_187_36 m)) _ _
  refine g_putR (k := 20) (T := TX9) (N := 22) (C := RX9) (ty := (.array .int)) tyX9 dX9_init_107 (Nat.le_of_ble_eq_true rfl) rfl rfl (by decide) inT_9 tyX9_ok nmX9 w_949 rfl rfl rfl (by decide) (by decide +kernel) rfl rfl ?_
  show gG V k_X9_init_187 110 [(0, .ref (vB V + 187))] [] (200, 2286, (s_X9_init_187_37 sh), (m_X9_init_187_36 m)) _ _
  refine g_aload_n 0 dX9_init_110 rfl rfl ?_
  refine g_get (k := 1) (T := TX9) (N := 22) (C := RX9) (v := .ref (vB V + 189)) dX9_init_111 (Nat.le_of_ble_eq_true rfl) rfl rfl (by decide) inT_9 w_930 rfl ?_
  refine g_iconst (v := 3) dX9_init_114 rfl ?_
  refine g_bipush (v := -9) dX9_init_115 rfl ?_
  refine g_iast (n := 189) dX9_init_117 (Nat.le_of_ble_eq_true rfl) rfl (by unfold vp_in; decide) ?_
  show gG V k_X9_init_187 118 [(0, .ref (vB V + 187))] [] (200, 2286, (s_X9_init_187_37 sh), (m_X9_init_187_38 m)) _ _
  refine g_iconst (v := 0) dX9_init_118 rfl ?_
  refine g_istore_n dX9_init_119 rfl (Nat.le_of_ble_eq_true rfl) rfl ?_
  refine g_iload_n 0 dX9_init_120 rfl rfl ?_
  refine g_iconst (v := 4) dX9_init_121 rfl ?_
  refine g_icmp_ge (tgt := 141) dX9_init_122 (by decide) (fun z => absurd z (by decide)) (fun _ => ?_)
  refine g_aload_n 1 dX9_init_125 rfl rfl ?_
  refine g_get (k := 1) (T := TX9) (N := 22) (C := RX9) (v := .ref (vB V + 189)) dX9_init_126 (Nat.le_of_ble_eq_true rfl) rfl rfl (by decide) inT_9 w_930 rfl ?_
  refine g_iconst (v := 5) dX9_init_129 rfl ?_
  refine g_iload_n 0 dX9_init_130 rfl rfl ?_
  refine g_iadd dX9_init_131 ?_
  show gG V k_X9_init_187 132 [(1, .int (0 : Int32)), (0, .ref (vB V + 187))] [.int (5 : Int32), .ref (vB V + 189)] (200, 2286, (s_X9_init_187_37 sh), (m_X9_init_187_38 m)) _ _
  refine g_bipush (v := 100) dX9_init_132 rfl ?_
  refine g_iast (n := 189) dX9_init_134 (Nat.le_of_ble_eq_true rfl) rfl (by unfold vp_in; decide) ?_
  show gG V k_X9_init_187 135 [(1, .int (0 : Int32)), (0, .ref (vB V + 187))] [] (200, 2286, (s_X9_init_187_37 sh), (m_X9_init_187_39 m)) _ _
  refine g_iinc (q := 0) (v := 1) dX9_init_135 rfl rfl (Nat.le_of_ble_eq_true rfl) rfl ?_
  refine g_goto (tgt := 120) dX9_init_138 (by decide) ?_
  refine g_iload_n 0 dX9_init_120 rfl rfl ?_
  refine g_iconst (v := 4) dX9_init_121 rfl ?_
  refine g_icmp_ge (tgt := 141) dX9_init_122 (by decide) (fun z => absurd z (by decide)) (fun _ => ?_)
  refine g_aload_n 1 dX9_init_125 rfl rfl ?_
  refine g_get (k := 1) (T := TX9) (N := 22) (C := RX9) (v := .ref (vB V + 189)) dX9_init_126 (Nat.le_of_ble_eq_true rfl) rfl rfl (by decide) inT_9 w_930 rfl ?_
  refine g_iconst (v := 5) dX9_init_129 rfl ?_
  refine g_iload_n 0 dX9_init_130 rfl rfl ?_
  refine g_iadd dX9_init_131 ?_
  show gG V k_X9_init_187 132 [(1, .int (1 : Int32)), (0, .ref (vB V + 187))] [.int (6 : Int32), .ref (vB V + 189)] (200, 2286, (s_X9_init_187_37 sh), (m_X9_init_187_39 m)) _ _
  refine g_bipush (v := 100) dX9_init_132 rfl ?_
  refine g_iast (n := 189) dX9_init_134 (Nat.le_of_ble_eq_true rfl) rfl (by unfold vp_in; decide) ?_
  show gG V k_X9_init_187 135 [(1, .int (1 : Int32)), (0, .ref (vB V + 187))] [] (200, 2286, (s_X9_init_187_37 sh), (m_X9_init_187_40 m)) _ _
  refine g_iinc (q := 0) (v := 2) dX9_init_135 rfl rfl (Nat.le_of_ble_eq_true rfl) rfl ?_
  refine g_goto (tgt := 120) dX9_init_138 (by decide) ?_
  refine g_iload_n 0 dX9_init_120 rfl rfl ?_
  refine g_iconst (v := 4) dX9_init_121 rfl ?_
  refine g_icmp_ge (tgt := 141) dX9_init_122 (by decide) (fun z => absurd z (by decide)) (fun _ => ?_)
  refine g_aload_n 1 dX9_init_125 rfl rfl ?_
  refine g_get (k := 1) (T := TX9) (N := 22) (C := RX9) (v := .ref (vB V + 189)) dX9_init_126 (Nat.le_of_ble_eq_true rfl) rfl rfl (by decide) inT_9 w_930 rfl ?_
  refine g_iconst (v := 5) dX9_init_129 rfl ?_
  refine g_iload_n 0 dX9_init_130 rfl rfl ?_
  refine g_iadd dX9_init_131 ?_
  show gG V k_X9_init_187 132 [(1, .int (2 : Int32)), (0, .ref (vB V + 187))] [.int (7 : Int32), .ref (vB V + 189)] (200, 2286, (s_X9_init_187_37 sh), (m_X9_init_187_40 m)) _ _
  refine g_bipush (v := 100) dX9_init_132 rfl ?_
  refine g_iast (n := 189) dX9_init_134 (Nat.le_of_ble_eq_true rfl) rfl (by unfold vp_in; decide) ?_
  show gG V k_X9_init_187 135 [(1, .int (2 : Int32)), (0, .ref (vB V + 187))] [] (200, 2286, (s_X9_init_187_37 sh), (m_X9_init_187_41 m)) _ _
  refine g_iinc (q := 0) (v := 3) dX9_init_135 rfl rfl (Nat.le_of_ble_eq_true rfl) rfl ?_
  refine g_goto (tgt := 120) dX9_init_138 (by decide) ?_
  refine g_iload_n 0 dX9_init_120 rfl rfl ?_
  refine g_iconst (v := 4) dX9_init_121 rfl ?_
  refine g_icmp_ge (tgt := 141) dX9_init_122 (by decide) (fun z => absurd z (by decide)) (fun _ => ?_)
  refine g_aload_n 1 dX9_init_125 rfl rfl ?_
  refine g_get (k := 1) (T := TX9) (N := 22) (C := RX9) (v := .ref (vB V + 189)) dX9_init_126 (Nat.le_of_ble_eq_true rfl) rfl rfl (by decide) inT_9 w_930 rfl ?_
  refine g_iconst (v := 5) dX9_init_129 rfl ?_
  refine g_iload_n 0 dX9_init_130 rfl rfl ?_
  refine g_iadd dX9_init_131 ?_
  show gG V k_X9_init_187 132 [(1, .int (3 : Int32)), (0, .ref (vB V + 187))] [.int (8 : Int32), .ref (vB V + 189)] (200, 2286, (s_X9_init_187_37 sh), (m_X9_init_187_41 m)) _ _
  refine g_bipush (v := 100) dX9_init_132 rfl ?_
  refine g_iast (n := 189) dX9_init_134 (Nat.le_of_ble_eq_true rfl) rfl (by unfold vp_in; decide) ?_
  show gG V k_X9_init_187 135 [(1, .int (3 : Int32)), (0, .ref (vB V + 187))] [] (200, 2286, (s_X9_init_187_37 sh), (m_X9_init_187_42 m)) _ _
  refine g_iinc (q := 0) (v := 4) dX9_init_135 rfl rfl (Nat.le_of_ble_eq_true rfl) rfl ?_
  refine g_goto (tgt := 120) dX9_init_138 (by decide) ?_
  refine g_iload_n 0 dX9_init_120 rfl rfl ?_
  refine g_iconst (v := 4) dX9_init_121 rfl ?_
  refine g_icmp_ge (tgt := 141) dX9_init_122 (by decide) (fun _ => ?_) (fun z => absurd (by decide) z)
  refine g_iconst (v := 0) dX9_init_141 rfl ?_
  refine g_istore_n dX9_init_142 rfl (Nat.le_of_ble_eq_true rfl) rfl ?_
  refine g_iload_n 0 dX9_init_143 rfl rfl ?_
  refine g_bipush (v := 8) dX9_init_144 rfl ?_
  refine g_icmp_ge (tgt := 170) dX9_init_146 (by decide) (fun z => absurd z (by decide)) (fun _ => ?_)
  refine g_aload_n 1 dX9_init_149 rfl rfl ?_
  refine g_get (k := 1) (T := TX9) (N := 22) (C := RX9) (v := .ref (vB V + 189)) dX9_init_150 (Nat.le_of_ble_eq_true rfl) rfl rfl (by decide) inT_9 w_930 rfl ?_
  refine g_bipush (v := 121) dX9_init_153 rfl ?_
  refine g_iconst (v := 4) dX9_init_155 rfl ?_
  refine g_iload_n 0 dX9_init_156 rfl rfl ?_
  refine g_imul dX9_init_157 ?_
  show gG V k_X9_init_187 158 [(1, .int (0 : Int32)), (0, .ref (vB V + 187))] [.int (0 : Int32), .int (121 : Int32), .ref (vB V + 189)] (200, 2286, (s_X9_init_187_37 sh), (m_X9_init_187_42 m)) _ _
  refine g_iadd dX9_init_158 ?_
  show gG V k_X9_init_187 159 [(1, .int (0 : Int32)), (0, .ref (vB V + 187))] [.int (121 : Int32), .ref (vB V + 189)] (200, 2286, (s_X9_init_187_37 sh), (m_X9_init_187_42 m)) _ _
  refine g_iconst (v := 3) dX9_init_159 rfl ?_
  refine g_iadd dX9_init_160 ?_
  show gG V k_X9_init_187 161 [(1, .int (0 : Int32)), (0, .ref (vB V + 187))] [.int (124 : Int32), .ref (vB V + 189)] (200, 2286, (s_X9_init_187_37 sh), (m_X9_init_187_42 m)) _ _
  refine g_bipush (v := -9) dX9_init_161 rfl ?_
  refine g_iast (n := 189) dX9_init_163 (Nat.le_of_ble_eq_true rfl) rfl (by unfold vp_in; decide) ?_
  show gG V k_X9_init_187 164 [(1, .int (0 : Int32)), (0, .ref (vB V + 187))] [] (200, 2286, (s_X9_init_187_37 sh), (m_X9_init_187_43 m)) _ _
  refine g_iinc (q := 0) (v := 1) dX9_init_164 rfl rfl (Nat.le_of_ble_eq_true rfl) rfl ?_
  refine g_goto (tgt := 143) dX9_init_167 (by decide) ?_
  refine g_iload_n 0 dX9_init_143 rfl rfl ?_
  refine g_bipush (v := 8) dX9_init_144 rfl ?_
  refine g_icmp_ge (tgt := 170) dX9_init_146 (by decide) (fun z => absurd z (by decide)) (fun _ => ?_)
  refine g_aload_n 1 dX9_init_149 rfl rfl ?_
  refine g_get (k := 1) (T := TX9) (N := 22) (C := RX9) (v := .ref (vB V + 189)) dX9_init_150 (Nat.le_of_ble_eq_true rfl) rfl rfl (by decide) inT_9 w_930 rfl ?_
  refine g_bipush (v := 121) dX9_init_153 rfl ?_
  refine g_iconst (v := 4) dX9_init_155 rfl ?_
  refine g_iload_n 0 dX9_init_156 rfl rfl ?_
  refine g_imul dX9_init_157 ?_
  show gG V k_X9_init_187 158 [(1, .int (1 : Int32)), (0, .ref (vB V + 187))] [.int (4 : Int32), .int (121 : Int32), .ref (vB V + 189)] (200, 2286, (s_X9_init_187_37 sh), (m_X9_init_187_43 m)) _ _
  refine g_iadd dX9_init_158 ?_
  show gG V k_X9_init_187 159 [(1, .int (1 : Int32)), (0, .ref (vB V + 187))] [.int (125 : Int32), .ref (vB V + 189)] (200, 2286, (s_X9_init_187_37 sh), (m_X9_init_187_43 m)) _ _
  refine g_iconst (v := 3) dX9_init_159 rfl ?_
  refine g_iadd dX9_init_160 ?_
  show gG V k_X9_init_187 161 [(1, .int (1 : Int32)), (0, .ref (vB V + 187))] [.int (128 : Int32), .ref (vB V + 189)] (200, 2286, (s_X9_init_187_37 sh), (m_X9_init_187_43 m)) _ _
  refine g_bipush (v := -9) dX9_init_161 rfl ?_
  refine g_iast (n := 189) dX9_init_163 (Nat.le_of_ble_eq_true rfl) rfl (by unfold vp_in; decide) ?_
  show gG V k_X9_init_187 164 [(1, .int (1 : Int32)), (0, .ref (vB V + 187))] [] (200, 2286, (s_X9_init_187_37 sh), (m_X9_init_187_44 m)) _ _
  refine g_iinc (q := 0) (v := 2) dX9_init_164 rfl rfl (Nat.le_of_ble_eq_true rfl) rfl ?_
  refine g_goto (tgt := 143) dX9_init_167 (by decide) ?_
  refine g_iload_n 0 dX9_init_143 rfl rfl ?_
  refine g_bipush (v := 8) dX9_init_144 rfl ?_
  refine g_icmp_ge (tgt := 170) dX9_init_146 (by decide) (fun z => absurd z (by decide)) (fun _ => ?_)
  refine g_aload_n 1 dX9_init_149 rfl rfl ?_
  refine g_get (k := 1) (T := TX9) (N := 22) (C := RX9) (v := .ref (vB V + 189)) dX9_init_150 (Nat.le_of_ble_eq_true rfl) rfl rfl (by decide) inT_9 w_930 rfl ?_
  refine g_bipush (v := 121) dX9_init_153 rfl ?_
  refine g_iconst (v := 4) dX9_init_155 rfl ?_
  refine g_iload_n 0 dX9_init_156 rfl rfl ?_
  refine g_imul dX9_init_157 ?_
  show gG V k_X9_init_187 158 [(1, .int (2 : Int32)), (0, .ref (vB V + 187))] [.int (8 : Int32), .int (121 : Int32), .ref (vB V + 189)] (200, 2286, (s_X9_init_187_37 sh), (m_X9_init_187_44 m)) _ _
  refine g_iadd dX9_init_158 ?_
  show gG V k_X9_init_187 159 [(1, .int (2 : Int32)), (0, .ref (vB V + 187))] [.int (129 : Int32), .ref (vB V + 189)] (200, 2286, (s_X9_init_187_37 sh), (m_X9_init_187_44 m)) _ _
  refine g_iconst (v := 3) dX9_init_159 rfl ?_
  refine g_iadd dX9_init_160 ?_
  show gG V k_X9_init_187 161 [(1, .int (2 : Int32)), (0, .ref (vB V + 187))] [.int (132 : Int32), .ref (vB V + 189)] (200, 2286, (s_X9_init_187_37 sh), (m_X9_init_187_44 m)) _ _
  refine g_bipush (v := -9) dX9_init_161 rfl ?_
  refine g_iast (n := 189) dX9_init_163 (Nat.le_of_ble_eq_true rfl) rfl (by unfold vp_in; decide) ?_
  show gG V k_X9_init_187 164 [(1, .int (2 : Int32)), (0, .ref (vB V + 187))] [] (200, 2286, (s_X9_init_187_37 sh), (m_X9_init_187_45 m)) _ _
  refine g_iinc (q := 0) (v := 3) dX9_init_164 rfl rfl (Nat.le_of_ble_eq_true rfl) rfl ?_
  refine g_goto (tgt := 143) dX9_init_167 (by decide) ?_
  refine g_iload_n 0 dX9_init_143 rfl rfl ?_
  refine g_bipush (v := 8) dX9_init_144 rfl ?_
  refine g_icmp_ge (tgt := 170) dX9_init_146 (by decide) (fun z => absurd z (by decide)) (fun _ => ?_)
  refine g_aload_n 1 dX9_init_149 rfl rfl ?_
  refine g_get (k := 1) (T := TX9) (N := 22) (C := RX9) (v := .ref (vB V + 189)) dX9_init_150 (Nat.le_of_ble_eq_true rfl) rfl rfl (by decide) inT_9 w_930 rfl ?_
  refine g_bipush (v := 121) dX9_init_153 rfl ?_
  refine g_iconst (v := 4) dX9_init_155 rfl ?_
  refine g_iload_n 0 dX9_init_156 rfl rfl ?_
  refine g_imul dX9_init_157 ?_
  show gG V k_X9_init_187 158 [(1, .int (3 : Int32)), (0, .ref (vB V + 187))] [.int (12 : Int32), .int (121 : Int32), .ref (vB V + 189)] (200, 2286, (s_X9_init_187_37 sh), (m_X9_init_187_45 m)) _ _
  refine g_iadd dX9_init_158 ?_
  show gG V k_X9_init_187 159 [(1, .int (3 : Int32)), (0, .ref (vB V + 187))] [.int (133 : Int32), .ref (vB V + 189)] (200, 2286, (s_X9_init_187_37 sh), (m_X9_init_187_45 m)) _ _
  refine g_iconst (v := 3) dX9_init_159 rfl ?_
  refine g_iadd dX9_init_160 ?_
  show gG V k_X9_init_187 161 [(1, .int (3 : Int32)), (0, .ref (vB V + 187))] [.int (136 : Int32), .ref (vB V + 189)] (200, 2286, (s_X9_init_187_37 sh), (m_X9_init_187_45 m)) _ _
  refine g_bipush (v := -9) dX9_init_161 rfl ?_
  refine g_iast (n := 189) dX9_init_163 (Nat.le_of_ble_eq_true rfl) rfl (by unfold vp_in; decide) ?_
  show gG V k_X9_init_187 164 [(1, .int (3 : Int32)), (0, .ref (vB V + 187))] [] (200, 2286, (s_X9_init_187_37 sh), (m_X9_init_187_46 m)) _ _
  refine g_iinc (q := 0) (v := 4) dX9_init_164 rfl rfl (Nat.le_of_ble_eq_true rfl) rfl ?_
  refine g_goto (tgt := 143) dX9_init_167 (by decide) ?_
  refine g_iload_n 0 dX9_init_143 rfl rfl ?_
  refine g_bipush (v := 8) dX9_init_144 rfl ?_
  refine g_icmp_ge (tgt := 170) dX9_init_146 (by decide) (fun z => absurd z (by decide)) (fun _ => ?_)
  refine g_aload_n 1 dX9_init_149 rfl rfl ?_
  refine g_get (k := 1) (T := TX9) (N := 22) (C := RX9) (v := .ref (vB V + 189)) dX9_init_150 (Nat.le_of_ble_eq_true rfl) rfl rfl (by decide) inT_9 w_930 rfl ?_
  refine g_bipush (v := 121) dX9_init_153 rfl ?_
  refine g_iconst (v := 4) dX9_init_155 rfl ?_
  refine g_iload_n 0 dX9_init_156 rfl rfl ?_
  refine g_imul dX9_init_157 ?_
  show gG V k_X9_init_187 158 [(1, .int (4 : Int32)), (0, .ref (vB V + 187))] [.int (16 : Int32), .int (121 : Int32), .ref (vB V + 189)] (200, 2286, (s_X9_init_187_37 sh), (m_X9_init_187_46 m)) _ _
  refine g_iadd dX9_init_158 ?_
  show gG V k_X9_init_187 159 [(1, .int (4 : Int32)), (0, .ref (vB V + 187))] [.int (137 : Int32), .ref (vB V + 189)] (200, 2286, (s_X9_init_187_37 sh), (m_X9_init_187_46 m)) _ _
  refine g_iconst (v := 3) dX9_init_159 rfl ?_
  refine g_iadd dX9_init_160 ?_
  show gG V k_X9_init_187 161 [(1, .int (4 : Int32)), (0, .ref (vB V + 187))] [.int (140 : Int32), .ref (vB V + 189)] (200, 2286, (s_X9_init_187_37 sh), (m_X9_init_187_46 m)) _ _
  refine g_bipush (v := -9) dX9_init_161 rfl ?_
  refine g_iast (n := 189) dX9_init_163 (Nat.le_of_ble_eq_true rfl) rfl (by unfold vp_in; decide) ?_
  show gG V k_X9_init_187 164 [(1, .int (4 : Int32)), (0, .ref (vB V + 187))] [] (200, 2286, (s_X9_init_187_37 sh), (m_X9_init_187_47 m)) _ _
  refine g_iinc (q := 0) (v := 5) dX9_init_164 rfl rfl (Nat.le_of_ble_eq_true rfl) rfl ?_
  refine g_goto (tgt := 143) dX9_init_167 (by decide) ?_
  refine g_iload_n 0 dX9_init_143 rfl rfl ?_
  refine g_bipush (v := 8) dX9_init_144 rfl ?_
  refine g_icmp_ge (tgt := 170) dX9_init_146 (by decide) (fun z => absurd z (by decide)) (fun _ => ?_)
  refine g_aload_n 1 dX9_init_149 rfl rfl ?_
  refine g_get (k := 1) (T := TX9) (N := 22) (C := RX9) (v := .ref (vB V + 189)) dX9_init_150 (Nat.le_of_ble_eq_true rfl) rfl rfl (by decide) inT_9 w_930 rfl ?_
  refine g_bipush (v := 121) dX9_init_153 rfl ?_
  refine g_iconst (v := 4) dX9_init_155 rfl ?_
  refine g_iload_n 0 dX9_init_156 rfl rfl ?_
  refine g_imul dX9_init_157 ?_
  show gG V k_X9_init_187 158 [(1, .int (5 : Int32)), (0, .ref (vB V + 187))] [.int (20 : Int32), .int (121 : Int32), .ref (vB V + 189)] (200, 2286, (s_X9_init_187_37 sh), (m_X9_init_187_47 m)) _ _
  refine g_iadd dX9_init_158 ?_
  show gG V k_X9_init_187 159 [(1, .int (5 : Int32)), (0, .ref (vB V + 187))] [.int (141 : Int32), .ref (vB V + 189)] (200, 2286, (s_X9_init_187_37 sh), (m_X9_init_187_47 m)) _ _
  refine g_iconst (v := 3) dX9_init_159 rfl ?_
  refine g_iadd dX9_init_160 ?_
  show gG V k_X9_init_187 161 [(1, .int (5 : Int32)), (0, .ref (vB V + 187))] [.int (144 : Int32), .ref (vB V + 189)] (200, 2286, (s_X9_init_187_37 sh), (m_X9_init_187_47 m)) _ _
  refine g_bipush (v := -9) dX9_init_161 rfl ?_
  refine g_iast (n := 189) dX9_init_163 (Nat.le_of_ble_eq_true rfl) rfl (by unfold vp_in; decide) ?_
  show gG V k_X9_init_187 164 [(1, .int (5 : Int32)), (0, .ref (vB V + 187))] [] (200, 2286, (s_X9_init_187_37 sh), (m_X9_init_187_48 m)) _ _
  refine g_iinc (q := 0) (v := 6) dX9_init_164 rfl rfl (Nat.le_of_ble_eq_true rfl) rfl ?_
  refine g_goto (tgt := 143) dX9_init_167 (by decide) ?_
  refine g_iload_n 0 dX9_init_143 rfl rfl ?_
  refine g_bipush (v := 8) dX9_init_144 rfl ?_
  refine g_icmp_ge (tgt := 170) dX9_init_146 (by decide) (fun z => absurd z (by decide)) (fun _ => ?_)
  refine g_aload_n 1 dX9_init_149 rfl rfl ?_
  refine g_get (k := 1) (T := TX9) (N := 22) (C := RX9) (v := .ref (vB V + 189)) dX9_init_150 (Nat.le_of_ble_eq_true rfl) rfl rfl (by decide) inT_9 w_930 rfl ?_
  refine g_bipush (v := 121) dX9_init_153 rfl ?_
  refine g_iconst (v := 4) dX9_init_155 rfl ?_
  refine g_iload_n 0 dX9_init_156 rfl rfl ?_
  refine g_imul dX9_init_157 ?_
  show gG V k_X9_init_187 158 [(1, .int (6 : Int32)), (0, .ref (vB V + 187))] [.int (24 : Int32), .int (121 : Int32), .ref (vB V + 189)] (200, 2286, (s_X9_init_187_37 sh), (m_X9_init_187_48 m)) _ _
  refine g_iadd dX9_init_158 ?_
  show gG V k_X9_init_187 159 [(1, .int (6 : Int32)), (0, .ref (vB V + 187))] [.int (145 : Int32), .ref (vB V + 189)] (200, 2286, (s_X9_init_187_37 sh), (m_X9_init_187_48 m)) _ _
  refine g_iconst (v := 3) dX9_init_159 rfl ?_
  refine g_iadd dX9_init_160 ?_
  show gG V k_X9_init_187 161 [(1, .int (6 : Int32)), (0, .ref (vB V + 187))] [.int (148 : Int32), .ref (vB V + 189)] (200, 2286, (s_X9_init_187_37 sh), (m_X9_init_187_48 m)) _ _
  refine g_bipush (v := -9) dX9_init_161 rfl ?_
  refine g_iast (n := 189) dX9_init_163 (Nat.le_of_ble_eq_true rfl) rfl (by unfold vp_in; decide) ?_
  show gG V k_X9_init_187 164 [(1, .int (6 : Int32)), (0, .ref (vB V + 187))] [] (200, 2286, (s_X9_init_187_37 sh), (m_X9_init_187_49 m)) _ _
  refine g_iinc (q := 0) (v := 7) dX9_init_164 rfl rfl (Nat.le_of_ble_eq_true rfl) rfl ?_
  refine g_goto (tgt := 143) dX9_init_167 (by decide) ?_
  refine g_iload_n 0 dX9_init_143 rfl rfl ?_
  refine g_bipush (v := 8) dX9_init_144 rfl ?_
  refine g_icmp_ge (tgt := 170) dX9_init_146 (by decide) (fun z => absurd z (by decide)) (fun _ => ?_)
  refine g_aload_n 1 dX9_init_149 rfl rfl ?_
  refine g_get (k := 1) (T := TX9) (N := 22) (C := RX9) (v := .ref (vB V + 189)) dX9_init_150 (Nat.le_of_ble_eq_true rfl) rfl rfl (by decide) inT_9 w_930 rfl ?_
  refine g_bipush (v := 121) dX9_init_153 rfl ?_
  refine g_iconst (v := 4) dX9_init_155 rfl ?_
  refine g_iload_n 0 dX9_init_156 rfl rfl ?_
  refine g_imul dX9_init_157 ?_
  show gG V k_X9_init_187 158 [(1, .int (7 : Int32)), (0, .ref (vB V + 187))] [.int (28 : Int32), .int (121 : Int32), .ref (vB V + 189)] (200, 2286, (s_X9_init_187_37 sh), (m_X9_init_187_49 m)) _ _
  refine g_iadd dX9_init_158 ?_
  show gG V k_X9_init_187 159 [(1, .int (7 : Int32)), (0, .ref (vB V + 187))] [.int (149 : Int32), .ref (vB V + 189)] (200, 2286, (s_X9_init_187_37 sh), (m_X9_init_187_49 m)) _ _
  refine g_iconst (v := 3) dX9_init_159 rfl ?_
  refine g_iadd dX9_init_160 ?_
  show gG V k_X9_init_187 161 [(1, .int (7 : Int32)), (0, .ref (vB V + 187))] [.int (152 : Int32), .ref (vB V + 189)] (200, 2286, (s_X9_init_187_37 sh), (m_X9_init_187_49 m)) _ _
  refine g_bipush (v := -9) dX9_init_161 rfl ?_
  refine g_iast (n := 189) dX9_init_163 (Nat.le_of_ble_eq_true rfl) rfl (by unfold vp_in; decide) ?_
  show gG V k_X9_init_187 164 [(1, .int (7 : Int32)), (0, .ref (vB V + 187))] [] (200, 2286, (s_X9_init_187_37 sh), (m_X9_init_187_50 m)) _ _
  refine g_iinc (q := 0) (v := 8) dX9_init_164 rfl rfl (Nat.le_of_ble_eq_true rfl) rfl ?_
  refine g_goto (tgt := 143) dX9_init_167 (by decide) ?_
  refine g_iload_n 0 dX9_init_143 rfl rfl ?_
  refine g_bipush (v := 8) dX9_init_144 rfl ?_
  refine g_icmp_ge (tgt := 170) dX9_init_146 (by decide) (fun _ => ?_) (fun z => absurd (by decide) z)
  exact g_vret dX9_init_170 rfl
