/-! printed by wip/whole/gen_meth.py: plain functions of the methods, and that the bytecode does as they say -/
abbrev k_X8_bell : kX := (cX8_bell, "WhoseHourItIs", "bell", some .int, 5, 1)
def f_X8_bell_J18 (b1 : Int32) (b2 : Int32) (m : mM) : Option (Int32 × mM) :=
bnd (f_X8_outside b2 (9 : Int32) m) fun q1 =>
if q1 = 0 then (
if b1 = (-1 : Int32) then (
bnd (some (m_up m 1 3 (-9 : Int32))) fun m3 =>
bnd (some (m_up m3 1 4 b2)) fun m5 =>
some ((m 1 3), m5))
else (
bnd (some (m_up m 1 3 b1)) fun m7 =>
bnd (some (m_up m7 1 4 b2)) fun m9 =>
some ((m 1 3), m9)))
else (
bnd (f_X8_refuse q1 m) fun q12 =>
some (q12.1, q12.2))
def f_X8_bell (a1 : Int32) (a2 : Int32) (m : mM) : Option (Int32 × mM) :=
if a1 = (-1 : Int32) then (
f_X8_bell_J18 a1 a2 m)
else (
bnd (f_X8_isHour a1 m) fun q15 =>
if q15 = 0 then (
bnd (f_X8_refuse (-1 : Int32) m) fun q17 =>
some (q17.1, q17.2))
else (
f_X8_bell_J18 a1 a2 m))
set_option maxRecDepth 100000 in
theorem t_X8_bell_J18 {V : eV} {b1 : Int32} {b2 : Int32} {m : mM} {q : Int32 × mM} (hf : f_X8_bell_J18 b1 b2 m = some q) : gG V k_X8_bell 18 [(0, .ref (vB V + 0)), (1, .int b1), (2, .int b2)] [] (hS m) (some (.int q.1)) (hS q.2) := by
  unfold f_X8_bell_J18 at hf
  refine g_iload_n 2 dX8_bell_18 rfl rfl ?_
  refine g_bipush (v := 9) dX8_bell_19 rfl ?_
  obtain ⟨q1, e2, hf⟩ := bnd_some hf
  refine p_callS (As := [.int b2, .int (9 : Int32)]) (rest := []) (t_X8_outside e2) cw_631 w_632 (Nat.le_of_ble_eq_true rfl) rfl rfl (Nat.le_of_ble_eq_true rfl) dX8_bell_21 ?_
  refine g_istore_n dX8_bell_24 rfl (Nat.le_of_ble_eq_true rfl) rfl ?_
  refine g_iload_n 0 dX8_bell_25 rfl rfl ?_
  refine g_if_eq (tgt := 35) dX8_bell_26 (by decide) (fun c14 => ?_) (fun c14 => ?_)
  · replace hf := (if_pos c14).symm.trans hf
    refine g_aload_n 1 dX8_bell_35 rfl rfl ?_
    refine gf_314 dX8_bell_36 rfl ob_0 rfl ?_
    refine gf_108 dX8_bell_39 rfl ob_1 rfl ?_
    refine g_istore dX8_bell_42 (Nat.le_of_ble_eq_true rfl) rfl ?_
    refine g_aload_n 2 dX8_bell_44 rfl rfl ?_
    refine gf_314 dX8_bell_45 rfl ob_0 rfl ?_
    refine g_iload_n 3 dX8_bell_48 rfl rfl ?_
    refine g_iconst (v := -1) dX8_bell_49 rfl ?_
    refine g_icmp_ne (tgt := 58) dX8_bell_50 (by decide) (fun c11 => ?_) (fun c11 => ?_)
    · replace hf := (if_neg c11).symm.trans hf
      refine g_iload_n 3 dX8_bell_58 rfl rfl ?_
      obtain ⟨m7, e8, hf⟩ := bnd_some hf
      cases e8
      refine pf_108 dX8_bell_59 rfl ob_1 rfl ?_
      generalize m_up m 1 3 b1 = m7 at hf ⊢
      refine g_aload_n 2 dX8_bell_62 rfl rfl ?_
      refine gf_314 dX8_bell_63 rfl ob_0 rfl ?_
      refine g_iload_n 4 dX8_bell_66 rfl rfl ?_
      obtain ⟨m9, e10, hf⟩ := bnd_some hf
      cases e10
      refine pf_110 dX8_bell_67 rfl ob_1 rfl ?_
      generalize m_up m7 1 4 b2 = m9 at hf ⊢
      refine g_iload 0 dX8_bell_70 rfl ?_
      cases hf
      exact g_iret dX8_bell_72 .int rfl rfl
    · replace hf := (if_pos c11).symm.trans hf
      refine g_bipush (v := -9) dX8_bell_53 rfl ?_
      refine g_goto (tgt := 59) dX8_bell_55 (by decide) ?_
      obtain ⟨m3, e4, hf⟩ := bnd_some hf
      cases e4
      refine pf_108 dX8_bell_59 rfl ob_1 rfl ?_
      generalize m_up m 1 3 (-9 : Int32) = m3 at hf ⊢
      refine g_aload_n 2 dX8_bell_62 rfl rfl ?_
      refine gf_314 dX8_bell_63 rfl ob_0 rfl ?_
      refine g_iload_n 4 dX8_bell_66 rfl rfl ?_
      obtain ⟨m5, e6, hf⟩ := bnd_some hf
      cases e6
      refine pf_110 dX8_bell_67 rfl ob_1 rfl ?_
      generalize m_up m3 1 4 b2 = m5 at hf ⊢
      refine g_iload 0 dX8_bell_70 rfl ?_
      cases hf
      exact g_iret dX8_bell_72 .int rfl rfl
  · replace hf := (if_neg c14).symm.trans hf
    refine g_aload_n 1 dX8_bell_29 rfl rfl ?_
    refine g_iload_n 0 dX8_bell_30 rfl rfl ?_
    obtain ⟨q12, e13, hf⟩ := bnd_some hf
    refine p_callV (As := [.int q1]) (rest := []) (t_X8_refuse e13) cw_355 w_357 w_0 ob_0 rfl (Nat.le_of_ble_eq_true rfl) rfl rfl (Nat.le_of_ble_eq_true rfl) dX8_bell_31 ?_
    cases hf
    exact g_iret dX8_bell_34 .int rfl rfl

set_option maxRecDepth 100000 in
theorem t_X8_bell {V : eV} {a1 : Int32} {a2 : Int32}  {m : mM} {q : Int32 × mM} (hf : f_X8_bell a1 a2 m = some q) : eE V 1 yX8_bell cX8_bell 5 (some .int) [.ref (vB V + 0), .int a1, .int a2] (hS m) (some (.int q.1)) (hS q.2) := by
  refine eE_of (by decide) (Nat.le_of_ble_eq_true rfl) ?_
  show gG V k_X8_bell 0 [(0, .ref (vB V + 0)), (1, .int a1), (2, .int a2)] [] (hS m) _ _
  unfold f_X8_bell at hf
  refine g_iload_n 1 dX8_bell_0 rfl rfl ?_
  refine g_iconst (v := -1) dX8_bell_1 rfl ?_
  refine g_icmp_eq (tgt := 18) dX8_bell_2 (by decide) (fun c20 => ?_) (fun c20 => ?_)
  · replace hf := (if_pos c20).symm.trans hf
    refine g_sub [0, 1, 2] rfl ?_
    exact t_X8_bell_J18 hf
  · replace hf := (if_neg c20).symm.trans hf
    refine g_iload_n 1 dX8_bell_5 rfl rfl ?_
    obtain ⟨q15, e16, hf⟩ := bnd_some hf
    refine p_callS (As := [.int a1]) (rest := []) (t_X8_isHour e16) cw_618 w_527 (Nat.le_of_ble_eq_true rfl) rfl rfl (Nat.le_of_ble_eq_true rfl) dX8_bell_6 ?_
    refine g_if_ne (tgt := 18) dX8_bell_9 (by decide) (fun c19 => ?_) (fun c19 => ?_)
    · replace hf := (if_neg c19).symm.trans hf
      refine g_sub [0, 1, 2] rfl ?_
      exact t_X8_bell_J18 hf
    · replace hf := (if_pos c19).symm.trans hf
      refine g_aload_n 0 dX8_bell_12 rfl rfl ?_
      refine g_iconst (v := -1) dX8_bell_13 rfl ?_
      obtain ⟨q17, e18, hf⟩ := bnd_some hf
      refine p_callV (As := [.int (-1 : Int32)]) (rest := []) (t_X8_refuse e18) cw_355 w_357 w_0 ob_0 rfl (Nat.le_of_ble_eq_true rfl) rfl rfl (Nat.le_of_ble_eq_true rfl) dX8_bell_14 ?_
      cases hf
      exact g_iret dX8_bell_17 .int rfl rfl

abbrev k_X7_holds_1 : kX := (cX7_holds, "WhoseHourItIs$Town", "holds", some .boolean, 3, 1)
def f_X7_holds_1 (a1 : Int32) (a2 : Int32) (m : mM) : Option (Int32) :=
bnd (rdA 11 8 a1 m) fun v1 =>
bnd (f_X8_isIn v1 a2 m) fun q3 =>
bnd (nzB q3) fun v5 =>
some v5
set_option maxRecDepth 100000 in
theorem t_X7_holds_1 {V : eV} {a1 : Int32} {a2 : Int32}  {m : mM} {q : Int32} (hf : f_X7_holds_1 a1 a2 m = some q) : eE V 1 yX7_holds cX7_holds 3 (some .boolean) [.ref (vB V + 1), .int a1, .int a2] (hS m) (some (.int q)) (hS m) := by
  refine eE_of (by decide) (Nat.le_of_ble_eq_true rfl) ?_
  show gG V k_X7_holds_1 0 [(0, .ref (vB V + 1)), (1, .int a1), (2, .int a2)] [] (hS m) _ _
  unfold f_X7_holds_1 at hf
  refine g_aload_n 0 dX7_holds_0 rfl rfl ?_
  refine gf_115 dX7_holds_1 rfl ob_1 rfl ?_
  refine g_iload_n 1 dX7_holds_4 rfl rfl ?_
  obtain ⟨v1, e2, hf⟩ := bnd_some hf
  refine p_iald dX7_holds_5 at_11 e2 ?_
  refine g_iload_n 2 dX7_holds_6 rfl rfl ?_
  obtain ⟨q3, e4, hf⟩ := bnd_some hf
  refine p_callSN (As := [.int v1, .int a2]) (rest := []) (t_X8_isIn e4) cw_533 w_534 (Nat.le_of_ble_eq_true rfl) rfl rfl (Nat.le_of_ble_eq_true rfl) dX7_holds_7 ?_
  obtain ⟨v5, e6, hf⟩ := bnd_some hf
  obtain ⟨hn, rfl⟩ := nzB_n e6
  cases hf
  exact g_iret dX7_holds_10 .boolean rfl hn

abbrev k_X8_leave : kX := (cX8_leave, "WhoseHourItIs", "leave", some .int, 4, 2)
def f_X8_leave (a1 : Int32) (a2 : Int32) (a3 : Int32) (m : mM) : Option (Int32 × mM) :=
bnd (f_X7_hasWork_1 a1 m) fun q1 =>
if q1 = 0 then (
bnd (f_X8_refuse (-1 : Int32) m) fun q3 =>
some (q3.1, q3.2))
else (
bnd (f_X7_hasHolder_1 a2 m) fun q5 =>
if q5 = 0 then (
bnd (f_X8_refuse (-1 : Int32) m) fun q7 =>
some (q7.1, q7.2))
else (
bnd (f_X8_isHour a3 m) fun q9 =>
if q9 = 0 then (
bnd (f_X8_refuse (-1 : Int32) m) fun q11 =>
some (q11.1, q11.2))
else (
bnd (f_X7_holds_1 a2 a3 m) fun q13 =>
if q13 = 0 then (
some ((0 : Int32), m))
else (
bnd (f_X0_partCost a1 a2 a3 m) fun q15 =>
some (q15, m)))))
set_option maxRecDepth 100000 in
theorem t_X8_leave {V : eV} {a1 : Int32} {a2 : Int32} {a3 : Int32}  {m : mM} {q : Int32 × mM} (hf : f_X8_leave a1 a2 a3 m = some q) : eE V 2 yX8_leave cX8_leave 4 (some .int) [.ref (vB V + 0), .int a1, .int a2, .int a3] (hS m) (some (.int q.1)) (hS q.2) := by
  refine eE_of (by decide) (Nat.le_of_ble_eq_true rfl) ?_
  show gG V k_X8_leave 0 [(0, .ref (vB V + 0)), (1, .int a1), (2, .int a2), (3, .int a3)] [] (hS m) _ _
  unfold f_X8_leave at hf
  refine g_aload_n 0 dX8_leave_0 rfl rfl ?_
  refine gf_314 dX8_leave_1 rfl ob_0 rfl ?_
  refine g_iload_n 1 dX8_leave_4 rfl rfl ?_
  obtain ⟨q1, e2, hf⟩ := bnd_some hf
  refine p_callV (As := [.int a1]) (rest := []) (t_X7_hasWork_1 e2) cw_623 w_624 w_625 ob_1 rfl (Nat.le_of_ble_eq_true rfl) rfl rfl (Nat.le_of_ble_eq_true rfl) dX8_leave_5 ?_
  refine g_if_eq (tgt := 29) dX8_leave_8 (by decide) (fun c20 => ?_) (fun c20 => ?_)
  · replace hf := (if_pos c20).symm.trans hf
    refine g_aload_n 0 dX8_leave_29 rfl rfl ?_
    refine g_iconst (v := -1) dX8_leave_30 rfl ?_
    obtain ⟨q3, e4, hf⟩ := bnd_some hf
    refine p_callV (As := [.int (-1 : Int32)]) (rest := []) (t_X8_refuse e4) cw_355 w_357 w_0 ob_0 rfl (Nat.le_of_ble_eq_true rfl) rfl rfl (Nat.le_of_ble_eq_true rfl) dX8_leave_31 ?_
    cases hf
    exact g_iret dX8_leave_34 .int rfl rfl
  · replace hf := (if_neg c20).symm.trans hf
    refine g_aload_n 0 dX8_leave_11 rfl rfl ?_
    refine gf_314 dX8_leave_12 rfl ob_0 rfl ?_
    refine g_iload_n 2 dX8_leave_15 rfl rfl ?_
    obtain ⟨q5, e6, hf⟩ := bnd_some hf
    refine p_callV (As := [.int a2]) (rest := []) (t_X7_hasHolder_1 e6) cw_549 w_523 w_524 ob_1 rfl (Nat.le_of_ble_eq_true rfl) rfl rfl (Nat.le_of_ble_eq_true rfl) dX8_leave_16 ?_
    refine g_if_eq (tgt := 29) dX8_leave_19 (by decide) (fun c19 => ?_) (fun c19 => ?_)
    · replace hf := (if_pos c19).symm.trans hf
      refine g_aload_n 0 dX8_leave_29 rfl rfl ?_
      refine g_iconst (v := -1) dX8_leave_30 rfl ?_
      obtain ⟨q7, e8, hf⟩ := bnd_some hf
      refine p_callV (As := [.int (-1 : Int32)]) (rest := []) (t_X8_refuse e8) cw_355 w_357 w_0 ob_0 rfl (Nat.le_of_ble_eq_true rfl) rfl rfl (Nat.le_of_ble_eq_true rfl) dX8_leave_31 ?_
      cases hf
      exact g_iret dX8_leave_34 .int rfl rfl
    · replace hf := (if_neg c19).symm.trans hf
      refine g_iload_n 3 dX8_leave_22 rfl rfl ?_
      obtain ⟨q9, e10, hf⟩ := bnd_some hf
      refine p_callS (As := [.int a3]) (rest := []) (t_X8_isHour e10) cw_618 w_527 (Nat.le_of_ble_eq_true rfl) rfl rfl (Nat.le_of_ble_eq_true rfl) dX8_leave_23 ?_
      refine g_if_ne (tgt := 35) dX8_leave_26 (by decide) (fun c18 => ?_) (fun c18 => ?_)
      · replace hf := (if_neg c18).symm.trans hf
        refine g_aload_n 0 dX8_leave_35 rfl rfl ?_
        refine gf_314 dX8_leave_36 rfl ob_0 rfl ?_
        refine g_iload_n 2 dX8_leave_39 rfl rfl ?_
        refine g_iload_n 3 dX8_leave_40 rfl rfl ?_
        obtain ⟨q13, e14, hf⟩ := bnd_some hf
        refine p_callV (As := [.int a2, .int a3]) (rest := []) (t_X7_holds_1 e14) cw_650 w_530 w_531 ob_1 rfl (Nat.le_of_ble_eq_true rfl) rfl rfl (Nat.le_of_ble_eq_true rfl) dX8_leave_41 ?_
        refine g_if_eq (tgt := 60) dX8_leave_44 (by decide) (fun c17 => ?_) (fun c17 => ?_)
        · replace hf := (if_pos c17).symm.trans hf
          refine g_iconst (v := 0) dX8_leave_60 rfl ?_
          cases hf
          exact g_iret dX8_leave_61 .int rfl rfl
        · replace hf := (if_neg c17).symm.trans hf
          refine g_aload_n 0 dX8_leave_47 rfl rfl ?_
          refine gf_319 dX8_leave_48 rfl ob_0 rfl ?_
          refine g_iload_n 1 dX8_leave_51 rfl rfl ?_
          refine g_iload_n 2 dX8_leave_52 rfl rfl ?_
          refine g_iload_n 3 dX8_leave_53 rfl rfl ?_
          obtain ⟨q15, e16, hf⟩ := bnd_some hf
          refine p_callV (As := [.int a1, .int a2, .int a3]) (rest := []) (t_X0_partCost e16) cw_651 w_569 w_570 ob_154 rfl (Nat.le_of_ble_eq_true rfl) rfl rfl (Nat.le_of_ble_eq_true rfl) dX8_leave_54 ?_
          refine g_goto (tgt := 61) dX8_leave_57 (by decide) ?_
          cases hf
          exact g_iret dX8_leave_61 .int rfl rfl
      · replace hf := (if_pos c18).symm.trans hf
        refine g_aload_n 0 dX8_leave_29 rfl rfl ?_
        refine g_iconst (v := -1) dX8_leave_30 rfl ?_
        obtain ⟨q11, e12, hf⟩ := bnd_some hf
        refine p_callV (As := [.int (-1 : Int32)]) (rest := []) (t_X8_refuse e12) cw_355 w_357 w_0 ob_0 rfl (Nat.le_of_ble_eq_true rfl) rfl rfl (Nat.le_of_ble_eq_true rfl) dX8_leave_31 ?_
        cases hf
        exact g_iret dX8_leave_34 .int rfl rfl

abbrev k_X8_one : kX := (cX8_one, "WhoseHourItIs", "one", some .int, 2, 4)
def f_X8_one (a1 : Int32) (m : mM) : Option (Int32 × mM) :=
bnd (f_X7_hasWork_1 a1 m) fun q1 =>
if q1 = 0 then (
bnd (f_X8_refuse (-1 : Int32) m) fun q3 =>
some (q3.1, q3.2))
else (
bnd (f_X0_choose a1 m) fun q5 =>
some ((q5 154 3), q5))
set_option maxRecDepth 100000 in
theorem t_X8_one {V : eV} {a1 : Int32}  {m : mM} {q : Int32 × mM} (hf : f_X8_one a1 m = some q) : eE V 4 yX8_one cX8_one 2 (some .int) [.ref (vB V + 0), .int a1] (hS m) (some (.int q.1)) (hS q.2) := by
  refine eE_of (by decide) (Nat.le_of_ble_eq_true rfl) ?_
  show gG V k_X8_one 0 [(0, .ref (vB V + 0)), (1, .int a1)] [] (hS m) _ _
  unfold f_X8_one at hf
  refine g_aload_n 0 dX8_one_0 rfl rfl ?_
  refine gf_314 dX8_one_1 rfl ob_0 rfl ?_
  refine g_iload_n 1 dX8_one_4 rfl rfl ?_
  obtain ⟨q1, e2, hf⟩ := bnd_some hf
  refine p_callV (As := [.int a1]) (rest := []) (t_X7_hasWork_1 e2) cw_623 w_624 w_625 ob_1 rfl (Nat.le_of_ble_eq_true rfl) rfl rfl (Nat.le_of_ble_eq_true rfl) dX8_one_5 ?_
  refine g_if_ne (tgt := 17) dX8_one_8 (by decide) (fun c7 => ?_) (fun c7 => ?_)
  · replace hf := (if_neg c7).symm.trans hf
    refine g_aload_n 0 dX8_one_17 rfl rfl ?_
    refine gf_319 dX8_one_18 rfl ob_0 rfl ?_
    refine g_iload_n 1 dX8_one_21 rfl rfl ?_
    obtain ⟨q5, e6, hf⟩ := bnd_some hf
    refine p_callVv (As := [.int a1]) (rest := []) (t_X0_choose e6) cw_656 w_561 w_562 ob_154 rfl (Nat.le_of_ble_eq_true rfl) rfl rfl (Nat.le_of_ble_eq_true rfl) dX8_one_22 ?_
    refine g_aload_n 0 dX8_one_25 rfl rfl ?_
    refine gf_319 dX8_one_26 rfl ob_0 rfl ?_
    refine gf_196 dX8_one_29 rfl ob_154 rfl ?_
    cases hf
    exact g_iret dX8_one_32 .int rfl rfl
  · replace hf := (if_pos c7).symm.trans hf
    refine g_aload_n 0 dX8_one_11 rfl rfl ?_
    refine g_iconst (v := -1) dX8_one_12 rfl ?_
    obtain ⟨q3, e4, hf⟩ := bnd_some hf
    refine p_callV (As := [.int (-1 : Int32)]) (rest := []) (t_X8_refuse e4) cw_355 w_357 w_0 ob_0 rfl (Nat.le_of_ble_eq_true rfl) rfl rfl (Nat.le_of_ble_eq_true rfl) dX8_one_13 ?_
    cases hf
    exact g_iret dX8_one_16 .int rfl rfl

abbrev k_X8_cost : kX := (cX8_cost, "WhoseHourItIs", "cost", some .int, 2, 4)
def f_X8_cost (a1 : Int32) (m : mM) : Option (Int32 × mM) :=
bnd (f_X7_hasWork_1 a1 m) fun q1 =>
if q1 = 0 then (
bnd (f_X8_refuse (-1 : Int32) m) fun q3 =>
some (q3.1, q3.2))
else (
bnd (f_X0_choose a1 m) fun q5 =>
some ((q5 154 4), q5))
set_option maxRecDepth 100000 in
theorem t_X8_cost {V : eV} {a1 : Int32}  {m : mM} {q : Int32 × mM} (hf : f_X8_cost a1 m = some q) : eE V 4 yX8_cost cX8_cost 2 (some .int) [.ref (vB V + 0), .int a1] (hS m) (some (.int q.1)) (hS q.2) := by
  refine eE_of (by decide) (Nat.le_of_ble_eq_true rfl) ?_
  show gG V k_X8_cost 0 [(0, .ref (vB V + 0)), (1, .int a1)] [] (hS m) _ _
  unfold f_X8_cost at hf
  refine g_aload_n 0 dX8_cost_0 rfl rfl ?_
  refine gf_314 dX8_cost_1 rfl ob_0 rfl ?_
  refine g_iload_n 1 dX8_cost_4 rfl rfl ?_
  obtain ⟨q1, e2, hf⟩ := bnd_some hf
  refine p_callV (As := [.int a1]) (rest := []) (t_X7_hasWork_1 e2) cw_623 w_624 w_625 ob_1 rfl (Nat.le_of_ble_eq_true rfl) rfl rfl (Nat.le_of_ble_eq_true rfl) dX8_cost_5 ?_
  refine g_if_ne (tgt := 17) dX8_cost_8 (by decide) (fun c7 => ?_) (fun c7 => ?_)
  · replace hf := (if_neg c7).symm.trans hf
    refine g_aload_n 0 dX8_cost_17 rfl rfl ?_
    refine gf_319 dX8_cost_18 rfl ob_0 rfl ?_
    refine g_iload_n 1 dX8_cost_21 rfl rfl ?_
    obtain ⟨q5, e6, hf⟩ := bnd_some hf
    refine p_callVv (As := [.int a1]) (rest := []) (t_X0_choose e6) cw_656 w_561 w_562 ob_154 rfl (Nat.le_of_ble_eq_true rfl) rfl rfl (Nat.le_of_ble_eq_true rfl) dX8_cost_22 ?_
    refine g_aload_n 0 dX8_cost_25 rfl rfl ?_
    refine gf_319 dX8_cost_26 rfl ob_0 rfl ?_
    refine gf_200 dX8_cost_29 rfl ob_154 rfl ?_
    cases hf
    exact g_iret dX8_cost_32 .int rfl rfl
  · replace hf := (if_pos c7).symm.trans hf
    refine g_aload_n 0 dX8_cost_11 rfl rfl ?_
    refine g_iconst (v := -1) dX8_cost_12 rfl ?_
    obtain ⟨q3, e4, hf⟩ := bnd_some hf
    refine p_callV (As := [.int (-1 : Int32)]) (rest := []) (t_X8_refuse e4) cw_355 w_357 w_0 ob_0 rfl (Nat.le_of_ble_eq_true rfl) rfl rfl (Nat.le_of_ble_eq_true rfl) dX8_cost_13 ?_
    cases hf
    exact g_iret dX8_cost_16 .int rfl rfl

abbrev k_X8_net : kX := (cX8_net, "WhoseHourItIs", "net", some .int, 2, 4)
def f_X8_net (a1 : Int32) (m : mM) : Option (Int32 × mM) :=
bnd (f_X7_hasWork_1 a1 m) fun q1 =>
if q1 = 0 then (
bnd (f_X8_refuse (-1 : Int32) m) fun q3 =>
some (q3.1, q3.2))
else (
bnd (f_X0_choose a1 m) fun q5 =>
bnd (ckR 6 a1) fun j7 =>
bnd (rdA (44 + j7) 6 (4 : Int32) q5) fun v9 =>
bnd (f_X8_netOf v9 (q5 154 4) q5) fun q11 =>
some (q11, q5))
set_option maxRecDepth 100000 in
theorem t_X8_net {V : eV} {a1 : Int32}  {m : mM} {q : Int32 × mM} (hf : f_X8_net a1 m = some q) : eE V 4 yX8_net cX8_net 2 (some .int) [.ref (vB V + 0), .int a1] (hS m) (some (.int q.1)) (hS q.2) := by
  refine eE_of (by decide) (Nat.le_of_ble_eq_true rfl) ?_
  show gG V k_X8_net 0 [(0, .ref (vB V + 0)), (1, .int a1)] [] (hS m) _ _
  unfold f_X8_net at hf
  refine g_aload_n 0 dX8_net_0 rfl rfl ?_
  refine gf_314 dX8_net_1 rfl ob_0 rfl ?_
  refine g_iload_n 1 dX8_net_4 rfl rfl ?_
  obtain ⟨q1, e2, hf⟩ := bnd_some hf
  refine p_callV (As := [.int a1]) (rest := []) (t_X7_hasWork_1 e2) cw_623 w_624 w_625 ob_1 rfl (Nat.le_of_ble_eq_true rfl) rfl rfl (Nat.le_of_ble_eq_true rfl) dX8_net_5 ?_
  refine g_if_ne (tgt := 17) dX8_net_8 (by decide) (fun c13 => ?_) (fun c13 => ?_)
  · replace hf := (if_neg c13).symm.trans hf
    refine g_aload_n 0 dX8_net_17 rfl rfl ?_
    refine gf_319 dX8_net_18 rfl ob_0 rfl ?_
    refine g_iload_n 1 dX8_net_21 rfl rfl ?_
    obtain ⟨q5, e6, hf⟩ := bnd_some hf
    refine p_callVv (As := [.int a1]) (rest := []) (t_X0_choose e6) cw_656 w_561 w_562 ob_154 rfl (Nat.le_of_ble_eq_true rfl) rfl rfl (Nat.le_of_ble_eq_true rfl) dX8_net_22 ?_
    refine g_aload_n 0 dX8_net_25 rfl rfl ?_
    refine gf_314 dX8_net_26 rfl ob_0 rfl ?_
    refine gf_138 dX8_net_29 rfl ob_1 rfl ?_
    refine g_iload_n 1 dX8_net_32 rfl rfl ?_
    obtain ⟨j7, e8, hf⟩ := bnd_some hf
    refine p_aald dX8_net_33 rt_43 e8 (fun hj7 => ?_)
    refine g_iconst (v := 4) dX8_net_34 rfl ?_
    obtain ⟨v9, e10, hf⟩ := bnd_some hf
    refine p_iald dX8_net_35 (ar_44 hj7) e10 ?_
    refine g_aload_n 0 dX8_net_36 rfl rfl ?_
    refine gf_319 dX8_net_37 rfl ob_0 rfl ?_
    refine gf_200 dX8_net_40 rfl ob_154 rfl ?_
    obtain ⟨q11, e12, hf⟩ := bnd_some hf
    refine p_callS (As := [.int v9, .int (q5 154 4)]) (rest := []) (t_X8_netOf e12) cw_665 w_606 (Nat.le_of_ble_eq_true rfl) rfl rfl (Nat.le_of_ble_eq_true rfl) dX8_net_43 ?_
    cases hf
    exact g_iret dX8_net_46 .int rfl rfl
  · replace hf := (if_pos c13).symm.trans hf
    refine g_aload_n 0 dX8_net_11 rfl rfl ?_
    refine g_iconst (v := -1) dX8_net_12 rfl ?_
    obtain ⟨q3, e4, hf⟩ := bnd_some hf
    refine p_callV (As := [.int (-1 : Int32)]) (rest := []) (t_X8_refuse e4) cw_355 w_357 w_0 ob_0 rfl (Nat.le_of_ble_eq_true rfl) rfl rfl (Nat.le_of_ble_eq_true rfl) dX8_net_13 ?_
    cases hf
    exact g_iret dX8_net_16 .int rfl rfl

abbrev k_X5_look : kX := (cX5_look, "WhoseHourItIs$Strikes", "look", none, 5, 1)
def f_X5_look_L28 (b1 : Int32) (b2 : Int32) : Nat → Int32 → mM → Option (mM)
  | 0, _, _ => none
  | n + 1, b3, m =>
      bnd (rdA 13 28 b2 m) fun v9 =>
      if v9 ≤ b3 then (
      some m)
      else (
      bnd (ckR 28 b2) fun j11 =>
      bnd (rdA (15 + j11) 3 b3 m) fun v13 =>
      bnd (f_X7_isFree b1 v13 b2 m) fun q15 =>
      if q15 = 0 then (
      bnd (ckR 6 b1) fun j17 =>
      bnd (rdA (169 + j17) 28 b2 m) fun v19 =>
      bnd (wrA (169 + j17) 28 b2 (v19 ||| ((1 : Int32) <<< (v13 &&& 31))) m) fun m21 =>
      bnd (ckR 6 b1) fun j23 =>
      bnd (rdA (176 + j23) 28 b2 m21) fun v25 =>
      bnd (f_X7_kindLets b1 v13 m21) fun q27 =>
      if q27 = 0 then (
      bnd (wrA (176 + j23) 28 b2 (v25 ||| ((1 : Int32) <<< (v13 &&& 31))) m21) fun m29 =>
      f_X5_look_L28 b1 b2 n (b3 + (1 : Int32)) m29)
      else (
      bnd (wrA (176 + j23) 28 b2 (v25 ||| (0 : Int32)) m21) fun m31 =>
      f_X5_look_L28 b1 b2 n (b3 + (1 : Int32)) m31))
      else (
      f_X5_look_L28 b1 b2 n (b3 + (1 : Int32)) m))
def f_X5_look_L2 (b1 : Int32) : Nat → Int32 → mM → Option (mM)
  | 0, _, _ => none
  | n + 1, b2, m =>
      if (28 : Int32) ≤ b2 then (
      some m)
      else (
      bnd (ckR 6 b1) fun j1 =>
      bnd (wrA (169 + j1) 28 b2 (0 : Int32) m) fun m3 =>
      bnd (ckR 6 b1) fun j5 =>
      bnd (wrA (176 + j5) 28 b2 (0 : Int32) m3) fun m7 =>
      bnd (f_X5_look_L28 b1 b2 fU (0 : Int32) m7) fun o36 =>
      f_X5_look_L2 b1 n (b2 + (1 : Int32)) o36)
def f_X5_look (a1 : Int32) (m : mM) : Option (mM) :=
bnd (f_X5_look_L2 a1 fU (0 : Int32) m) fun o39 =>
some o39
set_option maxRecDepth 100000 in
theorem t_X5_look_L28 {V : eV} (b1 : Int32) (b2 : Int32) {r : Option Value} {h' : aH} : ∀ (n : Nat) (b3 : Int32) (m : mM) (o : mM), f_X5_look_L28 b1 b2 n b3 m = some o → gG V k_X5_look 121 [(0, .ref (vB V + 167)), (1, .int b1), (2, .int b2)] [] (hS o) r h' → gG V k_X5_look 28 [(0, .ref (vB V + 167)), (1, .int b1), (2, .int b2), (3, .int b3)] [] (hS m) r h' := by
  intro n
  induction n with
  | zero => intro b3 m o hf; cases hf
  | succ n ih =>
    intro b3 m o hf hk
    rw [f_X5_look_L28] at hf
    refine g_iload_n 3 dX5_look_28 rfl rfl ?_
    refine g_aload_n 0 dX5_look_29 rfl rfl ?_
    refine gf_268 dX5_look_30 rfl ob_167 rfl ?_
    refine gf_123 dX5_look_33 rfl ob_1 rfl ?_
    refine g_iload_n 2 dX5_look_36 rfl rfl ?_
    obtain ⟨v9, e10, hf⟩ := bnd_some hf
    refine p_iald dX5_look_37 at_13 e10 ?_
    refine g_icmp_ge (tgt := 121) dX5_look_38 (by decide) (fun c35 => ?_) (fun c35 => ?_)
    · replace hf := (if_pos c35).symm.trans hf
      cases hf
      refine g_sub [0, 1, 2] rfl ?_
      exact hk
    · replace hf := (if_neg c35).symm.trans hf
      refine g_aload_n 0 dX5_look_41 rfl rfl ?_
      refine gf_268 dX5_look_42 rfl ob_167 rfl ?_
      refine gf_128 dX5_look_45 rfl ob_1 rfl ?_
      refine g_iload_n 2 dX5_look_48 rfl rfl ?_
      obtain ⟨j11, e12, hf⟩ := bnd_some hf
      refine p_aald dX5_look_49 rt_14 e12 (fun hj11 => ?_)
      refine g_iload_n 3 dX5_look_50 rfl rfl ?_
      obtain ⟨v13, e14, hf⟩ := bnd_some hf
      refine p_iald dX5_look_51 (ar_15 hj11) e14 ?_
      refine g_istore dX5_look_52 (Nat.le_of_ble_eq_true rfl) rfl ?_
      refine g_aload_n 1 dX5_look_54 rfl rfl ?_
      refine gf_268 dX5_look_55 rfl ob_167 rfl ?_
      refine g_iload_n 2 dX5_look_58 rfl rfl ?_
      refine g_iload 0 dX5_look_59 rfl ?_
      refine g_iload_n 3 dX5_look_61 rfl rfl ?_
      obtain ⟨q15, e16, hf⟩ := bnd_some hf
      refine p_callV (As := [.int b1, .int v13, .int b2]) (rest := []) (t_X7_isFree e16) cw_678 w_573 w_574 ob_1 rfl (Nat.le_of_ble_eq_true rfl) rfl rfl (Nat.le_of_ble_eq_true rfl) dX5_look_62 ?_
      refine g_if_ne (tgt := 115) dX5_look_65 (by decide) (fun c34 => ?_) (fun c34 => ?_)
      · replace hf := (if_neg c34).symm.trans hf
        refine g_iinc (q := 4) (v := (b3 + (1 : Int32))) dX5_look_115 rfl rfl (Nat.le_of_ble_eq_true rfl) rfl ?_
        refine g_goto (tgt := 28) dX5_look_118 (by decide) ?_
        refine g_sub [2, 3, 4, 0] rfl ?_
        exact ih (b3 + (1 : Int32)) m _ hf hk
      · replace hf := (if_pos c34).symm.trans hf
        refine g_aload_n 1 dX5_look_68 rfl rfl ?_
        refine gf_269 dX5_look_69 rfl ob_167 rfl ?_
        refine g_iload_n 2 dX5_look_72 rfl rfl ?_
        obtain ⟨j17, e18, hf⟩ := bnd_some hf
        refine p_aald dX5_look_73 rt_168 e18 (fun hj17 => ?_)
        refine g_iload_n 3 dX5_look_74 rfl rfl ?_
        refine g_dup2 dX5_look_75 rfl rfl ?_
        obtain ⟨v19, e20, hf⟩ := bnd_some hf
        refine p_iald dX5_look_76 (ar_169 hj17) e20 ?_
        refine g_iconst (v := 1) dX5_look_77 rfl ?_
        refine g_iload 0 dX5_look_78 rfl ?_
        refine g_ishl dX5_look_80 ?_
        refine g_ior dX5_look_81 ?_
        obtain ⟨m21, e22, hf⟩ := bnd_some hf
        refine p_iast dX5_look_82 (ar_169 hj17) e22 ?_
        refine g_aload_n 1 dX5_look_83 rfl rfl ?_
        refine gf_270 dX5_look_84 rfl ob_167 rfl ?_
        refine g_iload_n 2 dX5_look_87 rfl rfl ?_
        obtain ⟨j23, e24, hf⟩ := bnd_some hf
        refine p_aald dX5_look_88 rt_175 e24 (fun hj23 => ?_)
        refine g_iload_n 3 dX5_look_89 rfl rfl ?_
        refine g_dup2 dX5_look_90 rfl rfl ?_
        obtain ⟨v25, e26, hf⟩ := bnd_some hf
        refine p_iald dX5_look_91 (ar_176 hj23) e26 ?_
        refine g_aload_n 1 dX5_look_92 rfl rfl ?_
        refine gf_268 dX5_look_93 rfl ob_167 rfl ?_
        refine g_iload_n 2 dX5_look_96 rfl rfl ?_
        refine g_iload 0 dX5_look_97 rfl ?_
        obtain ⟨q27, e28, hf⟩ := bnd_some hf
        refine p_callV (As := [.int b1, .int v13]) (rest := [.int v25, .int b2, .ref (vB V + (176 + j23))]) (t_X7_kindLets e28) cw_679 w_578 w_579 ob_1 rfl (Nat.le_of_ble_eq_true rfl) rfl rfl (Nat.le_of_ble_eq_true rfl) dX5_look_99 ?_
        refine g_if_eq (tgt := 109) dX5_look_102 (by decide) (fun c33 => ?_) (fun c33 => ?_)
        · replace hf := (if_pos c33).symm.trans hf
          refine g_iconst (v := 1) dX5_look_109 rfl ?_
          refine g_iload 0 dX5_look_110 rfl ?_
          refine g_ishl dX5_look_112 ?_
          refine g_ior dX5_look_113 ?_
          obtain ⟨m29, e30, hf⟩ := bnd_some hf
          refine p_iast dX5_look_114 (ar_176 hj23) e30 ?_
          refine g_iinc (q := 4) (v := (b3 + (1 : Int32))) dX5_look_115 rfl rfl (Nat.le_of_ble_eq_true rfl) rfl ?_
          refine g_goto (tgt := 28) dX5_look_118 (by decide) ?_
          refine g_sub [2, 3, 4, 0] rfl ?_
          exact ih (b3 + (1 : Int32)) m29 _ hf hk
        · replace hf := (if_neg c33).symm.trans hf
          refine g_iconst (v := 0) dX5_look_105 rfl ?_
          refine g_goto (tgt := 113) dX5_look_106 (by decide) ?_
          refine g_ior dX5_look_113 ?_
          obtain ⟨m31, e32, hf⟩ := bnd_some hf
          refine p_iast dX5_look_114 (ar_176 hj23) e32 ?_
          refine g_iinc (q := 4) (v := (b3 + (1 : Int32))) dX5_look_115 rfl rfl (Nat.le_of_ble_eq_true rfl) rfl ?_
          refine g_goto (tgt := 28) dX5_look_118 (by decide) ?_
          refine g_sub [2, 3, 4, 0] rfl ?_
          exact ih (b3 + (1 : Int32)) m31 _ hf hk

set_option maxRecDepth 100000 in
theorem t_X5_look_L2 {V : eV} (b1 : Int32) {r : Option Value} {h' : aH} : ∀ (n : Nat) (b2 : Int32) (m : mM) (o : mM), f_X5_look_L2 b1 n b2 m = some o → gG V k_X5_look 127 [] [] (hS o) r h' → gG V k_X5_look 2 [(0, .ref (vB V + 167)), (1, .int b1), (2, .int b2)] [] (hS m) r h' := by
  intro n
  induction n with
  | zero => intro b2 m o hf; cases hf
  | succ n ih =>
    intro b2 m o hf hk
    rw [f_X5_look_L2] at hf
    refine g_iload_n 2 dX5_look_2 rfl rfl ?_
    refine g_bipush (v := 28) dX5_look_3 rfl ?_
    refine g_icmp_ge (tgt := 127) dX5_look_5 (by decide) (fun c38 => ?_) (fun c38 => ?_)
    · replace hf := (if_pos c38).symm.trans hf
      cases hf
      refine g_sub [] rfl ?_
      exact hk
    · replace hf := (if_neg c38).symm.trans hf
      refine g_aload_n 0 dX5_look_8 rfl rfl ?_
      refine gf_269 dX5_look_9 rfl ob_167 rfl ?_
      refine g_iload_n 1 dX5_look_12 rfl rfl ?_
      obtain ⟨j1, e2, hf⟩ := bnd_some hf
      refine p_aald dX5_look_13 rt_168 e2 (fun hj1 => ?_)
      refine g_iload_n 2 dX5_look_14 rfl rfl ?_
      refine g_iconst (v := 0) dX5_look_15 rfl ?_
      obtain ⟨m3, e4, hf⟩ := bnd_some hf
      refine p_iast dX5_look_16 (ar_169 hj1) e4 ?_
      refine g_aload_n 0 dX5_look_17 rfl rfl ?_
      refine gf_270 dX5_look_18 rfl ob_167 rfl ?_
      refine g_iload_n 1 dX5_look_21 rfl rfl ?_
      obtain ⟨j5, e6, hf⟩ := bnd_some hf
      refine p_aald dX5_look_22 rt_175 e6 (fun hj5 => ?_)
      refine g_iload_n 2 dX5_look_23 rfl rfl ?_
      refine g_iconst (v := 0) dX5_look_24 rfl ?_
      obtain ⟨m7, e8, hf⟩ := bnd_some hf
      refine p_iast dX5_look_25 (ar_176 hj5) e8 ?_
      refine g_iconst (v := 0) dX5_look_26 rfl ?_
      refine g_istore_n dX5_look_27 rfl (Nat.le_of_ble_eq_true rfl) rfl ?_
      refine g_sub [1, 2, 3, 0] rfl ?_
      obtain ⟨o36, e37, hf⟩ := bnd_some hf
      refine t_X5_look_L28 (V := V) b1 b2 fU (0 : Int32) m7 _ e37 ?_
      refine g_iinc (q := 2) (v := (b2 + (1 : Int32))) dX5_look_121 rfl rfl (Nat.le_of_ble_eq_true rfl) rfl ?_
      refine g_goto (tgt := 2) dX5_look_124 (by decide) ?_
      refine g_sub [1, 2, 0] rfl ?_
      exact ih (b2 + (1 : Int32)) o36 _ hf hk

set_option maxRecDepth 100000 in
theorem t_X5_look {V : eV} {a1 : Int32}  {m : mM} {q : mM} (hf : f_X5_look a1 m = some q) : eE V 1 yX5_look cX5_look 5 (none) [.ref (vB V + 167), .int a1] (hS m) none (hS q) := by
  refine eE_of (by decide) (Nat.le_of_ble_eq_true rfl) ?_
  show gG V k_X5_look 0 [(0, .ref (vB V + 167)), (1, .int a1)] [] (hS m) _ _
  unfold f_X5_look at hf
  refine g_iconst (v := 0) dX5_look_0 rfl ?_
  refine g_istore_n dX5_look_1 rfl (Nat.le_of_ble_eq_true rfl) rfl ?_
  refine g_sub [1, 2, 0] rfl ?_
  obtain ⟨o39, e40, hf⟩ := bnd_some hf
  refine t_X5_look_L2 (V := V) a1 fU (0 : Int32) m _ e40 ?_
  cases hf
  exact g_vret dX5_look_127 rfl

abbrev k_X5_openDays : kX := (cX5_openDays, "WhoseHourItIs$Strikes", "openDays", some .int, 3, 0)
def f_X5_openDays_L4 (b0 : Int32) (m : mM) : Nat → Int32 → Int32 → Option (Int32)
  | 0, _, _ => none
  | n + 1, b1, b2 =>
      if (7 : Int32) ≤ b2 then (
      some b1)
      else (
      if ((b0 >>> ((b2 * (4 : Int32)) &&& 31)) &&& (15 : Int32)) = 0 then (
      f_X5_openDays_L4 b0 m n (b1 + (0 : Int32)) (b2 + (1 : Int32)))
      else (
      f_X5_openDays_L4 b0 m n (b1 + (1 : Int32)) (b2 + (1 : Int32))))
def f_X5_openDays (a0 : Int32) (m : mM) : Option (Int32) :=
bnd (f_X5_openDays_L4 a0 m fU (0 : Int32) (0 : Int32)) fun o3 =>
some o3
set_option maxRecDepth 100000 in
theorem t_X5_openDays_L4 {V : eV} (b0 : Int32) (m : mM) {r : Option Value} {h' : aH} : ∀ (n : Nat) (b1 : Int32) (b2 : Int32) (o : Int32), f_X5_openDays_L4 b0 m n b1 b2 = some o → gG V k_X5_openDays 35 [(1, .int o)] [] (hS m) r h' → gG V k_X5_openDays 4 [(0, .int b0), (1, .int b1), (2, .int b2)] [] (hS m) r h' := by
  intro n
  induction n with
  | zero => intro b1 b2 o hf; cases hf
  | succ n ih =>
    intro b1 b2 o hf hk
    rw [f_X5_openDays_L4] at hf
    refine g_iload_n 2 dX5_openDays_4 rfl rfl ?_
    refine g_bipush (v := 7) dX5_openDays_5 rfl ?_
    refine g_icmp_ge (tgt := 35) dX5_openDays_7 (by decide) (fun c2 => ?_) (fun c2 => ?_)
    · replace hf := (if_pos c2).symm.trans hf
      cases hf
      refine g_sub [1] rfl ?_
      exact hk
    · replace hf := (if_neg c2).symm.trans hf
      refine g_iload_n 1 dX5_openDays_10 rfl rfl ?_
      refine g_iload_n 0 dX5_openDays_11 rfl rfl ?_
      refine g_iload_n 2 dX5_openDays_12 rfl rfl ?_
      refine g_iconst (v := 4) dX5_openDays_13 rfl ?_
      refine g_imul dX5_openDays_14 ?_
      refine g_ishr dX5_openDays_15 ?_
      refine g_bipush (v := 15) dX5_openDays_16 rfl ?_
      refine g_iand dX5_openDays_18 ?_
      refine g_if_eq (tgt := 26) dX5_openDays_19 (by decide) (fun c1 => ?_) (fun c1 => ?_)
      · replace hf := (if_pos c1).symm.trans hf
        refine g_iconst (v := 0) dX5_openDays_26 rfl ?_
        refine g_iadd dX5_openDays_27 ?_
        refine g_istore_n dX5_openDays_28 rfl (Nat.le_of_ble_eq_true rfl) rfl ?_
        refine g_iinc (q := 2) (v := (b2 + (1 : Int32))) dX5_openDays_29 rfl rfl (Nat.le_of_ble_eq_true rfl) rfl ?_
        refine g_goto (tgt := 4) dX5_openDays_32 (by decide) ?_
        refine g_sub [2, 1, 0] rfl ?_
        exact ih (b1 + (0 : Int32)) (b2 + (1 : Int32)) _ hf hk
      · replace hf := (if_neg c1).symm.trans hf
        refine g_iconst (v := 1) dX5_openDays_22 rfl ?_
        refine g_goto (tgt := 27) dX5_openDays_23 (by decide) ?_
        refine g_iadd dX5_openDays_27 ?_
        refine g_istore_n dX5_openDays_28 rfl (Nat.le_of_ble_eq_true rfl) rfl ?_
        refine g_iinc (q := 2) (v := (b2 + (1 : Int32))) dX5_openDays_29 rfl rfl (Nat.le_of_ble_eq_true rfl) rfl ?_
        refine g_goto (tgt := 4) dX5_openDays_32 (by decide) ?_
        refine g_sub [2, 1, 0] rfl ?_
        exact ih (b1 + (1 : Int32)) (b2 + (1 : Int32)) _ hf hk

set_option maxRecDepth 100000 in
theorem t_X5_openDays {V : eV} {a0 : Int32}  {m : mM} {q : Int32} (hf : f_X5_openDays a0 m = some q) : eE V 0 yX5_openDays cX5_openDays 3 (some .int) [.int a0] (hS m) (some (.int q)) (hS m) := by
  refine eE_of (by decide) (Nat.le_of_ble_eq_true rfl) ?_
  show gG V k_X5_openDays 0 [(0, .int a0)] [] (hS m) _ _
  unfold f_X5_openDays at hf
  refine g_iconst (v := 0) dX5_openDays_0 rfl ?_
  refine g_istore_n dX5_openDays_1 rfl (Nat.le_of_ble_eq_true rfl) rfl ?_
  refine g_iconst (v := 0) dX5_openDays_2 rfl ?_
  refine g_istore_n dX5_openDays_3 rfl (Nat.le_of_ble_eq_true rfl) rfl ?_
  refine g_sub [2, 1, 0] rfl ?_
  obtain ⟨o3, e4, hf⟩ := bnd_some hf
  refine t_X5_openDays_L4 (V := V) a0 m fU (0 : Int32) (0 : Int32) _ e4 ?_
  refine g_iload_n 0 dX5_openDays_35 rfl rfl ?_
  cases hf
  exact g_iret dX5_openDays_36 .int rfl rfl

abbrev k_X5_longestRun : kX := (cX5_longestRun, "WhoseHourItIs$Strikes", "longestRun", some .int, 4, 1)
def f_X5_longestRun_L6 (b0 : Int32) (m : mM) : Nat → Int32 → Int32 → Int32 → Option (Int32)
  | 0, _, _, _ => none
  | n + 1, b1, b2, b3 =>
      if (28 : Int32) ≤ b3 then (
      some b1)
      else (
      bnd (f_X8_isIn b0 b3 m) fun q1 =>
      if q1 = 0 then (
      f_X5_longestRun_L6 b0 m n (if b1 < (0 : Int32) then (0 : Int32) else b1) (0 : Int32) (b3 + (1 : Int32)))
      else (
      f_X5_longestRun_L6 b0 m n (if b1 < (b2 + (1 : Int32)) then (b2 + (1 : Int32)) else b1) (b2 + (1 : Int32)) (b3 + (1 : Int32))))
def f_X5_longestRun (a0 : Int32) (m : mM) : Option (Int32) :=
bnd (f_X5_longestRun_L6 a0 m fU (0 : Int32) (0 : Int32) (0 : Int32)) fun o5 =>
some o5
set_option maxRecDepth 100000 in
theorem t_X5_longestRun_L6 {V : eV} (b0 : Int32) (m : mM) {r : Option Value} {h' : aH} : ∀ (n : Nat) (b1 : Int32) (b2 : Int32) (b3 : Int32) (o : Int32), f_X5_longestRun_L6 b0 m n b1 b2 b3 = some o → gG V k_X5_longestRun 40 [(1, .int o)] [] (hS m) r h' → gG V k_X5_longestRun 6 [(0, .int b0), (1, .int b1), (2, .int b2), (3, .int b3)] [] (hS m) r h' := by
  intro n
  induction n with
  | zero => intro b1 b2 b3 o hf; cases hf
  | succ n ih =>
    intro b1 b2 b3 o hf hk
    rw [f_X5_longestRun_L6] at hf
    refine g_iload_n 3 dX5_longestRun_6 rfl rfl ?_
    refine g_bipush (v := 28) dX5_longestRun_7 rfl ?_
    refine g_icmp_ge (tgt := 40) dX5_longestRun_9 (by decide) (fun c4 => ?_) (fun c4 => ?_)
    · replace hf := (if_pos c4).symm.trans hf
      cases hf
      refine g_sub [1] rfl ?_
      exact hk
    · replace hf := (if_neg c4).symm.trans hf
      refine g_iload_n 0 dX5_longestRun_12 rfl rfl ?_
      refine g_iload_n 3 dX5_longestRun_13 rfl rfl ?_
      obtain ⟨q1, e2, hf⟩ := bnd_some hf
      refine p_callSN (As := [.int b0, .int b3]) (rest := []) (t_X8_isIn e2) cw_690 w_534 (Nat.le_of_ble_eq_true rfl) rfl rfl (Nat.le_of_ble_eq_true rfl) dX5_longestRun_14 ?_
      refine g_if_eq (tgt := 26) dX5_longestRun_17 (by decide) (fun c3 => ?_) (fun c3 => ?_)
      · replace hf := (if_pos c3).symm.trans hf
        refine g_iconst (v := 0) dX5_longestRun_26 rfl ?_
        refine g_istore_n dX5_longestRun_27 rfl (Nat.le_of_ble_eq_true rfl) rfl ?_
        refine g_iload_n 2 dX5_longestRun_28 rfl rfl ?_
        refine g_iload_n 0 dX5_longestRun_29 rfl rfl ?_
        refine g_max w_691 w_456 w_71 w_457 (Nat.le_of_ble_eq_true rfl) (Nat.le_of_ble_eq_true rfl) dX5_longestRun_30 ?_
        refine g_istore_n dX5_longestRun_33 rfl (Nat.le_of_ble_eq_true rfl) rfl ?_
        refine g_iinc (q := 3) (v := (b3 + (1 : Int32))) dX5_longestRun_34 rfl rfl (Nat.le_of_ble_eq_true rfl) rfl ?_
        refine g_goto (tgt := 6) dX5_longestRun_37 (by decide) ?_
        refine g_sub [3, 1, 2, 0] rfl ?_
        exact ih (if b1 < (0 : Int32) then (0 : Int32) else b1) (0 : Int32) (b3 + (1 : Int32)) _ hf hk
      · replace hf := (if_neg c3).symm.trans hf
        refine g_iload_n 2 dX5_longestRun_20 rfl rfl ?_
        refine g_iconst (v := 1) dX5_longestRun_21 rfl ?_
        refine g_iadd dX5_longestRun_22 ?_
        refine g_goto (tgt := 27) dX5_longestRun_23 (by decide) ?_
        refine g_istore_n dX5_longestRun_27 rfl (Nat.le_of_ble_eq_true rfl) rfl ?_
        refine g_iload_n 2 dX5_longestRun_28 rfl rfl ?_
        refine g_iload_n 0 dX5_longestRun_29 rfl rfl ?_
        refine g_max w_691 w_456 w_71 w_457 (Nat.le_of_ble_eq_true rfl) (Nat.le_of_ble_eq_true rfl) dX5_longestRun_30 ?_
        refine g_istore_n dX5_longestRun_33 rfl (Nat.le_of_ble_eq_true rfl) rfl ?_
        refine g_iinc (q := 3) (v := (b3 + (1 : Int32))) dX5_longestRun_34 rfl rfl (Nat.le_of_ble_eq_true rfl) rfl ?_
        refine g_goto (tgt := 6) dX5_longestRun_37 (by decide) ?_
        refine g_sub [3, 1, 2, 0] rfl ?_
        exact ih (if b1 < (b2 + (1 : Int32)) then (b2 + (1 : Int32)) else b1) (b2 + (1 : Int32)) (b3 + (1 : Int32)) _ hf hk

set_option maxRecDepth 100000 in
theorem t_X5_longestRun {V : eV} {a0 : Int32}  {m : mM} {q : Int32} (hf : f_X5_longestRun a0 m = some q) : eE V 1 yX5_longestRun cX5_longestRun 4 (some .int) [.int a0] (hS m) (some (.int q)) (hS m) := by
  refine eE_of (by decide) (Nat.le_of_ble_eq_true rfl) ?_
  show gG V k_X5_longestRun 0 [(0, .int a0)] [] (hS m) _ _
  unfold f_X5_longestRun at hf
  refine g_iconst (v := 0) dX5_longestRun_0 rfl ?_
  refine g_istore_n dX5_longestRun_1 rfl (Nat.le_of_ble_eq_true rfl) rfl ?_
  refine g_iconst (v := 0) dX5_longestRun_2 rfl ?_
  refine g_istore_n dX5_longestRun_3 rfl (Nat.le_of_ble_eq_true rfl) rfl ?_
  refine g_iconst (v := 0) dX5_longestRun_4 rfl ?_
  refine g_istore_n dX5_longestRun_5 rfl (Nat.le_of_ble_eq_true rfl) rfl ?_
  refine g_sub [3, 2, 1, 0] rfl ?_
  obtain ⟨o5, e6, hf⟩ := bnd_some hf
  refine t_X5_longestRun_L6 (V := V) a0 m fU (0 : Int32) (0 : Int32) (0 : Int32) _ e6 ?_
  refine g_iload_n 0 dX5_longestRun_40 rfl rfl ?_
  cases hf
  exact g_iret dX5_longestRun_41 .int rfl rfl

abbrev k_X5_canBe : kX := (cX5_canBe, "WhoseHourItIs$Strikes", "canBe", some .boolean, 8, 2)
def f_X5_canBe_L17 (b1 : Int32) (b2 : Int32) (b3 : Int32) (b4 : Nat) (m : mM) : Nat → Int32 → Int32 → Option (Int32)
  | 0, _, _ => none
  | n + 1, b5, b6 =>
      bnd (rdA (44 + b4) 6 (3 : Int32) m) fun v3 =>
      if v3 < b6 then (
      some b5)
      else (
      bnd (ckR 6 b1) fun j5 =>
      bnd (rdA (176 + j5) 28 b6 m) fun v7 =>
      bnd (ckR 6 b1) fun j9 =>
      bnd (rdA (169 + j9) 28 b6 m) fun v11 =>
      if ((v7 ||| (v11 &&& b2)) &&& (b3 ^^^ (-1 : Int32))) = 0 then (
      f_X5_canBe_L17 b1 b2 b3 b4 m n (b5 ||| ((1 : Int32) <<< (b6 &&& 31))) (b6 + (1 : Int32)))
      else (
      f_X5_canBe_L17 b1 b2 b3 b4 m n (b5 ||| (0 : Int32)) (b6 + (1 : Int32))))
def f_X5_canBe (a1 : Int32) (a2 : Int32) (a3 : Int32) (m : mM) : Option (Int32) :=
bnd (ckR 6 a1) fun j1 =>
bnd (f_X5_canBe_L17 a1 a2 a3 j1 m fU (0 : Int32) (0 : Int32)) fun o15 =>
bnd (rdA (44 + j1) 6 (1 : Int32) m) fun v17 =>
if v17 = (1 : Int32) then (
bnd (f_X5_openDays o15 m) fun q19 =>
bnd (rdA (44 + j1) 6 (2 : Int32) m) fun v21 =>
if q19 < v21 then (
some (0 : Int32))
else (
some (1 : Int32)))
else (
bnd (f_X5_longestRun o15 m) fun q24 =>
bnd (rdA (44 + j1) 6 (2 : Int32) m) fun v26 =>
if q24 < v26 then (
some (0 : Int32))
else (
some (1 : Int32)))
set_option maxRecDepth 100000 in
theorem t_X5_canBe_L17 {V : eV} (b1 : Int32) (b2 : Int32) (b3 : Int32) (b4 : Nat) (hb4 : b4 < 6) (m : mM) {r : Option Value} {h' : aH} : ∀ (n : Nat) (b5 : Int32) (b6 : Int32) (o : Int32), f_X5_canBe_L17 b1 b2 b3 b4 m n b5 b6 = some o → gG V k_X5_canBe 77 [(4, .ref (vB V + (44 + b4))), (5, .int o)] [] (hS m) r h' → gG V k_X5_canBe 17 [(0, .ref (vB V + 167)), (1, .int b1), (2, .int b2), (3, .int b3), (4, .ref (vB V + (44 + b4))), (5, .int b5), (6, .int b6)] [] (hS m) r h' := by
  intro n
  induction n with
  | zero => intro b5 b6 o hf; cases hf
  | succ n ih =>
    intro b5 b6 o hf hk
    rw [f_X5_canBe_L17] at hf
    refine g_iload 6 dX5_canBe_17 rfl ?_
    refine g_aload 4 dX5_canBe_19 rfl ?_
    refine g_iconst (v := 3) dX5_canBe_21 rfl ?_
    obtain ⟨v3, e4, hf⟩ := bnd_some hf
    refine p_iald dX5_canBe_22 (ar_44 hb4) e4 ?_
    refine g_icmp_gt (tgt := 77) dX5_canBe_23 (by decide) (fun c14 => ?_) (fun c14 => ?_)
    · replace hf := (if_pos c14).symm.trans hf
      cases hf
      refine g_sub [4, 5] rfl ?_
      exact hk
    · replace hf := (if_neg c14).symm.trans hf
      refine g_aload_n 0 dX5_canBe_26 rfl rfl ?_
      refine gf_270 dX5_canBe_27 rfl ob_167 rfl ?_
      refine g_iload_n 1 dX5_canBe_30 rfl rfl ?_
      obtain ⟨j5, e6, hf⟩ := bnd_some hf
      refine p_aald dX5_canBe_31 rt_175 e6 (fun hj5 => ?_)
      refine g_iload 6 dX5_canBe_32 rfl ?_
      obtain ⟨v7, e8, hf⟩ := bnd_some hf
      refine p_iald dX5_canBe_34 (ar_176 hj5) e8 ?_
      refine g_aload_n 0 dX5_canBe_35 rfl rfl ?_
      refine gf_269 dX5_canBe_36 rfl ob_167 rfl ?_
      refine g_iload_n 1 dX5_canBe_39 rfl rfl ?_
      obtain ⟨j9, e10, hf⟩ := bnd_some hf
      refine p_aald dX5_canBe_40 rt_168 e10 (fun hj9 => ?_)
      refine g_iload 6 dX5_canBe_41 rfl ?_
      obtain ⟨v11, e12, hf⟩ := bnd_some hf
      refine p_iald dX5_canBe_43 (ar_169 hj9) e12 ?_
      refine g_iload_n 2 dX5_canBe_44 rfl rfl ?_
      refine g_iand dX5_canBe_45 ?_
      refine g_ior dX5_canBe_46 ?_
      refine g_iload_n 3 dX5_canBe_47 rfl rfl ?_
      refine g_iconst (v := -1) dX5_canBe_48 rfl ?_
      refine g_ixor dX5_canBe_49 ?_
      refine g_iand dX5_canBe_50 ?_
      refine g_istore dX5_canBe_51 (Nat.le_of_ble_eq_true rfl) rfl ?_
      refine g_iload 6 dX5_canBe_53 rfl ?_
      refine g_iload 0 dX5_canBe_55 rfl ?_
      refine g_if_ne (tgt := 67) dX5_canBe_57 (by decide) (fun c13 => ?_) (fun c13 => ?_)
      · replace hf := (if_neg c13).symm.trans hf
        refine g_iconst (v := 0) dX5_canBe_67 rfl ?_
        refine g_ior dX5_canBe_68 ?_
        refine g_istore dX5_canBe_69 (Nat.le_of_ble_eq_true rfl) rfl ?_
        refine g_iinc (q := 7) (v := (b6 + (1 : Int32))) dX5_canBe_71 rfl rfl (Nat.le_of_ble_eq_true rfl) rfl ?_
        refine g_goto (tgt := 17) dX5_canBe_74 (by decide) ?_
        refine g_sub [3, 4, 5, 6, 7, 1, 0] rfl ?_
        exact ih (b5 ||| (0 : Int32)) (b6 + (1 : Int32)) _ hf hk
      · replace hf := (if_pos c13).symm.trans hf
        refine g_iconst (v := 1) dX5_canBe_60 rfl ?_
        refine g_iload 7 dX5_canBe_61 rfl ?_
        refine g_ishl dX5_canBe_63 ?_
        refine g_goto (tgt := 68) dX5_canBe_64 (by decide) ?_
        refine g_ior dX5_canBe_68 ?_
        refine g_istore dX5_canBe_69 (Nat.le_of_ble_eq_true rfl) rfl ?_
        refine g_iinc (q := 7) (v := (b6 + (1 : Int32))) dX5_canBe_71 rfl rfl (Nat.le_of_ble_eq_true rfl) rfl ?_
        refine g_goto (tgt := 17) dX5_canBe_74 (by decide) ?_
        refine g_sub [3, 4, 5, 6, 7, 1, 0] rfl ?_
        exact ih (b5 ||| ((1 : Int32) <<< (b6 &&& 31))) (b6 + (1 : Int32)) _ hf hk

set_option maxRecDepth 100000 in
theorem t_X5_canBe {V : eV} {a1 : Int32} {a2 : Int32} {a3 : Int32}  {m : mM} {q : Int32} (hf : f_X5_canBe a1 a2 a3 m = some q) : eE V 2 yX5_canBe cX5_canBe 8 (some .boolean) [.ref (vB V + 167), .int a1, .int a2, .int a3] (hS m) (some (.int q)) (hS m) := by
  refine eE_of (by decide) (Nat.le_of_ble_eq_true rfl) ?_
  show gG V k_X5_canBe 0 [(0, .ref (vB V + 167)), (1, .int a1), (2, .int a2), (3, .int a3)] [] (hS m) _ _
  unfold f_X5_canBe at hf
  refine g_aload_n 0 dX5_canBe_0 rfl rfl ?_
  refine gf_268 dX5_canBe_1 rfl ob_167 rfl ?_
  refine gf_135 dX5_canBe_4 rfl ob_1 rfl ?_
  refine g_iload_n 1 dX5_canBe_7 rfl rfl ?_
  obtain ⟨j1, e2, hf⟩ := bnd_some hf
  refine p_aald dX5_canBe_8 rt_43 e2 (fun hj1 => ?_)
  refine g_astore dX5_canBe_9 (Nat.le_of_ble_eq_true rfl) rfl ?_
  refine g_iconst (v := 0) dX5_canBe_11 rfl ?_
  refine g_istore dX5_canBe_12 (Nat.le_of_ble_eq_true rfl) rfl ?_
  refine g_iconst (v := 0) dX5_canBe_14 rfl ?_
  refine g_istore dX5_canBe_15 (Nat.le_of_ble_eq_true rfl) rfl ?_
  refine g_sub [3, 4, 5, 6, 2, 1, 0] rfl ?_
  obtain ⟨o15, e16, hf⟩ := bnd_some hf
  refine t_X5_canBe_L17 (V := V) a1 a2 a3 j1 hj1 m fU (0 : Int32) (0 : Int32) _ e16 ?_
  refine g_aload 0 dX5_canBe_77 rfl ?_
  refine g_iconst (v := 1) dX5_canBe_79 rfl ?_
  obtain ⟨v17, e18, hf⟩ := bnd_some hf
  refine p_iald dX5_canBe_80 (ar_44 hj1) e18 ?_
  refine g_iconst (v := 1) dX5_canBe_81 rfl ?_
  refine g_icmp_ne (tgt := 105) dX5_canBe_82 (by decide) (fun c29 => ?_) (fun c29 => ?_)
  · replace hf := (if_neg c29).symm.trans hf
    refine g_iload 1 dX5_canBe_105 rfl ?_
    obtain ⟨q24, e25, hf⟩ := bnd_some hf
    refine p_callS (As := [.int o15]) (rest := []) (t_X5_longestRun e25) cw_687 w_688 (Nat.le_of_ble_eq_true rfl) rfl rfl (Nat.le_of_ble_eq_true rfl) dX5_canBe_107 ?_
    refine g_aload 0 dX5_canBe_110 rfl ?_
    refine g_iconst (v := 2) dX5_canBe_112 rfl ?_
    obtain ⟨v26, e27, hf⟩ := bnd_some hf
    refine p_iald dX5_canBe_113 (ar_44 hj1) e27 ?_
    refine g_icmp_lt (tgt := 121) dX5_canBe_114 (by decide) (fun c28 => ?_) (fun c28 => ?_)
    · replace hf := (if_pos c28).symm.trans hf
      refine g_iconst (v := 0) dX5_canBe_121 rfl ?_
      cases hf
      exact g_iret dX5_canBe_122 .boolean rfl rfl
    · replace hf := (if_neg c28).symm.trans hf
      refine g_iconst (v := 1) dX5_canBe_117 rfl ?_
      refine g_goto (tgt := 122) dX5_canBe_118 (by decide) ?_
      cases hf
      exact g_iret dX5_canBe_122 .boolean rfl rfl
  · replace hf := (if_pos c29).symm.trans hf
    refine g_iload 1 dX5_canBe_85 rfl ?_
    obtain ⟨q19, e20, hf⟩ := bnd_some hf
    refine p_callS (As := [.int o15]) (rest := []) (t_X5_openDays e20) cw_684 w_685 (Nat.le_of_ble_eq_true rfl) rfl rfl (Nat.le_of_ble_eq_true rfl) dX5_canBe_87 ?_
    refine g_aload 0 dX5_canBe_90 rfl ?_
    refine g_iconst (v := 2) dX5_canBe_92 rfl ?_
    obtain ⟨v21, e22, hf⟩ := bnd_some hf
    refine p_iald dX5_canBe_93 (ar_44 hj1) e22 ?_
    refine g_icmp_lt (tgt := 101) dX5_canBe_94 (by decide) (fun c23 => ?_) (fun c23 => ?_)
    · replace hf := (if_pos c23).symm.trans hf
      refine g_iconst (v := 0) dX5_canBe_101 rfl ?_
      refine g_goto (tgt := 122) dX5_canBe_102 (by decide) ?_
      cases hf
      exact g_iret dX5_canBe_122 .boolean rfl rfl
    · replace hf := (if_neg c23).symm.trans hf
      refine g_iconst (v := 1) dX5_canBe_97 rfl ?_
      refine g_goto (tgt := 122) dX5_canBe_98 (by decide) ?_
      cases hf
      exact g_iret dX5_canBe_122 .boolean rfl rfl

abbrev k_X5_barring : kX := (cX5_barring, "WhoseHourItIs$Strikes", "barring", some .int, 4, 3)
def f_X5_barring_L28 (b1 : Int32) (m : mM) : Nat → Int32 → Int32 → Option (Int32)
  | 0, _, _ => none
  | n + 1, b2, b3 =>
      if (m 1 0) ≤ b3 then (
      some b2)
      else (
      bnd (f_X5_canBe b1 (m 1 2) ((1 : Int32) <<< (b3 &&& 31)) m) fun q5 =>
      if q5 = 0 then (
      f_X5_barring_L28 b1 m n b2 (b3 + (1 : Int32)))
      else (
      f_X5_barring_L28 b1 m n (b2 ||| ((1 : Int32) <<< (b3 &&& 31))) (b3 + (1 : Int32))))
def f_X5_barring (a1 : Int32) (m : mM) : Option (Int32 × mM) :=
bnd (f_X5_look a1 m) fun q1 =>
bnd (f_X5_canBe a1 (q1 1 2) (0 : Int32) q1) fun q3 =>
if q3 = 0 then (
bnd (f_X5_barring_L28 a1 q1 fU (0 : Int32) (0 : Int32)) fun o9 =>
some (o9, q1))
else (
some ((-9 : Int32), q1))
set_option maxRecDepth 100000 in
theorem t_X5_barring_L28 {V : eV} (b1 : Int32) (m : mM) {r : Option Value} {h' : aH} : ∀ (n : Nat) (b2 : Int32) (b3 : Int32) (o : Int32), f_X5_barring_L28 b1 m n b2 b3 = some o → gG V k_X5_barring 69 [(2, .int o)] [] (hS m) r h' → gG V k_X5_barring 28 [(0, .ref (vB V + 167)), (1, .int b1), (2, .int b2), (3, .int b3)] [] (hS m) r h' := by
  intro n
  induction n with
  | zero => intro b2 b3 o hf; cases hf
  | succ n ih =>
    intro b2 b3 o hf hk
    rw [f_X5_barring_L28] at hf
    refine g_iload_n 3 dX5_barring_28 rfl rfl ?_
    refine g_aload_n 0 dX5_barring_29 rfl rfl ?_
    refine gf_268 dX5_barring_30 rfl ob_167 rfl ?_
    refine gf_94 dX5_barring_33 rfl ob_1 rfl ?_
    refine g_icmp_ge (tgt := 69) dX5_barring_36 (by decide) (fun c8 => ?_) (fun c8 => ?_)
    · replace hf := (if_pos c8).symm.trans hf
      cases hf
      refine g_sub [2] rfl ?_
      exact hk
    · replace hf := (if_neg c8).symm.trans hf
      refine g_aload_n 0 dX5_barring_39 rfl rfl ?_
      refine g_iload_n 1 dX5_barring_40 rfl rfl ?_
      refine g_aload_n 0 dX5_barring_41 rfl rfl ?_
      refine gf_268 dX5_barring_42 rfl ob_167 rfl ?_
      refine gf_105 dX5_barring_45 rfl ob_1 rfl ?_
      refine g_iconst (v := 1) dX5_barring_48 rfl ?_
      refine g_iload_n 3 dX5_barring_49 rfl rfl ?_
      refine g_ishl dX5_barring_50 ?_
      obtain ⟨q5, e6, hf⟩ := bnd_some hf
      refine p_callV (As := [.int b1, .int (m 1 2), .int ((1 : Int32) <<< (b3 &&& 31))]) (rest := []) (t_X5_canBe e6) cw_680 w_682 w_12 ob_167 rfl (Nat.le_of_ble_eq_true rfl) rfl rfl (Nat.le_of_ble_eq_true rfl) dX5_barring_51 ?_
      refine g_if_eq (tgt := 63) dX5_barring_54 (by decide) (fun c7 => ?_) (fun c7 => ?_)
      · replace hf := (if_pos c7).symm.trans hf
        refine g_iinc (q := 3) (v := (b3 + (1 : Int32))) dX5_barring_63 rfl rfl (Nat.le_of_ble_eq_true rfl) rfl ?_
        refine g_goto (tgt := 28) dX5_barring_66 (by decide) ?_
        refine g_sub [1, 2, 3, 0] rfl ?_
        exact ih b2 (b3 + (1 : Int32)) _ hf hk
      · replace hf := (if_neg c7).symm.trans hf
        refine g_iload_n 2 dX5_barring_57 rfl rfl ?_
        refine g_iconst (v := 1) dX5_barring_58 rfl ?_
        refine g_iload_n 3 dX5_barring_59 rfl rfl ?_
        refine g_ishl dX5_barring_60 ?_
        refine g_ior dX5_barring_61 ?_
        refine g_istore_n dX5_barring_62 rfl (Nat.le_of_ble_eq_true rfl) rfl ?_
        refine g_iinc (q := 3) (v := (b3 + (1 : Int32))) dX5_barring_63 rfl rfl (Nat.le_of_ble_eq_true rfl) rfl ?_
        refine g_goto (tgt := 28) dX5_barring_66 (by decide) ?_
        refine g_sub [2, 3, 1, 0] rfl ?_
        exact ih (b2 ||| ((1 : Int32) <<< (b3 &&& 31))) (b3 + (1 : Int32)) _ hf hk

set_option maxRecDepth 100000 in
theorem t_X5_barring {V : eV} {a1 : Int32}  {m : mM} {q : Int32 × mM} (hf : f_X5_barring a1 m = some q) : eE V 3 yX5_barring cX5_barring 4 (some .int) [.ref (vB V + 167), .int a1] (hS m) (some (.int q.1)) (hS q.2) := by
  refine eE_of (by decide) (Nat.le_of_ble_eq_true rfl) ?_
  show gG V k_X5_barring 0 [(0, .ref (vB V + 167)), (1, .int a1)] [] (hS m) _ _
  unfold f_X5_barring at hf
  refine g_aload_n 0 dX5_barring_0 rfl rfl ?_
  refine g_iload_n 1 dX5_barring_1 rfl rfl ?_
  obtain ⟨q1, e2, hf⟩ := bnd_some hf
  refine p_callVv (As := [.int a1]) (rest := []) (t_X5_look e2) cw_674 w_676 w_11 ob_167 rfl (Nat.le_of_ble_eq_true rfl) rfl rfl (Nat.le_of_ble_eq_true rfl) dX5_barring_2 ?_
  refine g_aload_n 0 dX5_barring_5 rfl rfl ?_
  refine g_iload_n 1 dX5_barring_6 rfl rfl ?_
  refine g_aload_n 0 dX5_barring_7 rfl rfl ?_
  refine gf_268 dX5_barring_8 rfl ob_167 rfl ?_
  refine gf_105 dX5_barring_11 rfl ob_1 rfl ?_
  refine g_iconst (v := 0) dX5_barring_14 rfl ?_
  obtain ⟨q3, e4, hf⟩ := bnd_some hf
  refine p_callV (As := [.int a1, .int (q1 1 2), .int (0 : Int32)]) (rest := []) (t_X5_canBe e4) cw_680 w_682 w_12 ob_167 rfl (Nat.le_of_ble_eq_true rfl) rfl rfl (Nat.le_of_ble_eq_true rfl) dX5_barring_15 ?_
  refine g_if_eq (tgt := 24) dX5_barring_18 (by decide) (fun c11 => ?_) (fun c11 => ?_)
  · replace hf := (if_pos c11).symm.trans hf
    refine g_iconst (v := 0) dX5_barring_24 rfl ?_
    refine g_istore_n dX5_barring_25 rfl (Nat.le_of_ble_eq_true rfl) rfl ?_
    refine g_iconst (v := 0) dX5_barring_26 rfl ?_
    refine g_istore_n dX5_barring_27 rfl (Nat.le_of_ble_eq_true rfl) rfl ?_
    refine g_sub [2, 3, 1, 0] rfl ?_
    obtain ⟨o9, e10, hf⟩ := bnd_some hf
    refine t_X5_barring_L28 (V := V) a1 q1 fU (0 : Int32) (0 : Int32) _ e10 ?_
    refine g_iload_n 0 dX5_barring_69 rfl rfl ?_
    cases hf
    exact g_iret dX5_barring_70 .int rfl rfl
  · replace hf := (if_neg c11).symm.trans hf
    refine g_bipush (v := -9) dX5_barring_21 rfl ?_
    cases hf
    exact g_iret dX5_barring_23 .int rfl rfl

abbrev k_X8_bars : kX := (cX8_bars, "WhoseHourItIs", "bars", some .int, 3, 4)
def f_X8_bars (a1 : Int32) (m : mM) : Option (Int32 × mM) :=
bnd (f_X7_hasWork_1 a1 m) fun q1 =>
if q1 = 0 then (
bnd (f_X8_refuse (-1 : Int32) m) fun q3 =>
some (q3.1, q3.2))
else (
bnd (f_X5_barring a1 m) fun q5 =>
if q5.1 = (-9 : Int32) then (
bnd (f_X8_refuse (-3 : Int32) q5.2) fun q7 =>
some (q7.1, q7.2))
else (
some (q5.1, q5.2)))
set_option maxRecDepth 100000 in
theorem t_X8_bars {V : eV} {a1 : Int32}  {m : mM} {q : Int32 × mM} (hf : f_X8_bars a1 m = some q) : eE V 4 yX8_bars cX8_bars 3 (some .int) [.ref (vB V + 0), .int a1] (hS m) (some (.int q.1)) (hS q.2) := by
  refine eE_of (by decide) (Nat.le_of_ble_eq_true rfl) ?_
  show gG V k_X8_bars 0 [(0, .ref (vB V + 0)), (1, .int a1)] [] (hS m) _ _
  unfold f_X8_bars at hf
  refine g_aload_n 0 dX8_bars_0 rfl rfl ?_
  refine gf_314 dX8_bars_1 rfl ob_0 rfl ?_
  refine g_iload_n 1 dX8_bars_4 rfl rfl ?_
  obtain ⟨q1, e2, hf⟩ := bnd_some hf
  refine p_callV (As := [.int a1]) (rest := []) (t_X7_hasWork_1 e2) cw_623 w_624 w_625 ob_1 rfl (Nat.le_of_ble_eq_true rfl) rfl rfl (Nat.le_of_ble_eq_true rfl) dX8_bars_5 ?_
  refine g_if_ne (tgt := 17) dX8_bars_8 (by decide) (fun c10 => ?_) (fun c10 => ?_)
  · replace hf := (if_neg c10).symm.trans hf
    refine g_aload_n 0 dX8_bars_17 rfl rfl ?_
    refine gf_322 dX8_bars_18 rfl ob_0 rfl ?_
    refine g_iload_n 1 dX8_bars_21 rfl rfl ?_
    obtain ⟨q5, e6, hf⟩ := bnd_some hf
    refine p_callV (As := [.int a1]) (rest := []) (t_X5_barring e6) cw_670 w_671 w_672 ob_167 rfl (Nat.le_of_ble_eq_true rfl) rfl rfl (Nat.le_of_ble_eq_true rfl) dX8_bars_22 ?_
    refine g_istore_n dX8_bars_25 rfl (Nat.le_of_ble_eq_true rfl) rfl ?_
    refine g_iload_n 0 dX8_bars_26 rfl rfl ?_
    refine g_bipush (v := -9) dX8_bars_27 rfl ?_
    refine g_icmp_ne (tgt := 41) dX8_bars_29 (by decide) (fun c9 => ?_) (fun c9 => ?_)
    · replace hf := (if_neg c9).symm.trans hf
      refine g_iload_n 0 dX8_bars_41 rfl rfl ?_
      cases hf
      exact g_iret dX8_bars_42 .int rfl rfl
    · replace hf := (if_pos c9).symm.trans hf
      refine g_aload_n 1 dX8_bars_32 rfl rfl ?_
      refine g_bipush (v := -3) dX8_bars_33 rfl ?_
      obtain ⟨q7, e8, hf⟩ := bnd_some hf
      refine p_callV (As := [.int (-3 : Int32)]) (rest := []) (t_X8_refuse e8) cw_355 w_357 w_0 ob_0 rfl (Nat.le_of_ble_eq_true rfl) rfl rfl (Nat.le_of_ble_eq_true rfl) dX8_bars_35 ?_
      refine g_goto (tgt := 42) dX8_bars_38 (by decide) ?_
      cases hf
      exact g_iret dX8_bars_42 .int rfl rfl
  · replace hf := (if_pos c10).symm.trans hf
    refine g_aload_n 0 dX8_bars_11 rfl rfl ?_
    refine g_iconst (v := -1) dX8_bars_12 rfl ?_
    obtain ⟨q3, e4, hf⟩ := bnd_some hf
    refine p_callV (As := [.int (-1 : Int32)]) (rest := []) (t_X8_refuse e4) cw_355 w_357 w_0 ob_0 rfl (Nat.le_of_ble_eq_true rfl) rfl rfl (Nat.le_of_ble_eq_true rfl) dX8_bars_13 ?_
    cases hf
    exact g_iret dX8_bars_16 .int rfl rfl

abbrev k_X7_rowWorks : kX := (cX7_rowWorks, "WhoseHourItIs$Town", "rowWorks", some .int, 3, 0)
def f_X7_rowWorks_L4 (m : mM) : Nat → Int32 → Int32 → Option (Int32)
  | 0, _, _ => none
  | n + 1, b1, b2 =>
      if (m 1 1) ≤ b2 then (
      some b1)
      else (
      bnd (ckR 6 b2) fun j1 =>
      bnd (rdA (44 + j1) 6 (1 : Int32) m) fun v3 =>
      f_X7_rowWorks_L4 m n (b1 + ((1 : Int32) - v3)) (b2 + (1 : Int32)))
def f_X7_rowWorks  (m : mM) : Option (Int32) :=
bnd (f_X7_rowWorks_L4 m fU (0 : Int32) (0 : Int32)) fun o6 =>
some o6
set_option maxRecDepth 100000 in
theorem t_X7_rowWorks_L4 {V : eV} (m : mM) {r : Option Value} {h' : aH} : ∀ (n : Nat) (b1 : Int32) (b2 : Int32) (o : Int32), f_X7_rowWorks_L4 m n b1 b2 = some o → gG V k_X7_rowWorks 31 [(1, .int o)] [] (hS m) r h' → gG V k_X7_rowWorks 4 [(0, .ref (vB V + 1)), (1, .int b1), (2, .int b2)] [] (hS m) r h' := by
  intro n
  induction n with
  | zero => intro b1 b2 o hf; cases hf
  | succ n ih =>
    intro b1 b2 o hf hk
    rw [f_X7_rowWorks_L4] at hf
    refine g_iload_n 2 dX7_rowWorks_4 rfl rfl ?_
    refine g_aload_n 0 dX7_rowWorks_5 rfl rfl ?_
    refine gf_97 dX7_rowWorks_6 rfl ob_1 rfl ?_
    refine g_icmp_ge (tgt := 31) dX7_rowWorks_9 (by decide) (fun c5 => ?_) (fun c5 => ?_)
    · replace hf := (if_pos c5).symm.trans hf
      cases hf
      refine g_sub [1] rfl ?_
      exact hk
    · replace hf := (if_neg c5).symm.trans hf
      refine g_iload_n 1 dX7_rowWorks_12 rfl rfl ?_
      refine g_iconst (v := 1) dX7_rowWorks_13 rfl ?_
      refine g_aload_n 0 dX7_rowWorks_14 rfl rfl ?_
      refine gf_131 dX7_rowWorks_15 rfl ob_1 rfl ?_
      refine g_iload_n 2 dX7_rowWorks_18 rfl rfl ?_
      obtain ⟨j1, e2, hf⟩ := bnd_some hf
      refine p_aald dX7_rowWorks_19 rt_43 e2 (fun hj1 => ?_)
      refine g_iconst (v := 1) dX7_rowWorks_20 rfl ?_
      obtain ⟨v3, e4, hf⟩ := bnd_some hf
      refine p_iald dX7_rowWorks_21 (ar_44 hj1) e4 ?_
      refine g_isub dX7_rowWorks_22 ?_
      refine g_iadd dX7_rowWorks_23 ?_
      refine g_istore_n dX7_rowWorks_24 rfl (Nat.le_of_ble_eq_true rfl) rfl ?_
      refine g_iinc (q := 2) (v := (b2 + (1 : Int32))) dX7_rowWorks_25 rfl rfl (Nat.le_of_ble_eq_true rfl) rfl ?_
      refine g_goto (tgt := 4) dX7_rowWorks_28 (by decide) ?_
      refine g_sub [2, 1, 0] rfl ?_
      exact ih (b1 + ((1 : Int32) - v3)) (b2 + (1 : Int32)) _ hf hk

set_option maxRecDepth 100000 in
theorem t_X7_rowWorks {V : eV}  {m : mM} {q : Int32} (hf : f_X7_rowWorks  m = some q) : eE V 0 yX7_rowWorks cX7_rowWorks 3 (some .int) [.ref (vB V + 1)] (hS m) (some (.int q)) (hS m) := by
  refine eE_of (by decide) (Nat.le_of_ble_eq_true rfl) ?_
  show gG V k_X7_rowWorks 0 [(0, .ref (vB V + 1))] [] (hS m) _ _
  unfold f_X7_rowWorks at hf
  refine g_iconst (v := 0) dX7_rowWorks_0 rfl ?_
  refine g_istore_n dX7_rowWorks_1 rfl (Nat.le_of_ble_eq_true rfl) rfl ?_
  refine g_iconst (v := 0) dX7_rowWorks_2 rfl ?_
  refine g_istore_n dX7_rowWorks_3 rfl (Nat.le_of_ble_eq_true rfl) rfl ?_
  refine g_sub [2, 1, 0] rfl ?_
  obtain ⟨o6, e7, hf⟩ := bnd_some hf
  refine t_X7_rowWorks_L4 (V := V) m fU (0 : Int32) (0 : Int32) _ e7 ?_
  refine g_iload_n 0 dX7_rowWorks_31 rfl rfl ?_
  cases hf
  exact g_iret dX7_rowWorks_32 .int rfl rfl

abbrev k_X3_fillGains : kX := (cX3_fillGains, "WhoseHourItIs$Plan", "fillGains", none, 6, 4)
def f_X3_fillGains_L21 (b2 : Nat) (b3 : Nat) : Nat → Int32 → mM → Option (mM)
  | 0, _, _ => none
  | n + 1, b4, m =>
      if (28 : Int32) ≤ b4 then (
      some m)
      else (
      bnd (wrA (162 + b2) 28 b4 (0 : Int32) m) fun m5 =>
      bnd (rdA (44 + b3) 6 (2 : Int32) m5) fun v7 =>
      bnd (rdA (44 + b3) 6 (3 : Int32) m5) fun v9 =>
      if v9 < ((b4 + v7) - (1 : Int32)) then (
      f_X3_fillGains_L21 b2 b3 n (b4 + (1 : Int32)) m5)
      else (
      bnd (rdA (44 + b3) 6 (2 : Int32) m5) fun v11 =>
      bnd (f_X0_runCost b4 v11 m5) fun q13 =>
      if q13 = (-9 : Int32) then (
      bnd (wrA (162 + b2) 28 b4 (0 : Int32) m5) fun m15 =>
      f_X3_fillGains_L21 b2 b3 n (b4 + (1 : Int32)) m15)
      else (
      bnd (rdA (44 + b3) 6 (4 : Int32) m5) fun v17 =>
      bnd (wrA (162 + b2) 28 b4 (v17 - q13) m5) fun m19 =>
      f_X3_fillGains_L21 b2 b3 n (b4 + (1 : Int32)) m19)))
def f_X3_fillGains (a1 : Int32) (a2 : Nat) (m : mM) : Option (mM) :=
bnd (ckR 6 a1) fun j1 =>
bnd (f_X0_choose a1 m) fun q3 =>
bnd (f_X3_fillGains_L21 a2 j1 fU (0 : Int32) q3) fun o24 =>
some o24
set_option maxRecDepth 100000 in
theorem t_X3_fillGains_L21 {V : eV} (b2 : Nat) (b3 : Nat) (hb2 : b2 < 3) (hb3 : b3 < 6) {r : Option Value} {h' : aH} : ∀ (n : Nat) (b4 : Int32) (m : mM) (o : mM), f_X3_fillGains_L21 b2 b3 n b4 m = some o → gG V k_X3_fillGains 88 [] [] (hS o) r h' → gG V k_X3_fillGains 21 [(0, .ref (vB V + 159)), (2, .ref (vB V + (162 + b2))), (3, .ref (vB V + (44 + b3))), (4, .int b4)] [] (hS m) r h' := by
  intro n
  induction n with
  | zero => intro b4 m o hf; cases hf
  | succ n ih =>
    intro b4 m o hf hk
    rw [f_X3_fillGains_L21] at hf
    refine g_iload 3 dX3_fillGains_21 rfl ?_
    refine g_bipush (v := 28) dX3_fillGains_23 rfl ?_
    refine g_icmp_ge (tgt := 88) dX3_fillGains_25 (by decide) (fun c23 => ?_) (fun c23 => ?_)
    · replace hf := (if_pos c23).symm.trans hf
      cases hf
      refine g_sub [] rfl ?_
      exact hk
    · replace hf := (if_neg c23).symm.trans hf
      refine g_aload_n 1 dX3_fillGains_28 rfl rfl ?_
      refine g_iload 3 dX3_fillGains_29 rfl ?_
      refine g_iconst (v := 0) dX3_fillGains_31 rfl ?_
      obtain ⟨m5, e6, hf⟩ := bnd_some hf
      refine p_iast dX3_fillGains_32 (ar_162 hb2) e6 ?_
      refine g_iload 3 dX3_fillGains_33 rfl ?_
      refine g_aload_n 2 dX3_fillGains_35 rfl rfl ?_
      refine g_iconst (v := 2) dX3_fillGains_36 rfl ?_
      obtain ⟨v7, e8, hf⟩ := bnd_some hf
      refine p_iald dX3_fillGains_37 (ar_44 hb3) e8 ?_
      refine g_iadd dX3_fillGains_38 ?_
      refine g_iconst (v := 1) dX3_fillGains_39 rfl ?_
      refine g_isub dX3_fillGains_40 ?_
      refine g_aload_n 2 dX3_fillGains_41 rfl rfl ?_
      refine g_iconst (v := 3) dX3_fillGains_42 rfl ?_
      obtain ⟨v9, e10, hf⟩ := bnd_some hf
      refine p_iald dX3_fillGains_43 (ar_44 hb3) e10 ?_
      refine g_icmp_gt (tgt := 82) dX3_fillGains_44 (by decide) (fun c22 => ?_) (fun c22 => ?_)
      · replace hf := (if_pos c22).symm.trans hf
        refine g_iinc (q := 3) (v := (b4 + (1 : Int32))) dX3_fillGains_82 rfl rfl (Nat.le_of_ble_eq_true rfl) rfl ?_
        refine g_goto (tgt := 21) dX3_fillGains_85 (by decide) ?_
        refine g_sub [1, 2, 3, 0] rfl ?_
        exact ih (b4 + (1 : Int32)) m5 _ hf hk
      · replace hf := (if_neg c22).symm.trans hf
        refine g_aload_n 0 dX3_fillGains_47 rfl rfl ?_
        refine gf_236 dX3_fillGains_48 rfl ob_159 rfl ?_
        refine g_iload 3 dX3_fillGains_51 rfl ?_
        refine g_aload_n 2 dX3_fillGains_53 rfl rfl ?_
        refine g_iconst (v := 2) dX3_fillGains_54 rfl ?_
        obtain ⟨v11, e12, hf⟩ := bnd_some hf
        refine p_iald dX3_fillGains_55 (ar_44 hb3) e12 ?_
        obtain ⟨q13, e14, hf⟩ := bnd_some hf
        refine p_callV (As := [.int b4, .int v11]) (rest := []) (t_X0_runCost e14) cw_709 w_599 w_600 ob_154 rfl (Nat.le_of_ble_eq_true rfl) rfl rfl (Nat.le_of_ble_eq_true rfl) dX3_fillGains_56 ?_
        refine g_istore dX3_fillGains_59 (Nat.le_of_ble_eq_true rfl) rfl ?_
        refine g_aload_n 2 dX3_fillGains_61 rfl rfl ?_
        refine g_iload 4 dX3_fillGains_62 rfl ?_
        refine g_iload 0 dX3_fillGains_64 rfl ?_
        refine g_bipush (v := -9) dX3_fillGains_66 rfl ?_
        refine g_icmp_ne (tgt := 75) dX3_fillGains_68 (by decide) (fun c21 => ?_) (fun c21 => ?_)
        · replace hf := (if_neg c21).symm.trans hf
          refine g_aload_n 3 dX3_fillGains_75 rfl rfl ?_
          refine g_iconst (v := 4) dX3_fillGains_76 rfl ?_
          obtain ⟨v17, e18, hf⟩ := bnd_some hf
          refine p_iald dX3_fillGains_77 (ar_44 hb3) e18 ?_
          refine g_iload 0 dX3_fillGains_78 rfl ?_
          refine g_isub dX3_fillGains_80 ?_
          obtain ⟨m19, e20, hf⟩ := bnd_some hf
          refine p_iast dX3_fillGains_81 (ar_162 hb2) e20 ?_
          refine g_iinc (q := 4) (v := (b4 + (1 : Int32))) dX3_fillGains_82 rfl rfl (Nat.le_of_ble_eq_true rfl) rfl ?_
          refine g_goto (tgt := 21) dX3_fillGains_85 (by decide) ?_
          refine g_sub [2, 3, 4, 0] rfl ?_
          exact ih (b4 + (1 : Int32)) m19 _ hf hk
        · replace hf := (if_pos c21).symm.trans hf
          refine g_iconst (v := 0) dX3_fillGains_71 rfl ?_
          refine g_goto (tgt := 81) dX3_fillGains_72 (by decide) ?_
          obtain ⟨m15, e16, hf⟩ := bnd_some hf
          refine p_iast dX3_fillGains_81 (ar_162 hb2) e16 ?_
          refine g_iinc (q := 4) (v := (b4 + (1 : Int32))) dX3_fillGains_82 rfl rfl (Nat.le_of_ble_eq_true rfl) rfl ?_
          refine g_goto (tgt := 21) dX3_fillGains_85 (by decide) ?_
          refine g_sub [2, 3, 4, 0] rfl ?_
          exact ih (b4 + (1 : Int32)) m15 _ hf hk

set_option maxRecDepth 100000 in
theorem t_X3_fillGains {V : eV} {a1 : Int32} {a2 : Nat} (ha2 : a2 < 3) {m : mM} {q : mM} (hf : f_X3_fillGains a1 a2 m = some q) : eE V 4 yX3_fillGains cX3_fillGains 6 (none) [.ref (vB V + 159), .int a1, .ref (vB V + (162 + a2))] (hS m) none (hS q) := by
  refine eE_of (by decide) (Nat.le_of_ble_eq_true rfl) ?_
  show gG V k_X3_fillGains 0 [(0, .ref (vB V + 159)), (1, .int a1), (2, .ref (vB V + (162 + a2)))] [] (hS m) _ _
  unfold f_X3_fillGains at hf
  refine g_aload_n 0 dX3_fillGains_0 rfl rfl ?_
  refine gf_235 dX3_fillGains_1 rfl ob_159 rfl ?_
  refine gf_133 dX3_fillGains_4 rfl ob_1 rfl ?_
  refine g_iload_n 1 dX3_fillGains_7 rfl rfl ?_
  obtain ⟨j1, e2, hf⟩ := bnd_some hf
  refine p_aald dX3_fillGains_8 rt_43 e2 (fun hj1 => ?_)
  refine g_astore_n dX3_fillGains_9 rfl (Nat.le_of_ble_eq_true rfl) rfl ?_
  refine g_aload_n 1 dX3_fillGains_10 rfl rfl ?_
  refine gf_236 dX3_fillGains_11 rfl ob_159 rfl ?_
  refine g_iload_n 2 dX3_fillGains_14 rfl rfl ?_
  obtain ⟨q3, e4, hf⟩ := bnd_some hf
  refine p_callVv (As := [.int a1]) (rest := []) (t_X0_choose e4) cw_708 w_561 w_562 ob_154 rfl (Nat.le_of_ble_eq_true rfl) rfl rfl (Nat.le_of_ble_eq_true rfl) dX3_fillGains_15 ?_
  refine g_iconst (v := 0) dX3_fillGains_18 rfl ?_
  refine g_istore dX3_fillGains_19 (Nat.le_of_ble_eq_true rfl) rfl ?_
  refine g_sub [2, 4, 1, 0] rfl ?_
  obtain ⟨o24, e25, hf⟩ := bnd_some hf
  refine t_X3_fillGains_L21 (V := V) a2 j1 ha2 hj1 fU (0 : Int32) q3 _ e25 ?_
  cases hf
  exact g_vret dX3_fillGains_88 rfl

abbrev k_X3_tryRow (fd : Nat) : kX := (cX3_tryRow, "WhoseHourItIs$Plan", "tryRow", none, 7, 1 + fd)
def f_X3_tryRow_L74 (self : Int32 → Int32 → Int32 → mM → Option (mM)) (b1 : Int32) (b2 : Int32) (b3 : Int32) (b4 : Int32) : Nat → Int32 → mM → Option (mM)
  | 0, _, _ => none
  | n + 1, b5, m =>
      if (28 : Int32) ≤ b5 then (
      some m)
      else (
      bnd (f_X0_runBits b5 b4 m) fun q11 =>
      bnd (ckR 3 b1) fun j13 =>
      bnd (rdA (162 + j13) 28 b5 m) fun v15 =>
      if v15 ≤ 0 then (
      f_X3_tryRow_L74 self b1 b2 b3 b4 n (b5 + (1 : Int32)) m)
      else (
      if (b2 &&& q11) = 0 then (
      bnd (wrA 165 3 b1 b5 m) fun m17 =>
      bnd (ckR 3 b1) fun j19 =>
      bnd (rdA (162 + j19) 28 b5 m17) fun v21 =>
      bnd (self (b1 + (1 : Int32)) (b2 ||| q11) (b3 + v21) m17) fun q23 =>
      f_X3_tryRow_L74 self b1 b2 b3 b4 n (b5 + (1 : Int32)) q23)
      else (
      f_X3_tryRow_L74 self b1 b2 b3 b4 n (b5 + (1 : Int32)) m)))
def f_X3_tryRow : Nat → Int32 → Int32 → Int32 → mM → Option (mM)
  | 0, _, _, _, _ => none
  | fd + 1, a1, a2, a3, m =>
      if a1 < (m 159 2) then (
      bnd (wrA 165 3 a1 (-9 : Int32) m) fun m1 =>
      bnd (f_X3_tryRow fd (a1 + (1 : Int32)) a2 a3 m1) fun q3 =>
      bnd (rdA 160 3 a1 q3) fun v5 =>
      bnd (ckR 6 v5) fun j7 =>
      bnd (rdA (44 + j7) 6 (2 : Int32) q3) fun v9 =>
      bnd (f_X3_tryRow_L74 (f_X3_tryRow fd) a1 a2 a3 v9 fU (0 : Int32) q3) fun o28 =>
      some o28)
      else (
      if a3 ≤ (m 159 7) then (
      some m)
      else (
      bnd (some (m_up m 159 7 a3)) fun m30 =>
      bnd (some (m_cpy m30 165 166 3)) fun m32 =>
      some m32))
set_option maxRecDepth 100000 in
theorem t_X3_tryRow_L74 {V : eV} (fd : Nat) (ihR : ∀ (a1 : Int32) (a2 : Int32) (a3 : Int32) (m : mM) (q : mM), f_X3_tryRow fd a1 a2 a3 m = some q → eE V (1 + fd) yX3_tryRow cX3_tryRow 7 (none) [.ref (vB V + 159), .int a1, .int a2, .int a3] (hS m) none (hS q)) (b1 : Int32) (b2 : Int32) (b3 : Int32) (b4 : Int32) {r : Option Value} {h' : aH} : ∀ (n : Nat) (b5 : Int32) (m : mM) (o : mM), f_X3_tryRow_L74 (f_X3_tryRow fd) b1 b2 b3 b4 n b5 m = some o → gG V (k_X3_tryRow (fd + 1)) 145 [] [] (hS o) r h' → gG V (k_X3_tryRow (fd + 1)) 74 [(0, .ref (vB V + 159)), (1, .int b1), (2, .int b2), (3, .int b3), (4, .int b4), (5, .int b5)] [] (hS m) r h' := by
  intro n
  induction n with
  | zero => intro b5 m o hf; cases hf
  | succ n ih =>
    intro b5 m o hf hk
    rw [f_X3_tryRow_L74] at hf
    refine g_iload 5 dX3_tryRow_74 rfl ?_
    refine g_bipush (v := 28) dX3_tryRow_76 rfl ?_
    refine g_icmp_ge (tgt := 145) dX3_tryRow_78 (by decide) (fun c27 => ?_) (fun c27 => ?_)
    · replace hf := (if_pos c27).symm.trans hf
      cases hf
      refine g_sub [] rfl ?_
      exact hk
    · replace hf := (if_neg c27).symm.trans hf
      refine g_iload 5 dX3_tryRow_81 rfl ?_
      refine g_iload 4 dX3_tryRow_83 rfl ?_
      obtain ⟨q11, e12, hf⟩ := bnd_some hf
      refine p_callS (As := [.int b5, .int b4]) (rest := []) (t_X0_runBits e12) cw_715 w_603 (by show 0 + 1 ≤ 1 + (fd + 1); omega) rfl rfl (Nat.le_of_ble_eq_true rfl) dX3_tryRow_85 ?_
      refine g_istore dX3_tryRow_88 (Nat.le_of_ble_eq_true rfl) rfl ?_
      refine g_aload_n 1 dX3_tryRow_90 rfl rfl ?_
      refine gf_239 dX3_tryRow_91 rfl ob_159 rfl ?_
      refine g_iload_n 2 dX3_tryRow_94 rfl rfl ?_
      obtain ⟨j13, e14, hf⟩ := bnd_some hf
      refine p_aald dX3_tryRow_95 rt_161 e14 (fun hj13 => ?_)
      refine g_iload 6 dX3_tryRow_96 rfl ?_
      obtain ⟨v15, e16, hf⟩ := bnd_some hf
      refine p_iald dX3_tryRow_98 (ar_162 hj13) e16 ?_
      refine g_if_le (tgt := 139) dX3_tryRow_99 (by decide) (fun c26 => ?_) (fun c26 => ?_)
      · replace hf := (if_pos c26).symm.trans hf
        refine g_iinc (q := 6) (v := (b5 + (1 : Int32))) dX3_tryRow_139 rfl rfl (Nat.le_of_ble_eq_true rfl) rfl ?_
        refine g_goto (tgt := 74) dX3_tryRow_142 (by decide) ?_
        refine g_sub [2, 3, 4, 5, 6, 0] rfl ?_
        exact ih (b5 + (1 : Int32)) m _ hf hk
      · replace hf := (if_neg c26).symm.trans hf
        refine g_iload_n 3 dX3_tryRow_102 rfl rfl ?_
        refine g_iload 0 dX3_tryRow_103 rfl ?_
        refine g_iand dX3_tryRow_105 ?_
        refine g_if_ne (tgt := 139) dX3_tryRow_106 (by decide) (fun c25 => ?_) (fun c25 => ?_)
        · replace hf := (if_neg c25).symm.trans hf
          refine g_iinc (q := 6) (v := (b5 + (1 : Int32))) dX3_tryRow_139 rfl rfl (Nat.le_of_ble_eq_true rfl) rfl ?_
          refine g_goto (tgt := 74) dX3_tryRow_142 (by decide) ?_
          refine g_sub [2, 3, 4, 5, 6, 0] rfl ?_
          exact ih (b5 + (1 : Int32)) m _ hf hk
        · replace hf := (if_pos c25).symm.trans hf
          refine g_aload_n 1 dX3_tryRow_109 rfl rfl ?_
          refine gf_240 dX3_tryRow_110 rfl ob_159 rfl ?_
          refine g_iload_n 2 dX3_tryRow_113 rfl rfl ?_
          refine g_iload 6 dX3_tryRow_114 rfl ?_
          obtain ⟨m17, e18, hf⟩ := bnd_some hf
          refine p_iast dX3_tryRow_116 at_165 e18 ?_
          refine g_aload_n 1 dX3_tryRow_117 rfl rfl ?_
          refine g_iload_n 2 dX3_tryRow_118 rfl rfl ?_
          refine g_iconst (v := 1) dX3_tryRow_119 rfl ?_
          refine g_iadd dX3_tryRow_120 ?_
          refine g_iload_n 3 dX3_tryRow_121 rfl rfl ?_
          refine g_iload 0 dX3_tryRow_122 rfl ?_
          refine g_ior dX3_tryRow_124 ?_
          refine g_iload_n 4 dX3_tryRow_125 rfl rfl ?_
          refine g_aload_n 1 dX3_tryRow_126 rfl rfl ?_
          refine gf_239 dX3_tryRow_127 rfl ob_159 rfl ?_
          refine g_iload_n 2 dX3_tryRow_130 rfl rfl ?_
          obtain ⟨j19, e20, hf⟩ := bnd_some hf
          refine p_aald dX3_tryRow_131 rt_161 e20 (fun hj19 => ?_)
          refine g_iload 6 dX3_tryRow_132 rfl ?_
          obtain ⟨v21, e22, hf⟩ := bnd_some hf
          refine p_iald dX3_tryRow_134 (ar_162 hj19) e22 ?_
          refine g_iadd dX3_tryRow_135 ?_
          obtain ⟨q23, e24, hf⟩ := bnd_some hf
          refine p_callVv (As := [.int (b1 + (1 : Int32)), .int (b2 ||| q11), .int (b3 + v21)]) (rest := []) (ihR (b1 + (1 : Int32)) (b2 ||| q11) (b3 + v21) m17 _ e24) cw_710 w_712 w_14 ob_159 rfl (Nat.le_refl _) rfl rfl (Nat.le_of_ble_eq_true rfl) dX3_tryRow_136 ?_
          refine g_iinc (q := 6) (v := (b5 + (1 : Int32))) dX3_tryRow_139 rfl rfl (Nat.le_of_ble_eq_true rfl) rfl ?_
          refine g_goto (tgt := 74) dX3_tryRow_142 (by decide) ?_
          refine g_sub [2, 3, 4, 5, 6, 0] rfl ?_
          exact ih (b5 + (1 : Int32)) q23 _ hf hk

set_option maxRecDepth 100000 in
theorem t_X3_tryRow {V : eV} : ∀ (fd : Nat) (a1 : Int32) (a2 : Int32) (a3 : Int32) (m : mM) (q : mM), f_X3_tryRow fd a1 a2 a3 m = some q → eE V (1 + fd) yX3_tryRow cX3_tryRow 7 (none) [.ref (vB V + 159), .int a1, .int a2, .int a3] (hS m) none (hS q) := by
  intro fd
  induction fd with
  | zero => intro a1 a2 a3 m q hf; cases hf
  | succ fd ih =>
  intro a1 a2 a3 m q hf
  refine eE_of (by decide) (Nat.le_of_ble_eq_true rfl) ?_
  show gG V (k_X3_tryRow (fd + 1)) 0 [(0, .ref (vB V + 159)), (1, .int a1), (2, .int a2), (3, .int a3)] [] (hS m) _ _
  rw [f_X3_tryRow] at hf
  refine g_iload_n 1 dX3_tryRow_0 rfl rfl ?_
  refine g_aload_n 0 dX3_tryRow_1 rfl rfl ?_
  refine gf_237 dX3_tryRow_2 rfl ob_159 rfl ?_
  refine g_icmp_lt (tgt := 36) dX3_tryRow_5 (by decide) (fun c35 => ?_) (fun c35 => ?_)
  · replace hf := (if_pos c35).symm.trans hf
    refine g_aload_n 0 dX3_tryRow_36 rfl rfl ?_
    refine gf_240 dX3_tryRow_37 rfl ob_159 rfl ?_
    refine g_iload_n 1 dX3_tryRow_40 rfl rfl ?_
    refine g_bipush (v := -9) dX3_tryRow_41 rfl ?_
    obtain ⟨m1, e2, hf⟩ := bnd_some hf
    refine p_iast dX3_tryRow_43 at_165 e2 ?_
    refine g_aload_n 0 dX3_tryRow_44 rfl rfl ?_
    refine g_iload_n 1 dX3_tryRow_45 rfl rfl ?_
    refine g_iconst (v := 1) dX3_tryRow_46 rfl ?_
    refine g_iadd dX3_tryRow_47 ?_
    refine g_iload_n 2 dX3_tryRow_48 rfl rfl ?_
    refine g_iload_n 3 dX3_tryRow_49 rfl rfl ?_
    obtain ⟨q3, e4, hf⟩ := bnd_some hf
    refine p_callVv (As := [.int (a1 + (1 : Int32)), .int a2, .int a3]) (rest := []) (ih (a1 + (1 : Int32)) a2 a3 m1 _ e4) cw_710 w_712 w_14 ob_159 rfl (Nat.le_refl _) rfl rfl (Nat.le_of_ble_eq_true rfl) dX3_tryRow_50 ?_
    refine g_aload_n 0 dX3_tryRow_53 rfl rfl ?_
    refine gf_235 dX3_tryRow_54 rfl ob_159 rfl ?_
    refine gf_133 dX3_tryRow_57 rfl ob_1 rfl ?_
    refine g_aload_n 0 dX3_tryRow_60 rfl rfl ?_
    refine gf_238 dX3_tryRow_61 rfl ob_159 rfl ?_
    refine g_iload_n 1 dX3_tryRow_64 rfl rfl ?_
    obtain ⟨v5, e6, hf⟩ := bnd_some hf
    refine p_iald dX3_tryRow_65 at_160 e6 ?_
    obtain ⟨j7, e8, hf⟩ := bnd_some hf
    refine p_aald dX3_tryRow_66 rt_43 e8 (fun hj7 => ?_)
    refine g_iconst (v := 2) dX3_tryRow_67 rfl ?_
    obtain ⟨v9, e10, hf⟩ := bnd_some hf
    refine p_iald dX3_tryRow_68 (ar_44 hj7) e10 ?_
    refine g_istore dX3_tryRow_69 (Nat.le_of_ble_eq_true rfl) rfl ?_
    refine g_iconst (v := 0) dX3_tryRow_71 rfl ?_
    refine g_istore dX3_tryRow_72 (Nat.le_of_ble_eq_true rfl) rfl ?_
    refine g_sub [2, 3, 4, 5, 1, 0] rfl ?_
    obtain ⟨o28, e29, hf⟩ := bnd_some hf
    refine t_X3_tryRow_L74 (V := V) fd ih a1 a2 a3 v9 fU (0 : Int32) q3 _ e29 ?_
    cases hf
    exact g_vret dX3_tryRow_145 rfl
  · replace hf := (if_neg c35).symm.trans hf
    refine g_iload_n 3 dX3_tryRow_8 rfl rfl ?_
    refine g_aload_n 0 dX3_tryRow_9 rfl rfl ?_
    refine gf_242 dX3_tryRow_10 rfl ob_159 rfl ?_
    refine g_icmp_le (tgt := 35) dX3_tryRow_13 (by decide) (fun c34 => ?_) (fun c34 => ?_)
    · replace hf := (if_pos c34).symm.trans hf
      cases hf
      exact g_vret dX3_tryRow_35 rfl
    · replace hf := (if_neg c34).symm.trans hf
      refine g_aload_n 0 dX3_tryRow_16 rfl rfl ?_
      refine g_iload_n 3 dX3_tryRow_17 rfl rfl ?_
      obtain ⟨m30, e31, hf⟩ := bnd_some hf
      cases e31
      refine pf_242 dX3_tryRow_18 rfl ob_159 rfl ?_
      generalize m_up m 159 7 a3 = m30 at hf ⊢
      refine g_aload_n 0 dX3_tryRow_21 rfl rfl ?_
      refine gf_240 dX3_tryRow_22 rfl ob_159 rfl ?_
      refine g_iconst (v := 0) dX3_tryRow_25 rfl ?_
      refine g_aload_n 0 dX3_tryRow_26 rfl rfl ?_
      refine gf_241 dX3_tryRow_27 rfl ob_159 rfl ?_
      refine g_iconst (v := 0) dX3_tryRow_30 rfl ?_
      refine g_iconst (v := 3) dX3_tryRow_31 rfl ?_
      obtain ⟨m32, e33, hf⟩ := bnd_some hf
      cases e33
      refine p_copy (N := 3) w_714 w_505 w_504 w_73 dX3_tryRow_32 (by show 1 ≤ 1 + (fd + 1); omega) at_165 at_166 (by decide) rfl (by decide) (by decide) (Nat.le_of_ble_eq_true rfl) ?_
      generalize m_cpy m30 165 166 3 = m32 at hf ⊢
      cases hf
      exact g_vret dX3_tryRow_35 rfl

abbrev k_X3_make : kX := (cX3_make, "WhoseHourItIs$Plan", "make", none, 2, 14)
def f_X3_make_L7 : Nat → Int32 → mM → Option (mM)
  | 0, _, _ => none
  | n + 1, b1, m =>
      if (m 1 1) ≤ b1 then (
      some m)
      else (
      if (3 : Int32) ≤ (m 159 2) then (
      some m)
      else (
      bnd (ckR 6 b1) fun j3 =>
      bnd (rdA (44 + j3) 6 (1 : Int32) m) fun v5 =>
      if v5 = 0 then (
      bnd (wrA 160 3 (m 159 2) b1 m) fun m7 =>
      bnd (ckR 3 (m7 159 2)) fun j9 =>
      bnd (f_X3_fillGains b1 j9 m7) fun q11 =>
      bnd (some (m_up q11 159 2 ((q11 159 2) + (1 : Int32)))) fun m13 =>
      f_X3_make_L7 n (b1 + (1 : Int32)) m13)
      else (
      f_X3_make_L7 n (b1 + (1 : Int32)) m)))
def f_X3_make  (m : mM) : Option (mM) :=
bnd (some (m_up m 159 2 (0 : Int32))) fun m1 =>
bnd (f_X3_make_L7 fU (0 : Int32) m1) fun o18 =>
bnd (some (m_up o18 159 7 (-1 : Int32))) fun m20 =>
bnd (f_X3_tryRow fR (0 : Int32) (0 : Int32) (0 : Int32) m20) fun q22 =>
some q22
set_option maxRecDepth 100000 in
theorem t_X3_make_L7 {V : eV} {r : Option Value} {h' : aH} : ∀ (n : Nat) (b1 : Int32) (m : mM) (o : mM), f_X3_make_L7 n b1 m = some o → gG V k_X3_make 80 [(0, .ref (vB V + 159))] [] (hS o) r h' → gG V k_X3_make 7 [(0, .ref (vB V + 159)), (1, .int b1)] [] (hS m) r h' := by
  intro n
  induction n with
  | zero => intro b1 m o hf; cases hf
  | succ n ih =>
    intro b1 m o hf hk
    rw [f_X3_make_L7] at hf
    refine g_iload_n 1 dX3_make_7 rfl rfl ?_
    refine g_aload_n 0 dX3_make_8 rfl rfl ?_
    refine gf_235 dX3_make_9 rfl ob_159 rfl ?_
    refine gf_98 dX3_make_12 rfl ob_1 rfl ?_
    refine g_icmp_ge (tgt := 80) dX3_make_15 (by decide) (fun c17 => ?_) (fun c17 => ?_)
    · replace hf := (if_pos c17).symm.trans hf
      cases hf
      refine g_sub [0] rfl ?_
      exact hk
    · replace hf := (if_neg c17).symm.trans hf
      refine g_aload_n 0 dX3_make_18 rfl rfl ?_
      refine gf_237 dX3_make_19 rfl ob_159 rfl ?_
      refine g_iconst (v := 3) dX3_make_22 rfl ?_
      refine g_icmp_ge (tgt := 80) dX3_make_23 (by decide) (fun c16 => ?_) (fun c16 => ?_)
      · replace hf := (if_pos c16).symm.trans hf
        cases hf
        refine g_sub [0] rfl ?_
        exact hk
      · replace hf := (if_neg c16).symm.trans hf
        refine g_aload_n 0 dX3_make_26 rfl rfl ?_
        refine gf_235 dX3_make_27 rfl ob_159 rfl ?_
        refine gf_133 dX3_make_30 rfl ob_1 rfl ?_
        refine g_iload_n 1 dX3_make_33 rfl rfl ?_
        obtain ⟨j3, e4, hf⟩ := bnd_some hf
        refine p_aald dX3_make_34 rt_43 e4 (fun hj3 => ?_)
        refine g_iconst (v := 1) dX3_make_35 rfl ?_
        obtain ⟨v5, e6, hf⟩ := bnd_some hf
        refine p_iald dX3_make_36 (ar_44 hj3) e6 ?_
        refine g_if_ne (tgt := 74) dX3_make_37 (by decide) (fun c15 => ?_) (fun c15 => ?_)
        · replace hf := (if_neg c15).symm.trans hf
          refine g_iinc (q := 1) (v := (b1 + (1 : Int32))) dX3_make_74 rfl rfl (Nat.le_of_ble_eq_true rfl) rfl ?_
          refine g_goto (tgt := 7) dX3_make_77 (by decide) ?_
          refine g_sub [1, 0] rfl ?_
          exact ih (b1 + (1 : Int32)) m _ hf hk
        · replace hf := (if_pos c15).symm.trans hf
          refine g_aload_n 0 dX3_make_40 rfl rfl ?_
          refine gf_238 dX3_make_41 rfl ob_159 rfl ?_
          refine g_aload_n 0 dX3_make_44 rfl rfl ?_
          refine gf_237 dX3_make_45 rfl ob_159 rfl ?_
          refine g_iload_n 1 dX3_make_48 rfl rfl ?_
          obtain ⟨m7, e8, hf⟩ := bnd_some hf
          refine p_iast dX3_make_49 at_160 e8 ?_
          refine g_aload_n 0 dX3_make_50 rfl rfl ?_
          refine g_iload_n 1 dX3_make_51 rfl rfl ?_
          refine g_aload_n 0 dX3_make_52 rfl rfl ?_
          refine gf_239 dX3_make_53 rfl ob_159 rfl ?_
          refine g_aload_n 0 dX3_make_56 rfl rfl ?_
          refine gf_237 dX3_make_57 rfl ob_159 rfl ?_
          obtain ⟨j9, e10, hf⟩ := bnd_some hf
          refine p_aald dX3_make_60 rt_161 e10 (fun hj9 => ?_)
          obtain ⟨q11, e12, hf⟩ := bnd_some hf
          refine p_callVv (As := [.int b1, .ref (vB V + (162 + j9))]) (rest := []) (t_X3_fillGains hj9 e12) cw_704 w_706 w_13 ob_159 rfl (Nat.le_of_ble_eq_true rfl) rfl rfl (Nat.le_of_ble_eq_true rfl) dX3_make_61 ?_
          refine g_aload_n 0 dX3_make_64 rfl rfl ?_
          refine g_dup dX3_make_65 rfl ?_
          refine gf_237 dX3_make_66 rfl ob_159 rfl ?_
          refine g_iconst (v := 1) dX3_make_69 rfl ?_
          refine g_iadd dX3_make_70 ?_
          obtain ⟨m13, e14, hf⟩ := bnd_some hf
          cases e14
          refine pf_237 dX3_make_71 rfl ob_159 rfl ?_
          generalize m_up q11 159 2 ((q11 159 2) + (1 : Int32)) = m13 at hf ⊢
          refine g_iinc (q := 1) (v := (b1 + (1 : Int32))) dX3_make_74 rfl rfl (Nat.le_of_ble_eq_true rfl) rfl ?_
          refine g_goto (tgt := 7) dX3_make_77 (by decide) ?_
          refine g_sub [1, 0] rfl ?_
          exact ih (b1 + (1 : Int32)) m13 _ hf hk

set_option maxRecDepth 100000 in
theorem t_X3_make {V : eV}  {m : mM} {q : mM} (hf : f_X3_make  m = some q) : eE V 14 yX3_make cX3_make 2 (none) [.ref (vB V + 159)] (hS m) none (hS q) := by
  refine eE_of (by decide) (Nat.le_of_ble_eq_true rfl) ?_
  show gG V k_X3_make 0 [(0, .ref (vB V + 159))] [] (hS m) _ _
  unfold f_X3_make at hf
  refine g_aload_n 0 dX3_make_0 rfl rfl ?_
  refine g_iconst (v := 0) dX3_make_1 rfl ?_
  obtain ⟨m1, e2, hf⟩ := bnd_some hf
  cases e2
  refine pf_237 dX3_make_2 rfl ob_159 rfl ?_
  generalize m_up m 159 2 (0 : Int32) = m1 at hf ⊢
  refine g_iconst (v := 0) dX3_make_5 rfl ?_
  refine g_istore_n dX3_make_6 rfl (Nat.le_of_ble_eq_true rfl) rfl ?_
  refine g_sub [1, 0] rfl ?_
  obtain ⟨o18, e19, hf⟩ := bnd_some hf
  refine t_X3_make_L7 (V := V) fU (0 : Int32) m1 _ e19 ?_
  refine g_aload_n 0 dX3_make_80 rfl rfl ?_
  refine g_iconst (v := -1) dX3_make_81 rfl ?_
  obtain ⟨m20, e21, hf⟩ := bnd_some hf
  cases e21
  refine pf_242 dX3_make_82 rfl ob_159 rfl ?_
  generalize m_up o18 159 7 (-1 : Int32) = m20 at hf ⊢
  refine g_aload_n 0 dX3_make_85 rfl rfl ?_
  refine g_iconst (v := 0) dX3_make_86 rfl ?_
  refine g_iconst (v := 0) dX3_make_87 rfl ?_
  refine g_iconst (v := 0) dX3_make_88 rfl ?_
  obtain ⟨q22, e23, hf⟩ := bnd_some hf
  refine p_callVv (As := [.int (0 : Int32), .int (0 : Int32), .int (0 : Int32)]) (rest := []) (t_X3_tryRow fR (0 : Int32) (0 : Int32) (0 : Int32) m20 _ e23) cw_710 w_712 w_14 ob_159 rfl (Nat.le_of_ble_eq_true rfl) rfl rfl (Nat.le_of_ble_eq_true rfl) dX3_make_89 ?_
  cases hf
  exact g_vret dX3_make_92 rfl

abbrev k_X8_all : kX := (cX8_all, "WhoseHourItIs", "all", some .int, 1, 15)
def f_X8_all  (m : mM) : Option (Int32 × mM) :=
bnd (f_X7_rowWorks m) fun q1 =>
if q1 ≤ (3 : Int32) then (
bnd (f_X3_make m) fun q3 =>
some ((q3 159 7), q3))
else (
bnd (f_X8_refuse (-6 : Int32) m) fun q5 =>
some (q5.1, q5.2))
set_option maxRecDepth 100000 in
theorem t_X8_all {V : eV}  {m : mM} {q : Int32 × mM} (hf : f_X8_all  m = some q) : eE V 15 yX8_all cX8_all 1 (some .int) [.ref (vB V + 0)] (hS m) (some (.int q.1)) (hS q.2) := by
  refine eE_of (by decide) (Nat.le_of_ble_eq_true rfl) ?_
  show gG V k_X8_all 0 [(0, .ref (vB V + 0))] [] (hS m) _ _
  unfold f_X8_all at hf
  refine g_aload_n 0 dX8_all_0 rfl rfl ?_
  refine gf_314 dX8_all_1 rfl ob_0 rfl ?_
  obtain ⟨q1, e2, hf⟩ := bnd_some hf
  refine p_callV (As := []) (rest := []) (t_X7_rowWorks e2) cw_696 w_697 w_698 ob_1 rfl (Nat.le_of_ble_eq_true rfl) rfl rfl (Nat.le_of_ble_eq_true rfl) dX8_all_4 ?_
  refine g_iconst (v := 3) dX8_all_7 rfl ?_
  refine g_icmp_le (tgt := 18) dX8_all_8 (by decide) (fun c7 => ?_) (fun c7 => ?_)
  · replace hf := (if_pos c7).symm.trans hf
    refine g_aload_n 0 dX8_all_18 rfl rfl ?_
    refine gf_321 dX8_all_19 rfl ob_0 rfl ?_
    obtain ⟨q3, e4, hf⟩ := bnd_some hf
    refine p_callVv (As := []) (rest := []) (t_X3_make e4) cw_700 w_701 w_702 ob_159 rfl (Nat.le_of_ble_eq_true rfl) rfl rfl (Nat.le_of_ble_eq_true rfl) dX8_all_22 ?_
    refine g_aload_n 0 dX8_all_25 rfl rfl ?_
    refine gf_321 dX8_all_26 rfl ob_0 rfl ?_
    refine gf_243 dX8_all_29 rfl ob_159 rfl ?_
    cases hf
    exact g_iret dX8_all_32 .int rfl rfl
  · replace hf := (if_neg c7).symm.trans hf
    refine g_aload_n 0 dX8_all_11 rfl rfl ?_
    refine g_bipush (v := -6) dX8_all_12 rfl ?_
    obtain ⟨q5, e6, hf⟩ := bnd_some hf
    refine p_callV (As := [.int (-6 : Int32)]) (rest := []) (t_X8_refuse e6) cw_355 w_357 w_0 ob_0 rfl (Nat.le_of_ble_eq_true rfl) rfl rfl (Nat.le_of_ble_eq_true rfl) dX8_all_14 ?_
    cases hf
    exact g_iret dX8_all_17 .int rfl rfl

abbrev k_X3_beginOf : kX := (cX3_beginOf, "WhoseHourItIs$Plan", "beginOf", some .int, 3, 0)
def f_X3_beginOf_L2 (b1 : Int32) (m : mM) : Nat → Int32 → Option ((Int32) ⊕ (Unit))
  | 0, _ => none
  | n + 1, b2 =>
      if (m 159 2) ≤ b2 then (
      some (.inr ()))
      else (
      bnd (rdA 160 3 b2 m) fun v1 =>
      if v1 = b1 then (
      bnd (rdA 166 3 b2 m) fun v3 =>
      some (.inl v3))
      else (
      f_X3_beginOf_L2 b1 m n (b2 + (1 : Int32))))
def f_X3_beginOf (a1 : Int32) (m : mM) : Option (Int32) :=
bnd (f_X3_beginOf_L2 a1 m fU (0 : Int32)) fun o7 =>
ora o7 (fun zq => some zq) fun x8 =>
some (-9 : Int32)
set_option maxRecDepth 100000 in
theorem t_X3_beginOf_L2 {V : eV} (b1 : Int32) (m : mM) {r : Option Value} {h' : aH} : ∀ (n : Nat) (b2 : Int32) (o : (Int32) ⊕ (Unit)), f_X3_beginOf_L2 b1 m n b2 = some o → lxP (hS m) o r h' (fun x => gG V k_X3_beginOf 33 [] [] (hS m) r h') → gG V k_X3_beginOf 2 [(0, .ref (vB V + 159)), (1, .int b1), (2, .int b2)] [] (hS m) r h' := by
  intro n
  induction n with
  | zero => intro b2 o hf; cases hf
  | succ n ih =>
    intro b2 o hf hk
    rw [f_X3_beginOf_L2] at hf
    refine g_iload_n 2 dX3_beginOf_2 rfl rfl ?_
    refine g_aload_n 0 dX3_beginOf_3 rfl rfl ?_
    refine gf_237 dX3_beginOf_4 rfl ob_159 rfl ?_
    refine g_icmp_ge (tgt := 33) dX3_beginOf_7 (by decide) (fun c6 => ?_) (fun c6 => ?_)
    · replace hf := (if_pos c6).symm.trans hf
      cases hf
      refine g_sub [] rfl ?_
      exact hk
    · replace hf := (if_neg c6).symm.trans hf
      refine g_aload_n 0 dX3_beginOf_10 rfl rfl ?_
      refine gf_238 dX3_beginOf_11 rfl ob_159 rfl ?_
      refine g_iload_n 2 dX3_beginOf_14 rfl rfl ?_
      obtain ⟨v1, e2, hf⟩ := bnd_some hf
      refine p_iald dX3_beginOf_15 at_160 e2 ?_
      refine g_iload_n 1 dX3_beginOf_16 rfl rfl ?_
      refine g_icmp_ne (tgt := 27) dX3_beginOf_17 (by decide) (fun c5 => ?_) (fun c5 => ?_)
      · replace hf := (if_neg c5).symm.trans hf
        refine g_iinc (q := 2) (v := (b2 + (1 : Int32))) dX3_beginOf_27 rfl rfl (Nat.le_of_ble_eq_true rfl) rfl ?_
        refine g_goto (tgt := 2) dX3_beginOf_30 (by decide) ?_
        refine g_sub [1, 2, 0] rfl ?_
        exact ih (b2 + (1 : Int32)) _ hf hk
      · replace hf := (if_pos c5).symm.trans hf
        refine g_aload_n 0 dX3_beginOf_20 rfl rfl ?_
        refine gf_241 dX3_beginOf_21 rfl ob_159 rfl ?_
        refine g_iload_n 2 dX3_beginOf_24 rfl rfl ?_
        obtain ⟨v3, e4, hf⟩ := bnd_some hf
        refine p_iald dX3_beginOf_25 at_166 e4 ?_
        cases hf
        obtain ⟨rfl, rfl⟩ := hk
        exact g_iret dX3_beginOf_26 .int rfl rfl

set_option maxRecDepth 100000 in
theorem t_X3_beginOf {V : eV} {a1 : Int32}  {m : mM} {q : Int32} (hf : f_X3_beginOf a1 m = some q) : eE V 0 yX3_beginOf cX3_beginOf 3 (some .int) [.ref (vB V + 159), .int a1] (hS m) (some (.int q)) (hS m) := by
  refine eE_of (by decide) (Nat.le_of_ble_eq_true rfl) ?_
  show gG V k_X3_beginOf 0 [(0, .ref (vB V + 159)), (1, .int a1)] [] (hS m) _ _
  unfold f_X3_beginOf at hf
  refine g_iconst (v := 0) dX3_beginOf_0 rfl ?_
  refine g_istore_n dX3_beginOf_1 rfl (Nat.le_of_ble_eq_true rfl) rfl ?_
  refine g_sub [1, 2, 0] rfl ?_
  obtain ⟨o7, e9, hf⟩ := bnd_some hf
  refine t_X3_beginOf_L2 (V := V) a1 m fU (0 : Int32) _ e9 ?_
  rcases o7 with zq | x8
  · replace hf := ora_l hf
    cases hf
    exact ⟨rfl, rfl⟩
  · replace hf := ora_r hf
    show gG V _ _ _ _ _ _ _
    refine g_bipush (v := -9) dX3_beginOf_33 rfl ?_
    cases hf
    exact g_iret dX3_beginOf_35 .int rfl rfl

abbrev k_X8_begin : kX := (cX8_begin, "WhoseHourItIs", "begin", some .int, 2, 15)
def f_X8_begin (a1 : Int32) (m : mM) : Option (Int32 × mM) :=
bnd (f_X7_hasWork_1 a1 m) fun q1 =>
if q1 = 0 then (
bnd (f_X8_refuse (-1 : Int32) m) fun q3 =>
some (q3.1, q3.2))
else (
bnd (f_X7_rowWorks m) fun q5 =>
if q5 ≤ (3 : Int32) then (
bnd (f_X3_make m) fun q7 =>
bnd (f_X3_beginOf a1 q7) fun q9 =>
some (q9, q7))
else (
bnd (f_X8_refuse (-6 : Int32) m) fun q11 =>
some (q11.1, q11.2)))
set_option maxRecDepth 100000 in
theorem t_X8_begin {V : eV} {a1 : Int32}  {m : mM} {q : Int32 × mM} (hf : f_X8_begin a1 m = some q) : eE V 15 yX8_begin cX8_begin 2 (some .int) [.ref (vB V + 0), .int a1] (hS m) (some (.int q.1)) (hS q.2) := by
  refine eE_of (by decide) (Nat.le_of_ble_eq_true rfl) ?_
  show gG V k_X8_begin 0 [(0, .ref (vB V + 0)), (1, .int a1)] [] (hS m) _ _
  unfold f_X8_begin at hf
  refine g_aload_n 0 dX8_begin_0 rfl rfl ?_
  refine gf_314 dX8_begin_1 rfl ob_0 rfl ?_
  refine g_iload_n 1 dX8_begin_4 rfl rfl ?_
  obtain ⟨q1, e2, hf⟩ := bnd_some hf
  refine p_callV (As := [.int a1]) (rest := []) (t_X7_hasWork_1 e2) cw_623 w_624 w_625 ob_1 rfl (Nat.le_of_ble_eq_true rfl) rfl rfl (Nat.le_of_ble_eq_true rfl) dX8_begin_5 ?_
  refine g_if_ne (tgt := 17) dX8_begin_8 (by decide) (fun c14 => ?_) (fun c14 => ?_)
  · replace hf := (if_neg c14).symm.trans hf
    refine g_aload_n 0 dX8_begin_17 rfl rfl ?_
    refine gf_314 dX8_begin_18 rfl ob_0 rfl ?_
    obtain ⟨q5, e6, hf⟩ := bnd_some hf
    refine p_callV (As := []) (rest := []) (t_X7_rowWorks e6) cw_696 w_697 w_698 ob_1 rfl (Nat.le_of_ble_eq_true rfl) rfl rfl (Nat.le_of_ble_eq_true rfl) dX8_begin_21 ?_
    refine g_iconst (v := 3) dX8_begin_24 rfl ?_
    refine g_icmp_le (tgt := 35) dX8_begin_25 (by decide) (fun c13 => ?_) (fun c13 => ?_)
    · replace hf := (if_pos c13).symm.trans hf
      refine g_aload_n 0 dX8_begin_35 rfl rfl ?_
      refine gf_321 dX8_begin_36 rfl ob_0 rfl ?_
      obtain ⟨q7, e8, hf⟩ := bnd_some hf
      refine p_callVv (As := []) (rest := []) (t_X3_make e8) cw_700 w_701 w_702 ob_159 rfl (Nat.le_of_ble_eq_true rfl) rfl rfl (Nat.le_of_ble_eq_true rfl) dX8_begin_39 ?_
      refine g_aload_n 0 dX8_begin_42 rfl rfl ?_
      refine gf_321 dX8_begin_43 rfl ob_0 rfl ?_
      refine g_iload_n 1 dX8_begin_46 rfl rfl ?_
      obtain ⟨q9, e10, hf⟩ := bnd_some hf
      refine p_callV (As := [.int a1]) (rest := []) (t_X3_beginOf e10) cw_720 w_721 w_722 ob_159 rfl (Nat.le_of_ble_eq_true rfl) rfl rfl (Nat.le_of_ble_eq_true rfl) dX8_begin_47 ?_
      cases hf
      exact g_iret dX8_begin_50 .int rfl rfl
    · replace hf := (if_neg c13).symm.trans hf
      refine g_aload_n 0 dX8_begin_28 rfl rfl ?_
      refine g_bipush (v := -6) dX8_begin_29 rfl ?_
      obtain ⟨q11, e12, hf⟩ := bnd_some hf
      refine p_callV (As := [.int (-6 : Int32)]) (rest := []) (t_X8_refuse e12) cw_355 w_357 w_0 ob_0 rfl (Nat.le_of_ble_eq_true rfl) rfl rfl (Nat.le_of_ble_eq_true rfl) dX8_begin_31 ?_
      cases hf
      exact g_iret dX8_begin_34 .int rfl rfl
  · replace hf := (if_pos c14).symm.trans hf
    refine g_aload_n 0 dX8_begin_11 rfl rfl ?_
    refine g_iconst (v := -1) dX8_begin_12 rfl ?_
    obtain ⟨q3, e4, hf⟩ := bnd_some hf
    refine p_callV (As := [.int (-1 : Int32)]) (rest := []) (t_X8_refuse e4) cw_355 w_357 w_0 ob_0 rfl (Nat.le_of_ble_eq_true rfl) rfl rfl (Nat.le_of_ble_eq_true rfl) dX8_begin_13 ?_
    cases hf
    exact g_iret dX8_begin_16 .int rfl rfl

abbrev k_X1_bestPrice : kX := (cX1_bestPrice, "WhoseHourItIs$Market", "bestPrice", some .int, 8, 5)
def f_X1_bestPrice_L37 (b1 : Int32) (b2 : Nat) (b3 : Int32) : Nat → Int32 → Int32 → Int32 → mM → Option (Int32 × mM)
  | 0, _, _, _, _ => none
  | n + 1, b4, b5, b6, m =>
      if (9 : Int32) < b6 then (
      some (b4, m))
      else (
      bnd (wrA (3 + b2) 3 (1 : Int32) b6 m) fun m7 =>
      bnd (f_X1_earned b1 m7) fun q9 =>
      if q9.1 ≤ b5 then (
      f_X1_bestPrice_L37 b1 b2 b3 n b4 b5 (b6 + (1 : Int32)) q9.2)
      else (
      f_X1_bestPrice_L37 b1 b2 b3 n b6 q9.1 (b6 + (1 : Int32)) q9.2))
def f_X1_bestPrice (a1 : Int32) (m : mM) : Option (Int32 × mM) :=
bnd (rdA 11 8 a1 m) fun v1 =>
if v1 = 0 then (
some ((0 : Int32), m))
else (
bnd (ckR 8 a1) fun j3 =>
bnd (rdA (3 + j3) 3 (1 : Int32) m) fun v5 =>
bnd (f_X1_bestPrice_L37 a1 j3 v5 fU (0 : Int32) (-1 : Int32) (0 : Int32) m) fun o13 =>
bnd (wrA (3 + j3) 3 (1 : Int32) v5 o13.2) fun m15 =>
some (o13.1, m15))
set_option maxRecDepth 100000 in
theorem t_X1_bestPrice_L37 {V : eV} (b1 : Int32) (b2 : Nat) (b3 : Int32) (hb2 : b2 < 8) {r : Option Value} {h' : aH} : ∀ (n : Nat) (b4 : Int32) (b5 : Int32) (b6 : Int32) (m : mM) (o : Int32 × mM), f_X1_bestPrice_L37 b1 b2 b3 n b4 b5 b6 m = some o → gG V k_X1_bestPrice 77 [(2, .ref (vB V + (3 + b2))), (3, .int b3), (4, .int o.1)] [] (hS o.2) r h' → gG V k_X1_bestPrice 37 [(0, .ref (vB V + 157)), (1, .int b1), (2, .ref (vB V + (3 + b2))), (3, .int b3), (4, .int b4), (5, .int b5), (6, .int b6)] [] (hS m) r h' := by
  intro n
  induction n with
  | zero => intro b4 b5 b6 m o hf; cases hf
  | succ n ih =>
    intro b4 b5 b6 m o hf hk
    rw [f_X1_bestPrice_L37] at hf
    refine g_iload 6 dX1_bestPrice_37 rfl ?_
    refine g_bipush (v := 9) dX1_bestPrice_39 rfl ?_
    refine g_icmp_gt (tgt := 77) dX1_bestPrice_41 (by decide) (fun c12 => ?_) (fun c12 => ?_)
    · replace hf := (if_pos c12).symm.trans hf
      cases hf
      refine g_sub [2, 3, 4] rfl ?_
      exact hk
    · replace hf := (if_neg c12).symm.trans hf
      refine g_aload_n 2 dX1_bestPrice_44 rfl rfl ?_
      refine g_iconst (v := 1) dX1_bestPrice_45 rfl ?_
      refine g_iload 6 dX1_bestPrice_46 rfl ?_
      obtain ⟨m7, e8, hf⟩ := bnd_some hf
      refine p_iast dX1_bestPrice_48 (ar_3 hb2) e8 ?_
      refine g_aload_n 0 dX1_bestPrice_49 rfl rfl ?_
      refine g_iload_n 1 dX1_bestPrice_50 rfl rfl ?_
      obtain ⟨q9, e10, hf⟩ := bnd_some hf
      refine p_callV (As := [.int b1]) (rest := []) (t_X1_earned e10) cw_732 w_557 w_558 ob_157 rfl (Nat.le_of_ble_eq_true rfl) rfl rfl (Nat.le_of_ble_eq_true rfl) dX1_bestPrice_51 ?_
      refine g_istore dX1_bestPrice_54 (Nat.le_of_ble_eq_true rfl) rfl ?_
      refine g_iload 0 dX1_bestPrice_56 rfl ?_
      refine g_iload 6 dX1_bestPrice_58 rfl ?_
      refine g_icmp_le (tgt := 71) dX1_bestPrice_60 (by decide) (fun c11 => ?_) (fun c11 => ?_)
      · replace hf := (if_pos c11).symm.trans hf
        refine g_iinc (q := 7) (v := (b6 + (1 : Int32))) dX1_bestPrice_71 rfl rfl (Nat.le_of_ble_eq_true rfl) rfl ?_
        refine g_goto (tgt := 37) dX1_bestPrice_74 (by decide) ?_
        refine g_sub [2, 3, 4, 5, 6, 7, 0] rfl ?_
        exact ih b4 b5 (b6 + (1 : Int32)) q9.2 _ hf hk
      · replace hf := (if_neg c11).symm.trans hf
        refine g_iload 0 dX1_bestPrice_63 rfl ?_
        refine g_istore dX1_bestPrice_65 (Nat.le_of_ble_eq_true rfl) rfl ?_
        refine g_iload 7 dX1_bestPrice_67 rfl ?_
        refine g_istore dX1_bestPrice_69 (Nat.le_of_ble_eq_true rfl) rfl ?_
        refine g_iinc (q := 7) (v := (b6 + (1 : Int32))) dX1_bestPrice_71 rfl rfl (Nat.le_of_ble_eq_true rfl) rfl ?_
        refine g_goto (tgt := 37) dX1_bestPrice_74 (by decide) ?_
        refine g_sub [4, 5, 6, 7, 1, 2, 0] rfl ?_
        exact ih b6 q9.1 (b6 + (1 : Int32)) q9.2 _ hf hk

set_option maxRecDepth 100000 in
theorem t_X1_bestPrice {V : eV} {a1 : Int32}  {m : mM} {q : Int32 × mM} (hf : f_X1_bestPrice a1 m = some q) : eE V 5 yX1_bestPrice cX1_bestPrice 8 (some .int) [.ref (vB V + 157), .int a1] (hS m) (some (.int q.1)) (hS q.2) := by
  refine eE_of (by decide) (Nat.le_of_ble_eq_true rfl) ?_
  show gG V k_X1_bestPrice 0 [(0, .ref (vB V + 157)), (1, .int a1)] [] (hS m) _ _
  unfold f_X1_bestPrice at hf
  refine g_aload_n 0 dX1_bestPrice_0 rfl rfl ?_
  refine gf_218 dX1_bestPrice_1 rfl ob_157 rfl ?_
  refine gf_116 dX1_bestPrice_4 rfl ob_1 rfl ?_
  refine g_iload_n 1 dX1_bestPrice_7 rfl rfl ?_
  obtain ⟨v1, e2, hf⟩ := bnd_some hf
  refine p_iald dX1_bestPrice_8 at_11 e2 ?_
  refine g_if_ne (tgt := 14) dX1_bestPrice_9 (by decide) (fun c17 => ?_) (fun c17 => ?_)
  · replace hf := (if_neg c17).symm.trans hf
    refine g_aload_n 0 dX1_bestPrice_14 rfl rfl ?_
    refine gf_218 dX1_bestPrice_15 rfl ob_157 rfl ?_
    refine gf_113 dX1_bestPrice_18 rfl ob_1 rfl ?_
    refine g_iload_n 1 dX1_bestPrice_21 rfl rfl ?_
    obtain ⟨j3, e4, hf⟩ := bnd_some hf
    refine p_aald dX1_bestPrice_22 rt_2 e4 (fun hj3 => ?_)
    refine g_astore_n dX1_bestPrice_23 rfl (Nat.le_of_ble_eq_true rfl) rfl ?_
    refine g_aload_n 0 dX1_bestPrice_24 rfl rfl ?_
    refine g_iconst (v := 1) dX1_bestPrice_25 rfl ?_
    obtain ⟨v5, e6, hf⟩ := bnd_some hf
    refine p_iald dX1_bestPrice_26 (ar_3 hj3) e6 ?_
    refine g_istore_n dX1_bestPrice_27 rfl (Nat.le_of_ble_eq_true rfl) rfl ?_
    refine g_iconst (v := 0) dX1_bestPrice_28 rfl ?_
    refine g_istore dX1_bestPrice_29 (Nat.le_of_ble_eq_true rfl) rfl ?_
    refine g_iconst (v := -1) dX1_bestPrice_31 rfl ?_
    refine g_istore dX1_bestPrice_32 (Nat.le_of_ble_eq_true rfl) rfl ?_
    refine g_iconst (v := 0) dX1_bestPrice_34 rfl ?_
    refine g_istore dX1_bestPrice_35 (Nat.le_of_ble_eq_true rfl) rfl ?_
    refine g_sub [5, 6, 4, 3, 2, 1, 0] rfl ?_
    obtain ⟨o13, e14, hf⟩ := bnd_some hf
    refine t_X1_bestPrice_L37 (V := V) a1 j3 v5 hj3 fU (0 : Int32) (-1 : Int32) (0 : Int32) m _ e14 ?_
    refine g_aload_n 0 dX1_bestPrice_77 rfl rfl ?_
    refine g_iconst (v := 1) dX1_bestPrice_78 rfl ?_
    refine g_iload_n 1 dX1_bestPrice_79 rfl rfl ?_
    obtain ⟨m15, e16, hf⟩ := bnd_some hf
    refine p_iast dX1_bestPrice_80 (ar_3 hj3) e16 ?_
    refine g_iload 2 dX1_bestPrice_81 rfl ?_
    cases hf
    exact g_iret dX1_bestPrice_83 .int rfl rfl
  · replace hf := (if_pos c17).symm.trans hf
    refine g_iconst (v := 0) dX1_bestPrice_12 rfl ?_
    cases hf
    exact g_iret dX1_bestPrice_13 .int rfl rfl

abbrev k_X8_ask : kX := (cX8_ask, "WhoseHourItIs", "ask", some .int, 2, 6)
def f_X8_ask (a1 : Int32) (m : mM) : Option (Int32 × mM) :=
bnd (f_X7_hasHolder_1 a1 m) fun q1 =>
if q1 = 0 then (
bnd (f_X8_refuse (-1 : Int32) m) fun q3 =>
some (q3.1, q3.2))
else (
bnd (f_X1_bestPrice a1 m) fun q5 =>
some (q5.1, q5.2))
set_option maxRecDepth 100000 in
theorem t_X8_ask {V : eV} {a1 : Int32}  {m : mM} {q : Int32 × mM} (hf : f_X8_ask a1 m = some q) : eE V 6 yX8_ask cX8_ask 2 (some .int) [.ref (vB V + 0), .int a1] (hS m) (some (.int q.1)) (hS q.2) := by
  refine eE_of (by decide) (Nat.le_of_ble_eq_true rfl) ?_
  show gG V k_X8_ask 0 [(0, .ref (vB V + 0)), (1, .int a1)] [] (hS m) _ _
  unfold f_X8_ask at hf
  refine g_aload_n 0 dX8_ask_0 rfl rfl ?_
  refine gf_314 dX8_ask_1 rfl ob_0 rfl ?_
  refine g_iload_n 1 dX8_ask_4 rfl rfl ?_
  obtain ⟨q1, e2, hf⟩ := bnd_some hf
  refine p_callV (As := [.int a1]) (rest := []) (t_X7_hasHolder_1 e2) cw_549 w_523 w_524 ob_1 rfl (Nat.le_of_ble_eq_true rfl) rfl rfl (Nat.le_of_ble_eq_true rfl) dX8_ask_5 ?_
  refine g_if_eq (tgt := 22) dX8_ask_8 (by decide) (fun c7 => ?_) (fun c7 => ?_)
  · replace hf := (if_pos c7).symm.trans hf
    refine g_aload_n 0 dX8_ask_22 rfl rfl ?_
    refine g_iconst (v := -1) dX8_ask_23 rfl ?_
    obtain ⟨q3, e4, hf⟩ := bnd_some hf
    refine p_callV (As := [.int (-1 : Int32)]) (rest := []) (t_X8_refuse e4) cw_355 w_357 w_0 ob_0 rfl (Nat.le_of_ble_eq_true rfl) rfl rfl (Nat.le_of_ble_eq_true rfl) dX8_ask_24 ?_
    cases hf
    exact g_iret dX8_ask_27 .int rfl rfl
  · replace hf := (if_neg c7).symm.trans hf
    refine g_aload_n 0 dX8_ask_11 rfl rfl ?_
    refine gf_320 dX8_ask_12 rfl ob_0 rfl ?_
    refine g_iload_n 1 dX8_ask_15 rfl rfl ?_
    obtain ⟨q5, e6, hf⟩ := bnd_some hf
    refine p_callV (As := [.int a1]) (rest := []) (t_X1_bestPrice e6) cw_728 w_729 w_730 ob_157 rfl (Nat.le_of_ble_eq_true rfl) rfl rfl (Nat.le_of_ble_eq_true rfl) dX8_ask_16 ?_
    refine g_goto (tgt := 27) dX8_ask_19 (by decide) ?_
    cases hf
    exact g_iret dX8_ask_27 .int rfl rfl

