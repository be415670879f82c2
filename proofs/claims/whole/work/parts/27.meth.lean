/-! printed by wip/whole/gen_meth.py: plain functions of the methods, and that the bytecode does as they say -/
abbrev k_X9_price : kX := (cX9_price, "WhoseHourItIsModel", "price", some .int, 4, 2)
def f_X9_price_J19 (b1 : Int32) (b2 : Int32) (s0 : Int32) (m : mM) : Option (Int32 × mM) :=
if s0 = 0 then (
bnd (f_X9_becomes (((121 : Int32) + ((4 : Int32) * b1)) + (1 : Int32)) b2 m) fun q3 =>
some (q3.1, q3.2))
else (
bnd (f_X9_refuse s0 m) fun q5 =>
some (q5.1, q5.2))
def f_X9_price (a1 : Int32) (a2 : Int32) (m : mM) : Option (Int32 × mM) :=
bnd (f_X9_isHolder a1 m) fun q1 =>
if q1 = 0 then (
f_X9_price_J19 a1 a2 (-1 : Int32) m)
else (
bnd (f_X9_within a2 (0 : Int32) (9 : Int32) m) fun q8 =>
f_X9_price_J19 a1 a2 q8 m)
set_option maxRecDepth 100000 in
theorem t_X9_price_J19 {V : eV} {b1 : Int32} {b2 : Int32} {s0 : Int32} {m : mM} {q : Int32 × mM} (hf : f_X9_price_J19 b1 b2 s0 m = some q) : gG V k_X9_price 19 [(0, .ref (vB V + 187)), (1, .int b1), (2, .int b2)] [.int s0] (hS m) (some (.int q.1)) (hS q.2) := by
  unfold f_X9_price_J19 at hf
  refine g_istore_n dX9_price_19 rfl (Nat.le_of_ble_eq_true rfl) rfl ?_
  refine g_iload_n 0 dX9_price_20 rfl rfl ?_
  refine g_if_eq (tgt := 32) dX9_price_21 (by decide) (fun c7 => ?_) (fun c7 => ?_)
  · replace hf := (if_pos c7).symm.trans hf
    refine g_aload_n 1 dX9_price_32 rfl rfl ?_
    refine g_bipush (v := 121) dX9_price_33 rfl ?_
    refine g_iconst (v := 4) dX9_price_35 rfl ?_
    refine g_iload_n 2 dX9_price_36 rfl rfl ?_
    refine g_imul dX9_price_37 ?_
    refine g_iadd dX9_price_38 ?_
    refine g_iconst (v := 1) dX9_price_39 rfl ?_
    refine g_iadd dX9_price_40 ?_
    refine g_iload_n 3 dX9_price_41 rfl rfl ?_
    obtain ⟨q3, e4, hf⟩ := bnd_some hf
    refine p_callV (As := [.int (((121 : Int32) + ((4 : Int32) * b1)) + (1 : Int32)), .int b2]) (rest := []) (t_X9_becomes e4) cw_1131 w_1133 w_44 ob_187 rfl (Nat.le_of_ble_eq_true rfl) rfl rfl (Nat.le_of_ble_eq_true rfl) dX9_price_42 ?_
    cases hf
    exact g_iret dX9_price_45 .int rfl rfl
  · replace hf := (if_neg c7).symm.trans hf
    refine g_aload_n 1 dX9_price_24 rfl rfl ?_
    refine g_iload_n 0 dX9_price_25 rfl rfl ?_
    obtain ⟨q5, e6, hf⟩ := bnd_some hf
    refine p_callV (As := [.int s0]) (rest := []) (t_X9_refuse e6) cw_1000 w_1002 w_22 ob_187 rfl (Nat.le_of_ble_eq_true rfl) rfl rfl (Nat.le_of_ble_eq_true rfl) dX9_price_26 ?_
    refine g_goto (tgt := 45) dX9_price_29 (by decide) ?_
    cases hf
    exact g_iret dX9_price_45 .int rfl rfl

set_option maxRecDepth 100000 in
theorem t_X9_price {V : eV} {a1 : Int32} {a2 : Int32}  {m : mM} {q : Int32 × mM} (hf : f_X9_price a1 a2 m = some q) : eE V 2 yX9_price cX9_price 4 (some .int) [.ref (vB V + 187), .int a1, .int a2] (hS m) (some (.int q.1)) (hS q.2) := by
  refine eE_of (by decide) (Nat.le_of_ble_eq_true rfl) ?_
  show gG V k_X9_price 0 [(0, .ref (vB V + 187)), (1, .int a1), (2, .int a2)] [] (hS m) _ _
  unfold f_X9_price at hf
  refine g_aload_n 0 dX9_price_0 rfl rfl ?_
  refine g_iload_n 1 dX9_price_1 rfl rfl ?_
  obtain ⟨q1, e2, hf⟩ := bnd_some hf
  refine p_callV (As := [.int a1]) (rest := []) (t_X9_isHolder e2) cw_1053 w_1055 w_30 ob_187 rfl (Nat.le_of_ble_eq_true rfl) rfl rfl (Nat.le_of_ble_eq_true rfl) dX9_price_2 ?_
  refine g_if_eq (tgt := 18) dX9_price_5 (by decide) (fun c10 => ?_) (fun c10 => ?_)
  · replace hf := (if_pos c10).symm.trans hf
    refine g_iconst (v := -1) dX9_price_18 rfl ?_
    refine g_sub [0, 1, 2] rfl ?_
    exact t_X9_price_J19 hf
  · replace hf := (if_neg c10).symm.trans hf
    refine g_iload_n 2 dX9_price_8 rfl rfl ?_
    refine g_iconst (v := 0) dX9_price_9 rfl ?_
    refine g_bipush (v := 9) dX9_price_10 rfl ?_
    obtain ⟨q8, e9, hf⟩ := bnd_some hf
    refine p_callS (As := [.int a2, .int (0 : Int32), .int (9 : Int32)]) (rest := []) (t_X9_within e9) cw_1128 w_1129 (Nat.le_of_ble_eq_true rfl) rfl rfl (Nat.le_of_ble_eq_true rfl) dX9_price_12 ?_
    refine g_goto (tgt := 19) dX9_price_15 (by decide) ?_
    refine g_sub [0, 1, 2] rfl ?_
    exact t_X9_price_J19 hf

abbrev k_X9_strike : kX := (cX9_strike, "WhoseHourItIsModel", "strike", some .int, 2, 1)
def f_X9_strike (a1 : Int32) (m : mM) : Option (Int32 × mM) :=
bnd (rdA 189 189 (0 : Int32) m) fun v1 =>
bnd (f_X9_isIn a1 ((1 : Int32) <<< (v1 &&& 31)) m) fun q3 =>
if q3 = 0 then (
bnd (f_X9_refuse (-1 : Int32) m) fun q5 =>
some (q5.1, q5.2))
else (
bnd (f_X9_becomes (2 : Int32) a1 m) fun q7 =>
some (q7.1, q7.2))
set_option maxRecDepth 100000 in
theorem t_X9_strike {V : eV} {a1 : Int32}  {m : mM} {q : Int32 × mM} (hf : f_X9_strike a1 m = some q) : eE V 1 yX9_strike cX9_strike 2 (some .int) [.ref (vB V + 187), .int a1] (hS m) (some (.int q.1)) (hS q.2) := by
  refine eE_of (by decide) (Nat.le_of_ble_eq_true rfl) ?_
  show gG V k_X9_strike 0 [(0, .ref (vB V + 187)), (1, .int a1)] [] (hS m) _ _
  unfold f_X9_strike at hf
  refine g_iload_n 1 dX9_strike_0 rfl rfl ?_
  refine g_iconst (v := 1) dX9_strike_1 rfl ?_
  refine g_aload_n 0 dX9_strike_2 rfl rfl ?_
  refine gf_930 dX9_strike_3 rfl ob_187 rfl ?_
  refine g_iconst (v := 0) dX9_strike_6 rfl ?_
  obtain ⟨v1, e2, hf⟩ := bnd_some hf
  refine p_iald dX9_strike_7 at_189 e2 ?_
  refine g_ishl dX9_strike_8 ?_
  obtain ⟨q3, e4, hf⟩ := bnd_some hf
  refine p_callS (As := [.int a1, .int ((1 : Int32) <<< (v1 &&& 31))]) (rest := []) (t_X9_isIn e4) cw_1057 w_1058 (Nat.le_of_ble_eq_true rfl) rfl rfl (Nat.le_of_ble_eq_true rfl) dX9_strike_9 ?_
  refine g_if_eq (tgt := 24) dX9_strike_12 (by decide) (fun c9 => ?_) (fun c9 => ?_)
  · replace hf := (if_pos c9).symm.trans hf
    refine g_aload_n 0 dX9_strike_24 rfl rfl ?_
    refine g_iconst (v := -1) dX9_strike_25 rfl ?_
    obtain ⟨q5, e6, hf⟩ := bnd_some hf
    refine p_callV (As := [.int (-1 : Int32)]) (rest := []) (t_X9_refuse e6) cw_1000 w_1002 w_22 ob_187 rfl (Nat.le_of_ble_eq_true rfl) rfl rfl (Nat.le_of_ble_eq_true rfl) dX9_strike_26 ?_
    cases hf
    exact g_iret dX9_strike_29 .int rfl rfl
  · replace hf := (if_neg c9).symm.trans hf
    refine g_aload_n 0 dX9_strike_15 rfl rfl ?_
    refine g_iconst (v := 2) dX9_strike_16 rfl ?_
    refine g_iload_n 1 dX9_strike_17 rfl rfl ?_
    obtain ⟨q7, e8, hf⟩ := bnd_some hf
    refine p_callV (As := [.int (2 : Int32), .int a1]) (rest := []) (t_X9_becomes e8) cw_1131 w_1133 w_44 ob_187 rfl (Nat.le_of_ble_eq_true rfl) rfl rfl (Nat.le_of_ble_eq_true rfl) dX9_strike_18 ?_
    refine g_goto (tgt := 29) dX9_strike_21 (by decide) ?_
    cases hf
    exact g_iret dX9_strike_29 .int rfl rfl

abbrev k_X9_bell : kX := (cX9_bell, "WhoseHourItIsModel", "bell", some .int, 4, 2)
def f_X9_bell_J23 (b1 : Int32) (b2 : Int32) (s0 : Int32) (m : mM) : Option (Int32 × mM) :=
if s0 = 0 then (
bnd (wrA 189 189 (4 : Int32) b2 m) fun m3 =>
if 0 ≤ b1 then (
bnd (f_X9_becomes (3 : Int32) b1 m3) fun q5 =>
some (q5.1, q5.2))
else (
bnd (f_X9_becomes (3 : Int32) (-9 : Int32) m3) fun q7 =>
some (q7.1, q7.2)))
else (
bnd (f_X9_refuse s0 m) fun q10 =>
some (q10.1, q10.2))
def f_X9_bell_J12 (b1 : Int32) (b2 : Int32) (m : mM) : Option (Int32 × mM) :=
bnd (f_X9_within b2 (0 : Int32) (9 : Int32) m) fun q1 =>
f_X9_bell_J23 b1 b2 q1 m
def f_X9_bell (a1 : Int32) (a2 : Int32) (m : mM) : Option (Int32 × mM) :=
if a1 = (-1 : Int32) then (
f_X9_bell_J12 a1 a2 m)
else (
bnd (f_X9_isHour a1 m) fun q13 =>
if q13 = 0 then (
f_X9_bell_J23 a1 a2 (-1 : Int32) m)
else (
f_X9_bell_J12 a1 a2 m))
set_option maxRecDepth 100000 in
theorem t_X9_bell_J23 {V : eV} {b1 : Int32} {b2 : Int32} {s0 : Int32} {m : mM} {q : Int32 × mM} (hf : f_X9_bell_J23 b1 b2 s0 m = some q) : gG V k_X9_bell 23 [(0, .ref (vB V + 187)), (1, .int b1), (2, .int b2)] [.int s0] (hS m) (some (.int q.1)) (hS q.2) := by
  unfold f_X9_bell_J23 at hf
  refine g_istore_n dX9_bell_23 rfl (Nat.le_of_ble_eq_true rfl) rfl ?_
  refine g_iload_n 0 dX9_bell_24 rfl rfl ?_
  refine g_if_eq (tgt := 34) dX9_bell_25 (by decide) (fun c12 => ?_) (fun c12 => ?_)
  · replace hf := (if_pos c12).symm.trans hf
    refine g_aload_n 1 dX9_bell_34 rfl rfl ?_
    refine gf_930 dX9_bell_35 rfl ob_187 rfl ?_
    refine g_iconst (v := 4) dX9_bell_38 rfl ?_
    refine g_iload_n 3 dX9_bell_39 rfl rfl ?_
    obtain ⟨m3, e4, hf⟩ := bnd_some hf
    refine p_iast dX9_bell_40 at_189 e4 ?_
    refine g_aload_n 1 dX9_bell_41 rfl rfl ?_
    refine g_iconst (v := 3) dX9_bell_42 rfl ?_
    refine g_iload_n 2 dX9_bell_43 rfl rfl ?_
    refine g_if_ge (tgt := 52) dX9_bell_44 (by decide) (fun c9 => ?_) (fun c9 => ?_)
    · replace hf := (if_pos c9).symm.trans hf
      refine g_iload_n 2 dX9_bell_52 rfl rfl ?_
      obtain ⟨q5, e6, hf⟩ := bnd_some hf
      refine p_callV (As := [.int (3 : Int32), .int b1]) (rest := []) (t_X9_becomes e6) cw_1131 w_1133 w_44 ob_187 rfl (Nat.le_of_ble_eq_true rfl) rfl rfl (Nat.le_of_ble_eq_true rfl) dX9_bell_53 ?_
      cases hf
      exact g_iret dX9_bell_56 .int rfl rfl
    · replace hf := (if_neg c9).symm.trans hf
      refine g_bipush (v := -9) dX9_bell_47 rfl ?_
      refine g_goto (tgt := 53) dX9_bell_49 (by decide) ?_
      obtain ⟨q7, e8, hf⟩ := bnd_some hf
      refine p_callV (As := [.int (3 : Int32), .int (-9 : Int32)]) (rest := []) (t_X9_becomes e8) cw_1131 w_1133 w_44 ob_187 rfl (Nat.le_of_ble_eq_true rfl) rfl rfl (Nat.le_of_ble_eq_true rfl) dX9_bell_53 ?_
      cases hf
      exact g_iret dX9_bell_56 .int rfl rfl
  · replace hf := (if_neg c12).symm.trans hf
    refine g_aload_n 1 dX9_bell_28 rfl rfl ?_
    refine g_iload_n 0 dX9_bell_29 rfl rfl ?_
    obtain ⟨q10, e11, hf⟩ := bnd_some hf
    refine p_callV (As := [.int s0]) (rest := []) (t_X9_refuse e11) cw_1000 w_1002 w_22 ob_187 rfl (Nat.le_of_ble_eq_true rfl) rfl rfl (Nat.le_of_ble_eq_true rfl) dX9_bell_30 ?_
    cases hf
    exact g_iret dX9_bell_33 .int rfl rfl

set_option maxRecDepth 100000 in
theorem t_X9_bell_J12 {V : eV} {b1 : Int32} {b2 : Int32} {m : mM} {q : Int32 × mM} (hf : f_X9_bell_J12 b1 b2 m = some q) : gG V k_X9_bell 12 [(0, .ref (vB V + 187)), (1, .int b1), (2, .int b2)] [] (hS m) (some (.int q.1)) (hS q.2) := by
  unfold f_X9_bell_J12 at hf
  refine g_iload_n 2 dX9_bell_12 rfl rfl ?_
  refine g_iconst (v := 0) dX9_bell_13 rfl ?_
  refine g_bipush (v := 9) dX9_bell_14 rfl ?_
  obtain ⟨q1, e2, hf⟩ := bnd_some hf
  refine p_callS (As := [.int b2, .int (0 : Int32), .int (9 : Int32)]) (rest := []) (t_X9_within e2) cw_1128 w_1129 (Nat.le_of_ble_eq_true rfl) rfl rfl (Nat.le_of_ble_eq_true rfl) dX9_bell_16 ?_
  refine g_goto (tgt := 23) dX9_bell_19 (by decide) ?_
  refine g_sub [0, 1, 2] rfl ?_
  exact t_X9_bell_J23 hf

set_option maxRecDepth 100000 in
theorem t_X9_bell {V : eV} {a1 : Int32} {a2 : Int32}  {m : mM} {q : Int32 × mM} (hf : f_X9_bell a1 a2 m = some q) : eE V 2 yX9_bell cX9_bell 4 (some .int) [.ref (vB V + 187), .int a1, .int a2] (hS m) (some (.int q.1)) (hS q.2) := by
  refine eE_of (by decide) (Nat.le_of_ble_eq_true rfl) ?_
  show gG V k_X9_bell 0 [(0, .ref (vB V + 187)), (1, .int a1), (2, .int a2)] [] (hS m) _ _
  unfold f_X9_bell at hf
  refine g_iload_n 1 dX9_bell_0 rfl rfl ?_
  refine g_iconst (v := -1) dX9_bell_1 rfl ?_
  refine g_icmp_eq (tgt := 12) dX9_bell_2 (by decide) (fun c16 => ?_) (fun c16 => ?_)
  · replace hf := (if_pos c16).symm.trans hf
    refine g_sub [0, 1, 2] rfl ?_
    exact t_X9_bell_J12 hf
  · replace hf := (if_neg c16).symm.trans hf
    refine g_iload_n 1 dX9_bell_5 rfl rfl ?_
    obtain ⟨q13, e14, hf⟩ := bnd_some hf
    refine p_callS (As := [.int a1]) (rest := []) (t_X9_isHour e14) cw_1113 w_1114 (Nat.le_of_ble_eq_true rfl) rfl rfl (Nat.le_of_ble_eq_true rfl) dX9_bell_6 ?_
    refine g_if_eq (tgt := 22) dX9_bell_9 (by decide) (fun c15 => ?_) (fun c15 => ?_)
    · replace hf := (if_pos c15).symm.trans hf
      refine g_iconst (v := -1) dX9_bell_22 rfl ?_
      refine g_sub [0, 1, 2] rfl ?_
      exact t_X9_bell_J23 hf
    · replace hf := (if_neg c15).symm.trans hf
      refine g_sub [0, 1, 2] rfl ?_
      exact t_X9_bell_J12 hf

abbrev k_X9_leave : kX := (cX9_leave, "WhoseHourItIsModel", "leave", some .int, 4, 3)
def f_X9_leave (a1 : Int32) (a2 : Int32) (a3 : Int32) (m : mM) : Option (Int32 × mM) :=
bnd (f_X9_isWork a1 m) fun q1 =>
if q1 = 0 then (
bnd (f_X9_refuse (-1 : Int32) m) fun q3 =>
some (q3.1, q3.2))
else (
bnd (f_X9_isHolder a2 m) fun q5 =>
if q5 = 0 then (
bnd (f_X9_refuse (-1 : Int32) m) fun q7 =>
some (q7.1, q7.2))
else (
bnd (f_X9_isHour a3 m) fun q9 =>
if q9 = 0 then (
bnd (f_X9_refuse (-1 : Int32) m) fun q11 =>
some (q11.1, q11.2))
else (
bnd (f_X9_hasPart_189 a3 a2 m) fun q13 =>
if q13 = 0 then (
some ((0 : Int32), m))
else (
bnd (f_X9_partOf a1 a2 a3 m) fun q15 =>
some (q15, m)))))
set_option maxRecDepth 100000 in
theorem t_X9_leave {V : eV} {a1 : Int32} {a2 : Int32} {a3 : Int32}  {m : mM} {q : Int32 × mM} (hf : f_X9_leave a1 a2 a3 m = some q) : eE V 3 yX9_leave cX9_leave 4 (some .int) [.ref (vB V + 187), .int a1, .int a2, .int a3] (hS m) (some (.int q.1)) (hS q.2) := by
  refine eE_of (by decide) (Nat.le_of_ble_eq_true rfl) ?_
  show gG V k_X9_leave 0 [(0, .ref (vB V + 187)), (1, .int a1), (2, .int a2), (3, .int a3)] [] (hS m) _ _
  unfold f_X9_leave at hf
  refine g_aload_n 0 dX9_leave_0 rfl rfl ?_
  refine g_iload_n 1 dX9_leave_1 rfl rfl ?_
  obtain ⟨q1, e2, hf⟩ := bnd_some hf
  refine p_callV (As := [.int a1]) (rest := []) (t_X9_isWork e2) cw_1120 w_1122 w_43 ob_187 rfl (Nat.le_of_ble_eq_true rfl) rfl rfl (Nat.le_of_ble_eq_true rfl) dX9_leave_2 ?_
  refine g_if_eq (tgt := 23) dX9_leave_5 (by decide) (fun c20 => ?_) (fun c20 => ?_)
  · replace hf := (if_pos c20).symm.trans hf
    refine g_aload_n 0 dX9_leave_23 rfl rfl ?_
    refine g_iconst (v := -1) dX9_leave_24 rfl ?_
    obtain ⟨q3, e4, hf⟩ := bnd_some hf
    refine p_callV (As := [.int (-1 : Int32)]) (rest := []) (t_X9_refuse e4) cw_1000 w_1002 w_22 ob_187 rfl (Nat.le_of_ble_eq_true rfl) rfl rfl (Nat.le_of_ble_eq_true rfl) dX9_leave_25 ?_
    refine g_goto (tgt := 54) dX9_leave_28 (by decide) ?_
    cases hf
    exact g_iret dX9_leave_54 .int rfl rfl
  · replace hf := (if_neg c20).symm.trans hf
    refine g_aload_n 0 dX9_leave_8 rfl rfl ?_
    refine g_iload_n 2 dX9_leave_9 rfl rfl ?_
    obtain ⟨q5, e6, hf⟩ := bnd_some hf
    refine p_callV (As := [.int a2]) (rest := []) (t_X9_isHolder e6) cw_1053 w_1055 w_30 ob_187 rfl (Nat.le_of_ble_eq_true rfl) rfl rfl (Nat.le_of_ble_eq_true rfl) dX9_leave_10 ?_
    refine g_if_eq (tgt := 23) dX9_leave_13 (by decide) (fun c19 => ?_) (fun c19 => ?_)
    · replace hf := (if_pos c19).symm.trans hf
      refine g_aload_n 0 dX9_leave_23 rfl rfl ?_
      refine g_iconst (v := -1) dX9_leave_24 rfl ?_
      obtain ⟨q7, e8, hf⟩ := bnd_some hf
      refine p_callV (As := [.int (-1 : Int32)]) (rest := []) (t_X9_refuse e8) cw_1000 w_1002 w_22 ob_187 rfl (Nat.le_of_ble_eq_true rfl) rfl rfl (Nat.le_of_ble_eq_true rfl) dX9_leave_25 ?_
      refine g_goto (tgt := 54) dX9_leave_28 (by decide) ?_
      cases hf
      exact g_iret dX9_leave_54 .int rfl rfl
    · replace hf := (if_neg c19).symm.trans hf
      refine g_iload_n 3 dX9_leave_16 rfl rfl ?_
      obtain ⟨q9, e10, hf⟩ := bnd_some hf
      refine p_callS (As := [.int a3]) (rest := []) (t_X9_isHour e10) cw_1113 w_1114 (Nat.le_of_ble_eq_true rfl) rfl rfl (Nat.le_of_ble_eq_true rfl) dX9_leave_17 ?_
      refine g_if_ne (tgt := 31) dX9_leave_20 (by decide) (fun c18 => ?_) (fun c18 => ?_)
      · replace hf := (if_neg c18).symm.trans hf
        refine g_aload_n 0 dX9_leave_31 rfl rfl ?_
        refine gf_930 dX9_leave_32 rfl ob_187 rfl ?_
        refine g_iload_n 3 dX9_leave_35 rfl rfl ?_
        refine g_iload_n 2 dX9_leave_36 rfl rfl ?_
        obtain ⟨q13, e14, hf⟩ := bnd_some hf
        refine p_callS (As := [.ref (vB V + 189), .int a3, .int a2]) (rest := []) (t_X9_hasPart_189 e14) cw_1043 w_1044 (Nat.le_of_ble_eq_true rfl) rfl rfl (Nat.le_of_ble_eq_true rfl) dX9_leave_37 ?_
        refine g_if_eq (tgt := 53) dX9_leave_40 (by decide) (fun c17 => ?_) (fun c17 => ?_)
        · replace hf := (if_pos c17).symm.trans hf
          refine g_iconst (v := 0) dX9_leave_53 rfl ?_
          cases hf
          exact g_iret dX9_leave_54 .int rfl rfl
        · replace hf := (if_neg c17).symm.trans hf
          refine g_aload_n 0 dX9_leave_43 rfl rfl ?_
          refine g_iload_n 1 dX9_leave_44 rfl rfl ?_
          refine g_iload_n 2 dX9_leave_45 rfl rfl ?_
          refine g_iload_n 3 dX9_leave_46 rfl rfl ?_
          obtain ⟨q15, e16, hf⟩ := bnd_some hf
          refine p_callV (As := [.int a1, .int a2, .int a3]) (rest := []) (t_X9_partOf e16) cw_1096 w_1098 w_40 ob_187 rfl (Nat.le_of_ble_eq_true rfl) rfl rfl (Nat.le_of_ble_eq_true rfl) dX9_leave_47 ?_
          refine g_goto (tgt := 54) dX9_leave_50 (by decide) ?_
          cases hf
          exact g_iret dX9_leave_54 .int rfl rfl
      · replace hf := (if_pos c18).symm.trans hf
        refine g_aload_n 0 dX9_leave_23 rfl rfl ?_
        refine g_iconst (v := -1) dX9_leave_24 rfl ?_
        obtain ⟨q11, e12, hf⟩ := bnd_some hf
        refine p_callV (As := [.int (-1 : Int32)]) (rest := []) (t_X9_refuse e12) cw_1000 w_1002 w_22 ob_187 rfl (Nat.le_of_ble_eq_true rfl) rfl rfl (Nat.le_of_ble_eq_true rfl) dX9_leave_25 ?_
        refine g_goto (tgt := 54) dX9_leave_28 (by decide) ?_
        cases hf
        exact g_iret dX9_leave_54 .int rfl rfl

abbrev k_X9_one : kX := (cX9_one, "WhoseHourItIsModel", "one", some .int, 2, 6)
def f_X9_one (a1 : Int32) (m : mM) : Option (Int32 × mM) :=
bnd (f_X9_isWork a1 m) fun q1 =>
if q1 = 0 then (
bnd (f_X9_refuse (-1 : Int32) m) fun q3 =>
some (q3.1, q3.2))
else (
bnd (f_X9_finds a1 m) fun q5 =>
some ((q5 187 11), q5))
set_option maxRecDepth 100000 in
theorem t_X9_one {V : eV} {a1 : Int32}  {m : mM} {q : Int32 × mM} (hf : f_X9_one a1 m = some q) : eE V 6 yX9_one cX9_one 2 (some .int) [.ref (vB V + 187), .int a1] (hS m) (some (.int q.1)) (hS q.2) := by
  refine eE_of (by decide) (Nat.le_of_ble_eq_true rfl) ?_
  show gG V k_X9_one 0 [(0, .ref (vB V + 187)), (1, .int a1)] [] (hS m) _ _
  unfold f_X9_one at hf
  refine g_aload_n 0 dX9_one_0 rfl rfl ?_
  refine g_iload_n 1 dX9_one_1 rfl rfl ?_
  obtain ⟨q1, e2, hf⟩ := bnd_some hf
  refine p_callV (As := [.int a1]) (rest := []) (t_X9_isWork e2) cw_1120 w_1122 w_43 ob_187 rfl (Nat.le_of_ble_eq_true rfl) rfl rfl (Nat.le_of_ble_eq_true rfl) dX9_one_2 ?_
  refine g_if_ne (tgt := 14) dX9_one_5 (by decide) (fun c7 => ?_) (fun c7 => ?_)
  · replace hf := (if_neg c7).symm.trans hf
    refine g_aload_n 0 dX9_one_14 rfl rfl ?_
    refine g_iload_n 1 dX9_one_15 rfl rfl ?_
    obtain ⟨q5, e6, hf⟩ := bnd_some hf
    refine p_callVv (As := [.int a1]) (rest := []) (t_X9_finds e6) cw_1084 w_1086 w_37 ob_187 rfl (Nat.le_of_ble_eq_true rfl) rfl rfl (Nat.le_of_ble_eq_true rfl) dX9_one_16 ?_
    refine g_aload_n 0 dX9_one_19 rfl rfl ?_
    refine gf_940 dX9_one_20 rfl ob_187 rfl ?_
    cases hf
    exact g_iret dX9_one_23 .int rfl rfl
  · replace hf := (if_pos c7).symm.trans hf
    refine g_aload_n 0 dX9_one_8 rfl rfl ?_
    refine g_iconst (v := -1) dX9_one_9 rfl ?_
    obtain ⟨q3, e4, hf⟩ := bnd_some hf
    refine p_callV (As := [.int (-1 : Int32)]) (rest := []) (t_X9_refuse e4) cw_1000 w_1002 w_22 ob_187 rfl (Nat.le_of_ble_eq_true rfl) rfl rfl (Nat.le_of_ble_eq_true rfl) dX9_one_10 ?_
    cases hf
    exact g_iret dX9_one_13 .int rfl rfl

abbrev k_X9_cost : kX := (cX9_cost, "WhoseHourItIsModel", "cost", some .int, 2, 7)
def f_X9_cost (a1 : Int32) (m : mM) : Option (Int32 × mM) :=
bnd (f_X9_isWork a1 m) fun q1 =>
if q1 = 0 then (
bnd (f_X9_refuse (-1 : Int32) m) fun q3 =>
some (q3.1, q3.2))
else (
bnd (f_X9_costOf a1 m) fun q5 =>
some (q5.1, q5.2))
set_option maxRecDepth 100000 in
theorem t_X9_cost {V : eV} {a1 : Int32}  {m : mM} {q : Int32 × mM} (hf : f_X9_cost a1 m = some q) : eE V 7 yX9_cost cX9_cost 2 (some .int) [.ref (vB V + 187), .int a1] (hS m) (some (.int q.1)) (hS q.2) := by
  refine eE_of (by decide) (Nat.le_of_ble_eq_true rfl) ?_
  show gG V k_X9_cost 0 [(0, .ref (vB V + 187)), (1, .int a1)] [] (hS m) _ _
  unfold f_X9_cost at hf
  refine g_aload_n 0 dX9_cost_0 rfl rfl ?_
  refine g_iload_n 1 dX9_cost_1 rfl rfl ?_
  obtain ⟨q1, e2, hf⟩ := bnd_some hf
  refine p_callV (As := [.int a1]) (rest := []) (t_X9_isWork e2) cw_1120 w_1122 w_43 ob_187 rfl (Nat.le_of_ble_eq_true rfl) rfl rfl (Nat.le_of_ble_eq_true rfl) dX9_cost_2 ?_
  refine g_if_eq (tgt := 16) dX9_cost_5 (by decide) (fun c7 => ?_) (fun c7 => ?_)
  · replace hf := (if_pos c7).symm.trans hf
    refine g_aload_n 0 dX9_cost_16 rfl rfl ?_
    refine g_iconst (v := -1) dX9_cost_17 rfl ?_
    obtain ⟨q3, e4, hf⟩ := bnd_some hf
    refine p_callV (As := [.int (-1 : Int32)]) (rest := []) (t_X9_refuse e4) cw_1000 w_1002 w_22 ob_187 rfl (Nat.le_of_ble_eq_true rfl) rfl rfl (Nat.le_of_ble_eq_true rfl) dX9_cost_18 ?_
    cases hf
    exact g_iret dX9_cost_21 .int rfl rfl
  · replace hf := (if_neg c7).symm.trans hf
    refine g_aload_n 0 dX9_cost_8 rfl rfl ?_
    refine g_iload_n 1 dX9_cost_9 rfl rfl ?_
    obtain ⟨q5, e6, hf⟩ := bnd_some hf
    refine p_callV (As := [.int a1]) (rest := []) (t_X9_costOf e6) cw_1080 w_1082 w_36 ob_187 rfl (Nat.le_of_ble_eq_true rfl) rfl rfl (Nat.le_of_ble_eq_true rfl) dX9_cost_10 ?_
    refine g_goto (tgt := 21) dX9_cost_13 (by decide) ?_
    cases hf
    exact g_iret dX9_cost_21 .int rfl rfl

abbrev k_X9_net : kX := (cX9_net, "WhoseHourItIsModel", "net", some .int, 2, 9)
def f_X9_net (a1 : Int32) (m : mM) : Option (Int32 × mM) :=
bnd (f_X9_isWork a1 m) fun q1 =>
if q1 = 0 then (
bnd (f_X9_refuse (-1 : Int32) m) fun q3 =>
some (q3.1, q3.2))
else (
bnd (f_X9_netOf a1 m) fun q5 =>
some (q5.1, q5.2))
set_option maxRecDepth 100000 in
theorem t_X9_net {V : eV} {a1 : Int32}  {m : mM} {q : Int32 × mM} (hf : f_X9_net a1 m = some q) : eE V 9 yX9_net cX9_net 2 (some .int) [.ref (vB V + 187), .int a1] (hS m) (some (.int q.1)) (hS q.2) := by
  refine eE_of (by decide) (Nat.le_of_ble_eq_true rfl) ?_
  show gG V k_X9_net 0 [(0, .ref (vB V + 187)), (1, .int a1)] [] (hS m) _ _
  unfold f_X9_net at hf
  refine g_aload_n 0 dX9_net_0 rfl rfl ?_
  refine g_iload_n 1 dX9_net_1 rfl rfl ?_
  obtain ⟨q1, e2, hf⟩ := bnd_some hf
  refine p_callV (As := [.int a1]) (rest := []) (t_X9_isWork e2) cw_1120 w_1122 w_43 ob_187 rfl (Nat.le_of_ble_eq_true rfl) rfl rfl (Nat.le_of_ble_eq_true rfl) dX9_net_2 ?_
  refine g_if_eq (tgt := 16) dX9_net_5 (by decide) (fun c7 => ?_) (fun c7 => ?_)
  · replace hf := (if_pos c7).symm.trans hf
    refine g_aload_n 0 dX9_net_16 rfl rfl ?_
    refine g_iconst (v := -1) dX9_net_17 rfl ?_
    obtain ⟨q3, e4, hf⟩ := bnd_some hf
    refine p_callV (As := [.int (-1 : Int32)]) (rest := []) (t_X9_refuse e4) cw_1000 w_1002 w_22 ob_187 rfl (Nat.le_of_ble_eq_true rfl) rfl rfl (Nat.le_of_ble_eq_true rfl) dX9_net_18 ?_
    cases hf
    exact g_iret dX9_net_21 .int rfl rfl
  · replace hf := (if_neg c7).symm.trans hf
    refine g_aload_n 0 dX9_net_8 rfl rfl ?_
    refine g_iload_n 1 dX9_net_9 rfl rfl ?_
    obtain ⟨q5, e6, hf⟩ := bnd_some hf
    refine p_callV (As := [.int a1]) (rest := []) (t_X9_netOf e6) cw_1068 w_1070 w_33 ob_187 rfl (Nat.le_of_ble_eq_true rfl) rfl rfl (Nat.le_of_ble_eq_true rfl) dX9_net_10 ?_
    refine g_goto (tgt := 21) dX9_net_13 (by decide) ?_
    cases hf
    exact g_iret dX9_net_21 .int rfl rfl

abbrev k_X9_bars : kX := (cX9_bars, "WhoseHourItIsModel", "bars", some .int, 4, 7)
def f_X9_bars_L33 (b1 : Int32) : Nat → Int32 → Int32 → mM → Option (Int32 × mM)
  | 0, _, _, _ => none
  | n + 1, b2, b3, m =>
      bnd (rdA 189 189 (0 : Int32) m) fun v7 =>
      if v7 ≤ b3 then (
      some (b2, m))
      else (
      bnd (some (m_up m 187 10 b3)) fun m9 =>
      bnd (f_X9_costOf b1 m9) fun q11 =>
      if q11.1 < 0 then (
      f_X9_bars_L33 b1 n (b2 ||| (0 : Int32)) (b3 + (1 : Int32)) q11.2)
      else (
      f_X9_bars_L33 b1 n (b2 ||| ((1 : Int32) <<< (b3 &&& 31))) (b3 + (1 : Int32)) q11.2))
def f_X9_bars (a1 : Int32) (m : mM) : Option (Int32 × mM) :=
bnd (f_X9_isWork a1 m) fun q1 =>
if q1 = 0 then (
bnd (f_X9_refuse (-1 : Int32) m) fun q3 =>
some (q3.1, q3.2))
else (
bnd (f_X9_costOf a1 m) fun q5 =>
if q5.1 < 0 then (
bnd (f_X9_bars_L33 a1 fU (0 : Int32) (0 : Int32) q5.2) fun o15 =>
bnd (some (m_up o15.2 187 10 (-9 : Int32))) fun m17 =>
some (o15.1, m17))
else (
bnd (f_X9_refuse (-3 : Int32) q5.2) fun q19 =>
some (q19.1, q19.2)))
set_option maxRecDepth 100000 in
theorem t_X9_bars_L33 {V : eV} (b1 : Int32) {r : Option Value} {h' : aH} : ∀ (n : Nat) (b2 : Int32) (b3 : Int32) (m : mM) (o : Int32 × mM), f_X9_bars_L33 b1 n b2 b3 m = some o → gG V k_X9_bars 72 [(0, .ref (vB V + 187)), (2, .int o.1)] [] (hS o.2) r h' → gG V k_X9_bars 33 [(0, .ref (vB V + 187)), (1, .int b1), (2, .int b2), (3, .int b3)] [] (hS m) r h' := by
  intro n
  induction n with
  | zero => intro b2 b3 m o hf; cases hf
  | succ n ih =>
    intro b2 b3 m o hf hk
    rw [f_X9_bars_L33] at hf
    refine g_iload_n 3 dX9_bars_33 rfl rfl ?_
    refine g_aload_n 0 dX9_bars_34 rfl rfl ?_
    refine gf_930 dX9_bars_35 rfl ob_187 rfl ?_
    refine g_iconst (v := 0) dX9_bars_38 rfl ?_
    obtain ⟨v7, e8, hf⟩ := bnd_some hf
    refine p_iald dX9_bars_39 at_189 e8 ?_
    refine g_icmp_ge (tgt := 72) dX9_bars_40 (by decide) (fun c14 => ?_) (fun c14 => ?_)
    · replace hf := (if_pos c14).symm.trans hf
      cases hf
      refine g_sub [0, 2] rfl ?_
      exact hk
    · replace hf := (if_neg c14).symm.trans hf
      refine g_aload_n 0 dX9_bars_43 rfl rfl ?_
      refine g_iload_n 3 dX9_bars_44 rfl rfl ?_
      obtain ⟨m9, e10, hf⟩ := bnd_some hf
      cases e10
      refine pf_939 dX9_bars_45 rfl ob_187 rfl ?_
      generalize m_up m 187 10 b3 = m9 at hf ⊢
      refine g_iload_n 2 dX9_bars_48 rfl rfl ?_
      refine g_aload_n 0 dX9_bars_49 rfl rfl ?_
      refine g_iload_n 1 dX9_bars_50 rfl rfl ?_
      obtain ⟨q11, e12, hf⟩ := bnd_some hf
      refine p_callV (As := [.int b1]) (rest := [.int b2]) (t_X9_costOf e12) cw_1080 w_1082 w_36 ob_187 rfl (Nat.le_of_ble_eq_true rfl) rfl rfl (Nat.le_of_ble_eq_true rfl) dX9_bars_51 ?_
      refine g_if_lt (tgt := 63) dX9_bars_54 (by decide) (fun c13 => ?_) (fun c13 => ?_)
      · replace hf := (if_pos c13).symm.trans hf
        refine g_iconst (v := 0) dX9_bars_63 rfl ?_
        refine g_ior dX9_bars_64 ?_
        refine g_istore_n dX9_bars_65 rfl (Nat.le_of_ble_eq_true rfl) rfl ?_
        refine g_iinc (q := 3) (v := (b3 + (1 : Int32))) dX9_bars_66 rfl rfl (Nat.le_of_ble_eq_true rfl) rfl ?_
        refine g_goto (tgt := 33) dX9_bars_69 (by decide) ?_
        refine g_sub [2, 3, 1, 0] rfl ?_
        exact ih (b2 ||| (0 : Int32)) (b3 + (1 : Int32)) q11.2 _ hf hk
      · replace hf := (if_neg c13).symm.trans hf
        refine g_iconst (v := 1) dX9_bars_57 rfl ?_
        refine g_iload_n 3 dX9_bars_58 rfl rfl ?_
        refine g_ishl dX9_bars_59 ?_
        refine g_goto (tgt := 64) dX9_bars_60 (by decide) ?_
        refine g_ior dX9_bars_64 ?_
        refine g_istore_n dX9_bars_65 rfl (Nat.le_of_ble_eq_true rfl) rfl ?_
        refine g_iinc (q := 3) (v := (b3 + (1 : Int32))) dX9_bars_66 rfl rfl (Nat.le_of_ble_eq_true rfl) rfl ?_
        refine g_goto (tgt := 33) dX9_bars_69 (by decide) ?_
        refine g_sub [2, 3, 1, 0] rfl ?_
        exact ih (b2 ||| ((1 : Int32) <<< (b3 &&& 31))) (b3 + (1 : Int32)) q11.2 _ hf hk

set_option maxRecDepth 100000 in
theorem t_X9_bars {V : eV} {a1 : Int32}  {m : mM} {q : Int32 × mM} (hf : f_X9_bars a1 m = some q) : eE V 7 yX9_bars cX9_bars 4 (some .int) [.ref (vB V + 187), .int a1] (hS m) (some (.int q.1)) (hS q.2) := by
  refine eE_of (by decide) (Nat.le_of_ble_eq_true rfl) ?_
  show gG V k_X9_bars 0 [(0, .ref (vB V + 187)), (1, .int a1)] [] (hS m) _ _
  unfold f_X9_bars at hf
  refine g_aload_n 0 dX9_bars_0 rfl rfl ?_
  refine g_iload_n 1 dX9_bars_1 rfl rfl ?_
  obtain ⟨q1, e2, hf⟩ := bnd_some hf
  refine p_callV (As := [.int a1]) (rest := []) (t_X9_isWork e2) cw_1120 w_1122 w_43 ob_187 rfl (Nat.le_of_ble_eq_true rfl) rfl rfl (Nat.le_of_ble_eq_true rfl) dX9_bars_2 ?_
  refine g_if_ne (tgt := 14) dX9_bars_5 (by decide) (fun c22 => ?_) (fun c22 => ?_)
  · replace hf := (if_neg c22).symm.trans hf
    refine g_aload_n 0 dX9_bars_14 rfl rfl ?_
    refine g_iload_n 1 dX9_bars_15 rfl rfl ?_
    obtain ⟨q5, e6, hf⟩ := bnd_some hf
    refine p_callV (As := [.int a1]) (rest := []) (t_X9_costOf e6) cw_1080 w_1082 w_36 ob_187 rfl (Nat.le_of_ble_eq_true rfl) rfl rfl (Nat.le_of_ble_eq_true rfl) dX9_bars_16 ?_
    refine g_if_lt (tgt := 29) dX9_bars_19 (by decide) (fun c21 => ?_) (fun c21 => ?_)
    · replace hf := (if_pos c21).symm.trans hf
      refine g_iconst (v := 0) dX9_bars_29 rfl ?_
      refine g_istore_n dX9_bars_30 rfl (Nat.le_of_ble_eq_true rfl) rfl ?_
      refine g_iconst (v := 0) dX9_bars_31 rfl ?_
      refine g_istore_n dX9_bars_32 rfl (Nat.le_of_ble_eq_true rfl) rfl ?_
      refine g_sub [2, 3, 1, 0] rfl ?_
      obtain ⟨o15, e16, hf⟩ := bnd_some hf
      refine t_X9_bars_L33 (V := V) a1 fU (0 : Int32) (0 : Int32) q5.2 _ e16 ?_
      refine g_aload_n 0 dX9_bars_72 rfl rfl ?_
      refine g_bipush (v := -9) dX9_bars_73 rfl ?_
      obtain ⟨m17, e18, hf⟩ := bnd_some hf
      cases e18
      refine pf_939 dX9_bars_75 rfl ob_187 rfl ?_
      generalize m_up o15.2 187 10 (-9 : Int32) = m17 at hf ⊢
      refine g_iload_n 1 dX9_bars_78 rfl rfl ?_
      cases hf
      exact g_iret dX9_bars_79 .int rfl rfl
    · replace hf := (if_neg c21).symm.trans hf
      refine g_aload_n 0 dX9_bars_22 rfl rfl ?_
      refine g_bipush (v := -3) dX9_bars_23 rfl ?_
      obtain ⟨q19, e20, hf⟩ := bnd_some hf
      refine p_callV (As := [.int (-3 : Int32)]) (rest := []) (t_X9_refuse e20) cw_1000 w_1002 w_22 ob_187 rfl (Nat.le_of_ble_eq_true rfl) rfl rfl (Nat.le_of_ble_eq_true rfl) dX9_bars_25 ?_
      cases hf
      exact g_iret dX9_bars_28 .int rfl rfl
  · replace hf := (if_pos c22).symm.trans hf
    refine g_aload_n 0 dX9_bars_8 rfl rfl ?_
    refine g_iconst (v := -1) dX9_bars_9 rfl ?_
    obtain ⟨q3, e4, hf⟩ := bnd_some hf
    refine p_callV (As := [.int (-1 : Int32)]) (rest := []) (t_X9_refuse e4) cw_1000 w_1002 w_22 ob_187 rfl (Nat.le_of_ble_eq_true rfl) rfl rfl (Nat.le_of_ble_eq_true rfl) dX9_bars_10 ?_
    cases hf
    exact g_iret dX9_bars_13 .int rfl rfl

abbrev k_X9_areFew : kX := (cX9_areFew, "WhoseHourItIsModel", "areFew", some .boolean, 3, 1)
def f_X9_areFew_L4 (m : mM) : Nat → Int32 → Int32 → Option (Int32)
  | 0, _, _ => none
  | n + 1, b1, b2 =>
      bnd (rdA 189 189 (1 : Int32) m) fun v1 =>
      if v1 ≤ b2 then (
      some b1)
      else (
      bnd (f_X9_of b2 (1 : Int32) m) fun q3 =>
      f_X9_areFew_L4 m n (b1 + ((1 : Int32) - q3)) (b2 + (1 : Int32)))
def f_X9_areFew  (m : mM) : Option (Int32) :=
bnd (f_X9_areFew_L4 m fU (0 : Int32) (0 : Int32)) fun o6 =>
if (3 : Int32) < o6 then (
some (0 : Int32))
else (
some (1 : Int32))
set_option maxRecDepth 100000 in
theorem t_X9_areFew_L4 {V : eV} (m : mM) {r : Option Value} {h' : aH} : ∀ (n : Nat) (b1 : Int32) (b2 : Int32) (o : Int32), f_X9_areFew_L4 m n b1 b2 = some o → gG V k_X9_areFew 31 [(1, .int o)] [] (hS m) r h' → gG V k_X9_areFew 4 [(0, .ref (vB V + 187)), (1, .int b1), (2, .int b2)] [] (hS m) r h' := by
  intro n
  induction n with
  | zero => intro b1 b2 o hf; cases hf
  | succ n ih =>
    intro b1 b2 o hf hk
    rw [f_X9_areFew_L4] at hf
    refine g_iload_n 2 dX9_areFew_4 rfl rfl ?_
    refine g_aload_n 0 dX9_areFew_5 rfl rfl ?_
    refine gf_930 dX9_areFew_6 rfl ob_187 rfl ?_
    refine g_iconst (v := 1) dX9_areFew_9 rfl ?_
    obtain ⟨v1, e2, hf⟩ := bnd_some hf
    refine p_iald dX9_areFew_10 at_189 e2 ?_
    refine g_icmp_ge (tgt := 31) dX9_areFew_11 (by decide) (fun c5 => ?_) (fun c5 => ?_)
    · replace hf := (if_pos c5).symm.trans hf
      cases hf
      refine g_sub [1] rfl ?_
      exact hk
    · replace hf := (if_neg c5).symm.trans hf
      refine g_iload_n 1 dX9_areFew_14 rfl rfl ?_
      refine g_iconst (v := 1) dX9_areFew_15 rfl ?_
      refine g_aload_n 0 dX9_areFew_16 rfl rfl ?_
      refine g_iload_n 2 dX9_areFew_17 rfl rfl ?_
      refine g_iconst (v := 1) dX9_areFew_18 rfl ?_
      obtain ⟨q3, e4, hf⟩ := bnd_some hf
      refine p_callV (As := [.int b2, .int (1 : Int32)]) (rest := [.int (1 : Int32), .int b1]) (t_X9_of e4) cw_1072 w_1074 w_34 ob_187 rfl (Nat.le_of_ble_eq_true rfl) rfl rfl (Nat.le_of_ble_eq_true rfl) dX9_areFew_19 ?_
      refine g_isub dX9_areFew_22 ?_
      refine g_iadd dX9_areFew_23 ?_
      refine g_istore_n dX9_areFew_24 rfl (Nat.le_of_ble_eq_true rfl) rfl ?_
      refine g_iinc (q := 2) (v := (b2 + (1 : Int32))) dX9_areFew_25 rfl rfl (Nat.le_of_ble_eq_true rfl) rfl ?_
      refine g_goto (tgt := 4) dX9_areFew_28 (by decide) ?_
      refine g_sub [2, 1, 0] rfl ?_
      exact ih (b1 + ((1 : Int32) - q3)) (b2 + (1 : Int32)) _ hf hk

set_option maxRecDepth 100000 in
theorem t_X9_areFew {V : eV}  {m : mM} {q : Int32} (hf : f_X9_areFew  m = some q) : eE V 1 yX9_areFew cX9_areFew 3 (some .boolean) [.ref (vB V + 187)] (hS m) (some (.int q)) (hS m) := by
  refine eE_of (by decide) (Nat.le_of_ble_eq_true rfl) ?_
  show gG V k_X9_areFew 0 [(0, .ref (vB V + 187))] [] (hS m) _ _
  unfold f_X9_areFew at hf
  refine g_iconst (v := 0) dX9_areFew_0 rfl ?_
  refine g_istore_n dX9_areFew_1 rfl (Nat.le_of_ble_eq_true rfl) rfl ?_
  refine g_iconst (v := 0) dX9_areFew_2 rfl ?_
  refine g_istore_n dX9_areFew_3 rfl (Nat.le_of_ble_eq_true rfl) rfl ?_
  refine g_sub [2, 1, 0] rfl ?_
  obtain ⟨o6, e7, hf⟩ := bnd_some hf
  refine t_X9_areFew_L4 (V := V) m fU (0 : Int32) (0 : Int32) _ e7 ?_
  refine g_iload_n 0 dX9_areFew_31 rfl rfl ?_
  refine g_iconst (v := 3) dX9_areFew_32 rfl ?_
  refine g_icmp_gt (tgt := 40) dX9_areFew_33 (by decide) (fun c8 => ?_) (fun c8 => ?_)
  · replace hf := (if_pos c8).symm.trans hf
    refine g_iconst (v := 0) dX9_areFew_40 rfl ?_
    cases hf
    exact g_iret dX9_areFew_41 .boolean rfl rfl
  · replace hf := (if_neg c8).symm.trans hf
    refine g_iconst (v := 1) dX9_areFew_36 rfl ?_
    refine g_goto (tgt := 41) dX9_areFew_37 (by decide) ?_
    cases hf
    exact g_iret dX9_areFew_41 .boolean rfl rfl

abbrev k_X9_ways (fd : Nat) : kX := (cX9_ways, "WhoseHourItIsModel", "ways", none, 7, 5 + fd)
def f_X9_ways_L27 (self : Int32 → Int32 → Int32 → mM → Option (mM)) (b1 : Int32) : Nat → Int32 → mM → Option (mM)
  | 0, _, _ => none
  | n + 1, b4, m =>
      if (6 : Int32) ≤ b4 then (
      some m)
      else (
      if b1 ≤ b4 then (
      bnd (wrA 198 6 b4 (-9 : Int32) m) fun m5 =>
      f_X9_ways_L27 self b1 n (b4 + (1 : Int32)) m5)
      else (
      bnd (rdA 197 6 b4 m) fun v7 =>
      bnd (wrA 198 6 b4 v7 m) fun m9 =>
      f_X9_ways_L27 self b1 n (b4 + (1 : Int32)) m9))
def f_X9_ways_L105 (self : Int32 → Int32 → Int32 → mM → Option (mM)) (b1 : Int32) (b2 : Int32) (b3 : Int32) (b4 : Int32) : Nat → Int32 → mM → Option (mM)
  | 0, _, _ => none
  | n + 1, b5, m =>
      bnd (f_X9_of b1 (3 : Int32) m) fun q24 =>
      if q24 < ((b5 + b4) - (1 : Int32)) then (
      some m)
      else (
      if (((((1 : Int32) <<< (b4 &&& 31)) - (1 : Int32)) <<< (b5 &&& 31)) &&& b2) = 0 then (
      bnd (f_X9_rowOf b1 b5 m) fun q26 =>
      if q26 < (100000 : Int32) then (
      bnd (wrA 197 6 b1 b5 m) fun m28 =>
      bnd (f_X9_of b1 (4 : Int32) m28) fun q30 =>
      bnd (f_X9_rowOf b1 b5 m28) fun q32 =>
      bnd (self (b1 + (1 : Int32)) (b2 ||| ((((1 : Int32) <<< (b4 &&& 31)) - (1 : Int32)) <<< (b5 &&& 31))) ((b3 + q30) - q32) m28) fun q34 =>
      f_X9_ways_L105 self b1 b2 b3 b4 n (b5 + (1 : Int32)) q34)
      else (
      f_X9_ways_L105 self b1 b2 b3 b4 n (b5 + (1 : Int32)) m))
      else (
      f_X9_ways_L105 self b1 b2 b3 b4 n (b5 + (1 : Int32)) m))
def f_X9_ways : Nat → Int32 → Int32 → Int32 → mM → Option (mM)
  | 0, _, _, _, _ => none
  | fd + 1, a1, a2, a3, m =>
      bnd (rdA 189 189 (1 : Int32) m) fun v1 =>
      if a1 = v1 then (
      if (m 187 17) < a3 then (
      bnd (some (m_up m 187 17 a3)) fun m3 =>
      bnd (f_X9_ways_L27 (f_X9_ways fd) a1 fU (0 : Int32) m3) fun o13 =>
      some o13)
      else (
      some m))
      else (
      bnd (wrA 197 6 a1 (-9 : Int32) m) fun m16 =>
      bnd (f_X9_ways fd (a1 + (1 : Int32)) a2 a3 m16) fun q18 =>
      bnd (f_X9_of a1 (1 : Int32) q18) fun q20 =>
      if q20 = (1 : Int32) then (
      some q18)
      else (
      bnd (f_X9_of a1 (2 : Int32) q18) fun q22 =>
      bnd (f_X9_ways_L105 (f_X9_ways fd) a1 a2 a3 q22 fU (0 : Int32) q18) fun o39 =>
      some o39))
set_option maxRecDepth 100000 in
theorem t_X9_ways_L27 {V : eV} (fd : Nat) (ihR : ∀ (a1 : Int32) (a2 : Int32) (a3 : Int32) (m : mM) (q : mM), f_X9_ways fd a1 a2 a3 m = some q → eE V (5 + fd) yX9_ways cX9_ways 7 (none) [.ref (vB V + 187), .int a1, .int a2, .int a3] (hS m) none (hS q)) (b1 : Int32) {r : Option Value} {h' : aH} : ∀ (n : Nat) (b4 : Int32) (m : mM) (o : mM), f_X9_ways_L27 (f_X9_ways fd) b1 n b4 m = some o → gG V (k_X9_ways (fd + 1)) 65 [] [] (hS o) r h' → gG V (k_X9_ways (fd + 1)) 27 [(0, .ref (vB V + 187)), (1, .int b1), (4, .int b4)] [] (hS m) r h' := by
  intro n
  induction n with
  | zero => intro b4 m o hf; cases hf
  | succ n ih =>
    intro b4 m o hf hk
    rw [f_X9_ways_L27] at hf
    refine g_iload 2 dX9_ways_27 rfl ?_
    refine g_bipush (v := 6) dX9_ways_29 rfl ?_
    refine g_icmp_ge (tgt := 65) dX9_ways_31 (by decide) (fun c12 => ?_) (fun c12 => ?_)
    · replace hf := (if_pos c12).symm.trans hf
      cases hf
      refine g_sub [] rfl ?_
      exact hk
    · replace hf := (if_neg c12).symm.trans hf
      refine g_aload_n 0 dX9_ways_34 rfl rfl ?_
      refine gf_945 dX9_ways_35 rfl ob_187 rfl ?_
      refine g_iload 2 dX9_ways_38 rfl ?_
      refine g_iload 2 dX9_ways_40 rfl ?_
      refine g_iload_n 1 dX9_ways_42 rfl rfl ?_
      refine g_icmp_ge (tgt := 56) dX9_ways_43 (by decide) (fun c11 => ?_) (fun c11 => ?_)
      · replace hf := (if_pos c11).symm.trans hf
        refine g_bipush (v := -9) dX9_ways_56 rfl ?_
        obtain ⟨m5, e6, hf⟩ := bnd_some hf
        refine p_iast dX9_ways_58 at_198 e6 ?_
        refine g_iinc (q := 2) (v := (b4 + (1 : Int32))) dX9_ways_59 rfl rfl (Nat.le_of_ble_eq_true rfl) rfl ?_
        refine g_goto (tgt := 27) dX9_ways_62 (by decide) ?_
        refine g_sub [1, 2, 0] rfl ?_
        exact ih (b4 + (1 : Int32)) m5 _ hf hk
      · replace hf := (if_neg c11).symm.trans hf
        refine g_aload_n 0 dX9_ways_46 rfl rfl ?_
        refine gf_944 dX9_ways_47 rfl ob_187 rfl ?_
        refine g_iload 2 dX9_ways_50 rfl ?_
        obtain ⟨v7, e8, hf⟩ := bnd_some hf
        refine p_iald dX9_ways_52 at_197 e8 ?_
        refine g_goto (tgt := 58) dX9_ways_53 (by decide) ?_
        obtain ⟨m9, e10, hf⟩ := bnd_some hf
        refine p_iast dX9_ways_58 at_198 e10 ?_
        refine g_iinc (q := 2) (v := (b4 + (1 : Int32))) dX9_ways_59 rfl rfl (Nat.le_of_ble_eq_true rfl) rfl ?_
        refine g_goto (tgt := 27) dX9_ways_62 (by decide) ?_
        refine g_sub [1, 2, 0] rfl ?_
        exact ih (b4 + (1 : Int32)) m9 _ hf hk

set_option maxRecDepth 100000 in
theorem t_X9_ways_L105 {V : eV} (fd : Nat) (ihR : ∀ (a1 : Int32) (a2 : Int32) (a3 : Int32) (m : mM) (q : mM), f_X9_ways fd a1 a2 a3 m = some q → eE V (5 + fd) yX9_ways cX9_ways 7 (none) [.ref (vB V + 187), .int a1, .int a2, .int a3] (hS m) none (hS q)) (b1 : Int32) (b2 : Int32) (b3 : Int32) (b4 : Int32) {r : Option Value} {h' : aH} : ∀ (n : Nat) (b5 : Int32) (m : mM) (o : mM), f_X9_ways_L105 (f_X9_ways fd) b1 b2 b3 b4 n b5 m = some o → gG V (k_X9_ways (fd + 1)) 195 [] [] (hS o) r h' → gG V (k_X9_ways (fd + 1)) 105 [(0, .ref (vB V + 187)), (1, .int b1), (2, .int b2), (3, .int b3), (4, .int b4), (5, .int b5)] [] (hS m) r h' := by
  intro n
  induction n with
  | zero => intro b5 m o hf; cases hf
  | succ n ih =>
    intro b5 m o hf hk
    rw [f_X9_ways_L105] at hf
    refine g_iload 5 dX9_ways_105 rfl ?_
    refine g_iload 4 dX9_ways_107 rfl ?_
    refine g_iadd dX9_ways_109 ?_
    refine g_iconst (v := 1) dX9_ways_110 rfl ?_
    refine g_isub dX9_ways_111 ?_
    refine g_aload_n 0 dX9_ways_112 rfl rfl ?_
    refine g_iload_n 1 dX9_ways_113 rfl rfl ?_
    refine g_iconst (v := 3) dX9_ways_114 rfl ?_
    obtain ⟨q24, e25, hf⟩ := bnd_some hf
    refine p_callV (As := [.int b1, .int (3 : Int32)]) (rest := [.int ((b5 + b4) - (1 : Int32))]) (t_X9_of e25) cw_1072 w_1074 w_34 ob_187 rfl (by show 0 + 1 ≤ 5 + (fd + 1); omega) rfl rfl (Nat.le_of_ble_eq_true rfl) dX9_ways_115 ?_
    refine g_icmp_gt (tgt := 195) dX9_ways_118 (by decide) (fun c38 => ?_) (fun c38 => ?_)
    · replace hf := (if_pos c38).symm.trans hf
      cases hf
      refine g_sub [] rfl ?_
      exact hk
    · replace hf := (if_neg c38).symm.trans hf
      refine g_iconst (v := 1) dX9_ways_121 rfl ?_
      refine g_iload 4 dX9_ways_122 rfl ?_
      refine g_ishl dX9_ways_124 ?_
      refine g_iconst (v := 1) dX9_ways_125 rfl ?_
      refine g_isub dX9_ways_126 ?_
      refine g_iload 5 dX9_ways_127 rfl ?_
      refine g_ishl dX9_ways_129 ?_
      refine g_istore dX9_ways_130 (Nat.le_of_ble_eq_true rfl) rfl ?_
      refine g_iload 0 dX9_ways_132 rfl ?_
      refine g_iload_n 3 dX9_ways_134 rfl rfl ?_
      refine g_iand dX9_ways_135 ?_
      refine g_if_ne (tgt := 189) dX9_ways_136 (by decide) (fun c37 => ?_) (fun c37 => ?_)
      · replace hf := (if_neg c37).symm.trans hf
        refine g_iinc (q := 6) (v := (b5 + (1 : Int32))) dX9_ways_189 rfl rfl (Nat.le_of_ble_eq_true rfl) rfl ?_
        refine g_goto (tgt := 105) dX9_ways_192 (by decide) ?_
        refine g_sub [2, 3, 4, 5, 6, 0] rfl ?_
        exact ih (b5 + (1 : Int32)) m _ hf hk
      · replace hf := (if_pos c37).symm.trans hf
        refine g_aload_n 1 dX9_ways_139 rfl rfl ?_
        refine g_iload_n 2 dX9_ways_140 rfl rfl ?_
        refine g_iload 6 dX9_ways_141 rfl ?_
        obtain ⟨q26, e27, hf⟩ := bnd_some hf
        refine p_callV (As := [.int b1, .int b5]) (rest := []) (t_X9_rowOf e27) cw_1088 w_1090 w_38 ob_187 rfl (by show 4 + 1 ≤ 5 + (fd + 1); omega) rfl rfl (Nat.le_of_ble_eq_true rfl) dX9_ways_143 ?_
        refine g_ldc w_1104 dX9_ways_146 ?_
        refine g_icmp_lt (tgt := 154) dX9_ways_148 (by decide) (fun c36 => ?_) (fun c36 => ?_)
        · replace hf := (if_pos c36).symm.trans hf
          refine g_aload_n 1 dX9_ways_154 rfl rfl ?_
          refine gf_944 dX9_ways_155 rfl ob_187 rfl ?_
          refine g_iload_n 2 dX9_ways_158 rfl rfl ?_
          refine g_iload 6 dX9_ways_159 rfl ?_
          obtain ⟨m28, e29, hf⟩ := bnd_some hf
          refine p_iast dX9_ways_161 at_197 e29 ?_
          refine g_aload_n 1 dX9_ways_162 rfl rfl ?_
          refine g_iload_n 2 dX9_ways_163 rfl rfl ?_
          refine g_iconst (v := 1) dX9_ways_164 rfl ?_
          refine g_iadd dX9_ways_165 ?_
          refine g_iload_n 3 dX9_ways_166 rfl rfl ?_
          refine g_iload 0 dX9_ways_167 rfl ?_
          refine g_ior dX9_ways_169 ?_
          refine g_iload_n 4 dX9_ways_170 rfl rfl ?_
          refine g_aload_n 1 dX9_ways_171 rfl rfl ?_
          refine g_iload_n 2 dX9_ways_172 rfl rfl ?_
          refine g_iconst (v := 4) dX9_ways_173 rfl ?_
          obtain ⟨q30, e31, hf⟩ := bnd_some hf
          refine p_callV (As := [.int b1, .int (4 : Int32)]) (rest := [.int b3, .int (b2 ||| ((((1 : Int32) <<< (b4 &&& 31)) - (1 : Int32)) <<< (b5 &&& 31))), .int (b1 + (1 : Int32)), .ref (vB V + 187)]) (t_X9_of e31) cw_1072 w_1074 w_34 ob_187 rfl (by show 0 + 1 ≤ 5 + (fd + 1); omega) rfl rfl (Nat.le_of_ble_eq_true rfl) dX9_ways_174 ?_
          refine g_iadd dX9_ways_177 ?_
          refine g_aload_n 1 dX9_ways_178 rfl rfl ?_
          refine g_iload_n 2 dX9_ways_179 rfl rfl ?_
          refine g_iload 6 dX9_ways_180 rfl ?_
          obtain ⟨q32, e33, hf⟩ := bnd_some hf
          refine p_callV (As := [.int b1, .int b5]) (rest := [.int (b3 + q30), .int (b2 ||| ((((1 : Int32) <<< (b4 &&& 31)) - (1 : Int32)) <<< (b5 &&& 31))), .int (b1 + (1 : Int32)), .ref (vB V + 187)]) (t_X9_rowOf e33) cw_1088 w_1090 w_38 ob_187 rfl (by show 4 + 1 ≤ 5 + (fd + 1); omega) rfl rfl (Nat.le_of_ble_eq_true rfl) dX9_ways_182 ?_
          refine g_isub dX9_ways_185 ?_
          obtain ⟨q34, e35, hf⟩ := bnd_some hf
          refine p_callVv (As := [.int (b1 + (1 : Int32)), .int (b2 ||| ((((1 : Int32) <<< (b4 &&& 31)) - (1 : Int32)) <<< (b5 &&& 31))), .int ((b3 + q30) - q32)]) (rest := []) (ihR (b1 + (1 : Int32)) (b2 ||| ((((1 : Int32) <<< (b4 &&& 31)) - (1 : Int32)) <<< (b5 &&& 31))) ((b3 + q30) - q32) m28 _ e35) cw_1176 w_1178 w_47 ob_187 rfl (Nat.le_refl _) rfl rfl (Nat.le_of_ble_eq_true rfl) dX9_ways_186 ?_
          refine g_iinc (q := 6) (v := (b5 + (1 : Int32))) dX9_ways_189 rfl rfl (Nat.le_of_ble_eq_true rfl) rfl ?_
          refine g_goto (tgt := 105) dX9_ways_192 (by decide) ?_
          refine g_sub [2, 3, 4, 5, 6, 0] rfl ?_
          exact ih (b5 + (1 : Int32)) q34 _ hf hk
        · replace hf := (if_neg c36).symm.trans hf
          refine g_goto (tgt := 189) dX9_ways_151 (by decide) ?_
          refine g_iinc (q := 6) (v := (b5 + (1 : Int32))) dX9_ways_189 rfl rfl (Nat.le_of_ble_eq_true rfl) rfl ?_
          refine g_goto (tgt := 105) dX9_ways_192 (by decide) ?_
          refine g_sub [2, 3, 4, 5, 6, 0] rfl ?_
          exact ih (b5 + (1 : Int32)) m _ hf hk

set_option maxRecDepth 100000 in
theorem t_X9_ways {V : eV} : ∀ (fd : Nat) (a1 : Int32) (a2 : Int32) (a3 : Int32) (m : mM) (q : mM), f_X9_ways fd a1 a2 a3 m = some q → eE V (5 + fd) yX9_ways cX9_ways 7 (none) [.ref (vB V + 187), .int a1, .int a2, .int a3] (hS m) none (hS q) := by
  intro fd
  induction fd with
  | zero => intro a1 a2 a3 m q hf; cases hf
  | succ fd ih =>
  intro a1 a2 a3 m q hf
  refine eE_of (by decide) (Nat.le_of_ble_eq_true rfl) ?_
  show gG V (k_X9_ways (fd + 1)) 0 [(0, .ref (vB V + 187)), (1, .int a1), (2, .int a2), (3, .int a3)] [] (hS m) _ _
  rw [f_X9_ways] at hf
  refine g_iload_n 1 dX9_ways_0 rfl rfl ?_
  refine g_aload_n 0 dX9_ways_1 rfl rfl ?_
  refine gf_930 dX9_ways_2 rfl ob_187 rfl ?_
  refine g_iconst (v := 1) dX9_ways_5 rfl ?_
  obtain ⟨v1, e2, hf⟩ := bnd_some hf
  refine p_iald dX9_ways_6 at_189 e2 ?_
  refine g_icmp_ne (tgt := 66) dX9_ways_7 (by decide) (fun c42 => ?_) (fun c42 => ?_)
  · replace hf := (if_neg c42).symm.trans hf
    refine g_aload_n 0 dX9_ways_66 rfl rfl ?_
    refine gf_944 dX9_ways_67 rfl ob_187 rfl ?_
    refine g_iload_n 1 dX9_ways_70 rfl rfl ?_
    refine g_bipush (v := -9) dX9_ways_71 rfl ?_
    obtain ⟨m16, e17, hf⟩ := bnd_some hf
    refine p_iast dX9_ways_73 at_197 e17 ?_
    refine g_aload_n 0 dX9_ways_74 rfl rfl ?_
    refine g_iload_n 1 dX9_ways_75 rfl rfl ?_
    refine g_iconst (v := 1) dX9_ways_76 rfl ?_
    refine g_iadd dX9_ways_77 ?_
    refine g_iload_n 2 dX9_ways_78 rfl rfl ?_
    refine g_iload_n 3 dX9_ways_79 rfl rfl ?_
    obtain ⟨q18, e19, hf⟩ := bnd_some hf
    refine p_callVv (As := [.int (a1 + (1 : Int32)), .int a2, .int a3]) (rest := []) (ih (a1 + (1 : Int32)) a2 a3 m16 _ e19) cw_1176 w_1178 w_47 ob_187 rfl (Nat.le_refl _) rfl rfl (Nat.le_of_ble_eq_true rfl) dX9_ways_80 ?_
    refine g_aload_n 0 dX9_ways_83 rfl rfl ?_
    refine g_iload_n 1 dX9_ways_84 rfl rfl ?_
    refine g_iconst (v := 1) dX9_ways_85 rfl ?_
    obtain ⟨q20, e21, hf⟩ := bnd_some hf
    refine p_callV (As := [.int a1, .int (1 : Int32)]) (rest := []) (t_X9_of e21) cw_1072 w_1074 w_34 ob_187 rfl (by show 0 + 1 ≤ 5 + (fd + 1); omega) rfl rfl (Nat.le_of_ble_eq_true rfl) dX9_ways_86 ?_
    refine g_iconst (v := 1) dX9_ways_89 rfl ?_
    refine g_icmp_ne (tgt := 94) dX9_ways_90 (by decide) (fun c41 => ?_) (fun c41 => ?_)
    · replace hf := (if_neg c41).symm.trans hf
      refine g_aload_n 0 dX9_ways_94 rfl rfl ?_
      refine g_iload_n 1 dX9_ways_95 rfl rfl ?_
      refine g_iconst (v := 2) dX9_ways_96 rfl ?_
      obtain ⟨q22, e23, hf⟩ := bnd_some hf
      refine p_callV (As := [.int a1, .int (2 : Int32)]) (rest := []) (t_X9_of e23) cw_1072 w_1074 w_34 ob_187 rfl (by show 0 + 1 ≤ 5 + (fd + 1); omega) rfl rfl (Nat.le_of_ble_eq_true rfl) dX9_ways_97 ?_
      refine g_istore dX9_ways_100 (Nat.le_of_ble_eq_true rfl) rfl ?_
      refine g_iconst (v := 0) dX9_ways_102 rfl ?_
      refine g_istore dX9_ways_103 (Nat.le_of_ble_eq_true rfl) rfl ?_
      refine g_sub [2, 3, 4, 5, 1, 0] rfl ?_
      obtain ⟨o39, e40, hf⟩ := bnd_some hf
      refine t_X9_ways_L105 (V := V) fd ih a1 a2 a3 q22 fU (0 : Int32) q18 _ e40 ?_
      cases hf
      exact g_vret dX9_ways_195 rfl
    · replace hf := (if_pos c41).symm.trans hf
      cases hf
      exact g_vret dX9_ways_93 rfl
  · replace hf := (if_pos c42).symm.trans hf
    refine g_iload_n 3 dX9_ways_10 rfl rfl ?_
    refine g_aload_n 0 dX9_ways_11 rfl rfl ?_
    refine gf_946 dX9_ways_12 rfl ob_187 rfl ?_
    refine g_icmp_gt (tgt := 19) dX9_ways_15 (by decide) (fun c15 => ?_) (fun c15 => ?_)
    · replace hf := (if_pos c15).symm.trans hf
      refine g_aload_n 0 dX9_ways_19 rfl rfl ?_
      refine g_iload_n 3 dX9_ways_20 rfl rfl ?_
      obtain ⟨m3, e4, hf⟩ := bnd_some hf
      cases e4
      refine pf_946 dX9_ways_21 rfl ob_187 rfl ?_
      generalize m_up m 187 17 a3 = m3 at hf ⊢
      refine g_iconst (v := 0) dX9_ways_24 rfl ?_
      refine g_istore dX9_ways_25 (Nat.le_of_ble_eq_true rfl) rfl ?_
      refine g_sub [1, 2, 0] rfl ?_
      obtain ⟨o13, e14, hf⟩ := bnd_some hf
      refine t_X9_ways_L27 (V := V) fd ih a1 fU (0 : Int32) m3 _ e14 ?_
      cases hf
      exact g_vret dX9_ways_65 rfl
    · replace hf := (if_neg c15).symm.trans hf
      cases hf
      exact g_vret dX9_ways_18 rfl

abbrev k_X9_findsAll : kX := (cX9_findsAll, "WhoseHourItIsModel", "findsAll", none, 1, 18)
def f_X9_findsAll  (m : mM) : Option (mM) :=
bnd (some (m_up m 187 17 (-100000 : Int32))) fun m1 =>
bnd (f_X9_ways fR (0 : Int32) (0 : Int32) (0 : Int32) m1) fun q3 =>
some q3
set_option maxRecDepth 100000 in
theorem t_X9_findsAll {V : eV}  {m : mM} {q : mM} (hf : f_X9_findsAll  m = some q) : eE V 18 yX9_findsAll cX9_findsAll 1 (none) [.ref (vB V + 187)] (hS m) none (hS q) := by
  refine eE_of (by decide) (Nat.le_of_ble_eq_true rfl) ?_
  show gG V k_X9_findsAll 0 [(0, .ref (vB V + 187))] [] (hS m) _ _
  unfold f_X9_findsAll at hf
  refine g_aload_n 0 dX9_findsAll_0 rfl rfl ?_
  refine g_ldc w_1175 dX9_findsAll_1 ?_
  obtain ⟨m1, e2, hf⟩ := bnd_some hf
  cases e2
  refine pf_946 dX9_findsAll_3 rfl ob_187 rfl ?_
  generalize m_up m 187 17 (-100000 : Int32) = m1 at hf ⊢
  refine g_aload_n 0 dX9_findsAll_6 rfl rfl ?_
  refine g_iconst (v := 0) dX9_findsAll_7 rfl ?_
  refine g_iconst (v := 0) dX9_findsAll_8 rfl ?_
  refine g_iconst (v := 0) dX9_findsAll_9 rfl ?_
  obtain ⟨q3, e4, hf⟩ := bnd_some hf
  refine p_callVv (As := [.int (0 : Int32), .int (0 : Int32), .int (0 : Int32)]) (rest := []) (t_X9_ways fR (0 : Int32) (0 : Int32) (0 : Int32) m1 _ e4) cw_1176 w_1178 w_47 ob_187 rfl (Nat.le_of_ble_eq_true rfl) rfl rfl (Nat.le_of_ble_eq_true rfl) dX9_findsAll_10 ?_
  cases hf
  exact g_vret dX9_findsAll_13 rfl

abbrev k_X9_all : kX := (cX9_all, "WhoseHourItIsModel", "all", some .int, 1, 19)
def f_X9_all  (m : mM) : Option (Int32 × mM) :=
bnd (f_X9_areFew m) fun q1 =>
if q1 = 0 then (
bnd (f_X9_refuse (-6 : Int32) m) fun q3 =>
some (q3.1, q3.2))
else (
bnd (f_X9_findsAll m) fun q5 =>
some ((q5 187 17), q5))
set_option maxRecDepth 100000 in
theorem t_X9_all {V : eV}  {m : mM} {q : Int32 × mM} (hf : f_X9_all  m = some q) : eE V 19 yX9_all cX9_all 1 (some .int) [.ref (vB V + 187)] (hS m) (some (.int q.1)) (hS q.2) := by
  refine eE_of (by decide) (Nat.le_of_ble_eq_true rfl) ?_
  show gG V k_X9_all 0 [(0, .ref (vB V + 187))] [] (hS m) _ _
  unfold f_X9_all at hf
  refine g_aload_n 0 dX9_all_0 rfl rfl ?_
  obtain ⟨q1, e2, hf⟩ := bnd_some hf
  refine p_callV (As := []) (rest := []) (t_X9_areFew e2) cw_1167 w_1169 w_45 ob_187 rfl (Nat.le_of_ble_eq_true rfl) rfl rfl (Nat.le_of_ble_eq_true rfl) dX9_all_1 ?_
  refine g_if_ne (tgt := 14) dX9_all_4 (by decide) (fun c7 => ?_) (fun c7 => ?_)
  · replace hf := (if_neg c7).symm.trans hf
    refine g_aload_n 0 dX9_all_14 rfl rfl ?_
    obtain ⟨q5, e6, hf⟩ := bnd_some hf
    refine p_callVv (As := []) (rest := []) (t_X9_findsAll e6) cw_1171 w_1173 w_46 ob_187 rfl (Nat.le_of_ble_eq_true rfl) rfl rfl (Nat.le_of_ble_eq_true rfl) dX9_all_15 ?_
    refine g_aload_n 0 dX9_all_18 rfl rfl ?_
    refine gf_946 dX9_all_19 rfl ob_187 rfl ?_
    cases hf
    exact g_iret dX9_all_22 .int rfl rfl
  · replace hf := (if_pos c7).symm.trans hf
    refine g_aload_n 0 dX9_all_7 rfl rfl ?_
    refine g_bipush (v := -6) dX9_all_8 rfl ?_
    obtain ⟨q3, e4, hf⟩ := bnd_some hf
    refine p_callV (As := [.int (-6 : Int32)]) (rest := []) (t_X9_refuse e4) cw_1000 w_1002 w_22 ob_187 rfl (Nat.le_of_ble_eq_true rfl) rfl rfl (Nat.le_of_ble_eq_true rfl) dX9_all_10 ?_
    cases hf
    exact g_iret dX9_all_13 .int rfl rfl

abbrev k_X9_begin : kX := (cX9_begin, "WhoseHourItIsModel", "begin", some .int, 3, 19)
def f_X9_begin_J25 (b1 : Int32) (s0 : Int32) (m : mM) : Option (Int32 × mM) :=
if s0 = 0 then (
bnd (f_X9_findsAll m) fun q3 =>
bnd (rdA 198 6 b1 q3) fun v5 =>
some (v5, q3))
else (
bnd (f_X9_refuse s0 m) fun q7 =>
some (q7.1, q7.2))
def f_X9_begin (a1 : Int32) (m : mM) : Option (Int32 × mM) :=
bnd (f_X9_isWork a1 m) fun q1 =>
if q1 = 0 then (
f_X9_begin_J25 a1 (-1 : Int32) m)
else (
bnd (f_X9_areFew m) fun q10 =>
if q10 = 0 then (
f_X9_begin_J25 a1 (-6 : Int32) m)
else (
f_X9_begin_J25 a1 (0 : Int32) m))
set_option maxRecDepth 100000 in
theorem t_X9_begin_J25 {V : eV} {b1 : Int32} {s0 : Int32} {m : mM} {q : Int32 × mM} (hf : f_X9_begin_J25 b1 s0 m = some q) : gG V k_X9_begin 25 [(0, .ref (vB V + 187)), (1, .int b1)] [.int s0] (hS m) (some (.int q.1)) (hS q.2) := by
  unfold f_X9_begin_J25 at hf
  refine g_istore_n dX9_begin_25 rfl (Nat.le_of_ble_eq_true rfl) rfl ?_
  refine g_iload_n 0 dX9_begin_26 rfl rfl ?_
  refine g_if_eq (tgt := 36) dX9_begin_27 (by decide) (fun c9 => ?_) (fun c9 => ?_)
  · replace hf := (if_pos c9).symm.trans hf
    refine g_aload_n 1 dX9_begin_36 rfl rfl ?_
    obtain ⟨q3, e4, hf⟩ := bnd_some hf
    refine p_callVv (As := []) (rest := []) (t_X9_findsAll e4) cw_1171 w_1173 w_46 ob_187 rfl (Nat.le_of_ble_eq_true rfl) rfl rfl (Nat.le_of_ble_eq_true rfl) dX9_begin_37 ?_
    refine g_aload_n 1 dX9_begin_40 rfl rfl ?_
    refine gf_945 dX9_begin_41 rfl ob_187 rfl ?_
    refine g_iload_n 2 dX9_begin_44 rfl rfl ?_
    obtain ⟨v5, e6, hf⟩ := bnd_some hf
    refine p_iald dX9_begin_45 at_198 e6 ?_
    cases hf
    exact g_iret dX9_begin_46 .int rfl rfl
  · replace hf := (if_neg c9).symm.trans hf
    refine g_aload_n 1 dX9_begin_30 rfl rfl ?_
    refine g_iload_n 0 dX9_begin_31 rfl rfl ?_
    obtain ⟨q7, e8, hf⟩ := bnd_some hf
    refine p_callV (As := [.int s0]) (rest := []) (t_X9_refuse e8) cw_1000 w_1002 w_22 ob_187 rfl (Nat.le_of_ble_eq_true rfl) rfl rfl (Nat.le_of_ble_eq_true rfl) dX9_begin_32 ?_
    cases hf
    exact g_iret dX9_begin_35 .int rfl rfl

set_option maxRecDepth 100000 in
theorem t_X9_begin {V : eV} {a1 : Int32}  {m : mM} {q : Int32 × mM} (hf : f_X9_begin a1 m = some q) : eE V 19 yX9_begin cX9_begin 3 (some .int) [.ref (vB V + 187), .int a1] (hS m) (some (.int q.1)) (hS q.2) := by
  refine eE_of (by decide) (Nat.le_of_ble_eq_true rfl) ?_
  show gG V k_X9_begin 0 [(0, .ref (vB V + 187)), (1, .int a1)] [] (hS m) _ _
  unfold f_X9_begin at hf
  refine g_aload_n 0 dX9_begin_0 rfl rfl ?_
  refine g_iload_n 1 dX9_begin_1 rfl rfl ?_
  obtain ⟨q1, e2, hf⟩ := bnd_some hf
  refine p_callV (As := [.int a1]) (rest := []) (t_X9_isWork e2) cw_1120 w_1122 w_43 ob_187 rfl (Nat.le_of_ble_eq_true rfl) rfl rfl (Nat.le_of_ble_eq_true rfl) dX9_begin_2 ?_
  refine g_if_ne (tgt := 12) dX9_begin_5 (by decide) (fun c13 => ?_) (fun c13 => ?_)
  · replace hf := (if_neg c13).symm.trans hf
    refine g_aload_n 0 dX9_begin_12 rfl rfl ?_
    obtain ⟨q10, e11, hf⟩ := bnd_some hf
    refine p_callV (As := []) (rest := []) (t_X9_areFew e11) cw_1167 w_1169 w_45 ob_187 rfl (Nat.le_of_ble_eq_true rfl) rfl rfl (Nat.le_of_ble_eq_true rfl) dX9_begin_13 ?_
    refine g_if_eq (tgt := 23) dX9_begin_16 (by decide) (fun c12 => ?_) (fun c12 => ?_)
    · replace hf := (if_pos c12).symm.trans hf
      refine g_bipush (v := -6) dX9_begin_23 rfl ?_
      refine g_sub [0, 1] rfl ?_
      exact t_X9_begin_J25 hf
    · replace hf := (if_neg c12).symm.trans hf
      refine g_iconst (v := 0) dX9_begin_19 rfl ?_
      refine g_goto (tgt := 25) dX9_begin_20 (by decide) ?_
      refine g_sub [0, 1] rfl ?_
      exact t_X9_begin_J25 hf
  · replace hf := (if_pos c13).symm.trans hf
    refine g_iconst (v := -1) dX9_begin_8 rfl ?_
    refine g_goto (tgt := 25) dX9_begin_9 (by decide) ?_
    refine g_sub [0, 1] rfl ?_
    exact t_X9_begin_J25 hf

abbrev k_X9_askOf : kX := (cX9_askOf, "WhoseHourItIsModel", "askOf", some .int, 8, 10)
def f_X9_askOf_L26 (b1 : Int32) (b2 : Int32) (b3 : Int32) : Nat → Int32 → Int32 → Int32 → mM → Option (Int32 × mM)
  | 0, _, _, _, _ => none
  | n + 1, b4, b5, b6, m =>
      if (10 : Int32) ≤ b6 then (
      some (b4, m))
      else (
      bnd (wrA 189 189 b2 b6 m) fun m3 =>
      bnd (f_X9_incomeOf b1 m3) fun q5 =>
      if b4 < 0 then (
      f_X9_askOf_L26 b1 b2 b3 n b6 q5.1 (b6 + (1 : Int32)) q5.2)
      else (
      if b5 < q5.1 then (
      f_X9_askOf_L26 b1 b2 b3 n b6 q5.1 (b6 + (1 : Int32)) q5.2)
      else (
      f_X9_askOf_L26 b1 b2 b3 n b4 b5 (b6 + (1 : Int32)) q5.2)))
def f_X9_askOf (a1 : Int32) (m : mM) : Option (Int32 × mM) :=
bnd (rdA 189 189 (((121 : Int32) + ((4 : Int32) * a1)) + (1 : Int32)) m) fun v1 =>
bnd (f_X9_askOf_L26 a1 (((121 : Int32) + ((4 : Int32) * a1)) + (1 : Int32)) v1 fU (-9 : Int32) (0 : Int32) (0 : Int32) m) fun o10 =>
bnd (wrA 189 189 (((121 : Int32) + ((4 : Int32) * a1)) + (1 : Int32)) v1 o10.2) fun m12 =>
some (o10.1, m12)
set_option maxRecDepth 100000 in
theorem t_X9_askOf_L26 {V : eV} (b1 : Int32) (b2 : Int32) (b3 : Int32) {r : Option Value} {h' : aH} : ∀ (n : Nat) (b4 : Int32) (b5 : Int32) (b6 : Int32) (m : mM) (o : Int32 × mM), f_X9_askOf_L26 b1 b2 b3 n b4 b5 b6 m = some o → gG V k_X9_askOf 77 [(0, .ref (vB V + 187)), (2, .int b2), (3, .int b3), (4, .int o.1)] [] (hS o.2) r h' → gG V k_X9_askOf 26 [(0, .ref (vB V + 187)), (1, .int b1), (2, .int b2), (3, .int b3), (4, .int b4), (5, .int b5), (6, .int b6)] [] (hS m) r h' := by
  intro n
  induction n with
  | zero => intro b4 b5 b6 m o hf; cases hf
  | succ n ih =>
    intro b4 b5 b6 m o hf hk
    rw [f_X9_askOf_L26] at hf
    refine g_iload 6 dX9_askOf_26 rfl ?_
    refine g_bipush (v := 10) dX9_askOf_28 rfl ?_
    refine g_icmp_ge (tgt := 77) dX9_askOf_30 (by decide) (fun c9 => ?_) (fun c9 => ?_)
    · replace hf := (if_pos c9).symm.trans hf
      cases hf
      refine g_sub [0, 2, 3, 4] rfl ?_
      exact hk
    · replace hf := (if_neg c9).symm.trans hf
      refine g_aload_n 0 dX9_askOf_33 rfl rfl ?_
      refine gf_930 dX9_askOf_34 rfl ob_187 rfl ?_
      refine g_iload_n 2 dX9_askOf_37 rfl rfl ?_
      refine g_iload 6 dX9_askOf_38 rfl ?_
      obtain ⟨m3, e4, hf⟩ := bnd_some hf
      refine p_iast dX9_askOf_40 at_189 e4 ?_
      refine g_aload_n 0 dX9_askOf_41 rfl rfl ?_
      refine g_iload_n 1 dX9_askOf_42 rfl rfl ?_
      obtain ⟨q5, e6, hf⟩ := bnd_some hf
      refine p_callV (As := [.int b1]) (rest := []) (t_X9_incomeOf e6) cw_1064 w_1066 w_32 ob_187 rfl (Nat.le_of_ble_eq_true rfl) rfl rfl (Nat.le_of_ble_eq_true rfl) dX9_askOf_43 ?_
      refine g_istore dX9_askOf_46 (Nat.le_of_ble_eq_true rfl) rfl ?_
      refine g_iload 5 dX9_askOf_48 rfl ?_
      refine g_if_lt (tgt := 63) dX9_askOf_50 (by decide) (fun c8 => ?_) (fun c8 => ?_)
      · replace hf := (if_pos c8).symm.trans hf
        refine g_iload 7 dX9_askOf_63 rfl ?_
        refine g_istore dX9_askOf_65 (Nat.le_of_ble_eq_true rfl) rfl ?_
        refine g_iload 1 dX9_askOf_67 rfl ?_
        refine g_istore dX9_askOf_69 (Nat.le_of_ble_eq_true rfl) rfl ?_
        refine g_iinc (q := 7) (v := (b6 + (1 : Int32))) dX9_askOf_71 rfl rfl (Nat.le_of_ble_eq_true rfl) rfl ?_
        refine g_goto (tgt := 26) dX9_askOf_74 (by decide) ?_
        refine g_sub [4, 5, 6, 7, 2, 1, 0] rfl ?_
        exact ih b6 q5.1 (b6 + (1 : Int32)) q5.2 _ hf hk
      · replace hf := (if_neg c8).symm.trans hf
        refine g_iload 0 dX9_askOf_53 rfl ?_
        refine g_iload 6 dX9_askOf_55 rfl ?_
        refine g_icmp_gt (tgt := 63) dX9_askOf_57 (by decide) (fun c7 => ?_) (fun c7 => ?_)
        · replace hf := (if_pos c7).symm.trans hf
          refine g_iload 7 dX9_askOf_63 rfl ?_
          refine g_istore dX9_askOf_65 (Nat.le_of_ble_eq_true rfl) rfl ?_
          refine g_iload 1 dX9_askOf_67 rfl ?_
          refine g_istore dX9_askOf_69 (Nat.le_of_ble_eq_true rfl) rfl ?_
          refine g_iinc (q := 7) (v := (b6 + (1 : Int32))) dX9_askOf_71 rfl rfl (Nat.le_of_ble_eq_true rfl) rfl ?_
          refine g_goto (tgt := 26) dX9_askOf_74 (by decide) ?_
          refine g_sub [4, 5, 6, 7, 2, 1, 0] rfl ?_
          exact ih b6 q5.1 (b6 + (1 : Int32)) q5.2 _ hf hk
        · replace hf := (if_neg c7).symm.trans hf
          refine g_goto (tgt := 71) dX9_askOf_60 (by decide) ?_
          refine g_iinc (q := 7) (v := (b6 + (1 : Int32))) dX9_askOf_71 rfl rfl (Nat.le_of_ble_eq_true rfl) rfl ?_
          refine g_goto (tgt := 26) dX9_askOf_74 (by decide) ?_
          refine g_sub [2, 3, 4, 5, 6, 7, 0] rfl ?_
          exact ih b4 b5 (b6 + (1 : Int32)) q5.2 _ hf hk

set_option maxRecDepth 100000 in
theorem t_X9_askOf {V : eV} {a1 : Int32}  {m : mM} {q : Int32 × mM} (hf : f_X9_askOf a1 m = some q) : eE V 10 yX9_askOf cX9_askOf 8 (some .int) [.ref (vB V + 187), .int a1] (hS m) (some (.int q.1)) (hS q.2) := by
  refine eE_of (by decide) (Nat.le_of_ble_eq_true rfl) ?_
  show gG V k_X9_askOf 0 [(0, .ref (vB V + 187)), (1, .int a1)] [] (hS m) _ _
  unfold f_X9_askOf at hf
  refine g_bipush (v := 121) dX9_askOf_0 rfl ?_
  refine g_iconst (v := 4) dX9_askOf_2 rfl ?_
  refine g_iload_n 1 dX9_askOf_3 rfl rfl ?_
  refine g_imul dX9_askOf_4 ?_
  refine g_iadd dX9_askOf_5 ?_
  refine g_iconst (v := 1) dX9_askOf_6 rfl ?_
  refine g_iadd dX9_askOf_7 ?_
  refine g_istore_n dX9_askOf_8 rfl (Nat.le_of_ble_eq_true rfl) rfl ?_
  refine g_aload_n 1 dX9_askOf_9 rfl rfl ?_
  refine gf_930 dX9_askOf_10 rfl ob_187 rfl ?_
  refine g_iload_n 0 dX9_askOf_13 rfl rfl ?_
  obtain ⟨v1, e2, hf⟩ := bnd_some hf
  refine p_iald dX9_askOf_14 at_189 e2 ?_
  refine g_istore_n dX9_askOf_15 rfl (Nat.le_of_ble_eq_true rfl) rfl ?_
  refine g_bipush (v := -9) dX9_askOf_16 rfl ?_
  refine g_istore dX9_askOf_18 (Nat.le_of_ble_eq_true rfl) rfl ?_
  refine g_iconst (v := 0) dX9_askOf_20 rfl ?_
  refine g_istore dX9_askOf_21 (Nat.le_of_ble_eq_true rfl) rfl ?_
  refine g_iconst (v := 0) dX9_askOf_23 rfl ?_
  refine g_istore dX9_askOf_24 (Nat.le_of_ble_eq_true rfl) rfl ?_
  refine g_sub [5, 6, 4, 3, 2, 1, 0] rfl ?_
  obtain ⟨o10, e11, hf⟩ := bnd_some hf
  refine t_X9_askOf_L26 (V := V) a1 (((121 : Int32) + ((4 : Int32) * a1)) + (1 : Int32)) v1 fU (-9 : Int32) (0 : Int32) (0 : Int32) m _ e11 ?_
  refine g_aload_n 0 dX9_askOf_77 rfl rfl ?_
  refine gf_930 dX9_askOf_78 rfl ob_187 rfl ?_
  refine g_iload_n 1 dX9_askOf_81 rfl rfl ?_
  refine g_iload_n 2 dX9_askOf_82 rfl rfl ?_
  obtain ⟨m12, e13, hf⟩ := bnd_some hf
  refine p_iast dX9_askOf_83 at_189 e13 ?_
  refine g_iload 3 dX9_askOf_84 rfl ?_
  cases hf
  exact g_iret dX9_askOf_86 .int rfl rfl

abbrev k_X9_ask : kX := (cX9_ask, "WhoseHourItIsModel", "ask", some .int, 2, 11)
def f_X9_ask (a1 : Int32) (m : mM) : Option (Int32 × mM) :=
bnd (f_X9_isHolder a1 m) fun q1 =>
if q1 = 0 then (
bnd (f_X9_refuse (-1 : Int32) m) fun q3 =>
some (q3.1, q3.2))
else (
bnd (f_X9_askOf a1 m) fun q5 =>
some (q5.1, q5.2))
set_option maxRecDepth 100000 in
theorem t_X9_ask {V : eV} {a1 : Int32}  {m : mM} {q : Int32 × mM} (hf : f_X9_ask a1 m = some q) : eE V 11 yX9_ask cX9_ask 2 (some .int) [.ref (vB V + 187), .int a1] (hS m) (some (.int q.1)) (hS q.2) := by
  refine eE_of (by decide) (Nat.le_of_ble_eq_true rfl) ?_
  show gG V k_X9_ask 0 [(0, .ref (vB V + 187)), (1, .int a1)] [] (hS m) _ _
  unfold f_X9_ask at hf
  refine g_aload_n 0 dX9_ask_0 rfl rfl ?_
  refine g_iload_n 1 dX9_ask_1 rfl rfl ?_
  obtain ⟨q1, e2, hf⟩ := bnd_some hf
  refine p_callV (As := [.int a1]) (rest := []) (t_X9_isHolder e2) cw_1053 w_1055 w_30 ob_187 rfl (Nat.le_of_ble_eq_true rfl) rfl rfl (Nat.le_of_ble_eq_true rfl) dX9_ask_2 ?_
  refine g_if_eq (tgt := 16) dX9_ask_5 (by decide) (fun c7 => ?_) (fun c7 => ?_)
  · replace hf := (if_pos c7).symm.trans hf
    refine g_aload_n 0 dX9_ask_16 rfl rfl ?_
    refine g_iconst (v := -1) dX9_ask_17 rfl ?_
    obtain ⟨q3, e4, hf⟩ := bnd_some hf
    refine p_callV (As := [.int (-1 : Int32)]) (rest := []) (t_X9_refuse e4) cw_1000 w_1002 w_22 ob_187 rfl (Nat.le_of_ble_eq_true rfl) rfl rfl (Nat.le_of_ble_eq_true rfl) dX9_ask_18 ?_
    cases hf
    exact g_iret dX9_ask_21 .int rfl rfl
  · replace hf := (if_neg c7).symm.trans hf
    refine g_aload_n 0 dX9_ask_8 rfl rfl ?_
    refine g_iload_n 1 dX9_ask_9 rfl rfl ?_
    obtain ⟨q5, e6, hf⟩ := bnd_some hf
    refine p_callV (As := [.int a1]) (rest := []) (t_X9_askOf e6) cw_1188 w_1190 w_48 ob_187 rfl (Nat.le_of_ble_eq_true rfl) rfl rfl (Nat.le_of_ble_eq_true rfl) dX9_ask_10 ?_
    refine g_goto (tgt := 21) dX9_ask_13 (by decide) ?_
    cases hf
    exact g_iret dX9_ask_21 .int rfl rfl

abbrev k_X9_copies_189_192 : kX := (cX9_copies, "WhoseHourItIsModel", "copies", none, 3, 0)
def f_X9_copies_189_192_L2 : Nat → Int32 → mM → Option (mM)
  | 0, _, _ => none
  | n + 1, b2, m =>
      if (189 : Int32) ≤ b2 then (
      some m)
      else (
      bnd (rdA 189 189 b2 m) fun v1 =>
      bnd (wrA 192 189 b2 v1 m) fun m3 =>
      f_X9_copies_189_192_L2 n (b2 + (1 : Int32)) m3)
def f_X9_copies_189_192  (m : mM) : Option (mM) :=
bnd (f_X9_copies_189_192_L2 fU (0 : Int32) m) fun o6 =>
some o6
set_option maxRecDepth 100000 in
theorem t_X9_copies_189_192_L2 {V : eV} {r : Option Value} {h' : aH} : ∀ (n : Nat) (b2 : Int32) (m : mM) (o : mM), f_X9_copies_189_192_L2 n b2 m = some o → gG V k_X9_copies_189_192 21 [] [] (hS o) r h' → gG V k_X9_copies_189_192 2 [(0, .ref (vB V + 189)), (1, .ref (vB V + 192)), (2, .int b2)] [] (hS m) r h' := by
  intro n
  induction n with
  | zero => intro b2 m o hf; cases hf
  | succ n ih =>
    intro b2 m o hf hk
    rw [f_X9_copies_189_192_L2] at hf
    refine g_iload_n 2 dX9_copies_2 rfl rfl ?_
    refine g_sipush (v := 189) dX9_copies_3 rfl ?_
    refine g_icmp_ge (tgt := 21) dX9_copies_6 (by decide) (fun c5 => ?_) (fun c5 => ?_)
    · replace hf := (if_pos c5).symm.trans hf
      cases hf
      refine g_sub [] rfl ?_
      exact hk
    · replace hf := (if_neg c5).symm.trans hf
      refine g_aload_n 1 dX9_copies_9 rfl rfl ?_
      refine g_iload_n 2 dX9_copies_10 rfl rfl ?_
      refine g_aload_n 0 dX9_copies_11 rfl rfl ?_
      refine g_iload_n 2 dX9_copies_12 rfl rfl ?_
      obtain ⟨v1, e2, hf⟩ := bnd_some hf
      refine p_iald dX9_copies_13 at_189 e2 ?_
      obtain ⟨m3, e4, hf⟩ := bnd_some hf
      refine p_iast dX9_copies_14 at_192 e4 ?_
      refine g_iinc (q := 2) (v := (b2 + (1 : Int32))) dX9_copies_15 rfl rfl (Nat.le_of_ble_eq_true rfl) rfl ?_
      refine g_goto (tgt := 2) dX9_copies_18 (by decide) ?_
      refine g_sub [1, 2, 0] rfl ?_
      exact ih (b2 + (1 : Int32)) m3 _ hf hk

set_option maxRecDepth 100000 in
theorem t_X9_copies_189_192 {V : eV}  {m : mM} {q : mM} (hf : f_X9_copies_189_192  m = some q) : eE V 0 yX9_copies cX9_copies 3 (none) [.ref (vB V + 189), .ref (vB V + 192)] (hS m) none (hS q) := by
  refine eE_of (by decide) (Nat.le_of_ble_eq_true rfl) ?_
  show gG V k_X9_copies_189_192 0 [(0, .ref (vB V + 189)), (1, .ref (vB V + 192))] [] (hS m) _ _
  unfold f_X9_copies_189_192 at hf
  refine g_iconst (v := 0) dX9_copies_0 rfl ?_
  refine g_istore_n dX9_copies_1 rfl (Nat.le_of_ble_eq_true rfl) rfl ?_
  refine g_sub [1, 2, 0] rfl ?_
  obtain ⟨o6, e7, hf⟩ := bnd_some hf
  refine t_X9_copies_189_192_L2 (V := V) fU (0 : Int32) m _ e7 ?_
  cases hf
  exact g_vret dX9_copies_21 rfl

abbrev k_X9_copies_192_189 : kX := (cX9_copies, "WhoseHourItIsModel", "copies", none, 3, 0)
def f_X9_copies_192_189_L2 : Nat → Int32 → mM → Option (mM)
  | 0, _, _ => none
  | n + 1, b2, m =>
      if (189 : Int32) ≤ b2 then (
      some m)
      else (
      bnd (rdA 192 189 b2 m) fun v1 =>
      bnd (wrA 189 189 b2 v1 m) fun m3 =>
      f_X9_copies_192_189_L2 n (b2 + (1 : Int32)) m3)
def f_X9_copies_192_189  (m : mM) : Option (mM) :=
bnd (f_X9_copies_192_189_L2 fU (0 : Int32) m) fun o6 =>
some o6
set_option maxRecDepth 100000 in
theorem t_X9_copies_192_189_L2 {V : eV} {r : Option Value} {h' : aH} : ∀ (n : Nat) (b2 : Int32) (m : mM) (o : mM), f_X9_copies_192_189_L2 n b2 m = some o → gG V k_X9_copies_192_189 21 [] [] (hS o) r h' → gG V k_X9_copies_192_189 2 [(0, .ref (vB V + 192)), (1, .ref (vB V + 189)), (2, .int b2)] [] (hS m) r h' := by
  intro n
  induction n with
  | zero => intro b2 m o hf; cases hf
  | succ n ih =>
    intro b2 m o hf hk
    rw [f_X9_copies_192_189_L2] at hf
    refine g_iload_n 2 dX9_copies_2 rfl rfl ?_
    refine g_sipush (v := 189) dX9_copies_3 rfl ?_
    refine g_icmp_ge (tgt := 21) dX9_copies_6 (by decide) (fun c5 => ?_) (fun c5 => ?_)
    · replace hf := (if_pos c5).symm.trans hf
      cases hf
      refine g_sub [] rfl ?_
      exact hk
    · replace hf := (if_neg c5).symm.trans hf
      refine g_aload_n 1 dX9_copies_9 rfl rfl ?_
      refine g_iload_n 2 dX9_copies_10 rfl rfl ?_
      refine g_aload_n 0 dX9_copies_11 rfl rfl ?_
      refine g_iload_n 2 dX9_copies_12 rfl rfl ?_
      obtain ⟨v1, e2, hf⟩ := bnd_some hf
      refine p_iald dX9_copies_13 at_192 e2 ?_
      obtain ⟨m3, e4, hf⟩ := bnd_some hf
      refine p_iast dX9_copies_14 at_189 e4 ?_
      refine g_iinc (q := 2) (v := (b2 + (1 : Int32))) dX9_copies_15 rfl rfl (Nat.le_of_ble_eq_true rfl) rfl ?_
      refine g_goto (tgt := 2) dX9_copies_18 (by decide) ?_
      refine g_sub [1, 2, 0] rfl ?_
      exact ih (b2 + (1 : Int32)) m3 _ hf hk

set_option maxRecDepth 100000 in
theorem t_X9_copies_192_189 {V : eV}  {m : mM} {q : mM} (hf : f_X9_copies_192_189  m = some q) : eE V 0 yX9_copies cX9_copies 3 (none) [.ref (vB V + 192), .ref (vB V + 189)] (hS m) none (hS q) := by
  refine eE_of (by decide) (Nat.le_of_ble_eq_true rfl) ?_
  show gG V k_X9_copies_192_189 0 [(0, .ref (vB V + 192)), (1, .ref (vB V + 189))] [] (hS m) _ _
  unfold f_X9_copies_192_189 at hf
  refine g_iconst (v := 0) dX9_copies_0 rfl ?_
  refine g_istore_n dX9_copies_1 rfl (Nat.le_of_ble_eq_true rfl) rfl ?_
  refine g_sub [1, 2, 0] rfl ?_
  obtain ⟨o6, e7, hf⟩ := bnd_some hf
  refine t_X9_copies_192_189_L2 (V := V) fU (0 : Int32) m _ e7 ?_
  cases hf
  exact g_vret dX9_copies_21 rfl

abbrev k_X9_rest : kX := (cX9_rest, "WhoseHourItIsModel", "rest", some .int, 6, 11)
def f_X9_rest_L31 (b2 : Int32) : Nat → Int32 → Int32 → mM → Option (Int32 × mM)
  | 0, _, _, _ => none
  | n + 1, b3, b4, m =>
      bnd (rdA 189 189 (0 : Int32) m) fun v3 =>
      if v3 ≤ b4 then (
      some (b3, m))
      else (
      bnd (f_X9_askOf b4 m) fun q5 =>
      if b3 = 0 then (
      bnd (f_X9_get b4 (1 : Int32) q5.2) fun q7 =>
      if q5.1 = q7 then (
      bnd (wrA 189 189 (((121 : Int32) + ((4 : Int32) * b4)) + (1 : Int32)) q5.1 q5.2) fun m9 =>
      f_X9_rest_L31 b2 n (0 : Int32) (b4 + (1 : Int32)) m9)
      else (
      bnd (wrA 189 189 (((121 : Int32) + ((4 : Int32) * b4)) + (1 : Int32)) q5.1 q5.2) fun m11 =>
      f_X9_rest_L31 b2 n (1 : Int32) (b4 + (1 : Int32)) m11))
      else (
      bnd (wrA 189 189 (((121 : Int32) + ((4 : Int32) * b4)) + (1 : Int32)) q5.1 q5.2) fun m14 =>
      f_X9_rest_L31 b2 n (1 : Int32) (b4 + (1 : Int32)) m14))
def f_X9_rest_L16 : Nat → Int32 → Int32 → mM → Option (Int32 × mM)
  | 0, _, _, _ => none
  | n + 1, b1, b2, m =>
      if (10 : Int32) < b2 then (
      some (b1, m))
      else (
      if 0 ≤ b1 then (
      some (b1, m))
      else (
      bnd (f_X9_rest_L31 b2 fU (0 : Int32) (0 : Int32) m) fun o18 =>
      if o18.1 = 0 then (
      f_X9_rest_L16 n b2 (b2 + (1 : Int32)) o18.2)
      else (
      f_X9_rest_L16 n (-9 : Int32) (b2 + (1 : Int32)) o18.2)))
def f_X9_rest  (m : mM) : Option (Int32 × mM) :=
bnd (f_X9_copies_189_192 m) fun q1 =>
bnd (f_X9_rest_L16 fU (-9 : Int32) (1 : Int32) q1) fun o23 =>
bnd (f_X9_copies_192_189 o23.2) fun q25 =>
some (o23.1, q25)
set_option maxRecDepth 100000 in
theorem t_X9_rest_L31 {V : eV} (b2 : Int32) {r : Option Value} {h' : aH} : ∀ (n : Nat) (b3 : Int32) (b4 : Int32) (m : mM) (o : Int32 × mM), f_X9_rest_L31 b2 n b3 b4 m = some o → gG V k_X9_rest 94 [(0, .ref (vB V + 187)), (2, .int b2), (3, .int o.1)] [] (hS o.2) r h' → gG V k_X9_rest 31 [(0, .ref (vB V + 187)), (2, .int b2), (3, .int b3), (4, .int b4)] [] (hS m) r h' := by
  intro n
  induction n with
  | zero => intro b3 b4 m o hf; cases hf
  | succ n ih =>
    intro b3 b4 m o hf hk
    rw [f_X9_rest_L31] at hf
    refine g_iload 3 dX9_rest_31 rfl ?_
    refine g_aload_n 0 dX9_rest_33 rfl rfl ?_
    refine gf_930 dX9_rest_34 rfl ob_187 rfl ?_
    refine g_iconst (v := 0) dX9_rest_37 rfl ?_
    obtain ⟨v3, e4, hf⟩ := bnd_some hf
    refine p_iald dX9_rest_38 at_189 e4 ?_
    refine g_icmp_ge (tgt := 94) dX9_rest_39 (by decide) (fun c17 => ?_) (fun c17 => ?_)
    · replace hf := (if_pos c17).symm.trans hf
      cases hf
      refine g_sub [0, 1, 2] rfl ?_
      exact hk
    · replace hf := (if_neg c17).symm.trans hf
      refine g_aload_n 0 dX9_rest_42 rfl rfl ?_
      refine g_iload 3 dX9_rest_43 rfl ?_
      obtain ⟨q5, e6, hf⟩ := bnd_some hf
      refine p_callV (As := [.int b4]) (rest := []) (t_X9_askOf e6) cw_1188 w_1190 w_48 ob_187 rfl (Nat.le_of_ble_eq_true rfl) rfl rfl (Nat.le_of_ble_eq_true rfl) dX9_rest_45 ?_
      refine g_istore dX9_rest_48 (Nat.le_of_ble_eq_true rfl) rfl ?_
      refine g_iload_n 3 dX9_rest_50 rfl rfl ?_
      refine g_if_ne (tgt := 66) dX9_rest_51 (by decide) (fun c16 => ?_) (fun c16 => ?_)
      · replace hf := (if_neg c16).symm.trans hf
        refine g_iconst (v := 1) dX9_rest_66 rfl ?_
        refine g_goto (tgt := 71) dX9_rest_67 (by decide) ?_
        refine g_istore_n dX9_rest_71 rfl (Nat.le_of_ble_eq_true rfl) rfl ?_
        refine g_aload_n 2 dX9_rest_72 rfl rfl ?_
        refine gf_930 dX9_rest_73 rfl ob_187 rfl ?_
        refine g_bipush (v := 121) dX9_rest_76 rfl ?_
        refine g_iconst (v := 4) dX9_rest_78 rfl ?_
        refine g_iload 4 dX9_rest_79 rfl ?_
        refine g_imul dX9_rest_81 ?_
        refine g_iadd dX9_rest_82 ?_
        refine g_iconst (v := 1) dX9_rest_83 rfl ?_
        refine g_iadd dX9_rest_84 ?_
        refine g_iload 1 dX9_rest_85 rfl ?_
        obtain ⟨m14, e15, hf⟩ := bnd_some hf
        refine p_iast dX9_rest_87 at_189 e15 ?_
        refine g_iinc (q := 4) (v := (b4 + (1 : Int32))) dX9_rest_88 rfl rfl (Nat.le_of_ble_eq_true rfl) rfl ?_
        refine g_goto (tgt := 31) dX9_rest_91 (by decide) ?_
        refine g_sub [3, 4, 1, 0] rfl ?_
        exact ih (1 : Int32) (b4 + (1 : Int32)) m14 _ hf hk
      · replace hf := (if_pos c16).symm.trans hf
        refine g_iload 0 dX9_rest_54 rfl ?_
        refine g_aload_n 1 dX9_rest_56 rfl rfl ?_
        refine g_iload 4 dX9_rest_57 rfl ?_
        refine g_iconst (v := 1) dX9_rest_59 rfl ?_
        obtain ⟨q7, e8, hf⟩ := bnd_some hf
        refine p_callV (As := [.int b4, .int (1 : Int32)]) (rest := [.int q5.1]) (t_X9_get e8) cw_1060 w_1062 w_31 ob_187 rfl (Nat.le_of_ble_eq_true rfl) rfl rfl (Nat.le_of_ble_eq_true rfl) dX9_rest_60 ?_
        refine g_icmp_eq (tgt := 70) dX9_rest_63 (by decide) (fun c13 => ?_) (fun c13 => ?_)
        · replace hf := (if_pos c13).symm.trans hf
          refine g_iconst (v := 0) dX9_rest_70 rfl ?_
          refine g_istore_n dX9_rest_71 rfl (Nat.le_of_ble_eq_true rfl) rfl ?_
          refine g_aload_n 2 dX9_rest_72 rfl rfl ?_
          refine gf_930 dX9_rest_73 rfl ob_187 rfl ?_
          refine g_bipush (v := 121) dX9_rest_76 rfl ?_
          refine g_iconst (v := 4) dX9_rest_78 rfl ?_
          refine g_iload 4 dX9_rest_79 rfl ?_
          refine g_imul dX9_rest_81 ?_
          refine g_iadd dX9_rest_82 ?_
          refine g_iconst (v := 1) dX9_rest_83 rfl ?_
          refine g_iadd dX9_rest_84 ?_
          refine g_iload 1 dX9_rest_85 rfl ?_
          obtain ⟨m9, e10, hf⟩ := bnd_some hf
          refine p_iast dX9_rest_87 at_189 e10 ?_
          refine g_iinc (q := 4) (v := (b4 + (1 : Int32))) dX9_rest_88 rfl rfl (Nat.le_of_ble_eq_true rfl) rfl ?_
          refine g_goto (tgt := 31) dX9_rest_91 (by decide) ?_
          refine g_sub [3, 4, 1, 0] rfl ?_
          exact ih (0 : Int32) (b4 + (1 : Int32)) m9 _ hf hk
        · replace hf := (if_neg c13).symm.trans hf
          refine g_iconst (v := 1) dX9_rest_66 rfl ?_
          refine g_goto (tgt := 71) dX9_rest_67 (by decide) ?_
          refine g_istore_n dX9_rest_71 rfl (Nat.le_of_ble_eq_true rfl) rfl ?_
          refine g_aload_n 2 dX9_rest_72 rfl rfl ?_
          refine gf_930 dX9_rest_73 rfl ob_187 rfl ?_
          refine g_bipush (v := 121) dX9_rest_76 rfl ?_
          refine g_iconst (v := 4) dX9_rest_78 rfl ?_
          refine g_iload 4 dX9_rest_79 rfl ?_
          refine g_imul dX9_rest_81 ?_
          refine g_iadd dX9_rest_82 ?_
          refine g_iconst (v := 1) dX9_rest_83 rfl ?_
          refine g_iadd dX9_rest_84 ?_
          refine g_iload 1 dX9_rest_85 rfl ?_
          obtain ⟨m11, e12, hf⟩ := bnd_some hf
          refine p_iast dX9_rest_87 at_189 e12 ?_
          refine g_iinc (q := 4) (v := (b4 + (1 : Int32))) dX9_rest_88 rfl rfl (Nat.le_of_ble_eq_true rfl) rfl ?_
          refine g_goto (tgt := 31) dX9_rest_91 (by decide) ?_
          refine g_sub [3, 4, 1, 0] rfl ?_
          exact ih (1 : Int32) (b4 + (1 : Int32)) m11 _ hf hk

set_option maxRecDepth 100000 in
theorem t_X9_rest_L16 {V : eV} {r : Option Value} {h' : aH} : ∀ (n : Nat) (b1 : Int32) (b2 : Int32) (m : mM) (o : Int32 × mM), f_X9_rest_L16 n b1 b2 m = some o → gG V k_X9_rest 111 [(0, .ref (vB V + 187)), (1, .int o.1)] [] (hS o.2) r h' → gG V k_X9_rest 16 [(0, .ref (vB V + 187)), (1, .int b1), (2, .int b2)] [] (hS m) r h' := by
  intro n
  induction n with
  | zero => intro b1 b2 m o hf; cases hf
  | succ n ih =>
    intro b1 b2 m o hf hk
    rw [f_X9_rest_L16] at hf
    refine g_iload_n 2 dX9_rest_16 rfl rfl ?_
    refine g_bipush (v := 10) dX9_rest_17 rfl ?_
    refine g_icmp_gt (tgt := 111) dX9_rest_19 (by decide) (fun c22 => ?_) (fun c22 => ?_)
    · replace hf := (if_pos c22).symm.trans hf
      cases hf
      refine g_sub [0, 1] rfl ?_
      exact hk
    · replace hf := (if_neg c22).symm.trans hf
      refine g_iload_n 1 dX9_rest_22 rfl rfl ?_
      refine g_if_ge (tgt := 111) dX9_rest_23 (by decide) (fun c21 => ?_) (fun c21 => ?_)
      · replace hf := (if_pos c21).symm.trans hf
        cases hf
        refine g_sub [0, 1] rfl ?_
        exact hk
      · replace hf := (if_neg c21).symm.trans hf
        refine g_iconst (v := 0) dX9_rest_26 rfl ?_
        refine g_istore_n dX9_rest_27 rfl (Nat.le_of_ble_eq_true rfl) rfl ?_
        refine g_iconst (v := 0) dX9_rest_28 rfl ?_
        refine g_istore dX9_rest_29 (Nat.le_of_ble_eq_true rfl) rfl ?_
        refine g_sub [2, 4, 1, 0] rfl ?_
        obtain ⟨o18, e19, hf⟩ := bnd_some hf
        refine t_X9_rest_L31 (V := V) b2 fU (0 : Int32) (0 : Int32) m _ e19 ?_
        refine g_iload_n 2 dX9_rest_94 rfl rfl ?_
        refine g_if_eq (tgt := 103) dX9_rest_95 (by decide) (fun c20 => ?_) (fun c20 => ?_)
        · replace hf := (if_pos c20).symm.trans hf
          refine g_iload_n 1 dX9_rest_103 rfl rfl ?_
          refine g_istore_n dX9_rest_104 rfl (Nat.le_of_ble_eq_true rfl) rfl ?_
          refine g_iinc (q := 2) (v := (b2 + (1 : Int32))) dX9_rest_105 rfl rfl (Nat.le_of_ble_eq_true rfl) rfl ?_
          refine g_goto (tgt := 16) dX9_rest_108 (by decide) ?_
          refine g_sub [2, 1, 0] rfl ?_
          exact ih b2 (b2 + (1 : Int32)) o18.2 _ hf hk
        · replace hf := (if_neg c20).symm.trans hf
          refine g_bipush (v := -9) dX9_rest_98 rfl ?_
          refine g_goto (tgt := 104) dX9_rest_100 (by decide) ?_
          refine g_istore_n dX9_rest_104 rfl (Nat.le_of_ble_eq_true rfl) rfl ?_
          refine g_iinc (q := 2) (v := (b2 + (1 : Int32))) dX9_rest_105 rfl rfl (Nat.le_of_ble_eq_true rfl) rfl ?_
          refine g_goto (tgt := 16) dX9_rest_108 (by decide) ?_
          refine g_sub [2, 1, 0] rfl ?_
          exact ih (-9 : Int32) (b2 + (1 : Int32)) o18.2 _ hf hk

set_option maxRecDepth 100000 in
theorem t_X9_rest {V : eV}  {m : mM} {q : Int32 × mM} (hf : f_X9_rest  m = some q) : eE V 11 yX9_rest cX9_rest 6 (some .int) [.ref (vB V + 187)] (hS m) (some (.int q.1)) (hS q.2) := by
  refine eE_of (by decide) (Nat.le_of_ble_eq_true rfl) ?_
  show gG V k_X9_rest 0 [(0, .ref (vB V + 187))] [] (hS m) _ _
  unfold f_X9_rest at hf
  refine g_aload_n 0 dX9_rest_0 rfl rfl ?_
  refine gf_930 dX9_rest_1 rfl ob_187 rfl ?_
  refine g_aload_n 0 dX9_rest_4 rfl rfl ?_
  refine gf_933 dX9_rest_5 rfl ob_187 rfl ?_
  obtain ⟨q1, e2, hf⟩ := bnd_some hf
  refine p_callSv (As := [.ref (vB V + 189), .ref (vB V + 192)]) (rest := []) (t_X9_copies_189_192 e2) cw_1032 w_1033 (Nat.le_of_ble_eq_true rfl) rfl rfl (Nat.le_of_ble_eq_true rfl) dX9_rest_8 ?_
  refine g_bipush (v := -9) dX9_rest_11 rfl ?_
  refine g_istore_n dX9_rest_13 rfl (Nat.le_of_ble_eq_true rfl) rfl ?_
  refine g_iconst (v := 1) dX9_rest_14 rfl ?_
  refine g_istore_n dX9_rest_15 rfl (Nat.le_of_ble_eq_true rfl) rfl ?_
  refine g_sub [2, 1, 0] rfl ?_
  obtain ⟨o23, e24, hf⟩ := bnd_some hf
  refine t_X9_rest_L16 (V := V) fU (-9 : Int32) (1 : Int32) q1 _ e24 ?_
  refine g_aload_n 0 dX9_rest_111 rfl rfl ?_
  refine gf_933 dX9_rest_112 rfl ob_187 rfl ?_
  refine g_aload_n 0 dX9_rest_115 rfl rfl ?_
  refine gf_930 dX9_rest_116 rfl ob_187 rfl ?_
  obtain ⟨q25, e26, hf⟩ := bnd_some hf
  refine p_callSv (As := [.ref (vB V + 192), .ref (vB V + 189)]) (rest := []) (t_X9_copies_192_189 e26) cw_1032 w_1033 (Nat.le_of_ble_eq_true rfl) rfl rfl (Nat.le_of_ble_eq_true rfl) dX9_rest_119 ?_
  refine g_iload_n 1 dX9_rest_122 rfl rfl ?_
  cases hf
  exact g_iret dX9_rest_123 .int rfl rfl

abbrev k_X9_bits : kX := (cX9_bits, "WhoseHourItIsModel", "bits", some .int, 3, 0)
def f_X9_bits_L4 (m : mM) : Nat → Int32 → Int32 → Option (Int32)
  | 0, _, _ => none
  | n + 1, b1, b2 =>
      if b2 ≤ 0 then (
      some b1)
      else (
      f_X9_bits_L4 m n (b1 + (b2 &&& (1 : Int32))) (b2 >>> ((1 : Int32) &&& 31)))
def f_X9_bits (a0 : Int32) (m : mM) : Option (Int32) :=
bnd (f_X9_bits_L4 m fU (0 : Int32) a0) fun o2 =>
some o2
set_option maxRecDepth 100000 in
theorem t_X9_bits_L4 {V : eV} (m : mM) {r : Option Value} {h' : aH} : ∀ (n : Nat) (b1 : Int32) (b2 : Int32) (o : Int32), f_X9_bits_L4 m n b1 b2 = some o → gG V k_X9_bits 21 [(1, .int o)] [] (hS m) r h' → gG V k_X9_bits 4 [(1, .int b1), (2, .int b2)] [] (hS m) r h' := by
  intro n
  induction n with
  | zero => intro b1 b2 o hf; cases hf
  | succ n ih =>
    intro b1 b2 o hf hk
    rw [f_X9_bits_L4] at hf
    refine g_iload_n 1 dX9_bits_4 rfl rfl ?_
    refine g_if_le (tgt := 21) dX9_bits_5 (by decide) (fun c1 => ?_) (fun c1 => ?_)
    · replace hf := (if_pos c1).symm.trans hf
      cases hf
      refine g_sub [0] rfl ?_
      exact hk
    · replace hf := (if_neg c1).symm.trans hf
      refine g_iload_n 0 dX9_bits_8 rfl rfl ?_
      refine g_iload_n 1 dX9_bits_9 rfl rfl ?_
      refine g_iconst (v := 1) dX9_bits_10 rfl ?_
      refine g_iand dX9_bits_11 ?_
      refine g_iadd dX9_bits_12 ?_
      refine g_istore_n dX9_bits_13 rfl (Nat.le_of_ble_eq_true rfl) rfl ?_
      refine g_iload_n 1 dX9_bits_14 rfl rfl ?_
      refine g_iconst (v := 1) dX9_bits_15 rfl ?_
      refine g_ishr dX9_bits_16 ?_
      refine g_istore_n dX9_bits_17 rfl (Nat.le_of_ble_eq_true rfl) rfl ?_
      refine g_goto (tgt := 4) dX9_bits_18 (by decide) ?_
      refine g_sub [1, 0] rfl ?_
      exact ih (b1 + (b2 &&& (1 : Int32))) (b2 >>> ((1 : Int32) &&& 31)) _ hf hk

set_option maxRecDepth 100000 in
theorem t_X9_bits {V : eV} {a0 : Int32}  {m : mM} {q : Int32} (hf : f_X9_bits a0 m = some q) : eE V 0 yX9_bits cX9_bits 3 (some .int) [.int a0] (hS m) (some (.int q)) (hS m) := by
  refine eE_of (by decide) (Nat.le_of_ble_eq_true rfl) ?_
  show gG V k_X9_bits 0 [(0, .int a0)] [] (hS m) _ _
  unfold f_X9_bits at hf
  refine g_iconst (v := 0) dX9_bits_0 rfl ?_
  refine g_istore_n dX9_bits_1 rfl (Nat.le_of_ble_eq_true rfl) rfl ?_
  refine g_iload_n 1 dX9_bits_2 rfl rfl ?_
  refine g_istore_n dX9_bits_3 rfl (Nat.le_of_ble_eq_true rfl) rfl ?_
  refine g_sub [1, 0] rfl ?_
  obtain ⟨o2, e3, hf⟩ := bnd_some hf
  refine t_X9_bits_L4 (V := V) m fU (0 : Int32) a0 _ e3 ?_
  refine g_iload_n 0 dX9_bits_21 rfl rfl ?_
  cases hf
  exact g_iret dX9_bits_22 .int rfl rfl

abbrev k_X9_stop : kX := (cX9_stop, "WhoseHourItIsModel", "stop", some .int, 5, 7)
def f_X9_stop_L27 (b1 : Int32) (b2 : Int32) : Nat → Int32 → Int32 → mM → Option (Int32 × mM)
  | 0, _, _, _ => none
  | n + 1, b3, b4, m =>
      bnd (rdA 189 189 (0 : Int32) m) fun v7 =>
      if ((1 : Int32) <<< (v7 &&& 31)) ≤ b4 then (
      some (b3, m))
      else (
      bnd (f_X9_of b1 (0 : Int32) m) fun q9 =>
      if ((b4 >>> (q9 &&& 31)) &&& (1 : Int32)) = (1 : Int32) then (
      f_X9_stop_L27 b1 b2 n b3 (b4 + (1 : Int32)) m)
      else (
      if b3 < 0 then (
      bnd (wrA 189 189 (2 : Int32) (b2 ||| b4) m) fun m11 =>
      bnd (f_X9_costOf b1 m11) fun q13 =>
      if 0 ≤ q13.1 then (
      f_X9_stop_L27 b1 b2 n b3 (b4 + (1 : Int32)) q13.2)
      else (
      f_X9_stop_L27 b1 b2 n b4 (b4 + (1 : Int32)) q13.2))
      else (
      bnd (f_X9_bits b4 m) fun q16 =>
      bnd (f_X9_bits b3 m) fun q18 =>
      if q16 < q18 then (
      bnd (wrA 189 189 (2 : Int32) (b2 ||| b4) m) fun m20 =>
      bnd (f_X9_costOf b1 m20) fun q22 =>
      if 0 ≤ q22.1 then (
      f_X9_stop_L27 b1 b2 n b3 (b4 + (1 : Int32)) q22.2)
      else (
      f_X9_stop_L27 b1 b2 n b4 (b4 + (1 : Int32)) q22.2))
      else (
      f_X9_stop_L27 b1 b2 n b3 (b4 + (1 : Int32)) m))))
def f_X9_stop (a1 : Int32) (m : mM) : Option (Int32 × mM) :=
bnd (f_X9_isWork a1 m) fun q1 =>
if q1 = 0 then (
bnd (f_X9_refuse (-1 : Int32) m) fun q3 =>
some (q3.1, q3.2))
else (
bnd (rdA 189 189 (2 : Int32) m) fun v5 =>
bnd (f_X9_stop_L27 a1 v5 fU (-9 : Int32) (0 : Int32) m) fun o29 =>
bnd (wrA 189 189 (2 : Int32) v5 o29.2) fun m31 =>
some (o29.1, m31))
set_option maxRecDepth 100000 in
theorem t_X9_stop_L27 {V : eV} (b1 : Int32) (b2 : Int32) {r : Option Value} {h' : aH} : ∀ (n : Nat) (b3 : Int32) (b4 : Int32) (m : mM) (o : Int32 × mM), f_X9_stop_L27 b1 b2 n b3 b4 m = some o → gG V k_X9_stop 105 [(0, .ref (vB V + 187)), (2, .int b2), (3, .int o.1)] [] (hS o.2) r h' → gG V k_X9_stop 27 [(0, .ref (vB V + 187)), (1, .int b1), (2, .int b2), (3, .int b3), (4, .int b4)] [] (hS m) r h' := by
  intro n
  induction n with
  | zero => intro b3 b4 m o hf; cases hf
  | succ n ih =>
    intro b3 b4 m o hf hk
    rw [f_X9_stop_L27] at hf
    refine g_iload 4 dX9_stop_27 rfl ?_
    refine g_iconst (v := 1) dX9_stop_29 rfl ?_
    refine g_aload_n 0 dX9_stop_30 rfl rfl ?_
    refine gf_930 dX9_stop_31 rfl ob_187 rfl ?_
    refine g_iconst (v := 0) dX9_stop_34 rfl ?_
    obtain ⟨v7, e8, hf⟩ := bnd_some hf
    refine p_iald dX9_stop_35 at_189 e8 ?_
    refine g_ishl dX9_stop_36 ?_
    refine g_icmp_ge (tgt := 105) dX9_stop_37 (by decide) (fun c28 => ?_) (fun c28 => ?_)
    · replace hf := (if_pos c28).symm.trans hf
      cases hf
      refine g_sub [0, 2, 3] rfl ?_
      exact hk
    · replace hf := (if_neg c28).symm.trans hf
      refine g_iload 4 dX9_stop_40 rfl ?_
      refine g_aload_n 0 dX9_stop_42 rfl rfl ?_
      refine g_iload_n 1 dX9_stop_43 rfl rfl ?_
      refine g_iconst (v := 0) dX9_stop_44 rfl ?_
      obtain ⟨q9, e10, hf⟩ := bnd_some hf
      refine p_callV (As := [.int b1, .int (0 : Int32)]) (rest := [.int b4]) (t_X9_of e10) cw_1072 w_1074 w_34 ob_187 rfl (Nat.le_of_ble_eq_true rfl) rfl rfl (Nat.le_of_ble_eq_true rfl) dX9_stop_45 ?_
      refine g_ishr dX9_stop_48 ?_
      refine g_iconst (v := 1) dX9_stop_49 rfl ?_
      refine g_iand dX9_stop_50 ?_
      refine g_iconst (v := 1) dX9_stop_51 rfl ?_
      refine g_icmp_eq (tgt := 99) dX9_stop_52 (by decide) (fun c27 => ?_) (fun c27 => ?_)
      · replace hf := (if_pos c27).symm.trans hf
        refine g_iinc (q := 4) (v := (b4 + (1 : Int32))) dX9_stop_99 rfl rfl (Nat.le_of_ble_eq_true rfl) rfl ?_
        refine g_goto (tgt := 27) dX9_stop_102 (by decide) ?_
        refine g_sub [1, 2, 3, 4, 0] rfl ?_
        exact ih b3 (b4 + (1 : Int32)) m _ hf hk
      · replace hf := (if_neg c27).symm.trans hf
        refine g_iload_n 3 dX9_stop_55 rfl rfl ?_
        refine g_if_lt (tgt := 74) dX9_stop_56 (by decide) (fun c26 => ?_) (fun c26 => ?_)
        · replace hf := (if_pos c26).symm.trans hf
          refine g_aload_n 0 dX9_stop_74 rfl rfl ?_
          refine gf_930 dX9_stop_75 rfl ob_187 rfl ?_
          refine g_iconst (v := 2) dX9_stop_78 rfl ?_
          refine g_iload_n 2 dX9_stop_79 rfl rfl ?_
          refine g_iload 4 dX9_stop_80 rfl ?_
          refine g_ior dX9_stop_82 ?_
          obtain ⟨m11, e12, hf⟩ := bnd_some hf
          refine p_iast dX9_stop_83 at_189 e12 ?_
          refine g_aload_n 0 dX9_stop_84 rfl rfl ?_
          refine g_iload_n 1 dX9_stop_85 rfl rfl ?_
          obtain ⟨q13, e14, hf⟩ := bnd_some hf
          refine p_callV (As := [.int b1]) (rest := []) (t_X9_costOf e14) cw_1080 w_1082 w_36 ob_187 rfl (Nat.le_of_ble_eq_true rfl) rfl rfl (Nat.le_of_ble_eq_true rfl) dX9_stop_86 ?_
          refine g_if_ge (tgt := 97) dX9_stop_89 (by decide) (fun c15 => ?_) (fun c15 => ?_)
          · replace hf := (if_pos c15).symm.trans hf
            refine g_iload_n 3 dX9_stop_97 rfl rfl ?_
            refine g_istore_n dX9_stop_98 rfl (Nat.le_of_ble_eq_true rfl) rfl ?_
            refine g_iinc (q := 4) (v := (b4 + (1 : Int32))) dX9_stop_99 rfl rfl (Nat.le_of_ble_eq_true rfl) rfl ?_
            refine g_goto (tgt := 27) dX9_stop_102 (by decide) ?_
            refine g_sub [2, 3, 4, 1, 0] rfl ?_
            exact ih b3 (b4 + (1 : Int32)) q13.2 _ hf hk
          · replace hf := (if_neg c15).symm.trans hf
            refine g_iload 4 dX9_stop_92 rfl ?_
            refine g_goto (tgt := 98) dX9_stop_94 (by decide) ?_
            refine g_istore_n dX9_stop_98 rfl (Nat.le_of_ble_eq_true rfl) rfl ?_
            refine g_iinc (q := 4) (v := (b4 + (1 : Int32))) dX9_stop_99 rfl rfl (Nat.le_of_ble_eq_true rfl) rfl ?_
            refine g_goto (tgt := 27) dX9_stop_102 (by decide) ?_
            refine g_sub [2, 3, 4, 1, 0] rfl ?_
            exact ih b4 (b4 + (1 : Int32)) q13.2 _ hf hk
        · replace hf := (if_neg c26).symm.trans hf
          refine g_iload 4 dX9_stop_59 rfl ?_
          obtain ⟨q16, e17, hf⟩ := bnd_some hf
          refine p_callS (As := [.int b4]) (rest := []) (t_X9_bits e17) cw_1200 w_1201 (Nat.le_of_ble_eq_true rfl) rfl rfl (Nat.le_of_ble_eq_true rfl) dX9_stop_61 ?_
          refine g_iload_n 3 dX9_stop_64 rfl rfl ?_
          obtain ⟨q18, e19, hf⟩ := bnd_some hf
          refine p_callS (As := [.int b3]) (rest := [.int q16]) (t_X9_bits e19) cw_1200 w_1201 (Nat.le_of_ble_eq_true rfl) rfl rfl (Nat.le_of_ble_eq_true rfl) dX9_stop_65 ?_
          refine g_icmp_lt (tgt := 74) dX9_stop_68 (by decide) (fun c25 => ?_) (fun c25 => ?_)
          · replace hf := (if_pos c25).symm.trans hf
            refine g_aload_n 0 dX9_stop_74 rfl rfl ?_
            refine gf_930 dX9_stop_75 rfl ob_187 rfl ?_
            refine g_iconst (v := 2) dX9_stop_78 rfl ?_
            refine g_iload_n 2 dX9_stop_79 rfl rfl ?_
            refine g_iload 4 dX9_stop_80 rfl ?_
            refine g_ior dX9_stop_82 ?_
            obtain ⟨m20, e21, hf⟩ := bnd_some hf
            refine p_iast dX9_stop_83 at_189 e21 ?_
            refine g_aload_n 0 dX9_stop_84 rfl rfl ?_
            refine g_iload_n 1 dX9_stop_85 rfl rfl ?_
            obtain ⟨q22, e23, hf⟩ := bnd_some hf
            refine p_callV (As := [.int b1]) (rest := []) (t_X9_costOf e23) cw_1080 w_1082 w_36 ob_187 rfl (Nat.le_of_ble_eq_true rfl) rfl rfl (Nat.le_of_ble_eq_true rfl) dX9_stop_86 ?_
            refine g_if_ge (tgt := 97) dX9_stop_89 (by decide) (fun c24 => ?_) (fun c24 => ?_)
            · replace hf := (if_pos c24).symm.trans hf
              refine g_iload_n 3 dX9_stop_97 rfl rfl ?_
              refine g_istore_n dX9_stop_98 rfl (Nat.le_of_ble_eq_true rfl) rfl ?_
              refine g_iinc (q := 4) (v := (b4 + (1 : Int32))) dX9_stop_99 rfl rfl (Nat.le_of_ble_eq_true rfl) rfl ?_
              refine g_goto (tgt := 27) dX9_stop_102 (by decide) ?_
              refine g_sub [2, 3, 4, 1, 0] rfl ?_
              exact ih b3 (b4 + (1 : Int32)) q22.2 _ hf hk
            · replace hf := (if_neg c24).symm.trans hf
              refine g_iload 4 dX9_stop_92 rfl ?_
              refine g_goto (tgt := 98) dX9_stop_94 (by decide) ?_
              refine g_istore_n dX9_stop_98 rfl (Nat.le_of_ble_eq_true rfl) rfl ?_
              refine g_iinc (q := 4) (v := (b4 + (1 : Int32))) dX9_stop_99 rfl rfl (Nat.le_of_ble_eq_true rfl) rfl ?_
              refine g_goto (tgt := 27) dX9_stop_102 (by decide) ?_
              refine g_sub [2, 3, 4, 1, 0] rfl ?_
              exact ih b4 (b4 + (1 : Int32)) q22.2 _ hf hk
          · replace hf := (if_neg c25).symm.trans hf
            refine g_goto (tgt := 99) dX9_stop_71 (by decide) ?_
            refine g_iinc (q := 4) (v := (b4 + (1 : Int32))) dX9_stop_99 rfl rfl (Nat.le_of_ble_eq_true rfl) rfl ?_
            refine g_goto (tgt := 27) dX9_stop_102 (by decide) ?_
            refine g_sub [1, 2, 3, 4, 0] rfl ?_
            exact ih b3 (b4 + (1 : Int32)) m _ hf hk

set_option maxRecDepth 100000 in
theorem t_X9_stop {V : eV} {a1 : Int32}  {m : mM} {q : Int32 × mM} (hf : f_X9_stop a1 m = some q) : eE V 7 yX9_stop cX9_stop 5 (some .int) [.ref (vB V + 187), .int a1] (hS m) (some (.int q.1)) (hS q.2) := by
  refine eE_of (by decide) (Nat.le_of_ble_eq_true rfl) ?_
  show gG V k_X9_stop 0 [(0, .ref (vB V + 187)), (1, .int a1)] [] (hS m) _ _
  unfold f_X9_stop at hf
  refine g_aload_n 0 dX9_stop_0 rfl rfl ?_
  refine g_iload_n 1 dX9_stop_1 rfl rfl ?_
  obtain ⟨q1, e2, hf⟩ := bnd_some hf
  refine p_callV (As := [.int a1]) (rest := []) (t_X9_isWork e2) cw_1120 w_1122 w_43 ob_187 rfl (Nat.le_of_ble_eq_true rfl) rfl rfl (Nat.le_of_ble_eq_true rfl) dX9_stop_2 ?_
  refine g_if_ne (tgt := 14) dX9_stop_5 (by decide) (fun c33 => ?_) (fun c33 => ?_)
  · replace hf := (if_neg c33).symm.trans hf
    refine g_aload_n 0 dX9_stop_14 rfl rfl ?_
    refine gf_930 dX9_stop_15 rfl ob_187 rfl ?_
    refine g_iconst (v := 2) dX9_stop_18 rfl ?_
    obtain ⟨v5, e6, hf⟩ := bnd_some hf
    refine p_iald dX9_stop_19 at_189 e6 ?_
    refine g_istore_n dX9_stop_20 rfl (Nat.le_of_ble_eq_true rfl) rfl ?_
    refine g_bipush (v := -9) dX9_stop_21 rfl ?_
    refine g_istore_n dX9_stop_23 rfl (Nat.le_of_ble_eq_true rfl) rfl ?_
    refine g_iconst (v := 0) dX9_stop_24 rfl ?_
    refine g_istore dX9_stop_25 (Nat.le_of_ble_eq_true rfl) rfl ?_
    refine g_sub [3, 4, 2, 1, 0] rfl ?_
    obtain ⟨o29, e30, hf⟩ := bnd_some hf
    refine t_X9_stop_L27 (V := V) a1 v5 fU (-9 : Int32) (0 : Int32) m _ e30 ?_
    refine g_aload_n 0 dX9_stop_105 rfl rfl ?_
    refine gf_930 dX9_stop_106 rfl ob_187 rfl ?_
    refine g_iconst (v := 2) dX9_stop_109 rfl ?_
    refine g_iload_n 1 dX9_stop_110 rfl rfl ?_
    obtain ⟨m31, e32, hf⟩ := bnd_some hf
    refine p_iast dX9_stop_111 at_189 e32 ?_
    refine g_iload_n 2 dX9_stop_112 rfl rfl ?_
    cases hf
    exact g_iret dX9_stop_113 .int rfl rfl
  · replace hf := (if_pos c33).symm.trans hf
    refine g_aload_n 0 dX9_stop_8 rfl rfl ?_
    refine g_iconst (v := -1) dX9_stop_9 rfl ?_
    obtain ⟨q3, e4, hf⟩ := bnd_some hf
    refine p_callV (As := [.int (-1 : Int32)]) (rest := []) (t_X9_refuse e4) cw_1000 w_1002 w_22 ob_187 rfl (Nat.le_of_ble_eq_true rfl) rfl rfl (Nat.le_of_ble_eq_true rfl) dX9_stop_10 ?_
    cases hf
    exact g_iret dX9_stop_13 .int rfl rfl

abbrev k_X9_areStopped : kX := (cX9_areStopped, "WhoseHourItIsModel", "areStopped", some .boolean, 3, 7)
def f_X9_areStopped_L2 (b1 : Int32) : Nat → Int32 → mM → Option ((Int32 × mM) ⊕ (mM))
  | 0, _, _ => none
  | n + 1, b2, m =>
      bnd (rdA 189 189 (1 : Int32) m) fun v1 =>
      if v1 ≤ b2 then (
      some (.inr m))
      else (
      bnd (f_X9_of b2 (0 : Int32) m) fun q3 =>
      if ((b1 >>> (q3 &&& 31)) &&& (1 : Int32)) = 0 then (
      bnd (f_X9_costOf b2 m) fun q5 =>
      if q5.1 < 0 then (
      f_X9_areStopped_L2 b1 n (b2 + (1 : Int32)) q5.2)
      else (
      some (.inl ((0 : Int32), q5.2))))
      else (
      f_X9_areStopped_L2 b1 n (b2 + (1 : Int32)) m))
def f_X9_areStopped (a1 : Int32) (m : mM) : Option (Int32 × mM) :=
bnd (f_X9_areStopped_L2 a1 fU (0 : Int32) m) fun o10 =>
ora o10 (fun zq => some zq) fun x11 =>
some ((1 : Int32), x11)
set_option maxRecDepth 100000 in
theorem t_X9_areStopped_L2 {V : eV} (b1 : Int32) {r : Option Value} {h' : aH} : ∀ (n : Nat) (b2 : Int32) (m : mM) (o : (Int32 × mM) ⊕ (mM)), f_X9_areStopped_L2 b1 n b2 m = some o → lxI hS o r h' (fun x => gG V k_X9_areStopped 41 [] [] (hS x) r h') → gG V k_X9_areStopped 2 [(0, .ref (vB V + 187)), (1, .int b1), (2, .int b2)] [] (hS m) r h' := by
  intro n
  induction n with
  | zero => intro b2 m o hf; cases hf
  | succ n ih =>
    intro b2 m o hf hk
    rw [f_X9_areStopped_L2] at hf
    refine g_iload_n 2 dX9_areStopped_2 rfl rfl ?_
    refine g_aload_n 0 dX9_areStopped_3 rfl rfl ?_
    refine gf_930 dX9_areStopped_4 rfl ob_187 rfl ?_
    refine g_iconst (v := 1) dX9_areStopped_7 rfl ?_
    obtain ⟨v1, e2, hf⟩ := bnd_some hf
    refine p_iald dX9_areStopped_8 at_189 e2 ?_
    refine g_icmp_ge (tgt := 41) dX9_areStopped_9 (by decide) (fun c9 => ?_) (fun c9 => ?_)
    · replace hf := (if_pos c9).symm.trans hf
      cases hf
      refine g_sub [] rfl ?_
      exact hk
    · replace hf := (if_neg c9).symm.trans hf
      refine g_iload_n 1 dX9_areStopped_12 rfl rfl ?_
      refine g_aload_n 0 dX9_areStopped_13 rfl rfl ?_
      refine g_iload_n 2 dX9_areStopped_14 rfl rfl ?_
      refine g_iconst (v := 0) dX9_areStopped_15 rfl ?_
      obtain ⟨q3, e4, hf⟩ := bnd_some hf
      refine p_callV (As := [.int b2, .int (0 : Int32)]) (rest := [.int b1]) (t_X9_of e4) cw_1072 w_1074 w_34 ob_187 rfl (Nat.le_of_ble_eq_true rfl) rfl rfl (Nat.le_of_ble_eq_true rfl) dX9_areStopped_16 ?_
      refine g_ishr dX9_areStopped_19 ?_
      refine g_iconst (v := 1) dX9_areStopped_20 rfl ?_
      refine g_iand dX9_areStopped_21 ?_
      refine g_if_ne (tgt := 35) dX9_areStopped_22 (by decide) (fun c8 => ?_) (fun c8 => ?_)
      · replace hf := (if_neg c8).symm.trans hf
        refine g_iinc (q := 2) (v := (b2 + (1 : Int32))) dX9_areStopped_35 rfl rfl (Nat.le_of_ble_eq_true rfl) rfl ?_
        refine g_goto (tgt := 2) dX9_areStopped_38 (by decide) ?_
        refine g_sub [1, 2, 0] rfl ?_
        exact ih (b2 + (1 : Int32)) m _ hf hk
      · replace hf := (if_pos c8).symm.trans hf
        refine g_aload_n 0 dX9_areStopped_25 rfl rfl ?_
        refine g_iload_n 2 dX9_areStopped_26 rfl rfl ?_
        obtain ⟨q5, e6, hf⟩ := bnd_some hf
        refine p_callV (As := [.int b2]) (rest := []) (t_X9_costOf e6) cw_1080 w_1082 w_36 ob_187 rfl (Nat.le_of_ble_eq_true rfl) rfl rfl (Nat.le_of_ble_eq_true rfl) dX9_areStopped_27 ?_
        refine g_if_lt (tgt := 35) dX9_areStopped_30 (by decide) (fun c7 => ?_) (fun c7 => ?_)
        · replace hf := (if_pos c7).symm.trans hf
          refine g_iinc (q := 2) (v := (b2 + (1 : Int32))) dX9_areStopped_35 rfl rfl (Nat.le_of_ble_eq_true rfl) rfl ?_
          refine g_goto (tgt := 2) dX9_areStopped_38 (by decide) ?_
          refine g_sub [1, 2, 0] rfl ?_
          exact ih (b2 + (1 : Int32)) q5.2 _ hf hk
        · replace hf := (if_neg c7).symm.trans hf
          refine g_iconst (v := 0) dX9_areStopped_33 rfl ?_
          cases hf
          obtain ⟨rfl, rfl⟩ := hk
          exact g_iret dX9_areStopped_34 .boolean rfl rfl

set_option maxRecDepth 100000 in
theorem t_X9_areStopped {V : eV} {a1 : Int32}  {m : mM} {q : Int32 × mM} (hf : f_X9_areStopped a1 m = some q) : eE V 7 yX9_areStopped cX9_areStopped 3 (some .boolean) [.ref (vB V + 187), .int a1] (hS m) (some (.int q.1)) (hS q.2) := by
  refine eE_of (by decide) (Nat.le_of_ble_eq_true rfl) ?_
  show gG V k_X9_areStopped 0 [(0, .ref (vB V + 187)), (1, .int a1)] [] (hS m) _ _
  unfold f_X9_areStopped at hf
  refine g_iconst (v := 0) dX9_areStopped_0 rfl ?_
  refine g_istore_n dX9_areStopped_1 rfl (Nat.le_of_ble_eq_true rfl) rfl ?_
  refine g_sub [1, 2, 0] rfl ?_
  obtain ⟨o10, e12, hf⟩ := bnd_some hf
  refine t_X9_areStopped_L2 (V := V) a1 fU (0 : Int32) m _ e12 ?_
  rcases o10 with zq | x11
  · replace hf := ora_l hf
    cases hf
    exact ⟨rfl, rfl⟩
  · replace hf := ora_r hf
    show gG V _ _ _ _ _ _ _
    refine g_iconst (v := 1) dX9_areStopped_41 rfl ?_
    cases hf
    exact g_iret dX9_areStopped_42 .boolean rfl rfl

abbrev k_X9_stopAll : kX := (cX9_stopAll, "WhoseHourItIsModel", "stopAll", some .int, 4, 8)
def f_X9_stopAll_L12 (b1 : Int32) : Nat → Int32 → Int32 → mM → Option (Int32 × mM)
  | 0, _, _, _ => none
  | n + 1, b2, b3, m =>
      bnd (rdA 189 189 (0 : Int32) m) fun v3 =>
      if ((1 : Int32) <<< (v3 &&& 31)) ≤ b3 then (
      some (b2, m))
      else (
      if b2 < 0 then (
      bnd (wrA 189 189 (2 : Int32) (b1 ||| b3) m) fun m5 =>
      bnd (f_X9_areStopped b3 m5) fun q7 =>
      if q7.1 = 0 then (
      f_X9_stopAll_L12 b1 n b2 (b3 + (1 : Int32)) q7.2)
      else (
      f_X9_stopAll_L12 b1 n b3 (b3 + (1 : Int32)) q7.2))
      else (
      bnd (f_X9_bits b3 m) fun q10 =>
      bnd (f_X9_bits b2 m) fun q12 =>
      if q10 < q12 then (
      bnd (wrA 189 189 (2 : Int32) (b1 ||| b3) m) fun m14 =>
      bnd (f_X9_areStopped b3 m14) fun q16 =>
      if q16.1 = 0 then (
      f_X9_stopAll_L12 b1 n b2 (b3 + (1 : Int32)) q16.2)
      else (
      f_X9_stopAll_L12 b1 n b3 (b3 + (1 : Int32)) q16.2))
      else (
      f_X9_stopAll_L12 b1 n b2 (b3 + (1 : Int32)) m)))
def f_X9_stopAll  (m : mM) : Option (Int32 × mM) :=
bnd (rdA 189 189 (2 : Int32) m) fun v1 =>
bnd (f_X9_stopAll_L12 v1 fU (-9 : Int32) (0 : Int32) m) fun o22 =>
bnd (wrA 189 189 (2 : Int32) v1 o22.2) fun m24 =>
some (o22.1, m24)
set_option maxRecDepth 100000 in
theorem t_X9_stopAll_L12 {V : eV} (b1 : Int32) {r : Option Value} {h' : aH} : ∀ (n : Nat) (b2 : Int32) (b3 : Int32) (m : mM) (o : Int32 × mM), f_X9_stopAll_L12 b1 n b2 b3 m = some o → gG V k_X9_stopAll 71 [(0, .ref (vB V + 187)), (1, .int b1), (2, .int o.1)] [] (hS o.2) r h' → gG V k_X9_stopAll 12 [(0, .ref (vB V + 187)), (1, .int b1), (2, .int b2), (3, .int b3)] [] (hS m) r h' := by
  intro n
  induction n with
  | zero => intro b2 b3 m o hf; cases hf
  | succ n ih =>
    intro b2 b3 m o hf hk
    rw [f_X9_stopAll_L12] at hf
    refine g_iload_n 3 dX9_stopAll_12 rfl rfl ?_
    refine g_iconst (v := 1) dX9_stopAll_13 rfl ?_
    refine g_aload_n 0 dX9_stopAll_14 rfl rfl ?_
    refine gf_930 dX9_stopAll_15 rfl ob_187 rfl ?_
    refine g_iconst (v := 0) dX9_stopAll_18 rfl ?_
    obtain ⟨v3, e4, hf⟩ := bnd_some hf
    refine p_iald dX9_stopAll_19 at_189 e4 ?_
    refine g_ishl dX9_stopAll_20 ?_
    refine g_icmp_ge (tgt := 71) dX9_stopAll_21 (by decide) (fun c21 => ?_) (fun c21 => ?_)
    · replace hf := (if_pos c21).symm.trans hf
      cases hf
      refine g_sub [0, 1, 2] rfl ?_
      exact hk
    · replace hf := (if_neg c21).symm.trans hf
      refine g_iload_n 2 dX9_stopAll_24 rfl rfl ?_
      refine g_if_lt (tgt := 42) dX9_stopAll_25 (by decide) (fun c20 => ?_) (fun c20 => ?_)
      · replace hf := (if_pos c20).symm.trans hf
        refine g_aload_n 0 dX9_stopAll_42 rfl rfl ?_
        refine gf_930 dX9_stopAll_43 rfl ob_187 rfl ?_
        refine g_iconst (v := 2) dX9_stopAll_46 rfl ?_
        refine g_iload_n 1 dX9_stopAll_47 rfl rfl ?_
        refine g_iload_n 3 dX9_stopAll_48 rfl rfl ?_
        refine g_ior dX9_stopAll_49 ?_
        obtain ⟨m5, e6, hf⟩ := bnd_some hf
        refine p_iast dX9_stopAll_50 at_189 e6 ?_
        refine g_aload_n 0 dX9_stopAll_51 rfl rfl ?_
        refine g_iload_n 3 dX9_stopAll_52 rfl rfl ?_
        obtain ⟨q7, e8, hf⟩ := bnd_some hf
        refine p_callV (As := [.int b3]) (rest := []) (t_X9_areStopped e8) cw_1207 w_1209 w_49 ob_187 rfl (Nat.le_of_ble_eq_true rfl) rfl rfl (Nat.le_of_ble_eq_true rfl) dX9_stopAll_53 ?_
        refine g_if_eq (tgt := 63) dX9_stopAll_56 (by decide) (fun c9 => ?_) (fun c9 => ?_)
        · replace hf := (if_pos c9).symm.trans hf
          refine g_iload_n 2 dX9_stopAll_63 rfl rfl ?_
          refine g_istore_n dX9_stopAll_64 rfl (Nat.le_of_ble_eq_true rfl) rfl ?_
          refine g_iinc (q := 3) (v := (b3 + (1 : Int32))) dX9_stopAll_65 rfl rfl (Nat.le_of_ble_eq_true rfl) rfl ?_
          refine g_goto (tgt := 12) dX9_stopAll_68 (by decide) ?_
          refine g_sub [2, 3, 1, 0] rfl ?_
          exact ih b2 (b3 + (1 : Int32)) q7.2 _ hf hk
        · replace hf := (if_neg c9).symm.trans hf
          refine g_iload_n 3 dX9_stopAll_59 rfl rfl ?_
          refine g_goto (tgt := 64) dX9_stopAll_60 (by decide) ?_
          refine g_istore_n dX9_stopAll_64 rfl (Nat.le_of_ble_eq_true rfl) rfl ?_
          refine g_iinc (q := 3) (v := (b3 + (1 : Int32))) dX9_stopAll_65 rfl rfl (Nat.le_of_ble_eq_true rfl) rfl ?_
          refine g_goto (tgt := 12) dX9_stopAll_68 (by decide) ?_
          refine g_sub [2, 3, 1, 0] rfl ?_
          exact ih b3 (b3 + (1 : Int32)) q7.2 _ hf hk
      · replace hf := (if_neg c20).symm.trans hf
        refine g_iload_n 3 dX9_stopAll_28 rfl rfl ?_
        obtain ⟨q10, e11, hf⟩ := bnd_some hf
        refine p_callS (As := [.int b3]) (rest := []) (t_X9_bits e11) cw_1200 w_1201 (Nat.le_of_ble_eq_true rfl) rfl rfl (Nat.le_of_ble_eq_true rfl) dX9_stopAll_29 ?_
        refine g_iload_n 2 dX9_stopAll_32 rfl rfl ?_
        obtain ⟨q12, e13, hf⟩ := bnd_some hf
        refine p_callS (As := [.int b2]) (rest := [.int q10]) (t_X9_bits e13) cw_1200 w_1201 (Nat.le_of_ble_eq_true rfl) rfl rfl (Nat.le_of_ble_eq_true rfl) dX9_stopAll_33 ?_
        refine g_icmp_lt (tgt := 42) dX9_stopAll_36 (by decide) (fun c19 => ?_) (fun c19 => ?_)
        · replace hf := (if_pos c19).symm.trans hf
          refine g_aload_n 0 dX9_stopAll_42 rfl rfl ?_
          refine gf_930 dX9_stopAll_43 rfl ob_187 rfl ?_
          refine g_iconst (v := 2) dX9_stopAll_46 rfl ?_
          refine g_iload_n 1 dX9_stopAll_47 rfl rfl ?_
          refine g_iload_n 3 dX9_stopAll_48 rfl rfl ?_
          refine g_ior dX9_stopAll_49 ?_
          obtain ⟨m14, e15, hf⟩ := bnd_some hf
          refine p_iast dX9_stopAll_50 at_189 e15 ?_
          refine g_aload_n 0 dX9_stopAll_51 rfl rfl ?_
          refine g_iload_n 3 dX9_stopAll_52 rfl rfl ?_
          obtain ⟨q16, e17, hf⟩ := bnd_some hf
          refine p_callV (As := [.int b3]) (rest := []) (t_X9_areStopped e17) cw_1207 w_1209 w_49 ob_187 rfl (Nat.le_of_ble_eq_true rfl) rfl rfl (Nat.le_of_ble_eq_true rfl) dX9_stopAll_53 ?_
          refine g_if_eq (tgt := 63) dX9_stopAll_56 (by decide) (fun c18 => ?_) (fun c18 => ?_)
          · replace hf := (if_pos c18).symm.trans hf
            refine g_iload_n 2 dX9_stopAll_63 rfl rfl ?_
            refine g_istore_n dX9_stopAll_64 rfl (Nat.le_of_ble_eq_true rfl) rfl ?_
            refine g_iinc (q := 3) (v := (b3 + (1 : Int32))) dX9_stopAll_65 rfl rfl (Nat.le_of_ble_eq_true rfl) rfl ?_
            refine g_goto (tgt := 12) dX9_stopAll_68 (by decide) ?_
            refine g_sub [2, 3, 1, 0] rfl ?_
            exact ih b2 (b3 + (1 : Int32)) q16.2 _ hf hk
          · replace hf := (if_neg c18).symm.trans hf
            refine g_iload_n 3 dX9_stopAll_59 rfl rfl ?_
            refine g_goto (tgt := 64) dX9_stopAll_60 (by decide) ?_
            refine g_istore_n dX9_stopAll_64 rfl (Nat.le_of_ble_eq_true rfl) rfl ?_
            refine g_iinc (q := 3) (v := (b3 + (1 : Int32))) dX9_stopAll_65 rfl rfl (Nat.le_of_ble_eq_true rfl) rfl ?_
            refine g_goto (tgt := 12) dX9_stopAll_68 (by decide) ?_
            refine g_sub [2, 3, 1, 0] rfl ?_
            exact ih b3 (b3 + (1 : Int32)) q16.2 _ hf hk
        · replace hf := (if_neg c19).symm.trans hf
          refine g_goto (tgt := 65) dX9_stopAll_39 (by decide) ?_
          refine g_iinc (q := 3) (v := (b3 + (1 : Int32))) dX9_stopAll_65 rfl rfl (Nat.le_of_ble_eq_true rfl) rfl ?_
          refine g_goto (tgt := 12) dX9_stopAll_68 (by decide) ?_
          refine g_sub [1, 2, 3, 0] rfl ?_
          exact ih b2 (b3 + (1 : Int32)) m _ hf hk

set_option maxRecDepth 100000 in
theorem t_X9_stopAll {V : eV}  {m : mM} {q : Int32 × mM} (hf : f_X9_stopAll  m = some q) : eE V 8 yX9_stopAll cX9_stopAll 4 (some .int) [.ref (vB V + 187)] (hS m) (some (.int q.1)) (hS q.2) := by
  refine eE_of (by decide) (Nat.le_of_ble_eq_true rfl) ?_
  show gG V k_X9_stopAll 0 [(0, .ref (vB V + 187))] [] (hS m) _ _
  unfold f_X9_stopAll at hf
  refine g_aload_n 0 dX9_stopAll_0 rfl rfl ?_
  refine gf_930 dX9_stopAll_1 rfl ob_187 rfl ?_
  refine g_iconst (v := 2) dX9_stopAll_4 rfl ?_
  obtain ⟨v1, e2, hf⟩ := bnd_some hf
  refine p_iald dX9_stopAll_5 at_189 e2 ?_
  refine g_istore_n dX9_stopAll_6 rfl (Nat.le_of_ble_eq_true rfl) rfl ?_
  refine g_bipush (v := -9) dX9_stopAll_7 rfl ?_
  refine g_istore_n dX9_stopAll_9 rfl (Nat.le_of_ble_eq_true rfl) rfl ?_
  refine g_iconst (v := 0) dX9_stopAll_10 rfl ?_
  refine g_istore_n dX9_stopAll_11 rfl (Nat.le_of_ble_eq_true rfl) rfl ?_
  refine g_sub [3, 2, 1, 0] rfl ?_
  obtain ⟨o22, e23, hf⟩ := bnd_some hf
  refine t_X9_stopAll_L12 (V := V) v1 fU (-9 : Int32) (0 : Int32) m _ e23 ?_
  refine g_aload_n 0 dX9_stopAll_71 rfl rfl ?_
  refine gf_930 dX9_stopAll_72 rfl ob_187 rfl ?_
  refine g_iconst (v := 2) dX9_stopAll_75 rfl ?_
  refine g_iload_n 1 dX9_stopAll_76 rfl rfl ?_
  obtain ⟨m24, e25, hf⟩ := bnd_some hf
  refine p_iast dX9_stopAll_77 at_189 e25 ?_
  refine g_iload_n 2 dX9_stopAll_78 rfl rfl ?_
  cases hf
  exact g_iret dX9_stopAll_79 .int rfl rfl

