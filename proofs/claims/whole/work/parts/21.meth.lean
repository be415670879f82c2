/-! printed by wip/whole/gen_meth.py: plain functions of the methods, and that the bytecode does as they say -/
abbrev k_X8_town : kX := (cX8_town, "WhoseHourItIs", "town", some .int, 2, 7)
def f_X8_town  (m : mM) : Option (Int32 × mM) :=
bnd (f_X6_formFault m) fun q1 =>
if q1.1 = 0 then (
bnd (f_X7_copyFrom_51_1 q1.2) fun q3 =>
bnd (f_X6_tellTo q3) fun q5 =>
if q5.1 ≤ 0 then (
bnd (some (m_up q5.2 151 0 (0 : Int32))) fun m7 =>
some (q5.1, m7))
else (
bnd (f_X7_copyFrom_1_51 q5.2) fun q9 =>
bnd (some (m_up q9 151 0 (0 : Int32))) fun m11 =>
some (q5.1, m11)))
else (
bnd (some (m_up q1.2 151 0 (0 : Int32))) fun m14 =>
some (q1.1, m14))
set_option maxRecDepth 100000 in
theorem t_X8_town {V : eV}  {m : mM} {q : Int32 × mM} (hf : f_X8_town  m = some q) : eE V 7 yX8_town cX8_town 2 (some .int) [.ref (vB V + 0)] (hS m) (some (.int q.1)) (hS q.2) := by
  refine eE_of (by decide) (Nat.le_of_ble_eq_true rfl) ?_
  show gG V k_X8_town 0 [(0, .ref (vB V + 0))] [] (hS m) _ _
  unfold f_X8_town at hf
  refine g_aload_n 0 dX8_town_0 rfl rfl ?_
  refine gf_318 dX8_town_1 rfl ob_0 rfl ?_
  obtain ⟨q1, e2, hf⟩ := bnd_some hf
  refine p_callV (As := []) (rest := []) (t_X6_formFault e2) cw_368 w_369 w_370 ob_151 rfl (Nat.le_of_ble_eq_true rfl) rfl rfl (Nat.le_of_ble_eq_true rfl) dX8_town_4 ?_
  refine g_istore_n dX8_town_7 rfl (Nat.le_of_ble_eq_true rfl) rfl ?_
  refine g_iload_n 0 dX8_town_8 rfl rfl ?_
  refine g_if_ne (tgt := 50) dX8_town_9 (by decide) (fun c16 => ?_) (fun c16 => ?_)
  · replace hf := (if_neg c16).symm.trans hf
    refine g_aload_n 1 dX8_town_50 rfl rfl ?_
    refine gf_318 dX8_town_51 rfl ob_0 rfl ?_
    refine g_iconst (v := 0) dX8_town_54 rfl ?_
    obtain ⟨m14, e15, hf⟩ := bnd_some hf
    cases e15
    refine pf_175 dX8_town_55 rfl ob_151 rfl ?_
    generalize m_up q1.2 151 0 (0 : Int32) = m14 at hf ⊢
    refine g_iload_n 0 dX8_town_58 rfl rfl ?_
    cases hf
    exact g_iret dX8_town_59 .int rfl rfl
  · replace hf := (if_pos c16).symm.trans hf
    refine g_aload_n 1 dX8_town_12 rfl rfl ?_
    refine gf_315 dX8_town_13 rfl ob_0 rfl ?_
    refine g_aload_n 1 dX8_town_16 rfl rfl ?_
    refine gf_314 dX8_town_17 rfl ob_0 rfl ?_
    obtain ⟨q3, e4, hf⟩ := bnd_some hf
    refine p_callVv (As := [.ref (vB V + 1)]) (rest := []) (t_X7_copyFrom_51_1 e4) cw_499 w_500 w_501 ob_51 rfl (Nat.le_of_ble_eq_true rfl) rfl rfl (Nat.le_of_ble_eq_true rfl) dX8_town_20 ?_
    refine g_aload_n 1 dX8_town_23 rfl rfl ?_
    refine gf_318 dX8_town_24 rfl ob_0 rfl ?_
    refine g_aload_n 1 dX8_town_27 rfl rfl ?_
    refine gf_315 dX8_town_28 rfl ob_0 rfl ?_
    obtain ⟨q5, e6, hf⟩ := bnd_some hf
    refine p_callV (As := [.ref (vB V + 51)]) (rest := []) (t_X6_tellTo e6) cw_506 w_507 w_508 ob_151 rfl (Nat.le_of_ble_eq_true rfl) rfl rfl (Nat.le_of_ble_eq_true rfl) dX8_town_31 ?_
    refine g_istore_n dX8_town_34 rfl (Nat.le_of_ble_eq_true rfl) rfl ?_
    refine g_iload_n 0 dX8_town_35 rfl rfl ?_
    refine g_if_le (tgt := 50) dX8_town_36 (by decide) (fun c13 => ?_) (fun c13 => ?_)
    · replace hf := (if_pos c13).symm.trans hf
      refine g_aload_n 1 dX8_town_50 rfl rfl ?_
      refine gf_318 dX8_town_51 rfl ob_0 rfl ?_
      refine g_iconst (v := 0) dX8_town_54 rfl ?_
      obtain ⟨m7, e8, hf⟩ := bnd_some hf
      cases e8
      refine pf_175 dX8_town_55 rfl ob_151 rfl ?_
      generalize m_up q5.2 151 0 (0 : Int32) = m7 at hf ⊢
      refine g_iload_n 0 dX8_town_58 rfl rfl ?_
      cases hf
      exact g_iret dX8_town_59 .int rfl rfl
    · replace hf := (if_neg c13).symm.trans hf
      refine g_aload_n 1 dX8_town_39 rfl rfl ?_
      refine gf_314 dX8_town_40 rfl ob_0 rfl ?_
      refine g_aload_n 1 dX8_town_43 rfl rfl ?_
      refine gf_315 dX8_town_44 rfl ob_0 rfl ?_
      obtain ⟨q9, e10, hf⟩ := bnd_some hf
      refine p_callVv (As := [.ref (vB V + 51)]) (rest := []) (t_X7_copyFrom_1_51 e10) cw_499 w_500 w_501 ob_1 rfl (Nat.le_of_ble_eq_true rfl) rfl rfl (Nat.le_of_ble_eq_true rfl) dX8_town_47 ?_
      refine g_aload_n 1 dX8_town_50 rfl rfl ?_
      refine gf_318 dX8_town_51 rfl ob_0 rfl ?_
      refine g_iconst (v := 0) dX8_town_54 rfl ?_
      obtain ⟨m11, e12, hf⟩ := bnd_some hf
      cases e12
      refine pf_175 dX8_town_55 rfl ob_151 rfl ?_
      generalize m_up q9 151 0 (0 : Int32) = m11 at hf ⊢
      refine g_iload_n 0 dX8_town_58 rfl rfl ?_
      cases hf
      exact g_iret dX8_town_59 .int rfl rfl

abbrev k_X7_hasHolder_1 : kX := (cX7_hasHolder, "WhoseHourItIs$Town", "hasHolder", some .boolean, 2, 0)
def f_X7_hasHolder_1 (a1 : Int32) (m : mM) : Option (Int32) :=
if a1 < 0 then (
some (0 : Int32))
else (
if (m 1 0) ≤ a1 then (
some (0 : Int32))
else (
some (1 : Int32)))
set_option maxRecDepth 100000 in
theorem t_X7_hasHolder_1 {V : eV} {a1 : Int32}  {m : mM} {q : Int32} (hf : f_X7_hasHolder_1 a1 m = some q) : eE V 0 yX7_hasHolder cX7_hasHolder 2 (some .boolean) [.ref (vB V + 1), .int a1] (hS m) (some (.int q)) (hS m) := by
  refine eE_of (by decide) (Nat.le_of_ble_eq_true rfl) ?_
  show gG V k_X7_hasHolder_1 0 [(0, .ref (vB V + 1)), (1, .int a1)] [] (hS m) _ _
  unfold f_X7_hasHolder_1 at hf
  refine g_iload_n 1 dX7_hasHolder_0 rfl rfl ?_
  refine g_if_lt (tgt := 16) dX7_hasHolder_1 (by decide) (fun c2 => ?_) (fun c2 => ?_)
  · replace hf := (if_pos c2).symm.trans hf
    refine g_iconst (v := 0) dX7_hasHolder_16 rfl ?_
    cases hf
    exact g_iret dX7_hasHolder_17 .boolean rfl rfl
  · replace hf := (if_neg c2).symm.trans hf
    refine g_iload_n 1 dX7_hasHolder_4 rfl rfl ?_
    refine g_aload_n 0 dX7_hasHolder_5 rfl rfl ?_
    refine gf_91 dX7_hasHolder_6 rfl ob_1 rfl ?_
    refine g_icmp_ge (tgt := 16) dX7_hasHolder_9 (by decide) (fun c1 => ?_) (fun c1 => ?_)
    · replace hf := (if_pos c1).symm.trans hf
      refine g_iconst (v := 0) dX7_hasHolder_16 rfl ?_
      cases hf
      exact g_iret dX7_hasHolder_17 .boolean rfl rfl
    · replace hf := (if_neg c1).symm.trans hf
      refine g_iconst (v := 1) dX7_hasHolder_12 rfl ?_
      refine g_goto (tgt := 17) dX7_hasHolder_13 (by decide) ?_
      cases hf
      exact g_iret dX7_hasHolder_17 .boolean rfl rfl

abbrev k_X7_isFree : kX := (cX7_isFree, "WhoseHourItIs$Town", "isFree", some .boolean, 5, 0)
def f_X7_isFree (a1 : Int32) (a2 : Int32) (a3 : Int32) (m : mM) : Option (Int32) :=
bnd (ckR 6 a1) fun j1 =>
bnd (rdA (44 + j1) 6 (0 : Int32) m) fun v3 =>
if a2 = v3 then (
some (1 : Int32))
else (
bnd (rdA 12 8 v3 m) fun v5 =>
if v5 = a2 then (
some (1 : Int32))
else (
if a3 = (m 1 3) then (
bnd (ckR 6 a1) fun j7 =>
bnd (rdA (44 + j7) 6 (5 : Int32) m) fun v9 =>
if v9 = (m 1 4) then (
some (1 : Int32))
else (
some (0 : Int32)))
else (
some (0 : Int32))))
set_option maxRecDepth 100000 in
theorem t_X7_isFree {V : eV} {a1 : Int32} {a2 : Int32} {a3 : Int32}  {m : mM} {q : Int32} (hf : f_X7_isFree a1 a2 a3 m = some q) : eE V 0 yX7_isFree cX7_isFree 5 (some .boolean) [.ref (vB V + 1), .int a1, .int a2, .int a3] (hS m) (some (.int q)) (hS m) := by
  refine eE_of (by decide) (Nat.le_of_ble_eq_true rfl) ?_
  show gG V k_X7_isFree 0 [(0, .ref (vB V + 1)), (1, .int a1), (2, .int a2), (3, .int a3)] [] (hS m) _ _
  unfold f_X7_isFree at hf
  refine g_aload_n 0 dX7_isFree_0 rfl rfl ?_
  refine gf_131 dX7_isFree_1 rfl ob_1 rfl ?_
  refine g_iload_n 1 dX7_isFree_4 rfl rfl ?_
  obtain ⟨j1, e2, hf⟩ := bnd_some hf
  refine p_aald dX7_isFree_5 rt_43 e2 (fun hj1 => ?_)
  refine g_iconst (v := 0) dX7_isFree_6 rfl ?_
  obtain ⟨v3, e4, hf⟩ := bnd_some hf
  refine p_iald dX7_isFree_7 (ar_44 hj1) e4 ?_
  refine g_istore dX7_isFree_8 (Nat.le_of_ble_eq_true rfl) rfl ?_
  refine g_iload_n 3 dX7_isFree_10 rfl rfl ?_
  refine g_iload 0 dX7_isFree_11 rfl ?_
  refine g_icmp_eq (tgt := 50) dX7_isFree_13 (by decide) (fun c14 => ?_) (fun c14 => ?_)
  · replace hf := (if_pos c14).symm.trans hf
    refine g_iconst (v := 1) dX7_isFree_50 rfl ?_
    refine g_goto (tgt := 55) dX7_isFree_51 (by decide) ?_
    cases hf
    exact g_iret dX7_isFree_55 .boolean rfl rfl
  · replace hf := (if_neg c14).symm.trans hf
    refine g_aload_n 1 dX7_isFree_16 rfl rfl ?_
    refine gf_119 dX7_isFree_17 rfl ob_1 rfl ?_
    refine g_iload 0 dX7_isFree_20 rfl ?_
    obtain ⟨v5, e6, hf⟩ := bnd_some hf
    refine p_iald dX7_isFree_22 at_12 e6 ?_
    refine g_iload_n 3 dX7_isFree_23 rfl rfl ?_
    refine g_icmp_eq (tgt := 50) dX7_isFree_24 (by decide) (fun c13 => ?_) (fun c13 => ?_)
    · replace hf := (if_pos c13).symm.trans hf
      refine g_iconst (v := 1) dX7_isFree_50 rfl ?_
      refine g_goto (tgt := 55) dX7_isFree_51 (by decide) ?_
      cases hf
      exact g_iret dX7_isFree_55 .boolean rfl rfl
    · replace hf := (if_neg c13).symm.trans hf
      refine g_iload_n 4 dX7_isFree_27 rfl rfl ?_
      refine g_aload_n 1 dX7_isFree_28 rfl rfl ?_
      refine gf_107 dX7_isFree_29 rfl ob_1 rfl ?_
      refine g_icmp_ne (tgt := 54) dX7_isFree_32 (by decide) (fun c12 => ?_) (fun c12 => ?_)
      · replace hf := (if_neg c12).symm.trans hf
        refine g_iconst (v := 0) dX7_isFree_54 rfl ?_
        cases hf
        exact g_iret dX7_isFree_55 .boolean rfl rfl
      · replace hf := (if_pos c12).symm.trans hf
        refine g_aload_n 1 dX7_isFree_35 rfl rfl ?_
        refine gf_131 dX7_isFree_36 rfl ob_1 rfl ?_
        refine g_iload_n 2 dX7_isFree_39 rfl rfl ?_
        obtain ⟨j7, e8, hf⟩ := bnd_some hf
        refine p_aald dX7_isFree_40 rt_43 e8 (fun hj7 => ?_)
        refine g_iconst (v := 5) dX7_isFree_41 rfl ?_
        obtain ⟨v9, e10, hf⟩ := bnd_some hf
        refine p_iald dX7_isFree_42 (ar_44 hj7) e10 ?_
        refine g_aload_n 1 dX7_isFree_43 rfl rfl ?_
        refine gf_109 dX7_isFree_44 rfl ob_1 rfl ?_
        refine g_icmp_ne (tgt := 54) dX7_isFree_47 (by decide) (fun c11 => ?_) (fun c11 => ?_)
        · replace hf := (if_neg c11).symm.trans hf
          refine g_iconst (v := 0) dX7_isFree_54 rfl ?_
          cases hf
          exact g_iret dX7_isFree_55 .boolean rfl rfl
        · replace hf := (if_pos c11).symm.trans hf
          refine g_iconst (v := 1) dX7_isFree_50 rfl ?_
          refine g_goto (tgt := 55) dX7_isFree_51 (by decide) ?_
          cases hf
          exact g_iret dX7_isFree_55 .boolean rfl rfl

abbrev k_X7_kindLets : kX := (cX7_kindLets, "WhoseHourItIs$Town", "kindLets", some .boolean, 4, 0)
def f_X7_kindLets (a1 : Int32) (a2 : Int32) (m : mM) : Option (Int32) :=
bnd (ckR 8 a2) fun j1 =>
bnd (rdA (3 + j1) 3 (0 : Int32) m) fun v3 =>
if v3 = (6 : Int32) then (
some (0 : Int32))
else (
if v3 = (4 : Int32) then (
bnd (ckR 8 a2) fun j5 =>
bnd (rdA (3 + j5) 3 (2 : Int32) m) fun v7 =>
bnd (ckR 6 a1) fun j9 =>
bnd (rdA (44 + j9) 6 (5 : Int32) m) fun v11 =>
if v7 = v11 then (
some (1 : Int32))
else (
some (0 : Int32)))
else (
some (1 : Int32)))
set_option maxRecDepth 100000 in
theorem t_X7_kindLets {V : eV} {a1 : Int32} {a2 : Int32}  {m : mM} {q : Int32} (hf : f_X7_kindLets a1 a2 m = some q) : eE V 0 yX7_kindLets cX7_kindLets 4 (some .boolean) [.ref (vB V + 1), .int a1, .int a2] (hS m) (some (.int q)) (hS m) := by
  refine eE_of (by decide) (Nat.le_of_ble_eq_true rfl) ?_
  show gG V k_X7_kindLets 0 [(0, .ref (vB V + 1)), (1, .int a1), (2, .int a2)] [] (hS m) _ _
  unfold f_X7_kindLets at hf
  refine g_aload_n 0 dX7_kindLets_0 rfl rfl ?_
  refine gf_111 dX7_kindLets_1 rfl ob_1 rfl ?_
  refine g_iload_n 2 dX7_kindLets_4 rfl rfl ?_
  obtain ⟨j1, e2, hf⟩ := bnd_some hf
  refine p_aald dX7_kindLets_5 rt_2 e2 (fun hj1 => ?_)
  refine g_iconst (v := 0) dX7_kindLets_6 rfl ?_
  obtain ⟨v3, e4, hf⟩ := bnd_some hf
  refine p_iald dX7_kindLets_7 (ar_3 hj1) e4 ?_
  refine g_istore_n dX7_kindLets_8 rfl (Nat.le_of_ble_eq_true rfl) rfl ?_
  refine g_iload_n 0 dX7_kindLets_9 rfl rfl ?_
  refine g_bipush (v := 6) dX7_kindLets_10 rfl ?_
  refine g_icmp_ne (tgt := 17) dX7_kindLets_12 (by decide) (fun c15 => ?_) (fun c15 => ?_)
  · replace hf := (if_neg c15).symm.trans hf
    refine g_iload_n 0 dX7_kindLets_17 rfl rfl ?_
    refine g_iconst (v := 4) dX7_kindLets_18 rfl ?_
    refine g_icmp_ne (tgt := 41) dX7_kindLets_19 (by decide) (fun c14 => ?_) (fun c14 => ?_)
    · replace hf := (if_neg c14).symm.trans hf
      refine g_iconst (v := 1) dX7_kindLets_41 rfl ?_
      refine g_goto (tgt := 46) dX7_kindLets_42 (by decide) ?_
      cases hf
      exact g_iret dX7_kindLets_46 .boolean rfl rfl
    · replace hf := (if_pos c14).symm.trans hf
      refine g_aload_n 1 dX7_kindLets_22 rfl rfl ?_
      refine gf_111 dX7_kindLets_23 rfl ob_1 rfl ?_
      refine g_iload_n 3 dX7_kindLets_26 rfl rfl ?_
      obtain ⟨j5, e6, hf⟩ := bnd_some hf
      refine p_aald dX7_kindLets_27 rt_2 e6 (fun hj5 => ?_)
      refine g_iconst (v := 2) dX7_kindLets_28 rfl ?_
      obtain ⟨v7, e8, hf⟩ := bnd_some hf
      refine p_iald dX7_kindLets_29 (ar_3 hj5) e8 ?_
      refine g_aload_n 1 dX7_kindLets_30 rfl rfl ?_
      refine gf_131 dX7_kindLets_31 rfl ob_1 rfl ?_
      refine g_iload_n 2 dX7_kindLets_34 rfl rfl ?_
      obtain ⟨j9, e10, hf⟩ := bnd_some hf
      refine p_aald dX7_kindLets_35 rt_43 e10 (fun hj9 => ?_)
      refine g_iconst (v := 5) dX7_kindLets_36 rfl ?_
      obtain ⟨v11, e12, hf⟩ := bnd_some hf
      refine p_iald dX7_kindLets_37 (ar_44 hj9) e12 ?_
      refine g_icmp_ne (tgt := 45) dX7_kindLets_38 (by decide) (fun c13 => ?_) (fun c13 => ?_)
      · replace hf := (if_neg c13).symm.trans hf
        refine g_iconst (v := 0) dX7_kindLets_45 rfl ?_
        cases hf
        exact g_iret dX7_kindLets_46 .boolean rfl rfl
      · replace hf := (if_pos c13).symm.trans hf
        refine g_iconst (v := 1) dX7_kindLets_41 rfl ?_
        refine g_goto (tgt := 46) dX7_kindLets_42 (by decide) ?_
        cases hf
        exact g_iret dX7_kindLets_46 .boolean rfl rfl
  · replace hf := (if_pos c15).symm.trans hf
    refine g_iconst (v := 0) dX7_kindLets_15 rfl ?_
    cases hf
    exact g_iret dX7_kindLets_16 .boolean rfl rfl

abbrev k_X0_partCost : kX := (cX0_partCost, "WhoseHourItIs$Costs", "partCost", some .int, 8, 1)
def f_X0_partCost (a1 : Int32) (a2 : Int32) (a3 : Int32) (m : mM) : Option (Int32) :=
bnd (f_X7_isFree a1 a2 a3 m) fun q1 =>
if q1 = 0 then (
bnd (f_X8_isIn (m 1 2) a2 m) fun q3 =>
if q3 = 0 then (
bnd (f_X7_kindLets a1 a2 m) fun q5 =>
if q5 = 0 then (
some (-9 : Int32))
else (
bnd (ckR 6 a1) fun j7 =>
bnd (ckR 8 a2) fun j9 =>
bnd (rdA (3 + j9) 3 (1 : Int32) m) fun v11 =>
bnd (rdA (44 + j7) 6 (2 : Int32) m) fun v13 =>
bnd (ckR 8 a2) fun j15 =>
bnd (rdA (3 + j15) 3 (0 : Int32) m) fun v17 =>
if v17 = (1 : Int32) then (
bnd (dvI ((((2 : Int32) * v11) + (if (1 : Int32) < v13 then v13 else (1 : Int32))) - (1 : Int32)) (if (1 : Int32) < v13 then v13 else (1 : Int32))) fun v20 =>
some v20)
else (
if v17 = (2 : Int32) then (
bnd (rdA (44 + j7) 6 (0 : Int32) m) fun v23 =>
bnd (rdA 11 8 v23 m) fun v25 =>
if ((v25 >>> ((a3 - (a3 - a3 / (4 : Int32) * (4 : Int32))) &&& 31)) &&& (15 : Int32)) = 0 then (
some ((2 : Int32) * v11))
else (
some (0 : Int32)))
else (
if v17 = (3 : Int32) then (
bnd (rdA 13 28 a3 m) fun v29 =>
some (v11 * v29))
else (
if v17 = (4 : Int32) then (
some v11)
else (
if v17 = (5 : Int32) then (
if (a3 - a3 / (4 : Int32) * (4 : Int32)) = (3 : Int32) then (
some (0 : Int32))
else (
some v11))
else (
some v11)))))))
else (
some (-9 : Int32)))
else (
some (0 : Int32))
set_option maxRecDepth 100000 in
theorem t_X0_partCost {V : eV} {a1 : Int32} {a2 : Int32} {a3 : Int32}  {m : mM} {q : Int32} (hf : f_X0_partCost a1 a2 a3 m = some q) : eE V 1 yX0_partCost cX0_partCost 8 (some .int) [.ref (vB V + 154), .int a1, .int a2, .int a3] (hS m) (some (.int q)) (hS m) := by
  refine eE_of (by decide) (Nat.le_of_ble_eq_true rfl) ?_
  show gG V k_X0_partCost 0 [(0, .ref (vB V + 154)), (1, .int a1), (2, .int a2), (3, .int a3)] [] (hS m) _ _
  unfold f_X0_partCost at hf
  refine g_aload_n 0 dX0_partCost_0 rfl rfl ?_
  refine gf_191 dX0_partCost_1 rfl ob_154 rfl ?_
  refine g_iload_n 1 dX0_partCost_4 rfl rfl ?_
  refine g_iload_n 2 dX0_partCost_5 rfl rfl ?_
  refine g_iload_n 3 dX0_partCost_6 rfl rfl ?_
  obtain ⟨q1, e2, hf⟩ := bnd_some hf
  refine p_callV (As := [.int a1, .int a2, .int a3]) (rest := []) (t_X7_isFree e2) cw_572 w_573 w_574 ob_1 rfl (Nat.le_of_ble_eq_true rfl) rfl rfl (Nat.le_of_ble_eq_true rfl) dX0_partCost_7 ?_
  refine g_if_eq (tgt := 15) dX0_partCost_10 (by decide) (fun c36 => ?_) (fun c36 => ?_)
  · replace hf := (if_pos c36).symm.trans hf
    refine g_aload_n 0 dX0_partCost_15 rfl rfl ?_
    refine gf_191 dX0_partCost_16 rfl ob_154 rfl ?_
    refine gf_104 dX0_partCost_19 rfl ob_1 rfl ?_
    refine g_iload_n 2 dX0_partCost_22 rfl rfl ?_
    obtain ⟨q3, e4, hf⟩ := bnd_some hf
    refine p_callSN (As := [.int (m 1 2), .int a2]) (rest := []) (t_X8_isIn e4) cw_576 w_534 (Nat.le_of_ble_eq_true rfl) rfl rfl (Nat.le_of_ble_eq_true rfl) dX0_partCost_23 ?_
    refine g_if_ne (tgt := 41) dX0_partCost_26 (by decide) (fun c35 => ?_) (fun c35 => ?_)
    · replace hf := (if_neg c35).symm.trans hf
      refine g_bipush (v := -9) dX0_partCost_41 rfl ?_
      cases hf
      exact g_iret dX0_partCost_43 .int rfl rfl
    · replace hf := (if_pos c35).symm.trans hf
      refine g_aload_n 0 dX0_partCost_29 rfl rfl ?_
      refine gf_191 dX0_partCost_30 rfl ob_154 rfl ?_
      refine g_iload_n 1 dX0_partCost_33 rfl rfl ?_
      refine g_iload_n 2 dX0_partCost_34 rfl rfl ?_
      obtain ⟨q5, e6, hf⟩ := bnd_some hf
      refine p_callV (As := [.int a1, .int a2]) (rest := []) (t_X7_kindLets e6) cw_577 w_578 w_579 ob_1 rfl (Nat.le_of_ble_eq_true rfl) rfl rfl (Nat.le_of_ble_eq_true rfl) dX0_partCost_35 ?_
      refine g_if_ne (tgt := 44) dX0_partCost_38 (by decide) (fun c34 => ?_) (fun c34 => ?_)
      · replace hf := (if_neg c34).symm.trans hf
        refine g_aload_n 0 dX0_partCost_44 rfl rfl ?_
        refine gf_191 dX0_partCost_45 rfl ob_154 rfl ?_
        refine gf_134 dX0_partCost_48 rfl ob_1 rfl ?_
        refine g_iload_n 1 dX0_partCost_51 rfl rfl ?_
        obtain ⟨j7, e8, hf⟩ := bnd_some hf
        refine p_aald dX0_partCost_52 rt_43 e8 (fun hj7 => ?_)
        refine g_astore dX0_partCost_53 (Nat.le_of_ble_eq_true rfl) rfl ?_
        refine g_aload_n 1 dX0_partCost_55 rfl rfl ?_
        refine gf_191 dX0_partCost_56 rfl ob_154 rfl ?_
        refine gf_112 dX0_partCost_59 rfl ob_1 rfl ?_
        refine g_iload_n 3 dX0_partCost_62 rfl rfl ?_
        obtain ⟨j9, e10, hf⟩ := bnd_some hf
        refine p_aald dX0_partCost_63 rt_2 e10 (fun hj9 => ?_)
        refine g_iconst (v := 1) dX0_partCost_64 rfl ?_
        obtain ⟨v11, e12, hf⟩ := bnd_some hf
        refine p_iald dX0_partCost_65 (ar_3 hj9) e12 ?_
        refine g_istore dX0_partCost_66 (Nat.le_of_ble_eq_true rfl) rfl ?_
        refine g_iconst (v := 1) dX0_partCost_68 rfl ?_
        refine g_aload 1 dX0_partCost_69 rfl ?_
        refine g_iconst (v := 2) dX0_partCost_71 rfl ?_
        obtain ⟨v13, e14, hf⟩ := bnd_some hf
        refine p_iald dX0_partCost_72 (ar_44 hj7) e14 ?_
        refine g_max w_581 w_456 w_71 w_457 (Nat.le_of_ble_eq_true rfl) (Nat.le_of_ble_eq_true rfl) dX0_partCost_73 ?_
        refine g_istore dX0_partCost_76 (Nat.le_of_ble_eq_true rfl) rfl ?_
        refine g_iload_n 6 dX0_partCost_78 rfl rfl ?_
        refine g_iconst (v := 4) dX0_partCost_79 rfl ?_
        refine g_irem dX0_partCost_80 (by decide) ?_
        refine g_istore dX0_partCost_81 (Nat.le_of_ble_eq_true rfl) rfl ?_
        refine g_aload_n 4 dX0_partCost_83 rfl rfl ?_
        refine gf_191 dX0_partCost_84 rfl ob_154 rfl ?_
        refine gf_112 dX0_partCost_87 rfl ob_1 rfl ?_
        refine g_iload_n 6 dX0_partCost_90 rfl rfl ?_
        obtain ⟨j15, e16, hf⟩ := bnd_some hf
        refine p_aald dX0_partCost_91 rt_2 e16 (fun hj15 => ?_)
        refine g_iconst (v := 0) dX0_partCost_92 rfl ?_
        obtain ⟨v17, e18, hf⟩ := bnd_some hf
        refine p_iald dX0_partCost_93 (ar_3 hj15) e18 ?_
        by_cases c19 : v17 = (1 : Int32)
        · replace hf := (if_pos c19).symm.trans hf
          refine g_tableIn (tgt := 128) (off := 34) dX0_partCost_94 (by rw [c19]; decide) (by rw [c19]; decide) (by rw [c19]; rfl) (by decide) ?_
          refine g_iconst (v := 2) dX0_partCost_128 rfl ?_
          refine g_iload 2 dX0_partCost_129 rfl ?_
          refine g_imul dX0_partCost_131 ?_
          refine g_iload 1 dX0_partCost_132 rfl ?_
          refine g_iadd dX0_partCost_134 ?_
          refine g_iconst (v := 1) dX0_partCost_135 rfl ?_
          refine g_isub dX0_partCost_136 ?_
          refine g_iload 1 dX0_partCost_137 rfl ?_
          obtain ⟨v20, e21, hf⟩ := bnd_some hf
          refine p_idiv dX0_partCost_139 e21 ?_
          cases hf
          exact g_iret dX0_partCost_140 .int rfl rfl
        · replace hf := (if_neg c19).symm.trans hf
          by_cases c22 : v17 = (2 : Int32)
          · replace hf := (if_pos c22).symm.trans hf
            refine g_tableIn (tgt := 141) (off := 47) dX0_partCost_94 (by rw [c22]; decide) (by rw [c22]; decide) (by rw [c22]; rfl) (by decide) ?_
            refine g_aload_n 4 dX0_partCost_141 rfl rfl ?_
            refine gf_191 dX0_partCost_142 rfl ob_154 rfl ?_
            refine gf_117 dX0_partCost_145 rfl ob_1 rfl ?_
            refine g_aload 3 dX0_partCost_148 rfl ?_
            refine g_iconst (v := 0) dX0_partCost_150 rfl ?_
            obtain ⟨v23, e24, hf⟩ := bnd_some hf
            refine p_iald dX0_partCost_151 (ar_44 hj7) e24 ?_
            obtain ⟨v25, e26, hf⟩ := bnd_some hf
            refine p_iald dX0_partCost_152 at_11 e26 ?_
            refine g_iload_n 7 dX0_partCost_153 rfl rfl ?_
            refine g_iload 0 dX0_partCost_154 rfl ?_
            refine g_isub dX0_partCost_156 ?_
            refine g_ishr dX0_partCost_157 ?_
            refine g_bipush (v := 15) dX0_partCost_158 rfl ?_
            refine g_iand dX0_partCost_160 ?_
            refine g_if_eq (tgt := 168) dX0_partCost_161 (by decide) (fun c27 => ?_) (fun c27 => ?_)
            · replace hf := (if_pos c27).symm.trans hf
              refine g_iconst (v := 2) dX0_partCost_168 rfl ?_
              refine g_iload 2 dX0_partCost_169 rfl ?_
              refine g_imul dX0_partCost_171 ?_
              cases hf
              exact g_iret dX0_partCost_172 .int rfl rfl
            · replace hf := (if_neg c27).symm.trans hf
              refine g_iconst (v := 0) dX0_partCost_164 rfl ?_
              refine g_goto (tgt := 172) dX0_partCost_165 (by decide) ?_
              cases hf
              exact g_iret dX0_partCost_172 .int rfl rfl
          · replace hf := (if_neg c22).symm.trans hf
            by_cases c28 : v17 = (3 : Int32)
            · replace hf := (if_pos c28).symm.trans hf
              refine g_tableIn (tgt := 173) (off := 79) dX0_partCost_94 (by rw [c28]; decide) (by rw [c28]; decide) (by rw [c28]; rfl) (by decide) ?_
              refine g_iload 2 dX0_partCost_173 rfl ?_
              refine g_aload_n 4 dX0_partCost_175 rfl rfl ?_
              refine gf_191 dX0_partCost_176 rfl ob_154 rfl ?_
              refine gf_124 dX0_partCost_179 rfl ob_1 rfl ?_
              refine g_iload_n 7 dX0_partCost_182 rfl rfl ?_
              obtain ⟨v29, e30, hf⟩ := bnd_some hf
              refine p_iald dX0_partCost_183 at_13 e30 ?_
              refine g_imul dX0_partCost_184 ?_
              cases hf
              exact g_iret dX0_partCost_185 .int rfl rfl
            · replace hf := (if_neg c28).symm.trans hf
              by_cases c31 : v17 = (4 : Int32)
              · replace hf := (if_pos c31).symm.trans hf
                refine g_tableIn (tgt := 199) (off := 105) dX0_partCost_94 (by rw [c31]; decide) (by rw [c31]; decide) (by rw [c31]; rfl) (by decide) ?_
                refine g_iload 2 dX0_partCost_199 rfl ?_
                cases hf
                exact g_iret dX0_partCost_201 .int rfl rfl
              · replace hf := (if_neg c31).symm.trans hf
                by_cases c32 : v17 = (5 : Int32)
                · replace hf := (if_pos c32).symm.trans hf
                  refine g_tableIn (tgt := 186) (off := 92) dX0_partCost_94 (by rw [c32]; decide) (by rw [c32]; decide) (by rw [c32]; rfl) (by decide) ?_
                  refine g_iload 0 dX0_partCost_186 rfl ?_
                  refine g_iconst (v := 3) dX0_partCost_188 rfl ?_
                  refine g_icmp_ne (tgt := 196) dX0_partCost_189 (by decide) (fun c33 => ?_) (fun c33 => ?_)
                  · replace hf := (if_neg c33).symm.trans hf
                    refine g_iload 2 dX0_partCost_196 rfl ?_
                    cases hf
                    exact g_iret dX0_partCost_198 .int rfl rfl
                  · replace hf := (if_pos c33).symm.trans hf
                    refine g_iconst (v := 0) dX0_partCost_192 rfl ?_
                    refine g_goto (tgt := 198) dX0_partCost_193 (by decide) ?_
                    cases hf
                    exact g_iret dX0_partCost_198 .int rfl rfl
                · replace hf := (if_neg c32).symm.trans hf
                  have hsw := sw_out (lo := 1) (hi := 5) (x := v17) (fun z z1 z2 => by
                      have zz : z = 1 ∨ z = 2 ∨ z = 3 ∨ z = 4 ∨ z = 5 := by omega
                      rcases zz with rfl | rfl | rfl | rfl | rfl <;> assumption)
                  refine g_tableOut (tgt := 199) dX0_partCost_94 hsw (by decide) ?_
                  refine g_iload 2 dX0_partCost_199 rfl ?_
                  cases hf
                  exact g_iret dX0_partCost_201 .int rfl rfl
      · replace hf := (if_pos c34).symm.trans hf
        refine g_bipush (v := -9) dX0_partCost_41 rfl ?_
        cases hf
        exact g_iret dX0_partCost_43 .int rfl rfl
  · replace hf := (if_neg c36).symm.trans hf
    refine g_iconst (v := 0) dX0_partCost_13 rfl ?_
    cases hf
    exact g_iret dX0_partCost_14 .int rfl rfl

abbrev k_X0_hourCost : kX := (cX0_hourCost, "WhoseHourItIs$Costs", "hourCost", some .int, 6, 2)
def f_X0_hourCost_L5 (b1 : Int32) (b2 : Int32) (m : mM) : Nat → Int32 → Int32 → Option ((Int32) ⊕ (Int32))
  | 0, _, _ => none
  | n + 1, b3, b4 =>
      bnd (rdA 13 28 b2 m) fun v1 =>
      if v1 ≤ b4 then (
      some (.inr b3))
      else (
      bnd (ckR 28 b2) fun j3 =>
      bnd (rdA (15 + j3) 3 b4 m) fun v5 =>
      bnd (f_X0_partCost b1 v5 b2 m) fun q7 =>
      if q7 = (-9 : Int32) then (
      some (.inl (-9 : Int32)))
      else (
      f_X0_hourCost_L5 b1 b2 m n (b3 + q7) (b4 + (1 : Int32))))
def f_X0_hourCost (a1 : Int32) (a2 : Int32) (m : mM) : Option (Int32) :=
bnd (f_X0_hourCost_L5 a1 a2 m fU (0 : Int32) (0 : Int32)) fun o11 =>
ora o11 (fun zq => some zq) fun x12 =>
some x12
set_option maxRecDepth 100000 in
theorem t_X0_hourCost_L5 {V : eV} (b1 : Int32) (b2 : Int32) (m : mM) {r : Option Value} {h' : aH} : ∀ (n : Nat) (b3 : Int32) (b4 : Int32) (o : (Int32) ⊕ (Int32)), f_X0_hourCost_L5 b1 b2 m n b3 b4 = some o → lxP (hS m) o r h' (fun x => gG V k_X0_hourCost 60 [(3, .int x)] [] (hS m) r h') → gG V k_X0_hourCost 5 [(0, .ref (vB V + 154)), (1, .int b1), (2, .int b2), (3, .int b3), (4, .int b4)] [] (hS m) r h' := by
  intro n
  induction n with
  | zero => intro b3 b4 o hf; cases hf
  | succ n ih =>
    intro b3 b4 o hf hk
    rw [f_X0_hourCost_L5] at hf
    refine g_iload 4 dX0_hourCost_5 rfl ?_
    refine g_aload_n 0 dX0_hourCost_7 rfl rfl ?_
    refine gf_191 dX0_hourCost_8 rfl ob_154 rfl ?_
    refine gf_124 dX0_hourCost_11 rfl ob_1 rfl ?_
    refine g_iload_n 2 dX0_hourCost_14 rfl rfl ?_
    obtain ⟨v1, e2, hf⟩ := bnd_some hf
    refine p_iald dX0_hourCost_15 at_13 e2 ?_
    refine g_icmp_ge (tgt := 60) dX0_hourCost_16 (by decide) (fun c10 => ?_) (fun c10 => ?_)
    · replace hf := (if_pos c10).symm.trans hf
      cases hf
      refine g_sub [3] rfl ?_
      exact hk
    · replace hf := (if_neg c10).symm.trans hf
      refine g_aload_n 0 dX0_hourCost_19 rfl rfl ?_
      refine g_iload_n 1 dX0_hourCost_20 rfl rfl ?_
      refine g_aload_n 0 dX0_hourCost_21 rfl rfl ?_
      refine gf_191 dX0_hourCost_22 rfl ob_154 rfl ?_
      refine gf_129 dX0_hourCost_25 rfl ob_1 rfl ?_
      refine g_iload_n 2 dX0_hourCost_28 rfl rfl ?_
      obtain ⟨j3, e4, hf⟩ := bnd_some hf
      refine p_aald dX0_hourCost_29 rt_14 e4 (fun hj3 => ?_)
      refine g_iload 4 dX0_hourCost_30 rfl ?_
      obtain ⟨v5, e6, hf⟩ := bnd_some hf
      refine p_iald dX0_hourCost_32 (ar_15 hj3) e6 ?_
      refine g_iload_n 2 dX0_hourCost_33 rfl rfl ?_
      obtain ⟨q7, e8, hf⟩ := bnd_some hf
      refine p_callV (As := [.int b1, .int v5, .int b2]) (rest := []) (t_X0_partCost e8) cw_568 w_569 w_570 ob_154 rfl (Nat.le_of_ble_eq_true rfl) rfl rfl (Nat.le_of_ble_eq_true rfl) dX0_hourCost_34 ?_
      refine g_istore dX0_hourCost_37 (Nat.le_of_ble_eq_true rfl) rfl ?_
      refine g_iload 0 dX0_hourCost_39 rfl ?_
      refine g_bipush (v := -9) dX0_hourCost_41 rfl ?_
      refine g_icmp_ne (tgt := 49) dX0_hourCost_43 (by decide) (fun c9 => ?_) (fun c9 => ?_)
      · replace hf := (if_neg c9).symm.trans hf
        refine g_iload_n 4 dX0_hourCost_49 rfl rfl ?_
        refine g_iload 0 dX0_hourCost_50 rfl ?_
        refine g_iadd dX0_hourCost_52 ?_
        refine g_istore_n dX0_hourCost_53 rfl (Nat.le_of_ble_eq_true rfl) rfl ?_
        refine g_iinc (q := 5) (v := (b4 + (1 : Int32))) dX0_hourCost_54 rfl rfl (Nat.le_of_ble_eq_true rfl) rfl ?_
        refine g_goto (tgt := 5) dX0_hourCost_57 (by decide) ?_
        refine g_sub [3, 4, 5, 1, 0] rfl ?_
        exact ih (b3 + q7) (b4 + (1 : Int32)) _ hf hk
      · replace hf := (if_pos c9).symm.trans hf
        refine g_bipush (v := -9) dX0_hourCost_46 rfl ?_
        cases hf
        obtain ⟨rfl, rfl⟩ := hk
        exact g_iret dX0_hourCost_48 .int rfl rfl

set_option maxRecDepth 100000 in
theorem t_X0_hourCost {V : eV} {a1 : Int32} {a2 : Int32}  {m : mM} {q : Int32} (hf : f_X0_hourCost a1 a2 m = some q) : eE V 2 yX0_hourCost cX0_hourCost 6 (some .int) [.ref (vB V + 154), .int a1, .int a2] (hS m) (some (.int q)) (hS m) := by
  refine eE_of (by decide) (Nat.le_of_ble_eq_true rfl) ?_
  show gG V k_X0_hourCost 0 [(0, .ref (vB V + 154)), (1, .int a1), (2, .int a2)] [] (hS m) _ _
  unfold f_X0_hourCost at hf
  refine g_iconst (v := 0) dX0_hourCost_0 rfl ?_
  refine g_istore_n dX0_hourCost_1 rfl (Nat.le_of_ble_eq_true rfl) rfl ?_
  refine g_iconst (v := 0) dX0_hourCost_2 rfl ?_
  refine g_istore dX0_hourCost_3 (Nat.le_of_ble_eq_true rfl) rfl ?_
  refine g_sub [2, 3, 4, 1, 0] rfl ?_
  obtain ⟨o11, e13, hf⟩ := bnd_some hf
  refine t_X0_hourCost_L5 (V := V) a1 a2 m fU (0 : Int32) (0 : Int32) _ e13 ?_
  rcases o11 with zq | x12
  · replace hf := ora_l hf
    cases hf
    exact ⟨rfl, rfl⟩
  · replace hf := ora_r hf
    show gG V _ _ _ _ _ _ _
    refine g_iload_n 0 dX0_hourCost_60 rfl rfl ?_
    cases hf
    exact g_iret dX0_hourCost_61 .int rfl rfl

abbrev k_X0_cheapestOf : kX := (cX0_cheapestOf, "WhoseHourItIs$Costs", "cheapestOf", some .int, 6, 0)
def f_X0_cheapestOf_L12 (b2 : Int32) (b4 : Int32) (m : mM) : Nat → Int32 → Int32 → Option (Int32)
  | 0, _, _ => none
  | n + 1, b3, b5 =>
      if (b4 + (4 : Int32)) ≤ b5 then (
      some b3)
      else (
      if b2 < b5 then (
      some b3)
      else (
      bnd (rdA 155 28 b5 m) fun v1 =>
      if v1 = (-9 : Int32) then (
      f_X0_cheapestOf_L12 b2 b4 m n b3 (b5 + (1 : Int32)))
      else (
      if b3 = (-9 : Int32) then (
      f_X0_cheapestOf_L12 b2 b4 m n b5 (b5 + (1 : Int32)))
      else (
      bnd (rdA 155 28 b5 m) fun v3 =>
      bnd (rdA 155 28 b3 m) fun v5 =>
      if v5 ≤ v3 then (
      f_X0_cheapestOf_L12 b2 b4 m n b3 (b5 + (1 : Int32)))
      else (
      f_X0_cheapestOf_L12 b2 b4 m n b5 (b5 + (1 : Int32)))))))
def f_X0_cheapestOf (a1 : Int32) (a2 : Int32) (m : mM) : Option (Int32) :=
bnd (f_X0_cheapestOf_L12 a2 (a1 * (4 : Int32)) m fU (-9 : Int32) (a1 * (4 : Int32))) fun o12 =>
some o12
set_option maxRecDepth 100000 in
theorem t_X0_cheapestOf_L12 {V : eV} (b2 : Int32) (b4 : Int32) (m : mM) {r : Option Value} {h' : aH} : ∀ (n : Nat) (b3 : Int32) (b5 : Int32) (o : Int32), f_X0_cheapestOf_L12 b2 b4 m n b3 b5 = some o → gG V k_X0_cheapestOf 70 [(3, .int o)] [] (hS m) r h' → gG V k_X0_cheapestOf 12 [(0, .ref (vB V + 154)), (2, .int b2), (3, .int b3), (4, .int b4), (5, .int b5)] [] (hS m) r h' := by
  intro n
  induction n with
  | zero => intro b3 b5 o hf; cases hf
  | succ n ih =>
    intro b3 b5 o hf hk
    rw [f_X0_cheapestOf_L12] at hf
    refine g_iload 4 dX0_cheapestOf_12 rfl ?_
    refine g_iload 3 dX0_cheapestOf_14 rfl ?_
    refine g_iconst (v := 4) dX0_cheapestOf_16 rfl ?_
    refine g_iadd dX0_cheapestOf_17 ?_
    refine g_icmp_ge (tgt := 70) dX0_cheapestOf_18 (by decide) (fun c11 => ?_) (fun c11 => ?_)
    · replace hf := (if_pos c11).symm.trans hf
      cases hf
      refine g_sub [2] rfl ?_
      exact hk
    · replace hf := (if_neg c11).symm.trans hf
      refine g_iload 4 dX0_cheapestOf_21 rfl ?_
      refine g_iload_n 1 dX0_cheapestOf_23 rfl rfl ?_
      refine g_icmp_gt (tgt := 70) dX0_cheapestOf_24 (by decide) (fun c10 => ?_) (fun c10 => ?_)
      · replace hf := (if_pos c10).symm.trans hf
        cases hf
        refine g_sub [2] rfl ?_
        exact hk
      · replace hf := (if_neg c10).symm.trans hf
        refine g_aload_n 0 dX0_cheapestOf_27 rfl rfl ?_
        refine gf_192 dX0_cheapestOf_28 rfl ob_154 rfl ?_
        refine g_iload 4 dX0_cheapestOf_31 rfl ?_
        obtain ⟨v1, e2, hf⟩ := bnd_some hf
        refine p_iald dX0_cheapestOf_33 at_155 e2 ?_
        refine g_bipush (v := -9) dX0_cheapestOf_34 rfl ?_
        refine g_icmp_eq (tgt := 64) dX0_cheapestOf_36 (by decide) (fun c9 => ?_) (fun c9 => ?_)
        · replace hf := (if_pos c9).symm.trans hf
          refine g_iinc (q := 4) (v := (b5 + (1 : Int32))) dX0_cheapestOf_64 rfl rfl (Nat.le_of_ble_eq_true rfl) rfl ?_
          refine g_goto (tgt := 12) dX0_cheapestOf_67 (by decide) ?_
          refine g_sub [1, 2, 3, 4, 0] rfl ?_
          exact ih b3 (b5 + (1 : Int32)) _ hf hk
        · replace hf := (if_neg c9).symm.trans hf
          refine g_iload_n 2 dX0_cheapestOf_39 rfl rfl ?_
          refine g_bipush (v := -9) dX0_cheapestOf_40 rfl ?_
          refine g_icmp_eq (tgt := 61) dX0_cheapestOf_42 (by decide) (fun c8 => ?_) (fun c8 => ?_)
          · replace hf := (if_pos c8).symm.trans hf
            refine g_iload 4 dX0_cheapestOf_61 rfl ?_
            refine g_istore_n dX0_cheapestOf_63 rfl (Nat.le_of_ble_eq_true rfl) rfl ?_
            refine g_iinc (q := 4) (v := (b5 + (1 : Int32))) dX0_cheapestOf_64 rfl rfl (Nat.le_of_ble_eq_true rfl) rfl ?_
            refine g_goto (tgt := 12) dX0_cheapestOf_67 (by decide) ?_
            refine g_sub [2, 3, 1, 4, 0] rfl ?_
            exact ih b5 (b5 + (1 : Int32)) _ hf hk
          · replace hf := (if_neg c8).symm.trans hf
            refine g_aload_n 0 dX0_cheapestOf_45 rfl rfl ?_
            refine gf_192 dX0_cheapestOf_46 rfl ob_154 rfl ?_
            refine g_iload 4 dX0_cheapestOf_49 rfl ?_
            obtain ⟨v3, e4, hf⟩ := bnd_some hf
            refine p_iald dX0_cheapestOf_51 at_155 e4 ?_
            refine g_aload_n 0 dX0_cheapestOf_52 rfl rfl ?_
            refine gf_192 dX0_cheapestOf_53 rfl ob_154 rfl ?_
            refine g_iload_n 2 dX0_cheapestOf_56 rfl rfl ?_
            obtain ⟨v5, e6, hf⟩ := bnd_some hf
            refine p_iald dX0_cheapestOf_57 at_155 e6 ?_
            refine g_icmp_ge (tgt := 64) dX0_cheapestOf_58 (by decide) (fun c7 => ?_) (fun c7 => ?_)
            · replace hf := (if_pos c7).symm.trans hf
              refine g_iinc (q := 4) (v := (b5 + (1 : Int32))) dX0_cheapestOf_64 rfl rfl (Nat.le_of_ble_eq_true rfl) rfl ?_
              refine g_goto (tgt := 12) dX0_cheapestOf_67 (by decide) ?_
              refine g_sub [1, 2, 3, 4, 0] rfl ?_
              exact ih b3 (b5 + (1 : Int32)) _ hf hk
            · replace hf := (if_neg c7).symm.trans hf
              refine g_iload 4 dX0_cheapestOf_61 rfl ?_
              refine g_istore_n dX0_cheapestOf_63 rfl (Nat.le_of_ble_eq_true rfl) rfl ?_
              refine g_iinc (q := 4) (v := (b5 + (1 : Int32))) dX0_cheapestOf_64 rfl rfl (Nat.le_of_ble_eq_true rfl) rfl ?_
              refine g_goto (tgt := 12) dX0_cheapestOf_67 (by decide) ?_
              refine g_sub [2, 3, 1, 4, 0] rfl ?_
              exact ih b5 (b5 + (1 : Int32)) _ hf hk

set_option maxRecDepth 100000 in
theorem t_X0_cheapestOf {V : eV} {a1 : Int32} {a2 : Int32}  {m : mM} {q : Int32} (hf : f_X0_cheapestOf a1 a2 m = some q) : eE V 0 yX0_cheapestOf cX0_cheapestOf 6 (some .int) [.ref (vB V + 154), .int a1, .int a2] (hS m) (some (.int q)) (hS m) := by
  refine eE_of (by decide) (Nat.le_of_ble_eq_true rfl) ?_
  show gG V k_X0_cheapestOf 0 [(0, .ref (vB V + 154)), (1, .int a1), (2, .int a2)] [] (hS m) _ _
  unfold f_X0_cheapestOf at hf
  refine g_bipush (v := -9) dX0_cheapestOf_0 rfl ?_
  refine g_istore_n dX0_cheapestOf_2 rfl (Nat.le_of_ble_eq_true rfl) rfl ?_
  refine g_iload_n 2 dX0_cheapestOf_3 rfl rfl ?_
  refine g_iconst (v := 4) dX0_cheapestOf_4 rfl ?_
  refine g_imul dX0_cheapestOf_5 ?_
  refine g_istore dX0_cheapestOf_6 (Nat.le_of_ble_eq_true rfl) rfl ?_
  refine g_iload 0 dX0_cheapestOf_8 rfl ?_
  refine g_istore dX0_cheapestOf_10 (Nat.le_of_ble_eq_true rfl) rfl ?_
  refine g_sub [3, 5, 2, 1, 0] rfl ?_
  obtain ⟨o12, e13, hf⟩ := bnd_some hf
  refine t_X0_cheapestOf_L12 (V := V) a2 (a1 * (4 : Int32)) m fU (-9 : Int32) (a1 * (4 : Int32)) _ e13 ?_
  refine g_iload_n 0 dX0_cheapestOf_70 rfl rfl ?_
  cases hf
  exact g_iret dX0_cheapestOf_71 .int rfl rfl

abbrev k_X0_cheapestDay : kX := (cX0_cheapestDay, "WhoseHourItIs$Costs", "cheapestDay", some .int, 4, 0)
def f_X0_cheapestDay_L5 (m : mM) : Nat → Int32 → Int32 → Option (Int32)
  | 0, _, _ => none
  | n + 1, b1, b2 =>
      if (7 : Int32) ≤ b2 then (
      some b1)
      else (
      bnd (rdA 156 7 b2 m) fun v1 =>
      if v1 = (-9 : Int32) then (
      f_X0_cheapestDay_L5 m n b1 (b2 + (1 : Int32)))
      else (
      if b1 = (-9 : Int32) then (
      f_X0_cheapestDay_L5 m n b2 (b2 + (1 : Int32)))
      else (
      bnd (rdA 155 28 v1 m) fun v3 =>
      bnd (rdA 156 7 b1 m) fun v5 =>
      bnd (rdA 155 28 v5 m) fun v7 =>
      if v7 ≤ v3 then (
      f_X0_cheapestDay_L5 m n b1 (b2 + (1 : Int32)))
      else (
      f_X0_cheapestDay_L5 m n b2 (b2 + (1 : Int32))))))
def f_X0_cheapestDay  (m : mM) : Option (Int32) :=
bnd (f_X0_cheapestDay_L5 m fU (-9 : Int32) (0 : Int32)) fun o13 =>
some o13
set_option maxRecDepth 100000 in
theorem t_X0_cheapestDay_L5 {V : eV} (m : mM) {r : Option Value} {h' : aH} : ∀ (n : Nat) (b1 : Int32) (b2 : Int32) (o : Int32), f_X0_cheapestDay_L5 m n b1 b2 = some o → gG V k_X0_cheapestDay 58 [(1, .int o)] [] (hS m) r h' → gG V k_X0_cheapestDay 5 [(0, .ref (vB V + 154)), (1, .int b1), (2, .int b2)] [] (hS m) r h' := by
  intro n
  induction n with
  | zero => intro b1 b2 o hf; cases hf
  | succ n ih =>
    intro b1 b2 o hf hk
    rw [f_X0_cheapestDay_L5] at hf
    refine g_iload_n 2 dX0_cheapestDay_5 rfl rfl ?_
    refine g_bipush (v := 7) dX0_cheapestDay_6 rfl ?_
    refine g_icmp_ge (tgt := 58) dX0_cheapestDay_8 (by decide) (fun c12 => ?_) (fun c12 => ?_)
    · replace hf := (if_pos c12).symm.trans hf
      cases hf
      refine g_sub [1] rfl ?_
      exact hk
    · replace hf := (if_neg c12).symm.trans hf
      refine g_aload_n 0 dX0_cheapestDay_11 rfl rfl ?_
      refine gf_193 dX0_cheapestDay_12 rfl ob_154 rfl ?_
      refine g_iload_n 2 dX0_cheapestDay_15 rfl rfl ?_
      obtain ⟨v1, e2, hf⟩ := bnd_some hf
      refine p_iald dX0_cheapestDay_16 at_156 e2 ?_
      refine g_istore_n dX0_cheapestDay_17 rfl (Nat.le_of_ble_eq_true rfl) rfl ?_
      refine g_iload_n 0 dX0_cheapestDay_18 rfl rfl ?_
      refine g_bipush (v := -9) dX0_cheapestDay_19 rfl ?_
      refine g_icmp_eq (tgt := 52) dX0_cheapestDay_21 (by decide) (fun c11 => ?_) (fun c11 => ?_)
      · replace hf := (if_pos c11).symm.trans hf
        refine g_iinc (q := 3) (v := (b2 + (1 : Int32))) dX0_cheapestDay_52 rfl rfl (Nat.le_of_ble_eq_true rfl) rfl ?_
        refine g_goto (tgt := 5) dX0_cheapestDay_55 (by decide) ?_
        refine g_sub [2, 3, 0] rfl ?_
        exact ih b1 (b2 + (1 : Int32)) _ hf hk
      · replace hf := (if_neg c11).symm.trans hf
        refine g_iload_n 2 dX0_cheapestDay_24 rfl rfl ?_
        refine g_bipush (v := -9) dX0_cheapestDay_25 rfl ?_
        refine g_icmp_eq (tgt := 50) dX0_cheapestDay_27 (by decide) (fun c10 => ?_) (fun c10 => ?_)
        · replace hf := (if_pos c10).symm.trans hf
          refine g_iload_n 3 dX0_cheapestDay_50 rfl rfl ?_
          refine g_istore_n dX0_cheapestDay_51 rfl (Nat.le_of_ble_eq_true rfl) rfl ?_
          refine g_iinc (q := 3) (v := (b2 + (1 : Int32))) dX0_cheapestDay_52 rfl rfl (Nat.le_of_ble_eq_true rfl) rfl ?_
          refine g_goto (tgt := 5) dX0_cheapestDay_55 (by decide) ?_
          refine g_sub [3, 1, 0] rfl ?_
          exact ih b2 (b2 + (1 : Int32)) _ hf hk
        · replace hf := (if_neg c10).symm.trans hf
          refine g_aload_n 1 dX0_cheapestDay_30 rfl rfl ?_
          refine gf_192 dX0_cheapestDay_31 rfl ob_154 rfl ?_
          refine g_iload_n 0 dX0_cheapestDay_34 rfl rfl ?_
          obtain ⟨v3, e4, hf⟩ := bnd_some hf
          refine p_iald dX0_cheapestDay_35 at_155 e4 ?_
          refine g_aload_n 1 dX0_cheapestDay_36 rfl rfl ?_
          refine gf_192 dX0_cheapestDay_37 rfl ob_154 rfl ?_
          refine g_aload_n 1 dX0_cheapestDay_40 rfl rfl ?_
          refine gf_193 dX0_cheapestDay_41 rfl ob_154 rfl ?_
          refine g_iload_n 2 dX0_cheapestDay_44 rfl rfl ?_
          obtain ⟨v5, e6, hf⟩ := bnd_some hf
          refine p_iald dX0_cheapestDay_45 at_156 e6 ?_
          obtain ⟨v7, e8, hf⟩ := bnd_some hf
          refine p_iald dX0_cheapestDay_46 at_155 e8 ?_
          refine g_icmp_ge (tgt := 52) dX0_cheapestDay_47 (by decide) (fun c9 => ?_) (fun c9 => ?_)
          · replace hf := (if_pos c9).symm.trans hf
            refine g_iinc (q := 3) (v := (b2 + (1 : Int32))) dX0_cheapestDay_52 rfl rfl (Nat.le_of_ble_eq_true rfl) rfl ?_
            refine g_goto (tgt := 5) dX0_cheapestDay_55 (by decide) ?_
            refine g_sub [2, 3, 0] rfl ?_
            exact ih b1 (b2 + (1 : Int32)) _ hf hk
          · replace hf := (if_neg c9).symm.trans hf
            refine g_iload_n 3 dX0_cheapestDay_50 rfl rfl ?_
            refine g_istore_n dX0_cheapestDay_51 rfl (Nat.le_of_ble_eq_true rfl) rfl ?_
            refine g_iinc (q := 3) (v := (b2 + (1 : Int32))) dX0_cheapestDay_52 rfl rfl (Nat.le_of_ble_eq_true rfl) rfl ?_
            refine g_goto (tgt := 5) dX0_cheapestDay_55 (by decide) ?_
            refine g_sub [3, 1, 0] rfl ?_
            exact ih b2 (b2 + (1 : Int32)) _ hf hk

set_option maxRecDepth 100000 in
theorem t_X0_cheapestDay {V : eV}  {m : mM} {q : Int32} (hf : f_X0_cheapestDay  m = some q) : eE V 0 yX0_cheapestDay cX0_cheapestDay 4 (some .int) [.ref (vB V + 154)] (hS m) (some (.int q)) (hS m) := by
  refine eE_of (by decide) (Nat.le_of_ble_eq_true rfl) ?_
  show gG V k_X0_cheapestDay 0 [(0, .ref (vB V + 154))] [] (hS m) _ _
  unfold f_X0_cheapestDay at hf
  refine g_bipush (v := -9) dX0_cheapestDay_0 rfl ?_
  refine g_istore_n dX0_cheapestDay_2 rfl (Nat.le_of_ble_eq_true rfl) rfl ?_
  refine g_iconst (v := 0) dX0_cheapestDay_3 rfl ?_
  refine g_istore_n dX0_cheapestDay_4 rfl (Nat.le_of_ble_eq_true rfl) rfl ?_
  refine g_sub [2, 1, 0] rfl ?_
  obtain ⟨o13, e14, hf⟩ := bnd_some hf
  refine t_X0_cheapestDay_L5 (V := V) m fU (-9 : Int32) (0 : Int32) _ e14 ?_
  refine g_iload_n 0 dX0_cheapestDay_58 rfl rfl ?_
  cases hf
  exact g_iret dX0_cheapestDay_59 .int rfl rfl

abbrev k_X0_chooseDays : kX := (cX0_chooseDays, "WhoseHourItIs$Costs", "chooseDays", none, 7, 1)
def f_X0_chooseDays_L2 (b1 : Int32) (b2 : Int32) : Nat → Int32 → mM → Option (mM)
  | 0, _, _ => none
  | n + 1, b3, m =>
      if (7 : Int32) ≤ b3 then (
      some m)
      else (
      bnd (f_X0_cheapestOf b3 b2 m) fun q1 =>
      bnd (wrA 156 7 b3 q1 m) fun m3 =>
      f_X0_chooseDays_L2 b1 b2 n (b3 + (1 : Int32)) m3)
def f_X0_chooseDays_L34 (b1 : Int32) : Nat → Int32 → Int32 → Int32 → mM → Option ((mM) ⊕ (Int32 × Int32 × mM))
  | 0, _, _, _, _ => none
  | n + 1, b3, b4, b5, m =>
      if b1 ≤ b5 then (
      some (.inr (b3, b4, m)))
      else (
      bnd (f_X0_cheapestDay m) fun q8 =>
      if q8 = (-9 : Int32) then (
      some (.inl m))
      else (
      bnd (rdA 156 7 q8 m) fun v10 =>
      bnd (rdA 155 28 v10 m) fun v12 =>
      bnd (rdA 156 7 q8 m) fun v14 =>
      bnd (wrA 156 7 q8 (-9 : Int32) m) fun m16 =>
      f_X0_chooseDays_L34 b1 n (b3 + v12) (b4 ||| ((1 : Int32) <<< (v14 &&& 31))) (b5 + (1 : Int32)) m16))
def f_X0_chooseDays (a1 : Int32) (a2 : Int32) (m : mM) : Option (mM) :=
bnd (f_X0_chooseDays_L2 a1 a2 fU (0 : Int32) m) fun o6 =>
bnd (f_X0_chooseDays_L34 a1 fU (0 : Int32) (0 : Int32) (0 : Int32) o6) fun o20 =>
ora o20 (fun zq => some zq) fun x21 =>
bnd (some (m_up x21.2.2 154 4 x21.1)) fun m23 =>
bnd (some (m_up m23 154 3 x21.2.1)) fun m25 =>
some m25
set_option maxRecDepth 100000 in
theorem t_X0_chooseDays_L2 {V : eV} (b1 : Int32) (b2 : Int32) {r : Option Value} {h' : aH} : ∀ (n : Nat) (b3 : Int32) (m : mM) (o : mM), f_X0_chooseDays_L2 b1 b2 n b3 m = some o → gG V k_X0_chooseDays 26 [(0, .ref (vB V + 154)), (1, .int b1)] [] (hS o) r h' → gG V k_X0_chooseDays 2 [(0, .ref (vB V + 154)), (1, .int b1), (2, .int b2), (3, .int b3)] [] (hS m) r h' := by
  intro n
  induction n with
  | zero => intro b3 m o hf; cases hf
  | succ n ih =>
    intro b3 m o hf hk
    rw [f_X0_chooseDays_L2] at hf
    refine g_iload_n 3 dX0_chooseDays_2 rfl rfl ?_
    refine g_bipush (v := 7) dX0_chooseDays_3 rfl ?_
    refine g_icmp_ge (tgt := 26) dX0_chooseDays_5 (by decide) (fun c5 => ?_) (fun c5 => ?_)
    · replace hf := (if_pos c5).symm.trans hf
      cases hf
      refine g_sub [0, 1] rfl ?_
      exact hk
    · replace hf := (if_neg c5).symm.trans hf
      refine g_aload_n 0 dX0_chooseDays_8 rfl rfl ?_
      refine gf_193 dX0_chooseDays_9 rfl ob_154 rfl ?_
      refine g_iload_n 3 dX0_chooseDays_12 rfl rfl ?_
      refine g_aload_n 0 dX0_chooseDays_13 rfl rfl ?_
      refine g_iload_n 3 dX0_chooseDays_14 rfl rfl ?_
      refine g_iload_n 2 dX0_chooseDays_15 rfl rfl ?_
      obtain ⟨q1, e2, hf⟩ := bnd_some hf
      refine p_callV (As := [.int b3, .int b2]) (rest := [.int b3, .ref (vB V + 156)]) (t_X0_cheapestOf e2) cw_586 w_588 w_7 ob_154 rfl (Nat.le_of_ble_eq_true rfl) rfl rfl (Nat.le_of_ble_eq_true rfl) dX0_chooseDays_16 ?_
      obtain ⟨m3, e4, hf⟩ := bnd_some hf
      refine p_iast dX0_chooseDays_19 at_156 e4 ?_
      refine g_iinc (q := 3) (v := (b3 + (1 : Int32))) dX0_chooseDays_20 rfl rfl (Nat.le_of_ble_eq_true rfl) rfl ?_
      refine g_goto (tgt := 2) dX0_chooseDays_23 (by decide) ?_
      refine g_sub [1, 2, 3, 0] rfl ?_
      exact ih (b3 + (1 : Int32)) m3 _ hf hk

set_option maxRecDepth 100000 in
theorem t_X0_chooseDays_L34 {V : eV} (b1 : Int32) {r : Option Value} {h' : aH} : ∀ (n : Nat) (b3 : Int32) (b4 : Int32) (b5 : Int32) (m : mM) (o : (mM) ⊕ (Int32 × Int32 × mM)), f_X0_chooseDays_L34 b1 n b3 b4 b5 m = some o → lxV hS o r h' (fun x => gG V k_X0_chooseDays 98 [(0, .ref (vB V + 154)), (3, .int x.1), (4, .int x.2.1)] [] (hS x.2.2) r h') → gG V k_X0_chooseDays 34 [(0, .ref (vB V + 154)), (1, .int b1), (3, .int b3), (4, .int b4), (5, .int b5)] [] (hS m) r h' := by
  intro n
  induction n with
  | zero => intro b3 b4 b5 m o hf; cases hf
  | succ n ih =>
    intro b3 b4 b5 m o hf hk
    rw [f_X0_chooseDays_L34] at hf
    refine g_iload 4 dX0_chooseDays_34 rfl ?_
    refine g_iload_n 1 dX0_chooseDays_36 rfl rfl ?_
    refine g_icmp_ge (tgt := 98) dX0_chooseDays_37 (by decide) (fun c19 => ?_) (fun c19 => ?_)
    · replace hf := (if_pos c19).symm.trans hf
      cases hf
      refine g_sub [0, 2, 3] rfl ?_
      exact hk
    · replace hf := (if_neg c19).symm.trans hf
      refine g_aload_n 0 dX0_chooseDays_40 rfl rfl ?_
      obtain ⟨q8, e9, hf⟩ := bnd_some hf
      refine p_callV (As := []) (rest := []) (t_X0_cheapestDay e9) cw_590 w_592 w_8 ob_154 rfl (Nat.le_of_ble_eq_true rfl) rfl rfl (Nat.le_of_ble_eq_true rfl) dX0_chooseDays_41 ?_
      refine g_istore dX0_chooseDays_44 (Nat.le_of_ble_eq_true rfl) rfl ?_
      refine g_iload 0 dX0_chooseDays_46 rfl ?_
      refine g_bipush (v := -9) dX0_chooseDays_48 rfl ?_
      refine g_icmp_ne (tgt := 54) dX0_chooseDays_50 (by decide) (fun c18 => ?_) (fun c18 => ?_)
      · replace hf := (if_neg c18).symm.trans hf
        refine g_iload_n 3 dX0_chooseDays_54 rfl rfl ?_
        refine g_aload_n 1 dX0_chooseDays_55 rfl rfl ?_
        refine gf_192 dX0_chooseDays_56 rfl ob_154 rfl ?_
        refine g_aload_n 1 dX0_chooseDays_59 rfl rfl ?_
        refine gf_193 dX0_chooseDays_60 rfl ob_154 rfl ?_
        refine g_iload 0 dX0_chooseDays_63 rfl ?_
        obtain ⟨v10, e11, hf⟩ := bnd_some hf
        refine p_iald dX0_chooseDays_65 at_156 e11 ?_
        obtain ⟨v12, e13, hf⟩ := bnd_some hf
        refine p_iald dX0_chooseDays_66 at_155 e13 ?_
        refine g_iadd dX0_chooseDays_67 ?_
        refine g_istore_n dX0_chooseDays_68 rfl (Nat.le_of_ble_eq_true rfl) rfl ?_
        refine g_iload 4 dX0_chooseDays_69 rfl ?_
        refine g_iconst (v := 1) dX0_chooseDays_71 rfl ?_
        refine g_aload_n 2 dX0_chooseDays_72 rfl rfl ?_
        refine gf_193 dX0_chooseDays_73 rfl ob_154 rfl ?_
        refine g_iload 1 dX0_chooseDays_76 rfl ?_
        obtain ⟨v14, e15, hf⟩ := bnd_some hf
        refine p_iald dX0_chooseDays_78 at_156 e15 ?_
        refine g_ishl dX0_chooseDays_79 ?_
        refine g_ior dX0_chooseDays_80 ?_
        refine g_istore dX0_chooseDays_81 (Nat.le_of_ble_eq_true rfl) rfl ?_
        refine g_aload_n 3 dX0_chooseDays_83 rfl rfl ?_
        refine gf_193 dX0_chooseDays_84 rfl ob_154 rfl ?_
        refine g_iload 2 dX0_chooseDays_87 rfl ?_
        refine g_bipush (v := -9) dX0_chooseDays_89 rfl ?_
        obtain ⟨m16, e17, hf⟩ := bnd_some hf
        refine p_iast dX0_chooseDays_91 at_156 e17 ?_
        refine g_iinc (q := 5) (v := (b5 + (1 : Int32))) dX0_chooseDays_92 rfl rfl (Nat.le_of_ble_eq_true rfl) rfl ?_
        refine g_goto (tgt := 34) dX0_chooseDays_95 (by decide) ?_
        refine g_sub [4, 5, 2, 1, 0] rfl ?_
        exact ih (b3 + v12) (b4 ||| ((1 : Int32) <<< (v14 &&& 31))) (b5 + (1 : Int32)) m16 _ hf hk
      · replace hf := (if_pos c18).symm.trans hf
        cases hf
        obtain ⟨rfl, rfl⟩ := hk
        exact g_vret dX0_chooseDays_53 rfl

set_option maxRecDepth 100000 in
theorem t_X0_chooseDays {V : eV} {a1 : Int32} {a2 : Int32}  {m : mM} {q : mM} (hf : f_X0_chooseDays a1 a2 m = some q) : eE V 1 yX0_chooseDays cX0_chooseDays 7 (none) [.ref (vB V + 154), .int a1, .int a2] (hS m) none (hS q) := by
  refine eE_of (by decide) (Nat.le_of_ble_eq_true rfl) ?_
  show gG V k_X0_chooseDays 0 [(0, .ref (vB V + 154)), (1, .int a1), (2, .int a2)] [] (hS m) _ _
  unfold f_X0_chooseDays at hf
  refine g_iconst (v := 0) dX0_chooseDays_0 rfl ?_
  refine g_istore_n dX0_chooseDays_1 rfl (Nat.le_of_ble_eq_true rfl) rfl ?_
  refine g_sub [1, 2, 3, 0] rfl ?_
  obtain ⟨o6, e7, hf⟩ := bnd_some hf
  refine t_X0_chooseDays_L2 (V := V) a1 a2 fU (0 : Int32) m _ e7 ?_
  refine g_iconst (v := 0) dX0_chooseDays_26 rfl ?_
  refine g_istore_n dX0_chooseDays_27 rfl (Nat.le_of_ble_eq_true rfl) rfl ?_
  refine g_iconst (v := 0) dX0_chooseDays_28 rfl ?_
  refine g_istore dX0_chooseDays_29 (Nat.le_of_ble_eq_true rfl) rfl ?_
  refine g_iconst (v := 0) dX0_chooseDays_31 rfl ?_
  refine g_istore dX0_chooseDays_32 (Nat.le_of_ble_eq_true rfl) rfl ?_
  refine g_sub [3, 4, 2, 1, 0] rfl ?_
  obtain ⟨o20, e22, hf⟩ := bnd_some hf
  refine t_X0_chooseDays_L34 (V := V) a1 fU (0 : Int32) (0 : Int32) (0 : Int32) o6 _ e22 ?_
  rcases o20 with zq | x21
  · replace hf := ora_l hf
    cases hf
    exact ⟨rfl, rfl⟩
  · replace hf := ora_r hf
    show gG V _ _ _ _ _ _ _
    refine g_aload_n 0 dX0_chooseDays_98 rfl rfl ?_
    refine g_iload_n 1 dX0_chooseDays_99 rfl rfl ?_
    obtain ⟨m23, e24, hf⟩ := bnd_some hf
    cases e24
    refine pf_199 dX0_chooseDays_100 rfl ob_154 rfl ?_
    generalize m_up x21.2.2 154 4 x21.1 = m23 at hf ⊢
    refine g_aload_n 0 dX0_chooseDays_103 rfl rfl ?_
    refine g_iload 2 dX0_chooseDays_104 rfl ?_
    obtain ⟨m25, e26, hf⟩ := bnd_some hf
    cases e26
    refine pf_195 dX0_chooseDays_106 rfl ob_154 rfl ?_
    generalize m_up m23 154 3 x21.2.1 = m25 at hf ⊢
    cases hf
    exact g_vret dX0_chooseDays_109 rfl

abbrev k_X0_runCost : kX := (cX0_runCost, "WhoseHourItIs$Costs", "runCost", some .int, 5, 0)
def f_X0_runCost_L5 (b1 : Int32) (b2 : Int32) (m : mM) : Nat → Int32 → Int32 → Option ((Int32) ⊕ (Int32))
  | 0, _, _ => none
  | n + 1, b3, b4 =>
      if (b1 + b2) ≤ b4 then (
      some (.inr b3))
      else (
      if (28 : Int32) ≤ b4 then (
      some (.inr b3))
      else (
      bnd (rdA 155 28 b4 m) fun v1 =>
      if v1 = (-9 : Int32) then (
      some (.inl (-9 : Int32)))
      else (
      bnd (rdA 155 28 b4 m) fun v3 =>
      f_X0_runCost_L5 b1 b2 m n (b3 + v3) (b4 + (1 : Int32)))))
def f_X0_runCost (a1 : Int32) (a2 : Int32) (m : mM) : Option (Int32) :=
bnd (f_X0_runCost_L5 a1 a2 m fU (0 : Int32) a1) fun o8 =>
ora o8 (fun zq => some zq) fun x9 =>
some x9
set_option maxRecDepth 100000 in
theorem t_X0_runCost_L5 {V : eV} (b1 : Int32) (b2 : Int32) (m : mM) {r : Option Value} {h' : aH} : ∀ (n : Nat) (b3 : Int32) (b4 : Int32) (o : (Int32) ⊕ (Int32)), f_X0_runCost_L5 b1 b2 m n b3 b4 = some o → lxP (hS m) o r h' (fun x => gG V k_X0_runCost 51 [(3, .int x)] [] (hS m) r h') → gG V k_X0_runCost 5 [(0, .ref (vB V + 154)), (1, .int b1), (2, .int b2), (3, .int b3), (4, .int b4)] [] (hS m) r h' := by
  intro n
  induction n with
  | zero => intro b3 b4 o hf; cases hf
  | succ n ih =>
    intro b3 b4 o hf hk
    rw [f_X0_runCost_L5] at hf
    refine g_iload 4 dX0_runCost_5 rfl ?_
    refine g_iload_n 1 dX0_runCost_7 rfl rfl ?_
    refine g_iload_n 2 dX0_runCost_8 rfl rfl ?_
    refine g_iadd dX0_runCost_9 ?_
    refine g_icmp_ge (tgt := 51) dX0_runCost_10 (by decide) (fun c7 => ?_) (fun c7 => ?_)
    · replace hf := (if_pos c7).symm.trans hf
      cases hf
      refine g_sub [3] rfl ?_
      exact hk
    · replace hf := (if_neg c7).symm.trans hf
      refine g_iload 4 dX0_runCost_13 rfl ?_
      refine g_bipush (v := 28) dX0_runCost_15 rfl ?_
      refine g_icmp_ge (tgt := 51) dX0_runCost_17 (by decide) (fun c6 => ?_) (fun c6 => ?_)
      · replace hf := (if_pos c6).symm.trans hf
        cases hf
        refine g_sub [3] rfl ?_
        exact hk
      · replace hf := (if_neg c6).symm.trans hf
        refine g_aload_n 0 dX0_runCost_20 rfl rfl ?_
        refine gf_192 dX0_runCost_21 rfl ob_154 rfl ?_
        refine g_iload 4 dX0_runCost_24 rfl ?_
        obtain ⟨v1, e2, hf⟩ := bnd_some hf
        refine p_iald dX0_runCost_26 at_155 e2 ?_
        refine g_bipush (v := -9) dX0_runCost_27 rfl ?_
        refine g_icmp_ne (tgt := 35) dX0_runCost_29 (by decide) (fun c5 => ?_) (fun c5 => ?_)
        · replace hf := (if_neg c5).symm.trans hf
          refine g_iload_n 3 dX0_runCost_35 rfl rfl ?_
          refine g_aload_n 0 dX0_runCost_36 rfl rfl ?_
          refine gf_192 dX0_runCost_37 rfl ob_154 rfl ?_
          refine g_iload 4 dX0_runCost_40 rfl ?_
          obtain ⟨v3, e4, hf⟩ := bnd_some hf
          refine p_iald dX0_runCost_42 at_155 e4 ?_
          refine g_iadd dX0_runCost_43 ?_
          refine g_istore_n dX0_runCost_44 rfl (Nat.le_of_ble_eq_true rfl) rfl ?_
          refine g_iinc (q := 4) (v := (b4 + (1 : Int32))) dX0_runCost_45 rfl rfl (Nat.le_of_ble_eq_true rfl) rfl ?_
          refine g_goto (tgt := 5) dX0_runCost_48 (by decide) ?_
          refine g_sub [2, 3, 4, 1, 0] rfl ?_
          exact ih (b3 + v3) (b4 + (1 : Int32)) _ hf hk
        · replace hf := (if_pos c5).symm.trans hf
          refine g_bipush (v := -9) dX0_runCost_32 rfl ?_
          cases hf
          obtain ⟨rfl, rfl⟩ := hk
          exact g_iret dX0_runCost_34 .int rfl rfl

set_option maxRecDepth 100000 in
theorem t_X0_runCost {V : eV} {a1 : Int32} {a2 : Int32}  {m : mM} {q : Int32} (hf : f_X0_runCost a1 a2 m = some q) : eE V 0 yX0_runCost cX0_runCost 5 (some .int) [.ref (vB V + 154), .int a1, .int a2] (hS m) (some (.int q)) (hS m) := by
  refine eE_of (by decide) (Nat.le_of_ble_eq_true rfl) ?_
  show gG V k_X0_runCost 0 [(0, .ref (vB V + 154)), (1, .int a1), (2, .int a2)] [] (hS m) _ _
  unfold f_X0_runCost at hf
  refine g_iconst (v := 0) dX0_runCost_0 rfl ?_
  refine g_istore_n dX0_runCost_1 rfl (Nat.le_of_ble_eq_true rfl) rfl ?_
  refine g_iload_n 2 dX0_runCost_2 rfl rfl ?_
  refine g_istore dX0_runCost_3 (Nat.le_of_ble_eq_true rfl) rfl ?_
  refine g_sub [2, 3, 4, 1, 0] rfl ?_
  obtain ⟨o8, e10, hf⟩ := bnd_some hf
  refine t_X0_runCost_L5 (V := V) a1 a2 m fU (0 : Int32) a1 _ e10 ?_
  rcases o8 with zq | x9
  · replace hf := ora_l hf
    cases hf
    exact ⟨rfl, rfl⟩
  · replace hf := ora_r hf
    show gG V _ _ _ _ _ _ _
    refine g_iload_n 0 dX0_runCost_51 rfl rfl ?_
    cases hf
    exact g_iret dX0_runCost_52 .int rfl rfl

abbrev k_X0_runBits : kX := (cX0_runBits, "WhoseHourItIs$Costs", "runBits", some .int, 2, 0)
def f_X0_runBits (a0 : Int32) (a1 : Int32) (m : mM) : Option (Int32) :=
some ((((1 : Int32) <<< (a1 &&& 31)) - (1 : Int32)) <<< (a0 &&& 31))
set_option maxRecDepth 100000 in
theorem t_X0_runBits {V : eV} {a0 : Int32} {a1 : Int32}  {m : mM} {q : Int32} (hf : f_X0_runBits a0 a1 m = some q) : eE V 0 yX0_runBits cX0_runBits 2 (some .int) [.int a0, .int a1] (hS m) (some (.int q)) (hS m) := by
  refine eE_of (by decide) (Nat.le_of_ble_eq_true rfl) ?_
  show gG V k_X0_runBits 0 [(0, .int a0), (1, .int a1)] [] (hS m) _ _
  unfold f_X0_runBits at hf
  refine g_iconst (v := 1) dX0_runBits_0 rfl ?_
  refine g_iload_n 1 dX0_runBits_1 rfl rfl ?_
  refine g_ishl dX0_runBits_2 ?_
  refine g_iconst (v := 1) dX0_runBits_3 rfl ?_
  refine g_isub dX0_runBits_4 ?_
  refine g_iload_n 0 dX0_runBits_5 rfl rfl ?_
  refine g_ishl dX0_runBits_6 ?_
  cases hf
  exact g_iret dX0_runBits_7 .int rfl rfl

abbrev k_X0_chooseRun : kX := (cX0_chooseRun, "WhoseHourItIs$Costs", "chooseRun", none, 5, 1)
def f_X0_chooseRun_L2 (b1 : Int32) (b2 : Int32) : Nat → Int32 → mM → Option (mM)
  | 0, _, _ => none
  | n + 1, b3, m =>
      if b2 < ((b3 + b1) - (1 : Int32)) then (
      some m)
      else (
      bnd (f_X0_runCost b3 b1 m) fun q1 =>
      if q1 = (-9 : Int32) then (
      f_X0_chooseRun_L2 b1 b2 n (b3 + (1 : Int32)) m)
      else (
      if (m 154 4) = (-9 : Int32) then (
      bnd (some (m_up m 154 4 q1)) fun m3 =>
      bnd (f_X0_runBits b3 b1 m3) fun q5 =>
      bnd (some (m_up m3 154 3 q5)) fun m7 =>
      f_X0_chooseRun_L2 b1 b2 n (b3 + (1 : Int32)) m7)
      else (
      if (m 154 4) ≤ q1 then (
      f_X0_chooseRun_L2 b1 b2 n (b3 + (1 : Int32)) m)
      else (
      bnd (some (m_up m 154 4 q1)) fun m9 =>
      bnd (f_X0_runBits b3 b1 m9) fun q11 =>
      bnd (some (m_up m9 154 3 q11)) fun m13 =>
      f_X0_chooseRun_L2 b1 b2 n (b3 + (1 : Int32)) m13))))
def f_X0_chooseRun (a1 : Int32) (a2 : Int32) (m : mM) : Option (mM) :=
bnd (f_X0_chooseRun_L2 a1 a2 fU (0 : Int32) m) fun o19 =>
some o19
set_option maxRecDepth 100000 in
theorem t_X0_chooseRun_L2 {V : eV} (b1 : Int32) (b2 : Int32) {r : Option Value} {h' : aH} : ∀ (n : Nat) (b3 : Int32) (m : mM) (o : mM), f_X0_chooseRun_L2 b1 b2 n b3 m = some o → gG V k_X0_chooseRun 65 [] [] (hS o) r h' → gG V k_X0_chooseRun 2 [(0, .ref (vB V + 154)), (1, .int b1), (2, .int b2), (3, .int b3)] [] (hS m) r h' := by
  intro n
  induction n with
  | zero => intro b3 m o hf; cases hf
  | succ n ih =>
    intro b3 m o hf hk
    rw [f_X0_chooseRun_L2] at hf
    refine g_iload_n 3 dX0_chooseRun_2 rfl rfl ?_
    refine g_iload_n 1 dX0_chooseRun_3 rfl rfl ?_
    refine g_iadd dX0_chooseRun_4 ?_
    refine g_iconst (v := 1) dX0_chooseRun_5 rfl ?_
    refine g_isub dX0_chooseRun_6 ?_
    refine g_iload_n 2 dX0_chooseRun_7 rfl rfl ?_
    refine g_icmp_gt (tgt := 65) dX0_chooseRun_8 (by decide) (fun c18 => ?_) (fun c18 => ?_)
    · replace hf := (if_pos c18).symm.trans hf
      cases hf
      refine g_sub [] rfl ?_
      exact hk
    · replace hf := (if_neg c18).symm.trans hf
      refine g_aload_n 0 dX0_chooseRun_11 rfl rfl ?_
      refine g_iload_n 3 dX0_chooseRun_12 rfl rfl ?_
      refine g_iload_n 1 dX0_chooseRun_13 rfl rfl ?_
      obtain ⟨q1, e2, hf⟩ := bnd_some hf
      refine p_callV (As := [.int b3, .int b1]) (rest := []) (t_X0_runCost e2) cw_598 w_599 w_600 ob_154 rfl (Nat.le_of_ble_eq_true rfl) rfl rfl (Nat.le_of_ble_eq_true rfl) dX0_chooseRun_14 ?_
      refine g_istore dX0_chooseRun_17 (Nat.le_of_ble_eq_true rfl) rfl ?_
      refine g_iload 0 dX0_chooseRun_19 rfl ?_
      refine g_bipush (v := -9) dX0_chooseRun_21 rfl ?_
      refine g_icmp_eq (tgt := 59) dX0_chooseRun_23 (by decide) (fun c17 => ?_) (fun c17 => ?_)
      · replace hf := (if_pos c17).symm.trans hf
        refine g_iinc (q := 4) (v := (b3 + (1 : Int32))) dX0_chooseRun_59 rfl rfl (Nat.le_of_ble_eq_true rfl) rfl ?_
        refine g_goto (tgt := 2) dX0_chooseRun_62 (by decide) ?_
        refine g_sub [2, 3, 4, 0] rfl ?_
        exact ih (b3 + (1 : Int32)) m _ hf hk
      · replace hf := (if_neg c17).symm.trans hf
        refine g_aload_n 1 dX0_chooseRun_26 rfl rfl ?_
        refine gf_199 dX0_chooseRun_27 rfl ob_154 rfl ?_
        refine g_bipush (v := -9) dX0_chooseRun_30 rfl ?_
        refine g_icmp_eq (tgt := 44) dX0_chooseRun_32 (by decide) (fun c16 => ?_) (fun c16 => ?_)
        · replace hf := (if_pos c16).symm.trans hf
          refine g_aload_n 1 dX0_chooseRun_44 rfl rfl ?_
          refine g_iload 0 dX0_chooseRun_45 rfl ?_
          obtain ⟨m3, e4, hf⟩ := bnd_some hf
          cases e4
          refine pf_199 dX0_chooseRun_47 rfl ob_154 rfl ?_
          generalize m_up m 154 4 q1 = m3 at hf ⊢
          refine g_aload_n 1 dX0_chooseRun_50 rfl rfl ?_
          refine g_iload_n 4 dX0_chooseRun_51 rfl rfl ?_
          refine g_iload_n 2 dX0_chooseRun_52 rfl rfl ?_
          obtain ⟨q5, e6, hf⟩ := bnd_some hf
          refine p_callS (As := [.int b3, .int b1]) (rest := [.ref (vB V + 154)]) (t_X0_runBits e6) cw_602 w_603 (Nat.le_of_ble_eq_true rfl) rfl rfl (Nat.le_of_ble_eq_true rfl) dX0_chooseRun_53 ?_
          obtain ⟨m7, e8, hf⟩ := bnd_some hf
          cases e8
          refine pf_195 dX0_chooseRun_56 rfl ob_154 rfl ?_
          generalize m_up m3 154 3 q5 = m7 at hf ⊢
          refine g_iinc (q := 4) (v := (b3 + (1 : Int32))) dX0_chooseRun_59 rfl rfl (Nat.le_of_ble_eq_true rfl) rfl ?_
          refine g_goto (tgt := 2) dX0_chooseRun_62 (by decide) ?_
          refine g_sub [2, 3, 4, 0] rfl ?_
          exact ih (b3 + (1 : Int32)) m7 _ hf hk
        · replace hf := (if_neg c16).symm.trans hf
          refine g_iload 0 dX0_chooseRun_35 rfl ?_
          refine g_aload_n 1 dX0_chooseRun_37 rfl rfl ?_
          refine gf_199 dX0_chooseRun_38 rfl ob_154 rfl ?_
          refine g_icmp_ge (tgt := 59) dX0_chooseRun_41 (by decide) (fun c15 => ?_) (fun c15 => ?_)
          · replace hf := (if_pos c15).symm.trans hf
            refine g_iinc (q := 4) (v := (b3 + (1 : Int32))) dX0_chooseRun_59 rfl rfl (Nat.le_of_ble_eq_true rfl) rfl ?_
            refine g_goto (tgt := 2) dX0_chooseRun_62 (by decide) ?_
            refine g_sub [2, 3, 4, 0] rfl ?_
            exact ih (b3 + (1 : Int32)) m _ hf hk
          · replace hf := (if_neg c15).symm.trans hf
            refine g_aload_n 1 dX0_chooseRun_44 rfl rfl ?_
            refine g_iload 0 dX0_chooseRun_45 rfl ?_
            obtain ⟨m9, e10, hf⟩ := bnd_some hf
            cases e10
            refine pf_199 dX0_chooseRun_47 rfl ob_154 rfl ?_
            generalize m_up m 154 4 q1 = m9 at hf ⊢
            refine g_aload_n 1 dX0_chooseRun_50 rfl rfl ?_
            refine g_iload_n 4 dX0_chooseRun_51 rfl rfl ?_
            refine g_iload_n 2 dX0_chooseRun_52 rfl rfl ?_
            obtain ⟨q11, e12, hf⟩ := bnd_some hf
            refine p_callS (As := [.int b3, .int b1]) (rest := [.ref (vB V + 154)]) (t_X0_runBits e12) cw_602 w_603 (Nat.le_of_ble_eq_true rfl) rfl rfl (Nat.le_of_ble_eq_true rfl) dX0_chooseRun_53 ?_
            obtain ⟨m13, e14, hf⟩ := bnd_some hf
            cases e14
            refine pf_195 dX0_chooseRun_56 rfl ob_154 rfl ?_
            generalize m_up m9 154 3 q11 = m13 at hf ⊢
            refine g_iinc (q := 4) (v := (b3 + (1 : Int32))) dX0_chooseRun_59 rfl rfl (Nat.le_of_ble_eq_true rfl) rfl ?_
            refine g_goto (tgt := 2) dX0_chooseRun_62 (by decide) ?_
            refine g_sub [2, 3, 4, 0] rfl ?_
            exact ih (b3 + (1 : Int32)) m13 _ hf hk

set_option maxRecDepth 100000 in
theorem t_X0_chooseRun {V : eV} {a1 : Int32} {a2 : Int32}  {m : mM} {q : mM} (hf : f_X0_chooseRun a1 a2 m = some q) : eE V 1 yX0_chooseRun cX0_chooseRun 5 (none) [.ref (vB V + 154), .int a1, .int a2] (hS m) none (hS q) := by
  refine eE_of (by decide) (Nat.le_of_ble_eq_true rfl) ?_
  show gG V k_X0_chooseRun 0 [(0, .ref (vB V + 154)), (1, .int a1), (2, .int a2)] [] (hS m) _ _
  unfold f_X0_chooseRun at hf
  refine g_iconst (v := 0) dX0_chooseRun_0 rfl ?_
  refine g_istore_n dX0_chooseRun_1 rfl (Nat.le_of_ble_eq_true rfl) rfl ?_
  refine g_sub [1, 2, 3, 0] rfl ?_
  obtain ⟨o19, e20, hf⟩ := bnd_some hf
  refine t_X0_chooseRun_L2 (V := V) a1 a2 fU (0 : Int32) m _ e20 ?_
  cases hf
  exact g_vret dX0_chooseRun_65 rfl

abbrev k_X0_choose : kX := (cX0_choose, "WhoseHourItIs$Costs", "choose", none, 4, 3)
def f_X0_choose_L12 (b1 : Int32) (b2 : Nat) : Nat → Int32 → mM → Option (mM)
  | 0, _, _ => none
  | n + 1, b3, m =>
      bnd (rdA (44 + b2) 6 (3 : Int32) m) fun v3 =>
      if v3 < b3 then (
      some m)
      else (
      bnd (f_X0_hourCost b1 b3 m) fun q5 =>
      bnd (wrA 155 28 b3 q5 m) fun m7 =>
      f_X0_choose_L12 b1 b2 n (b3 + (1 : Int32)) m7)
def f_X0_choose (a1 : Int32) (m : mM) : Option (mM) :=
bnd (ckR 6 a1) fun j1 =>
bnd (f_X0_choose_L12 a1 j1 fU (0 : Int32) m) fun o10 =>
bnd (some (m_up o10 154 3 (0 : Int32))) fun m12 =>
bnd (some (m_up m12 154 4 (-9 : Int32))) fun m14 =>
bnd (rdA (44 + j1) 6 (1 : Int32) m14) fun v16 =>
if v16 = (1 : Int32) then (
bnd (rdA (44 + j1) 6 (2 : Int32) m14) fun v18 =>
bnd (rdA (44 + j1) 6 (3 : Int32) m14) fun v20 =>
bnd (f_X0_chooseDays v18 v20 m14) fun q22 =>
some q22)
else (
bnd (rdA (44 + j1) 6 (2 : Int32) m14) fun v24 =>
bnd (rdA (44 + j1) 6 (3 : Int32) m14) fun v26 =>
bnd (f_X0_chooseRun v24 v26 m14) fun q28 =>
some q28)
set_option maxRecDepth 100000 in
theorem t_X0_choose_L12 {V : eV} (b1 : Int32) (b2 : Nat) (hb2 : b2 < 6) {r : Option Value} {h' : aH} : ∀ (n : Nat) (b3 : Int32) (m : mM) (o : mM), f_X0_choose_L12 b1 b2 n b3 m = some o → gG V k_X0_choose 37 [(0, .ref (vB V + 154)), (2, .ref (vB V + (44 + b2)))] [] (hS o) r h' → gG V k_X0_choose 12 [(0, .ref (vB V + 154)), (1, .int b1), (2, .ref (vB V + (44 + b2))), (3, .int b3)] [] (hS m) r h' := by
  intro n
  induction n with
  | zero => intro b3 m o hf; cases hf
  | succ n ih =>
    intro b3 m o hf hk
    rw [f_X0_choose_L12] at hf
    refine g_iload_n 3 dX0_choose_12 rfl rfl ?_
    refine g_aload_n 2 dX0_choose_13 rfl rfl ?_
    refine g_iconst (v := 3) dX0_choose_14 rfl ?_
    obtain ⟨v3, e4, hf⟩ := bnd_some hf
    refine p_iald dX0_choose_15 (ar_44 hb2) e4 ?_
    refine g_icmp_gt (tgt := 37) dX0_choose_16 (by decide) (fun c9 => ?_) (fun c9 => ?_)
    · replace hf := (if_pos c9).symm.trans hf
      cases hf
      refine g_sub [0, 2] rfl ?_
      exact hk
    · replace hf := (if_neg c9).symm.trans hf
      refine g_aload_n 0 dX0_choose_19 rfl rfl ?_
      refine gf_192 dX0_choose_20 rfl ob_154 rfl ?_
      refine g_iload_n 3 dX0_choose_23 rfl rfl ?_
      refine g_aload_n 0 dX0_choose_24 rfl rfl ?_
      refine g_iload_n 1 dX0_choose_25 rfl rfl ?_
      refine g_iload_n 3 dX0_choose_26 rfl rfl ?_
      obtain ⟨q5, e6, hf⟩ := bnd_some hf
      refine p_callV (As := [.int b1, .int b3]) (rest := [.int b3, .ref (vB V + 155)]) (t_X0_hourCost e6) cw_564 w_565 w_566 ob_154 rfl (Nat.le_of_ble_eq_true rfl) rfl rfl (Nat.le_of_ble_eq_true rfl) dX0_choose_27 ?_
      obtain ⟨m7, e8, hf⟩ := bnd_some hf
      refine p_iast dX0_choose_30 at_155 e8 ?_
      refine g_iinc (q := 3) (v := (b3 + (1 : Int32))) dX0_choose_31 rfl rfl (Nat.le_of_ble_eq_true rfl) rfl ?_
      refine g_goto (tgt := 12) dX0_choose_34 (by decide) ?_
      refine g_sub [1, 2, 3, 0] rfl ?_
      exact ih (b3 + (1 : Int32)) m7 _ hf hk

set_option maxRecDepth 100000 in
theorem t_X0_choose {V : eV} {a1 : Int32}  {m : mM} {q : mM} (hf : f_X0_choose a1 m = some q) : eE V 3 yX0_choose cX0_choose 4 (none) [.ref (vB V + 154), .int a1] (hS m) none (hS q) := by
  refine eE_of (by decide) (Nat.le_of_ble_eq_true rfl) ?_
  show gG V k_X0_choose 0 [(0, .ref (vB V + 154)), (1, .int a1)] [] (hS m) _ _
  unfold f_X0_choose at hf
  refine g_aload_n 0 dX0_choose_0 rfl rfl ?_
  refine gf_191 dX0_choose_1 rfl ob_154 rfl ?_
  refine gf_134 dX0_choose_4 rfl ob_1 rfl ?_
  refine g_iload_n 1 dX0_choose_7 rfl rfl ?_
  obtain ⟨j1, e2, hf⟩ := bnd_some hf
  refine p_aald dX0_choose_8 rt_43 e2 (fun hj1 => ?_)
  refine g_astore_n dX0_choose_9 rfl (Nat.le_of_ble_eq_true rfl) rfl ?_
  refine g_iconst (v := 0) dX0_choose_10 rfl ?_
  refine g_istore_n dX0_choose_11 rfl (Nat.le_of_ble_eq_true rfl) rfl ?_
  refine g_sub [2, 3, 1, 0] rfl ?_
  obtain ⟨o10, e11, hf⟩ := bnd_some hf
  refine t_X0_choose_L12 (V := V) a1 j1 hj1 fU (0 : Int32) m _ e11 ?_
  refine g_aload_n 0 dX0_choose_37 rfl rfl ?_
  refine g_iconst (v := 0) dX0_choose_38 rfl ?_
  obtain ⟨m12, e13, hf⟩ := bnd_some hf
  cases e13
  refine pf_195 dX0_choose_39 rfl ob_154 rfl ?_
  generalize m_up o10 154 3 (0 : Int32) = m12 at hf ⊢
  refine g_aload_n 0 dX0_choose_42 rfl rfl ?_
  refine g_bipush (v := -9) dX0_choose_43 rfl ?_
  obtain ⟨m14, e15, hf⟩ := bnd_some hf
  cases e15
  refine pf_199 dX0_choose_45 rfl ob_154 rfl ?_
  generalize m_up m12 154 4 (-9 : Int32) = m14 at hf ⊢
  refine g_aload_n 1 dX0_choose_48 rfl rfl ?_
  refine g_iconst (v := 1) dX0_choose_49 rfl ?_
  obtain ⟨v16, e17, hf⟩ := bnd_some hf
  refine p_iald dX0_choose_50 (ar_44 hj1) e17 ?_
  refine g_iconst (v := 1) dX0_choose_51 rfl ?_
  refine g_icmp_ne (tgt := 68) dX0_choose_52 (by decide) (fun c30 => ?_) (fun c30 => ?_)
  · replace hf := (if_neg c30).symm.trans hf
    refine g_aload_n 0 dX0_choose_68 rfl rfl ?_
    refine g_aload_n 1 dX0_choose_69 rfl rfl ?_
    refine g_iconst (v := 2) dX0_choose_70 rfl ?_
    obtain ⟨v24, e25, hf⟩ := bnd_some hf
    refine p_iald dX0_choose_71 (ar_44 hj1) e25 ?_
    refine g_aload_n 1 dX0_choose_72 rfl rfl ?_
    refine g_iconst (v := 3) dX0_choose_73 rfl ?_
    obtain ⟨v26, e27, hf⟩ := bnd_some hf
    refine p_iald dX0_choose_74 (ar_44 hj1) e27 ?_
    obtain ⟨q28, e29, hf⟩ := bnd_some hf
    refine p_callVv (As := [.int v24, .int v26]) (rest := []) (t_X0_chooseRun e29) cw_594 w_596 w_9 ob_154 rfl (Nat.le_of_ble_eq_true rfl) rfl rfl (Nat.le_of_ble_eq_true rfl) dX0_choose_75 ?_
    cases hf
    exact g_vret dX0_choose_78 rfl
  · replace hf := (if_pos c30).symm.trans hf
    refine g_aload_n 0 dX0_choose_55 rfl rfl ?_
    refine g_aload_n 1 dX0_choose_56 rfl rfl ?_
    refine g_iconst (v := 2) dX0_choose_57 rfl ?_
    obtain ⟨v18, e19, hf⟩ := bnd_some hf
    refine p_iald dX0_choose_58 (ar_44 hj1) e19 ?_
    refine g_aload_n 1 dX0_choose_59 rfl rfl ?_
    refine g_iconst (v := 3) dX0_choose_60 rfl ?_
    obtain ⟨v20, e21, hf⟩ := bnd_some hf
    refine p_iald dX0_choose_61 (ar_44 hj1) e21 ?_
    obtain ⟨q22, e23, hf⟩ := bnd_some hf
    refine p_callVv (As := [.int v18, .int v20]) (rest := []) (t_X0_chooseDays e23) cw_582 w_584 w_6 ob_154 rfl (Nat.le_of_ble_eq_true rfl) rfl rfl (Nat.le_of_ble_eq_true rfl) dX0_choose_62 ?_
    refine g_goto (tgt := 78) dX0_choose_65 (by decide) ?_
    cases hf
    exact g_vret dX0_choose_78 rfl

abbrev k_X8_netOf : kX := (cX8_netOf, "WhoseHourItIs", "netOf", some .int, 2, 0)
def f_X8_netOf (a0 : Int32) (a1 : Int32) (m : mM) : Option (Int32) :=
if a1 = (-9 : Int32) then (
some (-9 : Int32))
else (
if a1 ≤ a0 then (
some (a0 - a1))
else (
some (-9 : Int32)))
set_option maxRecDepth 100000 in
theorem t_X8_netOf {V : eV} {a0 : Int32} {a1 : Int32}  {m : mM} {q : Int32} (hf : f_X8_netOf a0 a1 m = some q) : eE V 0 yX8_netOf cX8_netOf 2 (some .int) [.int a0, .int a1] (hS m) (some (.int q)) (hS m) := by
  refine eE_of (by decide) (Nat.le_of_ble_eq_true rfl) ?_
  show gG V k_X8_netOf 0 [(0, .int a0), (1, .int a1)] [] (hS m) _ _
  unfold f_X8_netOf at hf
  refine g_iload_n 1 dX8_netOf_0 rfl rfl ?_
  refine g_bipush (v := -9) dX8_netOf_1 rfl ?_
  refine g_icmp_eq (tgt := 11) dX8_netOf_3 (by decide) (fun c2 => ?_) (fun c2 => ?_)
  · replace hf := (if_pos c2).symm.trans hf
    refine g_bipush (v := -9) dX8_netOf_11 rfl ?_
    refine g_goto (tgt := 19) dX8_netOf_13 (by decide) ?_
    cases hf
    exact g_iret dX8_netOf_19 .int rfl rfl
  · replace hf := (if_neg c2).symm.trans hf
    refine g_iload_n 0 dX8_netOf_6 rfl rfl ?_
    refine g_iload_n 1 dX8_netOf_7 rfl rfl ?_
    refine g_icmp_ge (tgt := 16) dX8_netOf_8 (by decide) (fun c1 => ?_) (fun c1 => ?_)
    · replace hf := (if_pos c1).symm.trans hf
      refine g_iload_n 0 dX8_netOf_16 rfl rfl ?_
      refine g_iload_n 1 dX8_netOf_17 rfl rfl ?_
      refine g_isub dX8_netOf_18 ?_
      cases hf
      exact g_iret dX8_netOf_19 .int rfl rfl
    · replace hf := (if_neg c1).symm.trans hf
      refine g_bipush (v := -9) dX8_netOf_11 rfl ?_
      refine g_goto (tgt := 19) dX8_netOf_13 (by decide) ?_
      cases hf
      exact g_iret dX8_netOf_19 .int rfl rfl

abbrev k_X1_shareOf : kX := (cX1_shareOf, "WhoseHourItIs$Market", "shareOf", some .int, 6, 2)
def f_X1_shareOf_L6 (b1 : Int32) (b2 : Int32) (b3 : Int32) (m : mM) : Nat → Int32 → Int32 → Option (Int32)
  | 0, _, _ => none
  | n + 1, b4, b5 =>
      if (28 : Int32) ≤ b5 then (
      some b4)
      else (
      bnd (f_X8_isIn b3 b5 m) fun q1 =>
      if q1 = 0 then (
      f_X1_shareOf_L6 b1 b2 b3 m n b4 (b5 + (1 : Int32)))
      else (
      bnd (f_X0_partCost b2 b1 b5 m) fun q3 =>
      f_X1_shareOf_L6 b1 b2 b3 m n (b4 + q3) (b5 + (1 : Int32))))
def f_X1_shareOf (a1 : Int32) (a2 : Int32) (a3 : Int32) (m : mM) : Option (Int32) :=
bnd (f_X1_shareOf_L6 a1 a2 a3 m fU (0 : Int32) (0 : Int32)) fun o7 =>
some o7
set_option maxRecDepth 100000 in
theorem t_X1_shareOf_L6 {V : eV} (b1 : Int32) (b2 : Int32) (b3 : Int32) (m : mM) {r : Option Value} {h' : aH} : ∀ (n : Nat) (b4 : Int32) (b5 : Int32) (o : Int32), f_X1_shareOf_L6 b1 b2 b3 m n b4 b5 = some o → gG V k_X1_shareOf 44 [(4, .int o)] [] (hS m) r h' → gG V k_X1_shareOf 6 [(0, .ref (vB V + 157)), (1, .int b1), (2, .int b2), (3, .int b3), (4, .int b4), (5, .int b5)] [] (hS m) r h' := by
  intro n
  induction n with
  | zero => intro b4 b5 o hf; cases hf
  | succ n ih =>
    intro b4 b5 o hf hk
    rw [f_X1_shareOf_L6] at hf
    refine g_iload 5 dX1_shareOf_6 rfl ?_
    refine g_bipush (v := 28) dX1_shareOf_8 rfl ?_
    refine g_icmp_ge (tgt := 44) dX1_shareOf_10 (by decide) (fun c6 => ?_) (fun c6 => ?_)
    · replace hf := (if_pos c6).symm.trans hf
      cases hf
      refine g_sub [4] rfl ?_
      exact hk
    · replace hf := (if_neg c6).symm.trans hf
      refine g_iload_n 3 dX1_shareOf_13 rfl rfl ?_
      refine g_iload 5 dX1_shareOf_14 rfl ?_
      obtain ⟨q1, e2, hf⟩ := bnd_some hf
      refine p_callSN (As := [.int b3, .int b5]) (rest := []) (t_X8_isIn e2) cw_612 w_534 (Nat.le_of_ble_eq_true rfl) rfl rfl (Nat.le_of_ble_eq_true rfl) dX1_shareOf_16 ?_
      refine g_if_eq (tgt := 38) dX1_shareOf_19 (by decide) (fun c5 => ?_) (fun c5 => ?_)
      · replace hf := (if_pos c5).symm.trans hf
        refine g_iinc (q := 5) (v := (b5 + (1 : Int32))) dX1_shareOf_38 rfl rfl (Nat.le_of_ble_eq_true rfl) rfl ?_
        refine g_goto (tgt := 6) dX1_shareOf_41 (by decide) ?_
        refine g_sub [1, 2, 3, 4, 5, 0] rfl ?_
        exact ih b4 (b5 + (1 : Int32)) _ hf hk
      · replace hf := (if_neg c5).symm.trans hf
        refine g_iload 4 dX1_shareOf_22 rfl ?_
        refine g_aload_n 0 dX1_shareOf_24 rfl rfl ?_
        refine gf_219 dX1_shareOf_25 rfl ob_157 rfl ?_
        refine g_iload_n 2 dX1_shareOf_28 rfl rfl ?_
        refine g_iload_n 1 dX1_shareOf_29 rfl rfl ?_
        refine g_iload 5 dX1_shareOf_30 rfl ?_
        obtain ⟨q3, e4, hf⟩ := bnd_some hf
        refine p_callV (As := [.int b2, .int b1, .int b5]) (rest := [.int b4]) (t_X0_partCost e4) cw_613 w_569 w_570 ob_154 rfl (Nat.le_of_ble_eq_true rfl) rfl rfl (Nat.le_of_ble_eq_true rfl) dX1_shareOf_32 ?_
        refine g_iadd dX1_shareOf_35 ?_
        refine g_istore dX1_shareOf_36 (Nat.le_of_ble_eq_true rfl) rfl ?_
        refine g_iinc (q := 5) (v := (b5 + (1 : Int32))) dX1_shareOf_38 rfl rfl (Nat.le_of_ble_eq_true rfl) rfl ?_
        refine g_goto (tgt := 6) dX1_shareOf_41 (by decide) ?_
        refine g_sub [2, 3, 4, 5, 1, 0] rfl ?_
        exact ih (b4 + q3) (b5 + (1 : Int32)) _ hf hk

set_option maxRecDepth 100000 in
theorem t_X1_shareOf {V : eV} {a1 : Int32} {a2 : Int32} {a3 : Int32}  {m : mM} {q : Int32} (hf : f_X1_shareOf a1 a2 a3 m = some q) : eE V 2 yX1_shareOf cX1_shareOf 6 (some .int) [.ref (vB V + 157), .int a1, .int a2, .int a3] (hS m) (some (.int q)) (hS m) := by
  refine eE_of (by decide) (Nat.le_of_ble_eq_true rfl) ?_
  show gG V k_X1_shareOf 0 [(0, .ref (vB V + 157)), (1, .int a1), (2, .int a2), (3, .int a3)] [] (hS m) _ _
  unfold f_X1_shareOf at hf
  refine g_iconst (v := 0) dX1_shareOf_0 rfl ?_
  refine g_istore dX1_shareOf_1 (Nat.le_of_ble_eq_true rfl) rfl ?_
  refine g_iconst (v := 0) dX1_shareOf_3 rfl ?_
  refine g_istore dX1_shareOf_4 (Nat.le_of_ble_eq_true rfl) rfl ?_
  refine g_sub [2, 3, 4, 5, 1, 0] rfl ?_
  obtain ⟨o7, e8, hf⟩ := bnd_some hf
  refine t_X1_shareOf_L6 (V := V) a1 a2 a3 m fU (0 : Int32) (0 : Int32) _ e8 ?_
  refine g_iload 0 dX1_shareOf_44 rfl ?_
  cases hf
  exact g_iret dX1_shareOf_46 .int rfl rfl

abbrev k_X1_earned : kX := (cX1_earned, "WhoseHourItIs$Market", "earned", some .int, 4, 4)
def f_X1_earned_L4 (b1 : Int32) : Nat → Int32 → Int32 → mM → Option (Int32 × mM)
  | 0, _, _, _ => none
  | n + 1, b2, b3, m =>
      if (m 1 1) ≤ b3 then (
      some (b2, m))
      else (
      bnd (ckR 6 b3) fun j1 =>
      bnd (rdA (44 + j1) 6 (0 : Int32) m) fun v3 =>
      if v3 = b1 then (
      f_X1_earned_L4 b1 n b2 (b3 + (1 : Int32)) m)
      else (
      bnd (f_X0_choose b3 m) fun q5 =>
      bnd (ckR 6 b3) fun j7 =>
      bnd (rdA (44 + j7) 6 (4 : Int32) q5) fun v9 =>
      bnd (f_X8_netOf v9 (q5 154 4) q5) fun q11 =>
      if q11 = (-9 : Int32) then (
      f_X1_earned_L4 b1 n b2 (b3 + (1 : Int32)) q5)
      else (
      bnd (rdA 11 8 b1 q5) fun v13 =>
      bnd (f_X1_shareOf b1 b3 ((q5 154 3) &&& v13) q5) fun q15 =>
      f_X1_earned_L4 b1 n (b2 + q15) (b3 + (1 : Int32)) q5)))
def f_X1_earned (a1 : Int32) (m : mM) : Option (Int32 × mM) :=
bnd (f_X1_earned_L4 a1 fU (0 : Int32) (0 : Int32) m) fun o20 =>
some (o20.1, o20.2)
set_option maxRecDepth 100000 in
theorem t_X1_earned_L4 {V : eV} (b1 : Int32) {r : Option Value} {h' : aH} : ∀ (n : Nat) (b2 : Int32) (b3 : Int32) (m : mM) (o : Int32 × mM), f_X1_earned_L4 b1 n b2 b3 m = some o → gG V k_X1_earned 99 [(2, .int o.1)] [] (hS o.2) r h' → gG V k_X1_earned 4 [(0, .ref (vB V + 157)), (1, .int b1), (2, .int b2), (3, .int b3)] [] (hS m) r h' := by
  intro n
  induction n with
  | zero => intro b2 b3 m o hf; cases hf
  | succ n ih =>
    intro b2 b3 m o hf hk
    rw [f_X1_earned_L4] at hf
    refine g_iload_n 3 dX1_earned_4 rfl rfl ?_
    refine g_aload_n 0 dX1_earned_5 rfl rfl ?_
    refine gf_218 dX1_earned_6 rfl ob_157 rfl ?_
    refine gf_96 dX1_earned_9 rfl ob_1 rfl ?_
    refine g_icmp_ge (tgt := 99) dX1_earned_12 (by decide) (fun c19 => ?_) (fun c19 => ?_)
    · replace hf := (if_pos c19).symm.trans hf
      cases hf
      refine g_sub [2] rfl ?_
      exact hk
    · replace hf := (if_neg c19).symm.trans hf
      refine g_aload_n 0 dX1_earned_15 rfl rfl ?_
      refine gf_218 dX1_earned_16 rfl ob_157 rfl ?_
      refine gf_132 dX1_earned_19 rfl ob_1 rfl ?_
      refine g_iload_n 3 dX1_earned_22 rfl rfl ?_
      obtain ⟨j1, e2, hf⟩ := bnd_some hf
      refine p_aald dX1_earned_23 rt_43 e2 (fun hj1 => ?_)
      refine g_iconst (v := 0) dX1_earned_24 rfl ?_
      obtain ⟨v3, e4, hf⟩ := bnd_some hf
      refine p_iald dX1_earned_25 (ar_44 hj1) e4 ?_
      refine g_iload_n 1 dX1_earned_26 rfl rfl ?_
      refine g_icmp_ne (tgt := 33) dX1_earned_27 (by decide) (fun c18 => ?_) (fun c18 => ?_)
      · replace hf := (if_neg c18).symm.trans hf
        refine g_aload_n 0 dX1_earned_33 rfl rfl ?_
        refine gf_219 dX1_earned_34 rfl ob_157 rfl ?_
        refine g_iload_n 3 dX1_earned_37 rfl rfl ?_
        obtain ⟨q5, e6, hf⟩ := bnd_some hf
        refine p_callVv (As := [.int b3]) (rest := []) (t_X0_choose e6) cw_560 w_561 w_562 ob_154 rfl (Nat.le_of_ble_eq_true rfl) rfl rfl (Nat.le_of_ble_eq_true rfl) dX1_earned_38 ?_
        refine g_aload_n 0 dX1_earned_41 rfl rfl ?_
        refine gf_218 dX1_earned_42 rfl ob_157 rfl ?_
        refine gf_132 dX1_earned_45 rfl ob_1 rfl ?_
        refine g_iload_n 3 dX1_earned_48 rfl rfl ?_
        obtain ⟨j7, e8, hf⟩ := bnd_some hf
        refine p_aald dX1_earned_49 rt_43 e8 (fun hj7 => ?_)
        refine g_iconst (v := 4) dX1_earned_50 rfl ?_
        obtain ⟨v9, e10, hf⟩ := bnd_some hf
        refine p_iald dX1_earned_51 (ar_44 hj7) e10 ?_
        refine g_aload_n 0 dX1_earned_52 rfl rfl ?_
        refine gf_219 dX1_earned_53 rfl ob_157 rfl ?_
        refine gf_197 dX1_earned_56 rfl ob_154 rfl ?_
        obtain ⟨q11, e12, hf⟩ := bnd_some hf
        refine p_callSN (As := [.int v9, .int (q5 154 4)]) (rest := []) (t_X8_netOf e12) cw_605 w_606 (Nat.le_of_ble_eq_true rfl) rfl rfl (Nat.le_of_ble_eq_true rfl) dX1_earned_59 ?_
        refine g_bipush (v := -9) dX1_earned_62 rfl ?_
        refine g_icmp_eq (tgt := 93) dX1_earned_64 (by decide) (fun c17 => ?_) (fun c17 => ?_)
        · replace hf := (if_pos c17).symm.trans hf
          refine g_iinc (q := 3) (v := (b3 + (1 : Int32))) dX1_earned_93 rfl rfl (Nat.le_of_ble_eq_true rfl) rfl ?_
          refine g_goto (tgt := 4) dX1_earned_96 (by decide) ?_
          refine g_sub [1, 2, 3, 0] rfl ?_
          exact ih b2 (b3 + (1 : Int32)) q5 _ hf hk
        · replace hf := (if_neg c17).symm.trans hf
          refine g_iload_n 2 dX1_earned_67 rfl rfl ?_
          refine g_aload_n 0 dX1_earned_68 rfl rfl ?_
          refine g_iload_n 1 dX1_earned_69 rfl rfl ?_
          refine g_iload_n 3 dX1_earned_70 rfl rfl ?_
          refine g_aload_n 0 dX1_earned_71 rfl rfl ?_
          refine gf_219 dX1_earned_72 rfl ob_157 rfl ?_
          refine gf_194 dX1_earned_75 rfl ob_154 rfl ?_
          refine g_aload_n 0 dX1_earned_78 rfl rfl ?_
          refine gf_218 dX1_earned_79 rfl ob_157 rfl ?_
          refine gf_116 dX1_earned_82 rfl ob_1 rfl ?_
          refine g_iload_n 1 dX1_earned_85 rfl rfl ?_
          obtain ⟨v13, e14, hf⟩ := bnd_some hf
          refine p_iald dX1_earned_86 at_11 e14 ?_
          refine g_iand dX1_earned_87 ?_
          obtain ⟨q15, e16, hf⟩ := bnd_some hf
          refine p_callV (As := [.int b1, .int b3, .int ((q5 154 3) &&& v13)]) (rest := [.int b2]) (t_X1_shareOf e16) cw_608 w_610 w_10 ob_157 rfl (Nat.le_of_ble_eq_true rfl) rfl rfl (Nat.le_of_ble_eq_true rfl) dX1_earned_88 ?_
          refine g_iadd dX1_earned_91 ?_
          refine g_istore_n dX1_earned_92 rfl (Nat.le_of_ble_eq_true rfl) rfl ?_
          refine g_iinc (q := 3) (v := (b3 + (1 : Int32))) dX1_earned_93 rfl rfl (Nat.le_of_ble_eq_true rfl) rfl ?_
          refine g_goto (tgt := 4) dX1_earned_96 (by decide) ?_
          refine g_sub [2, 3, 1, 0] rfl ?_
          exact ih (b2 + q15) (b3 + (1 : Int32)) q5 _ hf hk
      · replace hf := (if_pos c18).symm.trans hf
        refine g_goto (tgt := 93) dX1_earned_30 (by decide) ?_
        refine g_iinc (q := 3) (v := (b3 + (1 : Int32))) dX1_earned_93 rfl rfl (Nat.le_of_ble_eq_true rfl) rfl ?_
        refine g_goto (tgt := 4) dX1_earned_96 (by decide) ?_
        refine g_sub [1, 2, 3, 0] rfl ?_
        exact ih b2 (b3 + (1 : Int32)) m _ hf hk

set_option maxRecDepth 100000 in
theorem t_X1_earned {V : eV} {a1 : Int32}  {m : mM} {q : Int32 × mM} (hf : f_X1_earned a1 m = some q) : eE V 4 yX1_earned cX1_earned 4 (some .int) [.ref (vB V + 157), .int a1] (hS m) (some (.int q.1)) (hS q.2) := by
  refine eE_of (by decide) (Nat.le_of_ble_eq_true rfl) ?_
  show gG V k_X1_earned 0 [(0, .ref (vB V + 157)), (1, .int a1)] [] (hS m) _ _
  unfold f_X1_earned at hf
  refine g_iconst (v := 0) dX1_earned_0 rfl ?_
  refine g_istore_n dX1_earned_1 rfl (Nat.le_of_ble_eq_true rfl) rfl ?_
  refine g_iconst (v := 0) dX1_earned_2 rfl ?_
  refine g_istore_n dX1_earned_3 rfl (Nat.le_of_ble_eq_true rfl) rfl ?_
  refine g_sub [2, 3, 1, 0] rfl ?_
  obtain ⟨o20, e21, hf⟩ := bnd_some hf
  refine t_X1_earned_L4 (V := V) a1 fU (0 : Int32) (0 : Int32) m _ e21 ?_
  refine g_iload_n 0 dX1_earned_99 rfl rfl ?_
  cases hf
  exact g_iret dX1_earned_100 .int rfl rfl

abbrev k_X8_holder : kX := (cX8_holder, "WhoseHourItIs", "holder", some .int, 3, 5)
def f_X8_holder (a1 : Int32) (a2 : Int32) (m : mM) : Option (Int32 × mM) :=
bnd (f_X7_hasHolder_1 a1 m) fun q1 =>
if q1 = 0 then (
bnd (f_X8_refuse (-1 : Int32) m) fun q3 =>
some (q3.1, q3.2))
else (
if a2 < 0 then (
bnd (f_X8_refuse (-2 : Int32) m) fun q5 =>
some (q5.1, q5.2))
else (
if a2 ≤ (4 : Int32) then (
if a2 = (3 : Int32) then (
bnd (rdA 11 8 a1 m) fun v7 =>
some ((bitC v7), m))
else (
if a2 = (4 : Int32) then (
bnd (f_X1_earned a1 m) fun q9 =>
some (q9.1, q9.2))
else (
bnd (ckR 8 a1) fun j11 =>
bnd (rdA (3 + j11) 3 a2 m) fun v13 =>
some (v13, m))))
else (
bnd (f_X8_refuse (-2 : Int32) m) fun q17 =>
some (q17.1, q17.2))))
set_option maxRecDepth 100000 in
theorem t_X8_holder {V : eV} {a1 : Int32} {a2 : Int32}  {m : mM} {q : Int32 × mM} (hf : f_X8_holder a1 a2 m = some q) : eE V 5 yX8_holder cX8_holder 3 (some .int) [.ref (vB V + 0), .int a1, .int a2] (hS m) (some (.int q.1)) (hS q.2) := by
  refine eE_of (by decide) (Nat.le_of_ble_eq_true rfl) ?_
  show gG V k_X8_holder 0 [(0, .ref (vB V + 0)), (1, .int a1), (2, .int a2)] [] (hS m) _ _
  unfold f_X8_holder at hf
  refine g_aload_n 0 dX8_holder_0 rfl rfl ?_
  refine gf_314 dX8_holder_1 rfl ob_0 rfl ?_
  refine g_iload_n 1 dX8_holder_4 rfl rfl ?_
  obtain ⟨q1, e2, hf⟩ := bnd_some hf
  refine p_callV (As := [.int a1]) (rest := []) (t_X7_hasHolder_1 e2) cw_549 w_523 w_524 ob_1 rfl (Nat.le_of_ble_eq_true rfl) rfl rfl (Nat.le_of_ble_eq_true rfl) dX8_holder_5 ?_
  refine g_if_ne (tgt := 17) dX8_holder_8 (by decide) (fun c21 => ?_) (fun c21 => ?_)
  · replace hf := (if_neg c21).symm.trans hf
    refine g_iload_n 2 dX8_holder_17 rfl rfl ?_
    refine g_if_lt (tgt := 26) dX8_holder_18 (by decide) (fun c20 => ?_) (fun c20 => ?_)
    · replace hf := (if_pos c20).symm.trans hf
      refine g_aload_n 0 dX8_holder_26 rfl rfl ?_
      refine g_bipush (v := -2) dX8_holder_27 rfl ?_
      obtain ⟨q5, e6, hf⟩ := bnd_some hf
      refine p_callV (As := [.int (-2 : Int32)]) (rest := []) (t_X8_refuse e6) cw_355 w_357 w_0 ob_0 rfl (Nat.le_of_ble_eq_true rfl) rfl rfl (Nat.le_of_ble_eq_true rfl) dX8_holder_29 ?_
      cases hf
      exact g_iret dX8_holder_32 .int rfl rfl
    · replace hf := (if_neg c20).symm.trans hf
      refine g_iload_n 2 dX8_holder_21 rfl rfl ?_
      refine g_iconst (v := 4) dX8_holder_22 rfl ?_
      refine g_icmp_le (tgt := 33) dX8_holder_23 (by decide) (fun c19 => ?_) (fun c19 => ?_)
      · replace hf := (if_pos c19).symm.trans hf
        refine g_iload_n 2 dX8_holder_33 rfl rfl ?_
        refine g_iconst (v := 3) dX8_holder_34 rfl ?_
        refine g_icmp_ne (tgt := 51) dX8_holder_35 (by decide) (fun c16 => ?_) (fun c16 => ?_)
        · replace hf := (if_neg c16).symm.trans hf
          refine g_iload_n 2 dX8_holder_51 rfl rfl ?_
          refine g_iconst (v := 4) dX8_holder_52 rfl ?_
          refine g_icmp_ne (tgt := 65) dX8_holder_53 (by decide) (fun c15 => ?_) (fun c15 => ?_)
          · replace hf := (if_neg c15).symm.trans hf
            refine g_aload_n 0 dX8_holder_65 rfl rfl ?_
            refine gf_314 dX8_holder_66 rfl ob_0 rfl ?_
            refine gf_114 dX8_holder_69 rfl ob_1 rfl ?_
            refine g_iload_n 1 dX8_holder_72 rfl rfl ?_
            obtain ⟨j11, e12, hf⟩ := bnd_some hf
            refine p_aald dX8_holder_73 rt_2 e12 (fun hj11 => ?_)
            refine g_iload_n 2 dX8_holder_74 rfl rfl ?_
            obtain ⟨v13, e14, hf⟩ := bnd_some hf
            refine p_iald dX8_holder_75 (ar_3 hj11) e14 ?_
            cases hf
            exact g_iret dX8_holder_76 .int rfl rfl
          · replace hf := (if_pos c15).symm.trans hf
            refine g_aload_n 0 dX8_holder_56 rfl rfl ?_
            refine gf_320 dX8_holder_57 rfl ob_0 rfl ?_
            refine g_iload_n 1 dX8_holder_60 rfl rfl ?_
            obtain ⟨q9, e10, hf⟩ := bnd_some hf
            refine p_callV (As := [.int a1]) (rest := []) (t_X1_earned e10) cw_556 w_557 w_558 ob_157 rfl (Nat.le_of_ble_eq_true rfl) rfl rfl (Nat.le_of_ble_eq_true rfl) dX8_holder_61 ?_
            cases hf
            exact g_iret dX8_holder_64 .int rfl rfl
        · replace hf := (if_pos c16).symm.trans hf
          refine g_aload_n 0 dX8_holder_38 rfl rfl ?_
          refine gf_314 dX8_holder_39 rfl ob_0 rfl ?_
          refine gf_118 dX8_holder_42 rfl ob_1 rfl ?_
          refine g_iload_n 1 dX8_holder_45 rfl rfl ?_
          obtain ⟨v7, e8, hf⟩ := bnd_some hf
          refine p_iald dX8_holder_46 at_11 e8 ?_
          refine p_callS (As := [.int v7]) (rest := []) (j_bitCount v7) cw_550 w_551 (Nat.le_of_ble_eq_true rfl) rfl rfl (Nat.le_of_ble_eq_true rfl) dX8_holder_47 ?_
          cases hf
          exact g_iret dX8_holder_50 .int rfl rfl
      · replace hf := (if_neg c19).symm.trans hf
        refine g_aload_n 0 dX8_holder_26 rfl rfl ?_
        refine g_bipush (v := -2) dX8_holder_27 rfl ?_
        obtain ⟨q17, e18, hf⟩ := bnd_some hf
        refine p_callV (As := [.int (-2 : Int32)]) (rest := []) (t_X8_refuse e18) cw_355 w_357 w_0 ob_0 rfl (Nat.le_of_ble_eq_true rfl) rfl rfl (Nat.le_of_ble_eq_true rfl) dX8_holder_29 ?_
        cases hf
        exact g_iret dX8_holder_32 .int rfl rfl
  · replace hf := (if_pos c21).symm.trans hf
    refine g_aload_n 0 dX8_holder_11 rfl rfl ?_
    refine g_iconst (v := -1) dX8_holder_12 rfl ?_
    obtain ⟨q3, e4, hf⟩ := bnd_some hf
    refine p_callV (As := [.int (-1 : Int32)]) (rest := []) (t_X8_refuse e4) cw_355 w_357 w_0 ob_0 rfl (Nat.le_of_ble_eq_true rfl) rfl rfl (Nat.le_of_ble_eq_true rfl) dX8_holder_13 ?_
    cases hf
    exact g_iret dX8_holder_16 .int rfl rfl

abbrev k_X8_hour : kX := (cX8_hour, "WhoseHourItIs", "hour", some .int, 3, 1)
def f_X8_hour (a1 : Int32) (a2 : Int32) (m : mM) : Option (Int32 × mM) :=
bnd (f_X8_isHour a1 m) fun q1 =>
if q1 = 0 then (
bnd (f_X8_refuse (-1 : Int32) m) fun q3 =>
some (q3.1, q3.2))
else (
if (-1 : Int32) ≤ a2 then (
if a2 = (-1 : Int32) then (
bnd (rdA 13 28 a1 m) fun v5 =>
some (v5, m))
else (
bnd (rdA 13 28 a1 m) fun v7 =>
if v7 ≤ a2 then (
some ((-9 : Int32), m))
else (
bnd (ckR 28 a1) fun j9 =>
bnd (rdA (15 + j9) 3 a2 m) fun v11 =>
some (v11, m))))
else (
bnd (f_X8_refuse (-4 : Int32) m) fun q15 =>
some (q15.1, q15.2)))
set_option maxRecDepth 100000 in
theorem t_X8_hour {V : eV} {a1 : Int32} {a2 : Int32}  {m : mM} {q : Int32 × mM} (hf : f_X8_hour a1 a2 m = some q) : eE V 1 yX8_hour cX8_hour 3 (some .int) [.ref (vB V + 0), .int a1, .int a2] (hS m) (some (.int q.1)) (hS q.2) := by
  refine eE_of (by decide) (Nat.le_of_ble_eq_true rfl) ?_
  show gG V k_X8_hour 0 [(0, .ref (vB V + 0)), (1, .int a1), (2, .int a2)] [] (hS m) _ _
  unfold f_X8_hour at hf
  refine g_iload_n 1 dX8_hour_0 rfl rfl ?_
  obtain ⟨q1, e2, hf⟩ := bnd_some hf
  refine p_callS (As := [.int a1]) (rest := []) (t_X8_isHour e2) cw_618 w_527 (Nat.le_of_ble_eq_true rfl) rfl rfl (Nat.le_of_ble_eq_true rfl) dX8_hour_1 ?_
  refine g_if_ne (tgt := 13) dX8_hour_4 (by decide) (fun c18 => ?_) (fun c18 => ?_)
  · replace hf := (if_neg c18).symm.trans hf
    refine g_iload_n 2 dX8_hour_13 rfl rfl ?_
    refine g_iconst (v := -1) dX8_hour_14 rfl ?_
    refine g_icmp_ge (tgt := 25) dX8_hour_15 (by decide) (fun c17 => ?_) (fun c17 => ?_)
    · replace hf := (if_pos c17).symm.trans hf
      refine g_iload_n 2 dX8_hour_25 rfl rfl ?_
      refine g_iconst (v := -1) dX8_hour_26 rfl ?_
      refine g_icmp_ne (tgt := 40) dX8_hour_27 (by decide) (fun c14 => ?_) (fun c14 => ?_)
      · replace hf := (if_neg c14).symm.trans hf
        refine g_iload_n 2 dX8_hour_40 rfl rfl ?_
        refine g_aload_n 0 dX8_hour_41 rfl rfl ?_
        refine gf_314 dX8_hour_42 rfl ob_0 rfl ?_
        refine gf_126 dX8_hour_45 rfl ob_1 rfl ?_
        refine g_iload_n 1 dX8_hour_48 rfl rfl ?_
        obtain ⟨v7, e8, hf⟩ := bnd_some hf
        refine p_iald dX8_hour_49 at_13 e8 ?_
        refine g_icmp_ge (tgt := 67) dX8_hour_50 (by decide) (fun c13 => ?_) (fun c13 => ?_)
        · replace hf := (if_pos c13).symm.trans hf
          refine g_bipush (v := -9) dX8_hour_67 rfl ?_
          cases hf
          exact g_iret dX8_hour_69 .int rfl rfl
        · replace hf := (if_neg c13).symm.trans hf
          refine g_aload_n 0 dX8_hour_53 rfl rfl ?_
          refine gf_314 dX8_hour_54 rfl ob_0 rfl ?_
          refine gf_130 dX8_hour_57 rfl ob_1 rfl ?_
          refine g_iload_n 1 dX8_hour_60 rfl rfl ?_
          obtain ⟨j9, e10, hf⟩ := bnd_some hf
          refine p_aald dX8_hour_61 rt_14 e10 (fun hj9 => ?_)
          refine g_iload_n 2 dX8_hour_62 rfl rfl ?_
          obtain ⟨v11, e12, hf⟩ := bnd_some hf
          refine p_iald dX8_hour_63 (ar_15 hj9) e12 ?_
          refine g_goto (tgt := 69) dX8_hour_64 (by decide) ?_
          cases hf
          exact g_iret dX8_hour_69 .int rfl rfl
      · replace hf := (if_pos c14).symm.trans hf
        refine g_aload_n 0 dX8_hour_30 rfl rfl ?_
        refine gf_314 dX8_hour_31 rfl ob_0 rfl ?_
        refine gf_126 dX8_hour_34 rfl ob_1 rfl ?_
        refine g_iload_n 1 dX8_hour_37 rfl rfl ?_
        obtain ⟨v5, e6, hf⟩ := bnd_some hf
        refine p_iald dX8_hour_38 at_13 e6 ?_
        cases hf
        exact g_iret dX8_hour_39 .int rfl rfl
    · replace hf := (if_neg c17).symm.trans hf
      refine g_aload_n 0 dX8_hour_18 rfl rfl ?_
      refine g_bipush (v := -4) dX8_hour_19 rfl ?_
      obtain ⟨q15, e16, hf⟩ := bnd_some hf
      refine p_callV (As := [.int (-4 : Int32)]) (rest := []) (t_X8_refuse e16) cw_355 w_357 w_0 ob_0 rfl (Nat.le_of_ble_eq_true rfl) rfl rfl (Nat.le_of_ble_eq_true rfl) dX8_hour_21 ?_
      cases hf
      exact g_iret dX8_hour_24 .int rfl rfl
  · replace hf := (if_pos c18).symm.trans hf
    refine g_aload_n 0 dX8_hour_7 rfl rfl ?_
    refine g_iconst (v := -1) dX8_hour_8 rfl ?_
    obtain ⟨q3, e4, hf⟩ := bnd_some hf
    refine p_callV (As := [.int (-1 : Int32)]) (rest := []) (t_X8_refuse e4) cw_355 w_357 w_0 ob_0 rfl (Nat.le_of_ble_eq_true rfl) rfl rfl (Nat.le_of_ble_eq_true rfl) dX8_hour_9 ?_
    cases hf
    exact g_iret dX8_hour_12 .int rfl rfl

abbrev k_X7_hasWork_1 : kX := (cX7_hasWork, "WhoseHourItIs$Town", "hasWork", some .boolean, 2, 0)
def f_X7_hasWork_1 (a1 : Int32) (m : mM) : Option (Int32) :=
if a1 < 0 then (
some (0 : Int32))
else (
if (m 1 1) ≤ a1 then (
some (0 : Int32))
else (
some (1 : Int32)))
set_option maxRecDepth 100000 in
theorem t_X7_hasWork_1 {V : eV} {a1 : Int32}  {m : mM} {q : Int32} (hf : f_X7_hasWork_1 a1 m = some q) : eE V 0 yX7_hasWork cX7_hasWork 2 (some .boolean) [.ref (vB V + 1), .int a1] (hS m) (some (.int q)) (hS m) := by
  refine eE_of (by decide) (Nat.le_of_ble_eq_true rfl) ?_
  show gG V k_X7_hasWork_1 0 [(0, .ref (vB V + 1)), (1, .int a1)] [] (hS m) _ _
  unfold f_X7_hasWork_1 at hf
  refine g_iload_n 1 dX7_hasWork_0 rfl rfl ?_
  refine g_if_lt (tgt := 16) dX7_hasWork_1 (by decide) (fun c2 => ?_) (fun c2 => ?_)
  · replace hf := (if_pos c2).symm.trans hf
    refine g_iconst (v := 0) dX7_hasWork_16 rfl ?_
    cases hf
    exact g_iret dX7_hasWork_17 .boolean rfl rfl
  · replace hf := (if_neg c2).symm.trans hf
    refine g_iload_n 1 dX7_hasWork_4 rfl rfl ?_
    refine g_aload_n 0 dX7_hasWork_5 rfl rfl ?_
    refine gf_97 dX7_hasWork_6 rfl ob_1 rfl ?_
    refine g_icmp_ge (tgt := 16) dX7_hasWork_9 (by decide) (fun c1 => ?_) (fun c1 => ?_)
    · replace hf := (if_pos c1).symm.trans hf
      refine g_iconst (v := 0) dX7_hasWork_16 rfl ?_
      cases hf
      exact g_iret dX7_hasWork_17 .boolean rfl rfl
    · replace hf := (if_neg c1).symm.trans hf
      refine g_iconst (v := 1) dX7_hasWork_12 rfl ?_
      refine g_goto (tgt := 17) dX7_hasWork_13 (by decide) ?_
      cases hf
      exact g_iret dX7_hasWork_17 .boolean rfl rfl

abbrev k_X8_work : kX := (cX8_work, "WhoseHourItIs", "work", some .int, 3, 1)
def f_X8_work (a1 : Int32) (a2 : Int32) (m : mM) : Option (Int32 × mM) :=
bnd (f_X7_hasWork_1 a1 m) fun q1 =>
if q1 = 0 then (
bnd (f_X8_refuse (-1 : Int32) m) fun q3 =>
some (q3.1, q3.2))
else (
if a2 < 0 then (
bnd (f_X8_refuse (-2 : Int32) m) fun q5 =>
some (q5.1, q5.2))
else (
if a2 < (6 : Int32) then (
bnd (ckR 6 a1) fun j7 =>
bnd (rdA (44 + j7) 6 a2 m) fun v9 =>
some (v9, m))
else (
bnd (f_X8_refuse (-2 : Int32) m) fun q11 =>
some (q11.1, q11.2))))
set_option maxRecDepth 100000 in
theorem t_X8_work {V : eV} {a1 : Int32} {a2 : Int32}  {m : mM} {q : Int32 × mM} (hf : f_X8_work a1 a2 m = some q) : eE V 1 yX8_work cX8_work 3 (some .int) [.ref (vB V + 0), .int a1, .int a2] (hS m) (some (.int q.1)) (hS q.2) := by
  refine eE_of (by decide) (Nat.le_of_ble_eq_true rfl) ?_
  show gG V k_X8_work 0 [(0, .ref (vB V + 0)), (1, .int a1), (2, .int a2)] [] (hS m) _ _
  unfold f_X8_work at hf
  refine g_aload_n 0 dX8_work_0 rfl rfl ?_
  refine gf_314 dX8_work_1 rfl ob_0 rfl ?_
  refine g_iload_n 1 dX8_work_4 rfl rfl ?_
  obtain ⟨q1, e2, hf⟩ := bnd_some hf
  refine p_callV (As := [.int a1]) (rest := []) (t_X7_hasWork_1 e2) cw_623 w_624 w_625 ob_1 rfl (Nat.le_of_ble_eq_true rfl) rfl rfl (Nat.le_of_ble_eq_true rfl) dX8_work_5 ?_
  refine g_if_ne (tgt := 17) dX8_work_8 (by decide) (fun c15 => ?_) (fun c15 => ?_)
  · replace hf := (if_neg c15).symm.trans hf
    refine g_iload_n 2 dX8_work_17 rfl rfl ?_
    refine g_if_lt (tgt := 27) dX8_work_18 (by decide) (fun c14 => ?_) (fun c14 => ?_)
    · replace hf := (if_pos c14).symm.trans hf
      refine g_aload_n 0 dX8_work_27 rfl rfl ?_
      refine g_bipush (v := -2) dX8_work_28 rfl ?_
      obtain ⟨q5, e6, hf⟩ := bnd_some hf
      refine p_callV (As := [.int (-2 : Int32)]) (rest := []) (t_X8_refuse e6) cw_355 w_357 w_0 ob_0 rfl (Nat.le_of_ble_eq_true rfl) rfl rfl (Nat.le_of_ble_eq_true rfl) dX8_work_30 ?_
      cases hf
      exact g_iret dX8_work_33 .int rfl rfl
    · replace hf := (if_neg c14).symm.trans hf
      refine g_iload_n 2 dX8_work_21 rfl rfl ?_
      refine g_bipush (v := 6) dX8_work_22 rfl ?_
      refine g_icmp_lt (tgt := 34) dX8_work_24 (by decide) (fun c13 => ?_) (fun c13 => ?_)
      · replace hf := (if_pos c13).symm.trans hf
        refine g_aload_n 0 dX8_work_34 rfl rfl ?_
        refine gf_314 dX8_work_35 rfl ob_0 rfl ?_
        refine gf_138 dX8_work_38 rfl ob_1 rfl ?_
        refine g_iload_n 1 dX8_work_41 rfl rfl ?_
        obtain ⟨j7, e8, hf⟩ := bnd_some hf
        refine p_aald dX8_work_42 rt_43 e8 (fun hj7 => ?_)
        refine g_iload_n 2 dX8_work_43 rfl rfl ?_
        obtain ⟨v9, e10, hf⟩ := bnd_some hf
        refine p_iald dX8_work_44 (ar_44 hj7) e10 ?_
        cases hf
        exact g_iret dX8_work_45 .int rfl rfl
      · replace hf := (if_neg c13).symm.trans hf
        refine g_aload_n 0 dX8_work_27 rfl rfl ?_
        refine g_bipush (v := -2) dX8_work_28 rfl ?_
        obtain ⟨q11, e12, hf⟩ := bnd_some hf
        refine p_callV (As := [.int (-2 : Int32)]) (rest := []) (t_X8_refuse e12) cw_355 w_357 w_0 ob_0 rfl (Nat.le_of_ble_eq_true rfl) rfl rfl (Nat.le_of_ble_eq_true rfl) dX8_work_30 ?_
        cases hf
        exact g_iret dX8_work_33 .int rfl rfl
  · replace hf := (if_pos c15).symm.trans hf
    refine g_aload_n 0 dX8_work_11 rfl rfl ?_
    refine g_iconst (v := -1) dX8_work_12 rfl ?_
    obtain ⟨q3, e4, hf⟩ := bnd_some hf
    refine p_callV (As := [.int (-1 : Int32)]) (rest := []) (t_X8_refuse e4) cw_355 w_357 w_0 ob_0 rfl (Nat.le_of_ble_eq_true rfl) rfl rfl (Nat.le_of_ble_eq_true rfl) dX8_work_13 ?_
    cases hf
    exact g_iret dX8_work_16 .int rfl rfl

abbrev k_X8_outside : kX := (cX8_outside, "WhoseHourItIs", "outside", some .int, 2, 0)
def f_X8_outside (a0 : Int32) (a1 : Int32) (m : mM) : Option (Int32) :=
if 0 ≤ a0 then (
if a0 ≤ a1 then (
some (0 : Int32))
else (
some (-6 : Int32)))
else (
some (-4 : Int32))
set_option maxRecDepth 100000 in
theorem t_X8_outside {V : eV} {a0 : Int32} {a1 : Int32}  {m : mM} {q : Int32} (hf : f_X8_outside a0 a1 m = some q) : eE V 0 yX8_outside cX8_outside 2 (some .int) [.int a0, .int a1] (hS m) (some (.int q)) (hS m) := by
  refine eE_of (by decide) (Nat.le_of_ble_eq_true rfl) ?_
  show gG V k_X8_outside 0 [(0, .int a0), (1, .int a1)] [] (hS m) _ _
  unfold f_X8_outside at hf
  refine g_iload_n 0 dX8_outside_0 rfl rfl ?_
  refine g_if_ge (tgt := 7) dX8_outside_1 (by decide) (fun c2 => ?_) (fun c2 => ?_)
  · replace hf := (if_pos c2).symm.trans hf
    refine g_iload_n 0 dX8_outside_7 rfl rfl ?_
    refine g_iload_n 1 dX8_outside_8 rfl rfl ?_
    refine g_icmp_le (tgt := 17) dX8_outside_9 (by decide) (fun c1 => ?_) (fun c1 => ?_)
    · replace hf := (if_pos c1).symm.trans hf
      refine g_iconst (v := 0) dX8_outside_17 rfl ?_
      cases hf
      exact g_iret dX8_outside_18 .int rfl rfl
    · replace hf := (if_neg c1).symm.trans hf
      refine g_bipush (v := -6) dX8_outside_12 rfl ?_
      refine g_goto (tgt := 18) dX8_outside_14 (by decide) ?_
      cases hf
      exact g_iret dX8_outside_18 .int rfl rfl
  · replace hf := (if_neg c2).symm.trans hf
    refine g_bipush (v := -4) dX8_outside_4 rfl ?_
    cases hf
    exact g_iret dX8_outside_6 .int rfl rfl

abbrev k_X8_price : kX := (cX8_price, "WhoseHourItIs", "price", some .int, 5, 1)
def f_X8_price (a1 : Int32) (a2 : Int32) (m : mM) : Option (Int32 × mM) :=
bnd (f_X7_hasHolder_1 a1 m) fun q1 =>
if q1 = 0 then (
bnd (f_X8_refuse (-1 : Int32) m) fun q3 =>
some (q3.1, q3.2))
else (
bnd (f_X8_outside a2 (9 : Int32) m) fun q5 =>
if q5 = 0 then (
bnd (ckR 8 a1) fun j7 =>
bnd (rdA (3 + j7) 3 (1 : Int32) m) fun v9 =>
bnd (ckR 8 a1) fun j11 =>
bnd (wrA (3 + j11) 3 (1 : Int32) a2 m) fun m13 =>
some (v9, m13))
else (
bnd (f_X8_refuse q5 m) fun q15 =>
some (q15.1, q15.2)))
set_option maxRecDepth 100000 in
theorem t_X8_price {V : eV} {a1 : Int32} {a2 : Int32}  {m : mM} {q : Int32 × mM} (hf : f_X8_price a1 a2 m = some q) : eE V 1 yX8_price cX8_price 5 (some .int) [.ref (vB V + 0), .int a1, .int a2] (hS m) (some (.int q.1)) (hS q.2) := by
  refine eE_of (by decide) (Nat.le_of_ble_eq_true rfl) ?_
  show gG V k_X8_price 0 [(0, .ref (vB V + 0)), (1, .int a1), (2, .int a2)] [] (hS m) _ _
  unfold f_X8_price at hf
  refine g_aload_n 0 dX8_price_0 rfl rfl ?_
  refine gf_314 dX8_price_1 rfl ob_0 rfl ?_
  refine g_iload_n 1 dX8_price_4 rfl rfl ?_
  obtain ⟨q1, e2, hf⟩ := bnd_some hf
  refine p_callV (As := [.int a1]) (rest := []) (t_X7_hasHolder_1 e2) cw_549 w_523 w_524 ob_1 rfl (Nat.le_of_ble_eq_true rfl) rfl rfl (Nat.le_of_ble_eq_true rfl) dX8_price_5 ?_
  refine g_if_ne (tgt := 17) dX8_price_8 (by decide) (fun c18 => ?_) (fun c18 => ?_)
  · replace hf := (if_neg c18).symm.trans hf
    refine g_iload_n 2 dX8_price_17 rfl rfl ?_
    refine g_bipush (v := 9) dX8_price_18 rfl ?_
    obtain ⟨q5, e6, hf⟩ := bnd_some hf
    refine p_callS (As := [.int a2, .int (9 : Int32)]) (rest := []) (t_X8_outside e6) cw_631 w_632 (Nat.le_of_ble_eq_true rfl) rfl rfl (Nat.le_of_ble_eq_true rfl) dX8_price_20 ?_
    refine g_istore_n dX8_price_23 rfl (Nat.le_of_ble_eq_true rfl) rfl ?_
    refine g_iload_n 0 dX8_price_24 rfl rfl ?_
    refine g_if_eq (tgt := 34) dX8_price_25 (by decide) (fun c17 => ?_) (fun c17 => ?_)
    · replace hf := (if_pos c17).symm.trans hf
      refine g_aload_n 1 dX8_price_34 rfl rfl ?_
      refine gf_314 dX8_price_35 rfl ob_0 rfl ?_
      refine gf_114 dX8_price_38 rfl ob_1 rfl ?_
      refine g_iload_n 2 dX8_price_41 rfl rfl ?_
      obtain ⟨j7, e8, hf⟩ := bnd_some hf
      refine p_aald dX8_price_42 rt_2 e8 (fun hj7 => ?_)
      refine g_iconst (v := 1) dX8_price_43 rfl ?_
      obtain ⟨v9, e10, hf⟩ := bnd_some hf
      refine p_iald dX8_price_44 (ar_3 hj7) e10 ?_
      refine g_istore dX8_price_45 (Nat.le_of_ble_eq_true rfl) rfl ?_
      refine g_aload_n 2 dX8_price_47 rfl rfl ?_
      refine gf_314 dX8_price_48 rfl ob_0 rfl ?_
      refine gf_114 dX8_price_51 rfl ob_1 rfl ?_
      refine g_iload_n 3 dX8_price_54 rfl rfl ?_
      obtain ⟨j11, e12, hf⟩ := bnd_some hf
      refine p_aald dX8_price_55 rt_2 e12 (fun hj11 => ?_)
      refine g_iconst (v := 1) dX8_price_56 rfl ?_
      refine g_iload_n 4 dX8_price_57 rfl rfl ?_
      obtain ⟨m13, e14, hf⟩ := bnd_some hf
      refine p_iast dX8_price_58 (ar_3 hj11) e14 ?_
      refine g_iload 0 dX8_price_59 rfl ?_
      cases hf
      exact g_iret dX8_price_61 .int rfl rfl
    · replace hf := (if_neg c17).symm.trans hf
      refine g_aload_n 1 dX8_price_28 rfl rfl ?_
      refine g_iload_n 0 dX8_price_29 rfl rfl ?_
      obtain ⟨q15, e16, hf⟩ := bnd_some hf
      refine p_callV (As := [.int q5]) (rest := []) (t_X8_refuse e16) cw_355 w_357 w_0 ob_0 rfl (Nat.le_of_ble_eq_true rfl) rfl rfl (Nat.le_of_ble_eq_true rfl) dX8_price_30 ?_
      cases hf
      exact g_iret dX8_price_33 .int rfl rfl
  · replace hf := (if_pos c18).symm.trans hf
    refine g_aload_n 0 dX8_price_11 rfl rfl ?_
    refine g_iconst (v := -1) dX8_price_12 rfl ?_
    obtain ⟨q3, e4, hf⟩ := bnd_some hf
    refine p_callV (As := [.int (-1 : Int32)]) (rest := []) (t_X8_refuse e4) cw_355 w_357 w_0 ob_0 rfl (Nat.le_of_ble_eq_true rfl) rfl rfl (Nat.le_of_ble_eq_true rfl) dX8_price_13 ?_
    cases hf
    exact g_iret dX8_price_16 .int rfl rfl

abbrev k_X7_everyone : kX := (cX7_everyone, "WhoseHourItIs$Town", "everyone", some .int, 1, 0)
def f_X7_everyone  (m : mM) : Option (Int32) :=
some (((1 : Int32) <<< ((m 1 0) &&& 31)) - (1 : Int32))
set_option maxRecDepth 100000 in
theorem t_X7_everyone {V : eV}  {m : mM} {q : Int32} (hf : f_X7_everyone  m = some q) : eE V 0 yX7_everyone cX7_everyone 1 (some .int) [.ref (vB V + 1)] (hS m) (some (.int q)) (hS m) := by
  refine eE_of (by decide) (Nat.le_of_ble_eq_true rfl) ?_
  show gG V k_X7_everyone 0 [(0, .ref (vB V + 1))] [] (hS m) _ _
  unfold f_X7_everyone at hf
  refine g_iconst (v := 1) dX7_everyone_0 rfl ?_
  refine g_aload_n 0 dX7_everyone_1 rfl rfl ?_
  refine gf_91 dX7_everyone_2 rfl ob_1 rfl ?_
  refine g_ishl dX7_everyone_5 ?_
  refine g_iconst (v := 1) dX7_everyone_6 rfl ?_
  refine g_isub dX7_everyone_7 ?_
  cases hf
  exact g_iret dX7_everyone_8 .int rfl rfl

abbrev k_X8_strike : kX := (cX8_strike, "WhoseHourItIs", "strike", some .int, 3, 1)
def f_X8_strike (a1 : Int32) (m : mM) : Option (Int32 × mM) :=
bnd (f_X7_everyone m) fun q1 =>
if (a1 &&& (q1 ^^^ (-1 : Int32))) = 0 then (
bnd (some (m_up m 1 2 a1)) fun m3 =>
some ((m 1 2), m3))
else (
bnd (f_X8_refuse (-1 : Int32) m) fun q5 =>
some (q5.1, q5.2))
set_option maxRecDepth 100000 in
theorem t_X8_strike {V : eV} {a1 : Int32}  {m : mM} {q : Int32 × mM} (hf : f_X8_strike a1 m = some q) : eE V 1 yX8_strike cX8_strike 3 (some .int) [.ref (vB V + 0), .int a1] (hS m) (some (.int q.1)) (hS q.2) := by
  refine eE_of (by decide) (Nat.le_of_ble_eq_true rfl) ?_
  show gG V k_X8_strike 0 [(0, .ref (vB V + 0)), (1, .int a1)] [] (hS m) _ _
  unfold f_X8_strike at hf
  refine g_iload_n 1 dX8_strike_0 rfl rfl ?_
  refine g_aload_n 0 dX8_strike_1 rfl rfl ?_
  refine gf_314 dX8_strike_2 rfl ob_0 rfl ?_
  obtain ⟨q1, e2, hf⟩ := bnd_some hf
  refine p_callV (As := []) (rest := [.int a1]) (t_X7_everyone e2) cw_638 w_639 w_640 ob_1 rfl (Nat.le_of_ble_eq_true rfl) rfl rfl (Nat.le_of_ble_eq_true rfl) dX8_strike_5 ?_
  refine g_iconst (v := -1) dX8_strike_8 rfl ?_
  refine g_ixor dX8_strike_9 ?_
  refine g_iand dX8_strike_10 ?_
  refine g_if_eq (tgt := 20) dX8_strike_11 (by decide) (fun c7 => ?_) (fun c7 => ?_)
  · replace hf := (if_pos c7).symm.trans hf
    refine g_aload_n 0 dX8_strike_20 rfl rfl ?_
    refine gf_314 dX8_strike_21 rfl ob_0 rfl ?_
    refine gf_106 dX8_strike_24 rfl ob_1 rfl ?_
    refine g_istore_n dX8_strike_27 rfl (Nat.le_of_ble_eq_true rfl) rfl ?_
    refine g_aload_n 1 dX8_strike_28 rfl rfl ?_
    refine gf_314 dX8_strike_29 rfl ob_0 rfl ?_
    refine g_iload_n 2 dX8_strike_32 rfl rfl ?_
    obtain ⟨m3, e4, hf⟩ := bnd_some hf
    cases e4
    refine pf_106 dX8_strike_33 rfl ob_1 rfl ?_
    generalize m_up m 1 2 a1 = m3 at hf ⊢
    refine g_iload_n 0 dX8_strike_36 rfl rfl ?_
    cases hf
    exact g_iret dX8_strike_37 .int rfl rfl
  · replace hf := (if_neg c7).symm.trans hf
    refine g_aload_n 0 dX8_strike_14 rfl rfl ?_
    refine g_iconst (v := -1) dX8_strike_15 rfl ?_
    obtain ⟨q5, e6, hf⟩ := bnd_some hf
    refine p_callV (As := [.int (-1 : Int32)]) (rest := []) (t_X8_refuse e6) cw_355 w_357 w_0 ob_0 rfl (Nat.le_of_ble_eq_true rfl) rfl rfl (Nat.le_of_ble_eq_true rfl) dX8_strike_16 ?_
    cases hf
    exact g_iret dX8_strike_19 .int rfl rfl

