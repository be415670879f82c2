/-! printed by wip/whole/gen_meth.py: plain functions of the methods, and that the bytecode does as they say -/
abbrev k_X2_netsWithGift : kX := (cX2_netsWithGift, "WhoseHourItIs$Outlook", "netsWithGift", some .int, 5, 5)
def f_X2_netsWithGift_L2 (b1 : Int32) (b2 : Int32) : Nat → Int32 → mM → Option (mM)
  | 0, _, _ => none
  | n + 1, b3, m =>
      if (28 : Int32) ≤ b3 then (
      some m)
      else (
      bnd (f_X8_isIn b2 b3 m) fun q1 =>
      if q1 = 0 then (
      f_X2_netsWithGift_L2 b1 b2 n (b3 + (1 : Int32)) m)
      else (
      bnd (f_X7_addPart_1 b1 b3 m) fun q3 =>
      f_X2_netsWithGift_L2 b1 b2 n (b3 + (1 : Int32)) q3))
def f_X2_netsWithGift_L40 (b1 : Int32) (b2 : Int32) (m : mM) : Nat → Int32 → Int32 → Option (Int32)
  | 0, _, _ => none
  | n + 1, b3, b4 =>
      if (m 1 1) ≤ b4 then (
      some b3)
      else (
      bnd (ckR 6 b4) fun j11 =>
      bnd (rdA (44 + j11) 6 (4 : Int32) m) fun v13 =>
      bnd (f_X2_doneNet b4 v13 m) fun q15 =>
      f_X2_netsWithGift_L40 b1 b2 m n (b3 + q15) (b4 + (1 : Int32)))
def f_X2_netsWithGift_L82 (b1 : Int32) (b2 : Int32) (b3 : Int32) : Nat → Int32 → mM → Option (mM)
  | 0, _, _ => none
  | n + 1, b4, m =>
      if (28 : Int32) ≤ b4 then (
      some m)
      else (
      bnd (f_X8_isIn b2 b4 m) fun q20 =>
      if q20 = 0 then (
      f_X2_netsWithGift_L82 b1 b2 b3 n (b4 + (1 : Int32)) m)
      else (
      bnd (f_X7_takeOnlyPart b1 b4 m) fun q22 =>
      f_X2_netsWithGift_L82 b1 b2 b3 n (b4 + (1 : Int32)) q22))
def f_X2_netsWithGift (a1 : Int32) (a2 : Int32) (m : mM) : Option (Int32 × mM) :=
bnd (f_X2_netsWithGift_L2 a1 a2 fU (0 : Int32) m) fun o7 =>
bnd (f_X2_findCosts o7) fun q9 =>
bnd (f_X2_netsWithGift_L40 a1 a2 q9 fU (0 : Int32) (0 : Int32)) fun o18 =>
bnd (f_X2_netsWithGift_L82 a1 a2 o18 fU (0 : Int32) q9) fun o26 =>
some (o18, o26)
set_option maxRecDepth 100000 in
theorem t_X2_netsWithGift_L2 {V : eV} (b1 : Int32) (b2 : Int32) {r : Option Value} {h' : aH} : ∀ (n : Nat) (b3 : Int32) (m : mM) (o : mM), f_X2_netsWithGift_L2 b1 b2 n b3 m = some o → gG V k_X2_netsWithGift 31 [(0, .ref (vB V + 182)), (1, .int b1), (2, .int b2)] [] (hS o) r h' → gG V k_X2_netsWithGift 2 [(0, .ref (vB V + 182)), (1, .int b1), (2, .int b2), (3, .int b3)] [] (hS m) r h' := by
  intro n
  induction n with
  | zero => intro b3 m o hf; cases hf
  | succ n ih =>
    intro b3 m o hf hk
    rw [f_X2_netsWithGift_L2] at hf
    refine g_iload_n 3 dX2_netsWithGift_2 rfl rfl ?_
    refine g_bipush (v := 28) dX2_netsWithGift_3 rfl ?_
    refine g_icmp_ge (tgt := 31) dX2_netsWithGift_5 (by decide) (fun c6 => ?_) (fun c6 => ?_)
    · replace hf := (if_pos c6).symm.trans hf
      cases hf
      refine g_sub [0, 1, 2] rfl ?_
      exact hk
    · replace hf := (if_neg c6).symm.trans hf
      refine g_iload_n 2 dX2_netsWithGift_8 rfl rfl ?_
      refine g_iload_n 3 dX2_netsWithGift_9 rfl rfl ?_
      obtain ⟨q1, e2, hf⟩ := bnd_some hf
      refine p_callSN (As := [.int b2, .int b3]) (rest := []) (t_X8_isIn e2) cw_827 w_534 (Nat.le_of_ble_eq_true rfl) rfl rfl (Nat.le_of_ble_eq_true rfl) dX2_netsWithGift_10 ?_
      refine g_if_eq (tgt := 25) dX2_netsWithGift_13 (by decide) (fun c5 => ?_) (fun c5 => ?_)
      · replace hf := (if_pos c5).symm.trans hf
        refine g_iinc (q := 3) (v := (b3 + (1 : Int32))) dX2_netsWithGift_25 rfl rfl (Nat.le_of_ble_eq_true rfl) rfl ?_
        refine g_goto (tgt := 2) dX2_netsWithGift_28 (by decide) ?_
        refine g_sub [1, 2, 3, 0] rfl ?_
        exact ih (b3 + (1 : Int32)) m _ hf hk
      · replace hf := (if_neg c5).symm.trans hf
        refine g_aload_n 0 dX2_netsWithGift_16 rfl rfl ?_
        refine gf_284 dX2_netsWithGift_17 rfl ob_182 rfl ?_
        refine g_iload_n 1 dX2_netsWithGift_20 rfl rfl ?_
        refine g_iload_n 3 dX2_netsWithGift_21 rfl rfl ?_
        obtain ⟨q3, e4, hf⟩ := bnd_some hf
        refine p_callVv (As := [.int b1, .int b3]) (rest := []) (t_X7_addPart_1 e4) cw_828 w_537 w_538 ob_1 rfl (Nat.le_of_ble_eq_true rfl) rfl rfl (Nat.le_of_ble_eq_true rfl) dX2_netsWithGift_22 ?_
        refine g_iinc (q := 3) (v := (b3 + (1 : Int32))) dX2_netsWithGift_25 rfl rfl (Nat.le_of_ble_eq_true rfl) rfl ?_
        refine g_goto (tgt := 2) dX2_netsWithGift_28 (by decide) ?_
        refine g_sub [1, 2, 3, 0] rfl ?_
        exact ih (b3 + (1 : Int32)) q3 _ hf hk

set_option maxRecDepth 100000 in
theorem t_X2_netsWithGift_L40 {V : eV} (b1 : Int32) (b2 : Int32) (m : mM) {r : Option Value} {h' : aH} : ∀ (n : Nat) (b3 : Int32) (b4 : Int32) (o : Int32), f_X2_netsWithGift_L40 b1 b2 m n b3 b4 = some o → gG V k_X2_netsWithGift 79 [(0, .ref (vB V + 182)), (1, .int b1), (2, .int b2), (3, .int o)] [] (hS m) r h' → gG V k_X2_netsWithGift 40 [(0, .ref (vB V + 182)), (1, .int b1), (2, .int b2), (3, .int b3), (4, .int b4)] [] (hS m) r h' := by
  intro n
  induction n with
  | zero => intro b3 b4 o hf; cases hf
  | succ n ih =>
    intro b3 b4 o hf hk
    rw [f_X2_netsWithGift_L40] at hf
    refine g_iload 4 dX2_netsWithGift_40 rfl ?_
    refine g_aload_n 0 dX2_netsWithGift_42 rfl rfl ?_
    refine gf_284 dX2_netsWithGift_43 rfl ob_182 rfl ?_
    refine gf_99 dX2_netsWithGift_46 rfl ob_1 rfl ?_
    refine g_icmp_ge (tgt := 79) dX2_netsWithGift_49 (by decide) (fun c17 => ?_) (fun c17 => ?_)
    · replace hf := (if_pos c17).symm.trans hf
      cases hf
      refine g_sub [0, 1, 2, 3] rfl ?_
      exact hk
    · replace hf := (if_neg c17).symm.trans hf
      refine g_iload_n 3 dX2_netsWithGift_52 rfl rfl ?_
      refine g_aload_n 0 dX2_netsWithGift_53 rfl rfl ?_
      refine g_iload 4 dX2_netsWithGift_54 rfl ?_
      refine g_aload_n 0 dX2_netsWithGift_56 rfl rfl ?_
      refine gf_284 dX2_netsWithGift_57 rfl ob_182 rfl ?_
      refine gf_136 dX2_netsWithGift_60 rfl ob_1 rfl ?_
      refine g_iload 4 dX2_netsWithGift_63 rfl ?_
      obtain ⟨j11, e12, hf⟩ := bnd_some hf
      refine p_aald dX2_netsWithGift_65 rt_43 e12 (fun hj11 => ?_)
      refine g_iconst (v := 4) dX2_netsWithGift_66 rfl ?_
      obtain ⟨v13, e14, hf⟩ := bnd_some hf
      refine p_iald dX2_netsWithGift_67 (ar_44 hj11) e14 ?_
      obtain ⟨q15, e16, hf⟩ := bnd_some hf
      refine p_callV (As := [.int b4, .int v13]) (rest := [.int b3]) (t_X2_doneNet e16) cw_833 w_835 w_19 ob_182 rfl (Nat.le_of_ble_eq_true rfl) rfl rfl (Nat.le_of_ble_eq_true rfl) dX2_netsWithGift_68 ?_
      refine g_iadd dX2_netsWithGift_71 ?_
      refine g_istore_n dX2_netsWithGift_72 rfl (Nat.le_of_ble_eq_true rfl) rfl ?_
      refine g_iinc (q := 4) (v := (b4 + (1 : Int32))) dX2_netsWithGift_73 rfl rfl (Nat.le_of_ble_eq_true rfl) rfl ?_
      refine g_goto (tgt := 40) dX2_netsWithGift_76 (by decide) ?_
      refine g_sub [2, 3, 4, 1, 0] rfl ?_
      exact ih (b3 + q15) (b4 + (1 : Int32)) _ hf hk

set_option maxRecDepth 100000 in
theorem t_X2_netsWithGift_L82 {V : eV} (b1 : Int32) (b2 : Int32) (b3 : Int32) {r : Option Value} {h' : aH} : ∀ (n : Nat) (b4 : Int32) (m : mM) (o : mM), f_X2_netsWithGift_L82 b1 b2 b3 n b4 m = some o → gG V k_X2_netsWithGift 114 [(3, .int b3)] [] (hS o) r h' → gG V k_X2_netsWithGift 82 [(0, .ref (vB V + 182)), (1, .int b1), (2, .int b2), (3, .int b3), (4, .int b4)] [] (hS m) r h' := by
  intro n
  induction n with
  | zero => intro b4 m o hf; cases hf
  | succ n ih =>
    intro b4 m o hf hk
    rw [f_X2_netsWithGift_L82] at hf
    refine g_iload 4 dX2_netsWithGift_82 rfl ?_
    refine g_bipush (v := 28) dX2_netsWithGift_84 rfl ?_
    refine g_icmp_ge (tgt := 114) dX2_netsWithGift_86 (by decide) (fun c25 => ?_) (fun c25 => ?_)
    · replace hf := (if_pos c25).symm.trans hf
      cases hf
      refine g_sub [3] rfl ?_
      exact hk
    · replace hf := (if_neg c25).symm.trans hf
      refine g_iload_n 2 dX2_netsWithGift_89 rfl rfl ?_
      refine g_iload 4 dX2_netsWithGift_90 rfl ?_
      obtain ⟨q20, e21, hf⟩ := bnd_some hf
      refine p_callSN (As := [.int b2, .int b4]) (rest := []) (t_X8_isIn e21) cw_827 w_534 (Nat.le_of_ble_eq_true rfl) rfl rfl (Nat.le_of_ble_eq_true rfl) dX2_netsWithGift_92 ?_
      refine g_if_eq (tgt := 108) dX2_netsWithGift_95 (by decide) (fun c24 => ?_) (fun c24 => ?_)
      · replace hf := (if_pos c24).symm.trans hf
        refine g_iinc (q := 4) (v := (b4 + (1 : Int32))) dX2_netsWithGift_108 rfl rfl (Nat.le_of_ble_eq_true rfl) rfl ?_
        refine g_goto (tgt := 82) dX2_netsWithGift_111 (by decide) ?_
        refine g_sub [1, 2, 3, 4, 0] rfl ?_
        exact ih (b4 + (1 : Int32)) m _ hf hk
      · replace hf := (if_neg c24).symm.trans hf
        refine g_aload_n 0 dX2_netsWithGift_98 rfl rfl ?_
        refine gf_284 dX2_netsWithGift_99 rfl ob_182 rfl ?_
        refine g_iload_n 1 dX2_netsWithGift_102 rfl rfl ?_
        refine g_iload 4 dX2_netsWithGift_103 rfl ?_
        obtain ⟨q22, e23, hf⟩ := bnd_some hf
        refine p_callVv (As := [.int b1, .int b4]) (rest := []) (t_X7_takeOnlyPart e23) cw_839 w_840 w_841 ob_1 rfl (Nat.le_of_ble_eq_true rfl) rfl rfl (Nat.le_of_ble_eq_true rfl) dX2_netsWithGift_105 ?_
        refine g_iinc (q := 4) (v := (b4 + (1 : Int32))) dX2_netsWithGift_108 rfl rfl (Nat.le_of_ble_eq_true rfl) rfl ?_
        refine g_goto (tgt := 82) dX2_netsWithGift_111 (by decide) ?_
        refine g_sub [1, 2, 3, 4, 0] rfl ?_
        exact ih (b4 + (1 : Int32)) q22 _ hf hk

set_option maxRecDepth 100000 in
theorem t_X2_netsWithGift {V : eV} {a1 : Int32} {a2 : Int32}  {m : mM} {q : Int32 × mM} (hf : f_X2_netsWithGift a1 a2 m = some q) : eE V 5 yX2_netsWithGift cX2_netsWithGift 5 (some .int) [.ref (vB V + 182), .int a1, .int a2] (hS m) (some (.int q.1)) (hS q.2) := by
  refine eE_of (by decide) (Nat.le_of_ble_eq_true rfl) ?_
  show gG V k_X2_netsWithGift 0 [(0, .ref (vB V + 182)), (1, .int a1), (2, .int a2)] [] (hS m) _ _
  unfold f_X2_netsWithGift at hf
  refine g_iconst (v := 0) dX2_netsWithGift_0 rfl ?_
  refine g_istore_n dX2_netsWithGift_1 rfl (Nat.le_of_ble_eq_true rfl) rfl ?_
  refine g_sub [1, 2, 3, 0] rfl ?_
  obtain ⟨o7, e8, hf⟩ := bnd_some hf
  refine t_X2_netsWithGift_L2 (V := V) a1 a2 fU (0 : Int32) m _ e8 ?_
  refine g_aload_n 0 dX2_netsWithGift_31 rfl rfl ?_
  obtain ⟨q9, e10, hf⟩ := bnd_some hf
  refine p_callVv (As := []) (rest := []) (t_X2_findCosts e10) cw_829 w_831 w_18 ob_182 rfl (Nat.le_of_ble_eq_true rfl) rfl rfl (Nat.le_of_ble_eq_true rfl) dX2_netsWithGift_32 ?_
  refine g_iconst (v := 0) dX2_netsWithGift_35 rfl ?_
  refine g_istore_n dX2_netsWithGift_36 rfl (Nat.le_of_ble_eq_true rfl) rfl ?_
  refine g_iconst (v := 0) dX2_netsWithGift_37 rfl ?_
  refine g_istore dX2_netsWithGift_38 (Nat.le_of_ble_eq_true rfl) rfl ?_
  refine g_sub [2, 3, 4, 1, 0] rfl ?_
  obtain ⟨o18, e19, hf⟩ := bnd_some hf
  refine t_X2_netsWithGift_L40 (V := V) a1 a2 q9 fU (0 : Int32) (0 : Int32) _ e19 ?_
  refine g_iconst (v := 0) dX2_netsWithGift_79 rfl ?_
  refine g_istore dX2_netsWithGift_80 (Nat.le_of_ble_eq_true rfl) rfl ?_
  refine g_sub [1, 2, 3, 4, 0] rfl ?_
  obtain ⟨o26, e27, hf⟩ := bnd_some hf
  refine t_X2_netsWithGift_L82 (V := V) a1 a2 o18 fU (0 : Int32) q9 _ e27 ?_
  refine g_iload_n 0 dX2_netsWithGift_114 rfl rfl ?_
  cases hf
  exact g_iret dX2_netsWithGift_115 .int rfl rfl

abbrev k_X2_bestTaker : kX := (cX2_bestTaker, "WhoseHourItIs$Outlook", "bestTaker", some .int, 6, 6)
def f_X2_bestTaker_L4 (m : mM) : Nat → Int32 → Int32 → Option (Int32)
  | 0, _, _ => none
  | n + 1, b1, b2 =>
      if (28 : Int32) ≤ b2 then (
      some b1)
      else (
      bnd (rdA 13 28 b2 m) fun v1 =>
      if v1 = 0 then (
      f_X2_bestTaker_L4 m n (b1 ||| ((1 : Int32) <<< (b2 &&& 31))) (b2 + (1 : Int32)))
      else (
      f_X2_bestTaker_L4 m n (b1 ||| (0 : Int32)) (b2 + (1 : Int32))))
def f_X2_bestTaker_L46 (b1 : Int32) : Nat → Int32 → Int32 → Int32 → mM → Option (Int32 × mM)
  | 0, _, _, _, _ => none
  | n + 1, b2, b3, b4, m =>
      if (m 1 0) ≤ b4 then (
      some (b2, m))
      else (
      bnd (f_X2_netsWithGift b4 b1 m) fun q7 =>
      if q7.1 ≤ b3 then (
      f_X2_bestTaker_L46 b1 n b2 b3 (b4 + (1 : Int32)) q7.2)
      else (
      f_X2_bestTaker_L46 b1 n b4 q7.1 (b4 + (1 : Int32)) q7.2))
def f_X2_bestTaker  (m : mM) : Option (Int32 × mM) :=
bnd (f_X2_bestTaker_L4 m fU (0 : Int32) (0 : Int32)) fun o5 =>
bnd (f_X2_bestTaker_L46 o5 fU (-9 : Int32) (-1 : Int32) (0 : Int32) m) fun o11 =>
some (o11.1, o11.2)
set_option maxRecDepth 100000 in
theorem t_X2_bestTaker_L4 {V : eV} (m : mM) {r : Option Value} {h' : aH} : ∀ (n : Nat) (b1 : Int32) (b2 : Int32) (o : Int32), f_X2_bestTaker_L4 m n b1 b2 = some o → gG V k_X2_bestTaker 38 [(0, .ref (vB V + 182)), (1, .int o)] [] (hS m) r h' → gG V k_X2_bestTaker 4 [(0, .ref (vB V + 182)), (1, .int b1), (2, .int b2)] [] (hS m) r h' := by
  intro n
  induction n with
  | zero => intro b1 b2 o hf; cases hf
  | succ n ih =>
    intro b1 b2 o hf hk
    rw [f_X2_bestTaker_L4] at hf
    refine g_iload_n 2 dX2_bestTaker_4 rfl rfl ?_
    refine g_bipush (v := 28) dX2_bestTaker_5 rfl ?_
    refine g_icmp_ge (tgt := 38) dX2_bestTaker_7 (by decide) (fun c4 => ?_) (fun c4 => ?_)
    · replace hf := (if_pos c4).symm.trans hf
      cases hf
      refine g_sub [0, 1] rfl ?_
      exact hk
    · replace hf := (if_neg c4).symm.trans hf
      refine g_iload_n 1 dX2_bestTaker_10 rfl rfl ?_
      refine g_aload_n 0 dX2_bestTaker_11 rfl rfl ?_
      refine gf_284 dX2_bestTaker_12 rfl ob_182 rfl ?_
      refine gf_125 dX2_bestTaker_15 rfl ob_1 rfl ?_
      refine g_iload_n 2 dX2_bestTaker_18 rfl rfl ?_
      obtain ⟨v1, e2, hf⟩ := bnd_some hf
      refine p_iald dX2_bestTaker_19 at_13 e2 ?_
      refine g_if_ne (tgt := 29) dX2_bestTaker_20 (by decide) (fun c3 => ?_) (fun c3 => ?_)
      · replace hf := (if_neg c3).symm.trans hf
        refine g_iconst (v := 0) dX2_bestTaker_29 rfl ?_
        refine g_ior dX2_bestTaker_30 ?_
        refine g_istore_n dX2_bestTaker_31 rfl (Nat.le_of_ble_eq_true rfl) rfl ?_
        refine g_iinc (q := 2) (v := (b2 + (1 : Int32))) dX2_bestTaker_32 rfl rfl (Nat.le_of_ble_eq_true rfl) rfl ?_
        refine g_goto (tgt := 4) dX2_bestTaker_35 (by decide) ?_
        refine g_sub [2, 1, 0] rfl ?_
        exact ih (b1 ||| (0 : Int32)) (b2 + (1 : Int32)) _ hf hk
      · replace hf := (if_pos c3).symm.trans hf
        refine g_iconst (v := 1) dX2_bestTaker_23 rfl ?_
        refine g_iload_n 2 dX2_bestTaker_24 rfl rfl ?_
        refine g_ishl dX2_bestTaker_25 ?_
        refine g_goto (tgt := 30) dX2_bestTaker_26 (by decide) ?_
        refine g_ior dX2_bestTaker_30 ?_
        refine g_istore_n dX2_bestTaker_31 rfl (Nat.le_of_ble_eq_true rfl) rfl ?_
        refine g_iinc (q := 2) (v := (b2 + (1 : Int32))) dX2_bestTaker_32 rfl rfl (Nat.le_of_ble_eq_true rfl) rfl ?_
        refine g_goto (tgt := 4) dX2_bestTaker_35 (by decide) ?_
        refine g_sub [2, 1, 0] rfl ?_
        exact ih (b1 ||| ((1 : Int32) <<< (b2 &&& 31))) (b2 + (1 : Int32)) _ hf hk

set_option maxRecDepth 100000 in
theorem t_X2_bestTaker_L46 {V : eV} (b1 : Int32) {r : Option Value} {h' : aH} : ∀ (n : Nat) (b2 : Int32) (b3 : Int32) (b4 : Int32) (m : mM) (o : Int32 × mM), f_X2_bestTaker_L46 b1 n b2 b3 b4 m = some o → gG V k_X2_bestTaker 85 [(2, .int o.1)] [] (hS o.2) r h' → gG V k_X2_bestTaker 46 [(0, .ref (vB V + 182)), (1, .int b1), (2, .int b2), (3, .int b3), (4, .int b4)] [] (hS m) r h' := by
  intro n
  induction n with
  | zero => intro b2 b3 b4 m o hf; cases hf
  | succ n ih =>
    intro b2 b3 b4 m o hf hk
    rw [f_X2_bestTaker_L46] at hf
    refine g_iload 4 dX2_bestTaker_46 rfl ?_
    refine g_aload_n 0 dX2_bestTaker_48 rfl rfl ?_
    refine gf_284 dX2_bestTaker_49 rfl ob_182 rfl ?_
    refine gf_92 dX2_bestTaker_52 rfl ob_1 rfl ?_
    refine g_icmp_ge (tgt := 85) dX2_bestTaker_55 (by decide) (fun c10 => ?_) (fun c10 => ?_)
    · replace hf := (if_pos c10).symm.trans hf
      cases hf
      refine g_sub [2] rfl ?_
      exact hk
    · replace hf := (if_neg c10).symm.trans hf
      refine g_aload_n 0 dX2_bestTaker_58 rfl rfl ?_
      refine g_iload 4 dX2_bestTaker_59 rfl ?_
      refine g_iload_n 1 dX2_bestTaker_61 rfl rfl ?_
      obtain ⟨q7, e8, hf⟩ := bnd_some hf
      refine p_callV (As := [.int b4, .int b1]) (rest := []) (t_X2_netsWithGift e8) cw_823 w_825 w_17 ob_182 rfl (Nat.le_of_ble_eq_true rfl) rfl rfl (Nat.le_of_ble_eq_true rfl) dX2_bestTaker_62 ?_
      refine g_istore dX2_bestTaker_65 (Nat.le_of_ble_eq_true rfl) rfl ?_
      refine g_iload 0 dX2_bestTaker_67 rfl ?_
      refine g_iload_n 4 dX2_bestTaker_69 rfl rfl ?_
      refine g_icmp_le (tgt := 79) dX2_bestTaker_70 (by decide) (fun c9 => ?_) (fun c9 => ?_)
      · replace hf := (if_pos c9).symm.trans hf
        refine g_iinc (q := 5) (v := (b4 + (1 : Int32))) dX2_bestTaker_79 rfl rfl (Nat.le_of_ble_eq_true rfl) rfl ?_
        refine g_goto (tgt := 46) dX2_bestTaker_82 (by decide) ?_
        refine g_sub [2, 3, 4, 5, 0] rfl ?_
        exact ih b2 b3 (b4 + (1 : Int32)) q7.2 _ hf hk
      · replace hf := (if_neg c9).symm.trans hf
        refine g_iload 0 dX2_bestTaker_73 rfl ?_
        refine g_istore_n dX2_bestTaker_75 rfl (Nat.le_of_ble_eq_true rfl) rfl ?_
        refine g_iload 5 dX2_bestTaker_76 rfl ?_
        refine g_istore_n dX2_bestTaker_78 rfl (Nat.le_of_ble_eq_true rfl) rfl ?_
        refine g_iinc (q := 5) (v := (b4 + (1 : Int32))) dX2_bestTaker_79 rfl rfl (Nat.le_of_ble_eq_true rfl) rfl ?_
        refine g_goto (tgt := 46) dX2_bestTaker_82 (by decide) ?_
        refine g_sub [4, 5, 1, 2, 0] rfl ?_
        exact ih b4 q7.1 (b4 + (1 : Int32)) q7.2 _ hf hk

set_option maxRecDepth 100000 in
theorem t_X2_bestTaker {V : eV}  {m : mM} {q : Int32 × mM} (hf : f_X2_bestTaker  m = some q) : eE V 6 yX2_bestTaker cX2_bestTaker 6 (some .int) [.ref (vB V + 182)] (hS m) (some (.int q.1)) (hS q.2) := by
  refine eE_of (by decide) (Nat.le_of_ble_eq_true rfl) ?_
  show gG V k_X2_bestTaker 0 [(0, .ref (vB V + 182))] [] (hS m) _ _
  unfold f_X2_bestTaker at hf
  refine g_iconst (v := 0) dX2_bestTaker_0 rfl ?_
  refine g_istore_n dX2_bestTaker_1 rfl (Nat.le_of_ble_eq_true rfl) rfl ?_
  refine g_iconst (v := 0) dX2_bestTaker_2 rfl ?_
  refine g_istore_n dX2_bestTaker_3 rfl (Nat.le_of_ble_eq_true rfl) rfl ?_
  refine g_sub [2, 1, 0] rfl ?_
  obtain ⟨o5, e6, hf⟩ := bnd_some hf
  refine t_X2_bestTaker_L4 (V := V) m fU (0 : Int32) (0 : Int32) _ e6 ?_
  refine g_bipush (v := -9) dX2_bestTaker_38 rfl ?_
  refine g_istore_n dX2_bestTaker_40 rfl (Nat.le_of_ble_eq_true rfl) rfl ?_
  refine g_iconst (v := -1) dX2_bestTaker_41 rfl ?_
  refine g_istore_n dX2_bestTaker_42 rfl (Nat.le_of_ble_eq_true rfl) rfl ?_
  refine g_iconst (v := 0) dX2_bestTaker_43 rfl ?_
  refine g_istore dX2_bestTaker_44 (Nat.le_of_ble_eq_true rfl) rfl ?_
  refine g_sub [3, 4, 2, 1, 0] rfl ?_
  obtain ⟨o11, e12, hf⟩ := bnd_some hf
  refine t_X2_bestTaker_L46 (V := V) o5 fU (-9 : Int32) (-1 : Int32) (0 : Int32) m _ e12 ?_
  refine g_iload_n 0 dX2_bestTaker_85 rfl rfl ?_
  cases hf
  exact g_iret dX2_bestTaker_86 .int rfl rfl

abbrev k_X8_give : kX := (cX8_give, "WhoseHourItIs", "give", some .int, 1, 7)
def f_X8_give  (m : mM) : Option (Int32 × mM) :=
bnd (f_X2_bestTaker m) fun q1 =>
some (q1.1, q1.2)
set_option maxRecDepth 100000 in
theorem t_X8_give {V : eV}  {m : mM} {q : Int32 × mM} (hf : f_X8_give  m = some q) : eE V 7 yX8_give cX8_give 1 (some .int) [.ref (vB V + 0)] (hS m) (some (.int q.1)) (hS q.2) := by
  refine eE_of (by decide) (Nat.le_of_ble_eq_true rfl) ?_
  show gG V k_X8_give 0 [(0, .ref (vB V + 0))] [] (hS m) _ _
  unfold f_X8_give at hf
  refine g_aload_n 0 dX8_give_0 rfl rfl ?_
  refine gf_323 dX8_give_1 rfl ob_0 rfl ?_
  obtain ⟨q1, e2, hf⟩ := bnd_some hf
  refine p_callV (As := []) (rest := []) (t_X2_bestTaker e2) cw_819 w_820 w_821 ob_182 rfl (Nat.le_of_ble_eq_true rfl) rfl rfl (Nat.le_of_ble_eq_true rfl) dX8_give_4 ?_
  cases hf
  exact g_iret dX8_give_7 .int rfl rfl

abbrev k_X8_together : kX := (cX8_together, "WhoseHourItIs", "together", some .int, 3, 1)
def f_X8_together (a1 : Int32) (a2 : Int32) (m : mM) : Option (Int32 × mM) :=
bnd (f_X7_hasHolder_1 a1 m) fun q1 =>
if q1 = 0 then (
bnd (f_X8_refuse (-1 : Int32) m) fun q3 =>
some (q3.1, q3.2))
else (
bnd (f_X7_hasHolder_1 a2 m) fun q5 =>
if q5 = 0 then (
bnd (f_X8_refuse (-1 : Int32) m) fun q7 =>
some (q7.1, q7.2))
else (
if a1 = a2 then (
bnd (f_X8_refuse (-1 : Int32) m) fun q9 =>
some (q9.1, q9.2))
else (
bnd (rdA 11 8 a1 m) fun v11 =>
bnd (rdA 11 8 a2 m) fun v13 =>
some ((bitC (v11 &&& v13)), m))))
set_option maxRecDepth 100000 in
theorem t_X8_together {V : eV} {a1 : Int32} {a2 : Int32}  {m : mM} {q : Int32 × mM} (hf : f_X8_together a1 a2 m = some q) : eE V 1 yX8_together cX8_together 3 (some .int) [.ref (vB V + 0), .int a1, .int a2] (hS m) (some (.int q.1)) (hS q.2) := by
  refine eE_of (by decide) (Nat.le_of_ble_eq_true rfl) ?_
  show gG V k_X8_together 0 [(0, .ref (vB V + 0)), (1, .int a1), (2, .int a2)] [] (hS m) _ _
  unfold f_X8_together at hf
  refine g_aload_n 0 dX8_together_0 rfl rfl ?_
  refine gf_314 dX8_together_1 rfl ob_0 rfl ?_
  refine g_iload_n 1 dX8_together_4 rfl rfl ?_
  obtain ⟨q1, e2, hf⟩ := bnd_some hf
  refine p_callV (As := [.int a1]) (rest := []) (t_X7_hasHolder_1 e2) cw_549 w_523 w_524 ob_1 rfl (Nat.le_of_ble_eq_true rfl) rfl rfl (Nat.le_of_ble_eq_true rfl) dX8_together_5 ?_
  refine g_if_eq (tgt := 27) dX8_together_8 (by decide) (fun c17 => ?_) (fun c17 => ?_)
  · replace hf := (if_pos c17).symm.trans hf
    refine g_aload_n 0 dX8_together_27 rfl rfl ?_
    refine g_iconst (v := -1) dX8_together_28 rfl ?_
    obtain ⟨q3, e4, hf⟩ := bnd_some hf
    refine p_callV (As := [.int (-1 : Int32)]) (rest := []) (t_X8_refuse e4) cw_355 w_357 w_0 ob_0 rfl (Nat.le_of_ble_eq_true rfl) rfl rfl (Nat.le_of_ble_eq_true rfl) dX8_together_29 ?_
    cases hf
    exact g_iret dX8_together_32 .int rfl rfl
  · replace hf := (if_neg c17).symm.trans hf
    refine g_aload_n 0 dX8_together_11 rfl rfl ?_
    refine gf_314 dX8_together_12 rfl ob_0 rfl ?_
    refine g_iload_n 2 dX8_together_15 rfl rfl ?_
    obtain ⟨q5, e6, hf⟩ := bnd_some hf
    refine p_callV (As := [.int a2]) (rest := []) (t_X7_hasHolder_1 e6) cw_549 w_523 w_524 ob_1 rfl (Nat.le_of_ble_eq_true rfl) rfl rfl (Nat.le_of_ble_eq_true rfl) dX8_together_16 ?_
    refine g_if_eq (tgt := 27) dX8_together_19 (by decide) (fun c16 => ?_) (fun c16 => ?_)
    · replace hf := (if_pos c16).symm.trans hf
      refine g_aload_n 0 dX8_together_27 rfl rfl ?_
      refine g_iconst (v := -1) dX8_together_28 rfl ?_
      obtain ⟨q7, e8, hf⟩ := bnd_some hf
      refine p_callV (As := [.int (-1 : Int32)]) (rest := []) (t_X8_refuse e8) cw_355 w_357 w_0 ob_0 rfl (Nat.le_of_ble_eq_true rfl) rfl rfl (Nat.le_of_ble_eq_true rfl) dX8_together_29 ?_
      cases hf
      exact g_iret dX8_together_32 .int rfl rfl
    · replace hf := (if_neg c16).symm.trans hf
      refine g_iload_n 1 dX8_together_22 rfl rfl ?_
      refine g_iload_n 2 dX8_together_23 rfl rfl ?_
      refine g_icmp_ne (tgt := 33) dX8_together_24 (by decide) (fun c15 => ?_) (fun c15 => ?_)
      · replace hf := (if_neg c15).symm.trans hf
        refine g_aload_n 0 dX8_together_33 rfl rfl ?_
        refine gf_314 dX8_together_34 rfl ob_0 rfl ?_
        refine gf_118 dX8_together_37 rfl ob_1 rfl ?_
        refine g_iload_n 1 dX8_together_40 rfl rfl ?_
        obtain ⟨v11, e12, hf⟩ := bnd_some hf
        refine p_iald dX8_together_41 at_11 e12 ?_
        refine g_aload_n 0 dX8_together_42 rfl rfl ?_
        refine gf_314 dX8_together_43 rfl ob_0 rfl ?_
        refine gf_118 dX8_together_46 rfl ob_1 rfl ?_
        refine g_iload_n 2 dX8_together_49 rfl rfl ?_
        obtain ⟨v13, e14, hf⟩ := bnd_some hf
        refine p_iald dX8_together_50 at_11 e14 ?_
        refine g_iand dX8_together_51 ?_
        refine p_callS (As := [.int (v11 &&& v13)]) (rest := []) (j_bitCount (v11 &&& v13)) cw_550 w_551 (Nat.le_of_ble_eq_true rfl) rfl rfl (Nat.le_of_ble_eq_true rfl) dX8_together_52 ?_
        cases hf
        exact g_iret dX8_together_55 .int rfl rfl
      · replace hf := (if_pos c15).symm.trans hf
        refine g_aload_n 0 dX8_together_27 rfl rfl ?_
        refine g_iconst (v := -1) dX8_together_28 rfl ?_
        obtain ⟨q9, e10, hf⟩ := bnd_some hf
        refine p_callV (As := [.int (-1 : Int32)]) (rest := []) (t_X8_refuse e10) cw_355 w_357 w_0 ob_0 rfl (Nat.le_of_ble_eq_true rfl) rfl rfl (Nat.le_of_ble_eq_true rfl) dX8_together_29 ?_
        cases hf
        exact g_iret dX8_together_32 .int rfl rfl

abbrev k_X8_season : kX := (cX8_season, "WhoseHourItIs", "season", some .int, 5, 1)
def f_X8_season (a1 : Int32) (a2 : Int32) (m : mM) : Option (Int32 × mM) :=
if a1 < 0 then (
bnd (f_X8_refuse (-1 : Int32) m) fun q1 =>
some (q1.1, q1.2))
else (
if a1 < (4 : Int32) then (
bnd (f_X8_outside a2 (300 : Int32) m) fun q3 =>
if q3 = 0 then (
bnd (rdA 50 4 a1 m) fun v5 =>
bnd (wrA 50 4 a1 a2 m) fun m7 =>
some (v5, m7))
else (
bnd (f_X8_refuse q3 m) fun q9 =>
some (q9.1, q9.2)))
else (
bnd (f_X8_refuse (-1 : Int32) m) fun q12 =>
some (q12.1, q12.2)))
set_option maxRecDepth 100000 in
theorem t_X8_season {V : eV} {a1 : Int32} {a2 : Int32}  {m : mM} {q : Int32 × mM} (hf : f_X8_season a1 a2 m = some q) : eE V 1 yX8_season cX8_season 5 (some .int) [.ref (vB V + 0), .int a1, .int a2] (hS m) (some (.int q.1)) (hS q.2) := by
  refine eE_of (by decide) (Nat.le_of_ble_eq_true rfl) ?_
  show gG V k_X8_season 0 [(0, .ref (vB V + 0)), (1, .int a1), (2, .int a2)] [] (hS m) _ _
  unfold f_X8_season at hf
  refine g_iload_n 1 dX8_season_0 rfl rfl ?_
  refine g_if_lt (tgt := 9) dX8_season_1 (by decide) (fun c15 => ?_) (fun c15 => ?_)
  · replace hf := (if_pos c15).symm.trans hf
    refine g_aload_n 0 dX8_season_9 rfl rfl ?_
    refine g_iconst (v := -1) dX8_season_10 rfl ?_
    obtain ⟨q1, e2, hf⟩ := bnd_some hf
    refine p_callV (As := [.int (-1 : Int32)]) (rest := []) (t_X8_refuse e2) cw_355 w_357 w_0 ob_0 rfl (Nat.le_of_ble_eq_true rfl) rfl rfl (Nat.le_of_ble_eq_true rfl) dX8_season_11 ?_
    cases hf
    exact g_iret dX8_season_14 .int rfl rfl
  · replace hf := (if_neg c15).symm.trans hf
    refine g_iload_n 1 dX8_season_4 rfl rfl ?_
    refine g_iconst (v := 4) dX8_season_5 rfl ?_
    refine g_icmp_lt (tgt := 15) dX8_season_6 (by decide) (fun c14 => ?_) (fun c14 => ?_)
    · replace hf := (if_pos c14).symm.trans hf
      refine g_iload_n 2 dX8_season_15 rfl rfl ?_
      refine g_sipush (v := 300) dX8_season_16 rfl ?_
      obtain ⟨q3, e4, hf⟩ := bnd_some hf
      refine p_callS (As := [.int a2, .int (300 : Int32)]) (rest := []) (t_X8_outside e4) cw_631 w_632 (Nat.le_of_ble_eq_true rfl) rfl rfl (Nat.le_of_ble_eq_true rfl) dX8_season_19 ?_
      refine g_istore_n dX8_season_22 rfl (Nat.le_of_ble_eq_true rfl) rfl ?_
      refine g_iload_n 0 dX8_season_23 rfl rfl ?_
      refine g_if_eq (tgt := 33) dX8_season_24 (by decide) (fun c11 => ?_) (fun c11 => ?_)
      · replace hf := (if_pos c11).symm.trans hf
        refine g_aload_n 1 dX8_season_33 rfl rfl ?_
        refine gf_314 dX8_season_34 rfl ob_0 rfl ?_
        refine gf_141 dX8_season_37 rfl ob_1 rfl ?_
        refine g_iload_n 2 dX8_season_40 rfl rfl ?_
        obtain ⟨v5, e6, hf⟩ := bnd_some hf
        refine p_iald dX8_season_41 at_50 e6 ?_
        refine g_istore dX8_season_42 (Nat.le_of_ble_eq_true rfl) rfl ?_
        refine g_aload_n 2 dX8_season_44 rfl rfl ?_
        refine gf_314 dX8_season_45 rfl ob_0 rfl ?_
        refine gf_141 dX8_season_48 rfl ob_1 rfl ?_
        refine g_iload_n 3 dX8_season_51 rfl rfl ?_
        refine g_iload_n 4 dX8_season_52 rfl rfl ?_
        obtain ⟨m7, e8, hf⟩ := bnd_some hf
        refine p_iast dX8_season_53 at_50 e8 ?_
        refine g_iload 0 dX8_season_54 rfl ?_
        cases hf
        exact g_iret dX8_season_56 .int rfl rfl
      · replace hf := (if_neg c11).symm.trans hf
        refine g_aload_n 1 dX8_season_27 rfl rfl ?_
        refine g_iload_n 0 dX8_season_28 rfl rfl ?_
        obtain ⟨q9, e10, hf⟩ := bnd_some hf
        refine p_callV (As := [.int q3]) (rest := []) (t_X8_refuse e10) cw_355 w_357 w_0 ob_0 rfl (Nat.le_of_ble_eq_true rfl) rfl rfl (Nat.le_of_ble_eq_true rfl) dX8_season_29 ?_
        cases hf
        exact g_iret dX8_season_32 .int rfl rfl
    · replace hf := (if_neg c14).symm.trans hf
      refine g_aload_n 0 dX8_season_9 rfl rfl ?_
      refine g_iconst (v := -1) dX8_season_10 rfl ?_
      obtain ⟨q12, e13, hf⟩ := bnd_some hf
      refine p_callV (As := [.int (-1 : Int32)]) (rest := []) (t_X8_refuse e13) cw_355 w_357 w_0 ob_0 rfl (Nat.le_of_ble_eq_true rfl) rfl rfl (Nat.le_of_ble_eq_true rfl) dX8_season_11 ?_
      cases hf
      exact g_iret dX8_season_14 .int rfl rfl

abbrev k_X2_ofSeasons : kX := (cX2_ofSeasons, "WhoseHourItIs$Outlook", "ofSeasons", some .int, 5, 5)
def f_X2_ofSeasons_L15 (b2 : Int32) (m : mM) : Nat → Int32 → Int32 → Option (Int32)
  | 0, _, _ => none
  | n + 1, b1, b3 =>
      if (m 1 1) ≤ b3 then (
      some b1)
      else (
      bnd (ckR 6 b3) fun j3 =>
      bnd (rdA (44 + j3) 6 (4 : Int32) m) fun v5 =>
      bnd (rdA 50 4 b2 m) fun v7 =>
      bnd (f_X2_doneNet b3 ((v5 * v7) / (100 : Int32)) m) fun q9 =>
      f_X2_ofSeasons_L15 b2 m n (b1 + q9) (b3 + (1 : Int32)))
def f_X2_ofSeasons_L8 (m : mM) : Nat → Int32 → Int32 → Option (Int32)
  | 0, _, _ => none
  | n + 1, b1, b2 =>
      if (4 : Int32) ≤ b2 then (
      some b1)
      else (
      bnd (f_X2_ofSeasons_L15 b2 m fU b1 (0 : Int32)) fun o12 =>
      f_X2_ofSeasons_L8 m n o12 (b2 + (1 : Int32)))
def f_X2_ofSeasons  (m : mM) : Option (Int32 × mM) :=
bnd (f_X2_findCosts m) fun q1 =>
bnd (f_X2_ofSeasons_L8 q1 fU (0 : Int32) (0 : Int32)) fun o15 =>
some (o15, q1)
set_option maxRecDepth 100000 in
theorem t_X2_ofSeasons_L15 {V : eV} (b2 : Int32) (m : mM) {r : Option Value} {h' : aH} : ∀ (n : Nat) (b1 : Int32) (b3 : Int32) (o : Int32), f_X2_ofSeasons_L15 b2 m n b1 b3 = some o → gG V k_X2_ofSeasons 68 [(0, .ref (vB V + 182)), (1, .int o), (2, .int b2)] [] (hS m) r h' → gG V k_X2_ofSeasons 15 [(0, .ref (vB V + 182)), (1, .int b1), (2, .int b2), (3, .int b3)] [] (hS m) r h' := by
  intro n
  induction n with
  | zero => intro b1 b3 o hf; cases hf
  | succ n ih =>
    intro b1 b3 o hf hk
    rw [f_X2_ofSeasons_L15] at hf
    refine g_iload_n 3 dX2_ofSeasons_15 rfl rfl ?_
    refine g_aload_n 0 dX2_ofSeasons_16 rfl rfl ?_
    refine gf_284 dX2_ofSeasons_17 rfl ob_182 rfl ?_
    refine gf_99 dX2_ofSeasons_20 rfl ob_1 rfl ?_
    refine g_icmp_ge (tgt := 68) dX2_ofSeasons_23 (by decide) (fun c11 => ?_) (fun c11 => ?_)
    · replace hf := (if_pos c11).symm.trans hf
      cases hf
      refine g_sub [0, 1, 2] rfl ?_
      exact hk
    · replace hf := (if_neg c11).symm.trans hf
      refine g_aload_n 0 dX2_ofSeasons_26 rfl rfl ?_
      refine gf_284 dX2_ofSeasons_27 rfl ob_182 rfl ?_
      refine gf_136 dX2_ofSeasons_30 rfl ob_1 rfl ?_
      refine g_iload_n 3 dX2_ofSeasons_33 rfl rfl ?_
      obtain ⟨j3, e4, hf⟩ := bnd_some hf
      refine p_aald dX2_ofSeasons_34 rt_43 e4 (fun hj3 => ?_)
      refine g_iconst (v := 4) dX2_ofSeasons_35 rfl ?_
      obtain ⟨v5, e6, hf⟩ := bnd_some hf
      refine p_iald dX2_ofSeasons_36 (ar_44 hj3) e6 ?_
      refine g_aload_n 0 dX2_ofSeasons_37 rfl rfl ?_
      refine gf_284 dX2_ofSeasons_38 rfl ob_182 rfl ?_
      refine gf_140 dX2_ofSeasons_41 rfl ob_1 rfl ?_
      refine g_iload_n 2 dX2_ofSeasons_44 rfl rfl ?_
      obtain ⟨v7, e8, hf⟩ := bnd_some hf
      refine p_iald dX2_ofSeasons_45 at_50 e8 ?_
      refine g_imul dX2_ofSeasons_46 ?_
      refine g_bipush (v := 100) dX2_ofSeasons_47 rfl ?_
      refine g_idiv dX2_ofSeasons_49 (by decide) ?_
      refine g_istore dX2_ofSeasons_50 (Nat.le_of_ble_eq_true rfl) rfl ?_
      refine g_iload_n 2 dX2_ofSeasons_52 rfl rfl ?_
      refine g_aload_n 1 dX2_ofSeasons_53 rfl rfl ?_
      refine g_iload_n 4 dX2_ofSeasons_54 rfl rfl ?_
      refine g_iload 0 dX2_ofSeasons_55 rfl ?_
      obtain ⟨q9, e10, hf⟩ := bnd_some hf
      refine p_callV (As := [.int b3, .int ((v5 * v7) / (100 : Int32))]) (rest := [.int b1]) (t_X2_doneNet e10) cw_833 w_835 w_19 ob_182 rfl (Nat.le_of_ble_eq_true rfl) rfl rfl (Nat.le_of_ble_eq_true rfl) dX2_ofSeasons_57 ?_
      refine g_iadd dX2_ofSeasons_60 ?_
      refine g_istore_n dX2_ofSeasons_61 rfl (Nat.le_of_ble_eq_true rfl) rfl ?_
      refine g_iinc (q := 4) (v := (b3 + (1 : Int32))) dX2_ofSeasons_62 rfl rfl (Nat.le_of_ble_eq_true rfl) rfl ?_
      refine g_goto (tgt := 15) dX2_ofSeasons_65 (by decide) ?_
      refine g_sub [3, 1, 4, 0] rfl ?_
      exact ih (b1 + q9) (b3 + (1 : Int32)) _ hf hk

set_option maxRecDepth 100000 in
theorem t_X2_ofSeasons_L8 {V : eV} (m : mM) {r : Option Value} {h' : aH} : ∀ (n : Nat) (b1 : Int32) (b2 : Int32) (o : Int32), f_X2_ofSeasons_L8 m n b1 b2 = some o → gG V k_X2_ofSeasons 74 [(1, .int o)] [] (hS m) r h' → gG V k_X2_ofSeasons 8 [(0, .ref (vB V + 182)), (1, .int b1), (2, .int b2)] [] (hS m) r h' := by
  intro n
  induction n with
  | zero => intro b1 b2 o hf; cases hf
  | succ n ih =>
    intro b1 b2 o hf hk
    rw [f_X2_ofSeasons_L8] at hf
    refine g_iload_n 2 dX2_ofSeasons_8 rfl rfl ?_
    refine g_iconst (v := 4) dX2_ofSeasons_9 rfl ?_
    refine g_icmp_ge (tgt := 74) dX2_ofSeasons_10 (by decide) (fun c14 => ?_) (fun c14 => ?_)
    · replace hf := (if_pos c14).symm.trans hf
      cases hf
      refine g_sub [1] rfl ?_
      exact hk
    · replace hf := (if_neg c14).symm.trans hf
      refine g_iconst (v := 0) dX2_ofSeasons_13 rfl ?_
      refine g_istore_n dX2_ofSeasons_14 rfl (Nat.le_of_ble_eq_true rfl) rfl ?_
      refine g_sub [1, 2, 3, 0] rfl ?_
      obtain ⟨o12, e13, hf⟩ := bnd_some hf
      refine t_X2_ofSeasons_L15 (V := V) b2 m fU b1 (0 : Int32) _ e13 ?_
      refine g_iinc (q := 2) (v := (b2 + (1 : Int32))) dX2_ofSeasons_68 rfl rfl (Nat.le_of_ble_eq_true rfl) rfl ?_
      refine g_goto (tgt := 8) dX2_ofSeasons_71 (by decide) ?_
      refine g_sub [1, 2, 0] rfl ?_
      exact ih o12 (b2 + (1 : Int32)) _ hf hk

set_option maxRecDepth 100000 in
theorem t_X2_ofSeasons {V : eV}  {m : mM} {q : Int32 × mM} (hf : f_X2_ofSeasons  m = some q) : eE V 5 yX2_ofSeasons cX2_ofSeasons 5 (some .int) [.ref (vB V + 182)] (hS m) (some (.int q.1)) (hS q.2) := by
  refine eE_of (by decide) (Nat.le_of_ble_eq_true rfl) ?_
  show gG V k_X2_ofSeasons 0 [(0, .ref (vB V + 182))] [] (hS m) _ _
  unfold f_X2_ofSeasons at hf
  refine g_aload_n 0 dX2_ofSeasons_0 rfl rfl ?_
  obtain ⟨q1, e2, hf⟩ := bnd_some hf
  refine p_callVv (As := []) (rest := []) (t_X2_findCosts e2) cw_829 w_831 w_18 ob_182 rfl (Nat.le_of_ble_eq_true rfl) rfl rfl (Nat.le_of_ble_eq_true rfl) dX2_ofSeasons_1 ?_
  refine g_iconst (v := 0) dX2_ofSeasons_4 rfl ?_
  refine g_istore_n dX2_ofSeasons_5 rfl (Nat.le_of_ble_eq_true rfl) rfl ?_
  refine g_iconst (v := 0) dX2_ofSeasons_6 rfl ?_
  refine g_istore_n dX2_ofSeasons_7 rfl (Nat.le_of_ble_eq_true rfl) rfl ?_
  refine g_sub [2, 1, 0] rfl ?_
  obtain ⟨o15, e16, hf⟩ := bnd_some hf
  refine t_X2_ofSeasons_L8 (V := V) q1 fU (0 : Int32) (0 : Int32) _ e16 ?_
  refine g_iload_n 0 dX2_ofSeasons_74 rfl rfl ?_
  cases hf
  exact g_iret dX2_ofSeasons_75 .int rfl rfl

abbrev k_X8_year : kX := (cX8_year, "WhoseHourItIs", "year", some .int, 1, 6)
def f_X8_year  (m : mM) : Option (Int32 × mM) :=
bnd (f_X2_ofSeasons m) fun q1 =>
some (q1.1, q1.2)
set_option maxRecDepth 100000 in
theorem t_X8_year {V : eV}  {m : mM} {q : Int32 × mM} (hf : f_X8_year  m = some q) : eE V 6 yX8_year cX8_year 1 (some .int) [.ref (vB V + 0)] (hS m) (some (.int q.1)) (hS q.2) := by
  refine eE_of (by decide) (Nat.le_of_ble_eq_true rfl) ?_
  show gG V k_X8_year 0 [(0, .ref (vB V + 0))] [] (hS m) _ _
  unfold f_X8_year at hf
  refine g_aload_n 0 dX8_year_0 rfl rfl ?_
  refine gf_323 dX8_year_1 rfl ob_0 rfl ?_
  obtain ⟨q1, e2, hf⟩ := bnd_some hf
  refine p_callV (As := []) (rest := []) (t_X2_ofSeasons e2) cw_855 w_856 w_857 ob_182 rfl (Nat.le_of_ble_eq_true rfl) rfl rfl (Nat.le_of_ble_eq_true rfl) dX8_year_4 ?_
  cases hf
  exact g_iret dX8_year_7 .int rfl rfl

abbrev k_X2_ofDraws : kX := (cX2_ofDraws, "WhoseHourItIs$Outlook", "ofDraws", some .int, 8, 5)
def f_X2_ofDraws_L21 (b1 : Int32) (b5 : Int32) (m : mM) : Nat → Int32 → Int32 → Int32 → Option (Int32 × Int32)
  | 0, _, _, _ => none
  | n + 1, b3, b4, b6 =>
      if (m 1 1) ≤ b6 then (
      some (b3, b4))
      else (
      bnd (ckR 6 b6) fun j3 =>
      bnd (rdA (44 + j3) 6 (4 : Int32) m) fun v5 =>
      bnd (rmI ((((b4 * (1664525 : Int32)) + (1013904223 : Int32)) &&& (2147483647 : Int32)) / (256 : Int32)) (if (1 : Int32) < (((2 : Int32) * v5) + (1 : Int32)) then (((2 : Int32) * v5) + (1 : Int32)) else (1 : Int32))) fun v7 =>
      bnd (f_X2_doneNet b6 v7 m) fun q9 =>
      f_X2_ofDraws_L21 b1 b5 m n (b3 + q9) ((b4 * (1664525 : Int32)) + (1013904223 : Int32)) (b6 + (1 : Int32)))
def f_X2_ofDraws_L12 (b1 : Int32) (m : mM) : Nat → Int32 → Int32 → Int32 → Option (Int32)
  | 0, _, _, _ => none
  | n + 1, b3, b4, b5 =>
      if b1 ≤ b5 then (
      some b3)
      else (
      bnd (f_X2_ofDraws_L21 b1 b5 m fU b3 b4 (0 : Int32)) fun o12 =>
      f_X2_ofDraws_L12 b1 m n o12.1 o12.2 (b5 + (1 : Int32)))
def f_X2_ofDraws (a1 : Int32) (a2 : Int32) (m : mM) : Option (Int32 × mM) :=
bnd (f_X2_findCosts m) fun q1 =>
bnd (f_X2_ofDraws_L12 a1 q1 fU (0 : Int32) a2 (0 : Int32)) fun o15 =>
some (o15, q1)
set_option maxRecDepth 100000 in
theorem t_X2_ofDraws_L21 {V : eV} (b1 : Int32) (b5 : Int32) (m : mM) {r : Option Value} {h' : aH} : ∀ (n : Nat) (b3 : Int32) (b4 : Int32) (b6 : Int32) (o : Int32 × Int32), f_X2_ofDraws_L21 b1 b5 m n b3 b4 b6 = some o → gG V k_X2_ofDraws 92 [(0, .ref (vB V + 182)), (1, .int b1), (3, .int o.1), (4, .int o.2), (5, .int b5)] [] (hS m) r h' → gG V k_X2_ofDraws 21 [(0, .ref (vB V + 182)), (1, .int b1), (3, .int b3), (4, .int b4), (5, .int b5), (6, .int b6)] [] (hS m) r h' := by
  intro n
  induction n with
  | zero => intro b3 b4 b6 o hf; cases hf
  | succ n ih =>
    intro b3 b4 b6 o hf hk
    rw [f_X2_ofDraws_L21] at hf
    refine g_iload 5 dX2_ofDraws_21 rfl ?_
    refine g_aload_n 0 dX2_ofDraws_23 rfl rfl ?_
    refine gf_284 dX2_ofDraws_24 rfl ob_182 rfl ?_
    refine gf_99 dX2_ofDraws_27 rfl ob_1 rfl ?_
    refine g_icmp_ge (tgt := 92) dX2_ofDraws_30 (by decide) (fun c11 => ?_) (fun c11 => ?_)
    · replace hf := (if_pos c11).symm.trans hf
      cases hf
      refine g_sub [0, 1, 2, 3, 4] rfl ?_
      exact hk
    · replace hf := (if_neg c11).symm.trans hf
      refine g_iload 3 dX2_ofDraws_33 rfl ?_
      refine g_ldc w_867 dX2_ofDraws_35 ?_
      refine g_imul dX2_ofDraws_37 ?_
      refine g_ldc w_868 dX2_ofDraws_38 ?_
      refine g_iadd dX2_ofDraws_40 ?_
      refine g_istore dX2_ofDraws_41 (Nat.le_of_ble_eq_true rfl) rfl ?_
      refine g_iconst (v := 1) dX2_ofDraws_43 rfl ?_
      refine g_iconst (v := 2) dX2_ofDraws_44 rfl ?_
      refine g_aload_n 1 dX2_ofDraws_45 rfl rfl ?_
      refine gf_284 dX2_ofDraws_46 rfl ob_182 rfl ?_
      refine gf_136 dX2_ofDraws_49 rfl ob_1 rfl ?_
      refine g_iload 5 dX2_ofDraws_52 rfl ?_
      obtain ⟨j3, e4, hf⟩ := bnd_some hf
      refine p_aald dX2_ofDraws_54 rt_43 e4 (fun hj3 => ?_)
      refine g_iconst (v := 4) dX2_ofDraws_55 rfl ?_
      obtain ⟨v5, e6, hf⟩ := bnd_some hf
      refine p_iald dX2_ofDraws_56 (ar_44 hj3) e6 ?_
      refine g_imul dX2_ofDraws_57 ?_
      refine g_iconst (v := 1) dX2_ofDraws_58 rfl ?_
      refine g_iadd dX2_ofDraws_59 ?_
      refine g_max w_838 w_456 w_71 w_457 (Nat.le_of_ble_eq_true rfl) (Nat.le_of_ble_eq_true rfl) dX2_ofDraws_60 ?_
      refine g_istore dX2_ofDraws_63 (Nat.le_of_ble_eq_true rfl) rfl ?_
      refine g_iload_n 4 dX2_ofDraws_65 rfl rfl ?_
      refine g_aload_n 2 dX2_ofDraws_66 rfl rfl ?_
      refine g_iload 6 dX2_ofDraws_67 rfl ?_
      refine g_iload 1 dX2_ofDraws_69 rfl ?_
      refine g_ldc w_869 dX2_ofDraws_71 ?_
      refine g_iand dX2_ofDraws_73 ?_
      refine g_sipush (v := 256) dX2_ofDraws_74 rfl ?_
      refine g_idiv dX2_ofDraws_77 (by decide) ?_
      refine g_iload 0 dX2_ofDraws_78 rfl ?_
      obtain ⟨v7, e8, hf⟩ := bnd_some hf
      refine p_irem dX2_ofDraws_80 e8 ?_
      obtain ⟨q9, e10, hf⟩ := bnd_some hf
      refine p_callV (As := [.int b6, .int v7]) (rest := [.int b3]) (t_X2_doneNet e10) cw_833 w_835 w_19 ob_182 rfl (Nat.le_of_ble_eq_true rfl) rfl rfl (Nat.le_of_ble_eq_true rfl) dX2_ofDraws_81 ?_
      refine g_iadd dX2_ofDraws_84 ?_
      refine g_istore_n dX2_ofDraws_85 rfl (Nat.le_of_ble_eq_true rfl) rfl ?_
      refine g_iinc (q := 6) (v := (b6 + (1 : Int32))) dX2_ofDraws_86 rfl rfl (Nat.le_of_ble_eq_true rfl) rfl ?_
      refine g_goto (tgt := 21) dX2_ofDraws_89 (by decide) ?_
      refine g_sub [4, 5, 1, 3, 6, 0] rfl ?_
      exact ih (b3 + q9) ((b4 * (1664525 : Int32)) + (1013904223 : Int32)) (b6 + (1 : Int32)) _ hf hk

set_option maxRecDepth 100000 in
theorem t_X2_ofDraws_L12 {V : eV} (b1 : Int32) (m : mM) {r : Option Value} {h' : aH} : ∀ (n : Nat) (b3 : Int32) (b4 : Int32) (b5 : Int32) (o : Int32), f_X2_ofDraws_L12 b1 m n b3 b4 b5 = some o → gG V k_X2_ofDraws 98 [(3, .int o)] [] (hS m) r h' → gG V k_X2_ofDraws 12 [(0, .ref (vB V + 182)), (1, .int b1), (3, .int b3), (4, .int b4), (5, .int b5)] [] (hS m) r h' := by
  intro n
  induction n with
  | zero => intro b3 b4 b5 o hf; cases hf
  | succ n ih =>
    intro b3 b4 b5 o hf hk
    rw [f_X2_ofDraws_L12] at hf
    refine g_iload 4 dX2_ofDraws_12 rfl ?_
    refine g_iload_n 1 dX2_ofDraws_14 rfl rfl ?_
    refine g_icmp_ge (tgt := 98) dX2_ofDraws_15 (by decide) (fun c14 => ?_) (fun c14 => ?_)
    · replace hf := (if_pos c14).symm.trans hf
      cases hf
      refine g_sub [2] rfl ?_
      exact hk
    · replace hf := (if_neg c14).symm.trans hf
      refine g_iconst (v := 0) dX2_ofDraws_18 rfl ?_
      refine g_istore dX2_ofDraws_19 (Nat.le_of_ble_eq_true rfl) rfl ?_
      refine g_sub [1, 2, 3, 4, 5, 0] rfl ?_
      obtain ⟨o12, e13, hf⟩ := bnd_some hf
      refine t_X2_ofDraws_L21 (V := V) b1 b5 m fU b3 b4 (0 : Int32) _ e13 ?_
      refine g_iinc (q := 4) (v := (b5 + (1 : Int32))) dX2_ofDraws_92 rfl rfl (Nat.le_of_ble_eq_true rfl) rfl ?_
      refine g_goto (tgt := 12) dX2_ofDraws_95 (by decide) ?_
      refine g_sub [1, 2, 3, 4, 0] rfl ?_
      exact ih o12.1 o12.2 (b5 + (1 : Int32)) _ hf hk

set_option maxRecDepth 100000 in
theorem t_X2_ofDraws {V : eV} {a1 : Int32} {a2 : Int32}  {m : mM} {q : Int32 × mM} (hf : f_X2_ofDraws a1 a2 m = some q) : eE V 5 yX2_ofDraws cX2_ofDraws 8 (some .int) [.ref (vB V + 182), .int a1, .int a2] (hS m) (some (.int q.1)) (hS q.2) := by
  refine eE_of (by decide) (Nat.le_of_ble_eq_true rfl) ?_
  show gG V k_X2_ofDraws 0 [(0, .ref (vB V + 182)), (1, .int a1), (2, .int a2)] [] (hS m) _ _
  unfold f_X2_ofDraws at hf
  refine g_aload_n 0 dX2_ofDraws_0 rfl rfl ?_
  obtain ⟨q1, e2, hf⟩ := bnd_some hf
  refine p_callVv (As := []) (rest := []) (t_X2_findCosts e2) cw_829 w_831 w_18 ob_182 rfl (Nat.le_of_ble_eq_true rfl) rfl rfl (Nat.le_of_ble_eq_true rfl) dX2_ofDraws_1 ?_
  refine g_iconst (v := 0) dX2_ofDraws_4 rfl ?_
  refine g_istore_n dX2_ofDraws_5 rfl (Nat.le_of_ble_eq_true rfl) rfl ?_
  refine g_iload_n 3 dX2_ofDraws_6 rfl rfl ?_
  refine g_istore dX2_ofDraws_7 (Nat.le_of_ble_eq_true rfl) rfl ?_
  refine g_iconst (v := 0) dX2_ofDraws_9 rfl ?_
  refine g_istore dX2_ofDraws_10 (Nat.le_of_ble_eq_true rfl) rfl ?_
  refine g_sub [3, 4, 2, 1, 0] rfl ?_
  obtain ⟨o15, e16, hf⟩ := bnd_some hf
  refine t_X2_ofDraws_L12 (V := V) a1 q1 fU (0 : Int32) a2 (0 : Int32) _ e16 ?_
  refine g_iload_n 0 dX2_ofDraws_98 rfl rfl ?_
  cases hf
  exact g_iret dX2_ofDraws_99 .int rfl rfl

abbrev k_X8_years : kX := (cX8_years, "WhoseHourItIs", "years", some .int, 3, 6)
def f_X8_years (a1 : Int32) (a2 : Int32) (m : mM) : Option (Int32 × mM) :=
if (1 : Int32) ≤ a1 then (
if a1 ≤ (10 : Int32) then (
bnd (f_X2_ofDraws a1 a2 m) fun q1 =>
some (q1.1, q1.2))
else (
bnd (f_X8_refuse (-6 : Int32) m) fun q3 =>
some (q3.1, q3.2)))
else (
bnd (f_X8_refuse (-4 : Int32) m) fun q6 =>
some (q6.1, q6.2))
set_option maxRecDepth 100000 in
theorem t_X8_years {V : eV} {a1 : Int32} {a2 : Int32}  {m : mM} {q : Int32 × mM} (hf : f_X8_years a1 a2 m = some q) : eE V 6 yX8_years cX8_years 3 (some .int) [.ref (vB V + 0), .int a1, .int a2] (hS m) (some (.int q.1)) (hS q.2) := by
  refine eE_of (by decide) (Nat.le_of_ble_eq_true rfl) ?_
  show gG V k_X8_years 0 [(0, .ref (vB V + 0)), (1, .int a1), (2, .int a2)] [] (hS m) _ _
  unfold f_X8_years at hf
  refine g_iload_n 1 dX8_years_0 rfl rfl ?_
  refine g_iconst (v := 1) dX8_years_1 rfl ?_
  refine g_icmp_ge (tgt := 12) dX8_years_2 (by decide) (fun c8 => ?_) (fun c8 => ?_)
  · replace hf := (if_pos c8).symm.trans hf
    refine g_iload_n 1 dX8_years_12 rfl rfl ?_
    refine g_bipush (v := 10) dX8_years_13 rfl ?_
    refine g_icmp_le (tgt := 25) dX8_years_15 (by decide) (fun c5 => ?_) (fun c5 => ?_)
    · replace hf := (if_pos c5).symm.trans hf
      refine g_aload_n 0 dX8_years_25 rfl rfl ?_
      refine gf_323 dX8_years_26 rfl ob_0 rfl ?_
      refine g_iload_n 1 dX8_years_29 rfl rfl ?_
      refine g_iload_n 2 dX8_years_30 rfl rfl ?_
      obtain ⟨q1, e2, hf⟩ := bnd_some hf
      refine p_callV (As := [.int a1, .int a2]) (rest := []) (t_X2_ofDraws e2) cw_863 w_864 w_865 ob_182 rfl (Nat.le_of_ble_eq_true rfl) rfl rfl (Nat.le_of_ble_eq_true rfl) dX8_years_31 ?_
      cases hf
      exact g_iret dX8_years_34 .int rfl rfl
    · replace hf := (if_neg c5).symm.trans hf
      refine g_aload_n 0 dX8_years_18 rfl rfl ?_
      refine g_bipush (v := -6) dX8_years_19 rfl ?_
      obtain ⟨q3, e4, hf⟩ := bnd_some hf
      refine p_callV (As := [.int (-6 : Int32)]) (rest := []) (t_X8_refuse e4) cw_355 w_357 w_0 ob_0 rfl (Nat.le_of_ble_eq_true rfl) rfl rfl (Nat.le_of_ble_eq_true rfl) dX8_years_21 ?_
      cases hf
      exact g_iret dX8_years_24 .int rfl rfl
  · replace hf := (if_neg c8).symm.trans hf
    refine g_aload_n 0 dX8_years_5 rfl rfl ?_
    refine g_bipush (v := -4) dX8_years_6 rfl ?_
    obtain ⟨q6, e7, hf⟩ := bnd_some hf
    refine p_callV (As := [.int (-4 : Int32)]) (rest := []) (t_X8_refuse e7) cw_355 w_357 w_0 ob_0 rfl (Nat.le_of_ble_eq_true rfl) rfl rfl (Nat.le_of_ble_eq_true rfl) dX8_years_8 ?_
    cases hf
    exact g_iret dX8_years_11 .int rfl rfl

abbrev k_X4_put : kX := (cX4_put, "WhoseHourItIs$Row", "put", none, 2, 0)
def f_X4_put (a1 : Int32) (m : mM) : Option (mM) :=
if (28 : Int32) ≤ (m 184 3) then (
some m)
else (
bnd (wrA 185 28 (m 184 3) a1 m) fun m1 =>
bnd (some (m_up m1 184 3 ((m1 184 3) + (1 : Int32)))) fun m3 =>
some m3)
set_option maxRecDepth 100000 in
theorem t_X4_put {V : eV} {a1 : Int32}  {m : mM} {q : mM} (hf : f_X4_put a1 m = some q) : eE V 0 yX4_put cX4_put 2 (none) [.ref (vB V + 184), .int a1] (hS m) none (hS q) := by
  refine eE_of (by decide) (Nat.le_of_ble_eq_true rfl) ?_
  show gG V k_X4_put 0 [(0, .ref (vB V + 184)), (1, .int a1)] [] (hS m) _ _
  unfold f_X4_put at hf
  refine g_aload_n 0 dX4_put_0 rfl rfl ?_
  refine gf_303 dX4_put_1 rfl ob_184 rfl ?_
  refine g_bipush (v := 28) dX4_put_4 rfl ?_
  refine g_icmp_ge (tgt := 29) dX4_put_6 (by decide) (fun c5 => ?_) (fun c5 => ?_)
  · replace hf := (if_pos c5).symm.trans hf
    cases hf
    exact g_vret dX4_put_29 rfl
  · replace hf := (if_neg c5).symm.trans hf
    refine g_aload_n 0 dX4_put_9 rfl rfl ?_
    refine gf_302 dX4_put_10 rfl ob_184 rfl ?_
    refine g_aload_n 0 dX4_put_13 rfl rfl ?_
    refine gf_303 dX4_put_14 rfl ob_184 rfl ?_
    refine g_iload_n 1 dX4_put_17 rfl rfl ?_
    obtain ⟨m1, e2, hf⟩ := bnd_some hf
    refine p_iast dX4_put_18 at_185 e2 ?_
    refine g_aload_n 0 dX4_put_19 rfl rfl ?_
    refine g_dup dX4_put_20 rfl ?_
    refine gf_303 dX4_put_21 rfl ob_184 rfl ?_
    refine g_iconst (v := 1) dX4_put_24 rfl ?_
    refine g_iadd dX4_put_25 ?_
    obtain ⟨m3, e4, hf⟩ := bnd_some hf
    cases e4
    refine pf_303 dX4_put_26 rfl ob_184 rfl ?_
    generalize m_up m1 184 3 ((m1 184 3) + (1 : Int32)) = m3 at hf ⊢
    cases hf
    exact g_vret dX4_put_29 rfl

abbrev k_X8_row : kX := (cX8_row, "WhoseHourItIs", "row", some .int, 2, 1)
def f_X8_row (a1 : Int32) (m : mM) : Option (Int32 × mM) :=
if 0 ≤ a1 then (
if (9 : Int32) < a1 then (
bnd (f_X8_refuse (-6 : Int32) m) fun q1 =>
some (q1.1, q1.2))
else (
if (m 184 3) < (28 : Int32) then (
bnd (f_X4_put a1 m) fun q3 =>
some ((q3 184 3), q3))
else (
bnd (f_X8_refuse (-6 : Int32) m) fun q5 =>
some (q5.1, q5.2))))
else (
bnd (f_X8_refuse (-4 : Int32) m) fun q9 =>
some (q9.1, q9.2))
set_option maxRecDepth 100000 in
theorem t_X8_row {V : eV} {a1 : Int32}  {m : mM} {q : Int32 × mM} (hf : f_X8_row a1 m = some q) : eE V 1 yX8_row cX8_row 2 (some .int) [.ref (vB V + 0), .int a1] (hS m) (some (.int q.1)) (hS q.2) := by
  refine eE_of (by decide) (Nat.le_of_ble_eq_true rfl) ?_
  show gG V k_X8_row 0 [(0, .ref (vB V + 0)), (1, .int a1)] [] (hS m) _ _
  unfold f_X8_row at hf
  refine g_iload_n 1 dX8_row_0 rfl rfl ?_
  refine g_if_ge (tgt := 11) dX8_row_1 (by decide) (fun c11 => ?_) (fun c11 => ?_)
  · replace hf := (if_pos c11).symm.trans hf
    refine g_iload_n 1 dX8_row_11 rfl rfl ?_
    refine g_bipush (v := 9) dX8_row_12 rfl ?_
    refine g_icmp_gt (tgt := 29) dX8_row_14 (by decide) (fun c8 => ?_) (fun c8 => ?_)
    · replace hf := (if_pos c8).symm.trans hf
      refine g_aload_n 0 dX8_row_29 rfl rfl ?_
      refine g_bipush (v := -6) dX8_row_30 rfl ?_
      obtain ⟨q1, e2, hf⟩ := bnd_some hf
      refine p_callV (As := [.int (-6 : Int32)]) (rest := []) (t_X8_refuse e2) cw_355 w_357 w_0 ob_0 rfl (Nat.le_of_ble_eq_true rfl) rfl rfl (Nat.le_of_ble_eq_true rfl) dX8_row_32 ?_
      cases hf
      exact g_iret dX8_row_35 .int rfl rfl
    · replace hf := (if_neg c8).symm.trans hf
      refine g_aload_n 0 dX8_row_17 rfl rfl ?_
      refine gf_324 dX8_row_18 rfl ob_0 rfl ?_
      refine gf_304 dX8_row_21 rfl ob_184 rfl ?_
      refine g_bipush (v := 28) dX8_row_24 rfl ?_
      refine g_icmp_lt (tgt := 36) dX8_row_26 (by decide) (fun c7 => ?_) (fun c7 => ?_)
      · replace hf := (if_pos c7).symm.trans hf
        refine g_aload_n 0 dX8_row_36 rfl rfl ?_
        refine gf_324 dX8_row_37 rfl ob_0 rfl ?_
        refine g_iload_n 1 dX8_row_40 rfl rfl ?_
        obtain ⟨q3, e4, hf⟩ := bnd_some hf
        refine p_callVv (As := [.int a1]) (rest := []) (t_X4_put e4) cw_874 w_875 w_876 ob_184 rfl (Nat.le_of_ble_eq_true rfl) rfl rfl (Nat.le_of_ble_eq_true rfl) dX8_row_41 ?_
        refine g_aload_n 0 dX8_row_44 rfl rfl ?_
        refine gf_324 dX8_row_45 rfl ob_0 rfl ?_
        refine gf_304 dX8_row_48 rfl ob_184 rfl ?_
        cases hf
        exact g_iret dX8_row_51 .int rfl rfl
      · replace hf := (if_neg c7).symm.trans hf
        refine g_aload_n 0 dX8_row_29 rfl rfl ?_
        refine g_bipush (v := -6) dX8_row_30 rfl ?_
        obtain ⟨q5, e6, hf⟩ := bnd_some hf
        refine p_callV (As := [.int (-6 : Int32)]) (rest := []) (t_X8_refuse e6) cw_355 w_357 w_0 ob_0 rfl (Nat.le_of_ble_eq_true rfl) rfl rfl (Nat.le_of_ble_eq_true rfl) dX8_row_32 ?_
        cases hf
        exact g_iret dX8_row_35 .int rfl rfl
  · replace hf := (if_neg c11).symm.trans hf
    refine g_aload_n 0 dX8_row_4 rfl rfl ?_
    refine g_bipush (v := -4) dX8_row_5 rfl ?_
    obtain ⟨q9, e10, hf⟩ := bnd_some hf
    refine p_callV (As := [.int (-4 : Int32)]) (rest := []) (t_X8_refuse e10) cw_355 w_357 w_0 ob_0 rfl (Nat.le_of_ble_eq_true rfl) rfl rfl (Nat.le_of_ble_eq_true rfl) dX8_row_7 ?_
    cases hf
    exact g_iret dX8_row_10 .int rfl rfl

abbrev k_X4_mayBeWorked : kX := (cX4_mayBeWorked, "WhoseHourItIs$Row", "mayBeWorked", some .boolean, 3, 3)
def f_X4_mayBeWorked (a1 : Int32) (a2 : Int32) (m : mM) : Option (Int32) :=
bnd (f_X7_hasWork_1 a1 m) fun q1 =>
if q1 = 0 then (
some (0 : Int32))
else (
bnd (ckR 6 a1) fun j3 =>
bnd (rdA (44 + j3) 6 (3 : Int32) m) fun v5 =>
if v5 < a2 then (
some (0 : Int32))
else (
bnd (f_X0_hourCost a1 a2 m) fun q7 =>
if q7 = (-9 : Int32) then (
some (0 : Int32))
else (
some (1 : Int32))))
set_option maxRecDepth 100000 in
theorem t_X4_mayBeWorked {V : eV} {a1 : Int32} {a2 : Int32}  {m : mM} {q : Int32} (hf : f_X4_mayBeWorked a1 a2 m = some q) : eE V 3 yX4_mayBeWorked cX4_mayBeWorked 3 (some .boolean) [.ref (vB V + 184), .int a1, .int a2] (hS m) (some (.int q)) (hS m) := by
  refine eE_of (by decide) (Nat.le_of_ble_eq_true rfl) ?_
  show gG V k_X4_mayBeWorked 0 [(0, .ref (vB V + 184)), (1, .int a1), (2, .int a2)] [] (hS m) _ _
  unfold f_X4_mayBeWorked at hf
  refine g_aload_n 0 dX4_mayBeWorked_0 rfl rfl ?_
  refine gf_300 dX4_mayBeWorked_1 rfl ob_184 rfl ?_
  refine g_iload_n 1 dX4_mayBeWorked_4 rfl rfl ?_
  obtain ⟨q1, e2, hf⟩ := bnd_some hf
  refine p_callV (As := [.int a1]) (rest := []) (t_X7_hasWork_1 e2) cw_890 w_624 w_625 ob_1 rfl (Nat.le_of_ble_eq_true rfl) rfl rfl (Nat.le_of_ble_eq_true rfl) dX4_mayBeWorked_5 ?_
  refine g_if_eq (tgt := 44) dX4_mayBeWorked_8 (by decide) (fun c11 => ?_) (fun c11 => ?_)
  · replace hf := (if_pos c11).symm.trans hf
    refine g_iconst (v := 0) dX4_mayBeWorked_44 rfl ?_
    cases hf
    exact g_iret dX4_mayBeWorked_45 .boolean rfl rfl
  · replace hf := (if_neg c11).symm.trans hf
    refine g_iload_n 2 dX4_mayBeWorked_11 rfl rfl ?_
    refine g_aload_n 0 dX4_mayBeWorked_12 rfl rfl ?_
    refine gf_300 dX4_mayBeWorked_13 rfl ob_184 rfl ?_
    refine gf_137 dX4_mayBeWorked_16 rfl ob_1 rfl ?_
    refine g_iload_n 1 dX4_mayBeWorked_19 rfl rfl ?_
    obtain ⟨j3, e4, hf⟩ := bnd_some hf
    refine p_aald dX4_mayBeWorked_20 rt_43 e4 (fun hj3 => ?_)
    refine g_iconst (v := 3) dX4_mayBeWorked_21 rfl ?_
    obtain ⟨v5, e6, hf⟩ := bnd_some hf
    refine p_iald dX4_mayBeWorked_22 (ar_44 hj3) e6 ?_
    refine g_icmp_gt (tgt := 44) dX4_mayBeWorked_23 (by decide) (fun c10 => ?_) (fun c10 => ?_)
    · replace hf := (if_pos c10).symm.trans hf
      refine g_iconst (v := 0) dX4_mayBeWorked_44 rfl ?_
      cases hf
      exact g_iret dX4_mayBeWorked_45 .boolean rfl rfl
    · replace hf := (if_neg c10).symm.trans hf
      refine g_aload_n 0 dX4_mayBeWorked_26 rfl rfl ?_
      refine gf_301 dX4_mayBeWorked_27 rfl ob_184 rfl ?_
      refine g_iload_n 1 dX4_mayBeWorked_30 rfl rfl ?_
      refine g_iload_n 2 dX4_mayBeWorked_31 rfl rfl ?_
      obtain ⟨q7, e8, hf⟩ := bnd_some hf
      refine p_callV (As := [.int a1, .int a2]) (rest := []) (t_X0_hourCost e8) cw_891 w_565 w_566 ob_154 rfl (Nat.le_of_ble_eq_true rfl) rfl rfl (Nat.le_of_ble_eq_true rfl) dX4_mayBeWorked_32 ?_
      refine g_bipush (v := -9) dX4_mayBeWorked_35 rfl ?_
      refine g_icmp_eq (tgt := 44) dX4_mayBeWorked_37 (by decide) (fun c9 => ?_) (fun c9 => ?_)
      · replace hf := (if_pos c9).symm.trans hf
        refine g_iconst (v := 0) dX4_mayBeWorked_44 rfl ?_
        cases hf
        exact g_iret dX4_mayBeWorked_45 .boolean rfl rfl
      · replace hf := (if_neg c9).symm.trans hf
        refine g_iconst (v := 1) dX4_mayBeWorked_40 rfl ?_
        refine g_goto (tgt := 45) dX4_mayBeWorked_41 (by decide) ?_
        cases hf
        exact g_iret dX4_mayBeWorked_45 .boolean rfl rfl

abbrev k_X4_firstWrongHour : kX := (cX4_firstWrongHour, "WhoseHourItIs$Row", "firstWrongHour", some .int, 2, 4)
def f_X4_firstWrongHour_L2 (m : mM) : Nat → Int32 → Option ((Int32) ⊕ (Unit))
  | 0, _ => none
  | n + 1, b1 =>
      if (m 184 3) ≤ b1 then (
      some (.inr ()))
      else (
      bnd (rdA 185 28 b1 m) fun v1 =>
      if v1 = (9 : Int32) then (
      f_X4_firstWrongHour_L2 m n (b1 + (1 : Int32)))
      else (
      bnd (rdA 185 28 b1 m) fun v3 =>
      bnd (f_X4_mayBeWorked v3 b1 m) fun q5 =>
      if q5 = 0 then (
      some (.inl b1))
      else (
      f_X4_firstWrongHour_L2 m n (b1 + (1 : Int32)))))
def f_X4_firstWrongHour  (m : mM) : Option (Int32) :=
bnd (f_X4_firstWrongHour_L2 m fU (0 : Int32)) fun o10 =>
ora o10 (fun zq => some zq) fun x11 =>
some (-9 : Int32)
set_option maxRecDepth 100000 in
theorem t_X4_firstWrongHour_L2 {V : eV} (m : mM) {r : Option Value} {h' : aH} : ∀ (n : Nat) (b1 : Int32) (o : (Int32) ⊕ (Unit)), f_X4_firstWrongHour_L2 m n b1 = some o → lxP (hS m) o r h' (fun x => gG V k_X4_firstWrongHour 43 [] [] (hS m) r h') → gG V k_X4_firstWrongHour 2 [(0, .ref (vB V + 184)), (1, .int b1)] [] (hS m) r h' := by
  intro n
  induction n with
  | zero => intro b1 o hf; cases hf
  | succ n ih =>
    intro b1 o hf hk
    rw [f_X4_firstWrongHour_L2] at hf
    refine g_iload_n 1 dX4_firstWrongHour_2 rfl rfl ?_
    refine g_aload_n 0 dX4_firstWrongHour_3 rfl rfl ?_
    refine gf_303 dX4_firstWrongHour_4 rfl ob_184 rfl ?_
    refine g_icmp_ge (tgt := 43) dX4_firstWrongHour_7 (by decide) (fun c9 => ?_) (fun c9 => ?_)
    · replace hf := (if_pos c9).symm.trans hf
      cases hf
      refine g_sub [] rfl ?_
      exact hk
    · replace hf := (if_neg c9).symm.trans hf
      refine g_aload_n 0 dX4_firstWrongHour_10 rfl rfl ?_
      refine gf_302 dX4_firstWrongHour_11 rfl ob_184 rfl ?_
      refine g_iload_n 1 dX4_firstWrongHour_14 rfl rfl ?_
      obtain ⟨v1, e2, hf⟩ := bnd_some hf
      refine p_iald dX4_firstWrongHour_15 at_185 e2 ?_
      refine g_bipush (v := 9) dX4_firstWrongHour_16 rfl ?_
      refine g_icmp_eq (tgt := 37) dX4_firstWrongHour_18 (by decide) (fun c8 => ?_) (fun c8 => ?_)
      · replace hf := (if_pos c8).symm.trans hf
        refine g_iinc (q := 1) (v := (b1 + (1 : Int32))) dX4_firstWrongHour_37 rfl rfl (Nat.le_of_ble_eq_true rfl) rfl ?_
        refine g_goto (tgt := 2) dX4_firstWrongHour_40 (by decide) ?_
        refine g_sub [1, 0] rfl ?_
        exact ih (b1 + (1 : Int32)) _ hf hk
      · replace hf := (if_neg c8).symm.trans hf
        refine g_aload_n 0 dX4_firstWrongHour_21 rfl rfl ?_
        refine g_aload_n 0 dX4_firstWrongHour_22 rfl rfl ?_
        refine gf_302 dX4_firstWrongHour_23 rfl ob_184 rfl ?_
        refine g_iload_n 1 dX4_firstWrongHour_26 rfl rfl ?_
        obtain ⟨v3, e4, hf⟩ := bnd_some hf
        refine p_iald dX4_firstWrongHour_27 at_185 e4 ?_
        refine g_iload_n 1 dX4_firstWrongHour_28 rfl rfl ?_
        obtain ⟨q5, e6, hf⟩ := bnd_some hf
        refine p_callV (As := [.int v3, .int b1]) (rest := []) (t_X4_mayBeWorked e6) cw_886 w_888 w_20 ob_184 rfl (Nat.le_of_ble_eq_true rfl) rfl rfl (Nat.le_of_ble_eq_true rfl) dX4_firstWrongHour_29 ?_
        refine g_if_ne (tgt := 37) dX4_firstWrongHour_32 (by decide) (fun c7 => ?_) (fun c7 => ?_)
        · replace hf := (if_neg c7).symm.trans hf
          refine g_iinc (q := 1) (v := (b1 + (1 : Int32))) dX4_firstWrongHour_37 rfl rfl (Nat.le_of_ble_eq_true rfl) rfl ?_
          refine g_goto (tgt := 2) dX4_firstWrongHour_40 (by decide) ?_
          refine g_sub [1, 0] rfl ?_
          exact ih (b1 + (1 : Int32)) _ hf hk
        · replace hf := (if_pos c7).symm.trans hf
          refine g_iload_n 1 dX4_firstWrongHour_35 rfl rfl ?_
          cases hf
          obtain ⟨rfl, rfl⟩ := hk
          exact g_iret dX4_firstWrongHour_36 .int rfl rfl

set_option maxRecDepth 100000 in
theorem t_X4_firstWrongHour {V : eV}  {m : mM} {q : Int32} (hf : f_X4_firstWrongHour  m = some q) : eE V 4 yX4_firstWrongHour cX4_firstWrongHour 2 (some .int) [.ref (vB V + 184)] (hS m) (some (.int q)) (hS m) := by
  refine eE_of (by decide) (Nat.le_of_ble_eq_true rfl) ?_
  show gG V k_X4_firstWrongHour 0 [(0, .ref (vB V + 184))] [] (hS m) _ _
  unfold f_X4_firstWrongHour at hf
  refine g_iconst (v := 0) dX4_firstWrongHour_0 rfl ?_
  refine g_istore_n dX4_firstWrongHour_1 rfl (Nat.le_of_ble_eq_true rfl) rfl ?_
  refine g_sub [1, 0] rfl ?_
  obtain ⟨o10, e12, hf⟩ := bnd_some hf
  refine t_X4_firstWrongHour_L2 (V := V) m fU (0 : Int32) _ e12 ?_
  rcases o10 with zq | x11
  · replace hf := ora_l hf
    cases hf
    exact ⟨rfl, rfl⟩
  · replace hf := ora_r hf
    show gG V _ _ _ _ _ _ _
    refine g_bipush (v := -9) dX4_firstWrongHour_43 rfl ?_
    cases hf
    exact g_iret dX4_firstWrongHour_45 .int rfl rfl

abbrev k_X4_mayFollow : kX := (cX4_mayFollow, "WhoseHourItIs$Row", "mayFollow", some .boolean, 3, 0)
def f_X4_mayFollow (a0 : Nat) (a1 : Int32) (a2 : Int32) (m : mM) : Option (Int32) :=
bnd (rdA (44 + a0) 6 (1 : Int32) m) fun v1 =>
if v1 = (1 : Int32) then (
if (a2 / (4 : Int32)) = (a1 / (4 : Int32)) then (
some (0 : Int32))
else (
some (1 : Int32)))
else (
if a2 = (a1 + (1 : Int32)) then (
some (1 : Int32))
else (
some (0 : Int32)))
set_option maxRecDepth 100000 in
theorem t_X4_mayFollow {V : eV} {a0 : Nat} {a1 : Int32} {a2 : Int32} (ha0 : a0 < 6) {m : mM} {q : Int32} (hf : f_X4_mayFollow a0 a1 a2 m = some q) : eE V 0 yX4_mayFollow cX4_mayFollow 3 (some .boolean) [.ref (vB V + (44 + a0)), .int a1, .int a2] (hS m) (some (.int q)) (hS m) := by
  refine eE_of (by decide) (Nat.le_of_ble_eq_true rfl) ?_
  show gG V k_X4_mayFollow 0 [(0, .ref (vB V + (44 + a0))), (1, .int a1), (2, .int a2)] [] (hS m) _ _
  unfold f_X4_mayFollow at hf
  refine g_aload_n 0 dX4_mayFollow_0 rfl rfl ?_
  refine g_iconst (v := 1) dX4_mayFollow_1 rfl ?_
  obtain ⟨v1, e2, hf⟩ := bnd_some hf
  refine p_iald dX4_mayFollow_2 (ar_44 ha0) e2 ?_
  refine g_iconst (v := 1) dX4_mayFollow_3 rfl ?_
  refine g_icmp_ne (tgt := 24) dX4_mayFollow_4 (by decide) (fun c5 => ?_) (fun c5 => ?_)
  · replace hf := (if_neg c5).symm.trans hf
    refine g_iload_n 2 dX4_mayFollow_24 rfl rfl ?_
    refine g_iload_n 1 dX4_mayFollow_25 rfl rfl ?_
    refine g_iconst (v := 1) dX4_mayFollow_26 rfl ?_
    refine g_iadd dX4_mayFollow_27 ?_
    refine g_icmp_ne (tgt := 35) dX4_mayFollow_28 (by decide) (fun c4 => ?_) (fun c4 => ?_)
    · replace hf := (if_neg c4).symm.trans hf
      refine g_iconst (v := 0) dX4_mayFollow_35 rfl ?_
      cases hf
      exact g_iret dX4_mayFollow_36 .boolean rfl rfl
    · replace hf := (if_pos c4).symm.trans hf
      refine g_iconst (v := 1) dX4_mayFollow_31 rfl ?_
      refine g_goto (tgt := 36) dX4_mayFollow_32 (by decide) ?_
      cases hf
      exact g_iret dX4_mayFollow_36 .boolean rfl rfl
  · replace hf := (if_pos c5).symm.trans hf
    refine g_iload_n 2 dX4_mayFollow_7 rfl rfl ?_
    refine g_iconst (v := 4) dX4_mayFollow_8 rfl ?_
    refine g_idiv dX4_mayFollow_9 (by decide) ?_
    refine g_iload_n 1 dX4_mayFollow_10 rfl rfl ?_
    refine g_iconst (v := 4) dX4_mayFollow_11 rfl ?_
    refine g_idiv dX4_mayFollow_12 (by decide) ?_
    refine g_icmp_eq (tgt := 20) dX4_mayFollow_13 (by decide) (fun c3 => ?_) (fun c3 => ?_)
    · replace hf := (if_pos c3).symm.trans hf
      refine g_iconst (v := 0) dX4_mayFollow_20 rfl ?_
      refine g_goto (tgt := 36) dX4_mayFollow_21 (by decide) ?_
      cases hf
      exact g_iret dX4_mayFollow_36 .boolean rfl rfl
    · replace hf := (if_neg c3).symm.trans hf
      refine g_iconst (v := 1) dX4_mayFollow_16 rfl ?_
      refine g_goto (tgt := 36) dX4_mayFollow_17 (by decide) ?_
      cases hf
      exact g_iret dX4_mayFollow_36 .boolean rfl rfl

abbrev k_X4_isDone : kX := (cX4_isDone, "WhoseHourItIs$Row", "isDone", some .boolean, 6, 1)
def f_X4_isDone_L19 (b1 : Int32) (b2 : Nat) (m : mM) : Nat → Int32 → Int32 → Int32 → Option ((Int32) ⊕ (Int32))
  | 0, _, _, _ => none
  | n + 1, b3, b4, b5 =>
      if (m 184 3) ≤ b5 then (
      some (.inr b3))
      else (
      bnd (rdA 185 28 b5 m) fun v3 =>
      if v3 = b1 then (
      if b4 = (-9 : Int32) then (
      f_X4_isDone_L19 b1 b2 m n (b3 + (1 : Int32)) b5 (b5 + (1 : Int32)))
      else (
      bnd (f_X4_mayFollow b2 b4 b5 m) fun q5 =>
      if q5 = 0 then (
      some (.inl (0 : Int32)))
      else (
      f_X4_isDone_L19 b1 b2 m n (b3 + (1 : Int32)) b5 (b5 + (1 : Int32)))))
      else (
      f_X4_isDone_L19 b1 b2 m n b3 b4 (b5 + (1 : Int32))))
def f_X4_isDone (a1 : Int32) (m : mM) : Option (Int32) :=
bnd (ckR 6 a1) fun j1 =>
bnd (f_X4_isDone_L19 a1 j1 m fU (0 : Int32) (-9 : Int32) (0 : Int32)) fun o11 =>
ora o11 (fun zq => some zq) fun x12 =>
bnd (rdA (44 + j1) 6 (2 : Int32) m) fun v14 =>
if x12 = v14 then (
some (1 : Int32))
else (
some (0 : Int32))
set_option maxRecDepth 100000 in
theorem t_X4_isDone_L19 {V : eV} (b1 : Int32) (b2 : Nat) (hb2 : b2 < 6) (m : mM) {r : Option Value} {h' : aH} : ∀ (n : Nat) (b3 : Int32) (b4 : Int32) (b5 : Int32) (o : (Int32) ⊕ (Int32)), f_X4_isDone_L19 b1 b2 m n b3 b4 b5 = some o → lxP (hS m) o r h' (fun x => gG V k_X4_isDone 75 [(2, .ref (vB V + (44 + b2))), (3, .int x)] [] (hS m) r h') → gG V k_X4_isDone 19 [(0, .ref (vB V + 184)), (1, .int b1), (2, .ref (vB V + (44 + b2))), (3, .int b3), (4, .int b4), (5, .int b5)] [] (hS m) r h' := by
  intro n
  induction n with
  | zero => intro b3 b4 b5 o hf; cases hf
  | succ n ih =>
    intro b3 b4 b5 o hf hk
    rw [f_X4_isDone_L19] at hf
    refine g_iload 5 dX4_isDone_19 rfl ?_
    refine g_aload_n 0 dX4_isDone_21 rfl rfl ?_
    refine gf_303 dX4_isDone_22 rfl ob_184 rfl ?_
    refine g_icmp_ge (tgt := 75) dX4_isDone_25 (by decide) (fun c10 => ?_) (fun c10 => ?_)
    · replace hf := (if_pos c10).symm.trans hf
      cases hf
      refine g_sub [2, 3] rfl ?_
      exact hk
    · replace hf := (if_neg c10).symm.trans hf
      refine g_aload_n 0 dX4_isDone_28 rfl rfl ?_
      refine gf_302 dX4_isDone_29 rfl ob_184 rfl ?_
      refine g_iload 5 dX4_isDone_32 rfl ?_
      obtain ⟨v3, e4, hf⟩ := bnd_some hf
      refine p_iald dX4_isDone_34 at_185 e4 ?_
      refine g_iload_n 1 dX4_isDone_35 rfl rfl ?_
      refine g_icmp_eq (tgt := 42) dX4_isDone_36 (by decide) (fun c9 => ?_) (fun c9 => ?_)
      · replace hf := (if_pos c9).symm.trans hf
        refine g_iload 4 dX4_isDone_42 rfl ?_
        refine g_bipush (v := -9) dX4_isDone_44 rfl ?_
        refine g_icmp_eq (tgt := 62) dX4_isDone_46 (by decide) (fun c8 => ?_) (fun c8 => ?_)
        · replace hf := (if_pos c8).symm.trans hf
          refine g_iload 5 dX4_isDone_62 rfl ?_
          refine g_istore dX4_isDone_64 (Nat.le_of_ble_eq_true rfl) rfl ?_
          refine g_iinc (q := 4) (v := (b3 + (1 : Int32))) dX4_isDone_66 rfl rfl (Nat.le_of_ble_eq_true rfl) rfl ?_
          refine g_iinc (q := 5) (v := (b5 + (1 : Int32))) dX4_isDone_69 rfl rfl (Nat.le_of_ble_eq_true rfl) rfl ?_
          refine g_goto (tgt := 19) dX4_isDone_72 (by decide) ?_
          refine g_sub [3, 4, 5, 1, 2, 0] rfl ?_
          exact ih (b3 + (1 : Int32)) b5 (b5 + (1 : Int32)) _ hf hk
        · replace hf := (if_neg c8).symm.trans hf
          refine g_aload_n 2 dX4_isDone_49 rfl rfl ?_
          refine g_iload 4 dX4_isDone_50 rfl ?_
          refine g_iload 5 dX4_isDone_52 rfl ?_
          obtain ⟨q5, e6, hf⟩ := bnd_some hf
          refine p_callS (As := [.ref (vB V + (44 + b2)), .int b4, .int b5]) (rest := []) (t_X4_mayFollow hb2 e6) cw_900 w_901 (Nat.le_of_ble_eq_true rfl) rfl rfl (Nat.le_of_ble_eq_true rfl) dX4_isDone_54 ?_
          refine g_if_ne (tgt := 62) dX4_isDone_57 (by decide) (fun c7 => ?_) (fun c7 => ?_)
          · replace hf := (if_neg c7).symm.trans hf
            refine g_iload 5 dX4_isDone_62 rfl ?_
            refine g_istore dX4_isDone_64 (Nat.le_of_ble_eq_true rfl) rfl ?_
            refine g_iinc (q := 4) (v := (b3 + (1 : Int32))) dX4_isDone_66 rfl rfl (Nat.le_of_ble_eq_true rfl) rfl ?_
            refine g_iinc (q := 5) (v := (b5 + (1 : Int32))) dX4_isDone_69 rfl rfl (Nat.le_of_ble_eq_true rfl) rfl ?_
            refine g_goto (tgt := 19) dX4_isDone_72 (by decide) ?_
            refine g_sub [3, 4, 5, 1, 2, 0] rfl ?_
            exact ih (b3 + (1 : Int32)) b5 (b5 + (1 : Int32)) _ hf hk
          · replace hf := (if_pos c7).symm.trans hf
            refine g_iconst (v := 0) dX4_isDone_60 rfl ?_
            cases hf
            obtain ⟨rfl, rfl⟩ := hk
            exact g_iret dX4_isDone_61 .boolean rfl rfl
      · replace hf := (if_neg c9).symm.trans hf
        refine g_goto (tgt := 69) dX4_isDone_39 (by decide) ?_
        refine g_iinc (q := 5) (v := (b5 + (1 : Int32))) dX4_isDone_69 rfl rfl (Nat.le_of_ble_eq_true rfl) rfl ?_
        refine g_goto (tgt := 19) dX4_isDone_72 (by decide) ?_
        refine g_sub [1, 2, 3, 4, 5, 0] rfl ?_
        exact ih b3 b4 (b5 + (1 : Int32)) _ hf hk

set_option maxRecDepth 100000 in
theorem t_X4_isDone {V : eV} {a1 : Int32}  {m : mM} {q : Int32} (hf : f_X4_isDone a1 m = some q) : eE V 1 yX4_isDone cX4_isDone 6 (some .boolean) [.ref (vB V + 184), .int a1] (hS m) (some (.int q)) (hS m) := by
  refine eE_of (by decide) (Nat.le_of_ble_eq_true rfl) ?_
  show gG V k_X4_isDone 0 [(0, .ref (vB V + 184)), (1, .int a1)] [] (hS m) _ _
  unfold f_X4_isDone at hf
  refine g_aload_n 0 dX4_isDone_0 rfl rfl ?_
  refine gf_300 dX4_isDone_1 rfl ob_184 rfl ?_
  refine gf_137 dX4_isDone_4 rfl ob_1 rfl ?_
  refine g_iload_n 1 dX4_isDone_7 rfl rfl ?_
  obtain ⟨j1, e2, hf⟩ := bnd_some hf
  refine p_aald dX4_isDone_8 rt_43 e2 (fun hj1 => ?_)
  refine g_astore_n dX4_isDone_9 rfl (Nat.le_of_ble_eq_true rfl) rfl ?_
  refine g_iconst (v := 0) dX4_isDone_10 rfl ?_
  refine g_istore_n dX4_isDone_11 rfl (Nat.le_of_ble_eq_true rfl) rfl ?_
  refine g_bipush (v := -9) dX4_isDone_12 rfl ?_
  refine g_istore dX4_isDone_14 (Nat.le_of_ble_eq_true rfl) rfl ?_
  refine g_iconst (v := 0) dX4_isDone_16 rfl ?_
  refine g_istore dX4_isDone_17 (Nat.le_of_ble_eq_true rfl) rfl ?_
  refine g_sub [4, 5, 3, 2, 1, 0] rfl ?_
  obtain ⟨o11, e13, hf⟩ := bnd_some hf
  refine t_X4_isDone_L19 (V := V) a1 j1 hj1 m fU (0 : Int32) (-9 : Int32) (0 : Int32) _ e13 ?_
  rcases o11 with zq | x12
  · replace hf := ora_l hf
    cases hf
    exact ⟨rfl, rfl⟩
  · replace hf := ora_r hf
    show gG V _ _ _ _ _ _ _
    refine g_iload_n 1 dX4_isDone_75 rfl rfl ?_
    refine g_aload_n 0 dX4_isDone_76 rfl rfl ?_
    refine g_iconst (v := 2) dX4_isDone_77 rfl ?_
    obtain ⟨v14, e15, hf⟩ := bnd_some hf
    refine p_iald dX4_isDone_78 (ar_44 hj1) e15 ?_
    refine g_icmp_ne (tgt := 86) dX4_isDone_79 (by decide) (fun c16 => ?_) (fun c16 => ?_)
    · replace hf := (if_neg c16).symm.trans hf
      refine g_iconst (v := 0) dX4_isDone_86 rfl ?_
      cases hf
      exact g_iret dX4_isDone_87 .boolean rfl rfl
    · replace hf := (if_pos c16).symm.trans hf
      refine g_iconst (v := 1) dX4_isDone_82 rfl ?_
      refine g_goto (tgt := 87) dX4_isDone_83 (by decide) ?_
      cases hf
      exact g_iret dX4_isDone_87 .boolean rfl rfl

abbrev k_X4_firstNotDone : kX := (cX4_firstNotDone, "WhoseHourItIs$Row", "firstNotDone", some .int, 2, 2)
def f_X4_firstNotDone_L2 (m : mM) : Nat → Int32 → Option ((Int32) ⊕ (Unit))
  | 0, _ => none
  | n + 1, b1 =>
      if (m 1 1) ≤ b1 then (
      some (.inr ()))
      else (
      bnd (f_X4_isDone b1 m) fun q1 =>
      if q1 = 0 then (
      some (.inl b1))
      else (
      f_X4_firstNotDone_L2 m n (b1 + (1 : Int32))))
def f_X4_firstNotDone  (m : mM) : Option (Int32) :=
bnd (f_X4_firstNotDone_L2 m fU (0 : Int32)) fun o5 =>
ora o5 (fun zq => some zq) fun x6 =>
some (-9 : Int32)
set_option maxRecDepth 100000 in
theorem t_X4_firstNotDone_L2 {V : eV} (m : mM) {r : Option Value} {h' : aH} : ∀ (n : Nat) (b1 : Int32) (o : (Int32) ⊕ (Unit)), f_X4_firstNotDone_L2 m n b1 = some o → lxP (hS m) o r h' (fun x => gG V k_X4_firstNotDone 29 [] [] (hS m) r h') → gG V k_X4_firstNotDone 2 [(0, .ref (vB V + 184)), (1, .int b1)] [] (hS m) r h' := by
  intro n
  induction n with
  | zero => intro b1 o hf; cases hf
  | succ n ih =>
    intro b1 o hf hk
    rw [f_X4_firstNotDone_L2] at hf
    refine g_iload_n 1 dX4_firstNotDone_2 rfl rfl ?_
    refine g_aload_n 0 dX4_firstNotDone_3 rfl rfl ?_
    refine gf_300 dX4_firstNotDone_4 rfl ob_184 rfl ?_
    refine gf_100 dX4_firstNotDone_7 rfl ob_1 rfl ?_
    refine g_icmp_ge (tgt := 29) dX4_firstNotDone_10 (by decide) (fun c4 => ?_) (fun c4 => ?_)
    · replace hf := (if_pos c4).symm.trans hf
      cases hf
      refine g_sub [] rfl ?_
      exact hk
    · replace hf := (if_neg c4).symm.trans hf
      refine g_aload_n 0 dX4_firstNotDone_13 rfl rfl ?_
      refine g_iload_n 1 dX4_firstNotDone_14 rfl rfl ?_
      obtain ⟨q1, e2, hf⟩ := bnd_some hf
      refine p_callV (As := [.int b1]) (rest := []) (t_X4_isDone e2) cw_896 w_898 w_21 ob_184 rfl (Nat.le_of_ble_eq_true rfl) rfl rfl (Nat.le_of_ble_eq_true rfl) dX4_firstNotDone_15 ?_
      refine g_if_ne (tgt := 23) dX4_firstNotDone_18 (by decide) (fun c3 => ?_) (fun c3 => ?_)
      · replace hf := (if_neg c3).symm.trans hf
        refine g_iinc (q := 1) (v := (b1 + (1 : Int32))) dX4_firstNotDone_23 rfl rfl (Nat.le_of_ble_eq_true rfl) rfl ?_
        refine g_goto (tgt := 2) dX4_firstNotDone_26 (by decide) ?_
        refine g_sub [1, 0] rfl ?_
        exact ih (b1 + (1 : Int32)) _ hf hk
      · replace hf := (if_pos c3).symm.trans hf
        refine g_iload_n 1 dX4_firstNotDone_21 rfl rfl ?_
        cases hf
        obtain ⟨rfl, rfl⟩ := hk
        exact g_iret dX4_firstNotDone_22 .int rfl rfl

set_option maxRecDepth 100000 in
theorem t_X4_firstNotDone {V : eV}  {m : mM} {q : Int32} (hf : f_X4_firstNotDone  m = some q) : eE V 2 yX4_firstNotDone cX4_firstNotDone 2 (some .int) [.ref (vB V + 184)] (hS m) (some (.int q)) (hS m) := by
  refine eE_of (by decide) (Nat.le_of_ble_eq_true rfl) ?_
  show gG V k_X4_firstNotDone 0 [(0, .ref (vB V + 184))] [] (hS m) _ _
  unfold f_X4_firstNotDone at hf
  refine g_iconst (v := 0) dX4_firstNotDone_0 rfl ?_
  refine g_istore_n dX4_firstNotDone_1 rfl (Nat.le_of_ble_eq_true rfl) rfl ?_
  refine g_sub [1, 0] rfl ?_
  obtain ⟨o5, e7, hf⟩ := bnd_some hf
  refine t_X4_firstNotDone_L2 (V := V) m fU (0 : Int32) _ e7 ?_
  rcases o5 with zq | x6
  · replace hf := ora_l hf
    cases hf
    exact ⟨rfl, rfl⟩
  · replace hf := ora_r hf
    show gG V _ _ _ _ _ _ _
    refine g_bipush (v := -9) dX4_firstNotDone_29 rfl ?_
    cases hf
    exact g_iret dX4_firstNotDone_31 .int rfl rfl

abbrev k_X8_judge : kX := (cX8_judge, "WhoseHourItIs", "judge", some .int, 3, 5)
def f_X8_judge (a1 : Int32) (m : mM) : Option (Int32 × mM) :=
if a1 < 0 then (
bnd (f_X8_refuse (-2 : Int32) m) fun q1 =>
some (q1.1, q1.2))
else (
if a1 ≤ (1 : Int32) then (
if a1 = 0 then (
bnd (f_X4_firstWrongHour m) fun q3 =>
bnd (some (m_up m 184 3 (0 : Int32))) fun m5 =>
some (q3, m5))
else (
bnd (f_X4_firstNotDone m) fun q7 =>
bnd (some (m_up m 184 3 (0 : Int32))) fun m9 =>
some (q7, m9)))
else (
bnd (f_X8_refuse (-2 : Int32) m) fun q12 =>
some (q12.1, q12.2)))
set_option maxRecDepth 100000 in
theorem t_X8_judge {V : eV} {a1 : Int32}  {m : mM} {q : Int32 × mM} (hf : f_X8_judge a1 m = some q) : eE V 5 yX8_judge cX8_judge 3 (some .int) [.ref (vB V + 0), .int a1] (hS m) (some (.int q.1)) (hS q.2) := by
  refine eE_of (by decide) (Nat.le_of_ble_eq_true rfl) ?_
  show gG V k_X8_judge 0 [(0, .ref (vB V + 0)), (1, .int a1)] [] (hS m) _ _
  unfold f_X8_judge at hf
  refine g_iload_n 1 dX8_judge_0 rfl rfl ?_
  refine g_if_lt (tgt := 9) dX8_judge_1 (by decide) (fun c15 => ?_) (fun c15 => ?_)
  · replace hf := (if_pos c15).symm.trans hf
    refine g_aload_n 0 dX8_judge_9 rfl rfl ?_
    refine g_bipush (v := -2) dX8_judge_10 rfl ?_
    obtain ⟨q1, e2, hf⟩ := bnd_some hf
    refine p_callV (As := [.int (-2 : Int32)]) (rest := []) (t_X8_refuse e2) cw_355 w_357 w_0 ob_0 rfl (Nat.le_of_ble_eq_true rfl) rfl rfl (Nat.le_of_ble_eq_true rfl) dX8_judge_12 ?_
    cases hf
    exact g_iret dX8_judge_15 .int rfl rfl
  · replace hf := (if_neg c15).symm.trans hf
    refine g_iload_n 1 dX8_judge_4 rfl rfl ?_
    refine g_iconst (v := 1) dX8_judge_5 rfl ?_
    refine g_icmp_le (tgt := 16) dX8_judge_6 (by decide) (fun c14 => ?_) (fun c14 => ?_)
    · replace hf := (if_pos c14).symm.trans hf
      refine g_iload_n 1 dX8_judge_16 rfl rfl ?_
      refine g_if_ne (tgt := 30) dX8_judge_17 (by decide) (fun c11 => ?_) (fun c11 => ?_)
      · replace hf := (if_neg c11).symm.trans hf
        refine g_aload_n 0 dX8_judge_30 rfl rfl ?_
        refine gf_324 dX8_judge_31 rfl ob_0 rfl ?_
        obtain ⟨q7, e8, hf⟩ := bnd_some hf
        refine p_callV (As := []) (rest := []) (t_X4_firstNotDone e8) cw_892 w_893 w_894 ob_184 rfl (Nat.le_of_ble_eq_true rfl) rfl rfl (Nat.le_of_ble_eq_true rfl) dX8_judge_34 ?_
        refine g_istore_n dX8_judge_37 rfl (Nat.le_of_ble_eq_true rfl) rfl ?_
        refine g_aload_n 1 dX8_judge_38 rfl rfl ?_
        refine gf_324 dX8_judge_39 rfl ob_0 rfl ?_
        refine g_iconst (v := 0) dX8_judge_42 rfl ?_
        obtain ⟨m9, e10, hf⟩ := bnd_some hf
        cases e10
        refine pf_304 dX8_judge_43 rfl ob_184 rfl ?_
        generalize m_up m 184 3 (0 : Int32) = m9 at hf ⊢
        refine g_iload_n 0 dX8_judge_46 rfl rfl ?_
        cases hf
        exact g_iret dX8_judge_47 .int rfl rfl
      · replace hf := (if_pos c11).symm.trans hf
        refine g_aload_n 0 dX8_judge_20 rfl rfl ?_
        refine gf_324 dX8_judge_21 rfl ob_0 rfl ?_
        obtain ⟨q3, e4, hf⟩ := bnd_some hf
        refine p_callV (As := []) (rest := []) (t_X4_firstWrongHour e4) cw_882 w_883 w_884 ob_184 rfl (Nat.le_of_ble_eq_true rfl) rfl rfl (Nat.le_of_ble_eq_true rfl) dX8_judge_24 ?_
        refine g_goto (tgt := 37) dX8_judge_27 (by decide) ?_
        refine g_istore_n dX8_judge_37 rfl (Nat.le_of_ble_eq_true rfl) rfl ?_
        refine g_aload_n 1 dX8_judge_38 rfl rfl ?_
        refine gf_324 dX8_judge_39 rfl ob_0 rfl ?_
        refine g_iconst (v := 0) dX8_judge_42 rfl ?_
        obtain ⟨m5, e6, hf⟩ := bnd_some hf
        cases e6
        refine pf_304 dX8_judge_43 rfl ob_184 rfl ?_
        generalize m_up m 184 3 (0 : Int32) = m5 at hf ⊢
        refine g_iload_n 0 dX8_judge_46 rfl rfl ?_
        cases hf
        exact g_iret dX8_judge_47 .int rfl rfl
    · replace hf := (if_neg c14).symm.trans hf
      refine g_aload_n 0 dX8_judge_9 rfl rfl ?_
      refine g_bipush (v := -2) dX8_judge_10 rfl ?_
      obtain ⟨q12, e13, hf⟩ := bnd_some hf
      refine p_callV (As := [.int (-2 : Int32)]) (rest := []) (t_X8_refuse e13) cw_355 w_357 w_0 ob_0 rfl (Nat.le_of_ble_eq_true rfl) rfl rfl (Nat.le_of_ble_eq_true rfl) dX8_judge_12 ?_
      cases hf
      exact g_iret dX8_judge_15 .int rfl rfl

abbrev k_X7_copyFrom_101_1 : kX := (cX7_copyFrom, "WhoseHourItIs$Town", "copyFrom", none, 3, 1)
def f_X7_copyFrom_101_1_L42 : Nat → Int32 → mM → Option (mM)
  | 0, _, _ => none
  | n + 1, b2, m =>
      if (8 : Int32) ≤ b2 then (
      some m)
      else (
      bnd (ckR 8 b2) fun j11 =>
      bnd (ckR 8 b2) fun j13 =>
      bnd (some (m_cpy m (3 + j11) (103 + j13) 3)) fun m15 =>
      f_X7_copyFrom_101_1_L42 n (b2 + (1 : Int32)) m15)
def f_X7_copyFrom_101_1_L74 : Nat → Int32 → mM → Option (mM)
  | 0, _, _ => none
  | n + 1, b2, m =>
      if (28 : Int32) ≤ b2 then (
      some m)
      else (
      bnd (ckR 28 b2) fun j20 =>
      bnd (ckR 28 b2) fun j22 =>
      bnd (some (m_cpy m (15 + j20) (115 + j22) 3)) fun m24 =>
      f_X7_copyFrom_101_1_L74 n (b2 + (1 : Int32)) m24)
def f_X7_copyFrom_101_1_L106 : Nat → Int32 → mM → Option (mM)
  | 0, _, _ => none
  | n + 1, b2, m =>
      if (6 : Int32) ≤ b2 then (
      some m)
      else (
      bnd (ckR 6 b2) fun j29 =>
      bnd (ckR 6 b2) fun j31 =>
      bnd (some (m_cpy m (44 + j29) (144 + j31) 6)) fun m33 =>
      f_X7_copyFrom_101_1_L106 n (b2 + (1 : Int32)) m33)
def f_X7_copyFrom_101_1  (m : mM) : Option (mM) :=
bnd (some (m_up m 101 0 (m 1 0))) fun m1 =>
bnd (some (m_up m1 101 1 (m1 1 1))) fun m3 =>
bnd (some (m_up m3 101 2 (m3 1 2))) fun m5 =>
bnd (some (m_up m5 101 3 (m5 1 3))) fun m7 =>
bnd (some (m_up m7 101 4 (m7 1 4))) fun m9 =>
bnd (f_X7_copyFrom_101_1_L42 fU (0 : Int32) m9) fun o18 =>
bnd (f_X7_copyFrom_101_1_L74 fU (0 : Int32) o18) fun o27 =>
bnd (f_X7_copyFrom_101_1_L106 fU (0 : Int32) o27) fun o36 =>
bnd (some (m_cpy o36 11 111 8)) fun m38 =>
bnd (some (m_cpy m38 12 112 8)) fun m40 =>
bnd (some (m_cpy m40 13 113 28)) fun m42 =>
bnd (some (m_cpy m42 50 150 4)) fun m44 =>
some m44
set_option maxRecDepth 100000 in
theorem t_X7_copyFrom_101_1_L42 {V : eV} {r : Option Value} {h' : aH} : ∀ (n : Nat) (b2 : Int32) (m : mM) (o : mM), f_X7_copyFrom_101_1_L42 n b2 m = some o → gG V k_X7_copyFrom_101_1 72 [(0, .ref (vB V + 101)), (1, .ref (vB V + 1))] [] (hS o) r h' → gG V k_X7_copyFrom_101_1 42 [(0, .ref (vB V + 101)), (1, .ref (vB V + 1)), (2, .int b2)] [] (hS m) r h' := by
  intro n
  induction n with
  | zero => intro b2 m o hf; cases hf
  | succ n ih =>
    intro b2 m o hf hk
    rw [f_X7_copyFrom_101_1_L42] at hf
    refine g_iload_n 2 dX7_copyFrom_42 rfl rfl ?_
    refine g_bipush (v := 8) dX7_copyFrom_43 rfl ?_
    refine g_icmp_ge (tgt := 72) dX7_copyFrom_45 (by decide) (fun c17 => ?_) (fun c17 => ?_)
    · replace hf := (if_pos c17).symm.trans hf
      cases hf
      refine g_sub [0, 1] rfl ?_
      exact hk
    · replace hf := (if_neg c17).symm.trans hf
      refine g_aload_n 1 dX7_copyFrom_48 rfl rfl ?_
      refine gf_111 dX7_copyFrom_49 rfl ob_1 rfl ?_
      refine g_iload_n 2 dX7_copyFrom_52 rfl rfl ?_
      obtain ⟨j11, e12, hf⟩ := bnd_some hf
      refine p_aald dX7_copyFrom_53 rt_2 e12 (fun hj11 => ?_)
      refine g_iconst (v := 0) dX7_copyFrom_54 rfl ?_
      refine g_aload_n 0 dX7_copyFrom_55 rfl rfl ?_
      refine gf_111 dX7_copyFrom_56 rfl ob_101 rfl ?_
      refine g_iload_n 2 dX7_copyFrom_59 rfl rfl ?_
      obtain ⟨j13, e14, hf⟩ := bnd_some hf
      refine p_aald dX7_copyFrom_60 rt_102 e14 (fun hj13 => ?_)
      refine g_iconst (v := 0) dX7_copyFrom_61 rfl ?_
      refine g_iconst (v := 3) dX7_copyFrom_62 rfl ?_
      obtain ⟨m15, e16, hf⟩ := bnd_some hf
      cases e16
      refine p_copy (N := 3) w_503 w_505 w_504 w_73 dX7_copyFrom_63 (Nat.le_of_ble_eq_true rfl) (ar_3 hj11) (ar_103 hj13) (by decide) rfl (by decide) (by decide) (Nat.le_of_ble_eq_true rfl) ?_
      generalize m_cpy m (3 + j11) (103 + j13) 3 = m15 at hf ⊢
      refine g_iinc (q := 2) (v := (b2 + (1 : Int32))) dX7_copyFrom_66 rfl rfl (Nat.le_of_ble_eq_true rfl) rfl ?_
      refine g_goto (tgt := 42) dX7_copyFrom_69 (by decide) ?_
      refine g_sub [1, 2, 0] rfl ?_
      exact ih (b2 + (1 : Int32)) m15 _ hf hk

set_option maxRecDepth 100000 in
theorem t_X7_copyFrom_101_1_L74 {V : eV} {r : Option Value} {h' : aH} : ∀ (n : Nat) (b2 : Int32) (m : mM) (o : mM), f_X7_copyFrom_101_1_L74 n b2 m = some o → gG V k_X7_copyFrom_101_1 104 [(0, .ref (vB V + 101)), (1, .ref (vB V + 1))] [] (hS o) r h' → gG V k_X7_copyFrom_101_1 74 [(0, .ref (vB V + 101)), (1, .ref (vB V + 1)), (2, .int b2)] [] (hS m) r h' := by
  intro n
  induction n with
  | zero => intro b2 m o hf; cases hf
  | succ n ih =>
    intro b2 m o hf hk
    rw [f_X7_copyFrom_101_1_L74] at hf
    refine g_iload_n 2 dX7_copyFrom_74 rfl rfl ?_
    refine g_bipush (v := 28) dX7_copyFrom_75 rfl ?_
    refine g_icmp_ge (tgt := 104) dX7_copyFrom_77 (by decide) (fun c26 => ?_) (fun c26 => ?_)
    · replace hf := (if_pos c26).symm.trans hf
      cases hf
      refine g_sub [0, 1] rfl ?_
      exact hk
    · replace hf := (if_neg c26).symm.trans hf
      refine g_aload_n 1 dX7_copyFrom_80 rfl rfl ?_
      refine gf_127 dX7_copyFrom_81 rfl ob_1 rfl ?_
      refine g_iload_n 2 dX7_copyFrom_84 rfl rfl ?_
      obtain ⟨j20, e21, hf⟩ := bnd_some hf
      refine p_aald dX7_copyFrom_85 rt_14 e21 (fun hj20 => ?_)
      refine g_iconst (v := 0) dX7_copyFrom_86 rfl ?_
      refine g_aload_n 0 dX7_copyFrom_87 rfl rfl ?_
      refine gf_127 dX7_copyFrom_88 rfl ob_101 rfl ?_
      refine g_iload_n 2 dX7_copyFrom_91 rfl rfl ?_
      obtain ⟨j22, e23, hf⟩ := bnd_some hf
      refine p_aald dX7_copyFrom_92 rt_114 e23 (fun hj22 => ?_)
      refine g_iconst (v := 0) dX7_copyFrom_93 rfl ?_
      refine g_iconst (v := 3) dX7_copyFrom_94 rfl ?_
      obtain ⟨m24, e25, hf⟩ := bnd_some hf
      cases e25
      refine p_copy (N := 3) w_503 w_505 w_504 w_73 dX7_copyFrom_95 (Nat.le_of_ble_eq_true rfl) (ar_15 hj20) (ar_115 hj22) (by decide) rfl (by decide) (by decide) (Nat.le_of_ble_eq_true rfl) ?_
      generalize m_cpy m (15 + j20) (115 + j22) 3 = m24 at hf ⊢
      refine g_iinc (q := 2) (v := (b2 + (1 : Int32))) dX7_copyFrom_98 rfl rfl (Nat.le_of_ble_eq_true rfl) rfl ?_
      refine g_goto (tgt := 74) dX7_copyFrom_101 (by decide) ?_
      refine g_sub [1, 2, 0] rfl ?_
      exact ih (b2 + (1 : Int32)) m24 _ hf hk

set_option maxRecDepth 100000 in
theorem t_X7_copyFrom_101_1_L106 {V : eV} {r : Option Value} {h' : aH} : ∀ (n : Nat) (b2 : Int32) (m : mM) (o : mM), f_X7_copyFrom_101_1_L106 n b2 m = some o → gG V k_X7_copyFrom_101_1 137 [(0, .ref (vB V + 101)), (1, .ref (vB V + 1))] [] (hS o) r h' → gG V k_X7_copyFrom_101_1 106 [(0, .ref (vB V + 101)), (1, .ref (vB V + 1)), (2, .int b2)] [] (hS m) r h' := by
  intro n
  induction n with
  | zero => intro b2 m o hf; cases hf
  | succ n ih =>
    intro b2 m o hf hk
    rw [f_X7_copyFrom_101_1_L106] at hf
    refine g_iload_n 2 dX7_copyFrom_106 rfl rfl ?_
    refine g_bipush (v := 6) dX7_copyFrom_107 rfl ?_
    refine g_icmp_ge (tgt := 137) dX7_copyFrom_109 (by decide) (fun c35 => ?_) (fun c35 => ?_)
    · replace hf := (if_pos c35).symm.trans hf
      cases hf
      refine g_sub [0, 1] rfl ?_
      exact hk
    · replace hf := (if_neg c35).symm.trans hf
      refine g_aload_n 1 dX7_copyFrom_112 rfl rfl ?_
      refine gf_131 dX7_copyFrom_113 rfl ob_1 rfl ?_
      refine g_iload_n 2 dX7_copyFrom_116 rfl rfl ?_
      obtain ⟨j29, e30, hf⟩ := bnd_some hf
      refine p_aald dX7_copyFrom_117 rt_43 e30 (fun hj29 => ?_)
      refine g_iconst (v := 0) dX7_copyFrom_118 rfl ?_
      refine g_aload_n 0 dX7_copyFrom_119 rfl rfl ?_
      refine gf_131 dX7_copyFrom_120 rfl ob_101 rfl ?_
      refine g_iload_n 2 dX7_copyFrom_123 rfl rfl ?_
      obtain ⟨j31, e32, hf⟩ := bnd_some hf
      refine p_aald dX7_copyFrom_124 rt_143 e32 (fun hj31 => ?_)
      refine g_iconst (v := 0) dX7_copyFrom_125 rfl ?_
      refine g_bipush (v := 6) dX7_copyFrom_126 rfl ?_
      obtain ⟨m33, e34, hf⟩ := bnd_some hf
      cases e34
      refine p_copy (N := 6) w_503 w_505 w_504 w_73 dX7_copyFrom_128 (Nat.le_of_ble_eq_true rfl) (ar_44 hj29) (ar_144 hj31) (by decide) rfl (by decide) (by decide) (Nat.le_of_ble_eq_true rfl) ?_
      generalize m_cpy m (44 + j29) (144 + j31) 6 = m33 at hf ⊢
      refine g_iinc (q := 2) (v := (b2 + (1 : Int32))) dX7_copyFrom_131 rfl rfl (Nat.le_of_ble_eq_true rfl) rfl ?_
      refine g_goto (tgt := 106) dX7_copyFrom_134 (by decide) ?_
      refine g_sub [1, 2, 0] rfl ?_
      exact ih (b2 + (1 : Int32)) m33 _ hf hk

set_option maxRecDepth 100000 in
theorem t_X7_copyFrom_101_1 {V : eV}  {m : mM} {q : mM} (hf : f_X7_copyFrom_101_1  m = some q) : eE V 1 yX7_copyFrom cX7_copyFrom 3 (none) [.ref (vB V + 101), .ref (vB V + 1)] (hS m) none (hS q) := by
  refine eE_of (by decide) (Nat.le_of_ble_eq_true rfl) ?_
  show gG V k_X7_copyFrom_101_1 0 [(0, .ref (vB V + 101)), (1, .ref (vB V + 1))] [] (hS m) _ _
  unfold f_X7_copyFrom_101_1 at hf
  refine g_aload_n 0 dX7_copyFrom_0 rfl rfl ?_
  refine g_aload_n 1 dX7_copyFrom_1 rfl rfl ?_
  refine gf_91 dX7_copyFrom_2 rfl ob_1 rfl ?_
  obtain ⟨m1, e2, hf⟩ := bnd_some hf
  cases e2
  refine pf_91 dX7_copyFrom_5 rfl ob_101 rfl ?_
  generalize m_up m 101 0 (m 1 0) = m1 at hf ⊢
  refine g_aload_n 0 dX7_copyFrom_8 rfl rfl ?_
  refine g_aload_n 1 dX7_copyFrom_9 rfl rfl ?_
  refine gf_97 dX7_copyFrom_10 rfl ob_1 rfl ?_
  obtain ⟨m3, e4, hf⟩ := bnd_some hf
  cases e4
  refine pf_97 dX7_copyFrom_13 rfl ob_101 rfl ?_
  generalize m_up m1 101 1 (m1 1 1) = m3 at hf ⊢
  refine g_aload_n 0 dX7_copyFrom_16 rfl rfl ?_
  refine g_aload_n 1 dX7_copyFrom_17 rfl rfl ?_
  refine gf_103 dX7_copyFrom_18 rfl ob_1 rfl ?_
  obtain ⟨m5, e6, hf⟩ := bnd_some hf
  cases e6
  refine pf_103 dX7_copyFrom_21 rfl ob_101 rfl ?_
  generalize m_up m3 101 2 (m3 1 2) = m5 at hf ⊢
  refine g_aload_n 0 dX7_copyFrom_24 rfl rfl ?_
  refine g_aload_n 1 dX7_copyFrom_25 rfl rfl ?_
  refine gf_107 dX7_copyFrom_26 rfl ob_1 rfl ?_
  obtain ⟨m7, e8, hf⟩ := bnd_some hf
  cases e8
  refine pf_107 dX7_copyFrom_29 rfl ob_101 rfl ?_
  generalize m_up m5 101 3 (m5 1 3) = m7 at hf ⊢
  refine g_aload_n 0 dX7_copyFrom_32 rfl rfl ?_
  refine g_aload_n 1 dX7_copyFrom_33 rfl rfl ?_
  refine gf_109 dX7_copyFrom_34 rfl ob_1 rfl ?_
  obtain ⟨m9, e10, hf⟩ := bnd_some hf
  cases e10
  refine pf_109 dX7_copyFrom_37 rfl ob_101 rfl ?_
  generalize m_up m7 101 4 (m7 1 4) = m9 at hf ⊢
  refine g_iconst (v := 0) dX7_copyFrom_40 rfl ?_
  refine g_istore_n dX7_copyFrom_41 rfl (Nat.le_of_ble_eq_true rfl) rfl ?_
  refine g_sub [1, 2, 0] rfl ?_
  obtain ⟨o18, e19, hf⟩ := bnd_some hf
  refine t_X7_copyFrom_101_1_L42 (V := V) fU (0 : Int32) m9 _ e19 ?_
  refine g_iconst (v := 0) dX7_copyFrom_72 rfl ?_
  refine g_istore_n dX7_copyFrom_73 rfl (Nat.le_of_ble_eq_true rfl) rfl ?_
  refine g_sub [1, 2, 0] rfl ?_
  obtain ⟨o27, e28, hf⟩ := bnd_some hf
  refine t_X7_copyFrom_101_1_L74 (V := V) fU (0 : Int32) o18 _ e28 ?_
  refine g_iconst (v := 0) dX7_copyFrom_104 rfl ?_
  refine g_istore_n dX7_copyFrom_105 rfl (Nat.le_of_ble_eq_true rfl) rfl ?_
  refine g_sub [1, 2, 0] rfl ?_
  obtain ⟨o36, e37, hf⟩ := bnd_some hf
  refine t_X7_copyFrom_101_1_L106 (V := V) fU (0 : Int32) o27 _ e37 ?_
  refine g_aload_n 1 dX7_copyFrom_137 rfl rfl ?_
  refine gf_115 dX7_copyFrom_138 rfl ob_1 rfl ?_
  refine g_iconst (v := 0) dX7_copyFrom_141 rfl ?_
  refine g_aload_n 0 dX7_copyFrom_142 rfl rfl ?_
  refine gf_115 dX7_copyFrom_143 rfl ob_101 rfl ?_
  refine g_iconst (v := 0) dX7_copyFrom_146 rfl ?_
  refine g_bipush (v := 8) dX7_copyFrom_147 rfl ?_
  obtain ⟨m38, e39, hf⟩ := bnd_some hf
  cases e39
  refine p_copy (N := 8) w_503 w_505 w_504 w_73 dX7_copyFrom_149 (Nat.le_of_ble_eq_true rfl) at_11 at_111 (by decide) rfl (by decide) (by decide) (Nat.le_of_ble_eq_true rfl) ?_
  generalize m_cpy o36 11 111 8 = m38 at hf ⊢
  refine g_aload_n 1 dX7_copyFrom_152 rfl rfl ?_
  refine gf_119 dX7_copyFrom_153 rfl ob_1 rfl ?_
  refine g_iconst (v := 0) dX7_copyFrom_156 rfl ?_
  refine g_aload_n 0 dX7_copyFrom_157 rfl rfl ?_
  refine gf_119 dX7_copyFrom_158 rfl ob_101 rfl ?_
  refine g_iconst (v := 0) dX7_copyFrom_161 rfl ?_
  refine g_bipush (v := 8) dX7_copyFrom_162 rfl ?_
  obtain ⟨m40, e41, hf⟩ := bnd_some hf
  cases e41
  refine p_copy (N := 8) w_503 w_505 w_504 w_73 dX7_copyFrom_164 (Nat.le_of_ble_eq_true rfl) at_12 at_112 (by decide) rfl (by decide) (by decide) (Nat.le_of_ble_eq_true rfl) ?_
  generalize m_cpy m38 12 112 8 = m40 at hf ⊢
  refine g_aload_n 1 dX7_copyFrom_167 rfl rfl ?_
  refine gf_122 dX7_copyFrom_168 rfl ob_1 rfl ?_
  refine g_iconst (v := 0) dX7_copyFrom_171 rfl ?_
  refine g_aload_n 0 dX7_copyFrom_172 rfl rfl ?_
  refine gf_122 dX7_copyFrom_173 rfl ob_101 rfl ?_
  refine g_iconst (v := 0) dX7_copyFrom_176 rfl ?_
  refine g_bipush (v := 28) dX7_copyFrom_177 rfl ?_
  obtain ⟨m42, e43, hf⟩ := bnd_some hf
  cases e43
  refine p_copy (N := 28) w_503 w_505 w_504 w_73 dX7_copyFrom_179 (Nat.le_of_ble_eq_true rfl) at_13 at_113 (by decide) rfl (by decide) (by decide) (Nat.le_of_ble_eq_true rfl) ?_
  generalize m_cpy m40 13 113 28 = m42 at hf ⊢
  refine g_aload_n 1 dX7_copyFrom_182 rfl rfl ?_
  refine gf_139 dX7_copyFrom_183 rfl ob_1 rfl ?_
  refine g_iconst (v := 0) dX7_copyFrom_186 rfl ?_
  refine g_aload_n 0 dX7_copyFrom_187 rfl rfl ?_
  refine gf_139 dX7_copyFrom_188 rfl ob_101 rfl ?_
  refine g_iconst (v := 0) dX7_copyFrom_191 rfl ?_
  refine g_iconst (v := 4) dX7_copyFrom_192 rfl ?_
  obtain ⟨m44, e45, hf⟩ := bnd_some hf
  cases e45
  refine p_copy (N := 4) w_503 w_505 w_504 w_73 dX7_copyFrom_193 (Nat.le_of_ble_eq_true rfl) at_50 at_150 (by decide) rfl (by decide) (by decide) (Nat.le_of_ble_eq_true rfl) ?_
  generalize m_cpy m42 50 150 4 = m44 at hf ⊢
  cases hf
  exact g_vret dX7_copyFrom_196 rfl

abbrev k_X8_image : kX := (cX8_image, "WhoseHourItIs", "image", some .int, 1, 2)
def f_X8_image  (m : mM) : Option (Int32 × mM) :=
bnd (f_X7_copyFrom_101_1 m) fun q1 =>
bnd (some (m_up q1 0 3 (1 : Int32))) fun m3 =>
some ((m3 101 0), m3)
set_option maxRecDepth 100000 in
theorem t_X8_image {V : eV}  {m : mM} {q : Int32 × mM} (hf : f_X8_image  m = some q) : eE V 2 yX8_image cX8_image 1 (some .int) [.ref (vB V + 0)] (hS m) (some (.int q.1)) (hS q.2) := by
  refine eE_of (by decide) (Nat.le_of_ble_eq_true rfl) ?_
  show gG V k_X8_image 0 [(0, .ref (vB V + 0))] [] (hS m) _ _
  unfold f_X8_image at hf
  refine g_aload_n 0 dX8_image_0 rfl rfl ?_
  refine gf_316 dX8_image_1 rfl ob_0 rfl ?_
  refine g_aload_n 0 dX8_image_4 rfl rfl ?_
  refine gf_314 dX8_image_5 rfl ob_0 rfl ?_
  obtain ⟨q1, e2, hf⟩ := bnd_some hf
  refine p_callVv (As := [.ref (vB V + 1)]) (rest := []) (t_X7_copyFrom_101_1 e2) cw_499 w_500 w_501 ob_101 rfl (Nat.le_of_ble_eq_true rfl) rfl rfl (Nat.le_of_ble_eq_true rfl) dX8_image_8 ?_
  refine g_aload_n 0 dX8_image_11 rfl rfl ?_
  refine g_iconst (v := 1) dX8_image_12 rfl ?_
  obtain ⟨m3, e4, hf⟩ := bnd_some hf
  cases e4
  refine pf_317 dX8_image_13 rfl ob_0 rfl rfl rfl ?_
  generalize m_up q1 0 3 (1 : Int32) = m3 at hf ⊢
  refine g_aload_n 0 dX8_image_16 rfl rfl ?_
  refine gf_316 dX8_image_17 rfl ob_0 rfl ?_
  refine gf_95 dX8_image_20 rfl ob_101 rfl ?_
  cases hf
  exact g_iret dX8_image_23 .int rfl rfl

abbrev k_X7_copyFrom_1_101 : kX := (cX7_copyFrom, "WhoseHourItIs$Town", "copyFrom", none, 3, 1)
def f_X7_copyFrom_1_101_L42 : Nat → Int32 → mM → Option (mM)
  | 0, _, _ => none
  | n + 1, b2, m =>
      if (8 : Int32) ≤ b2 then (
      some m)
      else (
      bnd (ckR 8 b2) fun j11 =>
      bnd (ckR 8 b2) fun j13 =>
      bnd (some (m_cpy m (103 + j11) (3 + j13) 3)) fun m15 =>
      f_X7_copyFrom_1_101_L42 n (b2 + (1 : Int32)) m15)
def f_X7_copyFrom_1_101_L74 : Nat → Int32 → mM → Option (mM)
  | 0, _, _ => none
  | n + 1, b2, m =>
      if (28 : Int32) ≤ b2 then (
      some m)
      else (
      bnd (ckR 28 b2) fun j20 =>
      bnd (ckR 28 b2) fun j22 =>
      bnd (some (m_cpy m (115 + j20) (15 + j22) 3)) fun m24 =>
      f_X7_copyFrom_1_101_L74 n (b2 + (1 : Int32)) m24)
def f_X7_copyFrom_1_101_L106 : Nat → Int32 → mM → Option (mM)
  | 0, _, _ => none
  | n + 1, b2, m =>
      if (6 : Int32) ≤ b2 then (
      some m)
      else (
      bnd (ckR 6 b2) fun j29 =>
      bnd (ckR 6 b2) fun j31 =>
      bnd (some (m_cpy m (144 + j29) (44 + j31) 6)) fun m33 =>
      f_X7_copyFrom_1_101_L106 n (b2 + (1 : Int32)) m33)
def f_X7_copyFrom_1_101  (m : mM) : Option (mM) :=
bnd (some (m_up m 1 0 (m 101 0))) fun m1 =>
bnd (some (m_up m1 1 1 (m1 101 1))) fun m3 =>
bnd (some (m_up m3 1 2 (m3 101 2))) fun m5 =>
bnd (some (m_up m5 1 3 (m5 101 3))) fun m7 =>
bnd (some (m_up m7 1 4 (m7 101 4))) fun m9 =>
bnd (f_X7_copyFrom_1_101_L42 fU (0 : Int32) m9) fun o18 =>
bnd (f_X7_copyFrom_1_101_L74 fU (0 : Int32) o18) fun o27 =>
bnd (f_X7_copyFrom_1_101_L106 fU (0 : Int32) o27) fun o36 =>
bnd (some (m_cpy o36 111 11 8)) fun m38 =>
bnd (some (m_cpy m38 112 12 8)) fun m40 =>
bnd (some (m_cpy m40 113 13 28)) fun m42 =>
bnd (some (m_cpy m42 150 50 4)) fun m44 =>
some m44
set_option maxRecDepth 100000 in
theorem t_X7_copyFrom_1_101_L42 {V : eV} {r : Option Value} {h' : aH} : ∀ (n : Nat) (b2 : Int32) (m : mM) (o : mM), f_X7_copyFrom_1_101_L42 n b2 m = some o → gG V k_X7_copyFrom_1_101 72 [(0, .ref (vB V + 1)), (1, .ref (vB V + 101))] [] (hS o) r h' → gG V k_X7_copyFrom_1_101 42 [(0, .ref (vB V + 1)), (1, .ref (vB V + 101)), (2, .int b2)] [] (hS m) r h' := by
  intro n
  induction n with
  | zero => intro b2 m o hf; cases hf
  | succ n ih =>
    intro b2 m o hf hk
    rw [f_X7_copyFrom_1_101_L42] at hf
    refine g_iload_n 2 dX7_copyFrom_42 rfl rfl ?_
    refine g_bipush (v := 8) dX7_copyFrom_43 rfl ?_
    refine g_icmp_ge (tgt := 72) dX7_copyFrom_45 (by decide) (fun c17 => ?_) (fun c17 => ?_)
    · replace hf := (if_pos c17).symm.trans hf
      cases hf
      refine g_sub [0, 1] rfl ?_
      exact hk
    · replace hf := (if_neg c17).symm.trans hf
      refine g_aload_n 1 dX7_copyFrom_48 rfl rfl ?_
      refine gf_111 dX7_copyFrom_49 rfl ob_101 rfl ?_
      refine g_iload_n 2 dX7_copyFrom_52 rfl rfl ?_
      obtain ⟨j11, e12, hf⟩ := bnd_some hf
      refine p_aald dX7_copyFrom_53 rt_102 e12 (fun hj11 => ?_)
      refine g_iconst (v := 0) dX7_copyFrom_54 rfl ?_
      refine g_aload_n 0 dX7_copyFrom_55 rfl rfl ?_
      refine gf_111 dX7_copyFrom_56 rfl ob_1 rfl ?_
      refine g_iload_n 2 dX7_copyFrom_59 rfl rfl ?_
      obtain ⟨j13, e14, hf⟩ := bnd_some hf
      refine p_aald dX7_copyFrom_60 rt_2 e14 (fun hj13 => ?_)
      refine g_iconst (v := 0) dX7_copyFrom_61 rfl ?_
      refine g_iconst (v := 3) dX7_copyFrom_62 rfl ?_
      obtain ⟨m15, e16, hf⟩ := bnd_some hf
      cases e16
      refine p_copy (N := 3) w_503 w_505 w_504 w_73 dX7_copyFrom_63 (Nat.le_of_ble_eq_true rfl) (ar_103 hj11) (ar_3 hj13) (by decide) rfl (by decide) (by decide) (Nat.le_of_ble_eq_true rfl) ?_
      generalize m_cpy m (103 + j11) (3 + j13) 3 = m15 at hf ⊢
      refine g_iinc (q := 2) (v := (b2 + (1 : Int32))) dX7_copyFrom_66 rfl rfl (Nat.le_of_ble_eq_true rfl) rfl ?_
      refine g_goto (tgt := 42) dX7_copyFrom_69 (by decide) ?_
      refine g_sub [1, 2, 0] rfl ?_
      exact ih (b2 + (1 : Int32)) m15 _ hf hk

set_option maxRecDepth 100000 in
theorem t_X7_copyFrom_1_101_L74 {V : eV} {r : Option Value} {h' : aH} : ∀ (n : Nat) (b2 : Int32) (m : mM) (o : mM), f_X7_copyFrom_1_101_L74 n b2 m = some o → gG V k_X7_copyFrom_1_101 104 [(0, .ref (vB V + 1)), (1, .ref (vB V + 101))] [] (hS o) r h' → gG V k_X7_copyFrom_1_101 74 [(0, .ref (vB V + 1)), (1, .ref (vB V + 101)), (2, .int b2)] [] (hS m) r h' := by
  intro n
  induction n with
  | zero => intro b2 m o hf; cases hf
  | succ n ih =>
    intro b2 m o hf hk
    rw [f_X7_copyFrom_1_101_L74] at hf
    refine g_iload_n 2 dX7_copyFrom_74 rfl rfl ?_
    refine g_bipush (v := 28) dX7_copyFrom_75 rfl ?_
    refine g_icmp_ge (tgt := 104) dX7_copyFrom_77 (by decide) (fun c26 => ?_) (fun c26 => ?_)
    · replace hf := (if_pos c26).symm.trans hf
      cases hf
      refine g_sub [0, 1] rfl ?_
      exact hk
    · replace hf := (if_neg c26).symm.trans hf
      refine g_aload_n 1 dX7_copyFrom_80 rfl rfl ?_
      refine gf_127 dX7_copyFrom_81 rfl ob_101 rfl ?_
      refine g_iload_n 2 dX7_copyFrom_84 rfl rfl ?_
      obtain ⟨j20, e21, hf⟩ := bnd_some hf
      refine p_aald dX7_copyFrom_85 rt_114 e21 (fun hj20 => ?_)
      refine g_iconst (v := 0) dX7_copyFrom_86 rfl ?_
      refine g_aload_n 0 dX7_copyFrom_87 rfl rfl ?_
      refine gf_127 dX7_copyFrom_88 rfl ob_1 rfl ?_
      refine g_iload_n 2 dX7_copyFrom_91 rfl rfl ?_
      obtain ⟨j22, e23, hf⟩ := bnd_some hf
      refine p_aald dX7_copyFrom_92 rt_14 e23 (fun hj22 => ?_)
      refine g_iconst (v := 0) dX7_copyFrom_93 rfl ?_
      refine g_iconst (v := 3) dX7_copyFrom_94 rfl ?_
      obtain ⟨m24, e25, hf⟩ := bnd_some hf
      cases e25
      refine p_copy (N := 3) w_503 w_505 w_504 w_73 dX7_copyFrom_95 (Nat.le_of_ble_eq_true rfl) (ar_115 hj20) (ar_15 hj22) (by decide) rfl (by decide) (by decide) (Nat.le_of_ble_eq_true rfl) ?_
      generalize m_cpy m (115 + j20) (15 + j22) 3 = m24 at hf ⊢
      refine g_iinc (q := 2) (v := (b2 + (1 : Int32))) dX7_copyFrom_98 rfl rfl (Nat.le_of_ble_eq_true rfl) rfl ?_
      refine g_goto (tgt := 74) dX7_copyFrom_101 (by decide) ?_
      refine g_sub [1, 2, 0] rfl ?_
      exact ih (b2 + (1 : Int32)) m24 _ hf hk

set_option maxRecDepth 100000 in
theorem t_X7_copyFrom_1_101_L106 {V : eV} {r : Option Value} {h' : aH} : ∀ (n : Nat) (b2 : Int32) (m : mM) (o : mM), f_X7_copyFrom_1_101_L106 n b2 m = some o → gG V k_X7_copyFrom_1_101 137 [(0, .ref (vB V + 1)), (1, .ref (vB V + 101))] [] (hS o) r h' → gG V k_X7_copyFrom_1_101 106 [(0, .ref (vB V + 1)), (1, .ref (vB V + 101)), (2, .int b2)] [] (hS m) r h' := by
  intro n
  induction n with
  | zero => intro b2 m o hf; cases hf
  | succ n ih =>
    intro b2 m o hf hk
    rw [f_X7_copyFrom_1_101_L106] at hf
    refine g_iload_n 2 dX7_copyFrom_106 rfl rfl ?_
    refine g_bipush (v := 6) dX7_copyFrom_107 rfl ?_
    refine g_icmp_ge (tgt := 137) dX7_copyFrom_109 (by decide) (fun c35 => ?_) (fun c35 => ?_)
    · replace hf := (if_pos c35).symm.trans hf
      cases hf
      refine g_sub [0, 1] rfl ?_
      exact hk
    · replace hf := (if_neg c35).symm.trans hf
      refine g_aload_n 1 dX7_copyFrom_112 rfl rfl ?_
      refine gf_131 dX7_copyFrom_113 rfl ob_101 rfl ?_
      refine g_iload_n 2 dX7_copyFrom_116 rfl rfl ?_
      obtain ⟨j29, e30, hf⟩ := bnd_some hf
      refine p_aald dX7_copyFrom_117 rt_143 e30 (fun hj29 => ?_)
      refine g_iconst (v := 0) dX7_copyFrom_118 rfl ?_
      refine g_aload_n 0 dX7_copyFrom_119 rfl rfl ?_
      refine gf_131 dX7_copyFrom_120 rfl ob_1 rfl ?_
      refine g_iload_n 2 dX7_copyFrom_123 rfl rfl ?_
      obtain ⟨j31, e32, hf⟩ := bnd_some hf
      refine p_aald dX7_copyFrom_124 rt_43 e32 (fun hj31 => ?_)
      refine g_iconst (v := 0) dX7_copyFrom_125 rfl ?_
      refine g_bipush (v := 6) dX7_copyFrom_126 rfl ?_
      obtain ⟨m33, e34, hf⟩ := bnd_some hf
      cases e34
      refine p_copy (N := 6) w_503 w_505 w_504 w_73 dX7_copyFrom_128 (Nat.le_of_ble_eq_true rfl) (ar_144 hj29) (ar_44 hj31) (by decide) rfl (by decide) (by decide) (Nat.le_of_ble_eq_true rfl) ?_
      generalize m_cpy m (144 + j29) (44 + j31) 6 = m33 at hf ⊢
      refine g_iinc (q := 2) (v := (b2 + (1 : Int32))) dX7_copyFrom_131 rfl rfl (Nat.le_of_ble_eq_true rfl) rfl ?_
      refine g_goto (tgt := 106) dX7_copyFrom_134 (by decide) ?_
      refine g_sub [1, 2, 0] rfl ?_
      exact ih (b2 + (1 : Int32)) m33 _ hf hk

set_option maxRecDepth 100000 in
theorem t_X7_copyFrom_1_101 {V : eV}  {m : mM} {q : mM} (hf : f_X7_copyFrom_1_101  m = some q) : eE V 1 yX7_copyFrom cX7_copyFrom 3 (none) [.ref (vB V + 1), .ref (vB V + 101)] (hS m) none (hS q) := by
  refine eE_of (by decide) (Nat.le_of_ble_eq_true rfl) ?_
  show gG V k_X7_copyFrom_1_101 0 [(0, .ref (vB V + 1)), (1, .ref (vB V + 101))] [] (hS m) _ _
  unfold f_X7_copyFrom_1_101 at hf
  refine g_aload_n 0 dX7_copyFrom_0 rfl rfl ?_
  refine g_aload_n 1 dX7_copyFrom_1 rfl rfl ?_
  refine gf_91 dX7_copyFrom_2 rfl ob_101 rfl ?_
  obtain ⟨m1, e2, hf⟩ := bnd_some hf
  cases e2
  refine pf_91 dX7_copyFrom_5 rfl ob_1 rfl ?_
  generalize m_up m 1 0 (m 101 0) = m1 at hf ⊢
  refine g_aload_n 0 dX7_copyFrom_8 rfl rfl ?_
  refine g_aload_n 1 dX7_copyFrom_9 rfl rfl ?_
  refine gf_97 dX7_copyFrom_10 rfl ob_101 rfl ?_
  obtain ⟨m3, e4, hf⟩ := bnd_some hf
  cases e4
  refine pf_97 dX7_copyFrom_13 rfl ob_1 rfl ?_
  generalize m_up m1 1 1 (m1 101 1) = m3 at hf ⊢
  refine g_aload_n 0 dX7_copyFrom_16 rfl rfl ?_
  refine g_aload_n 1 dX7_copyFrom_17 rfl rfl ?_
  refine gf_103 dX7_copyFrom_18 rfl ob_101 rfl ?_
  obtain ⟨m5, e6, hf⟩ := bnd_some hf
  cases e6
  refine pf_103 dX7_copyFrom_21 rfl ob_1 rfl ?_
  generalize m_up m3 1 2 (m3 101 2) = m5 at hf ⊢
  refine g_aload_n 0 dX7_copyFrom_24 rfl rfl ?_
  refine g_aload_n 1 dX7_copyFrom_25 rfl rfl ?_
  refine gf_107 dX7_copyFrom_26 rfl ob_101 rfl ?_
  obtain ⟨m7, e8, hf⟩ := bnd_some hf
  cases e8
  refine pf_107 dX7_copyFrom_29 rfl ob_1 rfl ?_
  generalize m_up m5 1 3 (m5 101 3) = m7 at hf ⊢
  refine g_aload_n 0 dX7_copyFrom_32 rfl rfl ?_
  refine g_aload_n 1 dX7_copyFrom_33 rfl rfl ?_
  refine gf_109 dX7_copyFrom_34 rfl ob_101 rfl ?_
  obtain ⟨m9, e10, hf⟩ := bnd_some hf
  cases e10
  refine pf_109 dX7_copyFrom_37 rfl ob_1 rfl ?_
  generalize m_up m7 1 4 (m7 101 4) = m9 at hf ⊢
  refine g_iconst (v := 0) dX7_copyFrom_40 rfl ?_
  refine g_istore_n dX7_copyFrom_41 rfl (Nat.le_of_ble_eq_true rfl) rfl ?_
  refine g_sub [1, 2, 0] rfl ?_
  obtain ⟨o18, e19, hf⟩ := bnd_some hf
  refine t_X7_copyFrom_1_101_L42 (V := V) fU (0 : Int32) m9 _ e19 ?_
  refine g_iconst (v := 0) dX7_copyFrom_72 rfl ?_
  refine g_istore_n dX7_copyFrom_73 rfl (Nat.le_of_ble_eq_true rfl) rfl ?_
  refine g_sub [1, 2, 0] rfl ?_
  obtain ⟨o27, e28, hf⟩ := bnd_some hf
  refine t_X7_copyFrom_1_101_L74 (V := V) fU (0 : Int32) o18 _ e28 ?_
  refine g_iconst (v := 0) dX7_copyFrom_104 rfl ?_
  refine g_istore_n dX7_copyFrom_105 rfl (Nat.le_of_ble_eq_true rfl) rfl ?_
  refine g_sub [1, 2, 0] rfl ?_
  obtain ⟨o36, e37, hf⟩ := bnd_some hf
  refine t_X7_copyFrom_1_101_L106 (V := V) fU (0 : Int32) o27 _ e37 ?_
  refine g_aload_n 1 dX7_copyFrom_137 rfl rfl ?_
  refine gf_115 dX7_copyFrom_138 rfl ob_101 rfl ?_
  refine g_iconst (v := 0) dX7_copyFrom_141 rfl ?_
  refine g_aload_n 0 dX7_copyFrom_142 rfl rfl ?_
  refine gf_115 dX7_copyFrom_143 rfl ob_1 rfl ?_
  refine g_iconst (v := 0) dX7_copyFrom_146 rfl ?_
  refine g_bipush (v := 8) dX7_copyFrom_147 rfl ?_
  obtain ⟨m38, e39, hf⟩ := bnd_some hf
  cases e39
  refine p_copy (N := 8) w_503 w_505 w_504 w_73 dX7_copyFrom_149 (Nat.le_of_ble_eq_true rfl) at_111 at_11 (by decide) rfl (by decide) (by decide) (Nat.le_of_ble_eq_true rfl) ?_
  generalize m_cpy o36 111 11 8 = m38 at hf ⊢
  refine g_aload_n 1 dX7_copyFrom_152 rfl rfl ?_
  refine gf_119 dX7_copyFrom_153 rfl ob_101 rfl ?_
  refine g_iconst (v := 0) dX7_copyFrom_156 rfl ?_
  refine g_aload_n 0 dX7_copyFrom_157 rfl rfl ?_
  refine gf_119 dX7_copyFrom_158 rfl ob_1 rfl ?_
  refine g_iconst (v := 0) dX7_copyFrom_161 rfl ?_
  refine g_bipush (v := 8) dX7_copyFrom_162 rfl ?_
  obtain ⟨m40, e41, hf⟩ := bnd_some hf
  cases e41
  refine p_copy (N := 8) w_503 w_505 w_504 w_73 dX7_copyFrom_164 (Nat.le_of_ble_eq_true rfl) at_112 at_12 (by decide) rfl (by decide) (by decide) (Nat.le_of_ble_eq_true rfl) ?_
  generalize m_cpy m38 112 12 8 = m40 at hf ⊢
  refine g_aload_n 1 dX7_copyFrom_167 rfl rfl ?_
  refine gf_122 dX7_copyFrom_168 rfl ob_101 rfl ?_
  refine g_iconst (v := 0) dX7_copyFrom_171 rfl ?_
  refine g_aload_n 0 dX7_copyFrom_172 rfl rfl ?_
  refine gf_122 dX7_copyFrom_173 rfl ob_1 rfl ?_
  refine g_iconst (v := 0) dX7_copyFrom_176 rfl ?_
  refine g_bipush (v := 28) dX7_copyFrom_177 rfl ?_
  obtain ⟨m42, e43, hf⟩ := bnd_some hf
  cases e43
  refine p_copy (N := 28) w_503 w_505 w_504 w_73 dX7_copyFrom_179 (Nat.le_of_ble_eq_true rfl) at_113 at_13 (by decide) rfl (by decide) (by decide) (Nat.le_of_ble_eq_true rfl) ?_
  generalize m_cpy m40 113 13 28 = m42 at hf ⊢
  refine g_aload_n 1 dX7_copyFrom_182 rfl rfl ?_
  refine gf_139 dX7_copyFrom_183 rfl ob_101 rfl ?_
  refine g_iconst (v := 0) dX7_copyFrom_186 rfl ?_
  refine g_aload_n 0 dX7_copyFrom_187 rfl rfl ?_
  refine gf_139 dX7_copyFrom_188 rfl ob_1 rfl ?_
  refine g_iconst (v := 0) dX7_copyFrom_191 rfl ?_
  refine g_iconst (v := 4) dX7_copyFrom_192 rfl ?_
  obtain ⟨m44, e45, hf⟩ := bnd_some hf
  cases e45
  refine p_copy (N := 4) w_503 w_505 w_504 w_73 dX7_copyFrom_193 (Nat.le_of_ble_eq_true rfl) at_150 at_50 (by decide) rfl (by decide) (by decide) (Nat.le_of_ble_eq_true rfl) ?_
  generalize m_cpy m42 150 50 4 = m44 at hf ⊢
  cases hf
  exact g_vret dX7_copyFrom_196 rfl

abbrev k_X8_on : kX := (cX8_on, "WhoseHourItIs", "on", some .int, 1, 2)
def f_X8_on  (m : mM) : Option (Int32 × mM) :=
if (m 0 3) = 0 then (
bnd (f_X8_refuse (-3 : Int32) m) fun q1 =>
some (q1.1, q1.2))
else (
bnd (f_X7_copyFrom_1_101 m) fun q3 =>
some ((q3 1 0), q3))
set_option maxRecDepth 100000 in
theorem t_X8_on {V : eV}  {m : mM} {q : Int32 × mM} (hf : f_X8_on  m = some q) : eE V 2 yX8_on cX8_on 1 (some .int) [.ref (vB V + 0)] (hS m) (some (.int q.1)) (hS q.2) := by
  refine eE_of (by decide) (Nat.le_of_ble_eq_true rfl) ?_
  show gG V k_X8_on 0 [(0, .ref (vB V + 0))] [] (hS m) _ _
  unfold f_X8_on at hf
  refine g_aload_n 0 dX8_on_0 rfl rfl ?_
  refine gf_317 dX8_on_1 rfl ob_0 rfl ?_
  refine g_if_ne (tgt := 14) dX8_on_4 (by decide) (fun c5 => ?_) (fun c5 => ?_)
  · replace hf := (if_neg c5).symm.trans hf
    refine g_aload_n 0 dX8_on_14 rfl rfl ?_
    refine gf_314 dX8_on_15 rfl ob_0 rfl ?_
    refine g_aload_n 0 dX8_on_18 rfl rfl ?_
    refine gf_316 dX8_on_19 rfl ob_0 rfl ?_
    obtain ⟨q3, e4, hf⟩ := bnd_some hf
    refine p_callVv (As := [.ref (vB V + 101)]) (rest := []) (t_X7_copyFrom_1_101 e4) cw_499 w_500 w_501 ob_1 rfl (Nat.le_of_ble_eq_true rfl) rfl rfl (Nat.le_of_ble_eq_true rfl) dX8_on_22 ?_
    refine g_aload_n 0 dX8_on_25 rfl rfl ?_
    refine gf_314 dX8_on_26 rfl ob_0 rfl ?_
    refine gf_95 dX8_on_29 rfl ob_1 rfl ?_
    cases hf
    exact g_iret dX8_on_32 .int rfl rfl
  · replace hf := (if_pos c5).symm.trans hf
    refine g_aload_n 0 dX8_on_7 rfl rfl ?_
    refine g_bipush (v := -3) dX8_on_8 rfl ?_
    obtain ⟨q1, e2, hf⟩ := bnd_some hf
    refine p_callV (As := [.int (-3 : Int32)]) (rest := []) (t_X8_refuse e2) cw_355 w_357 w_0 ob_0 rfl (Nat.le_of_ble_eq_true rfl) rfl rfl (Nat.le_of_ble_eq_true rfl) dX8_on_10 ?_
    cases hf
    exact g_iret dX8_on_13 .int rfl rfl

