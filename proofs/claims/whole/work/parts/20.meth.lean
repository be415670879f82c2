/-! printed by wip/whole/gen_meth.py: plain functions of the methods, and that the bytecode does as they say -/
abbrev k_X8_refuse : kX := (cX8_refuse, "WhoseHourItIs", "refuse", some .int, 2, 0)
def f_X8_refuse (a1 : Int32) (m : mM) : Option (Int32 × mM) :=
if 0 ≤ a1 then (
some (a1, m))
else (
if a1 < (-6 : Int32) then (
some (a1, m))
else (
bnd (rdA 186 7 (-a1) m) fun v1 =>
bnd (wrA 186 7 (-a1) (v1 + (1 : Int32)) m) fun m3 =>
some (a1, m3)))
set_option maxRecDepth 100000 in
theorem t_X8_refuse {V : eV} {a1 : Int32}  {m : mM} {q : Int32 × mM} (hf : f_X8_refuse a1 m = some q) : eE V 0 yX8_refuse cX8_refuse 2 (some .int) [.ref (vB V + 0), .int a1] (hS m) (some (.int q.1)) (hS q.2) := by
  refine eE_of (by decide) (Nat.le_of_ble_eq_true rfl) ?_
  show gG V k_X8_refuse 0 [(0, .ref (vB V + 0)), (1, .int a1)] [] (hS m) _ _
  unfold f_X8_refuse at hf
  refine g_iload_n 1 dX8_refuse_0 rfl rfl ?_
  refine g_if_ge (tgt := 21) dX8_refuse_1 (by decide) (fun c6 => ?_) (fun c6 => ?_)
  · replace hf := (if_pos c6).symm.trans hf
    refine g_iload_n 1 dX8_refuse_21 rfl rfl ?_
    cases hf
    exact g_iret dX8_refuse_22 .int rfl rfl
  · replace hf := (if_neg c6).symm.trans hf
    refine g_iload_n 1 dX8_refuse_4 rfl rfl ?_
    refine g_bipush (v := -6) dX8_refuse_5 rfl ?_
    refine g_icmp_lt (tgt := 21) dX8_refuse_7 (by decide) (fun c5 => ?_) (fun c5 => ?_)
    · replace hf := (if_pos c5).symm.trans hf
      refine g_iload_n 1 dX8_refuse_21 rfl rfl ?_
      cases hf
      exact g_iret dX8_refuse_22 .int rfl rfl
    · replace hf := (if_neg c5).symm.trans hf
      refine g_aload_n 0 dX8_refuse_10 rfl rfl ?_
      refine gf_325 dX8_refuse_11 rfl ob_0 rfl ?_
      refine g_iload_n 1 dX8_refuse_14 rfl rfl ?_
      refine g_ineg dX8_refuse_15 ?_
      refine g_dup2 dX8_refuse_16 rfl rfl ?_
      obtain ⟨v1, e2, hf⟩ := bnd_some hf
      refine p_iald dX8_refuse_17 at_186 e2 ?_
      refine g_iconst (v := 1) dX8_refuse_18 rfl ?_
      refine g_iadd dX8_refuse_19 ?_
      obtain ⟨m3, e4, hf⟩ := bnd_some hf
      refine p_iast dX8_refuse_20 at_186 e4 ?_
      refine g_iload_n 1 dX8_refuse_21 rfl rfl ?_
      cases hf
      exact g_iret dX8_refuse_22 .int rfl rfl

abbrev k_X6_put : kX := (cX6_put, "WhoseHourItIs$Tape", "put", none, 5, 0)
def f_X6_put_L3 (b1 : Int32) (b2 : Int64) : Nat → Int32 → mM → Option (mM)
  | 0, _, _ => none
  | n + 1, b4, m =>
      if b1 ≤ b4 then (
      some m)
      else (
      if (64 : Int32) ≤ (m 151 0) then (
      some m)
      else (
      bnd (wrA 152 64 (m 151 0) ((((b2.toUInt64 >>> (((8 : Int32) * b4).toInt64.toUInt64 &&& Int64.toUInt64 63)).toInt64) &&& (255 : Int64)).toInt32) m) fun m1 =>
      bnd (some (m_up m1 151 0 ((m1 151 0) + (1 : Int32)))) fun m3 =>
      f_X6_put_L3 b1 b2 n (b4 + (1 : Int32)) m3))
def f_X6_put (a1 : Int32) (a2 : Int64) (m : mM) : Option (mM) :=
bnd (f_X6_put_L3 a1 a2 fU (0 : Int32) m) fun o7 =>
some o7
set_option maxRecDepth 100000 in
theorem t_X6_put_L3 {V : eV} (b1 : Int32) (b2 : Int64) {r : Option Value} {h' : aH} : ∀ (n : Nat) (b4 : Int32) (m : mM) (o : mM), f_X6_put_L3 b1 b2 n b4 m = some o → gG V k_X6_put 55 [] [] (hS o) r h' → gG V k_X6_put 3 [(0, .ref (vB V + 151)), (1, .int b1), (2, .long b2), (4, .int b4)] [] (hS m) r h' := by
  intro n
  induction n with
  | zero => intro b4 m o hf; cases hf
  | succ n ih =>
    intro b4 m o hf hk
    rw [f_X6_put_L3] at hf
    refine g_iload 3 dX6_put_3 rfl ?_
    refine g_iload_n 1 dX6_put_5 rfl rfl ?_
    refine g_icmp_ge (tgt := 55) dX6_put_6 (by decide) (fun c6 => ?_) (fun c6 => ?_)
    · replace hf := (if_pos c6).symm.trans hf
      cases hf
      refine g_sub [] rfl ?_
      exact hk
    · replace hf := (if_neg c6).symm.trans hf
      refine g_aload_n 0 dX6_put_9 rfl rfl ?_
      refine gf_174 dX6_put_10 rfl ob_151 rfl ?_
      refine g_bipush (v := 64) dX6_put_13 rfl ?_
      refine g_icmp_ge (tgt := 55) dX6_put_15 (by decide) (fun c5 => ?_) (fun c5 => ?_)
      · replace hf := (if_pos c5).symm.trans hf
        cases hf
        refine g_sub [] rfl ?_
        exact hk
      · replace hf := (if_neg c5).symm.trans hf
        refine g_aload_n 0 dX6_put_18 rfl rfl ?_
        refine gf_176 dX6_put_19 rfl ob_151 rfl ?_
        refine g_aload_n 0 dX6_put_22 rfl rfl ?_
        refine gf_174 dX6_put_23 rfl ob_151 rfl ?_
        refine g_lload_n 2 dX6_put_26 rfl rfl ?_
        refine g_bipush (v := 8) dX6_put_27 rfl ?_
        refine g_iload 3 dX6_put_29 rfl ?_
        refine g_imul dX6_put_31 ?_
        refine g_lushr dX6_put_32 ?_
        refine g_ldc2 w_363 dX6_put_33 ?_
        refine g_land dX6_put_36 ?_
        refine g_l2i dX6_put_37 ?_
        obtain ⟨m1, e2, hf⟩ := bnd_some hf
        refine p_iast dX6_put_38 at_152 e2 ?_
        refine g_aload_n 0 dX6_put_39 rfl rfl ?_
        refine g_dup dX6_put_40 rfl ?_
        refine gf_174 dX6_put_41 rfl ob_151 rfl ?_
        refine g_iconst (v := 1) dX6_put_44 rfl ?_
        refine g_iadd dX6_put_45 ?_
        obtain ⟨m3, e4, hf⟩ := bnd_some hf
        cases e4
        refine pf_174 dX6_put_46 rfl ob_151 rfl ?_
        generalize m_up m1 151 0 ((m1 151 0) + (1 : Int32)) = m3 at hf ⊢
        refine g_iinc (q := 3) (v := (b4 + (1 : Int32))) dX6_put_49 rfl rfl (Nat.le_of_ble_eq_true rfl) rfl ?_
        refine g_goto (tgt := 3) dX6_put_52 (by decide) ?_
        refine g_sub [1, 2, 3, 0] rfl ?_
        exact ih (b4 + (1 : Int32)) m3 _ hf hk

set_option maxRecDepth 100000 in
theorem t_X6_put {V : eV} {a1 : Int32} {a2 : Int64}  {m : mM} {q : mM} (hf : f_X6_put a1 a2 m = some q) : eE V 0 yX6_put cX6_put 5 (none) [.ref (vB V + 151), .int a1, .long a2] (hS m) none (hS q) := by
  refine eE_of (by decide) (Nat.le_of_ble_eq_true rfl) ?_
  show gG V k_X6_put 0 [(0, .ref (vB V + 151)), (1, .int a1), (2, .long a2)] [] (hS m) _ _
  unfold f_X6_put at hf
  refine g_iconst (v := 0) dX6_put_0 rfl ?_
  refine g_istore dX6_put_1 (Nat.le_of_ble_eq_true rfl) rfl ?_
  refine g_sub [1, 2, 3, 0] rfl ?_
  obtain ⟨o7, e8, hf⟩ := bnd_some hf
  refine t_X6_put_L3 (V := V) a1 a2 fU (0 : Int32) m _ e8 ?_
  cases hf
  exact g_vret dX6_put_55 rfl

abbrev k_X8_feed : kX := (cX8_feed, "WhoseHourItIs", "feed", some .int, 4, 1)
def f_X8_feed (a1 : Int32) (a2 : Int64) (m : mM) : Option (Int32 × mM) :=
if (1 : Int32) ≤ a1 then (
if (8 : Int32) < a1 then (
bnd (f_X8_refuse (-6 : Int32) m) fun q1 =>
some (q1.1, q1.2))
else (
if ((m 151 0) + a1) ≤ (64 : Int32) then (
bnd (f_X6_put a1 a2 m) fun q3 =>
some ((q3 151 0), q3))
else (
bnd (f_X8_refuse (-6 : Int32) m) fun q5 =>
some (q5.1, q5.2))))
else (
bnd (f_X8_refuse (-4 : Int32) m) fun q9 =>
some (q9.1, q9.2))
set_option maxRecDepth 100000 in
theorem t_X8_feed {V : eV} {a1 : Int32} {a2 : Int64}  {m : mM} {q : Int32 × mM} (hf : f_X8_feed a1 a2 m = some q) : eE V 1 yX8_feed cX8_feed 4 (some .int) [.ref (vB V + 0), .int a1, .long a2] (hS m) (some (.int q.1)) (hS q.2) := by
  refine eE_of (by decide) (Nat.le_of_ble_eq_true rfl) ?_
  show gG V k_X8_feed 0 [(0, .ref (vB V + 0)), (1, .int a1), (2, .long a2)] [] (hS m) _ _
  unfold f_X8_feed at hf
  refine g_iload_n 1 dX8_feed_0 rfl rfl ?_
  refine g_iconst (v := 1) dX8_feed_1 rfl ?_
  refine g_icmp_ge (tgt := 12) dX8_feed_2 (by decide) (fun c11 => ?_) (fun c11 => ?_)
  · replace hf := (if_pos c11).symm.trans hf
    refine g_iload_n 1 dX8_feed_12 rfl rfl ?_
    refine g_bipush (v := 8) dX8_feed_13 rfl ?_
    refine g_icmp_gt (tgt := 32) dX8_feed_15 (by decide) (fun c8 => ?_) (fun c8 => ?_)
    · replace hf := (if_pos c8).symm.trans hf
      refine g_aload_n 0 dX8_feed_32 rfl rfl ?_
      refine g_bipush (v := -6) dX8_feed_33 rfl ?_
      obtain ⟨q1, e2, hf⟩ := bnd_some hf
      refine p_callV (As := [.int (-6 : Int32)]) (rest := []) (t_X8_refuse e2) cw_355 w_357 w_0 ob_0 rfl (Nat.le_of_ble_eq_true rfl) rfl rfl (Nat.le_of_ble_eq_true rfl) dX8_feed_35 ?_
      cases hf
      exact g_iret dX8_feed_38 .int rfl rfl
    · replace hf := (if_neg c8).symm.trans hf
      refine g_aload_n 0 dX8_feed_18 rfl rfl ?_
      refine gf_318 dX8_feed_19 rfl ob_0 rfl ?_
      refine gf_175 dX8_feed_22 rfl ob_151 rfl ?_
      refine g_iload_n 1 dX8_feed_25 rfl rfl ?_
      refine g_iadd dX8_feed_26 ?_
      refine g_bipush (v := 64) dX8_feed_27 rfl ?_
      refine g_icmp_le (tgt := 39) dX8_feed_29 (by decide) (fun c7 => ?_) (fun c7 => ?_)
      · replace hf := (if_pos c7).symm.trans hf
        refine g_aload_n 0 dX8_feed_39 rfl rfl ?_
        refine gf_318 dX8_feed_40 rfl ob_0 rfl ?_
        refine g_iload_n 1 dX8_feed_43 rfl rfl ?_
        refine g_lload_n 2 dX8_feed_44 rfl rfl ?_
        obtain ⟨q3, e4, hf⟩ := bnd_some hf
        refine p_callVv (As := [.int a1, .long a2]) (rest := []) (t_X6_put e4) cw_359 w_360 w_361 ob_151 rfl (Nat.le_of_ble_eq_true rfl) rfl rfl (Nat.le_of_ble_eq_true rfl) dX8_feed_45 ?_
        refine g_aload_n 0 dX8_feed_48 rfl rfl ?_
        refine gf_318 dX8_feed_49 rfl ob_0 rfl ?_
        refine gf_175 dX8_feed_52 rfl ob_151 rfl ?_
        cases hf
        exact g_iret dX8_feed_55 .int rfl rfl
      · replace hf := (if_neg c7).symm.trans hf
        refine g_aload_n 0 dX8_feed_32 rfl rfl ?_
        refine g_bipush (v := -6) dX8_feed_33 rfl ?_
        obtain ⟨q5, e6, hf⟩ := bnd_some hf
        refine p_callV (As := [.int (-6 : Int32)]) (rest := []) (t_X8_refuse e6) cw_355 w_357 w_0 ob_0 rfl (Nat.le_of_ble_eq_true rfl) rfl rfl (Nat.le_of_ble_eq_true rfl) dX8_feed_35 ?_
        cases hf
        exact g_iret dX8_feed_38 .int rfl rfl
  · replace hf := (if_neg c11).symm.trans hf
    refine g_aload_n 0 dX8_feed_5 rfl rfl ?_
    refine g_bipush (v := -4) dX8_feed_6 rfl ?_
    obtain ⟨q9, e10, hf⟩ := bnd_some hf
    refine p_callV (As := [.int (-4 : Int32)]) (rest := []) (t_X8_refuse e10) cw_355 w_357 w_0 ob_0 rfl (Nat.le_of_ble_eq_true rfl) rfl rfl (Nat.le_of_ble_eq_true rfl) dX8_feed_8 ?_
    cases hf
    exact g_iret dX8_feed_11 .int rfl rfl

abbrev k_X6_signAt : kX := (cX6_signAt, "WhoseHourItIs$Tape", "signAt", some .int, 2, 0)
def f_X6_signAt (a1 : Int32) (m : mM) : Option (Int32) :=
if a1 < 0 then (
some (-1 : Int32))
else (
if (m 151 0) ≤ a1 then (
some (-1 : Int32))
else (
bnd (rdA 152 64 a1 m) fun v1 =>
some v1))
set_option maxRecDepth 100000 in
theorem t_X6_signAt {V : eV} {a1 : Int32}  {m : mM} {q : Int32} (hf : f_X6_signAt a1 m = some q) : eE V 0 yX6_signAt cX6_signAt 2 (some .int) [.ref (vB V + 151), .int a1] (hS m) (some (.int q)) (hS m) := by
  refine eE_of (by decide) (Nat.le_of_ble_eq_true rfl) ?_
  show gG V k_X6_signAt 0 [(0, .ref (vB V + 151)), (1, .int a1)] [] (hS m) _ _
  unfold f_X6_signAt at hf
  refine g_iload_n 1 dX6_signAt_0 rfl rfl ?_
  refine g_if_lt (tgt := 21) dX6_signAt_1 (by decide) (fun c4 => ?_) (fun c4 => ?_)
  · replace hf := (if_pos c4).symm.trans hf
    refine g_iconst (v := -1) dX6_signAt_21 rfl ?_
    cases hf
    exact g_iret dX6_signAt_22 .int rfl rfl
  · replace hf := (if_neg c4).symm.trans hf
    refine g_iload_n 1 dX6_signAt_4 rfl rfl ?_
    refine g_aload_n 0 dX6_signAt_5 rfl rfl ?_
    refine gf_174 dX6_signAt_6 rfl ob_151 rfl ?_
    refine g_icmp_ge (tgt := 21) dX6_signAt_9 (by decide) (fun c3 => ?_) (fun c3 => ?_)
    · replace hf := (if_pos c3).symm.trans hf
      refine g_iconst (v := -1) dX6_signAt_21 rfl ?_
      cases hf
      exact g_iret dX6_signAt_22 .int rfl rfl
    · replace hf := (if_neg c3).symm.trans hf
      refine g_aload_n 0 dX6_signAt_12 rfl rfl ?_
      refine gf_176 dX6_signAt_13 rfl ob_151 rfl ?_
      refine g_iload_n 1 dX6_signAt_16 rfl rfl ?_
      obtain ⟨v1, e2, hf⟩ := bnd_some hf
      refine p_iald dX6_signAt_17 at_152 e2 ?_
      refine g_goto (tgt := 22) dX6_signAt_18 (by decide) ?_
      cases hf
      exact g_iret dX6_signAt_22 .int rfl rfl

abbrev k_X6_formAt : kX := (cX6_formAt, "WhoseHourItIs$Tape", "formAt", some (.object "java/lang/String"), 3, 1)
def f_X6_formAt (a1 : Int32) (m : mM) : Option (Nat) :=
bnd (f_X6_signAt a1 m) fun q1 =>
if q1 = (104 : Int32) then (
some 0)
else (
if q1 = (119 : Int32) then (
some 1)
else (
some 2))
set_option maxRecDepth 100000 in
theorem t_X6_formAt {V : eV} {a1 : Int32}  {m : mM} {q : Nat} (hf : f_X6_formAt a1 m = some q) : eE V 1 yX6_formAt cX6_formAt 3 (some (.object "java/lang/String")) [.ref (vB V + 151), .int a1] (hS m) (some (.ref (vK V q))) (hS m) := by
  refine eE_of (by decide) (Nat.le_of_ble_eq_true rfl) ?_
  show gG V k_X6_formAt 0 [(0, .ref (vB V + 151)), (1, .int a1)] [] (hS m) _ _
  unfold f_X6_formAt at hf
  refine g_aload_n 0 dX6_formAt_0 rfl rfl ?_
  refine g_iload_n 1 dX6_formAt_1 rfl rfl ?_
  obtain ⟨q1, e2, hf⟩ := bnd_some hf
  refine p_callV (As := [.int a1]) (rest := []) (t_X6_signAt e2) cw_380 w_382 w_3 ob_151 rfl (Nat.le_of_ble_eq_true rfl) rfl rfl (Nat.le_of_ble_eq_true rfl) dX6_formAt_2 ?_
  refine g_istore_n dX6_formAt_5 rfl (Nat.le_of_ble_eq_true rfl) rfl ?_
  refine g_iload_n 0 dX6_formAt_6 rfl rfl ?_
  refine g_bipush (v := 104) dX6_formAt_7 rfl ?_
  refine g_icmp_ne (tgt := 15) dX6_formAt_9 (by decide) (fun c4 => ?_) (fun c4 => ?_)
  · replace hf := (if_neg c4).symm.trans hf
    refine g_iload_n 0 dX6_formAt_15 rfl rfl ?_
    refine g_bipush (v := 119) dX6_formAt_16 rfl ?_
    refine g_icmp_ne (tgt := 26) dX6_formAt_18 (by decide) (fun c3 => ?_) (fun c3 => ?_)
    · replace hf := (if_neg c3).symm.trans hf
      refine g_ldcS (i := 2) (by decide) rfl rfl dX6_formAt_26 ?_
      cases hf
      exact g_aret dX6_formAt_28 _ rfl
    · replace hf := (if_pos c3).symm.trans hf
      refine g_ldcS (i := 1) (by decide) rfl rfl dX6_formAt_21 ?_
      refine g_goto (tgt := 28) dX6_formAt_23 (by decide) ?_
      cases hf
      exact g_aret dX6_formAt_28 _ rfl
  · replace hf := (if_pos c4).symm.trans hf
    refine g_ldcS (i := 0) (by decide) rfl rfl dX6_formAt_12 ?_
    cases hf
    exact g_aret dX6_formAt_14 _ rfl

abbrev k_X6_valueAt : kX := (cX6_valueAt, "WhoseHourItIs$Tape", "valueAt", some .int, 4, 4)
def f_X6_valueAt (a1 : Int32) (a2 : Int32) (m : mM) : Option (Int32) :=
bnd (f_X6_signAt a1 m) fun q1 =>
if 0 ≤ q1 then (
if a2 = (68 : Int32) then (
if q1 < (48 : Int32) then (
some (-1 : Int32))
else (
if (57 : Int32) < q1 then (
some (-1 : Int32))
else (
some (q1 - (48 : Int32)))))
else (
if a2 = (75 : Int32) then (
some (ixK ((q1.toUInt32 % 65536).toInt32)))
else (
if a2 = (78 : Int32) then (
if q1 < (48 : Int32) then (
some (-1 : Int32))
else (
if (57 : Int32) < q1 then (
some (-1 : Int32))
else (
some (q1 - (48 : Int32)))))
else (
if a2 = (82 : Int32) then (
if q1 = (115 : Int32) then (
some (1 : Int32))
else (
if q1 = (114 : Int32) then (
some (0 : Int32))
else (
some (-1 : Int32))))
else (
if q1 = a2 then (
some (0 : Int32))
else (
some (-1 : Int32)))))))
else (
some (-1 : Int32))
set_option maxRecDepth 100000 in
theorem t_X6_valueAt {V : eV} {a1 : Int32} {a2 : Int32}  {m : mM} {q : Int32} (hf : f_X6_valueAt a1 a2 m = some q) : eE V 4 yX6_valueAt cX6_valueAt 4 (some .int) [.ref (vB V + 151), .int a1, .int a2] (hS m) (some (.int q)) (hS m) := by
  refine eE_of (by decide) (Nat.le_of_ble_eq_true rfl) ?_
  show gG V k_X6_valueAt 0 [(0, .ref (vB V + 151)), (1, .int a1), (2, .int a2)] [] (hS m) _ _
  unfold f_X6_valueAt at hf
  refine g_aload_n 0 dX6_valueAt_0 rfl rfl ?_
  refine g_iload_n 1 dX6_valueAt_1 rfl rfl ?_
  obtain ⟨q1, e2, hf⟩ := bnd_some hf
  refine p_callV (As := [.int a1]) (rest := []) (t_X6_signAt e2) cw_380 w_382 w_3 ob_151 rfl (Nat.le_of_ble_eq_true rfl) rfl rfl (Nat.le_of_ble_eq_true rfl) dX6_valueAt_2 ?_
  refine g_istore_n dX6_valueAt_5 rfl (Nat.le_of_ble_eq_true rfl) rfl ?_
  refine g_iload_n 0 dX6_valueAt_6 rfl rfl ?_
  refine g_if_ge (tgt := 12) dX6_valueAt_7 (by decide) (fun c16 => ?_) (fun c16 => ?_)
  · replace hf := (if_pos c16).symm.trans hf
    refine g_iload_n 3 dX6_valueAt_12 rfl rfl ?_
    by_cases c3 : a2 = (68 : Int32)
    · replace hf := (if_pos c3).symm.trans hf
      refine g_lookup (tgt := 56) (off := 43) dX6_valueAt_13 (by decide) (by rw [c3]; decide) (by decide) ?_
      refine g_iload_n 0 dX6_valueAt_56 rfl rfl ?_
      refine g_bipush (v := 48) dX6_valueAt_57 rfl ?_
      refine g_icmp_lt (tgt := 75) dX6_valueAt_59 (by decide) (fun c5 => ?_) (fun c5 => ?_)
      · replace hf := (if_pos c5).symm.trans hf
        refine g_iconst (v := -1) dX6_valueAt_75 rfl ?_
        cases hf
        exact g_iret dX6_valueAt_76 .int rfl rfl
      · replace hf := (if_neg c5).symm.trans hf
        refine g_iload_n 0 dX6_valueAt_62 rfl rfl ?_
        refine g_bipush (v := 57) dX6_valueAt_63 rfl ?_
        refine g_icmp_gt (tgt := 75) dX6_valueAt_65 (by decide) (fun c4 => ?_) (fun c4 => ?_)
        · replace hf := (if_pos c4).symm.trans hf
          refine g_iconst (v := -1) dX6_valueAt_75 rfl ?_
          cases hf
          exact g_iret dX6_valueAt_76 .int rfl rfl
        · replace hf := (if_neg c4).symm.trans hf
          refine g_iload_n 0 dX6_valueAt_68 rfl rfl ?_
          refine g_bipush (v := 48) dX6_valueAt_69 rfl ?_
          refine g_isub dX6_valueAt_71 ?_
          refine g_goto (tgt := 76) dX6_valueAt_72 (by decide) ?_
          cases hf
          exact g_iret dX6_valueAt_76 .int rfl rfl
    · replace hf := (if_neg c3).symm.trans hf
      by_cases c6 : a2 = (75 : Int32)
      · replace hf := (if_pos c6).symm.trans hf
        refine g_lookup (tgt := 77) (off := 64) dX6_valueAt_13 (by decide) (by rw [c6]; decide) (by decide) ?_
        refine g_ldcS (i := 3) (by decide) rfl rfl dX6_valueAt_77 ?_
        refine g_iload_n 0 dX6_valueAt_79 rfl rfl ?_
        refine g_i2c dX6_valueAt_80 ?_
        refine p_sidx (rest := []) cw_440 w_441 w_442 (Nat.le_of_ble_eq_true rfl) (Nat.le_of_ble_eq_true rfl) dX6_valueAt_81 ?_
        cases hf
        exact g_iret dX6_valueAt_84 .int rfl rfl
      · replace hf := (if_neg c6).symm.trans hf
        by_cases c9 : a2 = (78 : Int32)
        · replace hf := (if_pos c9).symm.trans hf
          refine g_lookup (tgt := 56) (off := 43) dX6_valueAt_13 (by decide) (by rw [c9]; decide) (by decide) ?_
          refine g_iload_n 0 dX6_valueAt_56 rfl rfl ?_
          refine g_bipush (v := 48) dX6_valueAt_57 rfl ?_
          refine g_icmp_lt (tgt := 75) dX6_valueAt_59 (by decide) (fun c11 => ?_) (fun c11 => ?_)
          · replace hf := (if_pos c11).symm.trans hf
            refine g_iconst (v := -1) dX6_valueAt_75 rfl ?_
            cases hf
            exact g_iret dX6_valueAt_76 .int rfl rfl
          · replace hf := (if_neg c11).symm.trans hf
            refine g_iload_n 0 dX6_valueAt_62 rfl rfl ?_
            refine g_bipush (v := 57) dX6_valueAt_63 rfl ?_
            refine g_icmp_gt (tgt := 75) dX6_valueAt_65 (by decide) (fun c10 => ?_) (fun c10 => ?_)
            · replace hf := (if_pos c10).symm.trans hf
              refine g_iconst (v := -1) dX6_valueAt_75 rfl ?_
              cases hf
              exact g_iret dX6_valueAt_76 .int rfl rfl
            · replace hf := (if_neg c10).symm.trans hf
              refine g_iload_n 0 dX6_valueAt_68 rfl rfl ?_
              refine g_bipush (v := 48) dX6_valueAt_69 rfl ?_
              refine g_isub dX6_valueAt_71 ?_
              refine g_goto (tgt := 76) dX6_valueAt_72 (by decide) ?_
              cases hf
              exact g_iret dX6_valueAt_76 .int rfl rfl
        · replace hf := (if_neg c9).symm.trans hf
          by_cases c12 : a2 = (82 : Int32)
          · replace hf := (if_pos c12).symm.trans hf
            refine g_lookup (tgt := 85) (off := 72) dX6_valueAt_13 (by decide) (by rw [c12]; decide) (by decide) ?_
            refine g_iload_n 0 dX6_valueAt_85 rfl rfl ?_
            refine g_bipush (v := 115) dX6_valueAt_86 rfl ?_
            refine g_icmp_ne (tgt := 95) dX6_valueAt_88 (by decide) (fun c14 => ?_) (fun c14 => ?_)
            · replace hf := (if_neg c14).symm.trans hf
              refine g_iload_n 0 dX6_valueAt_95 rfl rfl ?_
              refine g_bipush (v := 114) dX6_valueAt_96 rfl ?_
              refine g_icmp_ne (tgt := 105) dX6_valueAt_98 (by decide) (fun c13 => ?_) (fun c13 => ?_)
              · replace hf := (if_neg c13).symm.trans hf
                refine g_iconst (v := -1) dX6_valueAt_105 rfl ?_
                cases hf
                exact g_iret dX6_valueAt_106 .int rfl rfl
              · replace hf := (if_pos c13).symm.trans hf
                refine g_iconst (v := 0) dX6_valueAt_101 rfl ?_
                refine g_goto (tgt := 106) dX6_valueAt_102 (by decide) ?_
                cases hf
                exact g_iret dX6_valueAt_106 .int rfl rfl
            · replace hf := (if_pos c14).symm.trans hf
              refine g_iconst (v := 1) dX6_valueAt_91 rfl ?_
              refine g_goto (tgt := 106) dX6_valueAt_92 (by decide) ?_
              cases hf
              exact g_iret dX6_valueAt_106 .int rfl rfl
          · replace hf := (if_neg c12).symm.trans hf
            refine g_lookup (tgt := 107) (off := 94) dX6_valueAt_13 (by decide) ((lv_osw c3 rfl).trans ((lv_osw c6 rfl).trans ((lv_osw c9 rfl).trans ((lv_osw c12 rfl).trans rfl)))) (by decide) ?_
            refine g_iload_n 0 dX6_valueAt_107 rfl rfl ?_
            refine g_iload_n 3 dX6_valueAt_108 rfl rfl ?_
            refine g_icmp_ne (tgt := 116) dX6_valueAt_109 (by decide) (fun c15 => ?_) (fun c15 => ?_)
            · replace hf := (if_neg c15).symm.trans hf
              refine g_iconst (v := -1) dX6_valueAt_116 rfl ?_
              cases hf
              exact g_iret dX6_valueAt_117 .int rfl rfl
            · replace hf := (if_pos c15).symm.trans hf
              refine g_iconst (v := 0) dX6_valueAt_112 rfl ?_
              refine g_goto (tgt := 117) dX6_valueAt_113 (by decide) ?_
              cases hf
              exact g_iret dX6_valueAt_117 .int rfl rfl
  · replace hf := (if_neg c16).symm.trans hf
    refine g_iconst (v := -1) dX6_valueAt_10 rfl ?_
    cases hf
    exact g_iret dX6_valueAt_11 .int rfl rfl

abbrev k_X6_readStatement : kX := (cX6_readStatement, "WhoseHourItIs$Tape", "readStatement", some .int, 8, 5)
def f_X6_readStatement_L14 (b2 : Nat) : Nat → Int32 → Int32 → Int32 → mM → Option ((Int32 × mM) ⊕ (Int32 × mM))
  | 0, _, _, _, _ => none
  | n + 1, b3, b4, b5, m =>
      bnd (stL b2) fun v3 =>
      if v3 ≤ b5 then (
      some (.inr (b3, m)))
      else (
      bnd (stC b2 b5) fun v5 =>
      bnd (f_X6_valueAt b3 v5 m) fun q7 =>
      if 0 ≤ q7 then (
      if v5 = (78 : Int32) then (
      bnd (f_X6_valueAt (b3 + (1 : Int32)) (68 : Int32) m) fun q9 =>
      if q9 < 0 then (
      if v5 < (65 : Int32) then (
      f_X6_readStatement_L14 b2 n (b3 + (1 : Int32)) b4 (b5 + (1 : Int32)) m)
      else (
      if (90 : Int32) < v5 then (
      f_X6_readStatement_L14 b2 n (b3 + (1 : Int32)) b4 (b5 + (1 : Int32)) m)
      else (
      if (6 : Int32) ≤ b4 then (
      f_X6_readStatement_L14 b2 n (b3 + (1 : Int32)) b4 (b5 + (1 : Int32)) m)
      else (
      bnd (wrA 153 6 b4 q7 m) fun m11 =>
      f_X6_readStatement_L14 b2 n (b3 + (1 : Int32)) (b4 + (1 : Int32)) (b5 + (1 : Int32)) m11))))
      else (
      bnd (f_X6_valueAt (b3 + (1 : Int32)) (68 : Int32) m) fun q16 =>
      if v5 < (65 : Int32) then (
      f_X6_readStatement_L14 b2 n ((b3 + (1 : Int32)) + (1 : Int32)) b4 (b5 + (1 : Int32)) m)
      else (
      if (90 : Int32) < v5 then (
      f_X6_readStatement_L14 b2 n ((b3 + (1 : Int32)) + (1 : Int32)) b4 (b5 + (1 : Int32)) m)
      else (
      if (6 : Int32) ≤ b4 then (
      f_X6_readStatement_L14 b2 n ((b3 + (1 : Int32)) + (1 : Int32)) b4 (b5 + (1 : Int32)) m)
      else (
      bnd (wrA 153 6 b4 ((q7 * (10 : Int32)) + q16) m) fun m18 =>
      f_X6_readStatement_L14 b2 n ((b3 + (1 : Int32)) + (1 : Int32)) (b4 + (1 : Int32)) (b5 + (1 : Int32)) m18)))))
      else (
      if v5 < (65 : Int32) then (
      f_X6_readStatement_L14 b2 n (b3 + (1 : Int32)) b4 (b5 + (1 : Int32)) m)
      else (
      if (90 : Int32) < v5 then (
      f_X6_readStatement_L14 b2 n (b3 + (1 : Int32)) b4 (b5 + (1 : Int32)) m)
      else (
      if (6 : Int32) ≤ b4 then (
      f_X6_readStatement_L14 b2 n (b3 + (1 : Int32)) b4 (b5 + (1 : Int32)) m)
      else (
      bnd (wrA 153 6 b4 q7 m) fun m24 =>
      f_X6_readStatement_L14 b2 n (b3 + (1 : Int32)) (b4 + (1 : Int32)) (b5 + (1 : Int32)) m24)))))
      else (
      some (.inl (((-1 : Int32) - b3), m))))
def f_X6_readStatement (a1 : Int32) (m : mM) : Option (Int32 × mM) :=
bnd (f_X6_formAt a1 m) fun q1 =>
bnd (f_X6_readStatement_L14 q1 fU a1 (0 : Int32) (0 : Int32) m) fun o32 =>
ora o32 (fun zq => some zq) fun x33 =>
some (x33.1, x33.2)
set_option maxRecDepth 100000 in
theorem t_X6_readStatement_L14 {V : eV} (b2 : Nat) {r : Option Value} {h' : aH} : ∀ (n : Nat) (b3 : Int32) (b4 : Int32) (b5 : Int32) (m : mM) (o : (Int32 × mM) ⊕ (Int32 × mM)), f_X6_readStatement_L14 b2 n b3 b4 b5 m = some o → lxI hS o r h' (fun x => gG V k_X6_readStatement 126 [(3, .int x.1)] [] (hS x.2) r h') → gG V k_X6_readStatement 14 [(0, .ref (vB V + 151)), (2, .ref (vK V b2)), (3, .int b3), (4, .int b4), (5, .int b5)] [] (hS m) r h' := by
  intro n
  induction n with
  | zero => intro b3 b4 b5 m o hf; cases hf
  | succ n ih =>
    intro b3 b4 b5 m o hf hk
    rw [f_X6_readStatement_L14] at hf
    refine g_iload 4 dX6_readStatement_14 rfl ?_
    refine g_aload_n 1 dX6_readStatement_16 rfl rfl ?_
    obtain ⟨v3, e4, hf⟩ := bnd_some hf
    refine p_slen e4 (rest := [.int b5]) cw_387 w_388 w_389 (Nat.le_of_ble_eq_true rfl) (Nat.le_of_ble_eq_true rfl) dX6_readStatement_17 ?_
    refine g_icmp_ge (tgt := 126) dX6_readStatement_20 (by decide) (fun c31 => ?_) (fun c31 => ?_)
    · replace hf := (if_pos c31).symm.trans hf
      cases hf
      refine g_sub [2] rfl ?_
      exact hk
    · replace hf := (if_neg c31).symm.trans hf
      refine g_aload_n 1 dX6_readStatement_23 rfl rfl ?_
      refine g_iload 4 dX6_readStatement_24 rfl ?_
      obtain ⟨v5, e6, hf⟩ := bnd_some hf
      refine p_schar e6 (rest := []) cw_397 w_398 w_399 (Nat.le_of_ble_eq_true rfl) (Nat.le_of_ble_eq_true rfl) dX6_readStatement_26 ?_
      refine g_istore dX6_readStatement_29 (Nat.le_of_ble_eq_true rfl) rfl ?_
      refine g_aload_n 1 dX6_readStatement_31 rfl rfl ?_
      refine g_iload_n 3 dX6_readStatement_32 rfl rfl ?_
      refine g_iload 0 dX6_readStatement_33 rfl ?_
      obtain ⟨q7, e8, hf⟩ := bnd_some hf
      refine p_callV (As := [.int b3, .int v5]) (rest := []) (t_X6_valueAt e8) cw_435 w_437 w_4 ob_151 rfl (Nat.le_of_ble_eq_true rfl) rfl rfl (Nat.le_of_ble_eq_true rfl) dX6_readStatement_35 ?_
      refine g_istore dX6_readStatement_38 (Nat.le_of_ble_eq_true rfl) rfl ?_
      refine g_iload 0 dX6_readStatement_40 rfl ?_
      refine g_if_ge (tgt := 49) dX6_readStatement_42 (by decide) (fun c30 => ?_) (fun c30 => ?_)
      · replace hf := (if_pos c30).symm.trans hf
        refine g_iinc (q := 4) (v := (b3 + (1 : Int32))) dX6_readStatement_49 rfl rfl (Nat.le_of_ble_eq_true rfl) rfl ?_
        refine g_iload 2 dX6_readStatement_52 rfl ?_
        refine g_bipush (v := 78) dX6_readStatement_54 rfl ?_
        refine g_icmp_ne (tgt := 87) dX6_readStatement_56 (by decide) (fun c29 => ?_) (fun c29 => ?_)
        · replace hf := (if_neg c29).symm.trans hf
          refine g_iload 2 dX6_readStatement_87 rfl ?_
          refine g_bipush (v := 65) dX6_readStatement_89 rfl ?_
          refine g_icmp_lt (tgt := 120) dX6_readStatement_91 (by decide) (fun c28 => ?_) (fun c28 => ?_)
          · replace hf := (if_pos c28).symm.trans hf
            refine g_iinc (q := 6) (v := (b5 + (1 : Int32))) dX6_readStatement_120 rfl rfl (Nat.le_of_ble_eq_true rfl) rfl ?_
            refine g_goto (tgt := 14) dX6_readStatement_123 (by decide) ?_
            refine g_sub [4, 5, 1, 6, 0] rfl ?_
            exact ih (b3 + (1 : Int32)) b4 (b5 + (1 : Int32)) m _ hf hk
          · replace hf := (if_neg c28).symm.trans hf
            refine g_iload 2 dX6_readStatement_94 rfl ?_
            refine g_bipush (v := 90) dX6_readStatement_96 rfl ?_
            refine g_icmp_gt (tgt := 120) dX6_readStatement_98 (by decide) (fun c27 => ?_) (fun c27 => ?_)
            · replace hf := (if_pos c27).symm.trans hf
              refine g_iinc (q := 6) (v := (b5 + (1 : Int32))) dX6_readStatement_120 rfl rfl (Nat.le_of_ble_eq_true rfl) rfl ?_
              refine g_goto (tgt := 14) dX6_readStatement_123 (by decide) ?_
              refine g_sub [4, 5, 1, 6, 0] rfl ?_
              exact ih (b3 + (1 : Int32)) b4 (b5 + (1 : Int32)) m _ hf hk
            · replace hf := (if_neg c27).symm.trans hf
              refine g_iload 5 dX6_readStatement_101 rfl ?_
              refine g_bipush (v := 6) dX6_readStatement_103 rfl ?_
              refine g_icmp_ge (tgt := 120) dX6_readStatement_105 (by decide) (fun c26 => ?_) (fun c26 => ?_)
              · replace hf := (if_pos c26).symm.trans hf
                refine g_iinc (q := 6) (v := (b5 + (1 : Int32))) dX6_readStatement_120 rfl rfl (Nat.le_of_ble_eq_true rfl) rfl ?_
                refine g_goto (tgt := 14) dX6_readStatement_123 (by decide) ?_
                refine g_sub [4, 5, 1, 6, 0] rfl ?_
                exact ih (b3 + (1 : Int32)) b4 (b5 + (1 : Int32)) m _ hf hk
              · replace hf := (if_neg c26).symm.trans hf
                refine g_aload_n 3 dX6_readStatement_108 rfl rfl ?_
                refine gf_177 dX6_readStatement_109 rfl ob_151 rfl ?_
                refine g_iload 5 dX6_readStatement_112 rfl ?_
                refine g_iload 1 dX6_readStatement_114 rfl ?_
                obtain ⟨m24, e25, hf⟩ := bnd_some hf
                refine p_iast dX6_readStatement_116 at_153 e25 ?_
                refine g_iinc (q := 5) (v := (b4 + (1 : Int32))) dX6_readStatement_117 rfl rfl (Nat.le_of_ble_eq_true rfl) rfl ?_
                refine g_iinc (q := 6) (v := (b5 + (1 : Int32))) dX6_readStatement_120 rfl rfl (Nat.le_of_ble_eq_true rfl) rfl ?_
                refine g_goto (tgt := 14) dX6_readStatement_123 (by decide) ?_
                refine g_sub [5, 6, 2, 1, 0] rfl ?_
                exact ih (b3 + (1 : Int32)) (b4 + (1 : Int32)) (b5 + (1 : Int32)) m24 _ hf hk
        · replace hf := (if_pos c29).symm.trans hf
          refine g_aload_n 3 dX6_readStatement_59 rfl rfl ?_
          refine g_iload_n 0 dX6_readStatement_60 rfl rfl ?_
          refine g_bipush (v := 68) dX6_readStatement_61 rfl ?_
          obtain ⟨q9, e10, hf⟩ := bnd_some hf
          refine p_callV (As := [.int (b3 + (1 : Int32)), .int (68 : Int32)]) (rest := []) (t_X6_valueAt e10) cw_435 w_437 w_4 ob_151 rfl (Nat.le_of_ble_eq_true rfl) rfl rfl (Nat.le_of_ble_eq_true rfl) dX6_readStatement_63 ?_
          refine g_if_lt (tgt := 87) dX6_readStatement_66 (by decide) (fun c23 => ?_) (fun c23 => ?_)
          · replace hf := (if_pos c23).symm.trans hf
            refine g_iload 2 dX6_readStatement_87 rfl ?_
            refine g_bipush (v := 65) dX6_readStatement_89 rfl ?_
            refine g_icmp_lt (tgt := 120) dX6_readStatement_91 (by decide) (fun c15 => ?_) (fun c15 => ?_)
            · replace hf := (if_pos c15).symm.trans hf
              refine g_iinc (q := 6) (v := (b5 + (1 : Int32))) dX6_readStatement_120 rfl rfl (Nat.le_of_ble_eq_true rfl) rfl ?_
              refine g_goto (tgt := 14) dX6_readStatement_123 (by decide) ?_
              refine g_sub [4, 5, 1, 6, 0] rfl ?_
              exact ih (b3 + (1 : Int32)) b4 (b5 + (1 : Int32)) m _ hf hk
            · replace hf := (if_neg c15).symm.trans hf
              refine g_iload 2 dX6_readStatement_94 rfl ?_
              refine g_bipush (v := 90) dX6_readStatement_96 rfl ?_
              refine g_icmp_gt (tgt := 120) dX6_readStatement_98 (by decide) (fun c14 => ?_) (fun c14 => ?_)
              · replace hf := (if_pos c14).symm.trans hf
                refine g_iinc (q := 6) (v := (b5 + (1 : Int32))) dX6_readStatement_120 rfl rfl (Nat.le_of_ble_eq_true rfl) rfl ?_
                refine g_goto (tgt := 14) dX6_readStatement_123 (by decide) ?_
                refine g_sub [4, 5, 1, 6, 0] rfl ?_
                exact ih (b3 + (1 : Int32)) b4 (b5 + (1 : Int32)) m _ hf hk
              · replace hf := (if_neg c14).symm.trans hf
                refine g_iload 5 dX6_readStatement_101 rfl ?_
                refine g_bipush (v := 6) dX6_readStatement_103 rfl ?_
                refine g_icmp_ge (tgt := 120) dX6_readStatement_105 (by decide) (fun c13 => ?_) (fun c13 => ?_)
                · replace hf := (if_pos c13).symm.trans hf
                  refine g_iinc (q := 6) (v := (b5 + (1 : Int32))) dX6_readStatement_120 rfl rfl (Nat.le_of_ble_eq_true rfl) rfl ?_
                  refine g_goto (tgt := 14) dX6_readStatement_123 (by decide) ?_
                  refine g_sub [4, 5, 1, 6, 0] rfl ?_
                  exact ih (b3 + (1 : Int32)) b4 (b5 + (1 : Int32)) m _ hf hk
                · replace hf := (if_neg c13).symm.trans hf
                  refine g_aload_n 3 dX6_readStatement_108 rfl rfl ?_
                  refine gf_177 dX6_readStatement_109 rfl ob_151 rfl ?_
                  refine g_iload 5 dX6_readStatement_112 rfl ?_
                  refine g_iload 1 dX6_readStatement_114 rfl ?_
                  obtain ⟨m11, e12, hf⟩ := bnd_some hf
                  refine p_iast dX6_readStatement_116 at_153 e12 ?_
                  refine g_iinc (q := 5) (v := (b4 + (1 : Int32))) dX6_readStatement_117 rfl rfl (Nat.le_of_ble_eq_true rfl) rfl ?_
                  refine g_iinc (q := 6) (v := (b5 + (1 : Int32))) dX6_readStatement_120 rfl rfl (Nat.le_of_ble_eq_true rfl) rfl ?_
                  refine g_goto (tgt := 14) dX6_readStatement_123 (by decide) ?_
                  refine g_sub [5, 6, 2, 1, 0] rfl ?_
                  exact ih (b3 + (1 : Int32)) (b4 + (1 : Int32)) (b5 + (1 : Int32)) m11 _ hf hk
          · replace hf := (if_neg c23).symm.trans hf
            refine g_iload 1 dX6_readStatement_69 rfl ?_
            refine g_bipush (v := 10) dX6_readStatement_71 rfl ?_
            refine g_imul dX6_readStatement_73 ?_
            refine g_aload_n 3 dX6_readStatement_74 rfl rfl ?_
            refine g_iload_n 0 dX6_readStatement_75 rfl rfl ?_
            refine g_bipush (v := 68) dX6_readStatement_76 rfl ?_
            obtain ⟨q16, e17, hf⟩ := bnd_some hf
            refine p_callV (As := [.int (b3 + (1 : Int32)), .int (68 : Int32)]) (rest := [.int (q7 * (10 : Int32))]) (t_X6_valueAt e17) cw_435 w_437 w_4 ob_151 rfl (Nat.le_of_ble_eq_true rfl) rfl rfl (Nat.le_of_ble_eq_true rfl) dX6_readStatement_78 ?_
            refine g_iadd dX6_readStatement_81 ?_
            refine g_istore dX6_readStatement_82 (Nat.le_of_ble_eq_true rfl) rfl ?_
            refine g_iinc (q := 1) (v := ((b3 + (1 : Int32)) + (1 : Int32))) dX6_readStatement_84 rfl rfl (Nat.le_of_ble_eq_true rfl) rfl ?_
            refine g_iload 2 dX6_readStatement_87 rfl ?_
            refine g_bipush (v := 65) dX6_readStatement_89 rfl ?_
            refine g_icmp_lt (tgt := 120) dX6_readStatement_91 (by decide) (fun c22 => ?_) (fun c22 => ?_)
            · replace hf := (if_pos c22).symm.trans hf
              refine g_iinc (q := 6) (v := (b5 + (1 : Int32))) dX6_readStatement_120 rfl rfl (Nat.le_of_ble_eq_true rfl) rfl ?_
              refine g_goto (tgt := 14) dX6_readStatement_123 (by decide) ?_
              refine g_sub [4, 5, 1, 6, 0] rfl ?_
              exact ih ((b3 + (1 : Int32)) + (1 : Int32)) b4 (b5 + (1 : Int32)) m _ hf hk
            · replace hf := (if_neg c22).symm.trans hf
              refine g_iload 2 dX6_readStatement_94 rfl ?_
              refine g_bipush (v := 90) dX6_readStatement_96 rfl ?_
              refine g_icmp_gt (tgt := 120) dX6_readStatement_98 (by decide) (fun c21 => ?_) (fun c21 => ?_)
              · replace hf := (if_pos c21).symm.trans hf
                refine g_iinc (q := 6) (v := (b5 + (1 : Int32))) dX6_readStatement_120 rfl rfl (Nat.le_of_ble_eq_true rfl) rfl ?_
                refine g_goto (tgt := 14) dX6_readStatement_123 (by decide) ?_
                refine g_sub [4, 5, 1, 6, 0] rfl ?_
                exact ih ((b3 + (1 : Int32)) + (1 : Int32)) b4 (b5 + (1 : Int32)) m _ hf hk
              · replace hf := (if_neg c21).symm.trans hf
                refine g_iload 5 dX6_readStatement_101 rfl ?_
                refine g_bipush (v := 6) dX6_readStatement_103 rfl ?_
                refine g_icmp_ge (tgt := 120) dX6_readStatement_105 (by decide) (fun c20 => ?_) (fun c20 => ?_)
                · replace hf := (if_pos c20).symm.trans hf
                  refine g_iinc (q := 6) (v := (b5 + (1 : Int32))) dX6_readStatement_120 rfl rfl (Nat.le_of_ble_eq_true rfl) rfl ?_
                  refine g_goto (tgt := 14) dX6_readStatement_123 (by decide) ?_
                  refine g_sub [4, 5, 1, 6, 0] rfl ?_
                  exact ih ((b3 + (1 : Int32)) + (1 : Int32)) b4 (b5 + (1 : Int32)) m _ hf hk
                · replace hf := (if_neg c20).symm.trans hf
                  refine g_aload_n 3 dX6_readStatement_108 rfl rfl ?_
                  refine gf_177 dX6_readStatement_109 rfl ob_151 rfl ?_
                  refine g_iload 5 dX6_readStatement_112 rfl ?_
                  refine g_iload 1 dX6_readStatement_114 rfl ?_
                  obtain ⟨m18, e19, hf⟩ := bnd_some hf
                  refine p_iast dX6_readStatement_116 at_153 e19 ?_
                  refine g_iinc (q := 5) (v := (b4 + (1 : Int32))) dX6_readStatement_117 rfl rfl (Nat.le_of_ble_eq_true rfl) rfl ?_
                  refine g_iinc (q := 6) (v := (b5 + (1 : Int32))) dX6_readStatement_120 rfl rfl (Nat.le_of_ble_eq_true rfl) rfl ?_
                  refine g_goto (tgt := 14) dX6_readStatement_123 (by decide) ?_
                  refine g_sub [5, 6, 2, 1, 0] rfl ?_
                  exact ih ((b3 + (1 : Int32)) + (1 : Int32)) (b4 + (1 : Int32)) (b5 + (1 : Int32)) m18 _ hf hk
      · replace hf := (if_neg c30).symm.trans hf
        refine g_iconst (v := -1) dX6_readStatement_45 rfl ?_
        refine g_iload_n 4 dX6_readStatement_46 rfl rfl ?_
        refine g_isub dX6_readStatement_47 ?_
        cases hf
        obtain ⟨rfl, rfl⟩ := hk
        exact g_iret dX6_readStatement_48 .int rfl rfl

set_option maxRecDepth 100000 in
theorem t_X6_readStatement {V : eV} {a1 : Int32}  {m : mM} {q : Int32 × mM} (hf : f_X6_readStatement a1 m = some q) : eE V 5 yX6_readStatement cX6_readStatement 8 (some .int) [.ref (vB V + 151), .int a1] (hS m) (some (.int q.1)) (hS q.2) := by
  refine eE_of (by decide) (Nat.le_of_ble_eq_true rfl) ?_
  show gG V k_X6_readStatement 0 [(0, .ref (vB V + 151)), (1, .int a1)] [] (hS m) _ _
  unfold f_X6_readStatement at hf
  refine g_aload_n 0 dX6_readStatement_0 rfl rfl ?_
  refine g_iload_n 1 dX6_readStatement_1 rfl rfl ?_
  obtain ⟨q1, e2, hf⟩ := bnd_some hf
  refine p_callVr (As := [.int a1]) (rest := []) (t_X6_formAt e2) cw_376 w_378 w_2 ob_151 rfl (Nat.le_of_ble_eq_true rfl) rfl rfl (Nat.le_of_ble_eq_true rfl) dX6_readStatement_2 ?_
  refine g_astore_n dX6_readStatement_5 rfl (Nat.le_of_ble_eq_true rfl) rfl ?_
  refine g_iload_n 2 dX6_readStatement_6 rfl rfl ?_
  refine g_istore_n dX6_readStatement_7 rfl (Nat.le_of_ble_eq_true rfl) rfl ?_
  refine g_iconst (v := 0) dX6_readStatement_8 rfl ?_
  refine g_istore dX6_readStatement_9 (Nat.le_of_ble_eq_true rfl) rfl ?_
  refine g_iconst (v := 0) dX6_readStatement_11 rfl ?_
  refine g_istore dX6_readStatement_12 (Nat.le_of_ble_eq_true rfl) rfl ?_
  refine g_sub [4, 3, 2, 1, 0] rfl ?_
  obtain ⟨o32, e34, hf⟩ := bnd_some hf
  refine t_X6_readStatement_L14 (V := V) q1 fU a1 (0 : Int32) (0 : Int32) m _ e34 ?_
  rcases o32 with zq | x33
  · replace hf := ora_l hf
    cases hf
    exact ⟨rfl, rfl⟩
  · replace hf := ora_r hf
    show gG V _ _ _ _ _ _ _
    refine g_iload_n 0 dX6_readStatement_126 rfl rfl ?_
    cases hf
    exact g_iret dX6_readStatement_127 .int rfl rfl

abbrev k_X6_formFault : kX := (cX6_formFault, "WhoseHourItIs$Tape", "formFault", some .int, 4, 6)
def f_X6_formFault_L4 : Nat → Int32 → Int32 → mM → Option ((Int32 × mM) ⊕ (mM))
  | 0, _, _, _ => none
  | n + 1, b1, b2, m =>
      if (64 : Int32) ≤ b2 then (
      some (.inr m))
      else (
      if b1 < (m 151 0) then (
      bnd (f_X6_readStatement b1 m) fun q1 =>
      if 0 ≤ q1.1 then (
      f_X6_formFault_L4 n q1.1 (b2 + (1 : Int32)) q1.2)
      else (
      some (.inl (((-1000 : Int32) - ((-1 : Int32) - q1.1)), q1.2))))
      else (
      if b2 = 0 then (
      bnd (f_X6_readStatement b1 m) fun q4 =>
      if 0 ≤ q4.1 then (
      f_X6_formFault_L4 n q4.1 (b2 + (1 : Int32)) q4.2)
      else (
      some (.inl (((-1000 : Int32) - ((-1 : Int32) - q4.1)), q4.2))))
      else (
      some (.inr m))))
def f_X6_formFault  (m : mM) : Option (Int32 × mM) :=
bnd (f_X6_formFault_L4 fU (0 : Int32) (0 : Int32) m) fun o10 =>
ora o10 (fun zq => some zq) fun x11 =>
some ((0 : Int32), x11)
set_option maxRecDepth 100000 in
theorem t_X6_formFault_L4 {V : eV} {r : Option Value} {h' : aH} : ∀ (n : Nat) (b1 : Int32) (b2 : Int32) (m : mM) (o : (Int32 × mM) ⊕ (mM)), f_X6_formFault_L4 n b1 b2 m = some o → lxI hS o r h' (fun x => gG V k_X6_formFault 48 [] [] (hS x) r h') → gG V k_X6_formFault 4 [(0, .ref (vB V + 151)), (1, .int b1), (2, .int b2)] [] (hS m) r h' := by
  intro n
  induction n with
  | zero => intro b1 b2 m o hf; cases hf
  | succ n ih =>
    intro b1 b2 m o hf hk
    rw [f_X6_formFault_L4] at hf
    refine g_iload_n 2 dX6_formFault_4 rfl rfl ?_
    refine g_bipush (v := 64) dX6_formFault_5 rfl ?_
    refine g_icmp_ge (tgt := 48) dX6_formFault_7 (by decide) (fun c9 => ?_) (fun c9 => ?_)
    · replace hf := (if_pos c9).symm.trans hf
      cases hf
      refine g_sub [] rfl ?_
      exact hk
    · replace hf := (if_neg c9).symm.trans hf
      refine g_iload_n 1 dX6_formFault_10 rfl rfl ?_
      refine g_aload_n 0 dX6_formFault_11 rfl rfl ?_
      refine gf_174 dX6_formFault_12 rfl ob_151 rfl ?_
      refine g_icmp_lt (tgt := 22) dX6_formFault_15 (by decide) (fun c8 => ?_) (fun c8 => ?_)
      · replace hf := (if_pos c8).symm.trans hf
        refine g_aload_n 0 dX6_formFault_22 rfl rfl ?_
        refine g_iload_n 1 dX6_formFault_23 rfl rfl ?_
        obtain ⟨q1, e2, hf⟩ := bnd_some hf
        refine p_callV (As := [.int b1]) (rest := []) (t_X6_readStatement e2) cw_372 w_374 w_1 ob_151 rfl (Nat.le_of_ble_eq_true rfl) rfl rfl (Nat.le_of_ble_eq_true rfl) dX6_formFault_24 ?_
        refine g_istore_n dX6_formFault_27 rfl (Nat.le_of_ble_eq_true rfl) rfl ?_
        refine g_iload_n 0 dX6_formFault_28 rfl rfl ?_
        refine g_if_ge (tgt := 40) dX6_formFault_29 (by decide) (fun c3 => ?_) (fun c3 => ?_)
        · replace hf := (if_pos c3).symm.trans hf
          refine g_iload_n 0 dX6_formFault_40 rfl rfl ?_
          refine g_istore_n dX6_formFault_41 rfl (Nat.le_of_ble_eq_true rfl) rfl ?_
          refine g_iinc (q := 3) (v := (b2 + (1 : Int32))) dX6_formFault_42 rfl rfl (Nat.le_of_ble_eq_true rfl) rfl ?_
          refine g_goto (tgt := 4) dX6_formFault_45 (by decide) ?_
          refine g_sub [3, 1, 0] rfl ?_
          exact ih q1.1 (b2 + (1 : Int32)) q1.2 _ hf hk
        · replace hf := (if_neg c3).symm.trans hf
          refine g_sipush (v := -1000) dX6_formFault_32 rfl ?_
          refine g_iconst (v := -1) dX6_formFault_35 rfl ?_
          refine g_iload_n 0 dX6_formFault_36 rfl rfl ?_
          refine g_isub dX6_formFault_37 ?_
          refine g_isub dX6_formFault_38 ?_
          cases hf
          obtain ⟨rfl, rfl⟩ := hk
          exact g_iret dX6_formFault_39 .int rfl rfl
      · replace hf := (if_neg c8).symm.trans hf
        refine g_iload_n 2 dX6_formFault_18 rfl rfl ?_
        refine g_if_ne (tgt := 48) dX6_formFault_19 (by decide) (fun c7 => ?_) (fun c7 => ?_)
        · replace hf := (if_neg c7).symm.trans hf
          cases hf
          refine g_sub [] rfl ?_
          exact hk
        · replace hf := (if_pos c7).symm.trans hf
          refine g_aload_n 0 dX6_formFault_22 rfl rfl ?_
          refine g_iload_n 1 dX6_formFault_23 rfl rfl ?_
          obtain ⟨q4, e5, hf⟩ := bnd_some hf
          refine p_callV (As := [.int b1]) (rest := []) (t_X6_readStatement e5) cw_372 w_374 w_1 ob_151 rfl (Nat.le_of_ble_eq_true rfl) rfl rfl (Nat.le_of_ble_eq_true rfl) dX6_formFault_24 ?_
          refine g_istore_n dX6_formFault_27 rfl (Nat.le_of_ble_eq_true rfl) rfl ?_
          refine g_iload_n 0 dX6_formFault_28 rfl rfl ?_
          refine g_if_ge (tgt := 40) dX6_formFault_29 (by decide) (fun c6 => ?_) (fun c6 => ?_)
          · replace hf := (if_pos c6).symm.trans hf
            refine g_iload_n 0 dX6_formFault_40 rfl rfl ?_
            refine g_istore_n dX6_formFault_41 rfl (Nat.le_of_ble_eq_true rfl) rfl ?_
            refine g_iinc (q := 3) (v := (b2 + (1 : Int32))) dX6_formFault_42 rfl rfl (Nat.le_of_ble_eq_true rfl) rfl ?_
            refine g_goto (tgt := 4) dX6_formFault_45 (by decide) ?_
            refine g_sub [3, 1, 0] rfl ?_
            exact ih q4.1 (b2 + (1 : Int32)) q4.2 _ hf hk
          · replace hf := (if_neg c6).symm.trans hf
            refine g_sipush (v := -1000) dX6_formFault_32 rfl ?_
            refine g_iconst (v := -1) dX6_formFault_35 rfl ?_
            refine g_iload_n 0 dX6_formFault_36 rfl rfl ?_
            refine g_isub dX6_formFault_37 ?_
            refine g_isub dX6_formFault_38 ?_
            cases hf
            obtain ⟨rfl, rfl⟩ := hk
            exact g_iret dX6_formFault_39 .int rfl rfl

set_option maxRecDepth 100000 in
theorem t_X6_formFault {V : eV}  {m : mM} {q : Int32 × mM} (hf : f_X6_formFault  m = some q) : eE V 6 yX6_formFault cX6_formFault 4 (some .int) [.ref (vB V + 151)] (hS m) (some (.int q.1)) (hS q.2) := by
  refine eE_of (by decide) (Nat.le_of_ble_eq_true rfl) ?_
  show gG V k_X6_formFault 0 [(0, .ref (vB V + 151))] [] (hS m) _ _
  unfold f_X6_formFault at hf
  refine g_iconst (v := 0) dX6_formFault_0 rfl ?_
  refine g_istore_n dX6_formFault_1 rfl (Nat.le_of_ble_eq_true rfl) rfl ?_
  refine g_iconst (v := 0) dX6_formFault_2 rfl ?_
  refine g_istore_n dX6_formFault_3 rfl (Nat.le_of_ble_eq_true rfl) rfl ?_
  refine g_sub [2, 1, 0] rfl ?_
  obtain ⟨o10, e12, hf⟩ := bnd_some hf
  refine t_X6_formFault_L4 (V := V) fU (0 : Int32) (0 : Int32) m _ e12 ?_
  rcases o10 with zq | x11
  · replace hf := ora_l hf
    cases hf
    exact ⟨rfl, rfl⟩
  · replace hf := ora_r hf
    show gG V _ _ _ _ _ _ _
    refine g_iconst (v := 0) dX6_formFault_48 rfl ?_
    cases hf
    exact g_iret dX6_formFault_49 .int rfl rfl

abbrev k_X7_copyFrom_51_1 : kX := (cX7_copyFrom, "WhoseHourItIs$Town", "copyFrom", none, 3, 1)
def f_X7_copyFrom_51_1_L42 : Nat → Int32 → mM → Option (mM)
  | 0, _, _ => none
  | n + 1, b2, m =>
      if (8 : Int32) ≤ b2 then (
      some m)
      else (
      bnd (ckR 8 b2) fun j11 =>
      bnd (ckR 8 b2) fun j13 =>
      bnd (some (m_cpy m (3 + j11) (53 + j13) 3)) fun m15 =>
      f_X7_copyFrom_51_1_L42 n (b2 + (1 : Int32)) m15)
def f_X7_copyFrom_51_1_L74 : Nat → Int32 → mM → Option (mM)
  | 0, _, _ => none
  | n + 1, b2, m =>
      if (28 : Int32) ≤ b2 then (
      some m)
      else (
      bnd (ckR 28 b2) fun j20 =>
      bnd (ckR 28 b2) fun j22 =>
      bnd (some (m_cpy m (15 + j20) (65 + j22) 3)) fun m24 =>
      f_X7_copyFrom_51_1_L74 n (b2 + (1 : Int32)) m24)
def f_X7_copyFrom_51_1_L106 : Nat → Int32 → mM → Option (mM)
  | 0, _, _ => none
  | n + 1, b2, m =>
      if (6 : Int32) ≤ b2 then (
      some m)
      else (
      bnd (ckR 6 b2) fun j29 =>
      bnd (ckR 6 b2) fun j31 =>
      bnd (some (m_cpy m (44 + j29) (94 + j31) 6)) fun m33 =>
      f_X7_copyFrom_51_1_L106 n (b2 + (1 : Int32)) m33)
def f_X7_copyFrom_51_1  (m : mM) : Option (mM) :=
bnd (some (m_up m 51 0 (m 1 0))) fun m1 =>
bnd (some (m_up m1 51 1 (m1 1 1))) fun m3 =>
bnd (some (m_up m3 51 2 (m3 1 2))) fun m5 =>
bnd (some (m_up m5 51 3 (m5 1 3))) fun m7 =>
bnd (some (m_up m7 51 4 (m7 1 4))) fun m9 =>
bnd (f_X7_copyFrom_51_1_L42 fU (0 : Int32) m9) fun o18 =>
bnd (f_X7_copyFrom_51_1_L74 fU (0 : Int32) o18) fun o27 =>
bnd (f_X7_copyFrom_51_1_L106 fU (0 : Int32) o27) fun o36 =>
bnd (some (m_cpy o36 11 61 8)) fun m38 =>
bnd (some (m_cpy m38 12 62 8)) fun m40 =>
bnd (some (m_cpy m40 13 63 28)) fun m42 =>
bnd (some (m_cpy m42 50 100 4)) fun m44 =>
some m44
set_option maxRecDepth 100000 in
theorem t_X7_copyFrom_51_1_L42 {V : eV} {r : Option Value} {h' : aH} : ∀ (n : Nat) (b2 : Int32) (m : mM) (o : mM), f_X7_copyFrom_51_1_L42 n b2 m = some o → gG V k_X7_copyFrom_51_1 72 [(0, .ref (vB V + 51)), (1, .ref (vB V + 1))] [] (hS o) r h' → gG V k_X7_copyFrom_51_1 42 [(0, .ref (vB V + 51)), (1, .ref (vB V + 1)), (2, .int b2)] [] (hS m) r h' := by
  intro n
  induction n with
  | zero => intro b2 m o hf; cases hf
  | succ n ih =>
    intro b2 m o hf hk
    rw [f_X7_copyFrom_51_1_L42] at hf
    refine g_iload_n 2 dX7_copyFrom_42 rfl rfl ?_
    refine g_bipush (v := 8) dX7_copyFrom_43 rfl ?_
    refine g_icmp_ge (tgt := 72) dX7_copyFrom_45 (by decide) (fun c17 => ?_) (fun c17 => ?_)
    · replace hf := (if_pos c17).symm.trans hf
      cases hf
      refine g_sub [0, 1] rfl ?_
      exact hk
    · replace hf := (if_neg c17).symm.trans hf
      refine g_aload_n 1 dX7_copyFrom_48 rfl rfl ?_
      refine gf_111 dX7_copyFrom_49 rfl ob_1 rfl ?_
      refine g_iload_n 2 dX7_copyFrom_52 rfl rfl ?_
      obtain ⟨j11, e12, hf⟩ := bnd_some hf
      refine p_aald dX7_copyFrom_53 rt_2 e12 (fun hj11 => ?_)
      refine g_iconst (v := 0) dX7_copyFrom_54 rfl ?_
      refine g_aload_n 0 dX7_copyFrom_55 rfl rfl ?_
      refine gf_111 dX7_copyFrom_56 rfl ob_51 rfl ?_
      refine g_iload_n 2 dX7_copyFrom_59 rfl rfl ?_
      obtain ⟨j13, e14, hf⟩ := bnd_some hf
      refine p_aald dX7_copyFrom_60 rt_52 e14 (fun hj13 => ?_)
      refine g_iconst (v := 0) dX7_copyFrom_61 rfl ?_
      refine g_iconst (v := 3) dX7_copyFrom_62 rfl ?_
      obtain ⟨m15, e16, hf⟩ := bnd_some hf
      cases e16
      refine p_copy (N := 3) w_503 w_505 w_504 w_73 dX7_copyFrom_63 (Nat.le_of_ble_eq_true rfl) (ar_3 hj11) (ar_53 hj13) (by decide) rfl (by decide) (by decide) (Nat.le_of_ble_eq_true rfl) ?_
      generalize m_cpy m (3 + j11) (53 + j13) 3 = m15 at hf ⊢
      refine g_iinc (q := 2) (v := (b2 + (1 : Int32))) dX7_copyFrom_66 rfl rfl (Nat.le_of_ble_eq_true rfl) rfl ?_
      refine g_goto (tgt := 42) dX7_copyFrom_69 (by decide) ?_
      refine g_sub [1, 2, 0] rfl ?_
      exact ih (b2 + (1 : Int32)) m15 _ hf hk

set_option maxRecDepth 100000 in
theorem t_X7_copyFrom_51_1_L74 {V : eV} {r : Option Value} {h' : aH} : ∀ (n : Nat) (b2 : Int32) (m : mM) (o : mM), f_X7_copyFrom_51_1_L74 n b2 m = some o → gG V k_X7_copyFrom_51_1 104 [(0, .ref (vB V + 51)), (1, .ref (vB V + 1))] [] (hS o) r h' → gG V k_X7_copyFrom_51_1 74 [(0, .ref (vB V + 51)), (1, .ref (vB V + 1)), (2, .int b2)] [] (hS m) r h' := by
  intro n
  induction n with
  | zero => intro b2 m o hf; cases hf
  | succ n ih =>
    intro b2 m o hf hk
    rw [f_X7_copyFrom_51_1_L74] at hf
    refine g_iload_n 2 dX7_copyFrom_74 rfl rfl ?_
    refine g_bipush (v := 28) dX7_copyFrom_75 rfl ?_
    refine g_icmp_ge (tgt := 104) dX7_copyFrom_77 (by decide) (fun c26 => ?_) (fun c26 => ?_)
    · replace hf := (if_pos c26).symm.trans hf
      cases hf
      refine g_sub [0, 1] rfl ?_
      exact hk
    · replace hf := (if_neg c26).symm.trans hf
      refine g_aload_n 1 dX7_copyFrom_80 rfl rfl ?_
      refine gf_127 dX7_copyFrom_81 rfl ob_1 rfl ?_
      refine g_iload_n 2 dX7_copyFrom_84 rfl rfl ?_
      obtain ⟨j20, e21, hf⟩ := bnd_some hf
      refine p_aald dX7_copyFrom_85 rt_14 e21 (fun hj20 => ?_)
      refine g_iconst (v := 0) dX7_copyFrom_86 rfl ?_
      refine g_aload_n 0 dX7_copyFrom_87 rfl rfl ?_
      refine gf_127 dX7_copyFrom_88 rfl ob_51 rfl ?_
      refine g_iload_n 2 dX7_copyFrom_91 rfl rfl ?_
      obtain ⟨j22, e23, hf⟩ := bnd_some hf
      refine p_aald dX7_copyFrom_92 rt_64 e23 (fun hj22 => ?_)
      refine g_iconst (v := 0) dX7_copyFrom_93 rfl ?_
      refine g_iconst (v := 3) dX7_copyFrom_94 rfl ?_
      obtain ⟨m24, e25, hf⟩ := bnd_some hf
      cases e25
      refine p_copy (N := 3) w_503 w_505 w_504 w_73 dX7_copyFrom_95 (Nat.le_of_ble_eq_true rfl) (ar_15 hj20) (ar_65 hj22) (by decide) rfl (by decide) (by decide) (Nat.le_of_ble_eq_true rfl) ?_
      generalize m_cpy m (15 + j20) (65 + j22) 3 = m24 at hf ⊢
      refine g_iinc (q := 2) (v := (b2 + (1 : Int32))) dX7_copyFrom_98 rfl rfl (Nat.le_of_ble_eq_true rfl) rfl ?_
      refine g_goto (tgt := 74) dX7_copyFrom_101 (by decide) ?_
      refine g_sub [1, 2, 0] rfl ?_
      exact ih (b2 + (1 : Int32)) m24 _ hf hk

set_option maxRecDepth 100000 in
theorem t_X7_copyFrom_51_1_L106 {V : eV} {r : Option Value} {h' : aH} : ∀ (n : Nat) (b2 : Int32) (m : mM) (o : mM), f_X7_copyFrom_51_1_L106 n b2 m = some o → gG V k_X7_copyFrom_51_1 137 [(0, .ref (vB V + 51)), (1, .ref (vB V + 1))] [] (hS o) r h' → gG V k_X7_copyFrom_51_1 106 [(0, .ref (vB V + 51)), (1, .ref (vB V + 1)), (2, .int b2)] [] (hS m) r h' := by
  intro n
  induction n with
  | zero => intro b2 m o hf; cases hf
  | succ n ih =>
    intro b2 m o hf hk
    rw [f_X7_copyFrom_51_1_L106] at hf
    refine g_iload_n 2 dX7_copyFrom_106 rfl rfl ?_
    refine g_bipush (v := 6) dX7_copyFrom_107 rfl ?_
    refine g_icmp_ge (tgt := 137) dX7_copyFrom_109 (by decide) (fun c35 => ?_) (fun c35 => ?_)
    · replace hf := (if_pos c35).symm.trans hf
      cases hf
      refine g_sub [0, 1] rfl ?_
      exact hk
    · replace hf := (if_neg c35).symm.trans hf
      refine g_aload_n 1 dX7_copyFrom_112 rfl rfl ?_
      refine gf_131 dX7_copyFrom_113 rfl ob_1 rfl ?_
      refine g_iload_n 2 dX7_copyFrom_116 rfl rfl ?_
      obtain ⟨j29, e30, hf⟩ := bnd_some hf
      refine p_aald dX7_copyFrom_117 rt_43 e30 (fun hj29 => ?_)
      refine g_iconst (v := 0) dX7_copyFrom_118 rfl ?_
      refine g_aload_n 0 dX7_copyFrom_119 rfl rfl ?_
      refine gf_131 dX7_copyFrom_120 rfl ob_51 rfl ?_
      refine g_iload_n 2 dX7_copyFrom_123 rfl rfl ?_
      obtain ⟨j31, e32, hf⟩ := bnd_some hf
      refine p_aald dX7_copyFrom_124 rt_93 e32 (fun hj31 => ?_)
      refine g_iconst (v := 0) dX7_copyFrom_125 rfl ?_
      refine g_bipush (v := 6) dX7_copyFrom_126 rfl ?_
      obtain ⟨m33, e34, hf⟩ := bnd_some hf
      cases e34
      refine p_copy (N := 6) w_503 w_505 w_504 w_73 dX7_copyFrom_128 (Nat.le_of_ble_eq_true rfl) (ar_44 hj29) (ar_94 hj31) (by decide) rfl (by decide) (by decide) (Nat.le_of_ble_eq_true rfl) ?_
      generalize m_cpy m (44 + j29) (94 + j31) 6 = m33 at hf ⊢
      refine g_iinc (q := 2) (v := (b2 + (1 : Int32))) dX7_copyFrom_131 rfl rfl (Nat.le_of_ble_eq_true rfl) rfl ?_
      refine g_goto (tgt := 106) dX7_copyFrom_134 (by decide) ?_
      refine g_sub [1, 2, 0] rfl ?_
      exact ih (b2 + (1 : Int32)) m33 _ hf hk

set_option maxRecDepth 100000 in
theorem t_X7_copyFrom_51_1 {V : eV}  {m : mM} {q : mM} (hf : f_X7_copyFrom_51_1  m = some q) : eE V 1 yX7_copyFrom cX7_copyFrom 3 (none) [.ref (vB V + 51), .ref (vB V + 1)] (hS m) none (hS q) := by
  refine eE_of (by decide) (Nat.le_of_ble_eq_true rfl) ?_
  show gG V k_X7_copyFrom_51_1 0 [(0, .ref (vB V + 51)), (1, .ref (vB V + 1))] [] (hS m) _ _
  unfold f_X7_copyFrom_51_1 at hf
  refine g_aload_n 0 dX7_copyFrom_0 rfl rfl ?_
  refine g_aload_n 1 dX7_copyFrom_1 rfl rfl ?_
  refine gf_91 dX7_copyFrom_2 rfl ob_1 rfl ?_
  obtain ⟨m1, e2, hf⟩ := bnd_some hf
  cases e2
  refine pf_91 dX7_copyFrom_5 rfl ob_51 rfl ?_
  generalize m_up m 51 0 (m 1 0) = m1 at hf ⊢
  refine g_aload_n 0 dX7_copyFrom_8 rfl rfl ?_
  refine g_aload_n 1 dX7_copyFrom_9 rfl rfl ?_
  refine gf_97 dX7_copyFrom_10 rfl ob_1 rfl ?_
  obtain ⟨m3, e4, hf⟩ := bnd_some hf
  cases e4
  refine pf_97 dX7_copyFrom_13 rfl ob_51 rfl ?_
  generalize m_up m1 51 1 (m1 1 1) = m3 at hf ⊢
  refine g_aload_n 0 dX7_copyFrom_16 rfl rfl ?_
  refine g_aload_n 1 dX7_copyFrom_17 rfl rfl ?_
  refine gf_103 dX7_copyFrom_18 rfl ob_1 rfl ?_
  obtain ⟨m5, e6, hf⟩ := bnd_some hf
  cases e6
  refine pf_103 dX7_copyFrom_21 rfl ob_51 rfl ?_
  generalize m_up m3 51 2 (m3 1 2) = m5 at hf ⊢
  refine g_aload_n 0 dX7_copyFrom_24 rfl rfl ?_
  refine g_aload_n 1 dX7_copyFrom_25 rfl rfl ?_
  refine gf_107 dX7_copyFrom_26 rfl ob_1 rfl ?_
  obtain ⟨m7, e8, hf⟩ := bnd_some hf
  cases e8
  refine pf_107 dX7_copyFrom_29 rfl ob_51 rfl ?_
  generalize m_up m5 51 3 (m5 1 3) = m7 at hf ⊢
  refine g_aload_n 0 dX7_copyFrom_32 rfl rfl ?_
  refine g_aload_n 1 dX7_copyFrom_33 rfl rfl ?_
  refine gf_109 dX7_copyFrom_34 rfl ob_1 rfl ?_
  obtain ⟨m9, e10, hf⟩ := bnd_some hf
  cases e10
  refine pf_109 dX7_copyFrom_37 rfl ob_51 rfl ?_
  generalize m_up m7 51 4 (m7 1 4) = m9 at hf ⊢
  refine g_iconst (v := 0) dX7_copyFrom_40 rfl ?_
  refine g_istore_n dX7_copyFrom_41 rfl (Nat.le_of_ble_eq_true rfl) rfl ?_
  refine g_sub [1, 2, 0] rfl ?_
  obtain ⟨o18, e19, hf⟩ := bnd_some hf
  refine t_X7_copyFrom_51_1_L42 (V := V) fU (0 : Int32) m9 _ e19 ?_
  refine g_iconst (v := 0) dX7_copyFrom_72 rfl ?_
  refine g_istore_n dX7_copyFrom_73 rfl (Nat.le_of_ble_eq_true rfl) rfl ?_
  refine g_sub [1, 2, 0] rfl ?_
  obtain ⟨o27, e28, hf⟩ := bnd_some hf
  refine t_X7_copyFrom_51_1_L74 (V := V) fU (0 : Int32) o18 _ e28 ?_
  refine g_iconst (v := 0) dX7_copyFrom_104 rfl ?_
  refine g_istore_n dX7_copyFrom_105 rfl (Nat.le_of_ble_eq_true rfl) rfl ?_
  refine g_sub [1, 2, 0] rfl ?_
  obtain ⟨o36, e37, hf⟩ := bnd_some hf
  refine t_X7_copyFrom_51_1_L106 (V := V) fU (0 : Int32) o27 _ e37 ?_
  refine g_aload_n 1 dX7_copyFrom_137 rfl rfl ?_
  refine gf_115 dX7_copyFrom_138 rfl ob_1 rfl ?_
  refine g_iconst (v := 0) dX7_copyFrom_141 rfl ?_
  refine g_aload_n 0 dX7_copyFrom_142 rfl rfl ?_
  refine gf_115 dX7_copyFrom_143 rfl ob_51 rfl ?_
  refine g_iconst (v := 0) dX7_copyFrom_146 rfl ?_
  refine g_bipush (v := 8) dX7_copyFrom_147 rfl ?_
  obtain ⟨m38, e39, hf⟩ := bnd_some hf
  cases e39
  refine p_copy (N := 8) w_503 w_505 w_504 w_73 dX7_copyFrom_149 (Nat.le_of_ble_eq_true rfl) at_11 at_61 (by decide) rfl (by decide) (by decide) (Nat.le_of_ble_eq_true rfl) ?_
  generalize m_cpy o36 11 61 8 = m38 at hf ⊢
  refine g_aload_n 1 dX7_copyFrom_152 rfl rfl ?_
  refine gf_119 dX7_copyFrom_153 rfl ob_1 rfl ?_
  refine g_iconst (v := 0) dX7_copyFrom_156 rfl ?_
  refine g_aload_n 0 dX7_copyFrom_157 rfl rfl ?_
  refine gf_119 dX7_copyFrom_158 rfl ob_51 rfl ?_
  refine g_iconst (v := 0) dX7_copyFrom_161 rfl ?_
  refine g_bipush (v := 8) dX7_copyFrom_162 rfl ?_
  obtain ⟨m40, e41, hf⟩ := bnd_some hf
  cases e41
  refine p_copy (N := 8) w_503 w_505 w_504 w_73 dX7_copyFrom_164 (Nat.le_of_ble_eq_true rfl) at_12 at_62 (by decide) rfl (by decide) (by decide) (Nat.le_of_ble_eq_true rfl) ?_
  generalize m_cpy m38 12 62 8 = m40 at hf ⊢
  refine g_aload_n 1 dX7_copyFrom_167 rfl rfl ?_
  refine gf_122 dX7_copyFrom_168 rfl ob_1 rfl ?_
  refine g_iconst (v := 0) dX7_copyFrom_171 rfl ?_
  refine g_aload_n 0 dX7_copyFrom_172 rfl rfl ?_
  refine gf_122 dX7_copyFrom_173 rfl ob_51 rfl ?_
  refine g_iconst (v := 0) dX7_copyFrom_176 rfl ?_
  refine g_bipush (v := 28) dX7_copyFrom_177 rfl ?_
  obtain ⟨m42, e43, hf⟩ := bnd_some hf
  cases e43
  refine p_copy (N := 28) w_503 w_505 w_504 w_73 dX7_copyFrom_179 (Nat.le_of_ble_eq_true rfl) at_13 at_63 (by decide) rfl (by decide) (by decide) (Nat.le_of_ble_eq_true rfl) ?_
  generalize m_cpy m40 13 63 28 = m42 at hf ⊢
  refine g_aload_n 1 dX7_copyFrom_182 rfl rfl ?_
  refine gf_139 dX7_copyFrom_183 rfl ob_1 rfl ?_
  refine g_iconst (v := 0) dX7_copyFrom_186 rfl ?_
  refine g_aload_n 0 dX7_copyFrom_187 rfl rfl ?_
  refine gf_139 dX7_copyFrom_188 rfl ob_51 rfl ?_
  refine g_iconst (v := 0) dX7_copyFrom_191 rfl ?_
  refine g_iconst (v := 4) dX7_copyFrom_192 rfl ?_
  obtain ⟨m44, e45, hf⟩ := bnd_some hf
  cases e45
  refine p_copy (N := 4) w_503 w_505 w_504 w_73 dX7_copyFrom_193 (Nat.le_of_ble_eq_true rfl) at_50 at_100 (by decide) rfl (by decide) (by decide) (Nat.le_of_ble_eq_true rfl) ?_
  generalize m_cpy m42 50 100 4 = m44 at hf ⊢
  cases hf
  exact g_vret dX7_copyFrom_196 rfl

abbrev k_X7_addHolder : kX := (cX7_addHolder, "WhoseHourItIs$Town", "addHolder", some .boolean, 2, 1)
def f_X7_addHolder  (m : mM) : Option (Int32 × mM) :=
if (m 51 0) < (8 : Int32) then (
bnd (ckR 8 (m 51 0)) fun j1 =>
bnd (some (m_cpy m 153 (53 + j1) 3)) fun m3 =>
bnd (some (m_up m3 51 0 ((m3 51 0) + (1 : Int32)))) fun m5 =>
some ((1 : Int32), m5))
else (
some ((0 : Int32), m))
set_option maxRecDepth 100000 in
theorem t_X7_addHolder {V : eV}  {m : mM} {q : Int32 × mM} (hf : f_X7_addHolder  m = some q) : eE V 1 yX7_addHolder cX7_addHolder 2 (some .boolean) [.ref (vB V + 51), .ref (vB V + 153)] (hS m) (some (.int q.1)) (hS q.2) := by
  refine eE_of (by decide) (Nat.le_of_ble_eq_true rfl) ?_
  show gG V k_X7_addHolder 0 [(0, .ref (vB V + 51)), (1, .ref (vB V + 153))] [] (hS m) _ _
  unfold f_X7_addHolder at hf
  refine g_aload_n 0 dX7_addHolder_0 rfl rfl ?_
  refine gf_91 dX7_addHolder_1 rfl ob_51 rfl ?_
  refine g_bipush (v := 8) dX7_addHolder_4 rfl ?_
  refine g_icmp_lt (tgt := 11) dX7_addHolder_6 (by decide) (fun c7 => ?_) (fun c7 => ?_)
  · replace hf := (if_pos c7).symm.trans hf
    refine g_aload_n 1 dX7_addHolder_11 rfl rfl ?_
    refine g_iconst (v := 0) dX7_addHolder_12 rfl ?_
    refine g_aload_n 0 dX7_addHolder_13 rfl rfl ?_
    refine gf_111 dX7_addHolder_14 rfl ob_51 rfl ?_
    refine g_aload_n 0 dX7_addHolder_17 rfl rfl ?_
    refine gf_91 dX7_addHolder_18 rfl ob_51 rfl ?_
    obtain ⟨j1, e2, hf⟩ := bnd_some hf
    refine p_aald dX7_addHolder_21 rt_52 e2 (fun hj1 => ?_)
    refine g_iconst (v := 0) dX7_addHolder_22 rfl ?_
    refine g_iconst (v := 3) dX7_addHolder_23 rfl ?_
    obtain ⟨m3, e4, hf⟩ := bnd_some hf
    cases e4
    refine p_copy (N := 3) w_503 w_505 w_504 w_73 dX7_addHolder_24 (Nat.le_of_ble_eq_true rfl) at_153 (ar_53 hj1) (by decide) rfl (by decide) (by decide) (Nat.le_of_ble_eq_true rfl) ?_
    generalize m_cpy m 153 (53 + j1) 3 = m3 at hf ⊢
    refine g_aload_n 0 dX7_addHolder_27 rfl rfl ?_
    refine g_dup dX7_addHolder_28 rfl ?_
    refine gf_91 dX7_addHolder_29 rfl ob_51 rfl ?_
    refine g_iconst (v := 1) dX7_addHolder_32 rfl ?_
    refine g_iadd dX7_addHolder_33 ?_
    obtain ⟨m5, e6, hf⟩ := bnd_some hf
    cases e6
    refine pf_91 dX7_addHolder_34 rfl ob_51 rfl ?_
    generalize m_up m3 51 0 ((m3 51 0) + (1 : Int32)) = m5 at hf ⊢
    refine g_iconst (v := 1) dX7_addHolder_37 rfl ?_
    cases hf
    exact g_iret dX7_addHolder_38 .boolean rfl rfl
  · replace hf := (if_neg c7).symm.trans hf
    refine g_iconst (v := 0) dX7_addHolder_9 rfl ?_
    cases hf
    exact g_iret dX7_addHolder_10 .boolean rfl rfl

abbrev k_X7_hasHolder_51 : kX := (cX7_hasHolder, "WhoseHourItIs$Town", "hasHolder", some .boolean, 2, 0)
def f_X7_hasHolder_51 (a1 : Int32) (m : mM) : Option (Int32) :=
if a1 < 0 then (
some (0 : Int32))
else (
if (m 51 0) ≤ a1 then (
some (0 : Int32))
else (
some (1 : Int32)))
set_option maxRecDepth 100000 in
theorem t_X7_hasHolder_51 {V : eV} {a1 : Int32}  {m : mM} {q : Int32} (hf : f_X7_hasHolder_51 a1 m = some q) : eE V 0 yX7_hasHolder cX7_hasHolder 2 (some .boolean) [.ref (vB V + 51), .int a1] (hS m) (some (.int q)) (hS m) := by
  refine eE_of (by decide) (Nat.le_of_ble_eq_true rfl) ?_
  show gG V k_X7_hasHolder_51 0 [(0, .ref (vB V + 51)), (1, .int a1)] [] (hS m) _ _
  unfold f_X7_hasHolder_51 at hf
  refine g_iload_n 1 dX7_hasHolder_0 rfl rfl ?_
  refine g_if_lt (tgt := 16) dX7_hasHolder_1 (by decide) (fun c2 => ?_) (fun c2 => ?_)
  · replace hf := (if_pos c2).symm.trans hf
    refine g_iconst (v := 0) dX7_hasHolder_16 rfl ?_
    cases hf
    exact g_iret dX7_hasHolder_17 .boolean rfl rfl
  · replace hf := (if_neg c2).symm.trans hf
    refine g_iload_n 1 dX7_hasHolder_4 rfl rfl ?_
    refine g_aload_n 0 dX7_hasHolder_5 rfl rfl ?_
    refine gf_91 dX7_hasHolder_6 rfl ob_51 rfl ?_
    refine g_icmp_ge (tgt := 16) dX7_hasHolder_9 (by decide) (fun c1 => ?_) (fun c1 => ?_)
    · replace hf := (if_pos c1).symm.trans hf
      refine g_iconst (v := 0) dX7_hasHolder_16 rfl ?_
      cases hf
      exact g_iret dX7_hasHolder_17 .boolean rfl rfl
    · replace hf := (if_neg c1).symm.trans hf
      refine g_iconst (v := 1) dX7_hasHolder_12 rfl ?_
      refine g_goto (tgt := 17) dX7_hasHolder_13 (by decide) ?_
      cases hf
      exact g_iret dX7_hasHolder_17 .boolean rfl rfl

abbrev k_X8_isHour : kX := (cX8_isHour, "WhoseHourItIs", "isHour", some .boolean, 1, 0)
def f_X8_isHour (a0 : Int32) (m : mM) : Option (Int32) :=
if a0 < 0 then (
some (0 : Int32))
else (
if (28 : Int32) ≤ a0 then (
some (0 : Int32))
else (
some (1 : Int32)))
set_option maxRecDepth 100000 in
theorem t_X8_isHour {V : eV} {a0 : Int32}  {m : mM} {q : Int32} (hf : f_X8_isHour a0 m = some q) : eE V 0 yX8_isHour cX8_isHour 1 (some .boolean) [.int a0] (hS m) (some (.int q)) (hS m) := by
  refine eE_of (by decide) (Nat.le_of_ble_eq_true rfl) ?_
  show gG V k_X8_isHour 0 [(0, .int a0)] [] (hS m) _ _
  unfold f_X8_isHour at hf
  refine g_iload_n 0 dX8_isHour_0 rfl rfl ?_
  refine g_if_lt (tgt := 14) dX8_isHour_1 (by decide) (fun c2 => ?_) (fun c2 => ?_)
  · replace hf := (if_pos c2).symm.trans hf
    refine g_iconst (v := 0) dX8_isHour_14 rfl ?_
    cases hf
    exact g_iret dX8_isHour_15 .boolean rfl rfl
  · replace hf := (if_neg c2).symm.trans hf
    refine g_iload_n 0 dX8_isHour_4 rfl rfl ?_
    refine g_bipush (v := 28) dX8_isHour_5 rfl ?_
    refine g_icmp_ge (tgt := 14) dX8_isHour_7 (by decide) (fun c1 => ?_) (fun c1 => ?_)
    · replace hf := (if_pos c1).symm.trans hf
      refine g_iconst (v := 0) dX8_isHour_14 rfl ?_
      cases hf
      exact g_iret dX8_isHour_15 .boolean rfl rfl
    · replace hf := (if_neg c1).symm.trans hf
      refine g_iconst (v := 1) dX8_isHour_10 rfl ?_
      refine g_goto (tgt := 15) dX8_isHour_11 (by decide) ?_
      cases hf
      exact g_iret dX8_isHour_15 .boolean rfl rfl

abbrev k_X8_isIn : kX := (cX8_isIn, "WhoseHourItIs", "isIn", some .boolean, 2, 0)
def f_X8_isIn (a0 : Int32) (a1 : Int32) (m : mM) : Option (Int32) :=
if ((a0 >>> (a1 &&& 31)) &&& (1 : Int32)) = (1 : Int32) then (
some (1 : Int32))
else (
some (0 : Int32))
set_option maxRecDepth 100000 in
theorem t_X8_isIn {V : eV} {a0 : Int32} {a1 : Int32}  {m : mM} {q : Int32} (hf : f_X8_isIn a0 a1 m = some q) : eE V 0 yX8_isIn cX8_isIn 2 (some .boolean) [.int a0, .int a1] (hS m) (some (.int q)) (hS m) := by
  refine eE_of (by decide) (Nat.le_of_ble_eq_true rfl) ?_
  show gG V k_X8_isIn 0 [(0, .int a0), (1, .int a1)] [] (hS m) _ _
  unfold f_X8_isIn at hf
  refine g_iload_n 0 dX8_isIn_0 rfl rfl ?_
  refine g_iload_n 1 dX8_isIn_1 rfl rfl ?_
  refine g_ishr dX8_isIn_2 ?_
  refine g_iconst (v := 1) dX8_isIn_3 rfl ?_
  refine g_iand dX8_isIn_4 ?_
  refine g_iconst (v := 1) dX8_isIn_5 rfl ?_
  refine g_icmp_ne (tgt := 13) dX8_isIn_6 (by decide) (fun c1 => ?_) (fun c1 => ?_)
  · replace hf := (if_neg c1).symm.trans hf
    refine g_iconst (v := 0) dX8_isIn_13 rfl ?_
    cases hf
    exact g_iret dX8_isIn_14 .boolean rfl rfl
  · replace hf := (if_pos c1).symm.trans hf
    refine g_iconst (v := 1) dX8_isIn_9 rfl ?_
    refine g_goto (tgt := 14) dX8_isIn_10 (by decide) ?_
    cases hf
    exact g_iret dX8_isIn_14 .boolean rfl rfl

abbrev k_X7_holds_51 : kX := (cX7_holds, "WhoseHourItIs$Town", "holds", some .boolean, 3, 1)
def f_X7_holds_51 (a1 : Int32) (a2 : Int32) (m : mM) : Option (Int32) :=
bnd (rdA 61 8 a1 m) fun v1 =>
bnd (f_X8_isIn v1 a2 m) fun q3 =>
bnd (nzB q3) fun v5 =>
some v5
set_option maxRecDepth 100000 in
theorem t_X7_holds_51 {V : eV} {a1 : Int32} {a2 : Int32}  {m : mM} {q : Int32} (hf : f_X7_holds_51 a1 a2 m = some q) : eE V 1 yX7_holds cX7_holds 3 (some .boolean) [.ref (vB V + 51), .int a1, .int a2] (hS m) (some (.int q)) (hS m) := by
  refine eE_of (by decide) (Nat.le_of_ble_eq_true rfl) ?_
  show gG V k_X7_holds_51 0 [(0, .ref (vB V + 51)), (1, .int a1), (2, .int a2)] [] (hS m) _ _
  unfold f_X7_holds_51 at hf
  refine g_aload_n 0 dX7_holds_0 rfl rfl ?_
  refine gf_115 dX7_holds_1 rfl ob_51 rfl ?_
  refine g_iload_n 1 dX7_holds_4 rfl rfl ?_
  obtain ⟨v1, e2, hf⟩ := bnd_some hf
  refine p_iald dX7_holds_5 at_61 e2 ?_
  refine g_iload_n 2 dX7_holds_6 rfl rfl ?_
  obtain ⟨q3, e4, hf⟩ := bnd_some hf
  refine p_callSN (As := [.int v1, .int a2]) (rest := []) (t_X8_isIn e4) cw_533 w_534 (Nat.le_of_ble_eq_true rfl) rfl rfl (Nat.le_of_ble_eq_true rfl) dX7_holds_7 ?_
  obtain ⟨v5, e6, hf⟩ := bnd_some hf
  obtain ⟨hn, rfl⟩ := nzB_n e6
  cases hf
  exact g_iret dX7_holds_10 .boolean rfl hn

abbrev k_X7_addPart_51 : kX := (cX7_addPart, "WhoseHourItIs$Town", "addPart", none, 3, 0)
def f_X7_addPart_51 (a1 : Int32) (a2 : Int32) (m : mM) : Option (mM) :=
bnd (ckR 28 a2) fun j1 =>
bnd (rdA 63 28 a2 m) fun v3 =>
bnd (wrA (65 + j1) 3 v3 a1 m) fun m5 =>
bnd (rdA 63 28 a2 m5) fun v7 =>
bnd (wrA 63 28 a2 (v7 + (1 : Int32)) m5) fun m9 =>
bnd (rdA 61 8 a1 m9) fun v11 =>
bnd (wrA 61 8 a1 (v11 ||| ((1 : Int32) <<< (a2 &&& 31))) m9) fun m13 =>
some m13
set_option maxRecDepth 100000 in
theorem t_X7_addPart_51 {V : eV} {a1 : Int32} {a2 : Int32}  {m : mM} {q : mM} (hf : f_X7_addPart_51 a1 a2 m = some q) : eE V 0 yX7_addPart cX7_addPart 3 (none) [.ref (vB V + 51), .int a1, .int a2] (hS m) none (hS q) := by
  refine eE_of (by decide) (Nat.le_of_ble_eq_true rfl) ?_
  show gG V k_X7_addPart_51 0 [(0, .ref (vB V + 51)), (1, .int a1), (2, .int a2)] [] (hS m) _ _
  unfold f_X7_addPart_51 at hf
  refine g_aload_n 0 dX7_addPart_0 rfl rfl ?_
  refine gf_127 dX7_addPart_1 rfl ob_51 rfl ?_
  refine g_iload_n 2 dX7_addPart_4 rfl rfl ?_
  obtain ⟨j1, e2, hf⟩ := bnd_some hf
  refine p_aald dX7_addPart_5 rt_64 e2 (fun hj1 => ?_)
  refine g_aload_n 0 dX7_addPart_6 rfl rfl ?_
  refine gf_122 dX7_addPart_7 rfl ob_51 rfl ?_
  refine g_iload_n 2 dX7_addPart_10 rfl rfl ?_
  obtain ⟨v3, e4, hf⟩ := bnd_some hf
  refine p_iald dX7_addPart_11 at_63 e4 ?_
  refine g_iload_n 1 dX7_addPart_12 rfl rfl ?_
  obtain ⟨m5, e6, hf⟩ := bnd_some hf
  refine p_iast dX7_addPart_13 (ar_65 hj1) e6 ?_
  refine g_aload_n 0 dX7_addPart_14 rfl rfl ?_
  refine gf_122 dX7_addPart_15 rfl ob_51 rfl ?_
  refine g_iload_n 2 dX7_addPart_18 rfl rfl ?_
  refine g_dup2 dX7_addPart_19 rfl rfl ?_
  obtain ⟨v7, e8, hf⟩ := bnd_some hf
  refine p_iald dX7_addPart_20 at_63 e8 ?_
  refine g_iconst (v := 1) dX7_addPart_21 rfl ?_
  refine g_iadd dX7_addPart_22 ?_
  obtain ⟨m9, e10, hf⟩ := bnd_some hf
  refine p_iast dX7_addPart_23 at_63 e10 ?_
  refine g_aload_n 0 dX7_addPart_24 rfl rfl ?_
  refine gf_115 dX7_addPart_25 rfl ob_51 rfl ?_
  refine g_iload_n 1 dX7_addPart_28 rfl rfl ?_
  refine g_dup2 dX7_addPart_29 rfl rfl ?_
  obtain ⟨v11, e12, hf⟩ := bnd_some hf
  refine p_iald dX7_addPart_30 at_61 e12 ?_
  refine g_iconst (v := 1) dX7_addPart_31 rfl ?_
  refine g_iload_n 2 dX7_addPart_32 rfl rfl ?_
  refine g_ishl dX7_addPart_33 ?_
  refine g_ior dX7_addPart_34 ?_
  obtain ⟨m13, e14, hf⟩ := bnd_some hf
  refine p_iast dX7_addPart_35 at_61 e14 ?_
  cases hf
  exact g_vret dX7_addPart_36 rfl

abbrev k_X7_addParts : kX := (cX7_addParts, "WhoseHourItIs$Town", "addParts", some .boolean, 5, 2)
def f_X7_addParts_L32 (b1 : Int32) (b3 : Int32) : Nat → Int32 → mM → Option ((Int32 × mM) ⊕ (mM))
  | 0, _, _ => none
  | n + 1, b4, m =>
      if b3 < b4 then (
      some (.inr m))
      else (
      bnd (rdA 63 28 b4 m) fun v7 =>
      if (3 : Int32) ≤ v7 then (
      some (.inl ((0 : Int32), m)))
      else (
      bnd (f_X7_holds_51 b1 b4 m) fun q9 =>
      if q9 = 0 then (
      bnd (f_X7_addPart_51 b1 b4 m) fun q11 =>
      f_X7_addParts_L32 b1 b3 n (b4 + (1 : Int32)) q11)
      else (
      some (.inl ((0 : Int32), m)))))
def f_X7_addParts (a1 : Int32) (a2 : Int32) (a3 : Int32) (m : mM) : Option (Int32 × mM) :=
bnd (f_X7_hasHolder_51 a1 m) fun q1 =>
if q1 = 0 then (
some ((0 : Int32), m))
else (
bnd (f_X8_isHour a2 m) fun q3 =>
if q3 = 0 then (
some ((0 : Int32), m))
else (
bnd (f_X8_isHour a3 m) fun q5 =>
if q5 = 0 then (
some ((0 : Int32), m))
else (
if a2 ≤ a3 then (
bnd (f_X7_addParts_L32 a1 a3 fU a2 m) fun o16 =>
ora o16 (fun zq => some zq) fun x17 =>
some ((1 : Int32), x17))
else (
some ((0 : Int32), m)))))
set_option maxRecDepth 100000 in
theorem t_X7_addParts_L32 {V : eV} (b1 : Int32) (b3 : Int32) {r : Option Value} {h' : aH} : ∀ (n : Nat) (b4 : Int32) (m : mM) (o : (Int32 × mM) ⊕ (mM)), f_X7_addParts_L32 b1 b3 n b4 m = some o → lxI hS o r h' (fun x => gG V k_X7_addParts 74 [] [] (hS x) r h') → gG V k_X7_addParts 32 [(0, .ref (vB V + 51)), (1, .int b1), (3, .int b3), (4, .int b4)] [] (hS m) r h' := by
  intro n
  induction n with
  | zero => intro b4 m o hf; cases hf
  | succ n ih =>
    intro b4 m o hf hk
    rw [f_X7_addParts_L32] at hf
    refine g_iload 3 dX7_addParts_32 rfl ?_
    refine g_iload_n 2 dX7_addParts_34 rfl rfl ?_
    refine g_icmp_gt (tgt := 74) dX7_addParts_35 (by decide) (fun c15 => ?_) (fun c15 => ?_)
    · replace hf := (if_pos c15).symm.trans hf
      cases hf
      refine g_sub [] rfl ?_
      exact hk
    · replace hf := (if_neg c15).symm.trans hf
      refine g_aload_n 0 dX7_addParts_38 rfl rfl ?_
      refine gf_122 dX7_addParts_39 rfl ob_51 rfl ?_
      refine g_iload 3 dX7_addParts_42 rfl ?_
      obtain ⟨v7, e8, hf⟩ := bnd_some hf
      refine p_iald dX7_addParts_44 at_63 e8 ?_
      refine g_iconst (v := 3) dX7_addParts_45 rfl ?_
      refine g_icmp_ge (tgt := 59) dX7_addParts_46 (by decide) (fun c14 => ?_) (fun c14 => ?_)
      · replace hf := (if_pos c14).symm.trans hf
        refine g_iconst (v := 0) dX7_addParts_59 rfl ?_
        cases hf
        obtain ⟨rfl, rfl⟩ := hk
        exact g_iret dX7_addParts_60 .boolean rfl rfl
      · replace hf := (if_neg c14).symm.trans hf
        refine g_aload_n 0 dX7_addParts_49 rfl rfl ?_
        refine g_iload_n 1 dX7_addParts_50 rfl rfl ?_
        refine g_iload 3 dX7_addParts_51 rfl ?_
        obtain ⟨q9, e10, hf⟩ := bnd_some hf
        refine p_callV (As := [.int b1, .int b4]) (rest := []) (t_X7_holds_51 e10) cw_529 w_530 w_531 ob_51 rfl (Nat.le_of_ble_eq_true rfl) rfl rfl (Nat.le_of_ble_eq_true rfl) dX7_addParts_53 ?_
        refine g_if_eq (tgt := 61) dX7_addParts_56 (by decide) (fun c13 => ?_) (fun c13 => ?_)
        · replace hf := (if_pos c13).symm.trans hf
          refine g_aload_n 0 dX7_addParts_61 rfl rfl ?_
          refine g_iload_n 1 dX7_addParts_62 rfl rfl ?_
          refine g_iload 3 dX7_addParts_63 rfl ?_
          obtain ⟨q11, e12, hf⟩ := bnd_some hf
          refine p_callVv (As := [.int b1, .int b4]) (rest := []) (t_X7_addPart_51 e12) cw_536 w_537 w_538 ob_51 rfl (Nat.le_of_ble_eq_true rfl) rfl rfl (Nat.le_of_ble_eq_true rfl) dX7_addParts_65 ?_
          refine g_iinc (q := 3) (v := (b4 + (1 : Int32))) dX7_addParts_68 rfl rfl (Nat.le_of_ble_eq_true rfl) rfl ?_
          refine g_goto (tgt := 32) dX7_addParts_71 (by decide) ?_
          refine g_sub [1, 2, 3, 0] rfl ?_
          exact ih (b4 + (1 : Int32)) q11 _ hf hk
        · replace hf := (if_neg c13).symm.trans hf
          refine g_iconst (v := 0) dX7_addParts_59 rfl ?_
          cases hf
          obtain ⟨rfl, rfl⟩ := hk
          exact g_iret dX7_addParts_60 .boolean rfl rfl

set_option maxRecDepth 100000 in
theorem t_X7_addParts {V : eV} {a1 : Int32} {a2 : Int32} {a3 : Int32}  {m : mM} {q : Int32 × mM} (hf : f_X7_addParts a1 a2 a3 m = some q) : eE V 2 yX7_addParts cX7_addParts 5 (some .boolean) [.ref (vB V + 51), .int a1, .int a2, .int a3] (hS m) (some (.int q.1)) (hS q.2) := by
  refine eE_of (by decide) (Nat.le_of_ble_eq_true rfl) ?_
  show gG V k_X7_addParts 0 [(0, .ref (vB V + 51)), (1, .int a1), (2, .int a2), (3, .int a3)] [] (hS m) _ _
  unfold f_X7_addParts at hf
  refine g_aload_n 0 dX7_addParts_0 rfl rfl ?_
  refine g_iload_n 1 dX7_addParts_1 rfl rfl ?_
  obtain ⟨q1, e2, hf⟩ := bnd_some hf
  refine p_callV (As := [.int a1]) (rest := []) (t_X7_hasHolder_51 e2) cw_522 w_523 w_524 ob_51 rfl (Nat.le_of_ble_eq_true rfl) rfl rfl (Nat.le_of_ble_eq_true rfl) dX7_addParts_2 ?_
  refine g_if_eq (tgt := 27) dX7_addParts_5 (by decide) (fun c22 => ?_) (fun c22 => ?_)
  · replace hf := (if_pos c22).symm.trans hf
    refine g_iconst (v := 0) dX7_addParts_27 rfl ?_
    cases hf
    exact g_iret dX7_addParts_28 .boolean rfl rfl
  · replace hf := (if_neg c22).symm.trans hf
    refine g_iload_n 2 dX7_addParts_8 rfl rfl ?_
    obtain ⟨q3, e4, hf⟩ := bnd_some hf
    refine p_callSN (As := [.int a2]) (rest := []) (t_X8_isHour e4) cw_526 w_527 (Nat.le_of_ble_eq_true rfl) rfl rfl (Nat.le_of_ble_eq_true rfl) dX7_addParts_9 ?_
    refine g_if_eq (tgt := 27) dX7_addParts_12 (by decide) (fun c21 => ?_) (fun c21 => ?_)
    · replace hf := (if_pos c21).symm.trans hf
      refine g_iconst (v := 0) dX7_addParts_27 rfl ?_
      cases hf
      exact g_iret dX7_addParts_28 .boolean rfl rfl
    · replace hf := (if_neg c21).symm.trans hf
      refine g_iload_n 3 dX7_addParts_15 rfl rfl ?_
      obtain ⟨q5, e6, hf⟩ := bnd_some hf
      refine p_callSN (As := [.int a3]) (rest := []) (t_X8_isHour e6) cw_526 w_527 (Nat.le_of_ble_eq_true rfl) rfl rfl (Nat.le_of_ble_eq_true rfl) dX7_addParts_16 ?_
      refine g_if_eq (tgt := 27) dX7_addParts_19 (by decide) (fun c20 => ?_) (fun c20 => ?_)
      · replace hf := (if_pos c20).symm.trans hf
        refine g_iconst (v := 0) dX7_addParts_27 rfl ?_
        cases hf
        exact g_iret dX7_addParts_28 .boolean rfl rfl
      · replace hf := (if_neg c20).symm.trans hf
        refine g_iload_n 2 dX7_addParts_22 rfl rfl ?_
        refine g_iload_n 3 dX7_addParts_23 rfl rfl ?_
        refine g_icmp_le (tgt := 29) dX7_addParts_24 (by decide) (fun c19 => ?_) (fun c19 => ?_)
        · replace hf := (if_pos c19).symm.trans hf
          refine g_iload_n 2 dX7_addParts_29 rfl rfl ?_
          refine g_istore dX7_addParts_30 (Nat.le_of_ble_eq_true rfl) rfl ?_
          refine g_sub [1, 2, 4, 0] rfl ?_
          obtain ⟨o16, e18, hf⟩ := bnd_some hf
          refine t_X7_addParts_L32 (V := V) a1 a3 fU a2 m _ e18 ?_
          rcases o16 with zq | x17
          · replace hf := ora_l hf
            cases hf
            exact ⟨rfl, rfl⟩
          · replace hf := ora_r hf
            show gG V _ _ _ _ _ _ _
            refine g_iconst (v := 1) dX7_addParts_74 rfl ?_
            cases hf
            exact g_iret dX7_addParts_75 .boolean rfl rfl
        · replace hf := (if_neg c19).symm.trans hf
          refine g_iconst (v := 0) dX7_addParts_27 rfl ?_
          cases hf
          exact g_iret dX7_addParts_28 .boolean rfl rfl

abbrev k_X7_addWork : kX := (cX7_addWork, "WhoseHourItIs$Town", "addWork", some .boolean, 2, 1)
def f_X7_addWork  (m : mM) : Option (Int32 × mM) :=
if (6 : Int32) ≤ (m 51 1) then (
some ((0 : Int32), m))
else (
bnd (rdA 153 6 (0 : Int32) m) fun v1 =>
bnd (f_X7_hasHolder_51 v1 m) fun q3 =>
if q3 = 0 then (
some ((0 : Int32), m))
else (
bnd (rdA 153 6 (3 : Int32) m) fun v5 =>
bnd (f_X8_isHour v5 m) fun q7 =>
if q7 = 0 then (
some ((0 : Int32), m))
else (
bnd (rdA 153 6 (2 : Int32) m) fun v9 =>
if v9 < (1 : Int32) then (
some ((0 : Int32), m))
else (
bnd (rdA 153 6 (2 : Int32) m) fun v11 =>
if v11 ≤ (6 : Int32) then (
bnd (ckR 6 (m 51 1)) fun j13 =>
bnd (some (m_cpy m 153 (94 + j13) 6)) fun m15 =>
bnd (some (m_up m15 51 1 ((m15 51 1) + (1 : Int32)))) fun m17 =>
some ((1 : Int32), m17))
else (
some ((0 : Int32), m))))))
set_option maxRecDepth 100000 in
theorem t_X7_addWork {V : eV}  {m : mM} {q : Int32 × mM} (hf : f_X7_addWork  m = some q) : eE V 1 yX7_addWork cX7_addWork 2 (some .boolean) [.ref (vB V + 51), .ref (vB V + 153)] (hS m) (some (.int q.1)) (hS q.2) := by
  refine eE_of (by decide) (Nat.le_of_ble_eq_true rfl) ?_
  show gG V k_X7_addWork 0 [(0, .ref (vB V + 51)), (1, .ref (vB V + 153))] [] (hS m) _ _
  unfold f_X7_addWork at hf
  refine g_aload_n 0 dX7_addWork_0 rfl rfl ?_
  refine gf_97 dX7_addWork_1 rfl ob_51 rfl ?_
  refine g_bipush (v := 6) dX7_addWork_4 rfl ?_
  refine g_icmp_ge (tgt := 28) dX7_addWork_6 (by decide) (fun c23 => ?_) (fun c23 => ?_)
  · replace hf := (if_pos c23).symm.trans hf
    refine g_iconst (v := 0) dX7_addWork_28 rfl ?_
    cases hf
    exact g_iret dX7_addWork_29 .boolean rfl rfl
  · replace hf := (if_neg c23).symm.trans hf
    refine g_aload_n 0 dX7_addWork_9 rfl rfl ?_
    refine g_aload_n 1 dX7_addWork_10 rfl rfl ?_
    refine g_iconst (v := 0) dX7_addWork_11 rfl ?_
    obtain ⟨v1, e2, hf⟩ := bnd_some hf
    refine p_iald dX7_addWork_12 at_153 e2 ?_
    obtain ⟨q3, e4, hf⟩ := bnd_some hf
    refine p_callV (As := [.int v1]) (rest := []) (t_X7_hasHolder_51 e4) cw_522 w_523 w_524 ob_51 rfl (Nat.le_of_ble_eq_true rfl) rfl rfl (Nat.le_of_ble_eq_true rfl) dX7_addWork_13 ?_
    refine g_if_eq (tgt := 28) dX7_addWork_16 (by decide) (fun c22 => ?_) (fun c22 => ?_)
    · replace hf := (if_pos c22).symm.trans hf
      refine g_iconst (v := 0) dX7_addWork_28 rfl ?_
      cases hf
      exact g_iret dX7_addWork_29 .boolean rfl rfl
    · replace hf := (if_neg c22).symm.trans hf
      refine g_aload_n 1 dX7_addWork_19 rfl rfl ?_
      refine g_iconst (v := 3) dX7_addWork_20 rfl ?_
      obtain ⟨v5, e6, hf⟩ := bnd_some hf
      refine p_iald dX7_addWork_21 at_153 e6 ?_
      obtain ⟨q7, e8, hf⟩ := bnd_some hf
      refine p_callSN (As := [.int v5]) (rest := []) (t_X8_isHour e8) cw_526 w_527 (Nat.le_of_ble_eq_true rfl) rfl rfl (Nat.le_of_ble_eq_true rfl) dX7_addWork_22 ?_
      refine g_if_ne (tgt := 30) dX7_addWork_25 (by decide) (fun c21 => ?_) (fun c21 => ?_)
      · replace hf := (if_neg c21).symm.trans hf
        refine g_aload_n 1 dX7_addWork_30 rfl rfl ?_
        refine g_iconst (v := 2) dX7_addWork_31 rfl ?_
        obtain ⟨v9, e10, hf⟩ := bnd_some hf
        refine p_iald dX7_addWork_32 at_153 e10 ?_
        refine g_iconst (v := 1) dX7_addWork_33 rfl ?_
        refine g_icmp_lt (tgt := 45) dX7_addWork_34 (by decide) (fun c20 => ?_) (fun c20 => ?_)
        · replace hf := (if_pos c20).symm.trans hf
          refine g_iconst (v := 0) dX7_addWork_45 rfl ?_
          cases hf
          exact g_iret dX7_addWork_46 .boolean rfl rfl
        · replace hf := (if_neg c20).symm.trans hf
          refine g_aload_n 1 dX7_addWork_37 rfl rfl ?_
          refine g_iconst (v := 2) dX7_addWork_38 rfl ?_
          obtain ⟨v11, e12, hf⟩ := bnd_some hf
          refine p_iald dX7_addWork_39 at_153 e12 ?_
          refine g_bipush (v := 6) dX7_addWork_40 rfl ?_
          refine g_icmp_le (tgt := 47) dX7_addWork_42 (by decide) (fun c19 => ?_) (fun c19 => ?_)
          · replace hf := (if_pos c19).symm.trans hf
            refine g_aload_n 1 dX7_addWork_47 rfl rfl ?_
            refine g_iconst (v := 0) dX7_addWork_48 rfl ?_
            refine g_aload_n 0 dX7_addWork_49 rfl rfl ?_
            refine gf_131 dX7_addWork_50 rfl ob_51 rfl ?_
            refine g_aload_n 0 dX7_addWork_53 rfl rfl ?_
            refine gf_97 dX7_addWork_54 rfl ob_51 rfl ?_
            obtain ⟨j13, e14, hf⟩ := bnd_some hf
            refine p_aald dX7_addWork_57 rt_93 e14 (fun hj13 => ?_)
            refine g_iconst (v := 0) dX7_addWork_58 rfl ?_
            refine g_bipush (v := 6) dX7_addWork_59 rfl ?_
            obtain ⟨m15, e16, hf⟩ := bnd_some hf
            cases e16
            refine p_copy (N := 6) w_503 w_505 w_504 w_73 dX7_addWork_61 (Nat.le_of_ble_eq_true rfl) at_153 (ar_94 hj13) (by decide) rfl (by decide) (by decide) (Nat.le_of_ble_eq_true rfl) ?_
            generalize m_cpy m 153 (94 + j13) 6 = m15 at hf ⊢
            refine g_aload_n 0 dX7_addWork_64 rfl rfl ?_
            refine g_dup dX7_addWork_65 rfl ?_
            refine gf_97 dX7_addWork_66 rfl ob_51 rfl ?_
            refine g_iconst (v := 1) dX7_addWork_69 rfl ?_
            refine g_iadd dX7_addWork_70 ?_
            obtain ⟨m17, e18, hf⟩ := bnd_some hf
            cases e18
            refine pf_97 dX7_addWork_71 rfl ob_51 rfl ?_
            generalize m_up m15 51 1 ((m15 51 1) + (1 : Int32)) = m17 at hf ⊢
            refine g_iconst (v := 1) dX7_addWork_74 rfl ?_
            cases hf
            exact g_iret dX7_addWork_75 .boolean rfl rfl
          · replace hf := (if_neg c19).symm.trans hf
            refine g_iconst (v := 0) dX7_addWork_45 rfl ?_
            cases hf
            exact g_iret dX7_addWork_46 .boolean rfl rfl
      · replace hf := (if_pos c21).symm.trans hf
        refine g_iconst (v := 0) dX7_addWork_28 rfl ?_
        cases hf
        exact g_iret dX7_addWork_29 .boolean rfl rfl

abbrev k_X6_tellOne : kX := (cX6_tellOne, "WhoseHourItIs$Tape", "tellOne", some .boolean, 3, 3)
def f_X6_tellOne (a2 : Int32) (m : mM) : Option (Int32 × mM) :=
if a2 = (112 : Int32) then (
bnd (f_X7_addHolder m) fun q1 =>
bnd (nzB q1.1) fun v3 =>
some (v3, q1.2))
else (
if a2 = (104 : Int32) then (
bnd (rdA 153 6 (0 : Int32) m) fun v5 =>
bnd (rdA 153 6 (1 : Int32) m) fun v7 =>
bnd (rdA 153 6 (2 : Int32) m) fun v9 =>
bnd (f_X7_addParts v5 v7 v9 m) fun q11 =>
bnd (nzB q11.1) fun v13 =>
some (v13, q11.2))
else (
bnd (f_X7_addWork m) fun q15 =>
bnd (nzB q15.1) fun v17 =>
some (v17, q15.2)))
set_option maxRecDepth 100000 in
theorem t_X6_tellOne {V : eV} {a2 : Int32}  {m : mM} {q : Int32 × mM} (hf : f_X6_tellOne a2 m = some q) : eE V 3 yX6_tellOne cX6_tellOne 3 (some .boolean) [.ref (vB V + 151), .ref (vB V + 51), .int a2] (hS m) (some (.int q.1)) (hS q.2) := by
  refine eE_of (by decide) (Nat.le_of_ble_eq_true rfl) ?_
  show gG V k_X6_tellOne 0 [(0, .ref (vB V + 151)), (1, .ref (vB V + 51)), (2, .int a2)] [] (hS m) _ _
  unfold f_X6_tellOne at hf
  refine g_iload_n 2 dX6_tellOne_0 rfl rfl ?_
  refine g_bipush (v := 112) dX6_tellOne_1 rfl ?_
  refine g_icmp_ne (tgt := 15) dX6_tellOne_3 (by decide) (fun c20 => ?_) (fun c20 => ?_)
  · replace hf := (if_neg c20).symm.trans hf
    refine g_iload_n 2 dX6_tellOne_15 rfl rfl ?_
    refine g_bipush (v := 104) dX6_tellOne_16 rfl ?_
    refine g_icmp_ne (tgt := 44) dX6_tellOne_18 (by decide) (fun c19 => ?_) (fun c19 => ?_)
    · replace hf := (if_neg c19).symm.trans hf
      refine g_aload_n 1 dX6_tellOne_44 rfl rfl ?_
      refine g_aload_n 0 dX6_tellOne_45 rfl rfl ?_
      refine gf_177 dX6_tellOne_46 rfl ob_151 rfl ?_
      obtain ⟨q15, e16, hf⟩ := bnd_some hf
      refine p_callV (As := [.ref (vB V + 153)]) (rest := []) (t_X7_addWork e16) cw_540 w_541 w_542 ob_51 rfl (Nat.le_of_ble_eq_true rfl) rfl rfl (Nat.le_of_ble_eq_true rfl) dX6_tellOne_49 ?_
      obtain ⟨v17, e18, hf⟩ := bnd_some hf
      obtain ⟨hn, rfl⟩ := nzB_n e18
      cases hf
      exact g_iret dX6_tellOne_52 .boolean rfl hn
    · replace hf := (if_pos c19).symm.trans hf
      refine g_aload_n 1 dX6_tellOne_21 rfl rfl ?_
      refine g_aload_n 0 dX6_tellOne_22 rfl rfl ?_
      refine gf_177 dX6_tellOne_23 rfl ob_151 rfl ?_
      refine g_iconst (v := 0) dX6_tellOne_26 rfl ?_
      obtain ⟨v5, e6, hf⟩ := bnd_some hf
      refine p_iald dX6_tellOne_27 at_153 e6 ?_
      refine g_aload_n 0 dX6_tellOne_28 rfl rfl ?_
      refine gf_177 dX6_tellOne_29 rfl ob_151 rfl ?_
      refine g_iconst (v := 1) dX6_tellOne_32 rfl ?_
      obtain ⟨v7, e8, hf⟩ := bnd_some hf
      refine p_iald dX6_tellOne_33 at_153 e8 ?_
      refine g_aload_n 0 dX6_tellOne_34 rfl rfl ?_
      refine gf_177 dX6_tellOne_35 rfl ob_151 rfl ?_
      refine g_iconst (v := 2) dX6_tellOne_38 rfl ?_
      obtain ⟨v9, e10, hf⟩ := bnd_some hf
      refine p_iald dX6_tellOne_39 at_153 e10 ?_
      obtain ⟨q11, e12, hf⟩ := bnd_some hf
      refine p_callV (As := [.int v5, .int v7, .int v9]) (rest := []) (t_X7_addParts e12) cw_518 w_519 w_520 ob_51 rfl (Nat.le_of_ble_eq_true rfl) rfl rfl (Nat.le_of_ble_eq_true rfl) dX6_tellOne_40 ?_
      obtain ⟨v13, e14, hf⟩ := bnd_some hf
      obtain ⟨hn, rfl⟩ := nzB_n e14
      cases hf
      exact g_iret dX6_tellOne_43 .boolean rfl hn
  · replace hf := (if_pos c20).symm.trans hf
    refine g_aload_n 1 dX6_tellOne_6 rfl rfl ?_
    refine g_aload_n 0 dX6_tellOne_7 rfl rfl ?_
    refine gf_177 dX6_tellOne_8 rfl ob_151 rfl ?_
    obtain ⟨q1, e2, hf⟩ := bnd_some hf
    refine p_callV (As := [.ref (vB V + 153)]) (rest := []) (t_X7_addHolder e2) cw_514 w_515 w_516 ob_51 rfl (Nat.le_of_ble_eq_true rfl) rfl rfl (Nat.le_of_ble_eq_true rfl) dX6_tellOne_11 ?_
    obtain ⟨v3, e4, hf⟩ := bnd_some hf
    obtain ⟨hn, rfl⟩ := nzB_n e4
    cases hf
    exact g_iret dX6_tellOne_14 .boolean rfl hn

abbrev k_X6_tellTo : kX := (cX6_tellTo, "WhoseHourItIs$Tape", "tellTo", some .int, 5, 6)
def f_X6_tellTo_L4 : Nat → Int32 → Int32 → mM → Option ((Int32 × mM) ⊕ (Int32 × mM))
  | 0, _, _, _ => none
  | n + 1, b2, b3, m =>
      if (m 151 0) ≤ b2 then (
      some (.inr (b3, m)))
      else (
      if (64 : Int32) ≤ b3 then (
      some (.inr (b3, m)))
      else (
      bnd (f_X6_readStatement b2 m) fun q1 =>
      if q1.1 < 0 then (
      some (.inl (((-2000 : Int32) - b2), q1.2)))
      else (
      bnd (rdA 152 64 b2 q1.2) fun v3 =>
      bnd (f_X6_tellOne v3 q1.2) fun q5 =>
      if q5.1 = 0 then (
      some (.inl (((-2000 : Int32) - b2), q5.2)))
      else (
      f_X6_tellTo_L4 n q1.1 (b3 + (1 : Int32)) q5.2))))
def f_X6_tellTo  (m : mM) : Option (Int32 × mM) :=
bnd (f_X6_tellTo_L4 fU (0 : Int32) (0 : Int32) m) fun o11 =>
ora o11 (fun zq => some zq) fun x12 =>
some (x12.1, x12.2)
set_option maxRecDepth 100000 in
theorem t_X6_tellTo_L4 {V : eV} {r : Option Value} {h' : aH} : ∀ (n : Nat) (b2 : Int32) (b3 : Int32) (m : mM) (o : (Int32 × mM) ⊕ (Int32 × mM)), f_X6_tellTo_L4 n b2 b3 m = some o → lxI hS o r h' (fun x => gG V k_X6_tellTo 59 [(3, .int x.1)] [] (hS x.2) r h') → gG V k_X6_tellTo 4 [(0, .ref (vB V + 151)), (1, .ref (vB V + 51)), (2, .int b2), (3, .int b3)] [] (hS m) r h' := by
  intro n
  induction n with
  | zero => intro b2 b3 m o hf; cases hf
  | succ n ih =>
    intro b2 b3 m o hf hk
    rw [f_X6_tellTo_L4] at hf
    refine g_iload_n 2 dX6_tellTo_4 rfl rfl ?_
    refine g_aload_n 0 dX6_tellTo_5 rfl rfl ?_
    refine gf_174 dX6_tellTo_6 rfl ob_151 rfl ?_
    refine g_icmp_ge (tgt := 59) dX6_tellTo_9 (by decide) (fun c10 => ?_) (fun c10 => ?_)
    · replace hf := (if_pos c10).symm.trans hf
      cases hf
      refine g_sub [3] rfl ?_
      exact hk
    · replace hf := (if_neg c10).symm.trans hf
      refine g_iload_n 3 dX6_tellTo_12 rfl rfl ?_
      refine g_bipush (v := 64) dX6_tellTo_13 rfl ?_
      refine g_icmp_ge (tgt := 59) dX6_tellTo_15 (by decide) (fun c9 => ?_) (fun c9 => ?_)
      · replace hf := (if_pos c9).symm.trans hf
        cases hf
        refine g_sub [3] rfl ?_
        exact hk
      · replace hf := (if_neg c9).symm.trans hf
        refine g_aload_n 0 dX6_tellTo_18 rfl rfl ?_
        refine g_iload_n 2 dX6_tellTo_19 rfl rfl ?_
        obtain ⟨q1, e2, hf⟩ := bnd_some hf
        refine p_callV (As := [.int b2]) (rest := []) (t_X6_readStatement e2) cw_372 w_374 w_1 ob_151 rfl (Nat.le_of_ble_eq_true rfl) rfl rfl (Nat.le_of_ble_eq_true rfl) dX6_tellTo_20 ?_
        refine g_istore dX6_tellTo_23 (Nat.le_of_ble_eq_true rfl) rfl ?_
        refine g_iload 0 dX6_tellTo_25 rfl ?_
        refine g_if_lt (tgt := 44) dX6_tellTo_27 (by decide) (fun c8 => ?_) (fun c8 => ?_)
        · replace hf := (if_pos c8).symm.trans hf
          refine g_sipush (v := -2000) dX6_tellTo_44 rfl ?_
          refine g_iload_n 3 dX6_tellTo_47 rfl rfl ?_
          refine g_isub dX6_tellTo_48 ?_
          cases hf
          obtain ⟨rfl, rfl⟩ := hk
          exact g_iret dX6_tellTo_49 .int rfl rfl
        · replace hf := (if_neg c8).symm.trans hf
          refine g_aload_n 1 dX6_tellTo_30 rfl rfl ?_
          refine g_aload_n 2 dX6_tellTo_31 rfl rfl ?_
          refine g_aload_n 1 dX6_tellTo_32 rfl rfl ?_
          refine gf_176 dX6_tellTo_33 rfl ob_151 rfl ?_
          refine g_iload_n 3 dX6_tellTo_36 rfl rfl ?_
          obtain ⟨v3, e4, hf⟩ := bnd_some hf
          refine p_iald dX6_tellTo_37 at_152 e4 ?_
          obtain ⟨q5, e6, hf⟩ := bnd_some hf
          refine p_callV (As := [.ref (vB V + 51), .int v3]) (rest := []) (t_X6_tellOne e6) cw_510 w_512 w_5 ob_151 rfl (Nat.le_of_ble_eq_true rfl) rfl rfl (Nat.le_of_ble_eq_true rfl) dX6_tellTo_38 ?_
          refine g_if_ne (tgt := 50) dX6_tellTo_41 (by decide) (fun c7 => ?_) (fun c7 => ?_)
          · replace hf := (if_neg c7).symm.trans hf
            refine g_iload 0 dX6_tellTo_50 rfl ?_
            refine g_istore_n dX6_tellTo_52 rfl (Nat.le_of_ble_eq_true rfl) rfl ?_
            refine g_iinc (q := 4) (v := (b3 + (1 : Int32))) dX6_tellTo_53 rfl rfl (Nat.le_of_ble_eq_true rfl) rfl ?_
            refine g_goto (tgt := 4) dX6_tellTo_56 (by decide) ?_
            refine g_sub [3, 4, 1, 0] rfl ?_
            exact ih q1.1 (b3 + (1 : Int32)) q5.2 _ hf hk
          · replace hf := (if_pos c7).symm.trans hf
            refine g_sipush (v := -2000) dX6_tellTo_44 rfl ?_
            refine g_iload_n 3 dX6_tellTo_47 rfl rfl ?_
            refine g_isub dX6_tellTo_48 ?_
            cases hf
            obtain ⟨rfl, rfl⟩ := hk
            exact g_iret dX6_tellTo_49 .int rfl rfl

set_option maxRecDepth 100000 in
theorem t_X6_tellTo {V : eV}  {m : mM} {q : Int32 × mM} (hf : f_X6_tellTo  m = some q) : eE V 6 yX6_tellTo cX6_tellTo 5 (some .int) [.ref (vB V + 151), .ref (vB V + 51)] (hS m) (some (.int q.1)) (hS q.2) := by
  refine eE_of (by decide) (Nat.le_of_ble_eq_true rfl) ?_
  show gG V k_X6_tellTo 0 [(0, .ref (vB V + 151)), (1, .ref (vB V + 51))] [] (hS m) _ _
  unfold f_X6_tellTo at hf
  refine g_iconst (v := 0) dX6_tellTo_0 rfl ?_
  refine g_istore_n dX6_tellTo_1 rfl (Nat.le_of_ble_eq_true rfl) rfl ?_
  refine g_iconst (v := 0) dX6_tellTo_2 rfl ?_
  refine g_istore_n dX6_tellTo_3 rfl (Nat.le_of_ble_eq_true rfl) rfl ?_
  refine g_sub [2, 3, 1, 0] rfl ?_
  obtain ⟨o11, e13, hf⟩ := bnd_some hf
  refine t_X6_tellTo_L4 (V := V) fU (0 : Int32) (0 : Int32) m _ e13 ?_
  rcases o11 with zq | x12
  · replace hf := ora_l hf
    cases hf
    exact ⟨rfl, rfl⟩
  · replace hf := ora_r hf
    show gG V _ _ _ _ _ _ _
    refine g_iload_n 0 dX6_tellTo_59 rfl rfl ?_
    cases hf
    exact g_iret dX6_tellTo_60 .int rfl rfl

abbrev k_X7_copyFrom_1_51 : kX := (cX7_copyFrom, "WhoseHourItIs$Town", "copyFrom", none, 3, 1)
def f_X7_copyFrom_1_51_L42 : Nat → Int32 → mM → Option (mM)
  | 0, _, _ => none
  | n + 1, b2, m =>
      if (8 : Int32) ≤ b2 then (
      some m)
      else (
      bnd (ckR 8 b2) fun j11 =>
      bnd (ckR 8 b2) fun j13 =>
      bnd (some (m_cpy m (53 + j11) (3 + j13) 3)) fun m15 =>
      f_X7_copyFrom_1_51_L42 n (b2 + (1 : Int32)) m15)
def f_X7_copyFrom_1_51_L74 : Nat → Int32 → mM → Option (mM)
  | 0, _, _ => none
  | n + 1, b2, m =>
      if (28 : Int32) ≤ b2 then (
      some m)
      else (
      bnd (ckR 28 b2) fun j20 =>
      bnd (ckR 28 b2) fun j22 =>
      bnd (some (m_cpy m (65 + j20) (15 + j22) 3)) fun m24 =>
      f_X7_copyFrom_1_51_L74 n (b2 + (1 : Int32)) m24)
def f_X7_copyFrom_1_51_L106 : Nat → Int32 → mM → Option (mM)
  | 0, _, _ => none
  | n + 1, b2, m =>
      if (6 : Int32) ≤ b2 then (
      some m)
      else (
      bnd (ckR 6 b2) fun j29 =>
      bnd (ckR 6 b2) fun j31 =>
      bnd (some (m_cpy m (94 + j29) (44 + j31) 6)) fun m33 =>
      f_X7_copyFrom_1_51_L106 n (b2 + (1 : Int32)) m33)
def f_X7_copyFrom_1_51  (m : mM) : Option (mM) :=
bnd (some (m_up m 1 0 (m 51 0))) fun m1 =>
bnd (some (m_up m1 1 1 (m1 51 1))) fun m3 =>
bnd (some (m_up m3 1 2 (m3 51 2))) fun m5 =>
bnd (some (m_up m5 1 3 (m5 51 3))) fun m7 =>
bnd (some (m_up m7 1 4 (m7 51 4))) fun m9 =>
bnd (f_X7_copyFrom_1_51_L42 fU (0 : Int32) m9) fun o18 =>
bnd (f_X7_copyFrom_1_51_L74 fU (0 : Int32) o18) fun o27 =>
bnd (f_X7_copyFrom_1_51_L106 fU (0 : Int32) o27) fun o36 =>
bnd (some (m_cpy o36 61 11 8)) fun m38 =>
bnd (some (m_cpy m38 62 12 8)) fun m40 =>
bnd (some (m_cpy m40 63 13 28)) fun m42 =>
bnd (some (m_cpy m42 100 50 4)) fun m44 =>
some m44
set_option maxRecDepth 100000 in
theorem t_X7_copyFrom_1_51_L42 {V : eV} {r : Option Value} {h' : aH} : ∀ (n : Nat) (b2 : Int32) (m : mM) (o : mM), f_X7_copyFrom_1_51_L42 n b2 m = some o → gG V k_X7_copyFrom_1_51 72 [(0, .ref (vB V + 1)), (1, .ref (vB V + 51))] [] (hS o) r h' → gG V k_X7_copyFrom_1_51 42 [(0, .ref (vB V + 1)), (1, .ref (vB V + 51)), (2, .int b2)] [] (hS m) r h' := by
  intro n
  induction n with
  | zero => intro b2 m o hf; cases hf
  | succ n ih =>
    intro b2 m o hf hk
    rw [f_X7_copyFrom_1_51_L42] at hf
    refine g_iload_n 2 dX7_copyFrom_42 rfl rfl ?_
    refine g_bipush (v := 8) dX7_copyFrom_43 rfl ?_
    refine g_icmp_ge (tgt := 72) dX7_copyFrom_45 (by decide) (fun c17 => ?_) (fun c17 => ?_)
    · replace hf := (if_pos c17).symm.trans hf
      cases hf
      refine g_sub [0, 1] rfl ?_
      exact hk
    · replace hf := (if_neg c17).symm.trans hf
      refine g_aload_n 1 dX7_copyFrom_48 rfl rfl ?_
      refine gf_111 dX7_copyFrom_49 rfl ob_51 rfl ?_
      refine g_iload_n 2 dX7_copyFrom_52 rfl rfl ?_
      obtain ⟨j11, e12, hf⟩ := bnd_some hf
      refine p_aald dX7_copyFrom_53 rt_52 e12 (fun hj11 => ?_)
      refine g_iconst (v := 0) dX7_copyFrom_54 rfl ?_
      refine g_aload_n 0 dX7_copyFrom_55 rfl rfl ?_
      refine gf_111 dX7_copyFrom_56 rfl ob_1 rfl ?_
      refine g_iload_n 2 dX7_copyFrom_59 rfl rfl ?_
      obtain ⟨j13, e14, hf⟩ := bnd_some hf
      refine p_aald dX7_copyFrom_60 rt_2 e14 (fun hj13 => ?_)
      refine g_iconst (v := 0) dX7_copyFrom_61 rfl ?_
      refine g_iconst (v := 3) dX7_copyFrom_62 rfl ?_
      obtain ⟨m15, e16, hf⟩ := bnd_some hf
      cases e16
      refine p_copy (N := 3) w_503 w_505 w_504 w_73 dX7_copyFrom_63 (Nat.le_of_ble_eq_true rfl) (ar_53 hj11) (ar_3 hj13) (by decide) rfl (by decide) (by decide) (Nat.le_of_ble_eq_true rfl) ?_
      generalize m_cpy m (53 + j11) (3 + j13) 3 = m15 at hf ⊢
      refine g_iinc (q := 2) (v := (b2 + (1 : Int32))) dX7_copyFrom_66 rfl rfl (Nat.le_of_ble_eq_true rfl) rfl ?_
      refine g_goto (tgt := 42) dX7_copyFrom_69 (by decide) ?_
      refine g_sub [1, 2, 0] rfl ?_
      exact ih (b2 + (1 : Int32)) m15 _ hf hk

set_option maxRecDepth 100000 in
theorem t_X7_copyFrom_1_51_L74 {V : eV} {r : Option Value} {h' : aH} : ∀ (n : Nat) (b2 : Int32) (m : mM) (o : mM), f_X7_copyFrom_1_51_L74 n b2 m = some o → gG V k_X7_copyFrom_1_51 104 [(0, .ref (vB V + 1)), (1, .ref (vB V + 51))] [] (hS o) r h' → gG V k_X7_copyFrom_1_51 74 [(0, .ref (vB V + 1)), (1, .ref (vB V + 51)), (2, .int b2)] [] (hS m) r h' := by
  intro n
  induction n with
  | zero => intro b2 m o hf; cases hf
  | succ n ih =>
    intro b2 m o hf hk
    rw [f_X7_copyFrom_1_51_L74] at hf
    refine g_iload_n 2 dX7_copyFrom_74 rfl rfl ?_
    refine g_bipush (v := 28) dX7_copyFrom_75 rfl ?_
    refine g_icmp_ge (tgt := 104) dX7_copyFrom_77 (by decide) (fun c26 => ?_) (fun c26 => ?_)
    · replace hf := (if_pos c26).symm.trans hf
      cases hf
      refine g_sub [0, 1] rfl ?_
      exact hk
    · replace hf := (if_neg c26).symm.trans hf
      refine g_aload_n 1 dX7_copyFrom_80 rfl rfl ?_
      refine gf_127 dX7_copyFrom_81 rfl ob_51 rfl ?_
      refine g_iload_n 2 dX7_copyFrom_84 rfl rfl ?_
      obtain ⟨j20, e21, hf⟩ := bnd_some hf
      refine p_aald dX7_copyFrom_85 rt_64 e21 (fun hj20 => ?_)
      refine g_iconst (v := 0) dX7_copyFrom_86 rfl ?_
      refine g_aload_n 0 dX7_copyFrom_87 rfl rfl ?_
      refine gf_127 dX7_copyFrom_88 rfl ob_1 rfl ?_
      refine g_iload_n 2 dX7_copyFrom_91 rfl rfl ?_
      obtain ⟨j22, e23, hf⟩ := bnd_some hf
      refine p_aald dX7_copyFrom_92 rt_14 e23 (fun hj22 => ?_)
      refine g_iconst (v := 0) dX7_copyFrom_93 rfl ?_
      refine g_iconst (v := 3) dX7_copyFrom_94 rfl ?_
      obtain ⟨m24, e25, hf⟩ := bnd_some hf
      cases e25
      refine p_copy (N := 3) w_503 w_505 w_504 w_73 dX7_copyFrom_95 (Nat.le_of_ble_eq_true rfl) (ar_65 hj20) (ar_15 hj22) (by decide) rfl (by decide) (by decide) (Nat.le_of_ble_eq_true rfl) ?_
      generalize m_cpy m (65 + j20) (15 + j22) 3 = m24 at hf ⊢
      refine g_iinc (q := 2) (v := (b2 + (1 : Int32))) dX7_copyFrom_98 rfl rfl (Nat.le_of_ble_eq_true rfl) rfl ?_
      refine g_goto (tgt := 74) dX7_copyFrom_101 (by decide) ?_
      refine g_sub [1, 2, 0] rfl ?_
      exact ih (b2 + (1 : Int32)) m24 _ hf hk

set_option maxRecDepth 100000 in
theorem t_X7_copyFrom_1_51_L106 {V : eV} {r : Option Value} {h' : aH} : ∀ (n : Nat) (b2 : Int32) (m : mM) (o : mM), f_X7_copyFrom_1_51_L106 n b2 m = some o → gG V k_X7_copyFrom_1_51 137 [(0, .ref (vB V + 1)), (1, .ref (vB V + 51))] [] (hS o) r h' → gG V k_X7_copyFrom_1_51 106 [(0, .ref (vB V + 1)), (1, .ref (vB V + 51)), (2, .int b2)] [] (hS m) r h' := by
  intro n
  induction n with
  | zero => intro b2 m o hf; cases hf
  | succ n ih =>
    intro b2 m o hf hk
    rw [f_X7_copyFrom_1_51_L106] at hf
    refine g_iload_n 2 dX7_copyFrom_106 rfl rfl ?_
    refine g_bipush (v := 6) dX7_copyFrom_107 rfl ?_
    refine g_icmp_ge (tgt := 137) dX7_copyFrom_109 (by decide) (fun c35 => ?_) (fun c35 => ?_)
    · replace hf := (if_pos c35).symm.trans hf
      cases hf
      refine g_sub [0, 1] rfl ?_
      exact hk
    · replace hf := (if_neg c35).symm.trans hf
      refine g_aload_n 1 dX7_copyFrom_112 rfl rfl ?_
      refine gf_131 dX7_copyFrom_113 rfl ob_51 rfl ?_
      refine g_iload_n 2 dX7_copyFrom_116 rfl rfl ?_
      obtain ⟨j29, e30, hf⟩ := bnd_some hf
      refine p_aald dX7_copyFrom_117 rt_93 e30 (fun hj29 => ?_)
      refine g_iconst (v := 0) dX7_copyFrom_118 rfl ?_
      refine g_aload_n 0 dX7_copyFrom_119 rfl rfl ?_
      refine gf_131 dX7_copyFrom_120 rfl ob_1 rfl ?_
      refine g_iload_n 2 dX7_copyFrom_123 rfl rfl ?_
      obtain ⟨j31, e32, hf⟩ := bnd_some hf
      refine p_aald dX7_copyFrom_124 rt_43 e32 (fun hj31 => ?_)
      refine g_iconst (v := 0) dX7_copyFrom_125 rfl ?_
      refine g_bipush (v := 6) dX7_copyFrom_126 rfl ?_
      obtain ⟨m33, e34, hf⟩ := bnd_some hf
      cases e34
      refine p_copy (N := 6) w_503 w_505 w_504 w_73 dX7_copyFrom_128 (Nat.le_of_ble_eq_true rfl) (ar_94 hj29) (ar_44 hj31) (by decide) rfl (by decide) (by decide) (Nat.le_of_ble_eq_true rfl) ?_
      generalize m_cpy m (94 + j29) (44 + j31) 6 = m33 at hf ⊢
      refine g_iinc (q := 2) (v := (b2 + (1 : Int32))) dX7_copyFrom_131 rfl rfl (Nat.le_of_ble_eq_true rfl) rfl ?_
      refine g_goto (tgt := 106) dX7_copyFrom_134 (by decide) ?_
      refine g_sub [1, 2, 0] rfl ?_
      exact ih (b2 + (1 : Int32)) m33 _ hf hk

set_option maxRecDepth 100000 in
theorem t_X7_copyFrom_1_51 {V : eV}  {m : mM} {q : mM} (hf : f_X7_copyFrom_1_51  m = some q) : eE V 1 yX7_copyFrom cX7_copyFrom 3 (none) [.ref (vB V + 1), .ref (vB V + 51)] (hS m) none (hS q) := by
  refine eE_of (by decide) (Nat.le_of_ble_eq_true rfl) ?_
  show gG V k_X7_copyFrom_1_51 0 [(0, .ref (vB V + 1)), (1, .ref (vB V + 51))] [] (hS m) _ _
  unfold f_X7_copyFrom_1_51 at hf
  refine g_aload_n 0 dX7_copyFrom_0 rfl rfl ?_
  refine g_aload_n 1 dX7_copyFrom_1 rfl rfl ?_
  refine gf_91 dX7_copyFrom_2 rfl ob_51 rfl ?_
  obtain ⟨m1, e2, hf⟩ := bnd_some hf
  cases e2
  refine pf_91 dX7_copyFrom_5 rfl ob_1 rfl ?_
  generalize m_up m 1 0 (m 51 0) = m1 at hf ⊢
  refine g_aload_n 0 dX7_copyFrom_8 rfl rfl ?_
  refine g_aload_n 1 dX7_copyFrom_9 rfl rfl ?_
  refine gf_97 dX7_copyFrom_10 rfl ob_51 rfl ?_
  obtain ⟨m3, e4, hf⟩ := bnd_some hf
  cases e4
  refine pf_97 dX7_copyFrom_13 rfl ob_1 rfl ?_
  generalize m_up m1 1 1 (m1 51 1) = m3 at hf ⊢
  refine g_aload_n 0 dX7_copyFrom_16 rfl rfl ?_
  refine g_aload_n 1 dX7_copyFrom_17 rfl rfl ?_
  refine gf_103 dX7_copyFrom_18 rfl ob_51 rfl ?_
  obtain ⟨m5, e6, hf⟩ := bnd_some hf
  cases e6
  refine pf_103 dX7_copyFrom_21 rfl ob_1 rfl ?_
  generalize m_up m3 1 2 (m3 51 2) = m5 at hf ⊢
  refine g_aload_n 0 dX7_copyFrom_24 rfl rfl ?_
  refine g_aload_n 1 dX7_copyFrom_25 rfl rfl ?_
  refine gf_107 dX7_copyFrom_26 rfl ob_51 rfl ?_
  obtain ⟨m7, e8, hf⟩ := bnd_some hf
  cases e8
  refine pf_107 dX7_copyFrom_29 rfl ob_1 rfl ?_
  generalize m_up m5 1 3 (m5 51 3) = m7 at hf ⊢
  refine g_aload_n 0 dX7_copyFrom_32 rfl rfl ?_
  refine g_aload_n 1 dX7_copyFrom_33 rfl rfl ?_
  refine gf_109 dX7_copyFrom_34 rfl ob_51 rfl ?_
  obtain ⟨m9, e10, hf⟩ := bnd_some hf
  cases e10
  refine pf_109 dX7_copyFrom_37 rfl ob_1 rfl ?_
  generalize m_up m7 1 4 (m7 51 4) = m9 at hf ⊢
  refine g_iconst (v := 0) dX7_copyFrom_40 rfl ?_
  refine g_istore_n dX7_copyFrom_41 rfl (Nat.le_of_ble_eq_true rfl) rfl ?_
  refine g_sub [1, 2, 0] rfl ?_
  obtain ⟨o18, e19, hf⟩ := bnd_some hf
  refine t_X7_copyFrom_1_51_L42 (V := V) fU (0 : Int32) m9 _ e19 ?_
  refine g_iconst (v := 0) dX7_copyFrom_72 rfl ?_
  refine g_istore_n dX7_copyFrom_73 rfl (Nat.le_of_ble_eq_true rfl) rfl ?_
  refine g_sub [1, 2, 0] rfl ?_
  obtain ⟨o27, e28, hf⟩ := bnd_some hf
  refine t_X7_copyFrom_1_51_L74 (V := V) fU (0 : Int32) o18 _ e28 ?_
  refine g_iconst (v := 0) dX7_copyFrom_104 rfl ?_
  refine g_istore_n dX7_copyFrom_105 rfl (Nat.le_of_ble_eq_true rfl) rfl ?_
  refine g_sub [1, 2, 0] rfl ?_
  obtain ⟨o36, e37, hf⟩ := bnd_some hf
  refine t_X7_copyFrom_1_51_L106 (V := V) fU (0 : Int32) o27 _ e37 ?_
  refine g_aload_n 1 dX7_copyFrom_137 rfl rfl ?_
  refine gf_115 dX7_copyFrom_138 rfl ob_51 rfl ?_
  refine g_iconst (v := 0) dX7_copyFrom_141 rfl ?_
  refine g_aload_n 0 dX7_copyFrom_142 rfl rfl ?_
  refine gf_115 dX7_copyFrom_143 rfl ob_1 rfl ?_
  refine g_iconst (v := 0) dX7_copyFrom_146 rfl ?_
  refine g_bipush (v := 8) dX7_copyFrom_147 rfl ?_
  obtain ⟨m38, e39, hf⟩ := bnd_some hf
  cases e39
  refine p_copy (N := 8) w_503 w_505 w_504 w_73 dX7_copyFrom_149 (Nat.le_of_ble_eq_true rfl) at_61 at_11 (by decide) rfl (by decide) (by decide) (Nat.le_of_ble_eq_true rfl) ?_
  generalize m_cpy o36 61 11 8 = m38 at hf ⊢
  refine g_aload_n 1 dX7_copyFrom_152 rfl rfl ?_
  refine gf_119 dX7_copyFrom_153 rfl ob_51 rfl ?_
  refine g_iconst (v := 0) dX7_copyFrom_156 rfl ?_
  refine g_aload_n 0 dX7_copyFrom_157 rfl rfl ?_
  refine gf_119 dX7_copyFrom_158 rfl ob_1 rfl ?_
  refine g_iconst (v := 0) dX7_copyFrom_161 rfl ?_
  refine g_bipush (v := 8) dX7_copyFrom_162 rfl ?_
  obtain ⟨m40, e41, hf⟩ := bnd_some hf
  cases e41
  refine p_copy (N := 8) w_503 w_505 w_504 w_73 dX7_copyFrom_164 (Nat.le_of_ble_eq_true rfl) at_62 at_12 (by decide) rfl (by decide) (by decide) (Nat.le_of_ble_eq_true rfl) ?_
  generalize m_cpy m38 62 12 8 = m40 at hf ⊢
  refine g_aload_n 1 dX7_copyFrom_167 rfl rfl ?_
  refine gf_122 dX7_copyFrom_168 rfl ob_51 rfl ?_
  refine g_iconst (v := 0) dX7_copyFrom_171 rfl ?_
  refine g_aload_n 0 dX7_copyFrom_172 rfl rfl ?_
  refine gf_122 dX7_copyFrom_173 rfl ob_1 rfl ?_
  refine g_iconst (v := 0) dX7_copyFrom_176 rfl ?_
  refine g_bipush (v := 28) dX7_copyFrom_177 rfl ?_
  obtain ⟨m42, e43, hf⟩ := bnd_some hf
  cases e43
  refine p_copy (N := 28) w_503 w_505 w_504 w_73 dX7_copyFrom_179 (Nat.le_of_ble_eq_true rfl) at_63 at_13 (by decide) rfl (by decide) (by decide) (Nat.le_of_ble_eq_true rfl) ?_
  generalize m_cpy m40 63 13 28 = m42 at hf ⊢
  refine g_aload_n 1 dX7_copyFrom_182 rfl rfl ?_
  refine gf_139 dX7_copyFrom_183 rfl ob_51 rfl ?_
  refine g_iconst (v := 0) dX7_copyFrom_186 rfl ?_
  refine g_aload_n 0 dX7_copyFrom_187 rfl rfl ?_
  refine gf_139 dX7_copyFrom_188 rfl ob_1 rfl ?_
  refine g_iconst (v := 0) dX7_copyFrom_191 rfl ?_
  refine g_iconst (v := 4) dX7_copyFrom_192 rfl ?_
  obtain ⟨m44, e45, hf⟩ := bnd_some hf
  cases e45
  refine p_copy (N := 4) w_503 w_505 w_504 w_73 dX7_copyFrom_193 (Nat.le_of_ble_eq_true rfl) at_100 at_50 (by decide) rfl (by decide) (by decide) (Nat.le_of_ble_eq_true rfl) ?_
  generalize m_cpy m42 100 50 4 = m44 at hf ⊢
  cases hf
  exact g_vret dX7_copyFrom_196 rfl

