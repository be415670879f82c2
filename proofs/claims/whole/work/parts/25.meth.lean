/-! printed by wip/whole/gen_meth.py: plain functions of the methods, and that the bytecode does as they say -/
abbrev k_X7_hoursOfNobody : kX := (cX7_hoursOfNobody, "WhoseHourItIs$Town", "hoursOfNobody", some .int, 3, 0)
def f_X7_hoursOfNobody_L4 (m : mM) : Nat → Int32 → Int32 → Option (Int32)
  | 0, _, _ => none
  | n + 1, b1, b2 =>
      if (28 : Int32) ≤ b2 then (
      some b1)
      else (
      bnd (rdA 13 28 b2 m) fun v1 =>
      if v1 = 0 then (
      f_X7_hoursOfNobody_L4 m n (b1 + (1 : Int32)) (b2 + (1 : Int32)))
      else (
      f_X7_hoursOfNobody_L4 m n b1 (b2 + (1 : Int32))))
def f_X7_hoursOfNobody  (m : mM) : Option (Int32) :=
bnd (f_X7_hoursOfNobody_L4 m fU (0 : Int32) (0 : Int32)) fun o5 =>
some o5
set_option maxRecDepth 100000 in
theorem t_X7_hoursOfNobody_L4 {V : eV} (m : mM) {r : Option Value} {h' : aH} : ∀ (n : Nat) (b1 : Int32) (b2 : Int32) (o : Int32), f_X7_hoursOfNobody_L4 m n b1 b2 = some o → gG V k_X7_hoursOfNobody 28 [(1, .int o)] [] (hS m) r h' → gG V k_X7_hoursOfNobody 4 [(0, .ref (vB V + 1)), (1, .int b1), (2, .int b2)] [] (hS m) r h' := by
  intro n
  induction n with
  | zero => intro b1 b2 o hf; cases hf
  | succ n ih =>
    intro b1 b2 o hf hk
    rw [f_X7_hoursOfNobody_L4] at hf
    refine g_iload_n 2 dX7_hoursOfNobody_4 rfl rfl ?_
    refine g_bipush (v := 28) dX7_hoursOfNobody_5 rfl ?_
    refine g_icmp_ge (tgt := 28) dX7_hoursOfNobody_7 (by decide) (fun c4 => ?_) (fun c4 => ?_)
    · replace hf := (if_pos c4).symm.trans hf
      cases hf
      refine g_sub [1] rfl ?_
      exact hk
    · replace hf := (if_neg c4).symm.trans hf
      refine g_aload_n 0 dX7_hoursOfNobody_10 rfl rfl ?_
      refine gf_122 dX7_hoursOfNobody_11 rfl ob_1 rfl ?_
      refine g_iload_n 2 dX7_hoursOfNobody_14 rfl rfl ?_
      obtain ⟨v1, e2, hf⟩ := bnd_some hf
      refine p_iald dX7_hoursOfNobody_15 at_13 e2 ?_
      refine g_if_ne (tgt := 22) dX7_hoursOfNobody_16 (by decide) (fun c3 => ?_) (fun c3 => ?_)
      · replace hf := (if_neg c3).symm.trans hf
        refine g_iinc (q := 2) (v := (b2 + (1 : Int32))) dX7_hoursOfNobody_22 rfl rfl (Nat.le_of_ble_eq_true rfl) rfl ?_
        refine g_goto (tgt := 4) dX7_hoursOfNobody_25 (by decide) ?_
        refine g_sub [1, 2, 0] rfl ?_
        exact ih b1 (b2 + (1 : Int32)) _ hf hk
      · replace hf := (if_pos c3).symm.trans hf
        refine g_iinc (q := 1) (v := (b1 + (1 : Int32))) dX7_hoursOfNobody_19 rfl rfl (Nat.le_of_ble_eq_true rfl) rfl ?_
        refine g_iinc (q := 2) (v := (b2 + (1 : Int32))) dX7_hoursOfNobody_22 rfl rfl (Nat.le_of_ble_eq_true rfl) rfl ?_
        refine g_goto (tgt := 4) dX7_hoursOfNobody_25 (by decide) ?_
        refine g_sub [2, 1, 0] rfl ?_
        exact ih (b1 + (1 : Int32)) (b2 + (1 : Int32)) _ hf hk

set_option maxRecDepth 100000 in
theorem t_X7_hoursOfNobody {V : eV}  {m : mM} {q : Int32} (hf : f_X7_hoursOfNobody  m = some q) : eE V 0 yX7_hoursOfNobody cX7_hoursOfNobody 3 (some .int) [.ref (vB V + 1)] (hS m) (some (.int q)) (hS m) := by
  refine eE_of (by decide) (Nat.le_of_ble_eq_true rfl) ?_
  show gG V k_X7_hoursOfNobody 0 [(0, .ref (vB V + 1))] [] (hS m) _ _
  unfold f_X7_hoursOfNobody at hf
  refine g_iconst (v := 0) dX7_hoursOfNobody_0 rfl ?_
  refine g_istore_n dX7_hoursOfNobody_1 rfl (Nat.le_of_ble_eq_true rfl) rfl ?_
  refine g_iconst (v := 0) dX7_hoursOfNobody_2 rfl ?_
  refine g_istore_n dX7_hoursOfNobody_3 rfl (Nat.le_of_ble_eq_true rfl) rfl ?_
  refine g_sub [2, 1, 0] rfl ?_
  obtain ⟨o5, e6, hf⟩ := bnd_some hf
  refine t_X7_hoursOfNobody_L4 (V := V) m fU (0 : Int32) (0 : Int32) _ e6 ?_
  refine g_iload_n 0 dX7_hoursOfNobody_28 rfl rfl ?_
  cases hf
  exact g_iret dX7_hoursOfNobody_29 .int rfl rfl

abbrev k_X7_allParts : kX := (cX7_allParts, "WhoseHourItIs$Town", "allParts", some .int, 3, 0)
def f_X7_allParts_L4 (m : mM) : Nat → Int32 → Int32 → Option (Int32)
  | 0, _, _ => none
  | n + 1, b1, b2 =>
      if (28 : Int32) ≤ b2 then (
      some b1)
      else (
      bnd (rdA 13 28 b2 m) fun v1 =>
      f_X7_allParts_L4 m n (b1 + v1) (b2 + (1 : Int32)))
def f_X7_allParts  (m : mM) : Option (Int32) :=
bnd (f_X7_allParts_L4 m fU (0 : Int32) (0 : Int32)) fun o4 =>
some o4
set_option maxRecDepth 100000 in
theorem t_X7_allParts_L4 {V : eV} (m : mM) {r : Option Value} {h' : aH} : ∀ (n : Nat) (b1 : Int32) (b2 : Int32) (o : Int32), f_X7_allParts_L4 m n b1 b2 = some o → gG V k_X7_allParts 25 [(1, .int o)] [] (hS m) r h' → gG V k_X7_allParts 4 [(0, .ref (vB V + 1)), (1, .int b1), (2, .int b2)] [] (hS m) r h' := by
  intro n
  induction n with
  | zero => intro b1 b2 o hf; cases hf
  | succ n ih =>
    intro b1 b2 o hf hk
    rw [f_X7_allParts_L4] at hf
    refine g_iload_n 2 dX7_allParts_4 rfl rfl ?_
    refine g_bipush (v := 28) dX7_allParts_5 rfl ?_
    refine g_icmp_ge (tgt := 25) dX7_allParts_7 (by decide) (fun c3 => ?_) (fun c3 => ?_)
    · replace hf := (if_pos c3).symm.trans hf
      cases hf
      refine g_sub [1] rfl ?_
      exact hk
    · replace hf := (if_neg c3).symm.trans hf
      refine g_iload_n 1 dX7_allParts_10 rfl rfl ?_
      refine g_aload_n 0 dX7_allParts_11 rfl rfl ?_
      refine gf_122 dX7_allParts_12 rfl ob_1 rfl ?_
      refine g_iload_n 2 dX7_allParts_15 rfl rfl ?_
      obtain ⟨v1, e2, hf⟩ := bnd_some hf
      refine p_iald dX7_allParts_16 at_13 e2 ?_
      refine g_iadd dX7_allParts_17 ?_
      refine g_istore_n dX7_allParts_18 rfl (Nat.le_of_ble_eq_true rfl) rfl ?_
      refine g_iinc (q := 2) (v := (b2 + (1 : Int32))) dX7_allParts_19 rfl rfl (Nat.le_of_ble_eq_true rfl) rfl ?_
      refine g_goto (tgt := 4) dX7_allParts_22 (by decide) ?_
      refine g_sub [2, 1, 0] rfl ?_
      exact ih (b1 + v1) (b2 + (1 : Int32)) _ hf hk

set_option maxRecDepth 100000 in
theorem t_X7_allParts {V : eV}  {m : mM} {q : Int32} (hf : f_X7_allParts  m = some q) : eE V 0 yX7_allParts cX7_allParts 3 (some .int) [.ref (vB V + 1)] (hS m) (some (.int q)) (hS m) := by
  refine eE_of (by decide) (Nat.le_of_ble_eq_true rfl) ?_
  show gG V k_X7_allParts 0 [(0, .ref (vB V + 1))] [] (hS m) _ _
  unfold f_X7_allParts at hf
  refine g_iconst (v := 0) dX7_allParts_0 rfl ?_
  refine g_istore_n dX7_allParts_1 rfl (Nat.le_of_ble_eq_true rfl) rfl ?_
  refine g_iconst (v := 0) dX7_allParts_2 rfl ?_
  refine g_istore_n dX7_allParts_3 rfl (Nat.le_of_ble_eq_true rfl) rfl ?_
  refine g_sub [2, 1, 0] rfl ?_
  obtain ⟨o4, e5, hf⟩ := bnd_some hf
  refine t_X7_allParts_L4 (V := V) m fU (0 : Int32) (0 : Int32) _ e5 ?_
  refine g_iload_n 0 dX7_allParts_25 rfl rfl ?_
  cases hf
  exact g_iret dX7_allParts_26 .int rfl rfl

abbrev k_X8_count : kX := (cX8_count, "WhoseHourItIs", "count", some .int, 2, 1)
def f_X8_count (a1 : Int32) (m : mM) : Option (Int32) :=
if a1 = (0 : Int32) then (
some (m 1 0))
else (
if a1 = (1 : Int32) then (
some (m 1 1))
else (
if a1 = (2 : Int32) then (
bnd (f_X7_hoursOfNobody m) fun q4 =>
some q4)
else (
if a1 = (3 : Int32) then (
bnd (f_X7_allParts m) fun q7 =>
some q7)
else (
if a1 = (4 : Int32) then (
some (bitC (m 1 2)))
else (
if a1 = (5 : Int32) then (
some (m 184 3))
else (
if a1 = (6 : Int32) then (
some (m 151 0))
else (
if a1 ≤ (10 : Int32) then (
some (-9 : Int32))
else (
if (16 : Int32) < a1 then (
some (-9 : Int32))
else (
bnd (rdA 186 7 (a1 - (10 : Int32)) m) fun v12 =>
some v12)))))))))
set_option maxRecDepth 100000 in
theorem t_X8_count {V : eV} {a1 : Int32}  {m : mM} {q : Int32} (hf : f_X8_count a1 m = some q) : eE V 1 yX8_count cX8_count 2 (some .int) [.ref (vB V + 0), .int a1] (hS m) (some (.int q)) (hS m) := by
  refine eE_of (by decide) (Nat.le_of_ble_eq_true rfl) ?_
  show gG V k_X8_count 0 [(0, .ref (vB V + 0)), (1, .int a1)] [] (hS m) _ _
  unfold f_X8_count at hf
  refine g_iload_n 1 dX8_count_0 rfl rfl ?_
  by_cases c1 : a1 = (0 : Int32)
  · replace hf := (if_pos c1).symm.trans hf
    refine g_tableIn (tgt := 44) (off := 43) dX8_count_1 (by rw [c1]; decide) (by rw [c1]; decide) (by rw [c1]; rfl) (by decide) ?_
    refine g_aload_n 0 dX8_count_44 rfl rfl ?_
    refine gf_314 dX8_count_45 rfl ob_0 rfl ?_
    refine gf_95 dX8_count_48 rfl ob_1 rfl ?_
    cases hf
    exact g_iret dX8_count_51 .int rfl rfl
  · replace hf := (if_neg c1).symm.trans hf
    by_cases c2 : a1 = (1 : Int32)
    · replace hf := (if_pos c2).symm.trans hf
      refine g_tableIn (tgt := 52) (off := 51) dX8_count_1 (by rw [c2]; decide) (by rw [c2]; decide) (by rw [c2]; rfl) (by decide) ?_
      refine g_aload_n 0 dX8_count_52 rfl rfl ?_
      refine gf_314 dX8_count_53 rfl ob_0 rfl ?_
      refine gf_102 dX8_count_56 rfl ob_1 rfl ?_
      cases hf
      exact g_iret dX8_count_59 .int rfl rfl
    · replace hf := (if_neg c2).symm.trans hf
      by_cases c3 : a1 = (2 : Int32)
      · replace hf := (if_pos c3).symm.trans hf
        refine g_tableIn (tgt := 60) (off := 59) dX8_count_1 (by rw [c3]; decide) (by rw [c3]; decide) (by rw [c3]; rfl) (by decide) ?_
        refine g_aload_n 0 dX8_count_60 rfl rfl ?_
        refine gf_314 dX8_count_61 rfl ob_0 rfl ?_
        obtain ⟨q4, e5, hf⟩ := bnd_some hf
        refine p_callV (As := []) (rest := []) (t_X7_hoursOfNobody e5) cw_915 w_916 w_917 ob_1 rfl (Nat.le_of_ble_eq_true rfl) rfl rfl (Nat.le_of_ble_eq_true rfl) dX8_count_64 ?_
        cases hf
        exact g_iret dX8_count_67 .int rfl rfl
      · replace hf := (if_neg c3).symm.trans hf
        by_cases c6 : a1 = (3 : Int32)
        · replace hf := (if_pos c6).symm.trans hf
          refine g_tableIn (tgt := 68) (off := 67) dX8_count_1 (by rw [c6]; decide) (by rw [c6]; decide) (by rw [c6]; rfl) (by decide) ?_
          refine g_aload_n 0 dX8_count_68 rfl rfl ?_
          refine gf_314 dX8_count_69 rfl ob_0 rfl ?_
          obtain ⟨q7, e8, hf⟩ := bnd_some hf
          refine p_callV (As := []) (rest := []) (t_X7_allParts e8) cw_919 w_920 w_921 ob_1 rfl (Nat.le_of_ble_eq_true rfl) rfl rfl (Nat.le_of_ble_eq_true rfl) dX8_count_72 ?_
          cases hf
          exact g_iret dX8_count_75 .int rfl rfl
        · replace hf := (if_neg c6).symm.trans hf
          by_cases c9 : a1 = (4 : Int32)
          · replace hf := (if_pos c9).symm.trans hf
            refine g_tableIn (tgt := 76) (off := 75) dX8_count_1 (by rw [c9]; decide) (by rw [c9]; decide) (by rw [c9]; rfl) (by decide) ?_
            refine g_aload_n 0 dX8_count_76 rfl rfl ?_
            refine gf_314 dX8_count_77 rfl ob_0 rfl ?_
            refine gf_106 dX8_count_80 rfl ob_1 rfl ?_
            refine p_callS (As := [.int (m 1 2)]) (rest := []) (j_bitCount (m 1 2)) cw_550 w_551 (Nat.le_of_ble_eq_true rfl) rfl rfl (Nat.le_of_ble_eq_true rfl) dX8_count_83 ?_
            cases hf
            exact g_iret dX8_count_86 .int rfl rfl
          · replace hf := (if_neg c9).symm.trans hf
            by_cases c10 : a1 = (5 : Int32)
            · replace hf := (if_pos c10).symm.trans hf
              refine g_tableIn (tgt := 87) (off := 86) dX8_count_1 (by rw [c10]; decide) (by rw [c10]; decide) (by rw [c10]; rfl) (by decide) ?_
              refine g_aload_n 0 dX8_count_87 rfl rfl ?_
              refine gf_324 dX8_count_88 rfl ob_0 rfl ?_
              refine gf_304 dX8_count_91 rfl ob_184 rfl ?_
              cases hf
              exact g_iret dX8_count_94 .int rfl rfl
            · replace hf := (if_neg c10).symm.trans hf
              by_cases c11 : a1 = (6 : Int32)
              · replace hf := (if_pos c11).symm.trans hf
                refine g_tableIn (tgt := 95) (off := 94) dX8_count_1 (by rw [c11]; decide) (by rw [c11]; decide) (by rw [c11]; rfl) (by decide) ?_
                refine g_aload_n 0 dX8_count_95 rfl rfl ?_
                refine gf_318 dX8_count_96 rfl ob_0 rfl ?_
                refine gf_175 dX8_count_99 rfl ob_151 rfl ?_
                cases hf
                exact g_iret dX8_count_102 .int rfl rfl
              · replace hf := (if_neg c11).symm.trans hf
                have hsw := sw_out (lo := 0) (hi := 6) (x := a1) (fun z z1 z2 => by
                    have zz : z = 0 ∨ z = 1 ∨ z = 2 ∨ z = 3 ∨ z = 4 ∨ z = 5 ∨ z = 6 := by omega
                    rcases zz with rfl | rfl | rfl | rfl | rfl | rfl | rfl <;> assumption)
                refine g_tableOut (tgt := 103) dX8_count_1 hsw (by decide) ?_
                refine g_iload_n 1 dX8_count_103 rfl rfl ?_
                refine g_bipush (v := 10) dX8_count_104 rfl ?_
                refine g_icmp_le (tgt := 127) dX8_count_106 (by decide) (fun c15 => ?_) (fun c15 => ?_)
                · replace hf := (if_pos c15).symm.trans hf
                  refine g_bipush (v := -9) dX8_count_127 rfl ?_
                  cases hf
                  exact g_iret dX8_count_129 .int rfl rfl
                · replace hf := (if_neg c15).symm.trans hf
                  refine g_iload_n 1 dX8_count_109 rfl rfl ?_
                  refine g_bipush (v := 16) dX8_count_110 rfl ?_
                  refine g_icmp_gt (tgt := 127) dX8_count_112 (by decide) (fun c14 => ?_) (fun c14 => ?_)
                  · replace hf := (if_pos c14).symm.trans hf
                    refine g_bipush (v := -9) dX8_count_127 rfl ?_
                    cases hf
                    exact g_iret dX8_count_129 .int rfl rfl
                  · replace hf := (if_neg c14).symm.trans hf
                    refine g_aload_n 0 dX8_count_115 rfl rfl ?_
                    refine gf_325 dX8_count_116 rfl ob_0 rfl ?_
                    refine g_iload_n 1 dX8_count_119 rfl rfl ?_
                    refine g_bipush (v := 10) dX8_count_120 rfl ?_
                    refine g_isub dX8_count_122 ?_
                    obtain ⟨v12, e13, hf⟩ := bnd_some hf
                    refine p_iald dX8_count_123 at_186 e13 ?_
                    refine g_goto (tgt := 129) dX8_count_124 (by decide) ?_
                    cases hf
                    exact g_iret dX8_count_129 .int rfl rfl

abbrev k_X9_refuse : kX := (cX9_refuse, "WhoseHourItIsModel", "refuse", some .int, 2, 0)
def f_X9_refuse (a1 : Int32) (m : mM) : Option (Int32 × mM) :=
bnd (rdA 188 7 (-a1) m) fun v1 =>
bnd (wrA 188 7 (-a1) (v1 + (1 : Int32)) m) fun m3 =>
some (a1, m3)
set_option maxRecDepth 100000 in
theorem t_X9_refuse {V : eV} {a1 : Int32}  {m : mM} {q : Int32 × mM} (hf : f_X9_refuse a1 m = some q) : eE V 0 yX9_refuse cX9_refuse 2 (some .int) [.ref (vB V + 187), .int a1] (hS m) (some (.int q.1)) (hS q.2) := by
  refine eE_of (by decide) (Nat.le_of_ble_eq_true rfl) ?_
  show gG V k_X9_refuse 0 [(0, .ref (vB V + 187)), (1, .int a1)] [] (hS m) _ _
  unfold f_X9_refuse at hf
  refine g_aload_n 0 dX9_refuse_0 rfl rfl ?_
  refine gf_929 dX9_refuse_1 rfl ob_187 rfl ?_
  refine g_iload_n 1 dX9_refuse_4 rfl rfl ?_
  refine g_ineg dX9_refuse_5 ?_
  refine g_dup2 dX9_refuse_6 rfl rfl ?_
  obtain ⟨v1, e2, hf⟩ := bnd_some hf
  refine p_iald dX9_refuse_7 at_188 e2 ?_
  refine g_iconst (v := 1) dX9_refuse_8 rfl ?_
  refine g_iadd dX9_refuse_9 ?_
  obtain ⟨m3, e4, hf⟩ := bnd_some hf
  refine p_iast dX9_refuse_10 at_188 e4 ?_
  refine g_iload_n 1 dX9_refuse_11 rfl rfl ?_
  cases hf
  exact g_iret dX9_refuse_12 .int rfl rfl

abbrev k_X9_feed : kX := (cX9_feed, "WhoseHourItIsModel", "feed", some .int, 5, 1)
def f_X9_feed_L39 (b1 : Int32) (b2 : Int64) : Nat → Int32 → mM → Option (mM)
  | 0, _, _ => none
  | n + 1, b4, m =>
      if b1 ≤ b4 then (
      some m)
      else (
      bnd (wrA 193 64 (m 187 8) (((b2 >>> (((8 : Int32) * b4).toInt64 &&& 63)) &&& (255 : Int64)).toInt32) m) fun m3 =>
      bnd (some (m_up m3 187 8 ((m3 187 8) + (1 : Int32)))) fun m5 =>
      f_X9_feed_L39 b1 b2 n (b4 + (1 : Int32)) m5)
def f_X9_feed (a1 : Int32) (a2 : Int64) (m : mM) : Option (Int32 × mM) :=
if (1 : Int32) ≤ a1 then (
if (8 : Int32) < a1 then (
bnd (f_X9_refuse (-6 : Int32) m) fun q1 =>
some (q1.1, q1.2))
else (
if ((m 187 8) + a1) ≤ (64 : Int32) then (
bnd (f_X9_feed_L39 a1 a2 fU (0 : Int32) m) fun o8 =>
some ((o8 187 8), o8))
else (
bnd (f_X9_refuse (-6 : Int32) m) fun q10 =>
some (q10.1, q10.2))))
else (
bnd (f_X9_refuse (-4 : Int32) m) fun q14 =>
some (q14.1, q14.2))
set_option maxRecDepth 100000 in
theorem t_X9_feed_L39 {V : eV} (b1 : Int32) (b2 : Int64) {r : Option Value} {h' : aH} : ∀ (n : Nat) (b4 : Int32) (m : mM) (o : mM), f_X9_feed_L39 b1 b2 n b4 m = some o → gG V k_X9_feed 82 [(0, .ref (vB V + 187))] [] (hS o) r h' → gG V k_X9_feed 39 [(0, .ref (vB V + 187)), (1, .int b1), (2, .long b2), (4, .int b4)] [] (hS m) r h' := by
  intro n
  induction n with
  | zero => intro b4 m o hf; cases hf
  | succ n ih =>
    intro b4 m o hf hk
    rw [f_X9_feed_L39] at hf
    refine g_iload 3 dX9_feed_39 rfl ?_
    refine g_iload_n 1 dX9_feed_41 rfl rfl ?_
    refine g_icmp_ge (tgt := 82) dX9_feed_42 (by decide) (fun c7 => ?_) (fun c7 => ?_)
    · replace hf := (if_pos c7).symm.trans hf
      cases hf
      refine g_sub [0] rfl ?_
      exact hk
    · replace hf := (if_neg c7).symm.trans hf
      refine g_aload_n 0 dX9_feed_45 rfl rfl ?_
      refine gf_935 dX9_feed_46 rfl ob_187 rfl ?_
      refine g_aload_n 0 dX9_feed_49 rfl rfl ?_
      refine gf_937 dX9_feed_50 rfl ob_187 rfl ?_
      refine g_lload_n 2 dX9_feed_53 rfl rfl ?_
      refine g_bipush (v := 8) dX9_feed_54 rfl ?_
      refine g_iload 3 dX9_feed_56 rfl ?_
      refine g_imul dX9_feed_58 ?_
      refine g_lshr dX9_feed_59 ?_
      refine g_ldc2 w_1004 dX9_feed_60 ?_
      refine g_land dX9_feed_63 ?_
      refine g_l2i dX9_feed_64 ?_
      obtain ⟨m3, e4, hf⟩ := bnd_some hf
      refine p_iast dX9_feed_65 at_193 e4 ?_
      refine g_aload_n 0 dX9_feed_66 rfl rfl ?_
      refine g_dup dX9_feed_67 rfl ?_
      refine gf_937 dX9_feed_68 rfl ob_187 rfl ?_
      refine g_iconst (v := 1) dX9_feed_71 rfl ?_
      refine g_iadd dX9_feed_72 ?_
      obtain ⟨m5, e6, hf⟩ := bnd_some hf
      cases e6
      refine pf_937 dX9_feed_73 rfl ob_187 rfl ?_
      generalize m_up m3 187 8 ((m3 187 8) + (1 : Int32)) = m5 at hf ⊢
      refine g_iinc (q := 3) (v := (b4 + (1 : Int32))) dX9_feed_76 rfl rfl (Nat.le_of_ble_eq_true rfl) rfl ?_
      refine g_goto (tgt := 39) dX9_feed_79 (by decide) ?_
      refine g_sub [1, 2, 3, 0] rfl ?_
      exact ih (b4 + (1 : Int32)) m5 _ hf hk

set_option maxRecDepth 100000 in
theorem t_X9_feed {V : eV} {a1 : Int32} {a2 : Int64}  {m : mM} {q : Int32 × mM} (hf : f_X9_feed a1 a2 m = some q) : eE V 1 yX9_feed cX9_feed 5 (some .int) [.ref (vB V + 187), .int a1, .long a2] (hS m) (some (.int q.1)) (hS q.2) := by
  refine eE_of (by decide) (Nat.le_of_ble_eq_true rfl) ?_
  show gG V k_X9_feed 0 [(0, .ref (vB V + 187)), (1, .int a1), (2, .long a2)] [] (hS m) _ _
  unfold f_X9_feed at hf
  refine g_iload_n 1 dX9_feed_0 rfl rfl ?_
  refine g_iconst (v := 1) dX9_feed_1 rfl ?_
  refine g_icmp_ge (tgt := 12) dX9_feed_2 (by decide) (fun c16 => ?_) (fun c16 => ?_)
  · replace hf := (if_pos c16).symm.trans hf
    refine g_iload_n 1 dX9_feed_12 rfl rfl ?_
    refine g_bipush (v := 8) dX9_feed_13 rfl ?_
    refine g_icmp_gt (tgt := 29) dX9_feed_15 (by decide) (fun c13 => ?_) (fun c13 => ?_)
    · replace hf := (if_pos c13).symm.trans hf
      refine g_aload_n 0 dX9_feed_29 rfl rfl ?_
      refine g_bipush (v := -6) dX9_feed_30 rfl ?_
      obtain ⟨q1, e2, hf⟩ := bnd_some hf
      refine p_callV (As := [.int (-6 : Int32)]) (rest := []) (t_X9_refuse e2) cw_1000 w_1002 w_22 ob_187 rfl (Nat.le_of_ble_eq_true rfl) rfl rfl (Nat.le_of_ble_eq_true rfl) dX9_feed_32 ?_
      cases hf
      exact g_iret dX9_feed_35 .int rfl rfl
    · replace hf := (if_neg c13).symm.trans hf
      refine g_aload_n 0 dX9_feed_18 rfl rfl ?_
      refine gf_937 dX9_feed_19 rfl ob_187 rfl ?_
      refine g_iload_n 1 dX9_feed_22 rfl rfl ?_
      refine g_iadd dX9_feed_23 ?_
      refine g_bipush (v := 64) dX9_feed_24 rfl ?_
      refine g_icmp_le (tgt := 36) dX9_feed_26 (by decide) (fun c12 => ?_) (fun c12 => ?_)
      · replace hf := (if_pos c12).symm.trans hf
        refine g_iconst (v := 0) dX9_feed_36 rfl ?_
        refine g_istore dX9_feed_37 (Nat.le_of_ble_eq_true rfl) rfl ?_
        refine g_sub [1, 2, 3, 0] rfl ?_
        obtain ⟨o8, e9, hf⟩ := bnd_some hf
        refine t_X9_feed_L39 (V := V) a1 a2 fU (0 : Int32) m _ e9 ?_
        refine g_aload_n 0 dX9_feed_82 rfl rfl ?_
        refine gf_937 dX9_feed_83 rfl ob_187 rfl ?_
        cases hf
        exact g_iret dX9_feed_86 .int rfl rfl
      · replace hf := (if_neg c12).symm.trans hf
        refine g_aload_n 0 dX9_feed_29 rfl rfl ?_
        refine g_bipush (v := -6) dX9_feed_30 rfl ?_
        obtain ⟨q10, e11, hf⟩ := bnd_some hf
        refine p_callV (As := [.int (-6 : Int32)]) (rest := []) (t_X9_refuse e11) cw_1000 w_1002 w_22 ob_187 rfl (Nat.le_of_ble_eq_true rfl) rfl rfl (Nat.le_of_ble_eq_true rfl) dX9_feed_32 ?_
        cases hf
        exact g_iret dX9_feed_35 .int rfl rfl
  · replace hf := (if_neg c16).symm.trans hf
    refine g_aload_n 0 dX9_feed_5 rfl rfl ?_
    refine g_bipush (v := -4) dX9_feed_6 rfl ?_
    obtain ⟨q14, e15, hf⟩ := bnd_some hf
    refine p_callV (As := [.int (-4 : Int32)]) (rest := []) (t_X9_refuse e15) cw_1000 w_1002 w_22 ob_187 rfl (Nat.le_of_ble_eq_true rfl) rfl rfl (Nat.le_of_ble_eq_true rfl) dX9_feed_8 ?_
    cases hf
    exact g_iret dX9_feed_11 .int rfl rfl

abbrev k_X9_sign : kX := (cX9_sign, "WhoseHourItIsModel", "sign", some .int, 1, 0)
def f_X9_sign  (m : mM) : Option (Int32) :=
if (m 187 9) < (m 187 8) then (
bnd (rdA 193 64 (m 187 9) m) fun v1 =>
some v1)
else (
some (-1 : Int32))
set_option maxRecDepth 100000 in
theorem t_X9_sign {V : eV}  {m : mM} {q : Int32} (hf : f_X9_sign  m = some q) : eE V 0 yX9_sign cX9_sign 1 (some .int) [.ref (vB V + 187)] (hS m) (some (.int q)) (hS m) := by
  refine eE_of (by decide) (Nat.le_of_ble_eq_true rfl) ?_
  show gG V k_X9_sign 0 [(0, .ref (vB V + 187))] [] (hS m) _ _
  unfold f_X9_sign at hf
  refine g_aload_n 0 dX9_sign_0 rfl rfl ?_
  refine gf_938 dX9_sign_1 rfl ob_187 rfl ?_
  refine g_aload_n 0 dX9_sign_4 rfl rfl ?_
  refine gf_937 dX9_sign_5 rfl ob_187 rfl ?_
  refine g_icmp_lt (tgt := 15) dX9_sign_8 (by decide) (fun c3 => ?_) (fun c3 => ?_)
  · replace hf := (if_pos c3).symm.trans hf
    refine g_aload_n 0 dX9_sign_15 rfl rfl ?_
    refine gf_935 dX9_sign_16 rfl ob_187 rfl ?_
    refine g_aload_n 0 dX9_sign_19 rfl rfl ?_
    refine gf_938 dX9_sign_20 rfl ob_187 rfl ?_
    obtain ⟨v1, e2, hf⟩ := bnd_some hf
    refine p_iald dX9_sign_23 at_193 e2 ?_
    cases hf
    exact g_iret dX9_sign_24 .int rfl rfl
  · replace hf := (if_neg c3).symm.trans hf
    refine g_iconst (v := -1) dX9_sign_11 rfl ?_
    refine g_goto (tgt := 24) dX9_sign_12 (by decide) ?_
    cases hf
    exact g_iret dX9_sign_24 .int rfl rfl

abbrev k_X9_kindOf : kX := (cX9_kindOf, "WhoseHourItIsModel", "kindOf", some .int, 1, 0)
def f_X9_kindOf (a0 : Int32) (m : mM) : Option (Int32) :=
if a0 = (106 : Int32) then (
some (3 : Int32))
else (
if a0 = (107 : Int32) then (
some (4 : Int32))
else (
if a0 = (108 : Int32) then (
some (-9 : Int32))
else (
if a0 = (109 : Int32) then (
some (-9 : Int32))
else (
if a0 = (110 : Int32) then (
some (5 : Int32))
else (
if a0 = (111 : Int32) then (
some (0 : Int32))
else (
if a0 = (112 : Int32) then (
some (-9 : Int32))
else (
if a0 = (113 : Int32) then (
some (-9 : Int32))
else (
if a0 = (114 : Int32) then (
some (-9 : Int32))
else (
if a0 = (115 : Int32) then (
some (2 : Int32))
else (
if a0 = (116 : Int32) then (
some (6 : Int32))
else (
if a0 = (117 : Int32) then (
some (-9 : Int32))
else (
if a0 = (118 : Int32) then (
some (-9 : Int32))
else (
if a0 = (119 : Int32) then (
some (-9 : Int32))
else (
if a0 = (120 : Int32) then (
some (-9 : Int32))
else (
if a0 = (121 : Int32) then (
some (1 : Int32))
else (
some (-9 : Int32)))))))))))))))))
set_option maxRecDepth 100000 in
theorem t_X9_kindOf {V : eV} {a0 : Int32}  {m : mM} {q : Int32} (hf : f_X9_kindOf a0 m = some q) : eE V 0 yX9_kindOf cX9_kindOf 1 (some .int) [.int a0] (hS m) (some (.int q)) (hS m) := by
  refine eE_of (by decide) (Nat.le_of_ble_eq_true rfl) ?_
  show gG V k_X9_kindOf 0 [(0, .int a0)] [] (hS m) _ _
  unfold f_X9_kindOf at hf
  refine g_iload_n 0 dX9_kindOf_0 rfl rfl ?_
  by_cases c1 : a0 = (106 : Int32)
  · replace hf := (if_pos c1).symm.trans hf
    refine g_tableIn (tgt := 86) (off := 85) dX9_kindOf_1 (by rw [c1]; decide) (by rw [c1]; decide) (by rw [c1]; rfl) (by decide) ?_
    refine g_iconst (v := 3) dX9_kindOf_86 rfl ?_
    cases hf
    exact g_iret dX9_kindOf_87 .int rfl rfl
  · replace hf := (if_neg c1).symm.trans hf
    by_cases c2 : a0 = (107 : Int32)
    · replace hf := (if_pos c2).symm.trans hf
      refine g_tableIn (tgt := 88) (off := 87) dX9_kindOf_1 (by rw [c2]; decide) (by rw [c2]; decide) (by rw [c2]; rfl) (by decide) ?_
      refine g_iconst (v := 4) dX9_kindOf_88 rfl ?_
      cases hf
      exact g_iret dX9_kindOf_89 .int rfl rfl
    · replace hf := (if_neg c2).symm.trans hf
      by_cases c3 : a0 = (108 : Int32)
      · replace hf := (if_pos c3).symm.trans hf
        refine g_tableIn (tgt := 95) (off := 94) dX9_kindOf_1 (by rw [c3]; decide) (by rw [c3]; decide) (by rw [c3]; rfl) (by decide) ?_
        refine g_bipush (v := -9) dX9_kindOf_95 rfl ?_
        cases hf
        exact g_iret dX9_kindOf_97 .int rfl rfl
      · replace hf := (if_neg c3).symm.trans hf
        by_cases c4 : a0 = (109 : Int32)
        · replace hf := (if_pos c4).symm.trans hf
          refine g_tableIn (tgt := 95) (off := 94) dX9_kindOf_1 (by rw [c4]; decide) (by rw [c4]; decide) (by rw [c4]; rfl) (by decide) ?_
          refine g_bipush (v := -9) dX9_kindOf_95 rfl ?_
          cases hf
          exact g_iret dX9_kindOf_97 .int rfl rfl
        · replace hf := (if_neg c4).symm.trans hf
          by_cases c5 : a0 = (110 : Int32)
          · replace hf := (if_pos c5).symm.trans hf
            refine g_tableIn (tgt := 90) (off := 89) dX9_kindOf_1 (by rw [c5]; decide) (by rw [c5]; decide) (by rw [c5]; rfl) (by decide) ?_
            refine g_iconst (v := 5) dX9_kindOf_90 rfl ?_
            cases hf
            exact g_iret dX9_kindOf_91 .int rfl rfl
          · replace hf := (if_neg c5).symm.trans hf
            by_cases c6 : a0 = (111 : Int32)
            · replace hf := (if_pos c6).symm.trans hf
              refine g_tableIn (tgt := 80) (off := 79) dX9_kindOf_1 (by rw [c6]; decide) (by rw [c6]; decide) (by rw [c6]; rfl) (by decide) ?_
              refine g_iconst (v := 0) dX9_kindOf_80 rfl ?_
              cases hf
              exact g_iret dX9_kindOf_81 .int rfl rfl
            · replace hf := (if_neg c6).symm.trans hf
              by_cases c7 : a0 = (112 : Int32)
              · replace hf := (if_pos c7).symm.trans hf
                refine g_tableIn (tgt := 95) (off := 94) dX9_kindOf_1 (by rw [c7]; decide) (by rw [c7]; decide) (by rw [c7]; rfl) (by decide) ?_
                refine g_bipush (v := -9) dX9_kindOf_95 rfl ?_
                cases hf
                exact g_iret dX9_kindOf_97 .int rfl rfl
              · replace hf := (if_neg c7).symm.trans hf
                by_cases c8 : a0 = (113 : Int32)
                · replace hf := (if_pos c8).symm.trans hf
                  refine g_tableIn (tgt := 95) (off := 94) dX9_kindOf_1 (by rw [c8]; decide) (by rw [c8]; decide) (by rw [c8]; rfl) (by decide) ?_
                  refine g_bipush (v := -9) dX9_kindOf_95 rfl ?_
                  cases hf
                  exact g_iret dX9_kindOf_97 .int rfl rfl
                · replace hf := (if_neg c8).symm.trans hf
                  by_cases c9 : a0 = (114 : Int32)
                  · replace hf := (if_pos c9).symm.trans hf
                    refine g_tableIn (tgt := 95) (off := 94) dX9_kindOf_1 (by rw [c9]; decide) (by rw [c9]; decide) (by rw [c9]; rfl) (by decide) ?_
                    refine g_bipush (v := -9) dX9_kindOf_95 rfl ?_
                    cases hf
                    exact g_iret dX9_kindOf_97 .int rfl rfl
                  · replace hf := (if_neg c9).symm.trans hf
                    by_cases c10 : a0 = (115 : Int32)
                    · replace hf := (if_pos c10).symm.trans hf
                      refine g_tableIn (tgt := 84) (off := 83) dX9_kindOf_1 (by rw [c10]; decide) (by rw [c10]; decide) (by rw [c10]; rfl) (by decide) ?_
                      refine g_iconst (v := 2) dX9_kindOf_84 rfl ?_
                      cases hf
                      exact g_iret dX9_kindOf_85 .int rfl rfl
                    · replace hf := (if_neg c10).symm.trans hf
                      by_cases c11 : a0 = (116 : Int32)
                      · replace hf := (if_pos c11).symm.trans hf
                        refine g_tableIn (tgt := 92) (off := 91) dX9_kindOf_1 (by rw [c11]; decide) (by rw [c11]; decide) (by rw [c11]; rfl) (by decide) ?_
                        refine g_bipush (v := 6) dX9_kindOf_92 rfl ?_
                        cases hf
                        exact g_iret dX9_kindOf_94 .int rfl rfl
                      · replace hf := (if_neg c11).symm.trans hf
                        by_cases c12 : a0 = (117 : Int32)
                        · replace hf := (if_pos c12).symm.trans hf
                          refine g_tableIn (tgt := 95) (off := 94) dX9_kindOf_1 (by rw [c12]; decide) (by rw [c12]; decide) (by rw [c12]; rfl) (by decide) ?_
                          refine g_bipush (v := -9) dX9_kindOf_95 rfl ?_
                          cases hf
                          exact g_iret dX9_kindOf_97 .int rfl rfl
                        · replace hf := (if_neg c12).symm.trans hf
                          by_cases c13 : a0 = (118 : Int32)
                          · replace hf := (if_pos c13).symm.trans hf
                            refine g_tableIn (tgt := 95) (off := 94) dX9_kindOf_1 (by rw [c13]; decide) (by rw [c13]; decide) (by rw [c13]; rfl) (by decide) ?_
                            refine g_bipush (v := -9) dX9_kindOf_95 rfl ?_
                            cases hf
                            exact g_iret dX9_kindOf_97 .int rfl rfl
                          · replace hf := (if_neg c13).symm.trans hf
                            by_cases c14 : a0 = (119 : Int32)
                            · replace hf := (if_pos c14).symm.trans hf
                              refine g_tableIn (tgt := 95) (off := 94) dX9_kindOf_1 (by rw [c14]; decide) (by rw [c14]; decide) (by rw [c14]; rfl) (by decide) ?_
                              refine g_bipush (v := -9) dX9_kindOf_95 rfl ?_
                              cases hf
                              exact g_iret dX9_kindOf_97 .int rfl rfl
                            · replace hf := (if_neg c14).symm.trans hf
                              by_cases c15 : a0 = (120 : Int32)
                              · replace hf := (if_pos c15).symm.trans hf
                                refine g_tableIn (tgt := 95) (off := 94) dX9_kindOf_1 (by rw [c15]; decide) (by rw [c15]; decide) (by rw [c15]; rfl) (by decide) ?_
                                refine g_bipush (v := -9) dX9_kindOf_95 rfl ?_
                                cases hf
                                exact g_iret dX9_kindOf_97 .int rfl rfl
                              · replace hf := (if_neg c15).symm.trans hf
                                by_cases c16 : a0 = (121 : Int32)
                                · replace hf := (if_pos c16).symm.trans hf
                                  refine g_tableIn (tgt := 82) (off := 81) dX9_kindOf_1 (by rw [c16]; decide) (by rw [c16]; decide) (by rw [c16]; rfl) (by decide) ?_
                                  refine g_iconst (v := 1) dX9_kindOf_82 rfl ?_
                                  cases hf
                                  exact g_iret dX9_kindOf_83 .int rfl rfl
                                · replace hf := (if_neg c16).symm.trans hf
                                  have hsw := sw_out (lo := 106) (hi := 121) (x := a0) (fun z z1 z2 => by
                                      have zz : z = 106 ∨ z = 107 ∨ z = 108 ∨ z = 109 ∨ z = 110 ∨ z = 111 ∨ z = 112 ∨ z = 113 ∨ z = 114 ∨ z = 115 ∨ z = 116 ∨ z = 117 ∨ z = 118 ∨ z = 119 ∨ z = 120 ∨ z = 121 := by omega
                                      rcases zz with rfl | rfl | rfl | rfl | rfl | rfl | rfl | rfl | rfl | rfl | rfl | rfl | rfl | rfl | rfl | rfl <;> assumption)
                                  refine g_tableOut (tgt := 95) dX9_kindOf_1 hsw (by decide) ?_
                                  refine g_bipush (v := -9) dX9_kindOf_95 rfl ?_
                                  cases hf
                                  exact g_iret dX9_kindOf_97 .int rfl rfl

abbrev k_X9_readsNumber : kX := (cX9_readsNumber, "WhoseHourItIsModel", "readsNumber", some .boolean, 4, 1)
def f_X9_readsNumber_L9 (b1 : Int32) (b2 : Int32) : Nat → Int32 → mM → Option (Int32 × mM)
  | 0, _, _ => none
  | n + 1, b3, m =>
      if b2 ≤ b3 then (
      some (b3, m))
      else (
      bnd (f_X9_sign m) fun q3 =>
      if q3 < (48 : Int32) then (
      some (b3, m))
      else (
      bnd (f_X9_sign m) fun q5 =>
      if (57 : Int32) < q5 then (
      some (b3, m))
      else (
      bnd (rdA 194 6 b1 m) fun v7 =>
      bnd (f_X9_sign m) fun q9 =>
      bnd (wrA 194 6 b1 ((((10 : Int32) * v7) + q9) - (48 : Int32)) m) fun m11 =>
      bnd (some (m_up m11 187 9 ((m11 187 9) + (1 : Int32)))) fun m13 =>
      f_X9_readsNumber_L9 b1 b2 n (b3 + (1 : Int32)) m13)))
def f_X9_readsNumber (a1 : Int32) (a2 : Int32) (m : mM) : Option (Int32 × mM) :=
bnd (wrA 194 6 a1 (0 : Int32) m) fun m1 =>
bnd (f_X9_readsNumber_L9 a1 a2 fU (0 : Int32) m1) fun o18 =>
if o18.1 ≤ 0 then (
some ((0 : Int32), o18.2))
else (
some ((1 : Int32), o18.2))
set_option maxRecDepth 100000 in
theorem t_X9_readsNumber_L9 {V : eV} (b1 : Int32) (b2 : Int32) {r : Option Value} {h' : aH} : ∀ (n : Nat) (b3 : Int32) (m : mM) (o : Int32 × mM), f_X9_readsNumber_L9 b1 b2 n b3 m = some o → gG V k_X9_readsNumber 71 [(3, .int o.1)] [] (hS o.2) r h' → gG V k_X9_readsNumber 9 [(0, .ref (vB V + 187)), (1, .int b1), (2, .int b2), (3, .int b3)] [] (hS m) r h' := by
  intro n
  induction n with
  | zero => intro b3 m o hf; cases hf
  | succ n ih =>
    intro b3 m o hf hk
    rw [f_X9_readsNumber_L9] at hf
    refine g_iload_n 3 dX9_readsNumber_9 rfl rfl ?_
    refine g_iload_n 2 dX9_readsNumber_10 rfl rfl ?_
    refine g_icmp_ge (tgt := 71) dX9_readsNumber_11 (by decide) (fun c17 => ?_) (fun c17 => ?_)
    · replace hf := (if_pos c17).symm.trans hf
      cases hf
      refine g_sub [3] rfl ?_
      exact hk
    · replace hf := (if_neg c17).symm.trans hf
      refine g_aload_n 0 dX9_readsNumber_14 rfl rfl ?_
      obtain ⟨q3, e4, hf⟩ := bnd_some hf
      refine p_callV (As := []) (rest := []) (t_X9_sign e4) cw_1017 w_1019 w_25 ob_187 rfl (Nat.le_of_ble_eq_true rfl) rfl rfl (Nat.le_of_ble_eq_true rfl) dX9_readsNumber_15 ?_
      refine g_bipush (v := 48) dX9_readsNumber_18 rfl ?_
      refine g_icmp_lt (tgt := 71) dX9_readsNumber_20 (by decide) (fun c16 => ?_) (fun c16 => ?_)
      · replace hf := (if_pos c16).symm.trans hf
        cases hf
        refine g_sub [3] rfl ?_
        exact hk
      · replace hf := (if_neg c16).symm.trans hf
        refine g_aload_n 0 dX9_readsNumber_23 rfl rfl ?_
        obtain ⟨q5, e6, hf⟩ := bnd_some hf
        refine p_callV (As := []) (rest := []) (t_X9_sign e6) cw_1017 w_1019 w_25 ob_187 rfl (Nat.le_of_ble_eq_true rfl) rfl rfl (Nat.le_of_ble_eq_true rfl) dX9_readsNumber_24 ?_
        refine g_bipush (v := 57) dX9_readsNumber_27 rfl ?_
        refine g_icmp_gt (tgt := 71) dX9_readsNumber_29 (by decide) (fun c15 => ?_) (fun c15 => ?_)
        · replace hf := (if_pos c15).symm.trans hf
          cases hf
          refine g_sub [3] rfl ?_
          exact hk
        · replace hf := (if_neg c15).symm.trans hf
          refine g_aload_n 0 dX9_readsNumber_32 rfl rfl ?_
          refine gf_936 dX9_readsNumber_33 rfl ob_187 rfl ?_
          refine g_iload_n 1 dX9_readsNumber_36 rfl rfl ?_
          refine g_bipush (v := 10) dX9_readsNumber_37 rfl ?_
          refine g_aload_n 0 dX9_readsNumber_39 rfl rfl ?_
          refine gf_936 dX9_readsNumber_40 rfl ob_187 rfl ?_
          refine g_iload_n 1 dX9_readsNumber_43 rfl rfl ?_
          obtain ⟨v7, e8, hf⟩ := bnd_some hf
          refine p_iald dX9_readsNumber_44 at_194 e8 ?_
          refine g_imul dX9_readsNumber_45 ?_
          refine g_aload_n 0 dX9_readsNumber_46 rfl rfl ?_
          obtain ⟨q9, e10, hf⟩ := bnd_some hf
          refine p_callV (As := []) (rest := [.int ((10 : Int32) * v7), .int b1, .ref (vB V + 194)]) (t_X9_sign e10) cw_1017 w_1019 w_25 ob_187 rfl (Nat.le_of_ble_eq_true rfl) rfl rfl (Nat.le_of_ble_eq_true rfl) dX9_readsNumber_47 ?_
          refine g_iadd dX9_readsNumber_50 ?_
          refine g_bipush (v := 48) dX9_readsNumber_51 rfl ?_
          refine g_isub dX9_readsNumber_53 ?_
          obtain ⟨m11, e12, hf⟩ := bnd_some hf
          refine p_iast dX9_readsNumber_54 at_194 e12 ?_
          refine g_aload_n 0 dX9_readsNumber_55 rfl rfl ?_
          refine g_dup dX9_readsNumber_56 rfl ?_
          refine gf_938 dX9_readsNumber_57 rfl ob_187 rfl ?_
          refine g_iconst (v := 1) dX9_readsNumber_60 rfl ?_
          refine g_iadd dX9_readsNumber_61 ?_
          obtain ⟨m13, e14, hf⟩ := bnd_some hf
          cases e14
          refine pf_938 dX9_readsNumber_62 rfl ob_187 rfl ?_
          generalize m_up m11 187 9 ((m11 187 9) + (1 : Int32)) = m13 at hf ⊢
          refine g_iinc (q := 3) (v := (b3 + (1 : Int32))) dX9_readsNumber_65 rfl rfl (Nat.le_of_ble_eq_true rfl) rfl ?_
          refine g_goto (tgt := 9) dX9_readsNumber_68 (by decide) ?_
          refine g_sub [1, 2, 3, 0] rfl ?_
          exact ih (b3 + (1 : Int32)) m13 _ hf hk

set_option maxRecDepth 100000 in
theorem t_X9_readsNumber {V : eV} {a1 : Int32} {a2 : Int32}  {m : mM} {q : Int32 × mM} (hf : f_X9_readsNumber a1 a2 m = some q) : eE V 1 yX9_readsNumber cX9_readsNumber 4 (some .boolean) [.ref (vB V + 187), .int a1, .int a2] (hS m) (some (.int q.1)) (hS q.2) := by
  refine eE_of (by decide) (Nat.le_of_ble_eq_true rfl) ?_
  show gG V k_X9_readsNumber 0 [(0, .ref (vB V + 187)), (1, .int a1), (2, .int a2)] [] (hS m) _ _
  unfold f_X9_readsNumber at hf
  refine g_aload_n 0 dX9_readsNumber_0 rfl rfl ?_
  refine gf_936 dX9_readsNumber_1 rfl ob_187 rfl ?_
  refine g_iload_n 1 dX9_readsNumber_4 rfl rfl ?_
  refine g_iconst (v := 0) dX9_readsNumber_5 rfl ?_
  obtain ⟨m1, e2, hf⟩ := bnd_some hf
  refine p_iast dX9_readsNumber_6 at_194 e2 ?_
  refine g_iconst (v := 0) dX9_readsNumber_7 rfl ?_
  refine g_istore_n dX9_readsNumber_8 rfl (Nat.le_of_ble_eq_true rfl) rfl ?_
  refine g_sub [1, 2, 3, 0] rfl ?_
  obtain ⟨o18, e19, hf⟩ := bnd_some hf
  refine t_X9_readsNumber_L9 (V := V) a1 a2 fU (0 : Int32) m1 _ e19 ?_
  refine g_iload_n 0 dX9_readsNumber_71 rfl rfl ?_
  refine g_if_le (tgt := 79) dX9_readsNumber_72 (by decide) (fun c20 => ?_) (fun c20 => ?_)
  · replace hf := (if_pos c20).symm.trans hf
    refine g_iconst (v := 0) dX9_readsNumber_79 rfl ?_
    cases hf
    exact g_iret dX9_readsNumber_80 .boolean rfl rfl
  · replace hf := (if_neg c20).symm.trans hf
    refine g_iconst (v := 1) dX9_readsNumber_75 rfl ?_
    refine g_goto (tgt := 80) dX9_readsNumber_76 (by decide) ?_
    cases hf
    exact g_iret dX9_readsNumber_80 .boolean rfl rfl

abbrev k_X9_takes : kX := (cX9_takes, "WhoseHourItIsModel", "takes", some .boolean, 2, 1)
def f_X9_takes (a1 : Int32) (m : mM) : Option (Int32 × mM) :=
bnd (f_X9_sign m) fun q1 =>
if q1 = a1 then (
bnd (some (m_up m 187 9 ((m 187 9) + (1 : Int32)))) fun m3 =>
some ((1 : Int32), m3))
else (
some ((0 : Int32), m))
set_option maxRecDepth 100000 in
theorem t_X9_takes {V : eV} {a1 : Int32}  {m : mM} {q : Int32 × mM} (hf : f_X9_takes a1 m = some q) : eE V 1 yX9_takes cX9_takes 2 (some .boolean) [.ref (vB V + 187), .int a1] (hS m) (some (.int q.1)) (hS q.2) := by
  refine eE_of (by decide) (Nat.le_of_ble_eq_true rfl) ?_
  show gG V k_X9_takes 0 [(0, .ref (vB V + 187)), (1, .int a1)] [] (hS m) _ _
  unfold f_X9_takes at hf
  refine g_aload_n 0 dX9_takes_0 rfl rfl ?_
  obtain ⟨q1, e2, hf⟩ := bnd_some hf
  refine p_callV (As := []) (rest := []) (t_X9_sign e2) cw_1017 w_1019 w_25 ob_187 rfl (Nat.le_of_ble_eq_true rfl) rfl rfl (Nat.le_of_ble_eq_true rfl) dX9_takes_1 ?_
  refine g_iload_n 1 dX9_takes_4 rfl rfl ?_
  refine g_icmp_eq (tgt := 10) dX9_takes_5 (by decide) (fun c5 => ?_) (fun c5 => ?_)
  · replace hf := (if_pos c5).symm.trans hf
    refine g_aload_n 0 dX9_takes_10 rfl rfl ?_
    refine g_dup dX9_takes_11 rfl ?_
    refine gf_938 dX9_takes_12 rfl ob_187 rfl ?_
    refine g_iconst (v := 1) dX9_takes_15 rfl ?_
    refine g_iadd dX9_takes_16 ?_
    obtain ⟨m3, e4, hf⟩ := bnd_some hf
    cases e4
    refine pf_938 dX9_takes_17 rfl ob_187 rfl ?_
    generalize m_up m 187 9 ((m 187 9) + (1 : Int32)) = m3 at hf ⊢
    refine g_iconst (v := 1) dX9_takes_20 rfl ?_
    cases hf
    exact g_iret dX9_takes_21 .boolean rfl rfl
  · replace hf := (if_neg c5).symm.trans hf
    refine g_iconst (v := 0) dX9_takes_8 rfl ?_
    cases hf
    exact g_iret dX9_takes_9 .boolean rfl rfl

abbrev k_X9_readsStatement : kX := (cX9_readsStatement, "WhoseHourItIsModel", "readsStatement", some .boolean, 2, 2)
def f_X9_readsStatement_J187 (m : mM) : Option (Int32 × mM) :=
bnd (f_X9_sign m) fun q41 =>
if q41 = (115 : Int32) then (
bnd (wrA 194 6 (1 : Int32) (1 : Int32) m) fun m43 =>
bnd (some (m_up m43 187 9 ((m43 187 9) + (1 : Int32)))) fun m45 =>
bnd (f_X9_readsNumber (2 : Int32) (1 : Int32) m45) fun q47 =>
if q47.1 = 0 then (
some ((0 : Int32), q47.2))
else (
bnd (f_X9_takes (44 : Int32) q47.2) fun q49 =>
if q49.1 = 0 then (
some ((0 : Int32), q49.2))
else (
bnd (f_X9_readsNumber (3 : Int32) (2 : Int32) q49.2) fun q51 =>
if q51.1 = 0 then (
some ((0 : Int32), q51.2))
else (
bnd (f_X9_takes (44 : Int32) q51.2) fun q53 =>
if q53.1 = 0 then (
some ((0 : Int32), q53.2))
else (
bnd (f_X9_readsNumber (4 : Int32) (2 : Int32) q53.2) fun q55 =>
if q55.1 = 0 then (
some ((0 : Int32), q55.2))
else (
bnd (f_X9_takes (44 : Int32) q55.2) fun q57 =>
if q57.1 = 0 then (
some ((0 : Int32), q57.2))
else (
bnd (f_X9_readsNumber (5 : Int32) (1 : Int32) q57.2) fun q59 =>
if q59.1 = 0 then (
some ((0 : Int32), q59.2))
else (
bnd (f_X9_takes (59 : Int32) q59.2) fun q61 =>
if q61.1 = 0 then (
some ((0 : Int32), q61.2))
else (
some ((1 : Int32), q61.2))))))))))
else (
bnd (wrA 194 6 (1 : Int32) (0 : Int32) m) fun m71 =>
bnd (some (m_up m71 187 9 ((m71 187 9) + (1 : Int32)))) fun m73 =>
bnd (f_X9_readsNumber (2 : Int32) (1 : Int32) m73) fun q75 =>
if q75.1 = 0 then (
some ((0 : Int32), q75.2))
else (
bnd (f_X9_takes (44 : Int32) q75.2) fun q77 =>
if q77.1 = 0 then (
some ((0 : Int32), q77.2))
else (
bnd (f_X9_readsNumber (3 : Int32) (2 : Int32) q77.2) fun q79 =>
if q79.1 = 0 then (
some ((0 : Int32), q79.2))
else (
bnd (f_X9_takes (44 : Int32) q79.2) fun q81 =>
if q81.1 = 0 then (
some ((0 : Int32), q81.2))
else (
bnd (f_X9_readsNumber (4 : Int32) (2 : Int32) q81.2) fun q83 =>
if q83.1 = 0 then (
some ((0 : Int32), q83.2))
else (
bnd (f_X9_takes (44 : Int32) q83.2) fun q85 =>
if q85.1 = 0 then (
some ((0 : Int32), q85.2))
else (
bnd (f_X9_readsNumber (5 : Int32) (1 : Int32) q85.2) fun q87 =>
if q87.1 = 0 then (
some ((0 : Int32), q87.2))
else (
bnd (f_X9_takes (59 : Int32) q87.2) fun q89 =>
if q89.1 = 0 then (
some ((0 : Int32), q89.2))
else (
some ((1 : Int32), q89.2))))))))))
def f_X9_readsStatement_J25 (b1 : Int32) (m : mM) : Option (Int32 × mM) :=
bnd (some (m_up m 187 9 ((m 187 9) + (1 : Int32)))) fun m3 =>
if b1 = (112 : Int32) then (
bnd (f_X9_sign m3) fun q5 =>
bnd (f_X9_kindOf q5 m3) fun q7 =>
bnd (wrA 194 6 (0 : Int32) q7 m3) fun m9 =>
bnd (rdA 194 6 (0 : Int32) m9) fun v11 =>
if 0 ≤ v11 then (
bnd (some (m_up m9 187 9 ((m9 187 9) + (1 : Int32)))) fun m13 =>
bnd (f_X9_readsNumber (1 : Int32) (1 : Int32) m13) fun q15 =>
if q15.1 = 0 then (
some ((0 : Int32), q15.2))
else (
bnd (f_X9_readsNumber (2 : Int32) (1 : Int32) q15.2) fun q17 =>
if q17.1 = 0 then (
some ((0 : Int32), q17.2))
else (
bnd (f_X9_takes (59 : Int32) q17.2) fun q19 =>
if q19.1 = 0 then (
some ((0 : Int32), q19.2))
else (
some ((1 : Int32), q19.2)))))
else (
some ((0 : Int32), m9)))
else (
bnd (f_X9_readsNumber (0 : Int32) (1 : Int32) m3) fun q25 =>
if q25.1 = 0 then (
some ((0 : Int32), q25.2))
else (
if b1 = (104 : Int32) then (
bnd (f_X9_readsNumber (1 : Int32) (2 : Int32) q25.2) fun q27 =>
if q27.1 = 0 then (
some ((0 : Int32), q27.2))
else (
bnd (f_X9_takes (45 : Int32) q27.2) fun q29 =>
if q29.1 = 0 then (
some ((0 : Int32), q29.2))
else (
bnd (f_X9_readsNumber (2 : Int32) (2 : Int32) q29.2) fun q31 =>
if q31.1 = 0 then (
some ((0 : Int32), q31.2))
else (
bnd (f_X9_takes (59 : Int32) q31.2) fun q33 =>
if q33.1 = 0 then (
some ((0 : Int32), q33.2))
else (
some ((1 : Int32), q33.2))))))
else (
bnd (f_X9_sign q25.2) fun q39 =>
if q39 = (114 : Int32) then (
f_X9_readsStatement_J187 q25.2)
else (
bnd (f_X9_sign q25.2) fun q100 =>
if q100 = (115 : Int32) then (
f_X9_readsStatement_J187 q25.2)
else (
some ((0 : Int32), q25.2))))))
def f_X9_readsStatement  (m : mM) : Option (Int32 × mM) :=
bnd (f_X9_sign m) fun q1 =>
if q1 = (112 : Int32) then (
f_X9_readsStatement_J25 q1 m)
else (
if q1 = (104 : Int32) then (
f_X9_readsStatement_J25 q1 m)
else (
if q1 = (119 : Int32) then (
f_X9_readsStatement_J25 q1 m)
else (
some ((0 : Int32), m))))
set_option maxRecDepth 100000 in
theorem t_X9_readsStatement_J187 {V : eV} {m : mM} {q : Int32 × mM} (hf : f_X9_readsStatement_J187 m = some q) : gG V k_X9_readsStatement 187 [(0, .ref (vB V + 187))] [] (hS m) (some (.int q.1)) (hS q.2) := by
  unfold f_X9_readsStatement_J187 at hf
  refine g_aload_n 0 dX9_readsStatement_187 rfl rfl ?_
  refine gf_936 dX9_readsStatement_188 rfl ob_187 rfl ?_
  refine g_iconst (v := 1) dX9_readsStatement_191 rfl ?_
  refine g_aload_n 0 dX9_readsStatement_192 rfl rfl ?_
  obtain ⟨q41, e42, hf⟩ := bnd_some hf
  refine p_callV (As := []) (rest := [.int (1 : Int32), .ref (vB V + 194)]) (t_X9_sign e42) cw_1017 w_1019 w_25 ob_187 rfl (Nat.le_of_ble_eq_true rfl) rfl rfl (Nat.le_of_ble_eq_true rfl) dX9_readsStatement_193 ?_
  refine g_bipush (v := 115) dX9_readsStatement_196 rfl ?_
  refine g_icmp_ne (tgt := 205) dX9_readsStatement_198 (by decide) (fun c99 => ?_) (fun c99 => ?_)
  · replace hf := (if_neg c99).symm.trans hf
    refine g_iconst (v := 0) dX9_readsStatement_205 rfl ?_
    obtain ⟨m71, e72, hf⟩ := bnd_some hf
    refine p_iast dX9_readsStatement_206 at_194 e72 ?_
    refine g_aload_n 0 dX9_readsStatement_207 rfl rfl ?_
    refine g_dup dX9_readsStatement_208 rfl ?_
    refine gf_938 dX9_readsStatement_209 rfl ob_187 rfl ?_
    refine g_iconst (v := 1) dX9_readsStatement_212 rfl ?_
    refine g_iadd dX9_readsStatement_213 ?_
    obtain ⟨m73, e74, hf⟩ := bnd_some hf
    cases e74
    refine pf_938 dX9_readsStatement_214 rfl ob_187 rfl ?_
    generalize m_up m71 187 9 ((m71 187 9) + (1 : Int32)) = m73 at hf ⊢
    refine g_aload_n 0 dX9_readsStatement_217 rfl rfl ?_
    refine g_iconst (v := 2) dX9_readsStatement_218 rfl ?_
    refine g_iconst (v := 1) dX9_readsStatement_219 rfl ?_
    obtain ⟨q75, e76, hf⟩ := bnd_some hf
    refine p_callV (As := [.int (2 : Int32), .int (1 : Int32)]) (rest := []) (t_X9_readsNumber e76) cw_1024 w_1026 w_26 ob_187 rfl (Nat.le_of_ble_eq_true rfl) rfl rfl (Nat.le_of_ble_eq_true rfl) dX9_readsStatement_220 ?_
    refine g_if_eq (tgt := 293) dX9_readsStatement_223 (by decide) (fun c98 => ?_) (fun c98 => ?_)
    · replace hf := (if_pos c98).symm.trans hf
      refine g_iconst (v := 0) dX9_readsStatement_293 rfl ?_
      cases hf
      exact g_iret dX9_readsStatement_294 .boolean rfl rfl
    · replace hf := (if_neg c98).symm.trans hf
      refine g_aload_n 0 dX9_readsStatement_226 rfl rfl ?_
      refine g_bipush (v := 44) dX9_readsStatement_227 rfl ?_
      obtain ⟨q77, e78, hf⟩ := bnd_some hf
      refine p_callV (As := [.int (44 : Int32)]) (rest := []) (t_X9_takes e78) cw_1028 w_1030 w_27 ob_187 rfl (Nat.le_of_ble_eq_true rfl) rfl rfl (Nat.le_of_ble_eq_true rfl) dX9_readsStatement_229 ?_
      refine g_if_eq (tgt := 293) dX9_readsStatement_232 (by decide) (fun c97 => ?_) (fun c97 => ?_)
      · replace hf := (if_pos c97).symm.trans hf
        refine g_iconst (v := 0) dX9_readsStatement_293 rfl ?_
        cases hf
        exact g_iret dX9_readsStatement_294 .boolean rfl rfl
      · replace hf := (if_neg c97).symm.trans hf
        refine g_aload_n 0 dX9_readsStatement_235 rfl rfl ?_
        refine g_iconst (v := 3) dX9_readsStatement_236 rfl ?_
        refine g_iconst (v := 2) dX9_readsStatement_237 rfl ?_
        obtain ⟨q79, e80, hf⟩ := bnd_some hf
        refine p_callV (As := [.int (3 : Int32), .int (2 : Int32)]) (rest := []) (t_X9_readsNumber e80) cw_1024 w_1026 w_26 ob_187 rfl (Nat.le_of_ble_eq_true rfl) rfl rfl (Nat.le_of_ble_eq_true rfl) dX9_readsStatement_238 ?_
        refine g_if_eq (tgt := 293) dX9_readsStatement_241 (by decide) (fun c96 => ?_) (fun c96 => ?_)
        · replace hf := (if_pos c96).symm.trans hf
          refine g_iconst (v := 0) dX9_readsStatement_293 rfl ?_
          cases hf
          exact g_iret dX9_readsStatement_294 .boolean rfl rfl
        · replace hf := (if_neg c96).symm.trans hf
          refine g_aload_n 0 dX9_readsStatement_244 rfl rfl ?_
          refine g_bipush (v := 44) dX9_readsStatement_245 rfl ?_
          obtain ⟨q81, e82, hf⟩ := bnd_some hf
          refine p_callV (As := [.int (44 : Int32)]) (rest := []) (t_X9_takes e82) cw_1028 w_1030 w_27 ob_187 rfl (Nat.le_of_ble_eq_true rfl) rfl rfl (Nat.le_of_ble_eq_true rfl) dX9_readsStatement_247 ?_
          refine g_if_eq (tgt := 293) dX9_readsStatement_250 (by decide) (fun c95 => ?_) (fun c95 => ?_)
          · replace hf := (if_pos c95).symm.trans hf
            refine g_iconst (v := 0) dX9_readsStatement_293 rfl ?_
            cases hf
            exact g_iret dX9_readsStatement_294 .boolean rfl rfl
          · replace hf := (if_neg c95).symm.trans hf
            refine g_aload_n 0 dX9_readsStatement_253 rfl rfl ?_
            refine g_iconst (v := 4) dX9_readsStatement_254 rfl ?_
            refine g_iconst (v := 2) dX9_readsStatement_255 rfl ?_
            obtain ⟨q83, e84, hf⟩ := bnd_some hf
            refine p_callV (As := [.int (4 : Int32), .int (2 : Int32)]) (rest := []) (t_X9_readsNumber e84) cw_1024 w_1026 w_26 ob_187 rfl (Nat.le_of_ble_eq_true rfl) rfl rfl (Nat.le_of_ble_eq_true rfl) dX9_readsStatement_256 ?_
            refine g_if_eq (tgt := 293) dX9_readsStatement_259 (by decide) (fun c94 => ?_) (fun c94 => ?_)
            · replace hf := (if_pos c94).symm.trans hf
              refine g_iconst (v := 0) dX9_readsStatement_293 rfl ?_
              cases hf
              exact g_iret dX9_readsStatement_294 .boolean rfl rfl
            · replace hf := (if_neg c94).symm.trans hf
              refine g_aload_n 0 dX9_readsStatement_262 rfl rfl ?_
              refine g_bipush (v := 44) dX9_readsStatement_263 rfl ?_
              obtain ⟨q85, e86, hf⟩ := bnd_some hf
              refine p_callV (As := [.int (44 : Int32)]) (rest := []) (t_X9_takes e86) cw_1028 w_1030 w_27 ob_187 rfl (Nat.le_of_ble_eq_true rfl) rfl rfl (Nat.le_of_ble_eq_true rfl) dX9_readsStatement_265 ?_
              refine g_if_eq (tgt := 293) dX9_readsStatement_268 (by decide) (fun c93 => ?_) (fun c93 => ?_)
              · replace hf := (if_pos c93).symm.trans hf
                refine g_iconst (v := 0) dX9_readsStatement_293 rfl ?_
                cases hf
                exact g_iret dX9_readsStatement_294 .boolean rfl rfl
              · replace hf := (if_neg c93).symm.trans hf
                refine g_aload_n 0 dX9_readsStatement_271 rfl rfl ?_
                refine g_iconst (v := 5) dX9_readsStatement_272 rfl ?_
                refine g_iconst (v := 1) dX9_readsStatement_273 rfl ?_
                obtain ⟨q87, e88, hf⟩ := bnd_some hf
                refine p_callV (As := [.int (5 : Int32), .int (1 : Int32)]) (rest := []) (t_X9_readsNumber e88) cw_1024 w_1026 w_26 ob_187 rfl (Nat.le_of_ble_eq_true rfl) rfl rfl (Nat.le_of_ble_eq_true rfl) dX9_readsStatement_274 ?_
                refine g_if_eq (tgt := 293) dX9_readsStatement_277 (by decide) (fun c92 => ?_) (fun c92 => ?_)
                · replace hf := (if_pos c92).symm.trans hf
                  refine g_iconst (v := 0) dX9_readsStatement_293 rfl ?_
                  cases hf
                  exact g_iret dX9_readsStatement_294 .boolean rfl rfl
                · replace hf := (if_neg c92).symm.trans hf
                  refine g_aload_n 0 dX9_readsStatement_280 rfl rfl ?_
                  refine g_bipush (v := 59) dX9_readsStatement_281 rfl ?_
                  obtain ⟨q89, e90, hf⟩ := bnd_some hf
                  refine p_callV (As := [.int (59 : Int32)]) (rest := []) (t_X9_takes e90) cw_1028 w_1030 w_27 ob_187 rfl (Nat.le_of_ble_eq_true rfl) rfl rfl (Nat.le_of_ble_eq_true rfl) dX9_readsStatement_283 ?_
                  refine g_if_eq (tgt := 293) dX9_readsStatement_286 (by decide) (fun c91 => ?_) (fun c91 => ?_)
                  · replace hf := (if_pos c91).symm.trans hf
                    refine g_iconst (v := 0) dX9_readsStatement_293 rfl ?_
                    cases hf
                    exact g_iret dX9_readsStatement_294 .boolean rfl rfl
                  · replace hf := (if_neg c91).symm.trans hf
                    refine g_iconst (v := 1) dX9_readsStatement_289 rfl ?_
                    refine g_goto (tgt := 294) dX9_readsStatement_290 (by decide) ?_
                    cases hf
                    exact g_iret dX9_readsStatement_294 .boolean rfl rfl
  · replace hf := (if_pos c99).symm.trans hf
    refine g_iconst (v := 1) dX9_readsStatement_201 rfl ?_
    refine g_goto (tgt := 206) dX9_readsStatement_202 (by decide) ?_
    obtain ⟨m43, e44, hf⟩ := bnd_some hf
    refine p_iast dX9_readsStatement_206 at_194 e44 ?_
    refine g_aload_n 0 dX9_readsStatement_207 rfl rfl ?_
    refine g_dup dX9_readsStatement_208 rfl ?_
    refine gf_938 dX9_readsStatement_209 rfl ob_187 rfl ?_
    refine g_iconst (v := 1) dX9_readsStatement_212 rfl ?_
    refine g_iadd dX9_readsStatement_213 ?_
    obtain ⟨m45, e46, hf⟩ := bnd_some hf
    cases e46
    refine pf_938 dX9_readsStatement_214 rfl ob_187 rfl ?_
    generalize m_up m43 187 9 ((m43 187 9) + (1 : Int32)) = m45 at hf ⊢
    refine g_aload_n 0 dX9_readsStatement_217 rfl rfl ?_
    refine g_iconst (v := 2) dX9_readsStatement_218 rfl ?_
    refine g_iconst (v := 1) dX9_readsStatement_219 rfl ?_
    obtain ⟨q47, e48, hf⟩ := bnd_some hf
    refine p_callV (As := [.int (2 : Int32), .int (1 : Int32)]) (rest := []) (t_X9_readsNumber e48) cw_1024 w_1026 w_26 ob_187 rfl (Nat.le_of_ble_eq_true rfl) rfl rfl (Nat.le_of_ble_eq_true rfl) dX9_readsStatement_220 ?_
    refine g_if_eq (tgt := 293) dX9_readsStatement_223 (by decide) (fun c70 => ?_) (fun c70 => ?_)
    · replace hf := (if_pos c70).symm.trans hf
      refine g_iconst (v := 0) dX9_readsStatement_293 rfl ?_
      cases hf
      exact g_iret dX9_readsStatement_294 .boolean rfl rfl
    · replace hf := (if_neg c70).symm.trans hf
      refine g_aload_n 0 dX9_readsStatement_226 rfl rfl ?_
      refine g_bipush (v := 44) dX9_readsStatement_227 rfl ?_
      obtain ⟨q49, e50, hf⟩ := bnd_some hf
      refine p_callV (As := [.int (44 : Int32)]) (rest := []) (t_X9_takes e50) cw_1028 w_1030 w_27 ob_187 rfl (Nat.le_of_ble_eq_true rfl) rfl rfl (Nat.le_of_ble_eq_true rfl) dX9_readsStatement_229 ?_
      refine g_if_eq (tgt := 293) dX9_readsStatement_232 (by decide) (fun c69 => ?_) (fun c69 => ?_)
      · replace hf := (if_pos c69).symm.trans hf
        refine g_iconst (v := 0) dX9_readsStatement_293 rfl ?_
        cases hf
        exact g_iret dX9_readsStatement_294 .boolean rfl rfl
      · replace hf := (if_neg c69).symm.trans hf
        refine g_aload_n 0 dX9_readsStatement_235 rfl rfl ?_
        refine g_iconst (v := 3) dX9_readsStatement_236 rfl ?_
        refine g_iconst (v := 2) dX9_readsStatement_237 rfl ?_
        obtain ⟨q51, e52, hf⟩ := bnd_some hf
        refine p_callV (As := [.int (3 : Int32), .int (2 : Int32)]) (rest := []) (t_X9_readsNumber e52) cw_1024 w_1026 w_26 ob_187 rfl (Nat.le_of_ble_eq_true rfl) rfl rfl (Nat.le_of_ble_eq_true rfl) dX9_readsStatement_238 ?_
        refine g_if_eq (tgt := 293) dX9_readsStatement_241 (by decide) (fun c68 => ?_) (fun c68 => ?_)
        · replace hf := (if_pos c68).symm.trans hf
          refine g_iconst (v := 0) dX9_readsStatement_293 rfl ?_
          cases hf
          exact g_iret dX9_readsStatement_294 .boolean rfl rfl
        · replace hf := (if_neg c68).symm.trans hf
          refine g_aload_n 0 dX9_readsStatement_244 rfl rfl ?_
          refine g_bipush (v := 44) dX9_readsStatement_245 rfl ?_
          obtain ⟨q53, e54, hf⟩ := bnd_some hf
          refine p_callV (As := [.int (44 : Int32)]) (rest := []) (t_X9_takes e54) cw_1028 w_1030 w_27 ob_187 rfl (Nat.le_of_ble_eq_true rfl) rfl rfl (Nat.le_of_ble_eq_true rfl) dX9_readsStatement_247 ?_
          refine g_if_eq (tgt := 293) dX9_readsStatement_250 (by decide) (fun c67 => ?_) (fun c67 => ?_)
          · replace hf := (if_pos c67).symm.trans hf
            refine g_iconst (v := 0) dX9_readsStatement_293 rfl ?_
            cases hf
            exact g_iret dX9_readsStatement_294 .boolean rfl rfl
          · replace hf := (if_neg c67).symm.trans hf
            refine g_aload_n 0 dX9_readsStatement_253 rfl rfl ?_
            refine g_iconst (v := 4) dX9_readsStatement_254 rfl ?_
            refine g_iconst (v := 2) dX9_readsStatement_255 rfl ?_
            obtain ⟨q55, e56, hf⟩ := bnd_some hf
            refine p_callV (As := [.int (4 : Int32), .int (2 : Int32)]) (rest := []) (t_X9_readsNumber e56) cw_1024 w_1026 w_26 ob_187 rfl (Nat.le_of_ble_eq_true rfl) rfl rfl (Nat.le_of_ble_eq_true rfl) dX9_readsStatement_256 ?_
            refine g_if_eq (tgt := 293) dX9_readsStatement_259 (by decide) (fun c66 => ?_) (fun c66 => ?_)
            · replace hf := (if_pos c66).symm.trans hf
              refine g_iconst (v := 0) dX9_readsStatement_293 rfl ?_
              cases hf
              exact g_iret dX9_readsStatement_294 .boolean rfl rfl
            · replace hf := (if_neg c66).symm.trans hf
              refine g_aload_n 0 dX9_readsStatement_262 rfl rfl ?_
              refine g_bipush (v := 44) dX9_readsStatement_263 rfl ?_
              obtain ⟨q57, e58, hf⟩ := bnd_some hf
              refine p_callV (As := [.int (44 : Int32)]) (rest := []) (t_X9_takes e58) cw_1028 w_1030 w_27 ob_187 rfl (Nat.le_of_ble_eq_true rfl) rfl rfl (Nat.le_of_ble_eq_true rfl) dX9_readsStatement_265 ?_
              refine g_if_eq (tgt := 293) dX9_readsStatement_268 (by decide) (fun c65 => ?_) (fun c65 => ?_)
              · replace hf := (if_pos c65).symm.trans hf
                refine g_iconst (v := 0) dX9_readsStatement_293 rfl ?_
                cases hf
                exact g_iret dX9_readsStatement_294 .boolean rfl rfl
              · replace hf := (if_neg c65).symm.trans hf
                refine g_aload_n 0 dX9_readsStatement_271 rfl rfl ?_
                refine g_iconst (v := 5) dX9_readsStatement_272 rfl ?_
                refine g_iconst (v := 1) dX9_readsStatement_273 rfl ?_
                obtain ⟨q59, e60, hf⟩ := bnd_some hf
                refine p_callV (As := [.int (5 : Int32), .int (1 : Int32)]) (rest := []) (t_X9_readsNumber e60) cw_1024 w_1026 w_26 ob_187 rfl (Nat.le_of_ble_eq_true rfl) rfl rfl (Nat.le_of_ble_eq_true rfl) dX9_readsStatement_274 ?_
                refine g_if_eq (tgt := 293) dX9_readsStatement_277 (by decide) (fun c64 => ?_) (fun c64 => ?_)
                · replace hf := (if_pos c64).symm.trans hf
                  refine g_iconst (v := 0) dX9_readsStatement_293 rfl ?_
                  cases hf
                  exact g_iret dX9_readsStatement_294 .boolean rfl rfl
                · replace hf := (if_neg c64).symm.trans hf
                  refine g_aload_n 0 dX9_readsStatement_280 rfl rfl ?_
                  refine g_bipush (v := 59) dX9_readsStatement_281 rfl ?_
                  obtain ⟨q61, e62, hf⟩ := bnd_some hf
                  refine p_callV (As := [.int (59 : Int32)]) (rest := []) (t_X9_takes e62) cw_1028 w_1030 w_27 ob_187 rfl (Nat.le_of_ble_eq_true rfl) rfl rfl (Nat.le_of_ble_eq_true rfl) dX9_readsStatement_283 ?_
                  refine g_if_eq (tgt := 293) dX9_readsStatement_286 (by decide) (fun c63 => ?_) (fun c63 => ?_)
                  · replace hf := (if_pos c63).symm.trans hf
                    refine g_iconst (v := 0) dX9_readsStatement_293 rfl ?_
                    cases hf
                    exact g_iret dX9_readsStatement_294 .boolean rfl rfl
                  · replace hf := (if_neg c63).symm.trans hf
                    refine g_iconst (v := 1) dX9_readsStatement_289 rfl ?_
                    refine g_goto (tgt := 294) dX9_readsStatement_290 (by decide) ?_
                    cases hf
                    exact g_iret dX9_readsStatement_294 .boolean rfl rfl

set_option maxRecDepth 100000 in
theorem t_X9_readsStatement_J25 {V : eV} {b1 : Int32} {m : mM} {q : Int32 × mM} (hf : f_X9_readsStatement_J25 b1 m = some q) : gG V k_X9_readsStatement 25 [(0, .ref (vB V + 187)), (1, .int b1)] [] (hS m) (some (.int q.1)) (hS q.2) := by
  unfold f_X9_readsStatement_J25 at hf
  refine g_aload_n 0 dX9_readsStatement_25 rfl rfl ?_
  refine g_dup dX9_readsStatement_26 rfl ?_
  refine gf_938 dX9_readsStatement_27 rfl ob_187 rfl ?_
  refine g_iconst (v := 1) dX9_readsStatement_30 rfl ?_
  refine g_iadd dX9_readsStatement_31 ?_
  obtain ⟨m3, e4, hf⟩ := bnd_some hf
  cases e4
  refine pf_938 dX9_readsStatement_32 rfl ob_187 rfl ?_
  generalize m_up m 187 9 ((m 187 9) + (1 : Int32)) = m3 at hf ⊢
  refine g_iload_n 1 dX9_readsStatement_35 rfl rfl ?_
  refine g_bipush (v := 112) dX9_readsStatement_36 rfl ?_
  refine g_icmp_ne (tgt := 108) dX9_readsStatement_38 (by decide) (fun c106 => ?_) (fun c106 => ?_)
  · replace hf := (if_neg c106).symm.trans hf
    refine g_aload_n 0 dX9_readsStatement_108 rfl rfl ?_
    refine g_iconst (v := 0) dX9_readsStatement_109 rfl ?_
    refine g_iconst (v := 1) dX9_readsStatement_110 rfl ?_
    obtain ⟨q25, e26, hf⟩ := bnd_some hf
    refine p_callV (As := [.int (0 : Int32), .int (1 : Int32)]) (rest := []) (t_X9_readsNumber e26) cw_1024 w_1026 w_26 ob_187 rfl (Nat.le_of_ble_eq_true rfl) rfl rfl (Nat.le_of_ble_eq_true rfl) dX9_readsStatement_111 ?_
    refine g_if_ne (tgt := 119) dX9_readsStatement_114 (by decide) (fun c105 => ?_) (fun c105 => ?_)
    · replace hf := (if_neg c105).symm.trans hf
      refine g_iload_n 1 dX9_readsStatement_119 rfl rfl ?_
      refine g_bipush (v := 104) dX9_readsStatement_120 rfl ?_
      refine g_icmp_ne (tgt := 167) dX9_readsStatement_122 (by decide) (fun c104 => ?_) (fun c104 => ?_)
      · replace hf := (if_neg c104).symm.trans hf
        refine g_aload_n 0 dX9_readsStatement_167 rfl rfl ?_
        obtain ⟨q39, e40, hf⟩ := bnd_some hf
        refine p_callV (As := []) (rest := []) (t_X9_sign e40) cw_1017 w_1019 w_25 ob_187 rfl (Nat.le_of_ble_eq_true rfl) rfl rfl (Nat.le_of_ble_eq_true rfl) dX9_readsStatement_168 ?_
        refine g_bipush (v := 114) dX9_readsStatement_171 rfl ?_
        refine g_icmp_eq (tgt := 187) dX9_readsStatement_173 (by decide) (fun c103 => ?_) (fun c103 => ?_)
        · replace hf := (if_pos c103).symm.trans hf
          refine g_sub [0] rfl ?_
          exact t_X9_readsStatement_J187 hf
        · replace hf := (if_neg c103).symm.trans hf
          refine g_aload_n 0 dX9_readsStatement_176 rfl rfl ?_
          obtain ⟨q100, e101, hf⟩ := bnd_some hf
          refine p_callV (As := []) (rest := []) (t_X9_sign e101) cw_1017 w_1019 w_25 ob_187 rfl (Nat.le_of_ble_eq_true rfl) rfl rfl (Nat.le_of_ble_eq_true rfl) dX9_readsStatement_177 ?_
          refine g_bipush (v := 115) dX9_readsStatement_180 rfl ?_
          refine g_icmp_eq (tgt := 187) dX9_readsStatement_182 (by decide) (fun c102 => ?_) (fun c102 => ?_)
          · replace hf := (if_pos c102).symm.trans hf
            refine g_sub [0] rfl ?_
            exact t_X9_readsStatement_J187 hf
          · replace hf := (if_neg c102).symm.trans hf
            refine g_iconst (v := 0) dX9_readsStatement_185 rfl ?_
            cases hf
            exact g_iret dX9_readsStatement_186 .boolean rfl rfl
      · replace hf := (if_pos c104).symm.trans hf
        refine g_aload_n 0 dX9_readsStatement_125 rfl rfl ?_
        refine g_iconst (v := 1) dX9_readsStatement_126 rfl ?_
        refine g_iconst (v := 2) dX9_readsStatement_127 rfl ?_
        obtain ⟨q27, e28, hf⟩ := bnd_some hf
        refine p_callV (As := [.int (1 : Int32), .int (2 : Int32)]) (rest := []) (t_X9_readsNumber e28) cw_1024 w_1026 w_26 ob_187 rfl (Nat.le_of_ble_eq_true rfl) rfl rfl (Nat.le_of_ble_eq_true rfl) dX9_readsStatement_128 ?_
        refine g_if_eq (tgt := 165) dX9_readsStatement_131 (by decide) (fun c38 => ?_) (fun c38 => ?_)
        · replace hf := (if_pos c38).symm.trans hf
          refine g_iconst (v := 0) dX9_readsStatement_165 rfl ?_
          cases hf
          exact g_iret dX9_readsStatement_166 .boolean rfl rfl
        · replace hf := (if_neg c38).symm.trans hf
          refine g_aload_n 0 dX9_readsStatement_134 rfl rfl ?_
          refine g_bipush (v := 45) dX9_readsStatement_135 rfl ?_
          obtain ⟨q29, e30, hf⟩ := bnd_some hf
          refine p_callV (As := [.int (45 : Int32)]) (rest := []) (t_X9_takes e30) cw_1028 w_1030 w_27 ob_187 rfl (Nat.le_of_ble_eq_true rfl) rfl rfl (Nat.le_of_ble_eq_true rfl) dX9_readsStatement_137 ?_
          refine g_if_eq (tgt := 165) dX9_readsStatement_140 (by decide) (fun c37 => ?_) (fun c37 => ?_)
          · replace hf := (if_pos c37).symm.trans hf
            refine g_iconst (v := 0) dX9_readsStatement_165 rfl ?_
            cases hf
            exact g_iret dX9_readsStatement_166 .boolean rfl rfl
          · replace hf := (if_neg c37).symm.trans hf
            refine g_aload_n 0 dX9_readsStatement_143 rfl rfl ?_
            refine g_iconst (v := 2) dX9_readsStatement_144 rfl ?_
            refine g_iconst (v := 2) dX9_readsStatement_145 rfl ?_
            obtain ⟨q31, e32, hf⟩ := bnd_some hf
            refine p_callV (As := [.int (2 : Int32), .int (2 : Int32)]) (rest := []) (t_X9_readsNumber e32) cw_1024 w_1026 w_26 ob_187 rfl (Nat.le_of_ble_eq_true rfl) rfl rfl (Nat.le_of_ble_eq_true rfl) dX9_readsStatement_146 ?_
            refine g_if_eq (tgt := 165) dX9_readsStatement_149 (by decide) (fun c36 => ?_) (fun c36 => ?_)
            · replace hf := (if_pos c36).symm.trans hf
              refine g_iconst (v := 0) dX9_readsStatement_165 rfl ?_
              cases hf
              exact g_iret dX9_readsStatement_166 .boolean rfl rfl
            · replace hf := (if_neg c36).symm.trans hf
              refine g_aload_n 0 dX9_readsStatement_152 rfl rfl ?_
              refine g_bipush (v := 59) dX9_readsStatement_153 rfl ?_
              obtain ⟨q33, e34, hf⟩ := bnd_some hf
              refine p_callV (As := [.int (59 : Int32)]) (rest := []) (t_X9_takes e34) cw_1028 w_1030 w_27 ob_187 rfl (Nat.le_of_ble_eq_true rfl) rfl rfl (Nat.le_of_ble_eq_true rfl) dX9_readsStatement_155 ?_
              refine g_if_eq (tgt := 165) dX9_readsStatement_158 (by decide) (fun c35 => ?_) (fun c35 => ?_)
              · replace hf := (if_pos c35).symm.trans hf
                refine g_iconst (v := 0) dX9_readsStatement_165 rfl ?_
                cases hf
                exact g_iret dX9_readsStatement_166 .boolean rfl rfl
              · replace hf := (if_neg c35).symm.trans hf
                refine g_iconst (v := 1) dX9_readsStatement_161 rfl ?_
                refine g_goto (tgt := 166) dX9_readsStatement_162 (by decide) ?_
                cases hf
                exact g_iret dX9_readsStatement_166 .boolean rfl rfl
    · replace hf := (if_pos c105).symm.trans hf
      refine g_iconst (v := 0) dX9_readsStatement_117 rfl ?_
      cases hf
      exact g_iret dX9_readsStatement_118 .boolean rfl rfl
  · replace hf := (if_pos c106).symm.trans hf
    refine g_aload_n 0 dX9_readsStatement_41 rfl rfl ?_
    refine gf_936 dX9_readsStatement_42 rfl ob_187 rfl ?_
    refine g_iconst (v := 0) dX9_readsStatement_45 rfl ?_
    refine g_aload_n 0 dX9_readsStatement_46 rfl rfl ?_
    obtain ⟨q5, e6, hf⟩ := bnd_some hf
    refine p_callV (As := []) (rest := [.int (0 : Int32), .ref (vB V + 194)]) (t_X9_sign e6) cw_1017 w_1019 w_25 ob_187 rfl (Nat.le_of_ble_eq_true rfl) rfl rfl (Nat.le_of_ble_eq_true rfl) dX9_readsStatement_47 ?_
    obtain ⟨q7, e8, hf⟩ := bnd_some hf
    refine p_callS (As := [.int q5]) (rest := [.int (0 : Int32), .ref (vB V + 194)]) (t_X9_kindOf e8) cw_1021 w_1022 (Nat.le_of_ble_eq_true rfl) rfl rfl (Nat.le_of_ble_eq_true rfl) dX9_readsStatement_50 ?_
    obtain ⟨m9, e10, hf⟩ := bnd_some hf
    refine p_iast dX9_readsStatement_53 at_194 e10 ?_
    refine g_aload_n 0 dX9_readsStatement_54 rfl rfl ?_
    refine gf_936 dX9_readsStatement_55 rfl ob_187 rfl ?_
    refine g_iconst (v := 0) dX9_readsStatement_58 rfl ?_
    obtain ⟨v11, e12, hf⟩ := bnd_some hf
    refine p_iald dX9_readsStatement_59 at_194 e12 ?_
    refine g_if_ge (tgt := 65) dX9_readsStatement_60 (by decide) (fun c24 => ?_) (fun c24 => ?_)
    · replace hf := (if_pos c24).symm.trans hf
      refine g_aload_n 0 dX9_readsStatement_65 rfl rfl ?_
      refine g_dup dX9_readsStatement_66 rfl ?_
      refine gf_938 dX9_readsStatement_67 rfl ob_187 rfl ?_
      refine g_iconst (v := 1) dX9_readsStatement_70 rfl ?_
      refine g_iadd dX9_readsStatement_71 ?_
      obtain ⟨m13, e14, hf⟩ := bnd_some hf
      cases e14
      refine pf_938 dX9_readsStatement_72 rfl ob_187 rfl ?_
      generalize m_up m9 187 9 ((m9 187 9) + (1 : Int32)) = m13 at hf ⊢
      refine g_aload_n 0 dX9_readsStatement_75 rfl rfl ?_
      refine g_iconst (v := 1) dX9_readsStatement_76 rfl ?_
      refine g_iconst (v := 1) dX9_readsStatement_77 rfl ?_
      obtain ⟨q15, e16, hf⟩ := bnd_some hf
      refine p_callV (As := [.int (1 : Int32), .int (1 : Int32)]) (rest := []) (t_X9_readsNumber e16) cw_1024 w_1026 w_26 ob_187 rfl (Nat.le_of_ble_eq_true rfl) rfl rfl (Nat.le_of_ble_eq_true rfl) dX9_readsStatement_78 ?_
      refine g_if_eq (tgt := 106) dX9_readsStatement_81 (by decide) (fun c23 => ?_) (fun c23 => ?_)
      · replace hf := (if_pos c23).symm.trans hf
        refine g_iconst (v := 0) dX9_readsStatement_106 rfl ?_
        cases hf
        exact g_iret dX9_readsStatement_107 .boolean rfl rfl
      · replace hf := (if_neg c23).symm.trans hf
        refine g_aload_n 0 dX9_readsStatement_84 rfl rfl ?_
        refine g_iconst (v := 2) dX9_readsStatement_85 rfl ?_
        refine g_iconst (v := 1) dX9_readsStatement_86 rfl ?_
        obtain ⟨q17, e18, hf⟩ := bnd_some hf
        refine p_callV (As := [.int (2 : Int32), .int (1 : Int32)]) (rest := []) (t_X9_readsNumber e18) cw_1024 w_1026 w_26 ob_187 rfl (Nat.le_of_ble_eq_true rfl) rfl rfl (Nat.le_of_ble_eq_true rfl) dX9_readsStatement_87 ?_
        refine g_if_eq (tgt := 106) dX9_readsStatement_90 (by decide) (fun c22 => ?_) (fun c22 => ?_)
        · replace hf := (if_pos c22).symm.trans hf
          refine g_iconst (v := 0) dX9_readsStatement_106 rfl ?_
          cases hf
          exact g_iret dX9_readsStatement_107 .boolean rfl rfl
        · replace hf := (if_neg c22).symm.trans hf
          refine g_aload_n 0 dX9_readsStatement_93 rfl rfl ?_
          refine g_bipush (v := 59) dX9_readsStatement_94 rfl ?_
          obtain ⟨q19, e20, hf⟩ := bnd_some hf
          refine p_callV (As := [.int (59 : Int32)]) (rest := []) (t_X9_takes e20) cw_1028 w_1030 w_27 ob_187 rfl (Nat.le_of_ble_eq_true rfl) rfl rfl (Nat.le_of_ble_eq_true rfl) dX9_readsStatement_96 ?_
          refine g_if_eq (tgt := 106) dX9_readsStatement_99 (by decide) (fun c21 => ?_) (fun c21 => ?_)
          · replace hf := (if_pos c21).symm.trans hf
            refine g_iconst (v := 0) dX9_readsStatement_106 rfl ?_
            cases hf
            exact g_iret dX9_readsStatement_107 .boolean rfl rfl
          · replace hf := (if_neg c21).symm.trans hf
            refine g_iconst (v := 1) dX9_readsStatement_102 rfl ?_
            refine g_goto (tgt := 107) dX9_readsStatement_103 (by decide) ?_
            cases hf
            exact g_iret dX9_readsStatement_107 .boolean rfl rfl
    · replace hf := (if_neg c24).symm.trans hf
      refine g_iconst (v := 0) dX9_readsStatement_63 rfl ?_
      cases hf
      exact g_iret dX9_readsStatement_64 .boolean rfl rfl

set_option maxRecDepth 100000 in
theorem t_X9_readsStatement {V : eV}  {m : mM} {q : Int32 × mM} (hf : f_X9_readsStatement  m = some q) : eE V 2 yX9_readsStatement cX9_readsStatement 2 (some .boolean) [.ref (vB V + 187)] (hS m) (some (.int q.1)) (hS q.2) := by
  refine eE_of (by decide) (Nat.le_of_ble_eq_true rfl) ?_
  show gG V k_X9_readsStatement 0 [(0, .ref (vB V + 187))] [] (hS m) _ _
  unfold f_X9_readsStatement at hf
  refine g_aload_n 0 dX9_readsStatement_0 rfl rfl ?_
  obtain ⟨q1, e2, hf⟩ := bnd_some hf
  refine p_callV (As := []) (rest := []) (t_X9_sign e2) cw_1017 w_1019 w_25 ob_187 rfl (Nat.le_of_ble_eq_true rfl) rfl rfl (Nat.le_of_ble_eq_true rfl) dX9_readsStatement_1 ?_
  refine g_istore_n dX9_readsStatement_4 rfl (Nat.le_of_ble_eq_true rfl) rfl ?_
  refine g_iload_n 0 dX9_readsStatement_5 rfl rfl ?_
  refine g_bipush (v := 112) dX9_readsStatement_6 rfl ?_
  refine g_icmp_eq (tgt := 25) dX9_readsStatement_8 (by decide) (fun c109 => ?_) (fun c109 => ?_)
  · replace hf := (if_pos c109).symm.trans hf
    refine g_sub [1, 0] rfl ?_
    exact t_X9_readsStatement_J25 hf
  · replace hf := (if_neg c109).symm.trans hf
    refine g_iload_n 0 dX9_readsStatement_11 rfl rfl ?_
    refine g_bipush (v := 104) dX9_readsStatement_12 rfl ?_
    refine g_icmp_eq (tgt := 25) dX9_readsStatement_14 (by decide) (fun c108 => ?_) (fun c108 => ?_)
    · replace hf := (if_pos c108).symm.trans hf
      refine g_sub [1, 0] rfl ?_
      exact t_X9_readsStatement_J25 hf
    · replace hf := (if_neg c108).symm.trans hf
      refine g_iload_n 0 dX9_readsStatement_17 rfl rfl ?_
      refine g_bipush (v := 119) dX9_readsStatement_18 rfl ?_
      refine g_icmp_eq (tgt := 25) dX9_readsStatement_20 (by decide) (fun c107 => ?_) (fun c107 => ?_)
      · replace hf := (if_pos c107).symm.trans hf
        refine g_sub [1, 0] rfl ?_
        exact t_X9_readsStatement_J25 hf
      · replace hf := (if_neg c107).symm.trans hf
        refine g_iconst (v := 0) dX9_readsStatement_23 rfl ?_
        cases hf
        exact g_iret dX9_readsStatement_24 .boolean rfl rfl

abbrev k_X9_copies_189_191 : kX := (cX9_copies, "WhoseHourItIsModel", "copies", none, 3, 0)
def f_X9_copies_189_191_L2 : Nat → Int32 → mM → Option (mM)
  | 0, _, _ => none
  | n + 1, b2, m =>
      if (189 : Int32) ≤ b2 then (
      some m)
      else (
      bnd (rdA 189 189 b2 m) fun v1 =>
      bnd (wrA 191 189 b2 v1 m) fun m3 =>
      f_X9_copies_189_191_L2 n (b2 + (1 : Int32)) m3)
def f_X9_copies_189_191  (m : mM) : Option (mM) :=
bnd (f_X9_copies_189_191_L2 fU (0 : Int32) m) fun o6 =>
some o6
set_option maxRecDepth 100000 in
theorem t_X9_copies_189_191_L2 {V : eV} {r : Option Value} {h' : aH} : ∀ (n : Nat) (b2 : Int32) (m : mM) (o : mM), f_X9_copies_189_191_L2 n b2 m = some o → gG V k_X9_copies_189_191 21 [] [] (hS o) r h' → gG V k_X9_copies_189_191 2 [(0, .ref (vB V + 189)), (1, .ref (vB V + 191)), (2, .int b2)] [] (hS m) r h' := by
  intro n
  induction n with
  | zero => intro b2 m o hf; cases hf
  | succ n ih =>
    intro b2 m o hf hk
    rw [f_X9_copies_189_191_L2] at hf
    refine g_iload_n 2 dX9_copies_2 rfl rfl ?_
    refine g_sipush (v := 189) dX9_copies_3 rfl ?_
    refine g_icmp_ge (tgt := 21) dX9_copies_6 (by decide) (fun c5 => ?_) (fun c5 => ?_)
    · replace hf := (if_pos c5).symm.trans hf
      cases hf
      refine g_sub [] rfl ?_
      exact hk
    · replace hf := (if_neg c5).symm.trans hf
      refine g_aload_n 1 dX9_copies_9 rfl rfl ?_
      refine g_iload_n 2 dX9_copies_10 rfl rfl ?_
      refine g_aload_n 0 dX9_copies_11 rfl rfl ?_
      refine g_iload_n 2 dX9_copies_12 rfl rfl ?_
      obtain ⟨v1, e2, hf⟩ := bnd_some hf
      refine p_iald dX9_copies_13 at_189 e2 ?_
      obtain ⟨m3, e4, hf⟩ := bnd_some hf
      refine p_iast dX9_copies_14 at_191 e4 ?_
      refine g_iinc (q := 2) (v := (b2 + (1 : Int32))) dX9_copies_15 rfl rfl (Nat.le_of_ble_eq_true rfl) rfl ?_
      refine g_goto (tgt := 2) dX9_copies_18 (by decide) ?_
      refine g_sub [1, 2, 0] rfl ?_
      exact ih (b2 + (1 : Int32)) m3 _ hf hk

set_option maxRecDepth 100000 in
theorem t_X9_copies_189_191 {V : eV}  {m : mM} {q : mM} (hf : f_X9_copies_189_191  m = some q) : eE V 0 yX9_copies cX9_copies 3 (none) [.ref (vB V + 189), .ref (vB V + 191)] (hS m) none (hS q) := by
  refine eE_of (by decide) (Nat.le_of_ble_eq_true rfl) ?_
  show gG V k_X9_copies_189_191 0 [(0, .ref (vB V + 189)), (1, .ref (vB V + 191))] [] (hS m) _ _
  unfold f_X9_copies_189_191 at hf
  refine g_iconst (v := 0) dX9_copies_0 rfl ?_
  refine g_istore_n dX9_copies_1 rfl (Nat.le_of_ble_eq_true rfl) rfl ?_
  refine g_sub [1, 2, 0] rfl ?_
  obtain ⟨o6, e7, hf⟩ := bnd_some hf
  refine t_X9_copies_189_191_L2 (V := V) fU (0 : Int32) m _ e7 ?_
  cases hf
  exact g_vret dX9_copies_21 rfl

abbrev k_X9_hasPart_191 : kX := (cX9_hasPart, "WhoseHourItIsModel", "hasPart", some .boolean, 5, 0)
def f_X9_hasPart_191_L10 (b2 : Int32) (b3 : Int32) (m : mM) : Nat → Int32 → Option ((Int32) ⊕ (Unit))
  | 0, _ => none
  | n + 1, b4 =>
      bnd (rdA 191 189 b3 m) fun v1 =>
      if v1 ≤ b4 then (
      some (.inr ()))
      else (
      bnd (rdA 191 189 ((b3 + (1 : Int32)) + b4) m) fun v3 =>
      if v3 = b2 then (
      some (.inl (1 : Int32)))
      else (
      f_X9_hasPart_191_L10 b2 b3 m n (b4 + (1 : Int32))))
def f_X9_hasPart_191 (a1 : Int32) (a2 : Int32) (m : mM) : Option (Int32) :=
bnd (f_X9_hasPart_191_L10 a2 ((9 : Int32) + ((4 : Int32) * a1)) m fU (0 : Int32)) fun o7 =>
ora o7 (fun zq => some zq) fun x8 =>
some (0 : Int32)
set_option maxRecDepth 100000 in
theorem t_X9_hasPart_191_L10 {V : eV} (b2 : Int32) (b3 : Int32) (m : mM) {r : Option Value} {h' : aH} : ∀ (n : Nat) (b4 : Int32) (o : (Int32) ⊕ (Unit)), f_X9_hasPart_191_L10 b2 b3 m n b4 = some o → lxP (hS m) o r h' (fun x => gG V k_X9_hasPart_191 38 [] [] (hS m) r h') → gG V k_X9_hasPart_191 10 [(0, .ref (vB V + 191)), (2, .int b2), (3, .int b3), (4, .int b4)] [] (hS m) r h' := by
  intro n
  induction n with
  | zero => intro b4 o hf; cases hf
  | succ n ih =>
    intro b4 o hf hk
    rw [f_X9_hasPart_191_L10] at hf
    refine g_iload 3 dX9_hasPart_10 rfl ?_
    refine g_aload_n 0 dX9_hasPart_12 rfl rfl ?_
    refine g_iload_n 2 dX9_hasPart_13 rfl rfl ?_
    obtain ⟨v1, e2, hf⟩ := bnd_some hf
    refine p_iald dX9_hasPart_14 at_191 e2 ?_
    refine g_icmp_ge (tgt := 38) dX9_hasPart_15 (by decide) (fun c6 => ?_) (fun c6 => ?_)
    · replace hf := (if_pos c6).symm.trans hf
      cases hf
      refine g_sub [] rfl ?_
      exact hk
    · replace hf := (if_neg c6).symm.trans hf
      refine g_aload_n 0 dX9_hasPart_18 rfl rfl ?_
      refine g_iload_n 2 dX9_hasPart_19 rfl rfl ?_
      refine g_iconst (v := 1) dX9_hasPart_20 rfl ?_
      refine g_iadd dX9_hasPart_21 ?_
      refine g_iload 3 dX9_hasPart_22 rfl ?_
      refine g_iadd dX9_hasPart_24 ?_
      obtain ⟨v3, e4, hf⟩ := bnd_some hf
      refine p_iald dX9_hasPart_25 at_191 e4 ?_
      refine g_iload_n 1 dX9_hasPart_26 rfl rfl ?_
      refine g_icmp_ne (tgt := 32) dX9_hasPart_27 (by decide) (fun c5 => ?_) (fun c5 => ?_)
      · replace hf := (if_neg c5).symm.trans hf
        refine g_iinc (q := 3) (v := (b4 + (1 : Int32))) dX9_hasPart_32 rfl rfl (Nat.le_of_ble_eq_true rfl) rfl ?_
        refine g_goto (tgt := 10) dX9_hasPart_35 (by decide) ?_
        refine g_sub [1, 2, 3, 0] rfl ?_
        exact ih (b4 + (1 : Int32)) _ hf hk
      · replace hf := (if_pos c5).symm.trans hf
        refine g_iconst (v := 1) dX9_hasPart_30 rfl ?_
        cases hf
        obtain ⟨rfl, rfl⟩ := hk
        exact g_iret dX9_hasPart_31 .boolean rfl rfl

set_option maxRecDepth 100000 in
theorem t_X9_hasPart_191 {V : eV} {a1 : Int32} {a2 : Int32}  {m : mM} {q : Int32} (hf : f_X9_hasPart_191 a1 a2 m = some q) : eE V 0 yX9_hasPart cX9_hasPart 5 (some .boolean) [.ref (vB V + 191), .int a1, .int a2] (hS m) (some (.int q)) (hS m) := by
  refine eE_of (by decide) (Nat.le_of_ble_eq_true rfl) ?_
  show gG V k_X9_hasPart_191 0 [(0, .ref (vB V + 191)), (1, .int a1), (2, .int a2)] [] (hS m) _ _
  unfold f_X9_hasPart_191 at hf
  refine g_bipush (v := 9) dX9_hasPart_0 rfl ?_
  refine g_iconst (v := 4) dX9_hasPart_2 rfl ?_
  refine g_iload_n 1 dX9_hasPart_3 rfl rfl ?_
  refine g_imul dX9_hasPart_4 ?_
  refine g_iadd dX9_hasPart_5 ?_
  refine g_istore_n dX9_hasPart_6 rfl (Nat.le_of_ble_eq_true rfl) rfl ?_
  refine g_iconst (v := 0) dX9_hasPart_7 rfl ?_
  refine g_istore dX9_hasPart_8 (Nat.le_of_ble_eq_true rfl) rfl ?_
  refine g_sub [2, 4, 1, 0] rfl ?_
  obtain ⟨o7, e9, hf⟩ := bnd_some hf
  refine t_X9_hasPart_191_L10 (V := V) a2 ((9 : Int32) + ((4 : Int32) * a1)) m fU (0 : Int32) _ e9 ?_
  rcases o7 with zq | x8
  · replace hf := ora_l hf
    cases hf
    exact ⟨rfl, rfl⟩
  · replace hf := ora_r hf
    show gG V _ _ _ _ _ _ _
    refine g_iconst (v := 0) dX9_hasPart_38 rfl ?_
    cases hf
    exact g_iret dX9_hasPart_39 .boolean rfl rfl

abbrev k_X9_adds_191 : kX := (cX9_adds, "WhoseHourItIsModel", "adds", none, 4, 0)
def f_X9_adds_191 (a1 : Int32) (a2 : Int32) (m : mM) : Option (mM) :=
bnd (rdA 191 189 ((9 : Int32) + ((4 : Int32) * a1)) m) fun v1 =>
bnd (wrA 191 189 ((((9 : Int32) + ((4 : Int32) * a1)) + (1 : Int32)) + v1) a2 m) fun m3 =>
bnd (rdA 191 189 ((9 : Int32) + ((4 : Int32) * a1)) m3) fun v5 =>
bnd (wrA 191 189 ((9 : Int32) + ((4 : Int32) * a1)) (v5 + (1 : Int32)) m3) fun m7 =>
some m7
set_option maxRecDepth 100000 in
theorem t_X9_adds_191 {V : eV} {a1 : Int32} {a2 : Int32}  {m : mM} {q : mM} (hf : f_X9_adds_191 a1 a2 m = some q) : eE V 0 yX9_adds cX9_adds 4 (none) [.ref (vB V + 191), .int a1, .int a2] (hS m) none (hS q) := by
  refine eE_of (by decide) (Nat.le_of_ble_eq_true rfl) ?_
  show gG V k_X9_adds_191 0 [(0, .ref (vB V + 191)), (1, .int a1), (2, .int a2)] [] (hS m) _ _
  unfold f_X9_adds_191 at hf
  refine g_bipush (v := 9) dX9_adds_0 rfl ?_
  refine g_iconst (v := 4) dX9_adds_2 rfl ?_
  refine g_iload_n 1 dX9_adds_3 rfl rfl ?_
  refine g_imul dX9_adds_4 ?_
  refine g_iadd dX9_adds_5 ?_
  refine g_istore_n dX9_adds_6 rfl (Nat.le_of_ble_eq_true rfl) rfl ?_
  refine g_aload_n 1 dX9_adds_7 rfl rfl ?_
  refine g_iload_n 0 dX9_adds_8 rfl rfl ?_
  refine g_iconst (v := 1) dX9_adds_9 rfl ?_
  refine g_iadd dX9_adds_10 ?_
  refine g_aload_n 1 dX9_adds_11 rfl rfl ?_
  refine g_iload_n 0 dX9_adds_12 rfl rfl ?_
  obtain ⟨v1, e2, hf⟩ := bnd_some hf
  refine p_iald dX9_adds_13 at_191 e2 ?_
  refine g_iadd dX9_adds_14 ?_
  refine g_iload_n 3 dX9_adds_15 rfl rfl ?_
  obtain ⟨m3, e4, hf⟩ := bnd_some hf
  refine p_iast dX9_adds_16 at_191 e4 ?_
  refine g_aload_n 1 dX9_adds_17 rfl rfl ?_
  refine g_iload_n 0 dX9_adds_18 rfl rfl ?_
  refine g_dup2 dX9_adds_19 rfl rfl ?_
  obtain ⟨v5, e6, hf⟩ := bnd_some hf
  refine p_iald dX9_adds_20 at_191 e6 ?_
  refine g_iconst (v := 1) dX9_adds_21 rfl ?_
  refine g_iadd dX9_adds_22 ?_
  obtain ⟨m7, e8, hf⟩ := bnd_some hf
  refine p_iast dX9_adds_23 at_191 e8 ?_
  cases hf
  exact g_vret dX9_adds_24 rfl

abbrev k_X9_comesHours : kX := (cX9_comesHours, "WhoseHourItIsModel", "comesHours", some .boolean, 5, 1)
def f_X9_comesHours_L32 (b1 : Int32) (b2 : Int32) (b3 : Int32) (m : mM) : Nat → Int32 → Option ((Int32 × mM) ⊕ (Unit))
  | 0, _ => none
  | n + 1, b4 =>
      if b3 < b4 then (
      some (.inr ()))
      else (
      bnd (f_X9_hasPart_191 b4 b1 m) fun q3 =>
      if q3 = 0 then (
      bnd (rdA 191 189 ((9 : Int32) + ((4 : Int32) * b4)) m) fun v5 =>
      if v5 = (3 : Int32) then (
      some (.inl ((0 : Int32), m)))
      else (
      f_X9_comesHours_L32 b1 b2 b3 m n (b4 + (1 : Int32))))
      else (
      some (.inl ((0 : Int32), m))))
def f_X9_comesHours_L78 (b1 : Int32) (b3 : Int32) : Nat → Int32 → mM → Option (mM)
  | 0, _, _ => none
  | n + 1, b4, m =>
      if b3 < b4 then (
      some m)
      else (
      bnd (f_X9_adds_191 b4 b1 m) fun q13 =>
      f_X9_comesHours_L78 b1 b3 n (b4 + (1 : Int32)) q13)
def f_X9_comesHours (a1 : Int32) (a2 : Int32) (a3 : Int32) (m : mM) : Option (Int32 × mM) :=
bnd (rdA 191 189 (0 : Int32) m) fun v1 =>
if v1 ≤ a1 then (
some ((0 : Int32), m))
else (
if (28 : Int32) ≤ a2 then (
some ((0 : Int32), m))
else (
if (28 : Int32) ≤ a3 then (
some ((0 : Int32), m))
else (
if a2 ≤ a3 then (
bnd (f_X9_comesHours_L32 a1 a2 a3 m fU a2) fun o10 =>
ora o10 (fun zq => some zq) fun x11 =>
bnd (f_X9_comesHours_L78 a1 a3 fU a2 m) fun o16 =>
some ((1 : Int32), o16))
else (
some ((0 : Int32), m)))))
set_option maxRecDepth 100000 in
theorem t_X9_comesHours_L32 {V : eV} (b1 : Int32) (b2 : Int32) (b3 : Int32) (m : mM) {r : Option Value} {h' : aH} : ∀ (n : Nat) (b4 : Int32) (o : (Int32 × mM) ⊕ (Unit)), f_X9_comesHours_L32 b1 b2 b3 m n b4 = some o → lxI hS o r h' (fun x => gG V k_X9_comesHours 75 [(0, .ref (vB V + 187)), (1, .int b1), (2, .int b2), (3, .int b3)] [] (hS m) r h') → gG V k_X9_comesHours 32 [(0, .ref (vB V + 187)), (1, .int b1), (2, .int b2), (3, .int b3), (4, .int b4)] [] (hS m) r h' := by
  intro n
  induction n with
  | zero => intro b4 o hf; cases hf
  | succ n ih =>
    intro b4 o hf hk
    rw [f_X9_comesHours_L32] at hf
    refine g_iload 4 dX9_comesHours_32 rfl ?_
    refine g_iload_n 3 dX9_comesHours_34 rfl rfl ?_
    refine g_icmp_gt (tgt := 75) dX9_comesHours_35 (by decide) (fun c9 => ?_) (fun c9 => ?_)
    · replace hf := (if_pos c9).symm.trans hf
      cases hf
      refine g_sub [0, 1, 2, 3] rfl ?_
      exact hk
    · replace hf := (if_neg c9).symm.trans hf
      refine g_aload_n 0 dX9_comesHours_38 rfl rfl ?_
      refine gf_932 dX9_comesHours_39 rfl ob_187 rfl ?_
      refine g_iload 4 dX9_comesHours_42 rfl ?_
      refine g_iload_n 1 dX9_comesHours_44 rfl rfl ?_
      obtain ⟨q3, e4, hf⟩ := bnd_some hf
      refine p_callS (As := [.ref (vB V + 191), .int b4, .int b1]) (rest := []) (t_X9_hasPart_191 e4) cw_1043 w_1044 (Nat.le_of_ble_eq_true rfl) rfl rfl (Nat.le_of_ble_eq_true rfl) dX9_comesHours_45 ?_
      refine g_if_ne (tgt := 67) dX9_comesHours_48 (by decide) (fun c8 => ?_) (fun c8 => ?_)
      · replace hf := (if_neg c8).symm.trans hf
        refine g_iconst (v := 0) dX9_comesHours_67 rfl ?_
        cases hf
        obtain ⟨rfl, rfl⟩ := hk
        exact g_iret dX9_comesHours_68 .boolean rfl rfl
      · replace hf := (if_pos c8).symm.trans hf
        refine g_aload_n 0 dX9_comesHours_51 rfl rfl ?_
        refine gf_932 dX9_comesHours_52 rfl ob_187 rfl ?_
        refine g_bipush (v := 9) dX9_comesHours_55 rfl ?_
        refine g_iconst (v := 4) dX9_comesHours_57 rfl ?_
        refine g_iload 4 dX9_comesHours_58 rfl ?_
        refine g_imul dX9_comesHours_60 ?_
        refine g_iadd dX9_comesHours_61 ?_
        obtain ⟨v5, e6, hf⟩ := bnd_some hf
        refine p_iald dX9_comesHours_62 at_191 e6 ?_
        refine g_iconst (v := 3) dX9_comesHours_63 rfl ?_
        refine g_icmp_ne (tgt := 69) dX9_comesHours_64 (by decide) (fun c7 => ?_) (fun c7 => ?_)
        · replace hf := (if_neg c7).symm.trans hf
          refine g_iinc (q := 4) (v := (b4 + (1 : Int32))) dX9_comesHours_69 rfl rfl (Nat.le_of_ble_eq_true rfl) rfl ?_
          refine g_goto (tgt := 32) dX9_comesHours_72 (by decide) ?_
          refine g_sub [1, 2, 3, 4, 0] rfl ?_
          exact ih (b4 + (1 : Int32)) _ hf hk
        · replace hf := (if_pos c7).symm.trans hf
          refine g_iconst (v := 0) dX9_comesHours_67 rfl ?_
          cases hf
          obtain ⟨rfl, rfl⟩ := hk
          exact g_iret dX9_comesHours_68 .boolean rfl rfl

set_option maxRecDepth 100000 in
theorem t_X9_comesHours_L78 {V : eV} (b1 : Int32) (b3 : Int32) {r : Option Value} {h' : aH} : ∀ (n : Nat) (b4 : Int32) (m : mM) (o : mM), f_X9_comesHours_L78 b1 b3 n b4 m = some o → gG V k_X9_comesHours 100 [] [] (hS o) r h' → gG V k_X9_comesHours 78 [(0, .ref (vB V + 187)), (1, .int b1), (3, .int b3), (4, .int b4)] [] (hS m) r h' := by
  intro n
  induction n with
  | zero => intro b4 m o hf; cases hf
  | succ n ih =>
    intro b4 m o hf hk
    rw [f_X9_comesHours_L78] at hf
    refine g_iload 3 dX9_comesHours_78 rfl ?_
    refine g_iload_n 2 dX9_comesHours_80 rfl rfl ?_
    refine g_icmp_gt (tgt := 100) dX9_comesHours_81 (by decide) (fun c15 => ?_) (fun c15 => ?_)
    · replace hf := (if_pos c15).symm.trans hf
      cases hf
      refine g_sub [] rfl ?_
      exact hk
    · replace hf := (if_neg c15).symm.trans hf
      refine g_aload_n 0 dX9_comesHours_84 rfl rfl ?_
      refine gf_932 dX9_comesHours_85 rfl ob_187 rfl ?_
      refine g_iload 3 dX9_comesHours_88 rfl ?_
      refine g_iload_n 1 dX9_comesHours_90 rfl rfl ?_
      obtain ⟨q13, e14, hf⟩ := bnd_some hf
      refine p_callSv (As := [.ref (vB V + 191), .int b4, .int b1]) (rest := []) (t_X9_adds_191 e14) cw_1046 w_1047 (Nat.le_of_ble_eq_true rfl) rfl rfl (Nat.le_of_ble_eq_true rfl) dX9_comesHours_91 ?_
      refine g_iinc (q := 3) (v := (b4 + (1 : Int32))) dX9_comesHours_94 rfl rfl (Nat.le_of_ble_eq_true rfl) rfl ?_
      refine g_goto (tgt := 78) dX9_comesHours_97 (by decide) ?_
      refine g_sub [1, 2, 3, 0] rfl ?_
      exact ih (b4 + (1 : Int32)) q13 _ hf hk

set_option maxRecDepth 100000 in
theorem t_X9_comesHours {V : eV} {a1 : Int32} {a2 : Int32} {a3 : Int32}  {m : mM} {q : Int32 × mM} (hf : f_X9_comesHours a1 a2 a3 m = some q) : eE V 1 yX9_comesHours cX9_comesHours 5 (some .boolean) [.ref (vB V + 187), .int a1, .int a2, .int a3] (hS m) (some (.int q.1)) (hS q.2) := by
  refine eE_of (by decide) (Nat.le_of_ble_eq_true rfl) ?_
  show gG V k_X9_comesHours 0 [(0, .ref (vB V + 187)), (1, .int a1), (2, .int a2), (3, .int a3)] [] (hS m) _ _
  unfold f_X9_comesHours at hf
  refine g_iload_n 1 dX9_comesHours_0 rfl rfl ?_
  refine g_aload_n 0 dX9_comesHours_1 rfl rfl ?_
  refine gf_932 dX9_comesHours_2 rfl ob_187 rfl ?_
  refine g_iconst (v := 0) dX9_comesHours_5 rfl ?_
  obtain ⟨v1, e2, hf⟩ := bnd_some hf
  refine p_iald dX9_comesHours_6 at_191 e2 ?_
  refine g_icmp_ge (tgt := 27) dX9_comesHours_7 (by decide) (fun c21 => ?_) (fun c21 => ?_)
  · replace hf := (if_pos c21).symm.trans hf
    refine g_iconst (v := 0) dX9_comesHours_27 rfl ?_
    cases hf
    exact g_iret dX9_comesHours_28 .boolean rfl rfl
  · replace hf := (if_neg c21).symm.trans hf
    refine g_iload_n 2 dX9_comesHours_10 rfl rfl ?_
    refine g_bipush (v := 28) dX9_comesHours_11 rfl ?_
    refine g_icmp_ge (tgt := 27) dX9_comesHours_13 (by decide) (fun c20 => ?_) (fun c20 => ?_)
    · replace hf := (if_pos c20).symm.trans hf
      refine g_iconst (v := 0) dX9_comesHours_27 rfl ?_
      cases hf
      exact g_iret dX9_comesHours_28 .boolean rfl rfl
    · replace hf := (if_neg c20).symm.trans hf
      refine g_iload_n 3 dX9_comesHours_16 rfl rfl ?_
      refine g_bipush (v := 28) dX9_comesHours_17 rfl ?_
      refine g_icmp_ge (tgt := 27) dX9_comesHours_19 (by decide) (fun c19 => ?_) (fun c19 => ?_)
      · replace hf := (if_pos c19).symm.trans hf
        refine g_iconst (v := 0) dX9_comesHours_27 rfl ?_
        cases hf
        exact g_iret dX9_comesHours_28 .boolean rfl rfl
      · replace hf := (if_neg c19).symm.trans hf
        refine g_iload_n 2 dX9_comesHours_22 rfl rfl ?_
        refine g_iload_n 3 dX9_comesHours_23 rfl rfl ?_
        refine g_icmp_le (tgt := 29) dX9_comesHours_24 (by decide) (fun c18 => ?_) (fun c18 => ?_)
        · replace hf := (if_pos c18).symm.trans hf
          refine g_iload_n 2 dX9_comesHours_29 rfl rfl ?_
          refine g_istore dX9_comesHours_30 (Nat.le_of_ble_eq_true rfl) rfl ?_
          refine g_sub [1, 2, 3, 4, 0] rfl ?_
          obtain ⟨o10, e12, hf⟩ := bnd_some hf
          refine t_X9_comesHours_L32 (V := V) a1 a2 a3 m fU a2 _ e12 ?_
          rcases o10 with zq | x11
          · replace hf := ora_l hf
            cases hf
            exact ⟨rfl, rfl⟩
          · replace hf := ora_r hf
            show gG V _ _ _ _ _ _ _
            refine g_iload_n 2 dX9_comesHours_75 rfl rfl ?_
            refine g_istore dX9_comesHours_76 (Nat.le_of_ble_eq_true rfl) rfl ?_
            refine g_sub [1, 2, 4, 0] rfl ?_
            obtain ⟨o16, e17, hf⟩ := bnd_some hf
            refine t_X9_comesHours_L78 (V := V) a1 a3 fU a2 m _ e17 ?_
            refine g_iconst (v := 1) dX9_comesHours_100 rfl ?_
            cases hf
            exact g_iret dX9_comesHours_101 .boolean rfl rfl
        · replace hf := (if_neg c18).symm.trans hf
          refine g_iconst (v := 0) dX9_comesHours_27 rfl ?_
          cases hf
          exact g_iret dX9_comesHours_28 .boolean rfl rfl

abbrev k_X9_comes : kX := (cX9_comes, "WhoseHourItIsModel", "comes", some .boolean, 4, 2)
def f_X9_comes_L55 (b2 : Int32) : Nat → Int32 → mM → Option (mM)
  | 0, _, _ => none
  | n + 1, b3, m =>
      if (3 : Int32) ≤ b3 then (
      some m)
      else (
      bnd (rdA 194 6 b3 m) fun v17 =>
      bnd (wrA 191 189 (b2 + b3) v17 m) fun m19 =>
      f_X9_comes_L55 b2 n (b3 + (1 : Int32)) m19)
def f_X9_comes_L187 : Nat → Int32 → mM → Option (mM)
  | 0, _, _ => none
  | n + 1, b2, m =>
      if (6 : Int32) ≤ b2 then (
      some m)
      else (
      bnd (rdA 191 189 (1 : Int32) m) fun v43 =>
      bnd (rdA 194 6 b2 m) fun v45 =>
      bnd (wrA 191 189 (((153 : Int32) + ((6 : Int32) * v43)) + b2) v45 m) fun m47 =>
      f_X9_comes_L187 n (b2 + (1 : Int32)) m47)
def f_X9_comes (a1 : Int32) (m : mM) : Option (Int32 × mM) :=
if a1 = (104 : Int32) then (
bnd (rdA 194 6 (0 : Int32) m) fun v2 =>
bnd (rdA 194 6 (1 : Int32) m) fun v4 =>
bnd (rdA 194 6 (2 : Int32) m) fun v6 =>
bnd (f_X9_comesHours v2 v4 v6 m) fun q8 =>
bnd (nzB q8.1) fun v10 =>
some (v10, q8.2))
else (
if a1 = (112 : Int32) then (
bnd (rdA 191 189 (0 : Int32) m) fun v13 =>
if v13 = (8 : Int32) then (
some ((0 : Int32), m))
else (
bnd (rdA 191 189 (0 : Int32) m) fun v15 =>
bnd (f_X9_comes_L55 ((121 : Int32) + ((4 : Int32) * v15)) fU (0 : Int32) m) fun o22 =>
bnd (wrA 191 189 (((121 : Int32) + ((4 : Int32) * v15)) + (3 : Int32)) (-9 : Int32) o22) fun m24 =>
bnd (rdA 191 189 (0 : Int32) m24) fun v26 =>
bnd (wrA 191 189 (0 : Int32) (v26 + (1 : Int32)) m24) fun m28 =>
some ((1 : Int32), m28)))
else (
bnd (rdA 194 6 (0 : Int32) m) fun v31 =>
bnd (rdA 191 189 (0 : Int32) m) fun v33 =>
if v33 ≤ v31 then (
some ((0 : Int32), m))
else (
bnd (rdA 194 6 (2 : Int32) m) fun v35 =>
if v35 < (1 : Int32) then (
some ((0 : Int32), m))
else (
bnd (rdA 194 6 (2 : Int32) m) fun v37 =>
if (6 : Int32) < v37 then (
some ((0 : Int32), m))
else (
bnd (rdA 194 6 (3 : Int32) m) fun v39 =>
if (28 : Int32) ≤ v39 then (
some ((0 : Int32), m))
else (
bnd (rdA 191 189 (1 : Int32) m) fun v41 =>
if v41 = (6 : Int32) then (
some ((0 : Int32), m))
else (
bnd (f_X9_comes_L187 fU (0 : Int32) m) fun o50 =>
bnd (rdA 191 189 (1 : Int32) o50) fun v52 =>
bnd (wrA 191 189 (1 : Int32) (v52 + (1 : Int32)) o50) fun m54 =>
some ((1 : Int32), m54))))))))
set_option maxRecDepth 100000 in
theorem t_X9_comes_L55 {V : eV} (b2 : Int32) {r : Option Value} {h' : aH} : ∀ (n : Nat) (b3 : Int32) (m : mM) (o : mM), f_X9_comes_L55 b2 n b3 m = some o → gG V k_X9_comes 80 [(0, .ref (vB V + 187)), (2, .int b2)] [] (hS o) r h' → gG V k_X9_comes 55 [(0, .ref (vB V + 187)), (2, .int b2), (3, .int b3)] [] (hS m) r h' := by
  intro n
  induction n with
  | zero => intro b3 m o hf; cases hf
  | succ n ih =>
    intro b3 m o hf hk
    rw [f_X9_comes_L55] at hf
    refine g_iload_n 2 dX9_comes_55 rfl rfl ?_
    refine g_iconst (v := 3) dX9_comes_56 rfl ?_
    refine g_icmp_ge (tgt := 80) dX9_comes_57 (by decide) (fun c21 => ?_) (fun c21 => ?_)
    · replace hf := (if_pos c21).symm.trans hf
      cases hf
      refine g_sub [0, 1] rfl ?_
      exact hk
    · replace hf := (if_neg c21).symm.trans hf
      refine g_aload_n 0 dX9_comes_60 rfl rfl ?_
      refine gf_932 dX9_comes_61 rfl ob_187 rfl ?_
      refine g_iload_n 1 dX9_comes_64 rfl rfl ?_
      refine g_iload_n 2 dX9_comes_65 rfl rfl ?_
      refine g_iadd dX9_comes_66 ?_
      refine g_aload_n 0 dX9_comes_67 rfl rfl ?_
      refine gf_936 dX9_comes_68 rfl ob_187 rfl ?_
      refine g_iload_n 2 dX9_comes_71 rfl rfl ?_
      obtain ⟨v17, e18, hf⟩ := bnd_some hf
      refine p_iald dX9_comes_72 at_194 e18 ?_
      obtain ⟨m19, e20, hf⟩ := bnd_some hf
      refine p_iast dX9_comes_73 at_191 e20 ?_
      refine g_iinc (q := 2) (v := (b3 + (1 : Int32))) dX9_comes_74 rfl rfl (Nat.le_of_ble_eq_true rfl) rfl ?_
      refine g_goto (tgt := 55) dX9_comes_77 (by decide) ?_
      refine g_sub [1, 2, 0] rfl ?_
      exact ih (b3 + (1 : Int32)) m19 _ hf hk

set_option maxRecDepth 100000 in
theorem t_X9_comes_L187 {V : eV} {r : Option Value} {h' : aH} : ∀ (n : Nat) (b2 : Int32) (m : mM) (o : mM), f_X9_comes_L187 n b2 m = some o → gG V k_X9_comes 225 [(0, .ref (vB V + 187))] [] (hS o) r h' → gG V k_X9_comes 187 [(0, .ref (vB V + 187)), (2, .int b2)] [] (hS m) r h' := by
  intro n
  induction n with
  | zero => intro b2 m o hf; cases hf
  | succ n ih =>
    intro b2 m o hf hk
    rw [f_X9_comes_L187] at hf
    refine g_iload_n 1 dX9_comes_187 rfl rfl ?_
    refine g_bipush (v := 6) dX9_comes_188 rfl ?_
    refine g_icmp_ge (tgt := 225) dX9_comes_190 (by decide) (fun c49 => ?_) (fun c49 => ?_)
    · replace hf := (if_pos c49).symm.trans hf
      cases hf
      refine g_sub [0] rfl ?_
      exact hk
    · replace hf := (if_neg c49).symm.trans hf
      refine g_aload_n 0 dX9_comes_193 rfl rfl ?_
      refine gf_932 dX9_comes_194 rfl ob_187 rfl ?_
      refine g_sipush (v := 153) dX9_comes_197 rfl ?_
      refine g_bipush (v := 6) dX9_comes_200 rfl ?_
      refine g_aload_n 0 dX9_comes_202 rfl rfl ?_
      refine gf_932 dX9_comes_203 rfl ob_187 rfl ?_
      refine g_iconst (v := 1) dX9_comes_206 rfl ?_
      obtain ⟨v43, e44, hf⟩ := bnd_some hf
      refine p_iald dX9_comes_207 at_191 e44 ?_
      refine g_imul dX9_comes_208 ?_
      refine g_iadd dX9_comes_209 ?_
      refine g_iload_n 1 dX9_comes_210 rfl rfl ?_
      refine g_iadd dX9_comes_211 ?_
      refine g_aload_n 0 dX9_comes_212 rfl rfl ?_
      refine gf_936 dX9_comes_213 rfl ob_187 rfl ?_
      refine g_iload_n 1 dX9_comes_216 rfl rfl ?_
      obtain ⟨v45, e46, hf⟩ := bnd_some hf
      refine p_iald dX9_comes_217 at_194 e46 ?_
      obtain ⟨m47, e48, hf⟩ := bnd_some hf
      refine p_iast dX9_comes_218 at_191 e48 ?_
      refine g_iinc (q := 1) (v := (b2 + (1 : Int32))) dX9_comes_219 rfl rfl (Nat.le_of_ble_eq_true rfl) rfl ?_
      refine g_goto (tgt := 187) dX9_comes_222 (by decide) ?_
      refine g_sub [1, 0] rfl ?_
      exact ih (b2 + (1 : Int32)) m47 _ hf hk

set_option maxRecDepth 100000 in
theorem t_X9_comes {V : eV} {a1 : Int32}  {m : mM} {q : Int32 × mM} (hf : f_X9_comes a1 m = some q) : eE V 2 yX9_comes cX9_comes 4 (some .boolean) [.ref (vB V + 187), .int a1] (hS m) (some (.int q.1)) (hS q.2) := by
  refine eE_of (by decide) (Nat.le_of_ble_eq_true rfl) ?_
  show gG V k_X9_comes 0 [(0, .ref (vB V + 187)), (1, .int a1)] [] (hS m) _ _
  unfold f_X9_comes at hf
  refine g_iload_n 1 dX9_comes_0 rfl rfl ?_
  by_cases c1 : a1 = (104 : Int32)
  · replace hf := (if_pos c1).symm.trans hf
    refine g_lookup (tgt := 102) (off := 101) dX9_comes_1 (by decide) (by rw [c1]; decide) (by decide) ?_
    refine g_aload_n 0 dX9_comes_102 rfl rfl ?_
    refine g_aload_n 0 dX9_comes_103 rfl rfl ?_
    refine gf_936 dX9_comes_104 rfl ob_187 rfl ?_
    refine g_iconst (v := 0) dX9_comes_107 rfl ?_
    obtain ⟨v2, e3, hf⟩ := bnd_some hf
    refine p_iald dX9_comes_108 at_194 e3 ?_
    refine g_aload_n 0 dX9_comes_109 rfl rfl ?_
    refine gf_936 dX9_comes_110 rfl ob_187 rfl ?_
    refine g_iconst (v := 1) dX9_comes_113 rfl ?_
    obtain ⟨v4, e5, hf⟩ := bnd_some hf
    refine p_iald dX9_comes_114 at_194 e5 ?_
    refine g_aload_n 0 dX9_comes_115 rfl rfl ?_
    refine gf_936 dX9_comes_116 rfl ob_187 rfl ?_
    refine g_iconst (v := 2) dX9_comes_119 rfl ?_
    obtain ⟨v6, e7, hf⟩ := bnd_some hf
    refine p_iald dX9_comes_120 at_194 e7 ?_
    obtain ⟨q8, e9, hf⟩ := bnd_some hf
    refine p_callV (As := [.int v2, .int v4, .int v6]) (rest := []) (t_X9_comesHours e9) cw_1039 w_1041 w_29 ob_187 rfl (Nat.le_of_ble_eq_true rfl) rfl rfl (Nat.le_of_ble_eq_true rfl) dX9_comes_121 ?_
    obtain ⟨v10, e11, hf⟩ := bnd_some hf
    obtain ⟨hn, rfl⟩ := nzB_n e11
    cases hf
    exact g_iret dX9_comes_124 .boolean rfl hn
  · replace hf := (if_neg c1).symm.trans hf
    by_cases c12 : a1 = (112 : Int32)
    · replace hf := (if_pos c12).symm.trans hf
      refine g_lookup (tgt := 28) (off := 27) dX9_comes_1 (by decide) (by rw [c12]; decide) (by decide) ?_
      refine g_aload_n 0 dX9_comes_28 rfl rfl ?_
      refine gf_932 dX9_comes_29 rfl ob_187 rfl ?_
      refine g_iconst (v := 0) dX9_comes_32 rfl ?_
      obtain ⟨v13, e14, hf⟩ := bnd_some hf
      refine p_iald dX9_comes_33 at_191 e14 ?_
      refine g_bipush (v := 8) dX9_comes_34 rfl ?_
      refine g_icmp_ne (tgt := 41) dX9_comes_36 (by decide) (fun c30 => ?_) (fun c30 => ?_)
      · replace hf := (if_neg c30).symm.trans hf
        refine g_bipush (v := 121) dX9_comes_41 rfl ?_
        refine g_iconst (v := 4) dX9_comes_43 rfl ?_
        refine g_aload_n 0 dX9_comes_44 rfl rfl ?_
        refine gf_932 dX9_comes_45 rfl ob_187 rfl ?_
        refine g_iconst (v := 0) dX9_comes_48 rfl ?_
        obtain ⟨v15, e16, hf⟩ := bnd_some hf
        refine p_iald dX9_comes_49 at_191 e16 ?_
        refine g_imul dX9_comes_50 ?_
        refine g_iadd dX9_comes_51 ?_
        refine g_istore_n dX9_comes_52 rfl (Nat.le_of_ble_eq_true rfl) rfl ?_
        refine g_iconst (v := 0) dX9_comes_53 rfl ?_
        refine g_istore_n dX9_comes_54 rfl (Nat.le_of_ble_eq_true rfl) rfl ?_
        refine g_sub [2, 1, 0] rfl ?_
        obtain ⟨o22, e23, hf⟩ := bnd_some hf
        refine t_X9_comes_L55 (V := V) ((121 : Int32) + ((4 : Int32) * v15)) fU (0 : Int32) m _ e23 ?_
        refine g_aload_n 0 dX9_comes_80 rfl rfl ?_
        refine gf_932 dX9_comes_81 rfl ob_187 rfl ?_
        refine g_iload_n 1 dX9_comes_84 rfl rfl ?_
        refine g_iconst (v := 3) dX9_comes_85 rfl ?_
        refine g_iadd dX9_comes_86 ?_
        refine g_bipush (v := -9) dX9_comes_87 rfl ?_
        obtain ⟨m24, e25, hf⟩ := bnd_some hf
        refine p_iast dX9_comes_89 at_191 e25 ?_
        refine g_aload_n 0 dX9_comes_90 rfl rfl ?_
        refine gf_932 dX9_comes_91 rfl ob_187 rfl ?_
        refine g_iconst (v := 0) dX9_comes_94 rfl ?_
        refine g_dup2 dX9_comes_95 rfl rfl ?_
        obtain ⟨v26, e27, hf⟩ := bnd_some hf
        refine p_iald dX9_comes_96 at_191 e27 ?_
        refine g_iconst (v := 1) dX9_comes_97 rfl ?_
        refine g_iadd dX9_comes_98 ?_
        obtain ⟨m28, e29, hf⟩ := bnd_some hf
        refine p_iast dX9_comes_99 at_191 e29 ?_
        refine g_iconst (v := 1) dX9_comes_100 rfl ?_
        cases hf
        exact g_iret dX9_comes_101 .boolean rfl rfl
      · replace hf := (if_pos c30).symm.trans hf
        refine g_iconst (v := 0) dX9_comes_39 rfl ?_
        cases hf
        exact g_iret dX9_comes_40 .boolean rfl rfl
    · replace hf := (if_neg c12).symm.trans hf
      refine g_lookup (tgt := 125) (off := 124) dX9_comes_1 (by decide) ((lv_osw c1 rfl).trans ((lv_osw c12 rfl).trans rfl)) (by decide) ?_
      refine g_aload_n 0 dX9_comes_125 rfl rfl ?_
      refine gf_936 dX9_comes_126 rfl ob_187 rfl ?_
      refine g_iconst (v := 0) dX9_comes_129 rfl ?_
      obtain ⟨v31, e32, hf⟩ := bnd_some hf
      refine p_iald dX9_comes_130 at_194 e32 ?_
      refine g_aload_n 0 dX9_comes_131 rfl rfl ?_
      refine gf_932 dX9_comes_132 rfl ob_187 rfl ?_
      refine g_iconst (v := 0) dX9_comes_135 rfl ?_
      obtain ⟨v33, e34, hf⟩ := bnd_some hf
      refine p_iald dX9_comes_136 at_191 e34 ?_
      refine g_icmp_ge (tgt := 183) dX9_comes_137 (by decide) (fun c60 => ?_) (fun c60 => ?_)
      · replace hf := (if_pos c60).symm.trans hf
        refine g_iconst (v := 0) dX9_comes_183 rfl ?_
        cases hf
        exact g_iret dX9_comes_184 .boolean rfl rfl
      · replace hf := (if_neg c60).symm.trans hf
        refine g_aload_n 0 dX9_comes_140 rfl rfl ?_
        refine gf_936 dX9_comes_141 rfl ob_187 rfl ?_
        refine g_iconst (v := 2) dX9_comes_144 rfl ?_
        obtain ⟨v35, e36, hf⟩ := bnd_some hf
        refine p_iald dX9_comes_145 at_194 e36 ?_
        refine g_iconst (v := 1) dX9_comes_146 rfl ?_
        refine g_icmp_lt (tgt := 183) dX9_comes_147 (by decide) (fun c59 => ?_) (fun c59 => ?_)
        · replace hf := (if_pos c59).symm.trans hf
          refine g_iconst (v := 0) dX9_comes_183 rfl ?_
          cases hf
          exact g_iret dX9_comes_184 .boolean rfl rfl
        · replace hf := (if_neg c59).symm.trans hf
          refine g_aload_n 0 dX9_comes_150 rfl rfl ?_
          refine gf_936 dX9_comes_151 rfl ob_187 rfl ?_
          refine g_iconst (v := 2) dX9_comes_154 rfl ?_
          obtain ⟨v37, e38, hf⟩ := bnd_some hf
          refine p_iald dX9_comes_155 at_194 e38 ?_
          refine g_bipush (v := 6) dX9_comes_156 rfl ?_
          refine g_icmp_gt (tgt := 183) dX9_comes_158 (by decide) (fun c58 => ?_) (fun c58 => ?_)
          · replace hf := (if_pos c58).symm.trans hf
            refine g_iconst (v := 0) dX9_comes_183 rfl ?_
            cases hf
            exact g_iret dX9_comes_184 .boolean rfl rfl
          · replace hf := (if_neg c58).symm.trans hf
            refine g_aload_n 0 dX9_comes_161 rfl rfl ?_
            refine gf_936 dX9_comes_162 rfl ob_187 rfl ?_
            refine g_iconst (v := 3) dX9_comes_165 rfl ?_
            obtain ⟨v39, e40, hf⟩ := bnd_some hf
            refine p_iald dX9_comes_166 at_194 e40 ?_
            refine g_bipush (v := 28) dX9_comes_167 rfl ?_
            refine g_icmp_ge (tgt := 183) dX9_comes_169 (by decide) (fun c57 => ?_) (fun c57 => ?_)
            · replace hf := (if_pos c57).symm.trans hf
              refine g_iconst (v := 0) dX9_comes_183 rfl ?_
              cases hf
              exact g_iret dX9_comes_184 .boolean rfl rfl
            · replace hf := (if_neg c57).symm.trans hf
              refine g_aload_n 0 dX9_comes_172 rfl rfl ?_
              refine gf_932 dX9_comes_173 rfl ob_187 rfl ?_
              refine g_iconst (v := 1) dX9_comes_176 rfl ?_
              obtain ⟨v41, e42, hf⟩ := bnd_some hf
              refine p_iald dX9_comes_177 at_191 e42 ?_
              refine g_bipush (v := 6) dX9_comes_178 rfl ?_
              refine g_icmp_ne (tgt := 185) dX9_comes_180 (by decide) (fun c56 => ?_) (fun c56 => ?_)
              · replace hf := (if_neg c56).symm.trans hf
                refine g_iconst (v := 0) dX9_comes_185 rfl ?_
                refine g_istore_n dX9_comes_186 rfl (Nat.le_of_ble_eq_true rfl) rfl ?_
                refine g_sub [1, 0] rfl ?_
                obtain ⟨o50, e51, hf⟩ := bnd_some hf
                refine t_X9_comes_L187 (V := V) fU (0 : Int32) m _ e51 ?_
                refine g_aload_n 0 dX9_comes_225 rfl rfl ?_
                refine gf_932 dX9_comes_226 rfl ob_187 rfl ?_
                refine g_iconst (v := 1) dX9_comes_229 rfl ?_
                refine g_dup2 dX9_comes_230 rfl rfl ?_
                obtain ⟨v52, e53, hf⟩ := bnd_some hf
                refine p_iald dX9_comes_231 at_191 e53 ?_
                refine g_iconst (v := 1) dX9_comes_232 rfl ?_
                refine g_iadd dX9_comes_233 ?_
                obtain ⟨m54, e55, hf⟩ := bnd_some hf
                refine p_iast dX9_comes_234 at_191 e55 ?_
                refine g_iconst (v := 1) dX9_comes_235 rfl ?_
                cases hf
                exact g_iret dX9_comes_236 .boolean rfl rfl
              · replace hf := (if_pos c56).symm.trans hf
                refine g_iconst (v := 0) dX9_comes_183 rfl ?_
                cases hf
                exact g_iret dX9_comes_184 .boolean rfl rfl

abbrev k_X9_copies_191_189 : kX := (cX9_copies, "WhoseHourItIsModel", "copies", none, 3, 0)
def f_X9_copies_191_189_L2 : Nat → Int32 → mM → Option (mM)
  | 0, _, _ => none
  | n + 1, b2, m =>
      if (189 : Int32) ≤ b2 then (
      some m)
      else (
      bnd (rdA 191 189 b2 m) fun v1 =>
      bnd (wrA 189 189 b2 v1 m) fun m3 =>
      f_X9_copies_191_189_L2 n (b2 + (1 : Int32)) m3)
def f_X9_copies_191_189  (m : mM) : Option (mM) :=
bnd (f_X9_copies_191_189_L2 fU (0 : Int32) m) fun o6 =>
some o6
set_option maxRecDepth 100000 in
theorem t_X9_copies_191_189_L2 {V : eV} {r : Option Value} {h' : aH} : ∀ (n : Nat) (b2 : Int32) (m : mM) (o : mM), f_X9_copies_191_189_L2 n b2 m = some o → gG V k_X9_copies_191_189 21 [] [] (hS o) r h' → gG V k_X9_copies_191_189 2 [(0, .ref (vB V + 191)), (1, .ref (vB V + 189)), (2, .int b2)] [] (hS m) r h' := by
  intro n
  induction n with
  | zero => intro b2 m o hf; cases hf
  | succ n ih =>
    intro b2 m o hf hk
    rw [f_X9_copies_191_189_L2] at hf
    refine g_iload_n 2 dX9_copies_2 rfl rfl ?_
    refine g_sipush (v := 189) dX9_copies_3 rfl ?_
    refine g_icmp_ge (tgt := 21) dX9_copies_6 (by decide) (fun c5 => ?_) (fun c5 => ?_)
    · replace hf := (if_pos c5).symm.trans hf
      cases hf
      refine g_sub [] rfl ?_
      exact hk
    · replace hf := (if_neg c5).symm.trans hf
      refine g_aload_n 1 dX9_copies_9 rfl rfl ?_
      refine g_iload_n 2 dX9_copies_10 rfl rfl ?_
      refine g_aload_n 0 dX9_copies_11 rfl rfl ?_
      refine g_iload_n 2 dX9_copies_12 rfl rfl ?_
      obtain ⟨v1, e2, hf⟩ := bnd_some hf
      refine p_iald dX9_copies_13 at_191 e2 ?_
      obtain ⟨m3, e4, hf⟩ := bnd_some hf
      refine p_iast dX9_copies_14 at_189 e4 ?_
      refine g_iinc (q := 2) (v := (b2 + (1 : Int32))) dX9_copies_15 rfl rfl (Nat.le_of_ble_eq_true rfl) rfl ?_
      refine g_goto (tgt := 2) dX9_copies_18 (by decide) ?_
      refine g_sub [1, 2, 0] rfl ?_
      exact ih (b2 + (1 : Int32)) m3 _ hf hk

set_option maxRecDepth 100000 in
theorem t_X9_copies_191_189 {V : eV}  {m : mM} {q : mM} (hf : f_X9_copies_191_189  m = some q) : eE V 0 yX9_copies cX9_copies 3 (none) [.ref (vB V + 191), .ref (vB V + 189)] (hS m) none (hS q) := by
  refine eE_of (by decide) (Nat.le_of_ble_eq_true rfl) ?_
  show gG V k_X9_copies_191_189 0 [(0, .ref (vB V + 191)), (1, .ref (vB V + 189))] [] (hS m) _ _
  unfold f_X9_copies_191_189 at hf
  refine g_iconst (v := 0) dX9_copies_0 rfl ?_
  refine g_istore_n dX9_copies_1 rfl (Nat.le_of_ble_eq_true rfl) rfl ?_
  refine g_sub [1, 2, 0] rfl ?_
  obtain ⟨o6, e7, hf⟩ := bnd_some hf
  refine t_X9_copies_191_189_L2 (V := V) fU (0 : Int32) m _ e7 ?_
  cases hf
  exact g_vret dX9_copies_21 rfl

