/-! printed by wip/whole/gen_meth.py: plain functions of the methods, and that the bytecode does as they say -/
abbrev k_X9_copies_190_189 : kX := (cX9_copies, "WhoseHourItIsModel", "copies", none, 3, 0)
def f_X9_copies_190_189_L2 : Nat → Int32 → mM → Option (mM)
  | 0, _, _ => none
  | n + 1, b2, m =>
if (189 : Int32) ≤ b2 then (
some m)
else (
bnd (rdA 190 189 b2 m) fun v1 =>
bnd (wrA 189 189 b2 v1 m) fun m3 =>
f_X9_copies_190_189_L2 n (b2 + (1 : Int32)) m3)
def f_X9_copies_190_189  (m : mM) : Option (mM) :=
bnd (f_X9_copies_190_189_L2 fU (0 : Int32) m) fun o6 =>
some o6
set_option maxRecDepth 100000 in
theorem t_X9_copies_190_189_L2 {V : eV} {r : Option Value} {h' : aH} : ∀ (n : Nat) (b2 : Int32) (m : mM) (o : mM), f_X9_copies_190_189_L2 n b2 m = some o → gG V k_X9_copies_190_189 21 [] [] (hS o) r h' → gG V k_X9_copies_190_189 2 [(0, .ref (vB V + 190)), (1, .ref (vB V + 189)), (2, .int b2)] [] (hS m) r h' := by
  intro n
  induction n with
  | zero => intro b2 m o hf; cases hf
  | succ n ih =>
    intro b2 m o hf hk
    unfold f_X9_copies_190_189_L2 at hf
    refine g_iload_n 2 dX9_copies_2 rfl rfl ?_
    refine g_sipush (v := 189) dX9_copies_3 rfl ?_
    refine g_icmp_ge (tgt := 21) dX9_copies_6 (by decide) (fun c5 => ?_) (fun c5 => ?_)
    · replace hf := (if_pos c5).symm.trans hf
      cases hf
      refine g_sub [] rfl ?_
      exact hk
    · replace hf := (if_neg c5).symm.trans hf
      refine g_aload_n 1 dX9_copies_9 rfl rfl ?_
      refine g_iload_n 2 dX9_copies_10 rfl rfl ?_
      refine g_aload_n 0 dX9_copies_11 rfl rfl ?_
      refine g_iload_n 2 dX9_copies_12 rfl rfl ?_
      obtain ⟨v1, e2, hf⟩ := bnd_some hf
      refine p_iald dX9_copies_13 at_190 e2 ?_
      obtain ⟨m3, e4, hf⟩ := bnd_some hf
      refine p_iast dX9_copies_14 at_189 e4 ?_
      refine g_iinc (q := 2) (v := (b2 + (1 : Int32))) dX9_copies_15 rfl rfl (Nat.le_of_ble_eq_true rfl) rfl ?_
      refine g_goto (tgt := 2) dX9_copies_18 (by decide) ?_
      refine g_sub [1, 2, 0] rfl ?_
      exact ih (b2 + (1 : Int32)) m3 _ hf hk

set_option maxRecDepth 100000 in
theorem t_X9_copies_190_189 {V : eV}  {m : mM} {q : mM} (hf : f_X9_copies_190_189  m = some q) : eE V 0 yX9_copies cX9_copies 3 (none) [.ref (vB V + 190), .ref (vB V + 189)] (hS m) none (hS q) := by
  refine eE_of (by decide) (Nat.le_of_ble_eq_true rfl) ?_
  show gG V k_X9_copies_190_189 0 [(0, .ref (vB V + 190)), (1, .ref (vB V + 189))] [] (hS m) _ _
  unfold f_X9_copies_190_189 at hf
  refine g_iconst (v := 0) dX9_copies_0 rfl ?_
  refine g_istore_n dX9_copies_1 rfl (Nat.le_of_ble_eq_true rfl) rfl ?_
  refine g_sub [1, 2, 0] rfl ?_
  obtain ⟨o6, e7, hf⟩ := bnd_some hf
  refine t_X9_copies_190_189_L2 (V := V) fU (0 : Int32) m _ e7 ?_
  cases hf
  exact g_vret dX9_copies_21 rfl

abbrev k_X9_on : kX := (cX9_on, "WhoseHourItIsModel", "on", some .int, 1, 1)
def f_X9_on  (m : mM) : Option (Int32 × mM) :=
if (m 187 5) = 0 then (
bnd (f_X9_refuse (-3 : Int32) m) fun q1 =>
some (q1.1, q1.2))
else (
bnd (f_X9_copies_190_189 m) fun q3 =>
bnd (rdA 189 189 (0 : Int32) q3) fun v5 =>
some (v5, q3))
set_option maxRecDepth 100000 in
theorem t_X9_on {V : eV}  {m : mM} {q : Int32 × mM} (hf : f_X9_on  m = some q) : eE V 1 yX9_on cX9_on 1 (some .int) [.ref (vB V + 187)] (hS m) (some (.int q.1)) (hS q.2) := by
  refine eE_of (by decide) (Nat.le_of_ble_eq_true rfl) ?_
  show gG V k_X9_on 0 [(0, .ref (vB V + 187))] [] (hS m) _ _
  unfold f_X9_on at hf
  refine g_aload_n 0 dX9_on_0 rfl rfl ?_
  refine gf_934 dX9_on_1 rfl ob_187 rfl ?_
  refine g_if_ne (tgt := 14) dX9_on_4 (by decide) (fun c7 => ?_) (fun c7 => ?_)
  · replace hf := (if_neg c7).symm.trans hf
    refine g_aload_n 0 dX9_on_14 rfl rfl ?_
    refine gf_931 dX9_on_15 rfl ob_187 rfl ?_
    refine g_aload_n 0 dX9_on_18 rfl rfl ?_
    refine gf_930 dX9_on_19 rfl ob_187 rfl ?_
    obtain ⟨q3, e4, hf⟩ := bnd_some hf
    refine p_callSv (As := [.ref (vB V + 190), .ref (vB V + 189)]) (rest := []) (t_X9_copies_190_189 e4) cw_1032 w_1033 (Nat.le_of_ble_eq_true rfl) rfl rfl (Nat.le_of_ble_eq_true rfl) dX9_on_22 ?_
    refine g_aload_n 0 dX9_on_25 rfl rfl ?_
    refine gf_930 dX9_on_26 rfl ob_187 rfl ?_
    refine g_iconst (v := 0) dX9_on_29 rfl ?_
    obtain ⟨v5, e6, hf⟩ := bnd_some hf
    refine p_iald dX9_on_30 at_189 e6 ?_
    cases hf
    exact g_iret dX9_on_31 .int rfl rfl
  · replace hf := (if_pos c7).symm.trans hf
    refine g_aload_n 0 dX9_on_7 rfl rfl ?_
    refine g_bipush (v := -3) dX9_on_8 rfl ?_
    obtain ⟨q1, e2, hf⟩ := bnd_some hf
    refine p_callV (As := [.int (-3 : Int32)]) (rest := []) (t_X9_refuse e2) cw_1000 w_1002 w_22 ob_187 rfl (Nat.le_of_ble_eq_true rfl) rfl rfl (Nat.le_of_ble_eq_true rfl) dX9_on_10 ?_
    cases hf
    exact g_iret dX9_on_13 .int rfl rfl

abbrev k_X9_count : kX := (cX9_count, "WhoseHourItIsModel", "count", some .int, 4, 1)
def f_X9_count_L77 (b1 : Int32) (m : mM) : Nat → Int32 → Int32 → Option (Int32)
  | 0, _, _ => none
  | n + 1, b2, b3 =>
if (28 : Int32) ≤ b3 then (
some b2)
else (
if b1 = (2 : Int32) then (
bnd (rdA 189 189 ((9 : Int32) + ((4 : Int32) * b3)) m) fun v8 =>
if v8 = 0 then (
f_X9_count_L77 b1 m n (b2 + (1 : Int32)) (b3 + (1 : Int32)))
else (
f_X9_count_L77 b1 m n (b2 + (0 : Int32)) (b3 + (1 : Int32))))
else (
bnd (rdA 189 189 ((9 : Int32) + ((4 : Int32) * b3)) m) fun v11 =>
f_X9_count_L77 b1 m n (b2 + v11) (b3 + (1 : Int32))))
def f_X9_count (a1 : Int32) (m : mM) : Option (Int32) :=
if a1 ≤ (10 : Int32) then (
if a1 = (0 : Int32) then (
bnd (rdA 189 189 a1 m) fun v2 =>
some v2)
else (
if a1 = (1 : Int32) then (
bnd (rdA 189 189 a1 m) fun v5 =>
some v5)
else (
if a1 = (2 : Int32) then (
bnd (f_X9_count_L77 a1 m fU (0 : Int32) (0 : Int32)) fun o15 =>
some o15)
else (
if a1 = (3 : Int32) then (
bnd (f_X9_count_L77 a1 m fU (0 : Int32) (0 : Int32)) fun o18 =>
some o18)
else (
if a1 = (4 : Int32) then (
bnd (rdA 189 189 (2 : Int32) m) fun v21 =>
bnd (f_X9_bits v21 m) fun q23 =>
some q23)
else (
if a1 = (5 : Int32) then (
some (m 187 21))
else (
if a1 = (6 : Int32) then (
some (m 187 8))
else (
some (-9 : Int32)))))))))
else (
if (17 : Int32) ≤ a1 then (
if a1 = (0 : Int32) then (
bnd (rdA 189 189 a1 m) fun v28 =>
some v28)
else (
if a1 = (1 : Int32) then (
bnd (rdA 189 189 a1 m) fun v31 =>
some v31)
else (
if a1 = (2 : Int32) then (
bnd (f_X9_count_L77 a1 m fU (0 : Int32) (0 : Int32)) fun o34 =>
some o34)
else (
if a1 = (3 : Int32) then (
bnd (f_X9_count_L77 a1 m fU (0 : Int32) (0 : Int32)) fun o37 =>
some o37)
else (
if a1 = (4 : Int32) then (
bnd (rdA 189 189 (2 : Int32) m) fun v40 =>
bnd (f_X9_bits v40 m) fun q42 =>
some q42)
else (
if a1 = (5 : Int32) then (
some (m 187 21))
else (
if a1 = (6 : Int32) then (
some (m 187 8))
else (
some (-9 : Int32)))))))))
else (
bnd (rdA 188 7 (a1 - (10 : Int32)) m) fun v46 =>
some v46))
set_option maxRecDepth 100000 in
theorem t_X9_count_L77 {V : eV} (b1 : Int32) (m : mM) {r : Option Value} {h' : aH} : ∀ (n : Nat) (b2 : Int32) (b3 : Int32) (o : Int32), f_X9_count_L77 b1 m n b2 b3 = some o → gG V k_X9_count 130 [(2, .int o)] [] (hS m) r h' → gG V k_X9_count 77 [(0, .ref (vB V + 187)), (1, .int b1), (2, .int b2), (3, .int b3)] [] (hS m) r h' := by
  intro n
  induction n with
  | zero => intro b2 b3 o hf; cases hf
  | succ n ih =>
    intro b2 b3 o hf hk
    unfold f_X9_count_L77 at hf
    refine g_iload_n 3 dX9_count_77 rfl rfl ?_
    refine g_bipush (v := 28) dX9_count_78 rfl ?_
    refine g_icmp_ge (tgt := 130) dX9_count_80 (by decide) (fun c14 => ?_) (fun c14 => ?_)
    · replace hf := (if_pos c14).symm.trans hf
      cases hf
      refine g_sub [2] rfl ?_
      exact hk
    · replace hf := (if_neg c14).symm.trans hf
      refine g_iload_n 2 dX9_count_83 rfl rfl ?_
      refine g_iload_n 1 dX9_count_84 rfl rfl ?_
      refine g_iconst (v := 2) dX9_count_85 rfl ?_
      refine g_icmp_ne (tgt := 111) dX9_count_86 (by decide) (fun c13 => ?_) (fun c13 => ?_)
      · replace hf := (if_neg c13).symm.trans hf
        refine g_aload_n 0 dX9_count_111 rfl rfl ?_
        refine gf_930 dX9_count_112 rfl ob_187 rfl ?_
        refine g_bipush (v := 9) dX9_count_115 rfl ?_
        refine g_iconst (v := 4) dX9_count_117 rfl ?_
        refine g_iload_n 3 dX9_count_118 rfl rfl ?_
        refine g_imul dX9_count_119 ?_
        refine g_iadd dX9_count_120 ?_
        obtain ⟨v11, e12, hf⟩ := bnd_some hf
        refine p_iald dX9_count_121 at_189 e12 ?_
        refine g_iadd dX9_count_122 ?_
        refine g_istore_n dX9_count_123 rfl (Nat.le_of_ble_eq_true rfl) rfl ?_
        refine g_iinc (q := 3) (v := (b3 + (1 : Int32))) dX9_count_124 rfl rfl (Nat.le_of_ble_eq_true rfl) rfl ?_
        refine g_goto (tgt := 77) dX9_count_127 (by decide) ?_
        refine g_sub [2, 3, 1, 0] rfl ?_
        exact ih (b2 + v11) (b3 + (1 : Int32)) _ hf hk
      · replace hf := (if_pos c13).symm.trans hf
        refine g_aload_n 0 dX9_count_89 rfl rfl ?_
        refine gf_930 dX9_count_90 rfl ob_187 rfl ?_
        refine g_bipush (v := 9) dX9_count_93 rfl ?_
        refine g_iconst (v := 4) dX9_count_95 rfl ?_
        refine g_iload_n 3 dX9_count_96 rfl rfl ?_
        refine g_imul dX9_count_97 ?_
        refine g_iadd dX9_count_98 ?_
        obtain ⟨v8, e9, hf⟩ := bnd_some hf
        refine p_iald dX9_count_99 at_189 e9 ?_
        refine g_if_ne (tgt := 107) dX9_count_100 (by decide) (fun c10 => ?_) (fun c10 => ?_)
        · replace hf := (if_neg c10).symm.trans hf
          refine g_iconst (v := 0) dX9_count_107 rfl ?_
          refine g_goto (tgt := 122) dX9_count_108 (by decide) ?_
          refine g_iadd dX9_count_122 ?_
          refine g_istore_n dX9_count_123 rfl (Nat.le_of_ble_eq_true rfl) rfl ?_
          refine g_iinc (q := 3) (v := (b3 + (1 : Int32))) dX9_count_124 rfl rfl (Nat.le_of_ble_eq_true rfl) rfl ?_
          refine g_goto (tgt := 77) dX9_count_127 (by decide) ?_
          refine g_sub [2, 3, 1, 0] rfl ?_
          exact ih (b2 + (0 : Int32)) (b3 + (1 : Int32)) _ hf hk
        · replace hf := (if_pos c10).symm.trans hf
          refine g_iconst (v := 1) dX9_count_103 rfl ?_
          refine g_goto (tgt := 122) dX9_count_104 (by decide) ?_
          refine g_iadd dX9_count_122 ?_
          refine g_istore_n dX9_count_123 rfl (Nat.le_of_ble_eq_true rfl) rfl ?_
          refine g_iinc (q := 3) (v := (b3 + (1 : Int32))) dX9_count_124 rfl rfl (Nat.le_of_ble_eq_true rfl) rfl ?_
          refine g_goto (tgt := 77) dX9_count_127 (by decide) ?_
          refine g_sub [2, 3, 1, 0] rfl ?_
          exact ih (b2 + (1 : Int32)) (b3 + (1 : Int32)) _ hf hk

set_option maxRecDepth 100000 in
theorem t_X9_count {V : eV} {a1 : Int32}  {m : mM} {q : Int32} (hf : f_X9_count a1 m = some q) : eE V 1 yX9_count cX9_count 4 (some .int) [.ref (vB V + 187), .int a1] (hS m) (some (.int q)) (hS m) := by
  refine eE_of (by decide) (Nat.le_of_ble_eq_true rfl) ?_
  show gG V k_X9_count 0 [(0, .ref (vB V + 187)), (1, .int a1)] [] (hS m) _ _
  unfold f_X9_count at hf
  refine g_iload_n 1 dX9_count_0 rfl rfl ?_
  refine g_bipush (v := 10) dX9_count_1 rfl ?_
  refine g_icmp_le (tgt := 22) dX9_count_3 (by decide) (fun c49 => ?_) (fun c49 => ?_)
  · replace hf := (if_pos c49).symm.trans hf
    refine g_iconst (v := 0) dX9_count_22 rfl ?_
    refine g_istore_n dX9_count_23 rfl (Nat.le_of_ble_eq_true rfl) rfl ?_
    refine g_iload_n 2 dX9_count_24 rfl rfl ?_
    by_cases c1 : a1 = (0 : Int32)
    · replace hf := (if_pos c1).symm.trans hf
      refine g_tableIn (tgt := 68) (off := 43) dX9_count_25 (by rw [c1]; decide) (by rw [c1]; decide) (by rw [c1]; rfl) (by decide) ?_
      refine g_aload_n 1 dX9_count_68 rfl rfl ?_
      refine gf_930 dX9_count_69 rfl ob_187 rfl ?_
      refine g_iload_n 2 dX9_count_72 rfl rfl ?_
      obtain ⟨v2, e3, hf⟩ := bnd_some hf
      refine p_iald dX9_count_73 at_189 e3 ?_
      cases hf
      exact g_iret dX9_count_74 .int rfl rfl
    · replace hf := (if_neg c1).symm.trans hf
      by_cases c4 : a1 = (1 : Int32)
      · replace hf := (if_pos c4).symm.trans hf
        refine g_tableIn (tgt := 68) (off := 43) dX9_count_25 (by rw [c4]; decide) (by rw [c4]; decide) (by rw [c4]; rfl) (by decide) ?_
        refine g_aload_n 1 dX9_count_68 rfl rfl ?_
        refine gf_930 dX9_count_69 rfl ob_187 rfl ?_
        refine g_iload_n 2 dX9_count_72 rfl rfl ?_
        obtain ⟨v5, e6, hf⟩ := bnd_some hf
        refine p_iald dX9_count_73 at_189 e6 ?_
        cases hf
        exact g_iret dX9_count_74 .int rfl rfl
      · replace hf := (if_neg c4).symm.trans hf
        by_cases c7 : a1 = (2 : Int32)
        · replace hf := (if_pos c7).symm.trans hf
          refine g_tableIn (tgt := 75) (off := 50) dX9_count_25 (by rw [c7]; decide) (by rw [c7]; decide) (by rw [c7]; rfl) (by decide) ?_
          refine g_iconst (v := 0) dX9_count_75 rfl ?_
          refine g_istore_n dX9_count_76 rfl (Nat.le_of_ble_eq_true rfl) rfl ?_
          refine g_sub [2, 3, 1, 0] rfl ?_
          obtain ⟨o15, e16, hf⟩ := bnd_some hf
          refine t_X9_count_L77 (V := V) a1 m fU (0 : Int32) (0 : Int32) _ e16 ?_
          refine g_iload_n 0 dX9_count_130 rfl rfl ?_
          cases hf
          exact g_iret dX9_count_131 .int rfl rfl
        · replace hf := (if_neg c7).symm.trans hf
          by_cases c17 : a1 = (3 : Int32)
          · replace hf := (if_pos c17).symm.trans hf
            refine g_tableIn (tgt := 75) (off := 50) dX9_count_25 (by rw [c17]; decide) (by rw [c17]; decide) (by rw [c17]; rfl) (by decide) ?_
            refine g_iconst (v := 0) dX9_count_75 rfl ?_
            refine g_istore_n dX9_count_76 rfl (Nat.le_of_ble_eq_true rfl) rfl ?_
            refine g_sub [2, 3, 1, 0] rfl ?_
            obtain ⟨o18, e19, hf⟩ := bnd_some hf
            refine t_X9_count_L77 (V := V) a1 m fU (0 : Int32) (0 : Int32) _ e19 ?_
            refine g_iload_n 0 dX9_count_130 rfl rfl ?_
            cases hf
            exact g_iret dX9_count_131 .int rfl rfl
          · replace hf := (if_neg c17).symm.trans hf
            by_cases c20 : a1 = (4 : Int32)
            · replace hf := (if_pos c20).symm.trans hf
              refine g_tableIn (tgt := 132) (off := 107) dX9_count_25 (by rw [c20]; decide) (by rw [c20]; decide) (by rw [c20]; rfl) (by decide) ?_
              refine g_aload_n 1 dX9_count_132 rfl rfl ?_
              refine gf_930 dX9_count_133 rfl ob_187 rfl ?_
              refine g_iconst (v := 2) dX9_count_136 rfl ?_
              obtain ⟨v21, e22, hf⟩ := bnd_some hf
              refine p_iald dX9_count_137 at_189 e22 ?_
              obtain ⟨q23, e24, hf⟩ := bnd_some hf
              refine p_callS (As := [.int v21]) (rest := []) (t_X9_bits e24) cw_1200 w_1201 (Nat.le_of_ble_eq_true rfl) rfl rfl (Nat.le_of_ble_eq_true rfl) dX9_count_138 ?_
              cases hf
              exact g_iret dX9_count_141 .int rfl rfl
            · replace hf := (if_neg c20).symm.trans hf
              by_cases c25 : a1 = (5 : Int32)
              · replace hf := (if_pos c25).symm.trans hf
                refine g_tableIn (tgt := 142) (off := 117) dX9_count_25 (by rw [c25]; decide) (by rw [c25]; decide) (by rw [c25]; rfl) (by decide) ?_
                refine g_aload_n 1 dX9_count_142 rfl rfl ?_
                refine gf_950 dX9_count_143 rfl ob_187 rfl ?_
                cases hf
                exact g_iret dX9_count_146 .int rfl rfl
              · replace hf := (if_neg c25).symm.trans hf
                by_cases c26 : a1 = (6 : Int32)
                · replace hf := (if_pos c26).symm.trans hf
                  refine g_tableIn (tgt := 147) (off := 122) dX9_count_25 (by rw [c26]; decide) (by rw [c26]; decide) (by rw [c26]; rfl) (by decide) ?_
                  refine g_aload_n 1 dX9_count_147 rfl rfl ?_
                  refine gf_937 dX9_count_148 rfl ob_187 rfl ?_
                  cases hf
                  exact g_iret dX9_count_151 .int rfl rfl
                · replace hf := (if_neg c26).symm.trans hf
                  have hsw := sw_out (lo := 0) (hi := 6) (x := a1) (fun z z1 z2 => by
                      have zz : z = 0 ∨ z = 1 ∨ z = 2 ∨ z = 3 ∨ z = 4 ∨ z = 5 ∨ z = 6 := by omega
                      rcases zz with rfl | rfl | rfl | rfl | rfl | rfl | rfl <;> assumption)
                  refine g_tableOut (tgt := 152) dX9_count_25 hsw (by decide) ?_
                  refine g_bipush (v := -9) dX9_count_152 rfl ?_
                  cases hf
                  exact g_iret dX9_count_154 .int rfl rfl
  · replace hf := (if_neg c49).symm.trans hf
    refine g_iload_n 1 dX9_count_6 rfl rfl ?_
    refine g_bipush (v := 17) dX9_count_7 rfl ?_
    refine g_icmp_ge (tgt := 22) dX9_count_9 (by decide) (fun c48 => ?_) (fun c48 => ?_)
    · replace hf := (if_pos c48).symm.trans hf
      refine g_iconst (v := 0) dX9_count_22 rfl ?_
      refine g_istore_n dX9_count_23 rfl (Nat.le_of_ble_eq_true rfl) rfl ?_
      refine g_iload_n 2 dX9_count_24 rfl rfl ?_
      by_cases c27 : a1 = (0 : Int32)
      · replace hf := (if_pos c27).symm.trans hf
        refine g_tableIn (tgt := 68) (off := 43) dX9_count_25 (by rw [c27]; decide) (by rw [c27]; decide) (by rw [c27]; rfl) (by decide) ?_
        refine g_aload_n 1 dX9_count_68 rfl rfl ?_
        refine gf_930 dX9_count_69 rfl ob_187 rfl ?_
        refine g_iload_n 2 dX9_count_72 rfl rfl ?_
        obtain ⟨v28, e29, hf⟩ := bnd_some hf
        refine p_iald dX9_count_73 at_189 e29 ?_
        cases hf
        exact g_iret dX9_count_74 .int rfl rfl
      · replace hf := (if_neg c27).symm.trans hf
        by_cases c30 : a1 = (1 : Int32)
        · replace hf := (if_pos c30).symm.trans hf
          refine g_tableIn (tgt := 68) (off := 43) dX9_count_25 (by rw [c30]; decide) (by rw [c30]; decide) (by rw [c30]; rfl) (by decide) ?_
          refine g_aload_n 1 dX9_count_68 rfl rfl ?_
          refine gf_930 dX9_count_69 rfl ob_187 rfl ?_
          refine g_iload_n 2 dX9_count_72 rfl rfl ?_
          obtain ⟨v31, e32, hf⟩ := bnd_some hf
          refine p_iald dX9_count_73 at_189 e32 ?_
          cases hf
          exact g_iret dX9_count_74 .int rfl rfl
        · replace hf := (if_neg c30).symm.trans hf
          by_cases c33 : a1 = (2 : Int32)
          · replace hf := (if_pos c33).symm.trans hf
            refine g_tableIn (tgt := 75) (off := 50) dX9_count_25 (by rw [c33]; decide) (by rw [c33]; decide) (by rw [c33]; rfl) (by decide) ?_
            refine g_iconst (v := 0) dX9_count_75 rfl ?_
            refine g_istore_n dX9_count_76 rfl (Nat.le_of_ble_eq_true rfl) rfl ?_
            refine g_sub [2, 3, 1, 0] rfl ?_
            obtain ⟨o34, e35, hf⟩ := bnd_some hf
            refine t_X9_count_L77 (V := V) a1 m fU (0 : Int32) (0 : Int32) _ e35 ?_
            refine g_iload_n 0 dX9_count_130 rfl rfl ?_
            cases hf
            exact g_iret dX9_count_131 .int rfl rfl
          · replace hf := (if_neg c33).symm.trans hf
            by_cases c36 : a1 = (3 : Int32)
            · replace hf := (if_pos c36).symm.trans hf
              refine g_tableIn (tgt := 75) (off := 50) dX9_count_25 (by rw [c36]; decide) (by rw [c36]; decide) (by rw [c36]; rfl) (by decide) ?_
              refine g_iconst (v := 0) dX9_count_75 rfl ?_
              refine g_istore_n dX9_count_76 rfl (Nat.le_of_ble_eq_true rfl) rfl ?_
              refine g_sub [2, 3, 1, 0] rfl ?_
              obtain ⟨o37, e38, hf⟩ := bnd_some hf
              refine t_X9_count_L77 (V := V) a1 m fU (0 : Int32) (0 : Int32) _ e38 ?_
              refine g_iload_n 0 dX9_count_130 rfl rfl ?_
              cases hf
              exact g_iret dX9_count_131 .int rfl rfl
            · replace hf := (if_neg c36).symm.trans hf
              by_cases c39 : a1 = (4 : Int32)
              · replace hf := (if_pos c39).symm.trans hf
                refine g_tableIn (tgt := 132) (off := 107) dX9_count_25 (by rw [c39]; decide) (by rw [c39]; decide) (by rw [c39]; rfl) (by decide) ?_
                refine g_aload_n 1 dX9_count_132 rfl rfl ?_
                refine gf_930 dX9_count_133 rfl ob_187 rfl ?_
                refine g_iconst (v := 2) dX9_count_136 rfl ?_
                obtain ⟨v40, e41, hf⟩ := bnd_some hf
                refine p_iald dX9_count_137 at_189 e41 ?_
                obtain ⟨q42, e43, hf⟩ := bnd_some hf
                refine p_callS (As := [.int v40]) (rest := []) (t_X9_bits e43) cw_1200 w_1201 (Nat.le_of_ble_eq_true rfl) rfl rfl (Nat.le_of_ble_eq_true rfl) dX9_count_138 ?_
                cases hf
                exact g_iret dX9_count_141 .int rfl rfl
              · replace hf := (if_neg c39).symm.trans hf
                by_cases c44 : a1 = (5 : Int32)
                · replace hf := (if_pos c44).symm.trans hf
                  refine g_tableIn (tgt := 142) (off := 117) dX9_count_25 (by rw [c44]; decide) (by rw [c44]; decide) (by rw [c44]; rfl) (by decide) ?_
                  refine g_aload_n 1 dX9_count_142 rfl rfl ?_
                  refine gf_950 dX9_count_143 rfl ob_187 rfl ?_
                  cases hf
                  exact g_iret dX9_count_146 .int rfl rfl
                · replace hf := (if_neg c44).symm.trans hf
                  by_cases c45 : a1 = (6 : Int32)
                  · replace hf := (if_pos c45).symm.trans hf
                    refine g_tableIn (tgt := 147) (off := 122) dX9_count_25 (by rw [c45]; decide) (by rw [c45]; decide) (by rw [c45]; rfl) (by decide) ?_
                    refine g_aload_n 1 dX9_count_147 rfl rfl ?_
                    refine gf_937 dX9_count_148 rfl ob_187 rfl ?_
                    cases hf
                    exact g_iret dX9_count_151 .int rfl rfl
                  · replace hf := (if_neg c45).symm.trans hf
                    have hsw := sw_out (lo := 0) (hi := 6) (x := a1) (fun z z1 z2 => by
                        have zz : z = 0 ∨ z = 1 ∨ z = 2 ∨ z = 3 ∨ z = 4 ∨ z = 5 ∨ z = 6 := by omega
                        rcases zz with rfl | rfl | rfl | rfl | rfl | rfl | rfl <;> assumption)
                    refine g_tableOut (tgt := 152) dX9_count_25 hsw (by decide) ?_
                    refine g_bipush (v := -9) dX9_count_152 rfl ?_
                    cases hf
                    exact g_iret dX9_count_154 .int rfl rfl
    · replace hf := (if_neg c48).symm.trans hf
      refine g_aload_n 0 dX9_count_12 rfl rfl ?_
      refine gf_929 dX9_count_13 rfl ob_187 rfl ?_
      refine g_iload_n 1 dX9_count_16 rfl rfl ?_
      refine g_bipush (v := 10) dX9_count_17 rfl ?_
      refine g_isub dX9_count_19 ?_
      obtain ⟨v46, e47, hf⟩ := bnd_some hf
      refine p_iald dX9_count_20 at_188 e47 ?_
      cases hf
      exact g_iret dX9_count_21 .int rfl rfl

