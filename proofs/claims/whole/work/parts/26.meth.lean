/-! printed by wip/whole/gen_meth.py: plain functions of the methods, and that the bytecode does as they say -/
abbrev k_X9_reads : kX := (cX9_reads, "WhoseHourItIsModel", "reads", some .int, 5, 3)
def f_X9_reads_L7 : Nat → Int32 → mM → Option ((Int32 × mM) ⊕ (Int32 × mM))
  | 0, _, _ => none
  | n + 1, b1, m =>
      bnd (f_X9_readsStatement m) fun q3 =>
      if q3.1 = 0 then (
      some (.inl (((-1000 : Int32) - (q3.2 187 9)), q3.2)))
      else (
      if (q3.2 187 9) < (q3.2 187 8) then (
      f_X9_reads_L7 n (b1 + (1 : Int32)) q3.2)
      else (
      some (.inr ((b1 + (1 : Int32)), q3.2))))
def f_X9_reads_L53 (b1 : Int32) : Nat → mM → Option ((Int32 × mM) ⊕ (mM))
  | 0, _ => none
  | n + 1, m =>
      if (m 187 8) ≤ (m 187 9) then (
      some (.inr m))
      else (
      bnd (f_X9_sign m) fun q14 =>
      bnd (f_X9_readsStatement m) fun q16 =>
      bnd (f_X9_comes q14 q16.2) fun q18 =>
      if q18.1 = 0 then (
      some (.inl (((-2000 : Int32) - (m 187 9)), q18.2)))
      else (
      f_X9_reads_L53 b1 n q18.2))
def f_X9_reads  (m : mM) : Option (Int32 × mM) :=
bnd (some (m_up m 187 9 (0 : Int32))) fun m1 =>
bnd (f_X9_reads_L7 fU (0 : Int32) m1) fun o7 =>
ora o7 (fun zq => some zq) fun x8 =>
bnd (f_X9_copies_189_191 x8.2) fun q10 =>
bnd (some (m_up q10 187 9 (0 : Int32))) fun m12 =>
bnd (f_X9_reads_L53 x8.1 fU m12) fun o22 =>
ora o22 (fun zq => some zq) fun x23 =>
bnd (f_X9_copies_191_189 x23) fun q25 =>
some (x8.1, q25)
set_option maxRecDepth 100000 in
theorem t_X9_reads_L7 {V : eV} {r : Option Value} {h' : aH} : ∀ (n : Nat) (b1 : Int32) (m : mM) (o : (Int32 × mM) ⊕ (Int32 × mM)), f_X9_reads_L7 n b1 m = some o → lxI hS o r h' (fun x => gG V k_X9_reads 37 [(0, .ref (vB V + 187)), (1, .int x.1)] [] (hS x.2) r h') → gG V k_X9_reads 7 [(0, .ref (vB V + 187)), (1, .int b1)] [] (hS m) r h' := by
  intro n
  induction n with
  | zero => intro b1 m o hf; cases hf
  | succ n ih =>
    intro b1 m o hf hk
    rw [f_X9_reads_L7] at hf
    refine g_aload_n 0 dX9_reads_7 rfl rfl ?_
    obtain ⟨q3, e4, hf⟩ := bnd_some hf
    refine p_callV (As := []) (rest := []) (t_X9_readsStatement e4) cw_1013 w_1015 w_24 ob_187 rfl (Nat.le_of_ble_eq_true rfl) rfl rfl (Nat.le_of_ble_eq_true rfl) dX9_reads_8 ?_
    refine g_if_ne (tgt := 23) dX9_reads_11 (by decide) (fun c6 => ?_) (fun c6 => ?_)
    · replace hf := (if_neg c6).symm.trans hf
      refine g_iinc (q := 1) (v := (b1 + (1 : Int32))) dX9_reads_23 rfl rfl (Nat.le_of_ble_eq_true rfl) rfl ?_
      refine g_aload_n 1 dX9_reads_26 rfl rfl ?_
      refine gf_938 dX9_reads_27 rfl ob_187 rfl ?_
      refine g_aload_n 1 dX9_reads_30 rfl rfl ?_
      refine gf_937 dX9_reads_31 rfl ob_187 rfl ?_
      refine g_icmp_lt (tgt := 7) dX9_reads_34 (by decide) (fun c5 => ?_) (fun c5 => ?_)
      · replace hf := (if_pos c5).symm.trans hf
        refine g_sub [1, 0] rfl ?_
        exact ih (b1 + (1 : Int32)) q3.2 _ hf hk
      · replace hf := (if_neg c5).symm.trans hf
        cases hf
        refine g_sub [1, 0] rfl ?_
        exact hk
    · replace hf := (if_pos c6).symm.trans hf
      refine g_sipush (v := -1000) dX9_reads_14 rfl ?_
      refine g_aload_n 0 dX9_reads_17 rfl rfl ?_
      refine gf_938 dX9_reads_18 rfl ob_187 rfl ?_
      refine g_isub dX9_reads_21 ?_
      cases hf
      obtain ⟨rfl, rfl⟩ := hk
      exact g_iret dX9_reads_22 .int rfl rfl

set_option maxRecDepth 100000 in
theorem t_X9_reads_L53 {V : eV} (b1 : Int32) {r : Option Value} {h' : aH} : ∀ (n : Nat) (m : mM) (o : (Int32 × mM) ⊕ (mM)), f_X9_reads_L53 b1 n m = some o → lxI hS o r h' (fun x => gG V k_X9_reads 97 [(0, .ref (vB V + 187)), (1, .int b1)] [] (hS x) r h') → gG V k_X9_reads 53 [(0, .ref (vB V + 187)), (1, .int b1)] [] (hS m) r h' := by
  intro n
  induction n with
  | zero => intro m o hf; cases hf
  | succ n ih =>
    intro m o hf hk
    rw [f_X9_reads_L53] at hf
    refine g_aload_n 0 dX9_reads_53 rfl rfl ?_
    refine gf_938 dX9_reads_54 rfl ob_187 rfl ?_
    refine g_aload_n 0 dX9_reads_57 rfl rfl ?_
    refine gf_937 dX9_reads_58 rfl ob_187 rfl ?_
    refine g_icmp_ge (tgt := 97) dX9_reads_61 (by decide) (fun c21 => ?_) (fun c21 => ?_)
    · replace hf := (if_pos c21).symm.trans hf
      cases hf
      refine g_sub [0, 1] rfl ?_
      exact hk
    · replace hf := (if_neg c21).symm.trans hf
      refine g_aload_n 0 dX9_reads_64 rfl rfl ?_
      refine gf_938 dX9_reads_65 rfl ob_187 rfl ?_
      refine g_istore_n dX9_reads_68 rfl (Nat.le_of_ble_eq_true rfl) rfl ?_
      refine g_aload_n 1 dX9_reads_69 rfl rfl ?_
      obtain ⟨q14, e15, hf⟩ := bnd_some hf
      refine p_callV (As := []) (rest := []) (t_X9_sign e15) cw_1017 w_1019 w_25 ob_187 rfl (Nat.le_of_ble_eq_true rfl) rfl rfl (Nat.le_of_ble_eq_true rfl) dX9_reads_70 ?_
      refine g_istore_n dX9_reads_73 rfl (Nat.le_of_ble_eq_true rfl) rfl ?_
      refine g_aload_n 2 dX9_reads_74 rfl rfl ?_
      obtain ⟨q16, e17, hf⟩ := bnd_some hf
      refine p_callV (As := []) (rest := []) (t_X9_readsStatement e17) cw_1013 w_1015 w_24 ob_187 rfl (Nat.le_of_ble_eq_true rfl) rfl rfl (Nat.le_of_ble_eq_true rfl) dX9_reads_75 ?_
      refine g_istore dX9_reads_78 (Nat.le_of_ble_eq_true rfl) rfl ?_
      refine g_aload_n 3 dX9_reads_80 rfl rfl ?_
      refine g_iload_n 1 dX9_reads_81 rfl rfl ?_
      obtain ⟨q18, e19, hf⟩ := bnd_some hf
      refine p_callV (As := [.int q14]) (rest := []) (t_X9_comes e19) cw_1035 w_1037 w_28 ob_187 rfl (Nat.le_of_ble_eq_true rfl) rfl rfl (Nat.le_of_ble_eq_true rfl) dX9_reads_82 ?_
      refine g_if_ne (tgt := 94) dX9_reads_85 (by decide) (fun c20 => ?_) (fun c20 => ?_)
      · replace hf := (if_neg c20).symm.trans hf
        refine g_goto (tgt := 53) dX9_reads_94 (by decide) ?_
        refine g_sub [3, 4] rfl ?_
        exact ih q18.2 _ hf hk
      · replace hf := (if_pos c20).symm.trans hf
        refine g_sipush (v := -2000) dX9_reads_88 rfl ?_
        refine g_iload_n 2 dX9_reads_91 rfl rfl ?_
        refine g_isub dX9_reads_92 ?_
        cases hf
        obtain ⟨rfl, rfl⟩ := hk
        exact g_iret dX9_reads_93 .int rfl rfl

set_option maxRecDepth 100000 in
theorem t_X9_reads {V : eV}  {m : mM} {q : Int32 × mM} (hf : f_X9_reads  m = some q) : eE V 3 yX9_reads cX9_reads 5 (some .int) [.ref (vB V + 187)] (hS m) (some (.int q.1)) (hS q.2) := by
  refine eE_of (by decide) (Nat.le_of_ble_eq_true rfl) ?_
  show gG V k_X9_reads 0 [(0, .ref (vB V + 187))] [] (hS m) _ _
  unfold f_X9_reads at hf
  refine g_aload_n 0 dX9_reads_0 rfl rfl ?_
  refine g_iconst (v := 0) dX9_reads_1 rfl ?_
  obtain ⟨m1, e2, hf⟩ := bnd_some hf
  cases e2
  refine pf_938 dX9_reads_2 rfl ob_187 rfl ?_
  generalize m_up m 187 9 (0 : Int32) = m1 at hf ⊢
  refine g_iconst (v := 0) dX9_reads_5 rfl ?_
  refine g_istore_n dX9_reads_6 rfl (Nat.le_of_ble_eq_true rfl) rfl ?_
  refine g_sub [1, 0] rfl ?_
  obtain ⟨o7, e9, hf⟩ := bnd_some hf
  refine t_X9_reads_L7 (V := V) fU (0 : Int32) m1 _ e9 ?_
  rcases o7 with zq | x8
  · replace hf := ora_l hf
    cases hf
    exact ⟨rfl, rfl⟩
  · replace hf := ora_r hf
    show gG V _ _ _ _ _ _ _
    refine g_aload_n 0 dX9_reads_37 rfl rfl ?_
    refine gf_930 dX9_reads_38 rfl ob_187 rfl ?_
    refine g_aload_n 0 dX9_reads_41 rfl rfl ?_
    refine gf_932 dX9_reads_42 rfl ob_187 rfl ?_
    obtain ⟨q10, e11, hf⟩ := bnd_some hf
    refine p_callSv (As := [.ref (vB V + 189), .ref (vB V + 191)]) (rest := []) (t_X9_copies_189_191 e11) cw_1032 w_1033 (Nat.le_of_ble_eq_true rfl) rfl rfl (Nat.le_of_ble_eq_true rfl) dX9_reads_45 ?_
    refine g_aload_n 0 dX9_reads_48 rfl rfl ?_
    refine g_iconst (v := 0) dX9_reads_49 rfl ?_
    obtain ⟨m12, e13, hf⟩ := bnd_some hf
    cases e13
    refine pf_938 dX9_reads_50 rfl ob_187 rfl ?_
    generalize m_up q10 187 9 (0 : Int32) = m12 at hf ⊢
    refine g_sub [0, 1] rfl ?_
    obtain ⟨o22, e24, hf⟩ := bnd_some hf
    refine t_X9_reads_L53 (V := V) x8.1 fU m12 _ e24 ?_
    rcases o22 with zq | x23
    · replace hf := ora_l hf
      cases hf
      exact ⟨rfl, rfl⟩
    · replace hf := ora_r hf
      show gG V _ _ _ _ _ _ _
      refine g_aload_n 0 dX9_reads_97 rfl rfl ?_
      refine gf_932 dX9_reads_98 rfl ob_187 rfl ?_
      refine g_aload_n 0 dX9_reads_101 rfl rfl ?_
      refine gf_930 dX9_reads_102 rfl ob_187 rfl ?_
      obtain ⟨q25, e26, hf⟩ := bnd_some hf
      refine p_callSv (As := [.ref (vB V + 191), .ref (vB V + 189)]) (rest := []) (t_X9_copies_191_189 e26) cw_1032 w_1033 (Nat.le_of_ble_eq_true rfl) rfl rfl (Nat.le_of_ble_eq_true rfl) dX9_reads_105 ?_
      refine g_iload_n 1 dX9_reads_108 rfl rfl ?_
      cases hf
      exact g_iret dX9_reads_109 .int rfl rfl

abbrev k_X9_town : kX := (cX9_town, "WhoseHourItIsModel", "town", some .int, 2, 4)
def f_X9_town  (m : mM) : Option (Int32 × mM) :=
bnd (f_X9_reads m) fun q1 =>
bnd (some (m_up q1.2 187 8 (0 : Int32))) fun m3 =>
some (q1.1, m3)
set_option maxRecDepth 100000 in
theorem t_X9_town {V : eV}  {m : mM} {q : Int32 × mM} (hf : f_X9_town  m = some q) : eE V 4 yX9_town cX9_town 2 (some .int) [.ref (vB V + 187)] (hS m) (some (.int q.1)) (hS q.2) := by
  refine eE_of (by decide) (Nat.le_of_ble_eq_true rfl) ?_
  show gG V k_X9_town 0 [(0, .ref (vB V + 187))] [] (hS m) _ _
  unfold f_X9_town at hf
  refine g_aload_n 0 dX9_town_0 rfl rfl ?_
  obtain ⟨q1, e2, hf⟩ := bnd_some hf
  refine p_callV (As := []) (rest := []) (t_X9_reads e2) cw_1009 w_1011 w_23 ob_187 rfl (Nat.le_of_ble_eq_true rfl) rfl rfl (Nat.le_of_ble_eq_true rfl) dX9_town_1 ?_
  refine g_istore_n dX9_town_4 rfl (Nat.le_of_ble_eq_true rfl) rfl ?_
  refine g_aload_n 1 dX9_town_5 rfl rfl ?_
  refine g_iconst (v := 0) dX9_town_6 rfl ?_
  obtain ⟨m3, e4, hf⟩ := bnd_some hf
  cases e4
  refine pf_937 dX9_town_7 rfl ob_187 rfl ?_
  generalize m_up q1.2 187 8 (0 : Int32) = m3 at hf ⊢
  refine g_iload_n 0 dX9_town_10 rfl rfl ?_
  cases hf
  exact g_iret dX9_town_11 .int rfl rfl

abbrev k_X9_isIn : kX := (cX9_isIn, "WhoseHourItIsModel", "isIn", some .boolean, 2, 0)
def f_X9_isIn (a0 : Int32) (a1 : Int32) (m : mM) : Option (Int32) :=
if a0 < 0 then (
some (0 : Int32))
else (
if a1 ≤ a0 then (
some (0 : Int32))
else (
some (1 : Int32)))
set_option maxRecDepth 100000 in
theorem t_X9_isIn {V : eV} {a0 : Int32} {a1 : Int32}  {m : mM} {q : Int32} (hf : f_X9_isIn a0 a1 m = some q) : eE V 0 yX9_isIn cX9_isIn 2 (some .boolean) [.int a0, .int a1] (hS m) (some (.int q)) (hS m) := by
  refine eE_of (by decide) (Nat.le_of_ble_eq_true rfl) ?_
  show gG V k_X9_isIn 0 [(0, .int a0), (1, .int a1)] [] (hS m) _ _
  unfold f_X9_isIn at hf
  refine g_iload_n 0 dX9_isIn_0 rfl rfl ?_
  refine g_if_lt (tgt := 13) dX9_isIn_1 (by decide) (fun c2 => ?_) (fun c2 => ?_)
  · replace hf := (if_pos c2).symm.trans hf
    refine g_iconst (v := 0) dX9_isIn_13 rfl ?_
    cases hf
    exact g_iret dX9_isIn_14 .boolean rfl rfl
  · replace hf := (if_neg c2).symm.trans hf
    refine g_iload_n 0 dX9_isIn_4 rfl rfl ?_
    refine g_iload_n 1 dX9_isIn_5 rfl rfl ?_
    refine g_icmp_ge (tgt := 13) dX9_isIn_6 (by decide) (fun c1 => ?_) (fun c1 => ?_)
    · replace hf := (if_pos c1).symm.trans hf
      refine g_iconst (v := 0) dX9_isIn_13 rfl ?_
      cases hf
      exact g_iret dX9_isIn_14 .boolean rfl rfl
    · replace hf := (if_neg c1).symm.trans hf
      refine g_iconst (v := 1) dX9_isIn_9 rfl ?_
      refine g_goto (tgt := 14) dX9_isIn_10 (by decide) ?_
      cases hf
      exact g_iret dX9_isIn_14 .boolean rfl rfl

abbrev k_X9_isHolder : kX := (cX9_isHolder, "WhoseHourItIsModel", "isHolder", some .boolean, 2, 1)
def f_X9_isHolder (a1 : Int32) (m : mM) : Option (Int32) :=
bnd (rdA 189 189 (0 : Int32) m) fun v1 =>
bnd (f_X9_isIn a1 v1 m) fun q3 =>
bnd (nzB q3) fun v5 =>
some v5
set_option maxRecDepth 100000 in
theorem t_X9_isHolder {V : eV} {a1 : Int32}  {m : mM} {q : Int32} (hf : f_X9_isHolder a1 m = some q) : eE V 1 yX9_isHolder cX9_isHolder 2 (some .boolean) [.ref (vB V + 187), .int a1] (hS m) (some (.int q)) (hS m) := by
  refine eE_of (by decide) (Nat.le_of_ble_eq_true rfl) ?_
  show gG V k_X9_isHolder 0 [(0, .ref (vB V + 187)), (1, .int a1)] [] (hS m) _ _
  unfold f_X9_isHolder at hf
  refine g_iload_n 1 dX9_isHolder_0 rfl rfl ?_
  refine g_aload_n 0 dX9_isHolder_1 rfl rfl ?_
  refine gf_930 dX9_isHolder_2 rfl ob_187 rfl ?_
  refine g_iconst (v := 0) dX9_isHolder_5 rfl ?_
  obtain ⟨v1, e2, hf⟩ := bnd_some hf
  refine p_iald dX9_isHolder_6 at_189 e2 ?_
  obtain ⟨q3, e4, hf⟩ := bnd_some hf
  refine p_callS (As := [.int a1, .int v1]) (rest := []) (t_X9_isIn e4) cw_1057 w_1058 (Nat.le_of_ble_eq_true rfl) rfl rfl (Nat.le_of_ble_eq_true rfl) dX9_isHolder_7 ?_
  obtain ⟨v5, e6, hf⟩ := bnd_some hf
  obtain ⟨hn, rfl⟩ := nzB_n e6
  cases hf
  exact g_iret dX9_isHolder_10 .boolean rfl hn

abbrev k_X9_get : kX := (cX9_get, "WhoseHourItIsModel", "get", some .int, 3, 0)
def f_X9_get (a1 : Int32) (a2 : Int32) (m : mM) : Option (Int32) :=
bnd (rdA 189 189 (((121 : Int32) + ((4 : Int32) * a1)) + a2) m) fun v1 =>
some v1
set_option maxRecDepth 100000 in
theorem t_X9_get {V : eV} {a1 : Int32} {a2 : Int32}  {m : mM} {q : Int32} (hf : f_X9_get a1 a2 m = some q) : eE V 0 yX9_get cX9_get 3 (some .int) [.ref (vB V + 187), .int a1, .int a2] (hS m) (some (.int q)) (hS m) := by
  refine eE_of (by decide) (Nat.le_of_ble_eq_true rfl) ?_
  show gG V k_X9_get 0 [(0, .ref (vB V + 187)), (1, .int a1), (2, .int a2)] [] (hS m) _ _
  unfold f_X9_get at hf
  refine g_aload_n 0 dX9_get_0 rfl rfl ?_
  refine gf_930 dX9_get_1 rfl ob_187 rfl ?_
  refine g_bipush (v := 121) dX9_get_4 rfl ?_
  refine g_iconst (v := 4) dX9_get_6 rfl ?_
  refine g_iload_n 1 dX9_get_7 rfl rfl ?_
  refine g_imul dX9_get_8 ?_
  refine g_iadd dX9_get_9 ?_
  refine g_iload_n 2 dX9_get_10 rfl rfl ?_
  refine g_iadd dX9_get_11 ?_
  obtain ⟨v1, e2, hf⟩ := bnd_some hf
  refine p_iald dX9_get_12 at_189 e2 ?_
  cases hf
  exact g_iret dX9_get_13 .int rfl rfl

abbrev k_X9_hasPart_189 : kX := (cX9_hasPart, "WhoseHourItIsModel", "hasPart", some .boolean, 5, 0)
def f_X9_hasPart_189_L10 (b2 : Int32) (b3 : Int32) (m : mM) : Nat → Int32 → Option ((Int32) ⊕ (Unit))
  | 0, _ => none
  | n + 1, b4 =>
      bnd (rdA 189 189 b3 m) fun v1 =>
      if v1 ≤ b4 then (
      some (.inr ()))
      else (
      bnd (rdA 189 189 ((b3 + (1 : Int32)) + b4) m) fun v3 =>
      if v3 = b2 then (
      some (.inl (1 : Int32)))
      else (
      f_X9_hasPart_189_L10 b2 b3 m n (b4 + (1 : Int32))))
def f_X9_hasPart_189 (a1 : Int32) (a2 : Int32) (m : mM) : Option (Int32) :=
bnd (f_X9_hasPart_189_L10 a2 ((9 : Int32) + ((4 : Int32) * a1)) m fU (0 : Int32)) fun o7 =>
ora o7 (fun zq => some zq) fun x8 =>
some (0 : Int32)
set_option maxRecDepth 100000 in
theorem t_X9_hasPart_189_L10 {V : eV} (b2 : Int32) (b3 : Int32) (m : mM) {r : Option Value} {h' : aH} : ∀ (n : Nat) (b4 : Int32) (o : (Int32) ⊕ (Unit)), f_X9_hasPart_189_L10 b2 b3 m n b4 = some o → lxP (hS m) o r h' (fun x => gG V k_X9_hasPart_189 38 [] [] (hS m) r h') → gG V k_X9_hasPart_189 10 [(0, .ref (vB V + 189)), (2, .int b2), (3, .int b3), (4, .int b4)] [] (hS m) r h' := by
  intro n
  induction n with
  | zero => intro b4 o hf; cases hf
  | succ n ih =>
    intro b4 o hf hk
    rw [f_X9_hasPart_189_L10] at hf
    refine g_iload 3 dX9_hasPart_10 rfl ?_
    refine g_aload_n 0 dX9_hasPart_12 rfl rfl ?_
    refine g_iload_n 2 dX9_hasPart_13 rfl rfl ?_
    obtain ⟨v1, e2, hf⟩ := bnd_some hf
    refine p_iald dX9_hasPart_14 at_189 e2 ?_
    refine g_icmp_ge (tgt := 38) dX9_hasPart_15 (by decide) (fun c6 => ?_) (fun c6 => ?_)
    · replace hf := (if_pos c6).symm.trans hf
      cases hf
      refine g_sub [] rfl ?_
      exact hk
    · replace hf := (if_neg c6).symm.trans hf
      refine g_aload_n 0 dX9_hasPart_18 rfl rfl ?_
      refine g_iload_n 2 dX9_hasPart_19 rfl rfl ?_
      refine g_iconst (v := 1) dX9_hasPart_20 rfl ?_
      refine g_iadd dX9_hasPart_21 ?_
      refine g_iload 3 dX9_hasPart_22 rfl ?_
      refine g_iadd dX9_hasPart_24 ?_
      obtain ⟨v3, e4, hf⟩ := bnd_some hf
      refine p_iald dX9_hasPart_25 at_189 e4 ?_
      refine g_iload_n 1 dX9_hasPart_26 rfl rfl ?_
      refine g_icmp_ne (tgt := 32) dX9_hasPart_27 (by decide) (fun c5 => ?_) (fun c5 => ?_)
      · replace hf := (if_neg c5).symm.trans hf
        refine g_iinc (q := 3) (v := (b4 + (1 : Int32))) dX9_hasPart_32 rfl rfl (Nat.le_of_ble_eq_true rfl) rfl ?_
        refine g_goto (tgt := 10) dX9_hasPart_35 (by decide) ?_
        refine g_sub [1, 2, 3, 0] rfl ?_
        exact ih (b4 + (1 : Int32)) _ hf hk
      · replace hf := (if_pos c5).symm.trans hf
        refine g_iconst (v := 1) dX9_hasPart_30 rfl ?_
        cases hf
        obtain ⟨rfl, rfl⟩ := hk
        exact g_iret dX9_hasPart_31 .boolean rfl rfl

set_option maxRecDepth 100000 in
theorem t_X9_hasPart_189 {V : eV} {a1 : Int32} {a2 : Int32}  {m : mM} {q : Int32} (hf : f_X9_hasPart_189 a1 a2 m = some q) : eE V 0 yX9_hasPart cX9_hasPart 5 (some .boolean) [.ref (vB V + 189), .int a1, .int a2] (hS m) (some (.int q)) (hS m) := by
  refine eE_of (by decide) (Nat.le_of_ble_eq_true rfl) ?_
  show gG V k_X9_hasPart_189 0 [(0, .ref (vB V + 189)), (1, .int a1), (2, .int a2)] [] (hS m) _ _
  unfold f_X9_hasPart_189 at hf
  refine g_bipush (v := 9) dX9_hasPart_0 rfl ?_
  refine g_iconst (v := 4) dX9_hasPart_2 rfl ?_
  refine g_iload_n 1 dX9_hasPart_3 rfl rfl ?_
  refine g_imul dX9_hasPart_4 ?_
  refine g_iadd dX9_hasPart_5 ?_
  refine g_istore_n dX9_hasPart_6 rfl (Nat.le_of_ble_eq_true rfl) rfl ?_
  refine g_iconst (v := 0) dX9_hasPart_7 rfl ?_
  refine g_istore dX9_hasPart_8 (Nat.le_of_ble_eq_true rfl) rfl ?_
  refine g_sub [2, 4, 1, 0] rfl ?_
  obtain ⟨o7, e9, hf⟩ := bnd_some hf
  refine t_X9_hasPart_189_L10 (V := V) a2 ((9 : Int32) + ((4 : Int32) * a1)) m fU (0 : Int32) _ e9 ?_
  rcases o7 with zq | x8
  · replace hf := ora_l hf
    cases hf
    exact ⟨rfl, rfl⟩
  · replace hf := ora_r hf
    show gG V _ _ _ _ _ _ _
    refine g_iconst (v := 0) dX9_hasPart_38 rfl ?_
    cases hf
    exact g_iret dX9_hasPart_39 .boolean rfl rfl

abbrev k_X9_of : kX := (cX9_of, "WhoseHourItIsModel", "of", some .int, 3, 0)
def f_X9_of (a1 : Int32) (a2 : Int32) (m : mM) : Option (Int32) :=
bnd (rdA 189 189 (((153 : Int32) + ((6 : Int32) * a1)) + a2) m) fun v1 =>
some v1
set_option maxRecDepth 100000 in
theorem t_X9_of {V : eV} {a1 : Int32} {a2 : Int32}  {m : mM} {q : Int32} (hf : f_X9_of a1 a2 m = some q) : eE V 0 yX9_of cX9_of 3 (some .int) [.ref (vB V + 187), .int a1, .int a2] (hS m) (some (.int q)) (hS m) := by
  refine eE_of (by decide) (Nat.le_of_ble_eq_true rfl) ?_
  show gG V k_X9_of 0 [(0, .ref (vB V + 187)), (1, .int a1), (2, .int a2)] [] (hS m) _ _
  unfold f_X9_of at hf
  refine g_aload_n 0 dX9_of_0 rfl rfl ?_
  refine gf_930 dX9_of_1 rfl ob_187 rfl ?_
  refine g_sipush (v := 153) dX9_of_4 rfl ?_
  refine g_bipush (v := 6) dX9_of_7 rfl ?_
  refine g_iload_n 1 dX9_of_9 rfl rfl ?_
  refine g_imul dX9_of_10 ?_
  refine g_iadd dX9_of_11 ?_
  refine g_iload_n 2 dX9_of_12 rfl rfl ?_
  refine g_iadd dX9_of_13 ?_
  obtain ⟨v1, e2, hf⟩ := bnd_some hf
  refine p_iald dX9_of_14 at_189 e2 ?_
  cases hf
  exact g_iret dX9_of_15 .int rfl rfl

abbrev k_X9_hasThatDay : kX := (cX9_hasThatDay, "WhoseHourItIsModel", "hasThatDay", some .boolean, 4, 1)
def f_X9_hasThatDay_L6 (b1 : Int32) (b2 : Int32) (m : mM) : Nat → Int32 → Option ((Int32) ⊕ (Unit))
  | 0, _ => none
  | n + 1, b3 =>
      if (((b2 / (4 : Int32)) * (4 : Int32)) + (4 : Int32)) ≤ b3 then (
      some (.inr ()))
      else (
      bnd (f_X9_hasPart_189 b3 b1 m) fun q1 =>
      if q1 = 0 then (
      f_X9_hasThatDay_L6 b1 b2 m n (b3 + (1 : Int32)))
      else (
      some (.inl (1 : Int32))))
def f_X9_hasThatDay (a1 : Int32) (a2 : Int32) (m : mM) : Option (Int32) :=
bnd (f_X9_hasThatDay_L6 a1 a2 m fU ((a2 / (4 : Int32)) * (4 : Int32))) fun o5 =>
ora o5 (fun zq => some zq) fun x6 =>
some (0 : Int32)
set_option maxRecDepth 100000 in
theorem t_X9_hasThatDay_L6 {V : eV} (b1 : Int32) (b2 : Int32) (m : mM) {r : Option Value} {h' : aH} : ∀ (n : Nat) (b3 : Int32) (o : (Int32) ⊕ (Unit)), f_X9_hasThatDay_L6 b1 b2 m n b3 = some o → lxP (hS m) o r h' (fun x => gG V k_X9_hasThatDay 37 [] [] (hS m) r h') → gG V k_X9_hasThatDay 6 [(0, .ref (vB V + 187)), (1, .int b1), (2, .int b2), (3, .int b3)] [] (hS m) r h' := by
  intro n
  induction n with
  | zero => intro b3 o hf; cases hf
  | succ n ih =>
    intro b3 o hf hk
    rw [f_X9_hasThatDay_L6] at hf
    refine g_iload_n 3 dX9_hasThatDay_6 rfl rfl ?_
    refine g_iload_n 2 dX9_hasThatDay_7 rfl rfl ?_
    refine g_iconst (v := 4) dX9_hasThatDay_8 rfl ?_
    refine g_idiv dX9_hasThatDay_9 (by decide) ?_
    refine g_iconst (v := 4) dX9_hasThatDay_10 rfl ?_
    refine g_imul dX9_hasThatDay_11 ?_
    refine g_iconst (v := 4) dX9_hasThatDay_12 rfl ?_
    refine g_iadd dX9_hasThatDay_13 ?_
    refine g_icmp_ge (tgt := 37) dX9_hasThatDay_14 (by decide) (fun c4 => ?_) (fun c4 => ?_)
    · replace hf := (if_pos c4).symm.trans hf
      cases hf
      refine g_sub [] rfl ?_
      exact hk
    · replace hf := (if_neg c4).symm.trans hf
      refine g_aload_n 0 dX9_hasThatDay_17 rfl rfl ?_
      refine gf_930 dX9_hasThatDay_18 rfl ob_187 rfl ?_
      refine g_iload_n 3 dX9_hasThatDay_21 rfl rfl ?_
      refine g_iload_n 1 dX9_hasThatDay_22 rfl rfl ?_
      obtain ⟨q1, e2, hf⟩ := bnd_some hf
      refine p_callS (As := [.ref (vB V + 189), .int b3, .int b1]) (rest := []) (t_X9_hasPart_189 e2) cw_1043 w_1044 (Nat.le_of_ble_eq_true rfl) rfl rfl (Nat.le_of_ble_eq_true rfl) dX9_hasThatDay_23 ?_
      refine g_if_eq (tgt := 31) dX9_hasThatDay_26 (by decide) (fun c3 => ?_) (fun c3 => ?_)
      · replace hf := (if_pos c3).symm.trans hf
        refine g_iinc (q := 3) (v := (b3 + (1 : Int32))) dX9_hasThatDay_31 rfl rfl (Nat.le_of_ble_eq_true rfl) rfl ?_
        refine g_goto (tgt := 6) dX9_hasThatDay_34 (by decide) ?_
        refine g_sub [1, 2, 3, 0] rfl ?_
        exact ih (b3 + (1 : Int32)) _ hf hk
      · replace hf := (if_neg c3).symm.trans hf
        refine g_iconst (v := 1) dX9_hasThatDay_29 rfl ?_
        cases hf
        obtain ⟨rfl, rfl⟩ := hk
        exact g_iret dX9_hasThatDay_30 .boolean rfl rfl

set_option maxRecDepth 100000 in
theorem t_X9_hasThatDay {V : eV} {a1 : Int32} {a2 : Int32}  {m : mM} {q : Int32} (hf : f_X9_hasThatDay a1 a2 m = some q) : eE V 1 yX9_hasThatDay cX9_hasThatDay 4 (some .boolean) [.ref (vB V + 187), .int a1, .int a2] (hS m) (some (.int q)) (hS m) := by
  refine eE_of (by decide) (Nat.le_of_ble_eq_true rfl) ?_
  show gG V k_X9_hasThatDay 0 [(0, .ref (vB V + 187)), (1, .int a1), (2, .int a2)] [] (hS m) _ _
  unfold f_X9_hasThatDay at hf
  refine g_iload_n 2 dX9_hasThatDay_0 rfl rfl ?_
  refine g_iconst (v := 4) dX9_hasThatDay_1 rfl ?_
  refine g_idiv dX9_hasThatDay_2 (by decide) ?_
  refine g_iconst (v := 4) dX9_hasThatDay_3 rfl ?_
  refine g_imul dX9_hasThatDay_4 ?_
  refine g_istore_n dX9_hasThatDay_5 rfl (Nat.le_of_ble_eq_true rfl) rfl ?_
  refine g_sub [1, 2, 3, 0] rfl ?_
  obtain ⟨o5, e7, hf⟩ := bnd_some hf
  refine t_X9_hasThatDay_L6 (V := V) a1 a2 m fU ((a2 / (4 : Int32)) * (4 : Int32)) _ e7 ?_
  rcases o5 with zq | x6
  · replace hf := ora_l hf
    cases hf
    exact ⟨rfl, rfl⟩
  · replace hf := ora_r hf
    show gG V _ _ _ _ _ _ _
    refine g_iconst (v := 0) dX9_hasThatDay_37 rfl ?_
    cases hf
    exact g_iret dX9_hasThatDay_38 .boolean rfl rfl

abbrev k_X9_partOf : kX := (cX9_partOf, "WhoseHourItIsModel", "partOf", some .int, 6, 2)
def f_X9_partOf_J39 (b1 : Int32) (b2 : Int32) (b3 : Int32) (b4 : Int32) (m : mM) : Option (Int32) :=
bnd (f_X9_get b2 (3 : Int32) m) fun q9 =>
if q9 = b4 then (
some (0 : Int32))
else (
if b2 = (m 187 10) then (
some (0 : Int32))
else (
bnd (rdA 189 189 (2 : Int32) m) fun v11 =>
if ((v11 >>> (b2 &&& 31)) &&& (1 : Int32)) = (1 : Int32) then (
some (-9 : Int32))
else (
bnd (f_X9_get b2 (1 : Int32) m) fun q13 =>
bnd (f_X9_get b2 (0 : Int32) m) fun q15 =>
if q15 = (1 : Int32) then (
bnd (f_X9_of b1 (2 : Int32) m) fun q18 =>
bnd (f_X9_of b1 (2 : Int32) m) fun q20 =>
bnd (dvI ((((2 : Int32) * q13) + q18) - (1 : Int32)) q20) fun v22 =>
some v22)
else (
if q15 = (2 : Int32) then (
bnd (f_X9_hasThatDay b4 b3 m) fun q25 =>
if q25 = 0 then (
some ((2 : Int32) * q13))
else (
some (0 : Int32)))
else (
if q15 = (3 : Int32) then (
bnd (rdA 189 189 ((9 : Int32) + ((4 : Int32) * b3)) m) fun v29 =>
some (q13 * v29))
else (
if q15 = (4 : Int32) then (
bnd (f_X9_of b1 (5 : Int32) m) fun q32 =>
bnd (f_X9_get b2 (2 : Int32) m) fun q34 =>
if q32 = q34 then (
some q13)
else (
some (-9 : Int32)))
else (
if q15 = (5 : Int32) then (
if (b3 - b3 / (4 : Int32) * (4 : Int32)) = (3 : Int32) then (
some (0 : Int32))
else (
some q13))
else (
if q15 = (6 : Int32) then (
some (-9 : Int32))
else (
some q13)))))))))
def f_X9_partOf (a1 : Int32) (a2 : Int32) (a3 : Int32) (m : mM) : Option (Int32) :=
bnd (f_X9_of a1 (0 : Int32) m) fun q1 =>
if a2 = q1 then (
some (0 : Int32))
else (
bnd (rdA 189 189 (3 : Int32) m) fun v3 =>
if a3 = v3 then (
bnd (f_X9_of a1 (5 : Int32) m) fun q5 =>
bnd (rdA 189 189 (4 : Int32) m) fun v7 =>
if q5 = v7 then (
some (0 : Int32))
else (
f_X9_partOf_J39 a1 a2 a3 q1 m))
else (
f_X9_partOf_J39 a1 a2 a3 q1 m))
set_option maxRecDepth 100000 in
theorem t_X9_partOf_J39 {V : eV} {b1 : Int32} {b2 : Int32} {b3 : Int32} {b4 : Int32} {m : mM} {q : Int32} (hf : f_X9_partOf_J39 b1 b2 b3 b4 m = some q) : gG V k_X9_partOf 39 [(0, .ref (vB V + 187)), (1, .int b1), (2, .int b2), (3, .int b3), (4, .int b4)] [] (hS m) (some (.int q)) (hS m) := by
  unfold f_X9_partOf_J39 at hf
  refine g_aload_n 0 dX9_partOf_39 rfl rfl ?_
  refine g_iload_n 2 dX9_partOf_40 rfl rfl ?_
  refine g_iconst (v := 3) dX9_partOf_41 rfl ?_
  obtain ⟨q9, e10, hf⟩ := bnd_some hf
  refine p_callV (As := [.int b2, .int (3 : Int32)]) (rest := []) (t_X9_get e10) cw_1060 w_1062 w_31 ob_187 rfl (Nat.le_of_ble_eq_true rfl) rfl rfl (Nat.le_of_ble_eq_true rfl) dX9_partOf_42 ?_
  refine g_iload 4 dX9_partOf_45 rfl ?_
  refine g_icmp_ne (tgt := 52) dX9_partOf_47 (by decide) (fun c42 => ?_) (fun c42 => ?_)
  · replace hf := (if_neg c42).symm.trans hf
    refine g_iload_n 2 dX9_partOf_52 rfl rfl ?_
    refine g_aload_n 0 dX9_partOf_53 rfl rfl ?_
    refine gf_939 dX9_partOf_54 rfl ob_187 rfl ?_
    refine g_icmp_ne (tgt := 62) dX9_partOf_57 (by decide) (fun c41 => ?_) (fun c41 => ?_)
    · replace hf := (if_neg c41).symm.trans hf
      refine g_aload_n 0 dX9_partOf_62 rfl rfl ?_
      refine gf_930 dX9_partOf_63 rfl ob_187 rfl ?_
      refine g_iconst (v := 2) dX9_partOf_66 rfl ?_
      obtain ⟨v11, e12, hf⟩ := bnd_some hf
      refine p_iald dX9_partOf_67 at_189 e12 ?_
      refine g_iload_n 2 dX9_partOf_68 rfl rfl ?_
      refine g_ishr dX9_partOf_69 ?_
      refine g_iconst (v := 1) dX9_partOf_70 rfl ?_
      refine g_iand dX9_partOf_71 ?_
      refine g_iconst (v := 1) dX9_partOf_72 rfl ?_
      refine g_icmp_ne (tgt := 79) dX9_partOf_73 (by decide) (fun c40 => ?_) (fun c40 => ?_)
      · replace hf := (if_neg c40).symm.trans hf
        refine g_aload_n 0 dX9_partOf_79 rfl rfl ?_
        refine g_iload_n 2 dX9_partOf_80 rfl rfl ?_
        refine g_iconst (v := 1) dX9_partOf_81 rfl ?_
        obtain ⟨q13, e14, hf⟩ := bnd_some hf
        refine p_callV (As := [.int b2, .int (1 : Int32)]) (rest := []) (t_X9_get e14) cw_1060 w_1062 w_31 ob_187 rfl (Nat.le_of_ble_eq_true rfl) rfl rfl (Nat.le_of_ble_eq_true rfl) dX9_partOf_82 ?_
        refine g_istore dX9_partOf_85 (Nat.le_of_ble_eq_true rfl) rfl ?_
        refine g_aload_n 1 dX9_partOf_87 rfl rfl ?_
        refine g_iload_n 3 dX9_partOf_88 rfl rfl ?_
        refine g_iconst (v := 0) dX9_partOf_89 rfl ?_
        obtain ⟨q15, e16, hf⟩ := bnd_some hf
        refine p_callV (As := [.int b2, .int (0 : Int32)]) (rest := []) (t_X9_get e16) cw_1060 w_1062 w_31 ob_187 rfl (Nat.le_of_ble_eq_true rfl) rfl rfl (Nat.le_of_ble_eq_true rfl) dX9_partOf_90 ?_
        by_cases c17 : q15 = (1 : Int32)
        · replace hf := (if_pos c17).symm.trans hf
          refine g_tableIn (tgt := 132) (off := 39) dX9_partOf_93 (by rw [c17]; decide) (by rw [c17]; decide) (by rw [c17]; rfl) (by decide) ?_
          refine g_iconst (v := 2) dX9_partOf_132 rfl ?_
          refine g_iload 0 dX9_partOf_133 rfl ?_
          refine g_imul dX9_partOf_135 ?_
          refine g_aload_n 1 dX9_partOf_136 rfl rfl ?_
          refine g_iload_n 2 dX9_partOf_137 rfl rfl ?_
          refine g_iconst (v := 2) dX9_partOf_138 rfl ?_
          obtain ⟨q18, e19, hf⟩ := bnd_some hf
          refine p_callV (As := [.int b1, .int (2 : Int32)]) (rest := [.int ((2 : Int32) * q13)]) (t_X9_of e19) cw_1072 w_1074 w_34 ob_187 rfl (Nat.le_of_ble_eq_true rfl) rfl rfl (Nat.le_of_ble_eq_true rfl) dX9_partOf_139 ?_
          refine g_iadd dX9_partOf_142 ?_
          refine g_iconst (v := 1) dX9_partOf_143 rfl ?_
          refine g_isub dX9_partOf_144 ?_
          refine g_aload_n 1 dX9_partOf_145 rfl rfl ?_
          refine g_iload_n 2 dX9_partOf_146 rfl rfl ?_
          refine g_iconst (v := 2) dX9_partOf_147 rfl ?_
          obtain ⟨q20, e21, hf⟩ := bnd_some hf
          refine p_callV (As := [.int b1, .int (2 : Int32)]) (rest := [.int ((((2 : Int32) * q13) + q18) - (1 : Int32))]) (t_X9_of e21) cw_1072 w_1074 w_34 ob_187 rfl (Nat.le_of_ble_eq_true rfl) rfl rfl (Nat.le_of_ble_eq_true rfl) dX9_partOf_148 ?_
          obtain ⟨v22, e23, hf⟩ := bnd_some hf
          refine p_idiv dX9_partOf_151 e23 ?_
          cases hf
          exact g_iret dX9_partOf_152 .int rfl rfl
        · replace hf := (if_neg c17).symm.trans hf
          by_cases c24 : q15 = (2 : Int32)
          · replace hf := (if_pos c24).symm.trans hf
            refine g_tableIn (tgt := 153) (off := 60) dX9_partOf_93 (by rw [c24]; decide) (by rw [c24]; decide) (by rw [c24]; rfl) (by decide) ?_
            refine g_aload_n 1 dX9_partOf_153 rfl rfl ?_
            refine g_iload 5 dX9_partOf_154 rfl ?_
            refine g_iload_n 4 dX9_partOf_156 rfl rfl ?_
            obtain ⟨q25, e26, hf⟩ := bnd_some hf
            refine p_callV (As := [.int b4, .int b3]) (rest := []) (t_X9_hasThatDay e26) cw_1100 w_1102 w_41 ob_187 rfl (Nat.le_of_ble_eq_true rfl) rfl rfl (Nat.le_of_ble_eq_true rfl) dX9_partOf_157 ?_
            refine g_if_eq (tgt := 167) dX9_partOf_160 (by decide) (fun c27 => ?_) (fun c27 => ?_)
            · replace hf := (if_pos c27).symm.trans hf
              refine g_iconst (v := 2) dX9_partOf_167 rfl ?_
              refine g_iload 0 dX9_partOf_168 rfl ?_
              refine g_imul dX9_partOf_170 ?_
              cases hf
              exact g_iret dX9_partOf_171 .int rfl rfl
            · replace hf := (if_neg c27).symm.trans hf
              refine g_iconst (v := 0) dX9_partOf_163 rfl ?_
              refine g_goto (tgt := 171) dX9_partOf_164 (by decide) ?_
              cases hf
              exact g_iret dX9_partOf_171 .int rfl rfl
          · replace hf := (if_neg c24).symm.trans hf
            by_cases c28 : q15 = (3 : Int32)
            · replace hf := (if_pos c28).symm.trans hf
              refine g_tableIn (tgt := 172) (off := 79) dX9_partOf_93 (by rw [c28]; decide) (by rw [c28]; decide) (by rw [c28]; rfl) (by decide) ?_
              refine g_iload 0 dX9_partOf_172 rfl ?_
              refine g_aload_n 1 dX9_partOf_174 rfl rfl ?_
              refine gf_930 dX9_partOf_175 rfl ob_187 rfl ?_
              refine g_bipush (v := 9) dX9_partOf_178 rfl ?_
              refine g_iconst (v := 4) dX9_partOf_180 rfl ?_
              refine g_iload_n 4 dX9_partOf_181 rfl rfl ?_
              refine g_imul dX9_partOf_182 ?_
              refine g_iadd dX9_partOf_183 ?_
              obtain ⟨v29, e30, hf⟩ := bnd_some hf
              refine p_iald dX9_partOf_184 at_189 e30 ?_
              refine g_imul dX9_partOf_185 ?_
              cases hf
              exact g_iret dX9_partOf_186 .int rfl rfl
            · replace hf := (if_neg c28).symm.trans hf
              by_cases c31 : q15 = (4 : Int32)
              · replace hf := (if_pos c31).symm.trans hf
                refine g_tableIn (tgt := 187) (off := 94) dX9_partOf_93 (by rw [c31]; decide) (by rw [c31]; decide) (by rw [c31]; rfl) (by decide) ?_
                refine g_aload_n 1 dX9_partOf_187 rfl rfl ?_
                refine g_iload_n 2 dX9_partOf_188 rfl rfl ?_
                refine g_iconst (v := 5) dX9_partOf_189 rfl ?_
                obtain ⟨q32, e33, hf⟩ := bnd_some hf
                refine p_callV (As := [.int b1, .int (5 : Int32)]) (rest := []) (t_X9_of e33) cw_1072 w_1074 w_34 ob_187 rfl (Nat.le_of_ble_eq_true rfl) rfl rfl (Nat.le_of_ble_eq_true rfl) dX9_partOf_190 ?_
                refine g_aload_n 1 dX9_partOf_193 rfl rfl ?_
                refine g_iload_n 3 dX9_partOf_194 rfl rfl ?_
                refine g_iconst (v := 2) dX9_partOf_195 rfl ?_
                obtain ⟨q34, e35, hf⟩ := bnd_some hf
                refine p_callV (As := [.int b2, .int (2 : Int32)]) (rest := [.int q32]) (t_X9_get e35) cw_1060 w_1062 w_31 ob_187 rfl (Nat.le_of_ble_eq_true rfl) rfl rfl (Nat.le_of_ble_eq_true rfl) dX9_partOf_196 ?_
                refine g_icmp_ne (tgt := 207) dX9_partOf_199 (by decide) (fun c36 => ?_) (fun c36 => ?_)
                · replace hf := (if_neg c36).symm.trans hf
                  refine g_bipush (v := -9) dX9_partOf_207 rfl ?_
                  cases hf
                  exact g_iret dX9_partOf_209 .int rfl rfl
                · replace hf := (if_pos c36).symm.trans hf
                  refine g_iload 0 dX9_partOf_202 rfl ?_
                  refine g_goto (tgt := 209) dX9_partOf_204 (by decide) ?_
                  cases hf
                  exact g_iret dX9_partOf_209 .int rfl rfl
              · replace hf := (if_neg c31).symm.trans hf
                by_cases c37 : q15 = (5 : Int32)
                · replace hf := (if_pos c37).symm.trans hf
                  refine g_tableIn (tgt := 210) (off := 117) dX9_partOf_93 (by rw [c37]; decide) (by rw [c37]; decide) (by rw [c37]; rfl) (by decide) ?_
                  refine g_iload_n 4 dX9_partOf_210 rfl rfl ?_
                  refine g_iconst (v := 4) dX9_partOf_211 rfl ?_
                  refine g_irem dX9_partOf_212 (by decide) ?_
                  refine g_iconst (v := 3) dX9_partOf_213 rfl ?_
                  refine g_icmp_ne (tgt := 221) dX9_partOf_214 (by decide) (fun c38 => ?_) (fun c38 => ?_)
                  · replace hf := (if_neg c38).symm.trans hf
                    refine g_iload 0 dX9_partOf_221 rfl ?_
                    cases hf
                    exact g_iret dX9_partOf_223 .int rfl rfl
                  · replace hf := (if_pos c38).symm.trans hf
                    refine g_iconst (v := 0) dX9_partOf_217 rfl ?_
                    refine g_goto (tgt := 223) dX9_partOf_218 (by decide) ?_
                    cases hf
                    exact g_iret dX9_partOf_223 .int rfl rfl
                · replace hf := (if_neg c37).symm.trans hf
                  by_cases c39 : q15 = (6 : Int32)
                  · replace hf := (if_pos c39).symm.trans hf
                    refine g_tableIn (tgt := 224) (off := 131) dX9_partOf_93 (by rw [c39]; decide) (by rw [c39]; decide) (by rw [c39]; rfl) (by decide) ?_
                    refine g_bipush (v := -9) dX9_partOf_224 rfl ?_
                    cases hf
                    exact g_iret dX9_partOf_226 .int rfl rfl
                  · replace hf := (if_neg c39).symm.trans hf
                    have hsw := sw_out (lo := 1) (hi := 6) (x := q15) (fun z z1 z2 => by
                        have zz : z = 1 ∨ z = 2 ∨ z = 3 ∨ z = 4 ∨ z = 5 ∨ z = 6 := by omega
                        rcases zz with rfl | rfl | rfl | rfl | rfl | rfl <;> assumption)
                    refine g_tableOut (tgt := 227) dX9_partOf_93 hsw (by decide) ?_
                    refine g_iload 0 dX9_partOf_227 rfl ?_
                    cases hf
                    exact g_iret dX9_partOf_229 .int rfl rfl
      · replace hf := (if_pos c40).symm.trans hf
        refine g_bipush (v := -9) dX9_partOf_76 rfl ?_
        cases hf
        exact g_iret dX9_partOf_78 .int rfl rfl
    · replace hf := (if_pos c41).symm.trans hf
      refine g_iconst (v := 0) dX9_partOf_60 rfl ?_
      cases hf
      exact g_iret dX9_partOf_61 .int rfl rfl
  · replace hf := (if_pos c42).symm.trans hf
    refine g_iconst (v := 0) dX9_partOf_50 rfl ?_
    cases hf
    exact g_iret dX9_partOf_51 .int rfl rfl

set_option maxRecDepth 100000 in
theorem t_X9_partOf {V : eV} {a1 : Int32} {a2 : Int32} {a3 : Int32}  {m : mM} {q : Int32} (hf : f_X9_partOf a1 a2 a3 m = some q) : eE V 2 yX9_partOf cX9_partOf 6 (some .int) [.ref (vB V + 187), .int a1, .int a2, .int a3] (hS m) (some (.int q)) (hS m) := by
  refine eE_of (by decide) (Nat.le_of_ble_eq_true rfl) ?_
  show gG V k_X9_partOf 0 [(0, .ref (vB V + 187)), (1, .int a1), (2, .int a2), (3, .int a3)] [] (hS m) _ _
  unfold f_X9_partOf at hf
  refine g_aload_n 0 dX9_partOf_0 rfl rfl ?_
  refine g_iload_n 1 dX9_partOf_1 rfl rfl ?_
  refine g_iconst (v := 0) dX9_partOf_2 rfl ?_
  obtain ⟨q1, e2, hf⟩ := bnd_some hf
  refine p_callV (As := [.int a1, .int (0 : Int32)]) (rest := []) (t_X9_of e2) cw_1072 w_1074 w_34 ob_187 rfl (Nat.le_of_ble_eq_true rfl) rfl rfl (Nat.le_of_ble_eq_true rfl) dX9_partOf_3 ?_
  refine g_istore dX9_partOf_6 (Nat.le_of_ble_eq_true rfl) rfl ?_
  refine g_iload_n 3 dX9_partOf_8 rfl rfl ?_
  refine g_iload 0 dX9_partOf_9 rfl ?_
  refine g_icmp_eq (tgt := 50) dX9_partOf_11 (by decide) (fun c45 => ?_) (fun c45 => ?_)
  · replace hf := (if_pos c45).symm.trans hf
    refine g_iconst (v := 0) dX9_partOf_50 rfl ?_
    cases hf
    exact g_iret dX9_partOf_51 .int rfl rfl
  · replace hf := (if_neg c45).symm.trans hf
    refine g_iload_n 4 dX9_partOf_14 rfl rfl ?_
    refine g_aload_n 1 dX9_partOf_15 rfl rfl ?_
    refine gf_930 dX9_partOf_16 rfl ob_187 rfl ?_
    refine g_iconst (v := 3) dX9_partOf_19 rfl ?_
    obtain ⟨v3, e4, hf⟩ := bnd_some hf
    refine p_iald dX9_partOf_20 at_189 e4 ?_
    refine g_icmp_ne (tgt := 39) dX9_partOf_21 (by decide) (fun c44 => ?_) (fun c44 => ?_)
    · replace hf := (if_neg c44).symm.trans hf
      refine g_sub [1, 2, 3, 4, 0] rfl ?_
      exact t_X9_partOf_J39 hf
    · replace hf := (if_pos c44).symm.trans hf
      refine g_aload_n 1 dX9_partOf_24 rfl rfl ?_
      refine g_iload_n 2 dX9_partOf_25 rfl rfl ?_
      refine g_iconst (v := 5) dX9_partOf_26 rfl ?_
      obtain ⟨q5, e6, hf⟩ := bnd_some hf
      refine p_callV (As := [.int a1, .int (5 : Int32)]) (rest := []) (t_X9_of e6) cw_1072 w_1074 w_34 ob_187 rfl (Nat.le_of_ble_eq_true rfl) rfl rfl (Nat.le_of_ble_eq_true rfl) dX9_partOf_27 ?_
      refine g_aload_n 1 dX9_partOf_30 rfl rfl ?_
      refine gf_930 dX9_partOf_31 rfl ob_187 rfl ?_
      refine g_iconst (v := 4) dX9_partOf_34 rfl ?_
      obtain ⟨v7, e8, hf⟩ := bnd_some hf
      refine p_iald dX9_partOf_35 at_189 e8 ?_
      refine g_icmp_eq (tgt := 50) dX9_partOf_36 (by decide) (fun c43 => ?_) (fun c43 => ?_)
      · replace hf := (if_pos c43).symm.trans hf
        refine g_iconst (v := 0) dX9_partOf_50 rfl ?_
        cases hf
        exact g_iret dX9_partOf_51 .int rfl rfl
      · replace hf := (if_neg c43).symm.trans hf
        refine g_sub [1, 2, 3, 4, 0] rfl ?_
        exact t_X9_partOf_J39 hf

abbrev k_X9_hourOf : kX := (cX9_hourOf, "WhoseHourItIsModel", "hourOf", some .int, 6, 3)
def f_X9_hourOf_L5 (b1 : Int32) (b2 : Int32) (m : mM) : Nat → Int32 → Int32 → Option ((Int32) ⊕ (Int32))
  | 0, _, _ => none
  | n + 1, b3, b4 =>
      bnd (rdA 189 189 ((9 : Int32) + ((4 : Int32) * b2)) m) fun v1 =>
      if v1 ≤ b4 then (
      some (.inr b3))
      else (
      bnd (rdA 189 189 ((((9 : Int32) + ((4 : Int32) * b2)) + (1 : Int32)) + b4) m) fun v3 =>
      bnd (f_X9_partOf b1 v3 b2 m) fun q5 =>
      if 0 ≤ q5 then (
      f_X9_hourOf_L5 b1 b2 m n (b3 + q5) (b4 + (1 : Int32)))
      else (
      some (.inl (100000 : Int32))))
def f_X9_hourOf (a1 : Int32) (a2 : Int32) (m : mM) : Option (Int32) :=
bnd (f_X9_hourOf_L5 a1 a2 m fU (0 : Int32) (0 : Int32)) fun o9 =>
ora o9 (fun zq => some zq) fun x10 =>
some x10
set_option maxRecDepth 100000 in
theorem t_X9_hourOf_L5 {V : eV} (b1 : Int32) (b2 : Int32) (m : mM) {r : Option Value} {h' : aH} : ∀ (n : Nat) (b3 : Int32) (b4 : Int32) (o : (Int32) ⊕ (Int32)), f_X9_hourOf_L5 b1 b2 m n b3 b4 = some o → lxP (hS m) o r h' (fun x => gG V k_X9_hourOf 64 [(3, .int x)] [] (hS m) r h') → gG V k_X9_hourOf 5 [(0, .ref (vB V + 187)), (1, .int b1), (2, .int b2), (3, .int b3), (4, .int b4)] [] (hS m) r h' := by
  intro n
  induction n with
  | zero => intro b3 b4 o hf; cases hf
  | succ n ih =>
    intro b3 b4 o hf hk
    rw [f_X9_hourOf_L5] at hf
    refine g_iload 4 dX9_hourOf_5 rfl ?_
    refine g_aload_n 0 dX9_hourOf_7 rfl rfl ?_
    refine gf_930 dX9_hourOf_8 rfl ob_187 rfl ?_
    refine g_bipush (v := 9) dX9_hourOf_11 rfl ?_
    refine g_iconst (v := 4) dX9_hourOf_13 rfl ?_
    refine g_iload_n 2 dX9_hourOf_14 rfl rfl ?_
    refine g_imul dX9_hourOf_15 ?_
    refine g_iadd dX9_hourOf_16 ?_
    obtain ⟨v1, e2, hf⟩ := bnd_some hf
    refine p_iald dX9_hourOf_17 at_189 e2 ?_
    refine g_icmp_ge (tgt := 64) dX9_hourOf_18 (by decide) (fun c8 => ?_) (fun c8 => ?_)
    · replace hf := (if_pos c8).symm.trans hf
      cases hf
      refine g_sub [3] rfl ?_
      exact hk
    · replace hf := (if_neg c8).symm.trans hf
      refine g_aload_n 0 dX9_hourOf_21 rfl rfl ?_
      refine g_iload_n 1 dX9_hourOf_22 rfl rfl ?_
      refine g_aload_n 0 dX9_hourOf_23 rfl rfl ?_
      refine gf_930 dX9_hourOf_24 rfl ob_187 rfl ?_
      refine g_bipush (v := 9) dX9_hourOf_27 rfl ?_
      refine g_iconst (v := 4) dX9_hourOf_29 rfl ?_
      refine g_iload_n 2 dX9_hourOf_30 rfl rfl ?_
      refine g_imul dX9_hourOf_31 ?_
      refine g_iadd dX9_hourOf_32 ?_
      refine g_iconst (v := 1) dX9_hourOf_33 rfl ?_
      refine g_iadd dX9_hourOf_34 ?_
      refine g_iload 4 dX9_hourOf_35 rfl ?_
      refine g_iadd dX9_hourOf_37 ?_
      obtain ⟨v3, e4, hf⟩ := bnd_some hf
      refine p_iald dX9_hourOf_38 at_189 e4 ?_
      refine g_iload_n 2 dX9_hourOf_39 rfl rfl ?_
      obtain ⟨q5, e6, hf⟩ := bnd_some hf
      refine p_callV (As := [.int b1, .int v3, .int b2]) (rest := []) (t_X9_partOf e6) cw_1096 w_1098 w_40 ob_187 rfl (Nat.le_of_ble_eq_true rfl) rfl rfl (Nat.le_of_ble_eq_true rfl) dX9_hourOf_40 ?_
      refine g_istore dX9_hourOf_43 (Nat.le_of_ble_eq_true rfl) rfl ?_
      refine g_iload 0 dX9_hourOf_45 rfl ?_
      refine g_if_ge (tgt := 53) dX9_hourOf_47 (by decide) (fun c7 => ?_) (fun c7 => ?_)
      · replace hf := (if_pos c7).symm.trans hf
        refine g_iload_n 4 dX9_hourOf_53 rfl rfl ?_
        refine g_iload 0 dX9_hourOf_54 rfl ?_
        refine g_iadd dX9_hourOf_56 ?_
        refine g_istore_n dX9_hourOf_57 rfl (Nat.le_of_ble_eq_true rfl) rfl ?_
        refine g_iinc (q := 5) (v := (b4 + (1 : Int32))) dX9_hourOf_58 rfl rfl (Nat.le_of_ble_eq_true rfl) rfl ?_
        refine g_goto (tgt := 5) dX9_hourOf_61 (by decide) ?_
        refine g_sub [3, 4, 5, 1, 0] rfl ?_
        exact ih (b3 + q5) (b4 + (1 : Int32)) _ hf hk
      · replace hf := (if_neg c7).symm.trans hf
        refine g_ldc w_1104 dX9_hourOf_50 ?_
        cases hf
        obtain ⟨rfl, rfl⟩ := hk
        exact g_iret dX9_hourOf_52 .int rfl rfl

set_option maxRecDepth 100000 in
theorem t_X9_hourOf {V : eV} {a1 : Int32} {a2 : Int32}  {m : mM} {q : Int32} (hf : f_X9_hourOf a1 a2 m = some q) : eE V 3 yX9_hourOf cX9_hourOf 6 (some .int) [.ref (vB V + 187), .int a1, .int a2] (hS m) (some (.int q)) (hS m) := by
  refine eE_of (by decide) (Nat.le_of_ble_eq_true rfl) ?_
  show gG V k_X9_hourOf 0 [(0, .ref (vB V + 187)), (1, .int a1), (2, .int a2)] [] (hS m) _ _
  unfold f_X9_hourOf at hf
  refine g_iconst (v := 0) dX9_hourOf_0 rfl ?_
  refine g_istore_n dX9_hourOf_1 rfl (Nat.le_of_ble_eq_true rfl) rfl ?_
  refine g_iconst (v := 0) dX9_hourOf_2 rfl ?_
  refine g_istore dX9_hourOf_3 (Nat.le_of_ble_eq_true rfl) rfl ?_
  refine g_sub [2, 3, 4, 1, 0] rfl ?_
  obtain ⟨o9, e11, hf⟩ := bnd_some hf
  refine t_X9_hourOf_L5 (V := V) a1 a2 m fU (0 : Int32) (0 : Int32) _ e11 ?_
  rcases o9 with zq | x10
  · replace hf := ora_l hf
    cases hf
    exact ⟨rfl, rfl⟩
  · replace hf := ora_r hf
    show gG V _ _ _ _ _ _ _
    refine g_iload_n 0 dX9_hourOf_64 rfl rfl ?_
    cases hf
    exact g_iret dX9_hourOf_65 .int rfl rfl

abbrev k_X9_rowOf : kX := (cX9_rowOf, "WhoseHourItIsModel", "rowOf", some .int, 5, 4)
def f_X9_rowOf_L5 (b1 : Int32) (b2 : Int32) (m : mM) : Nat → Int32 → Int32 → Option (Int32)
  | 0, _, _ => none
  | n + 1, b3, b4 =>
      bnd (f_X9_of b1 (2 : Int32) m) fun q1 =>
      if (b2 + q1) ≤ b4 then (
      some b3)
      else (
      bnd (f_X9_hourOf b1 b4 m) fun q3 =>
      f_X9_rowOf_L5 b1 b2 m n (b3 + q3) (b4 + (1 : Int32)))
def f_X9_rowOf (a1 : Int32) (a2 : Int32) (m : mM) : Option (Int32) :=
bnd (f_X9_rowOf_L5 a1 a2 m fU (0 : Int32) a2) fun o6 =>
some o6
set_option maxRecDepth 100000 in
theorem t_X9_rowOf_L5 {V : eV} (b1 : Int32) (b2 : Int32) (m : mM) {r : Option Value} {h' : aH} : ∀ (n : Nat) (b3 : Int32) (b4 : Int32) (o : Int32), f_X9_rowOf_L5 b1 b2 m n b3 b4 = some o → gG V k_X9_rowOf 34 [(3, .int o)] [] (hS m) r h' → gG V k_X9_rowOf 5 [(0, .ref (vB V + 187)), (1, .int b1), (2, .int b2), (3, .int b3), (4, .int b4)] [] (hS m) r h' := by
  intro n
  induction n with
  | zero => intro b3 b4 o hf; cases hf
  | succ n ih =>
    intro b3 b4 o hf hk
    rw [f_X9_rowOf_L5] at hf
    refine g_iload 4 dX9_rowOf_5 rfl ?_
    refine g_iload_n 2 dX9_rowOf_7 rfl rfl ?_
    refine g_aload_n 0 dX9_rowOf_8 rfl rfl ?_
    refine g_iload_n 1 dX9_rowOf_9 rfl rfl ?_
    refine g_iconst (v := 2) dX9_rowOf_10 rfl ?_
    obtain ⟨q1, e2, hf⟩ := bnd_some hf
    refine p_callV (As := [.int b1, .int (2 : Int32)]) (rest := [.int b2, .int b4]) (t_X9_of e2) cw_1072 w_1074 w_34 ob_187 rfl (Nat.le_of_ble_eq_true rfl) rfl rfl (Nat.le_of_ble_eq_true rfl) dX9_rowOf_11 ?_
    refine g_iadd dX9_rowOf_14 ?_
    refine g_icmp_ge (tgt := 34) dX9_rowOf_15 (by decide) (fun c5 => ?_) (fun c5 => ?_)
    · replace hf := (if_pos c5).symm.trans hf
      cases hf
      refine g_sub [3] rfl ?_
      exact hk
    · replace hf := (if_neg c5).symm.trans hf
      refine g_iload_n 3 dX9_rowOf_18 rfl rfl ?_
      refine g_aload_n 0 dX9_rowOf_19 rfl rfl ?_
      refine g_iload_n 1 dX9_rowOf_20 rfl rfl ?_
      refine g_iload 4 dX9_rowOf_21 rfl ?_
      obtain ⟨q3, e4, hf⟩ := bnd_some hf
      refine p_callV (As := [.int b1, .int b4]) (rest := [.int b3]) (t_X9_hourOf e4) cw_1092 w_1094 w_39 ob_187 rfl (Nat.le_of_ble_eq_true rfl) rfl rfl (Nat.le_of_ble_eq_true rfl) dX9_rowOf_23 ?_
      refine g_iadd dX9_rowOf_26 ?_
      refine g_istore_n dX9_rowOf_27 rfl (Nat.le_of_ble_eq_true rfl) rfl ?_
      refine g_iinc (q := 4) (v := (b4 + (1 : Int32))) dX9_rowOf_28 rfl rfl (Nat.le_of_ble_eq_true rfl) rfl ?_
      refine g_goto (tgt := 5) dX9_rowOf_31 (by decide) ?_
      refine g_sub [2, 3, 4, 1, 0] rfl ?_
      exact ih (b3 + q3) (b4 + (1 : Int32)) _ hf hk

set_option maxRecDepth 100000 in
theorem t_X9_rowOf {V : eV} {a1 : Int32} {a2 : Int32}  {m : mM} {q : Int32} (hf : f_X9_rowOf a1 a2 m = some q) : eE V 4 yX9_rowOf cX9_rowOf 5 (some .int) [.ref (vB V + 187), .int a1, .int a2] (hS m) (some (.int q)) (hS m) := by
  refine eE_of (by decide) (Nat.le_of_ble_eq_true rfl) ?_
  show gG V k_X9_rowOf 0 [(0, .ref (vB V + 187)), (1, .int a1), (2, .int a2)] [] (hS m) _ _
  unfold f_X9_rowOf at hf
  refine g_iconst (v := 0) dX9_rowOf_0 rfl ?_
  refine g_istore_n dX9_rowOf_1 rfl (Nat.le_of_ble_eq_true rfl) rfl ?_
  refine g_iload_n 3 dX9_rowOf_2 rfl rfl ?_
  refine g_istore dX9_rowOf_3 (Nat.le_of_ble_eq_true rfl) rfl ?_
  refine g_sub [2, 3, 4, 1, 0] rfl ?_
  obtain ⟨o6, e7, hf⟩ := bnd_some hf
  refine t_X9_rowOf_L5 (V := V) a1 a2 m fU (0 : Int32) a2 _ e7 ?_
  refine g_iload_n 0 dX9_rowOf_34 rfl rfl ?_
  cases hf
  exact g_iret dX9_rowOf_35 .int rfl rfl

abbrev k_X9_weighs : kX := (cX9_weighs, "WhoseHourItIsModel", "weighs", none, 3, 0)
def f_X9_weighs (a1 : Int32) (a2 : Int32) (m : mM) : Option (mM) :=
if (100000 : Int32) ≤ a2 then (
some m)
else (
if (m 187 12) < 0 then (
bnd (some (m_up m 187 12 a2)) fun m1 =>
bnd (some (m_up m1 187 11 a1)) fun m3 =>
some m3)
else (
if (m 187 12) < a2 then (
some m)
else (
if a2 = (m 187 12) then (
if a1 < (m 187 11) then (
bnd (some (m_up m 187 12 a2)) fun m5 =>
bnd (some (m_up m5 187 11 a1)) fun m7 =>
some m7)
else (
some m))
else (
bnd (some (m_up m 187 12 a2)) fun m10 =>
bnd (some (m_up m10 187 11 a1)) fun m12 =>
some m12))))
set_option maxRecDepth 100000 in
theorem t_X9_weighs {V : eV} {a1 : Int32} {a2 : Int32}  {m : mM} {q : mM} (hf : f_X9_weighs a1 a2 m = some q) : eE V 0 yX9_weighs cX9_weighs 3 (none) [.ref (vB V + 187), .int a1, .int a2] (hS m) none (hS q) := by
  refine eE_of (by decide) (Nat.le_of_ble_eq_true rfl) ?_
  show gG V k_X9_weighs 0 [(0, .ref (vB V + 187)), (1, .int a1), (2, .int a2)] [] (hS m) _ _
  unfold f_X9_weighs at hf
  refine g_iload_n 2 dX9_weighs_0 rfl rfl ?_
  refine g_ldc w_1104 dX9_weighs_1 ?_
  refine g_icmp_ge (tgt := 37) dX9_weighs_3 (by decide) (fun c17 => ?_) (fun c17 => ?_)
  · replace hf := (if_pos c17).symm.trans hf
    cases hf
    exact g_vret dX9_weighs_37 rfl
  · replace hf := (if_neg c17).symm.trans hf
    refine g_aload_n 0 dX9_weighs_6 rfl rfl ?_
    refine gf_941 dX9_weighs_7 rfl ob_187 rfl ?_
    refine g_if_lt (tgt := 38) dX9_weighs_10 (by decide) (fun c16 => ?_) (fun c16 => ?_)
    · replace hf := (if_pos c16).symm.trans hf
      refine g_aload_n 0 dX9_weighs_38 rfl rfl ?_
      refine g_iload_n 2 dX9_weighs_39 rfl rfl ?_
      obtain ⟨m1, e2, hf⟩ := bnd_some hf
      cases e2
      refine pf_941 dX9_weighs_40 rfl ob_187 rfl ?_
      generalize m_up m 187 12 a2 = m1 at hf ⊢
      refine g_aload_n 0 dX9_weighs_43 rfl rfl ?_
      refine g_iload_n 1 dX9_weighs_44 rfl rfl ?_
      obtain ⟨m3, e4, hf⟩ := bnd_some hf
      cases e4
      refine pf_940 dX9_weighs_45 rfl ob_187 rfl ?_
      generalize m_up m1 187 11 a1 = m3 at hf ⊢
      cases hf
      exact g_vret dX9_weighs_48 rfl
    · replace hf := (if_neg c16).symm.trans hf
      refine g_iload_n 2 dX9_weighs_13 rfl rfl ?_
      refine g_aload_n 0 dX9_weighs_14 rfl rfl ?_
      refine gf_941 dX9_weighs_15 rfl ob_187 rfl ?_
      refine g_icmp_gt (tgt := 37) dX9_weighs_18 (by decide) (fun c15 => ?_) (fun c15 => ?_)
      · replace hf := (if_pos c15).symm.trans hf
        cases hf
        exact g_vret dX9_weighs_37 rfl
      · replace hf := (if_neg c15).symm.trans hf
        refine g_iload_n 2 dX9_weighs_21 rfl rfl ?_
        refine g_aload_n 0 dX9_weighs_22 rfl rfl ?_
        refine gf_941 dX9_weighs_23 rfl ob_187 rfl ?_
        refine g_icmp_ne (tgt := 38) dX9_weighs_26 (by decide) (fun c14 => ?_) (fun c14 => ?_)
        · replace hf := (if_neg c14).symm.trans hf
          refine g_aload_n 0 dX9_weighs_38 rfl rfl ?_
          refine g_iload_n 2 dX9_weighs_39 rfl rfl ?_
          obtain ⟨m10, e11, hf⟩ := bnd_some hf
          cases e11
          refine pf_941 dX9_weighs_40 rfl ob_187 rfl ?_
          generalize m_up m 187 12 a2 = m10 at hf ⊢
          refine g_aload_n 0 dX9_weighs_43 rfl rfl ?_
          refine g_iload_n 1 dX9_weighs_44 rfl rfl ?_
          obtain ⟨m12, e13, hf⟩ := bnd_some hf
          cases e13
          refine pf_940 dX9_weighs_45 rfl ob_187 rfl ?_
          generalize m_up m10 187 11 a1 = m12 at hf ⊢
          cases hf
          exact g_vret dX9_weighs_48 rfl
        · replace hf := (if_pos c14).symm.trans hf
          refine g_iload_n 1 dX9_weighs_29 rfl rfl ?_
          refine g_aload_n 0 dX9_weighs_30 rfl rfl ?_
          refine gf_940 dX9_weighs_31 rfl ob_187 rfl ?_
          refine g_icmp_lt (tgt := 38) dX9_weighs_34 (by decide) (fun c9 => ?_) (fun c9 => ?_)
          · replace hf := (if_pos c9).symm.trans hf
            refine g_aload_n 0 dX9_weighs_38 rfl rfl ?_
            refine g_iload_n 2 dX9_weighs_39 rfl rfl ?_
            obtain ⟨m5, e6, hf⟩ := bnd_some hf
            cases e6
            refine pf_941 dX9_weighs_40 rfl ob_187 rfl ?_
            generalize m_up m 187 12 a2 = m5 at hf ⊢
            refine g_aload_n 0 dX9_weighs_43 rfl rfl ?_
            refine g_iload_n 1 dX9_weighs_44 rfl rfl ?_
            obtain ⟨m7, e8, hf⟩ := bnd_some hf
            cases e8
            refine pf_940 dX9_weighs_45 rfl ob_187 rfl ?_
            generalize m_up m5 187 11 a1 = m7 at hf ⊢
            cases hf
            exact g_vret dX9_weighs_48 rfl
          · replace hf := (if_neg c9).symm.trans hf
            cases hf
            exact g_vret dX9_weighs_37 rfl

abbrev k_X9_finds : kX := (cX9_finds, "WhoseHourItIsModel", "finds", none, 8, 5)
def f_X9_finds_L29 (b1 : Int32) (b2 : Int32) : Nat → Int32 → mM → Option (mM)
  | 0, _, _ => none
  | n + 1, b3, m =>
      bnd (f_X9_of b1 (3 : Int32) m) fun q9 =>
      if q9 < ((b3 + b2) - (1 : Int32)) then (
      some m)
      else (
      bnd (f_X9_rowOf b1 b3 m) fun q11 =>
      bnd (f_X9_weighs ((((1 : Int32) <<< (b2 &&& 31)) - (1 : Int32)) <<< (b3 &&& 31)) q11 m) fun q13 =>
      f_X9_finds_L29 b1 b2 n (b3 + (1 : Int32)) q13)
def f_X9_finds_L96 (b1 : Int32) (b2 : Int32) (b3 : Int32) : Nat → Int32 → mM → Option (mM)
  | 0, _, _ => none
  | n + 1, b4, m =>
      if (((4 : Int32) * b3) + (4 : Int32)) ≤ b4 then (
      some m)
      else (
      bnd (f_X9_of b1 (3 : Int32) m) fun q22 =>
      if q22 < b4 then (
      some m)
      else (
      bnd (f_X9_hourOf b1 b4 m) fun q24 =>
      bnd (rdA 196 7 b3 m) fun v26 =>
      if q24 < v26 then (
      bnd (wrA 195 7 b3 b4 m) fun m28 =>
      bnd (f_X9_hourOf b1 b4 m28) fun q30 =>
      bnd (wrA 196 7 b3 q30 m28) fun m32 =>
      f_X9_finds_L96 b1 b2 b3 n (b4 + (1 : Int32)) m32)
      else (
      f_X9_finds_L96 b1 b2 b3 n (b4 + (1 : Int32)) m)))
def f_X9_finds_L69 (b1 : Int32) (b2 : Int32) : Nat → Int32 → mM → Option (mM)
  | 0, _, _ => none
  | n + 1, b3, m =>
      if (7 : Int32) ≤ b3 then (
      some m)
      else (
      bnd (wrA 195 7 b3 (-9 : Int32) m) fun m18 =>
      bnd (wrA 196 7 b3 (100000 : Int32) m18) fun m20 =>
      bnd (f_X9_finds_L96 b1 b2 b3 fU ((4 : Int32) * b3) m20) fun o37 =>
      f_X9_finds_L69 b1 b2 n (b3 + (1 : Int32)) o37)
def f_X9_finds_L190 (b2 : Int32) (b3 : Int32) (m : mM) : Nat → Int32 → Int32 → Int32 → Int32 → Option (Int32 × Int32 × Int32)
  | 0, _, _, _, _ => none
  | n + 1, b4, b5, b6, b7 =>
      if (7 : Int32) ≤ b7 then (
      some (b4, b5, b6))
      else (
      if ((b3 >>> (b7 &&& 31)) &&& (1 : Int32)) = 0 then (
      f_X9_finds_L190 b2 b3 m n b4 b5 b6 (b7 + (1 : Int32)))
      else (
      bnd (rdA 196 7 b7 m) fun v42 =>
      bnd (rdA 195 7 b7 m) fun v44 =>
      if 0 ≤ v44 then (
      bnd (rdA 195 7 b7 m) fun v46 =>
      f_X9_finds_L190 b2 b3 m n (b4 + (1 : Int32)) (b5 ||| ((1 : Int32) <<< (v46 &&& 31))) (b6 + v42) (b7 + (1 : Int32)))
      else (
      f_X9_finds_L190 b2 b3 m n (b4 + (1 : Int32)) (b5 ||| (0 : Int32)) (b6 + v42) (b7 + (1 : Int32)))))
def f_X9_finds_L171 (b2 : Int32) : Nat → Int32 → mM → Option (mM)
  | 0, _, _ => none
  | n + 1, b3, m =>
      if (128 : Int32) ≤ b3 then (
      some m)
      else (
      bnd (f_X9_finds_L190 b2 b3 m fU (0 : Int32) (0 : Int32) (0 : Int32) (0 : Int32)) fun o51 =>
      if o51.1 = b2 then (
      bnd (f_X9_weighs o51.2.1 o51.2.2 m) fun q53 =>
      f_X9_finds_L171 b2 n (b3 + (1 : Int32)) q53)
      else (
      f_X9_finds_L171 b2 n (b3 + (1 : Int32)) m))
def f_X9_finds (a1 : Int32) (m : mM) : Option (mM) :=
bnd (some (m_up m 187 12 (-9 : Int32))) fun m1 =>
bnd (some (m_up m1 187 11 (0 : Int32))) fun m3 =>
bnd (f_X9_of a1 (2 : Int32) m3) fun q5 =>
bnd (f_X9_of a1 (1 : Int32) m3) fun q7 =>
if q7 = 0 then (
bnd (f_X9_finds_L29 a1 q5 fU (0 : Int32) m3) fun o16 =>
some o16)
else (
bnd (f_X9_finds_L69 a1 q5 fU (0 : Int32) m3) fun o40 =>
bnd (f_X9_finds_L171 q5 fU (0 : Int32) o40) fun o57 =>
some o57)
set_option maxRecDepth 100000 in
theorem t_X9_finds_L29 {V : eV} (b1 : Int32) (b2 : Int32) {r : Option Value} {h' : aH} : ∀ (n : Nat) (b3 : Int32) (m : mM) (o : mM), f_X9_finds_L29 b1 b2 n b3 m = some o → gG V k_X9_finds 66 [] [] (hS o) r h' → gG V k_X9_finds 29 [(0, .ref (vB V + 187)), (1, .int b1), (2, .int b2), (3, .int b3)] [] (hS m) r h' := by
  intro n
  induction n with
  | zero => intro b3 m o hf; cases hf
  | succ n ih =>
    intro b3 m o hf hk
    rw [f_X9_finds_L29] at hf
    refine g_iload_n 3 dX9_finds_29 rfl rfl ?_
    refine g_iload_n 2 dX9_finds_30 rfl rfl ?_
    refine g_iadd dX9_finds_31 ?_
    refine g_iconst (v := 1) dX9_finds_32 rfl ?_
    refine g_isub dX9_finds_33 ?_
    refine g_aload_n 0 dX9_finds_34 rfl rfl ?_
    refine g_iload_n 1 dX9_finds_35 rfl rfl ?_
    refine g_iconst (v := 3) dX9_finds_36 rfl ?_
    obtain ⟨q9, e10, hf⟩ := bnd_some hf
    refine p_callV (As := [.int b1, .int (3 : Int32)]) (rest := [.int ((b3 + b2) - (1 : Int32))]) (t_X9_of e10) cw_1072 w_1074 w_34 ob_187 rfl (Nat.le_of_ble_eq_true rfl) rfl rfl (Nat.le_of_ble_eq_true rfl) dX9_finds_37 ?_
    refine g_icmp_gt (tgt := 66) dX9_finds_40 (by decide) (fun c15 => ?_) (fun c15 => ?_)
    · replace hf := (if_pos c15).symm.trans hf
      cases hf
      refine g_sub [] rfl ?_
      exact hk
    · replace hf := (if_neg c15).symm.trans hf
      refine g_aload_n 0 dX9_finds_43 rfl rfl ?_
      refine g_iconst (v := 1) dX9_finds_44 rfl ?_
      refine g_iload_n 2 dX9_finds_45 rfl rfl ?_
      refine g_ishl dX9_finds_46 ?_
      refine g_iconst (v := 1) dX9_finds_47 rfl ?_
      refine g_isub dX9_finds_48 ?_
      refine g_iload_n 3 dX9_finds_49 rfl rfl ?_
      refine g_ishl dX9_finds_50 ?_
      refine g_aload_n 0 dX9_finds_51 rfl rfl ?_
      refine g_iload_n 1 dX9_finds_52 rfl rfl ?_
      refine g_iload_n 3 dX9_finds_53 rfl rfl ?_
      obtain ⟨q11, e12, hf⟩ := bnd_some hf
      refine p_callV (As := [.int b1, .int b3]) (rest := [.int ((((1 : Int32) <<< (b2 &&& 31)) - (1 : Int32)) <<< (b3 &&& 31)), .ref (vB V + 187)]) (t_X9_rowOf e12) cw_1088 w_1090 w_38 ob_187 rfl (Nat.le_of_ble_eq_true rfl) rfl rfl (Nat.le_of_ble_eq_true rfl) dX9_finds_54 ?_
      obtain ⟨q13, e14, hf⟩ := bnd_some hf
      refine p_callVv (As := [.int ((((1 : Int32) <<< (b2 &&& 31)) - (1 : Int32)) <<< (b3 &&& 31)), .int q11]) (rest := []) (t_X9_weighs e14) cw_1105 w_1107 w_42 ob_187 rfl (Nat.le_of_ble_eq_true rfl) rfl rfl (Nat.le_of_ble_eq_true rfl) dX9_finds_57 ?_
      refine g_iinc (q := 3) (v := (b3 + (1 : Int32))) dX9_finds_60 rfl rfl (Nat.le_of_ble_eq_true rfl) rfl ?_
      refine g_goto (tgt := 29) dX9_finds_63 (by decide) ?_
      refine g_sub [1, 2, 3, 0] rfl ?_
      exact ih (b3 + (1 : Int32)) q13 _ hf hk

set_option maxRecDepth 100000 in
theorem t_X9_finds_L96 {V : eV} (b1 : Int32) (b2 : Int32) (b3 : Int32) {r : Option Value} {h' : aH} : ∀ (n : Nat) (b4 : Int32) (m : mM) (o : mM), f_X9_finds_L96 b1 b2 b3 n b4 m = some o → gG V k_X9_finds 163 [(0, .ref (vB V + 187)), (1, .int b1), (2, .int b2), (3, .int b3)] [] (hS o) r h' → gG V k_X9_finds 96 [(0, .ref (vB V + 187)), (1, .int b1), (2, .int b2), (3, .int b3), (4, .int b4)] [] (hS m) r h' := by
  intro n
  induction n with
  | zero => intro b4 m o hf; cases hf
  | succ n ih =>
    intro b4 m o hf hk
    rw [f_X9_finds_L96] at hf
    refine g_iload 4 dX9_finds_96 rfl ?_
    refine g_iconst (v := 4) dX9_finds_98 rfl ?_
    refine g_iload_n 3 dX9_finds_99 rfl rfl ?_
    refine g_imul dX9_finds_100 ?_
    refine g_iconst (v := 4) dX9_finds_101 rfl ?_
    refine g_iadd dX9_finds_102 ?_
    refine g_icmp_ge (tgt := 163) dX9_finds_103 (by decide) (fun c36 => ?_) (fun c36 => ?_)
    · replace hf := (if_pos c36).symm.trans hf
      cases hf
      refine g_sub [0, 1, 2, 3] rfl ?_
      exact hk
    · replace hf := (if_neg c36).symm.trans hf
      refine g_iload 4 dX9_finds_106 rfl ?_
      refine g_aload_n 0 dX9_finds_108 rfl rfl ?_
      refine g_iload_n 1 dX9_finds_109 rfl rfl ?_
      refine g_iconst (v := 3) dX9_finds_110 rfl ?_
      obtain ⟨q22, e23, hf⟩ := bnd_some hf
      refine p_callV (As := [.int b1, .int (3 : Int32)]) (rest := [.int b4]) (t_X9_of e23) cw_1072 w_1074 w_34 ob_187 rfl (Nat.le_of_ble_eq_true rfl) rfl rfl (Nat.le_of_ble_eq_true rfl) dX9_finds_111 ?_
      refine g_icmp_gt (tgt := 163) dX9_finds_114 (by decide) (fun c35 => ?_) (fun c35 => ?_)
      · replace hf := (if_pos c35).symm.trans hf
        cases hf
        refine g_sub [0, 1, 2, 3] rfl ?_
        exact hk
      · replace hf := (if_neg c35).symm.trans hf
        refine g_aload_n 0 dX9_finds_117 rfl rfl ?_
        refine g_iload_n 1 dX9_finds_118 rfl rfl ?_
        refine g_iload 4 dX9_finds_119 rfl ?_
        obtain ⟨q24, e25, hf⟩ := bnd_some hf
        refine p_callV (As := [.int b1, .int b4]) (rest := []) (t_X9_hourOf e25) cw_1092 w_1094 w_39 ob_187 rfl (Nat.le_of_ble_eq_true rfl) rfl rfl (Nat.le_of_ble_eq_true rfl) dX9_finds_121 ?_
        refine g_aload_n 0 dX9_finds_124 rfl rfl ?_
        refine gf_943 dX9_finds_125 rfl ob_187 rfl ?_
        refine g_iload_n 3 dX9_finds_128 rfl rfl ?_
        obtain ⟨v26, e27, hf⟩ := bnd_some hf
        refine p_iald dX9_finds_129 at_196 e27 ?_
        refine g_icmp_lt (tgt := 136) dX9_finds_130 (by decide) (fun c34 => ?_) (fun c34 => ?_)
        · replace hf := (if_pos c34).symm.trans hf
          refine g_aload_n 0 dX9_finds_136 rfl rfl ?_
          refine gf_942 dX9_finds_137 rfl ob_187 rfl ?_
          refine g_iload_n 3 dX9_finds_140 rfl rfl ?_
          refine g_iload 4 dX9_finds_141 rfl ?_
          obtain ⟨m28, e29, hf⟩ := bnd_some hf
          refine p_iast dX9_finds_143 at_195 e29 ?_
          refine g_aload_n 0 dX9_finds_144 rfl rfl ?_
          refine gf_943 dX9_finds_145 rfl ob_187 rfl ?_
          refine g_iload_n 3 dX9_finds_148 rfl rfl ?_
          refine g_aload_n 0 dX9_finds_149 rfl rfl ?_
          refine g_iload_n 1 dX9_finds_150 rfl rfl ?_
          refine g_iload 4 dX9_finds_151 rfl ?_
          obtain ⟨q30, e31, hf⟩ := bnd_some hf
          refine p_callV (As := [.int b1, .int b4]) (rest := [.int b3, .ref (vB V + 196)]) (t_X9_hourOf e31) cw_1092 w_1094 w_39 ob_187 rfl (Nat.le_of_ble_eq_true rfl) rfl rfl (Nat.le_of_ble_eq_true rfl) dX9_finds_153 ?_
          obtain ⟨m32, e33, hf⟩ := bnd_some hf
          refine p_iast dX9_finds_156 at_196 e33 ?_
          refine g_iinc (q := 4) (v := (b4 + (1 : Int32))) dX9_finds_157 rfl rfl (Nat.le_of_ble_eq_true rfl) rfl ?_
          refine g_goto (tgt := 96) dX9_finds_160 (by decide) ?_
          refine g_sub [1, 2, 3, 4, 0] rfl ?_
          exact ih (b4 + (1 : Int32)) m32 _ hf hk
        · replace hf := (if_neg c34).symm.trans hf
          refine g_goto (tgt := 157) dX9_finds_133 (by decide) ?_
          refine g_iinc (q := 4) (v := (b4 + (1 : Int32))) dX9_finds_157 rfl rfl (Nat.le_of_ble_eq_true rfl) rfl ?_
          refine g_goto (tgt := 96) dX9_finds_160 (by decide) ?_
          refine g_sub [1, 2, 3, 4, 0] rfl ?_
          exact ih (b4 + (1 : Int32)) m _ hf hk

set_option maxRecDepth 100000 in
theorem t_X9_finds_L69 {V : eV} (b1 : Int32) (b2 : Int32) {r : Option Value} {h' : aH} : ∀ (n : Nat) (b3 : Int32) (m : mM) (o : mM), f_X9_finds_L69 b1 b2 n b3 m = some o → gG V k_X9_finds 169 [(0, .ref (vB V + 187)), (2, .int b2)] [] (hS o) r h' → gG V k_X9_finds 69 [(0, .ref (vB V + 187)), (1, .int b1), (2, .int b2), (3, .int b3)] [] (hS m) r h' := by
  intro n
  induction n with
  | zero => intro b3 m o hf; cases hf
  | succ n ih =>
    intro b3 m o hf hk
    rw [f_X9_finds_L69] at hf
    refine g_iload_n 3 dX9_finds_69 rfl rfl ?_
    refine g_bipush (v := 7) dX9_finds_70 rfl ?_
    refine g_icmp_ge (tgt := 169) dX9_finds_72 (by decide) (fun c39 => ?_) (fun c39 => ?_)
    · replace hf := (if_pos c39).symm.trans hf
      cases hf
      refine g_sub [0, 2] rfl ?_
      exact hk
    · replace hf := (if_neg c39).symm.trans hf
      refine g_aload_n 0 dX9_finds_75 rfl rfl ?_
      refine gf_942 dX9_finds_76 rfl ob_187 rfl ?_
      refine g_iload_n 3 dX9_finds_79 rfl rfl ?_
      refine g_bipush (v := -9) dX9_finds_80 rfl ?_
      obtain ⟨m18, e19, hf⟩ := bnd_some hf
      refine p_iast dX9_finds_82 at_195 e19 ?_
      refine g_aload_n 0 dX9_finds_83 rfl rfl ?_
      refine gf_943 dX9_finds_84 rfl ob_187 rfl ?_
      refine g_iload_n 3 dX9_finds_87 rfl rfl ?_
      refine g_ldc w_1104 dX9_finds_88 ?_
      obtain ⟨m20, e21, hf⟩ := bnd_some hf
      refine p_iast dX9_finds_90 at_196 e21 ?_
      refine g_iconst (v := 4) dX9_finds_91 rfl ?_
      refine g_iload_n 3 dX9_finds_92 rfl rfl ?_
      refine g_imul dX9_finds_93 ?_
      refine g_istore dX9_finds_94 (Nat.le_of_ble_eq_true rfl) rfl ?_
      refine g_sub [1, 2, 3, 4, 0] rfl ?_
      obtain ⟨o37, e38, hf⟩ := bnd_some hf
      refine t_X9_finds_L96 (V := V) b1 b2 b3 fU ((4 : Int32) * b3) m20 _ e38 ?_
      refine g_iinc (q := 3) (v := (b3 + (1 : Int32))) dX9_finds_163 rfl rfl (Nat.le_of_ble_eq_true rfl) rfl ?_
      refine g_goto (tgt := 69) dX9_finds_166 (by decide) ?_
      refine g_sub [1, 2, 3, 0] rfl ?_
      exact ih (b3 + (1 : Int32)) o37 _ hf hk

set_option maxRecDepth 100000 in
theorem t_X9_finds_L190 {V : eV} (b2 : Int32) (b3 : Int32) (m : mM) {r : Option Value} {h' : aH} : ∀ (n : Nat) (b4 : Int32) (b5 : Int32) (b6 : Int32) (b7 : Int32) (o : Int32 × Int32 × Int32), f_X9_finds_L190 b2 b3 m n b4 b5 b6 b7 = some o → gG V k_X9_finds 258 [(0, .ref (vB V + 187)), (2, .int b2), (3, .int b3), (4, .int o.1), (5, .int o.2.1), (6, .int o.2.2)] [] (hS m) r h' → gG V k_X9_finds 190 [(0, .ref (vB V + 187)), (2, .int b2), (3, .int b3), (4, .int b4), (5, .int b5), (6, .int b6), (7, .int b7)] [] (hS m) r h' := by
  intro n
  induction n with
  | zero => intro b4 b5 b6 b7 o hf; cases hf
  | succ n ih =>
    intro b4 b5 b6 b7 o hf hk
    rw [f_X9_finds_L190] at hf
    refine g_iload 6 dX9_finds_190 rfl ?_
    refine g_bipush (v := 7) dX9_finds_192 rfl ?_
    refine g_icmp_ge (tgt := 258) dX9_finds_194 (by decide) (fun c50 => ?_) (fun c50 => ?_)
    · replace hf := (if_pos c50).symm.trans hf
      cases hf
      refine g_sub [0, 1, 2, 3, 4, 5] rfl ?_
      exact hk
    · replace hf := (if_neg c50).symm.trans hf
      refine g_iload_n 2 dX9_finds_197 rfl rfl ?_
      refine g_iload 6 dX9_finds_198 rfl ?_
      refine g_ishr dX9_finds_200 ?_
      refine g_iconst (v := 1) dX9_finds_201 rfl ?_
      refine g_iand dX9_finds_202 ?_
      refine g_if_ne (tgt := 209) dX9_finds_203 (by decide) (fun c49 => ?_) (fun c49 => ?_)
      · replace hf := (if_neg c49).symm.trans hf
        refine g_iinc (q := 3) (v := (b4 + (1 : Int32))) dX9_finds_209 rfl rfl (Nat.le_of_ble_eq_true rfl) rfl ?_
        refine g_iload 5 dX9_finds_212 rfl ?_
        refine g_aload_n 1 dX9_finds_214 rfl rfl ?_
        refine gf_943 dX9_finds_215 rfl ob_187 rfl ?_
        refine g_iload 6 dX9_finds_218 rfl ?_
        obtain ⟨v42, e43, hf⟩ := bnd_some hf
        refine p_iald dX9_finds_220 at_196 e43 ?_
        refine g_iadd dX9_finds_221 ?_
        refine g_istore dX9_finds_222 (Nat.le_of_ble_eq_true rfl) rfl ?_
        refine g_iload 5 dX9_finds_224 rfl ?_
        refine g_aload_n 2 dX9_finds_226 rfl rfl ?_
        refine gf_942 dX9_finds_227 rfl ob_187 rfl ?_
        refine g_iload 6 dX9_finds_230 rfl ?_
        obtain ⟨v44, e45, hf⟩ := bnd_some hf
        refine p_iald dX9_finds_232 at_195 e45 ?_
        refine g_if_ge (tgt := 240) dX9_finds_233 (by decide) (fun c48 => ?_) (fun c48 => ?_)
        · replace hf := (if_pos c48).symm.trans hf
          refine g_iconst (v := 1) dX9_finds_240 rfl ?_
          refine g_aload_n 2 dX9_finds_241 rfl rfl ?_
          refine gf_942 dX9_finds_242 rfl ob_187 rfl ?_
          refine g_iload 6 dX9_finds_245 rfl ?_
          obtain ⟨v46, e47, hf⟩ := bnd_some hf
          refine p_iald dX9_finds_247 at_195 e47 ?_
          refine g_ishl dX9_finds_248 ?_
          refine g_ior dX9_finds_249 ?_
          refine g_istore dX9_finds_250 (Nat.le_of_ble_eq_true rfl) rfl ?_
          refine g_iinc (q := 6) (v := (b7 + (1 : Int32))) dX9_finds_252 rfl rfl (Nat.le_of_ble_eq_true rfl) rfl ?_
          refine g_goto (tgt := 190) dX9_finds_255 (by decide) ?_
          refine g_sub [4, 5, 6, 3, 1, 2, 0] rfl ?_
          exact ih (b4 + (1 : Int32)) (b5 ||| ((1 : Int32) <<< (v46 &&& 31))) (b6 + v42) (b7 + (1 : Int32)) _ hf hk
        · replace hf := (if_neg c48).symm.trans hf
          refine g_iconst (v := 0) dX9_finds_236 rfl ?_
          refine g_goto (tgt := 249) dX9_finds_237 (by decide) ?_
          refine g_ior dX9_finds_249 ?_
          refine g_istore dX9_finds_250 (Nat.le_of_ble_eq_true rfl) rfl ?_
          refine g_iinc (q := 6) (v := (b7 + (1 : Int32))) dX9_finds_252 rfl rfl (Nat.le_of_ble_eq_true rfl) rfl ?_
          refine g_goto (tgt := 190) dX9_finds_255 (by decide) ?_
          refine g_sub [4, 5, 6, 3, 1, 2, 0] rfl ?_
          exact ih (b4 + (1 : Int32)) (b5 ||| (0 : Int32)) (b6 + v42) (b7 + (1 : Int32)) _ hf hk
      · replace hf := (if_pos c49).symm.trans hf
        refine g_goto (tgt := 252) dX9_finds_206 (by decide) ?_
        refine g_iinc (q := 6) (v := (b7 + (1 : Int32))) dX9_finds_252 rfl rfl (Nat.le_of_ble_eq_true rfl) rfl ?_
        refine g_goto (tgt := 190) dX9_finds_255 (by decide) ?_
        refine g_sub [1, 2, 3, 4, 5, 6, 0] rfl ?_
        exact ih b4 b5 b6 (b7 + (1 : Int32)) _ hf hk

set_option maxRecDepth 100000 in
theorem t_X9_finds_L171 {V : eV} (b2 : Int32) {r : Option Value} {h' : aH} : ∀ (n : Nat) (b3 : Int32) (m : mM) (o : mM), f_X9_finds_L171 b2 n b3 m = some o → gG V k_X9_finds 278 [] [] (hS o) r h' → gG V k_X9_finds 171 [(0, .ref (vB V + 187)), (2, .int b2), (3, .int b3)] [] (hS m) r h' := by
  intro n
  induction n with
  | zero => intro b3 m o hf; cases hf
  | succ n ih =>
    intro b3 m o hf hk
    rw [f_X9_finds_L171] at hf
    refine g_iload_n 2 dX9_finds_171 rfl rfl ?_
    refine g_sipush (v := 128) dX9_finds_172 rfl ?_
    refine g_icmp_ge (tgt := 278) dX9_finds_175 (by decide) (fun c56 => ?_) (fun c56 => ?_)
    · replace hf := (if_pos c56).symm.trans hf
      cases hf
      refine g_sub [] rfl ?_
      exact hk
    · replace hf := (if_neg c56).symm.trans hf
      refine g_iconst (v := 0) dX9_finds_178 rfl ?_
      refine g_istore dX9_finds_179 (Nat.le_of_ble_eq_true rfl) rfl ?_
      refine g_iconst (v := 0) dX9_finds_181 rfl ?_
      refine g_istore dX9_finds_182 (Nat.le_of_ble_eq_true rfl) rfl ?_
      refine g_iconst (v := 0) dX9_finds_184 rfl ?_
      refine g_istore dX9_finds_185 (Nat.le_of_ble_eq_true rfl) rfl ?_
      refine g_iconst (v := 0) dX9_finds_187 rfl ?_
      refine g_istore dX9_finds_188 (Nat.le_of_ble_eq_true rfl) rfl ?_
      refine g_sub [4, 5, 6, 3, 2, 1, 0] rfl ?_
      obtain ⟨o51, e52, hf⟩ := bnd_some hf
      refine t_X9_finds_L190 (V := V) b2 b3 m fU (0 : Int32) (0 : Int32) (0 : Int32) (0 : Int32) _ e52 ?_
      refine g_iload 3 dX9_finds_258 rfl ?_
      refine g_iload_n 1 dX9_finds_260 rfl rfl ?_
      refine g_icmp_ne (tgt := 272) dX9_finds_261 (by decide) (fun c55 => ?_) (fun c55 => ?_)
      · replace hf := (if_neg c55).symm.trans hf
        refine g_iinc (q := 2) (v := (b3 + (1 : Int32))) dX9_finds_272 rfl rfl (Nat.le_of_ble_eq_true rfl) rfl ?_
        refine g_goto (tgt := 171) dX9_finds_275 (by decide) ?_
        refine g_sub [1, 2, 0] rfl ?_
        exact ih (b3 + (1 : Int32)) m _ hf hk
      · replace hf := (if_pos c55).symm.trans hf
        refine g_aload_n 0 dX9_finds_264 rfl rfl ?_
        refine g_iload 4 dX9_finds_265 rfl ?_
        refine g_iload 5 dX9_finds_267 rfl ?_
        obtain ⟨q53, e54, hf⟩ := bnd_some hf
        refine p_callVv (As := [.int o51.2.1, .int o51.2.2]) (rest := []) (t_X9_weighs e54) cw_1105 w_1107 w_42 ob_187 rfl (Nat.le_of_ble_eq_true rfl) rfl rfl (Nat.le_of_ble_eq_true rfl) dX9_finds_269 ?_
        refine g_iinc (q := 2) (v := (b3 + (1 : Int32))) dX9_finds_272 rfl rfl (Nat.le_of_ble_eq_true rfl) rfl ?_
        refine g_goto (tgt := 171) dX9_finds_275 (by decide) ?_
        refine g_sub [1, 2, 0] rfl ?_
        exact ih (b3 + (1 : Int32)) q53 _ hf hk

set_option maxRecDepth 100000 in
theorem t_X9_finds {V : eV} {a1 : Int32}  {m : mM} {q : mM} (hf : f_X9_finds a1 m = some q) : eE V 5 yX9_finds cX9_finds 8 (none) [.ref (vB V + 187), .int a1] (hS m) none (hS q) := by
  refine eE_of (by decide) (Nat.le_of_ble_eq_true rfl) ?_
  show gG V k_X9_finds 0 [(0, .ref (vB V + 187)), (1, .int a1)] [] (hS m) _ _
  unfold f_X9_finds at hf
  refine g_aload_n 0 dX9_finds_0 rfl rfl ?_
  refine g_bipush (v := -9) dX9_finds_1 rfl ?_
  obtain ⟨m1, e2, hf⟩ := bnd_some hf
  cases e2
  refine pf_941 dX9_finds_3 rfl ob_187 rfl ?_
  generalize m_up m 187 12 (-9 : Int32) = m1 at hf ⊢
  refine g_aload_n 0 dX9_finds_6 rfl rfl ?_
  refine g_iconst (v := 0) dX9_finds_7 rfl ?_
  obtain ⟨m3, e4, hf⟩ := bnd_some hf
  cases e4
  refine pf_940 dX9_finds_8 rfl ob_187 rfl ?_
  generalize m_up m1 187 11 (0 : Int32) = m3 at hf ⊢
  refine g_aload_n 0 dX9_finds_11 rfl rfl ?_
  refine g_iload_n 1 dX9_finds_12 rfl rfl ?_
  refine g_iconst (v := 2) dX9_finds_13 rfl ?_
  obtain ⟨q5, e6, hf⟩ := bnd_some hf
  refine p_callV (As := [.int a1, .int (2 : Int32)]) (rest := []) (t_X9_of e6) cw_1072 w_1074 w_34 ob_187 rfl (Nat.le_of_ble_eq_true rfl) rfl rfl (Nat.le_of_ble_eq_true rfl) dX9_finds_14 ?_
  refine g_istore_n dX9_finds_17 rfl (Nat.le_of_ble_eq_true rfl) rfl ?_
  refine g_aload_n 1 dX9_finds_18 rfl rfl ?_
  refine g_iload_n 2 dX9_finds_19 rfl rfl ?_
  refine g_iconst (v := 1) dX9_finds_20 rfl ?_
  obtain ⟨q7, e8, hf⟩ := bnd_some hf
  refine p_callV (As := [.int a1, .int (1 : Int32)]) (rest := []) (t_X9_of e8) cw_1072 w_1074 w_34 ob_187 rfl (Nat.le_of_ble_eq_true rfl) rfl rfl (Nat.le_of_ble_eq_true rfl) dX9_finds_21 ?_
  refine g_if_ne (tgt := 67) dX9_finds_24 (by decide) (fun c59 => ?_) (fun c59 => ?_)
  · replace hf := (if_neg c59).symm.trans hf
    refine g_iconst (v := 0) dX9_finds_67 rfl ?_
    refine g_istore_n dX9_finds_68 rfl (Nat.le_of_ble_eq_true rfl) rfl ?_
    refine g_sub [2, 3, 1, 0] rfl ?_
    obtain ⟨o40, e41, hf⟩ := bnd_some hf
    refine t_X9_finds_L69 (V := V) a1 q5 fU (0 : Int32) m3 _ e41 ?_
    refine g_iconst (v := 0) dX9_finds_169 rfl ?_
    refine g_istore_n dX9_finds_170 rfl (Nat.le_of_ble_eq_true rfl) rfl ?_
    refine g_sub [1, 2, 0] rfl ?_
    obtain ⟨o57, e58, hf⟩ := bnd_some hf
    refine t_X9_finds_L171 (V := V) q5 fU (0 : Int32) o40 _ e58 ?_
    cases hf
    exact g_vret dX9_finds_278 rfl
  · replace hf := (if_pos c59).symm.trans hf
    refine g_iconst (v := 0) dX9_finds_27 rfl ?_
    refine g_istore_n dX9_finds_28 rfl (Nat.le_of_ble_eq_true rfl) rfl ?_
    refine g_sub [2, 3, 1, 0] rfl ?_
    obtain ⟨o16, e17, hf⟩ := bnd_some hf
    refine t_X9_finds_L29 (V := V) a1 q5 fU (0 : Int32) m3 _ e17 ?_
    cases hf
    exact g_vret dX9_finds_66 rfl

abbrev k_X9_costOf : kX := (cX9_costOf, "WhoseHourItIsModel", "costOf", some .int, 2, 6)
def f_X9_costOf (a1 : Int32) (m : mM) : Option (Int32 × mM) :=
bnd (f_X9_finds a1 m) fun q1 =>
some ((q1 187 12), q1)
set_option maxRecDepth 100000 in
theorem t_X9_costOf {V : eV} {a1 : Int32}  {m : mM} {q : Int32 × mM} (hf : f_X9_costOf a1 m = some q) : eE V 6 yX9_costOf cX9_costOf 2 (some .int) [.ref (vB V + 187), .int a1] (hS m) (some (.int q.1)) (hS q.2) := by
  refine eE_of (by decide) (Nat.le_of_ble_eq_true rfl) ?_
  show gG V k_X9_costOf 0 [(0, .ref (vB V + 187)), (1, .int a1)] [] (hS m) _ _
  unfold f_X9_costOf at hf
  refine g_aload_n 0 dX9_costOf_0 rfl rfl ?_
  refine g_iload_n 1 dX9_costOf_1 rfl rfl ?_
  obtain ⟨q1, e2, hf⟩ := bnd_some hf
  refine p_callVv (As := [.int a1]) (rest := []) (t_X9_finds e2) cw_1084 w_1086 w_37 ob_187 rfl (Nat.le_of_ble_eq_true rfl) rfl rfl (Nat.le_of_ble_eq_true rfl) dX9_costOf_2 ?_
  refine g_aload_n 0 dX9_costOf_5 rfl rfl ?_
  refine gf_941 dX9_costOf_6 rfl ob_187 rfl ?_
  cases hf
  exact g_iret dX9_costOf_9 .int rfl rfl

abbrev k_X9_netBy : kX := (cX9_netBy, "WhoseHourItIsModel", "netBy", some .int, 4, 7)
def f_X9_netBy (a1 : Int32) (a2 : Int32) (m : mM) : Option (Int32 × mM) :=
bnd (f_X9_costOf a1 m) fun q1 =>
if q1.1 < 0 then (
some ((-9 : Int32), q1.2))
else (
if q1.1 ≤ a2 then (
some ((a2 - q1.1), q1.2))
else (
some ((-9 : Int32), q1.2)))
set_option maxRecDepth 100000 in
theorem t_X9_netBy {V : eV} {a1 : Int32} {a2 : Int32}  {m : mM} {q : Int32 × mM} (hf : f_X9_netBy a1 a2 m = some q) : eE V 7 yX9_netBy cX9_netBy 4 (some .int) [.ref (vB V + 187), .int a1, .int a2] (hS m) (some (.int q.1)) (hS q.2) := by
  refine eE_of (by decide) (Nat.le_of_ble_eq_true rfl) ?_
  show gG V k_X9_netBy 0 [(0, .ref (vB V + 187)), (1, .int a1), (2, .int a2)] [] (hS m) _ _
  unfold f_X9_netBy at hf
  refine g_aload_n 0 dX9_netBy_0 rfl rfl ?_
  refine g_iload_n 1 dX9_netBy_1 rfl rfl ?_
  obtain ⟨q1, e2, hf⟩ := bnd_some hf
  refine p_callV (As := [.int a1]) (rest := []) (t_X9_costOf e2) cw_1080 w_1082 w_36 ob_187 rfl (Nat.le_of_ble_eq_true rfl) rfl rfl (Nat.le_of_ble_eq_true rfl) dX9_netBy_2 ?_
  refine g_istore_n dX9_netBy_5 rfl (Nat.le_of_ble_eq_true rfl) rfl ?_
  refine g_iload_n 0 dX9_netBy_6 rfl rfl ?_
  refine g_if_lt (tgt := 15) dX9_netBy_7 (by decide) (fun c4 => ?_) (fun c4 => ?_)
  · replace hf := (if_pos c4).symm.trans hf
    refine g_bipush (v := -9) dX9_netBy_15 rfl ?_
    refine g_goto (tgt := 23) dX9_netBy_17 (by decide) ?_
    cases hf
    exact g_iret dX9_netBy_23 .int rfl rfl
  · replace hf := (if_neg c4).symm.trans hf
    refine g_iload_n 3 dX9_netBy_10 rfl rfl ?_
    refine g_iload_n 0 dX9_netBy_11 rfl rfl ?_
    refine g_icmp_ge (tgt := 20) dX9_netBy_12 (by decide) (fun c3 => ?_) (fun c3 => ?_)
    · replace hf := (if_pos c3).symm.trans hf
      refine g_iload_n 3 dX9_netBy_20 rfl rfl ?_
      refine g_iload_n 0 dX9_netBy_21 rfl rfl ?_
      refine g_isub dX9_netBy_22 ?_
      cases hf
      exact g_iret dX9_netBy_23 .int rfl rfl
    · replace hf := (if_neg c3).symm.trans hf
      refine g_bipush (v := -9) dX9_netBy_15 rfl ?_
      refine g_goto (tgt := 23) dX9_netBy_17 (by decide) ?_
      cases hf
      exact g_iret dX9_netBy_23 .int rfl rfl

abbrev k_X9_netOf : kX := (cX9_netOf, "WhoseHourItIsModel", "netOf", some .int, 2, 8)
def f_X9_netOf (a1 : Int32) (m : mM) : Option (Int32 × mM) :=
bnd (f_X9_of a1 (4 : Int32) m) fun q1 =>
bnd (f_X9_netBy a1 q1 m) fun q3 =>
some (q3.1, q3.2)
set_option maxRecDepth 100000 in
theorem t_X9_netOf {V : eV} {a1 : Int32}  {m : mM} {q : Int32 × mM} (hf : f_X9_netOf a1 m = some q) : eE V 8 yX9_netOf cX9_netOf 2 (some .int) [.ref (vB V + 187), .int a1] (hS m) (some (.int q.1)) (hS q.2) := by
  refine eE_of (by decide) (Nat.le_of_ble_eq_true rfl) ?_
  show gG V k_X9_netOf 0 [(0, .ref (vB V + 187)), (1, .int a1)] [] (hS m) _ _
  unfold f_X9_netOf at hf
  refine g_aload_n 0 dX9_netOf_0 rfl rfl ?_
  refine g_iload_n 1 dX9_netOf_1 rfl rfl ?_
  refine g_aload_n 0 dX9_netOf_2 rfl rfl ?_
  refine g_iload_n 1 dX9_netOf_3 rfl rfl ?_
  refine g_iconst (v := 4) dX9_netOf_4 rfl ?_
  obtain ⟨q1, e2, hf⟩ := bnd_some hf
  refine p_callV (As := [.int a1, .int (4 : Int32)]) (rest := [.int a1, .ref (vB V + 187)]) (t_X9_of e2) cw_1072 w_1074 w_34 ob_187 rfl (Nat.le_of_ble_eq_true rfl) rfl rfl (Nat.le_of_ble_eq_true rfl) dX9_netOf_5 ?_
  obtain ⟨q3, e4, hf⟩ := bnd_some hf
  refine p_callV (As := [.int a1, .int q1]) (rest := []) (t_X9_netBy e4) cw_1076 w_1078 w_35 ob_187 rfl (Nat.le_of_ble_eq_true rfl) rfl rfl (Nat.le_of_ble_eq_true rfl) dX9_netOf_8 ?_
  cases hf
  exact g_iret dX9_netOf_11 .int rfl rfl

abbrev k_X9_incomeOf : kX := (cX9_incomeOf, "WhoseHourItIsModel", "incomeOf", some .int, 5, 9)
def f_X9_incomeOf_L28 (b1 : Int32) (b3 : Int32) (m : mM) : Nat → Int32 → Int32 → Option (Int32)
  | 0, _, _ => none
  | n + 1, b2, b4 =>
      if (28 : Int32) ≤ b4 then (
      some b2)
      else (
      if (((m 187 11) >>> (b4 &&& 31)) &&& (1 : Int32)) = (1 : Int32) then (
      bnd (f_X9_hasPart_189 b4 b1 m) fun q5 =>
      if q5 = 0 then (
      f_X9_incomeOf_L28 b1 b3 m n b2 (b4 + (1 : Int32)))
      else (
      bnd (f_X9_partOf b3 b1 b4 m) fun q7 =>
      f_X9_incomeOf_L28 b1 b3 m n (b2 + q7) (b4 + (1 : Int32))))
      else (
      f_X9_incomeOf_L28 b1 b3 m n b2 (b4 + (1 : Int32))))
def f_X9_incomeOf_L4 (b1 : Int32) : Nat → Int32 → Int32 → mM → Option (Int32 × mM)
  | 0, _, _, _ => none
  | n + 1, b2, b3, m =>
      bnd (rdA 189 189 (1 : Int32) m) fun v1 =>
      if v1 ≤ b3 then (
      some (b2, m))
      else (
      bnd (f_X9_netOf b3 m) fun q3 =>
      if 0 ≤ q3.1 then (
      bnd (f_X9_incomeOf_L28 b1 b3 q3.2 fU b2 (0 : Int32)) fun o12 =>
      f_X9_incomeOf_L4 b1 n o12 (b3 + (1 : Int32)) q3.2)
      else (
      f_X9_incomeOf_L4 b1 n b2 (b3 + (1 : Int32)) q3.2))
def f_X9_incomeOf (a1 : Int32) (m : mM) : Option (Int32 × mM) :=
bnd (f_X9_incomeOf_L4 a1 fU (0 : Int32) (0 : Int32) m) fun o16 =>
some (o16.1, o16.2)
set_option maxRecDepth 100000 in
theorem t_X9_incomeOf_L28 {V : eV} (b1 : Int32) (b3 : Int32) (m : mM) {r : Option Value} {h' : aH} : ∀ (n : Nat) (b2 : Int32) (b4 : Int32) (o : Int32), f_X9_incomeOf_L28 b1 b3 m n b2 b4 = some o → gG V k_X9_incomeOf 78 [(0, .ref (vB V + 187)), (1, .int b1), (2, .int o), (3, .int b3)] [] (hS m) r h' → gG V k_X9_incomeOf 28 [(0, .ref (vB V + 187)), (1, .int b1), (2, .int b2), (3, .int b3), (4, .int b4)] [] (hS m) r h' := by
  intro n
  induction n with
  | zero => intro b2 b4 o hf; cases hf
  | succ n ih =>
    intro b2 b4 o hf hk
    rw [f_X9_incomeOf_L28] at hf
    refine g_iload 4 dX9_incomeOf_28 rfl ?_
    refine g_bipush (v := 28) dX9_incomeOf_30 rfl ?_
    refine g_icmp_ge (tgt := 78) dX9_incomeOf_32 (by decide) (fun c11 => ?_) (fun c11 => ?_)
    · replace hf := (if_pos c11).symm.trans hf
      cases hf
      refine g_sub [0, 1, 2, 3] rfl ?_
      exact hk
    · replace hf := (if_neg c11).symm.trans hf
      refine g_aload_n 0 dX9_incomeOf_35 rfl rfl ?_
      refine gf_940 dX9_incomeOf_36 rfl ob_187 rfl ?_
      refine g_iload 4 dX9_incomeOf_39 rfl ?_
      refine g_ishr dX9_incomeOf_41 ?_
      refine g_iconst (v := 1) dX9_incomeOf_42 rfl ?_
      refine g_iand dX9_incomeOf_43 ?_
      refine g_iconst (v := 1) dX9_incomeOf_44 rfl ?_
      refine g_icmp_ne (tgt := 72) dX9_incomeOf_45 (by decide) (fun c10 => ?_) (fun c10 => ?_)
      · replace hf := (if_neg c10).symm.trans hf
        refine g_iinc (q := 4) (v := (b4 + (1 : Int32))) dX9_incomeOf_72 rfl rfl (Nat.le_of_ble_eq_true rfl) rfl ?_
        refine g_goto (tgt := 28) dX9_incomeOf_75 (by decide) ?_
        refine g_sub [1, 2, 3, 4, 0] rfl ?_
        exact ih b2 (b4 + (1 : Int32)) _ hf hk
      · replace hf := (if_pos c10).symm.trans hf
        refine g_aload_n 0 dX9_incomeOf_48 rfl rfl ?_
        refine gf_930 dX9_incomeOf_49 rfl ob_187 rfl ?_
        refine g_iload 4 dX9_incomeOf_52 rfl ?_
        refine g_iload_n 1 dX9_incomeOf_54 rfl rfl ?_
        obtain ⟨q5, e6, hf⟩ := bnd_some hf
        refine p_callS (As := [.ref (vB V + 189), .int b4, .int b1]) (rest := []) (t_X9_hasPart_189 e6) cw_1043 w_1044 (Nat.le_of_ble_eq_true rfl) rfl rfl (Nat.le_of_ble_eq_true rfl) dX9_incomeOf_55 ?_
        refine g_if_eq (tgt := 72) dX9_incomeOf_58 (by decide) (fun c9 => ?_) (fun c9 => ?_)
        · replace hf := (if_pos c9).symm.trans hf
          refine g_iinc (q := 4) (v := (b4 + (1 : Int32))) dX9_incomeOf_72 rfl rfl (Nat.le_of_ble_eq_true rfl) rfl ?_
          refine g_goto (tgt := 28) dX9_incomeOf_75 (by decide) ?_
          refine g_sub [1, 2, 3, 4, 0] rfl ?_
          exact ih b2 (b4 + (1 : Int32)) _ hf hk
        · replace hf := (if_neg c9).symm.trans hf
          refine g_iload_n 2 dX9_incomeOf_61 rfl rfl ?_
          refine g_aload_n 0 dX9_incomeOf_62 rfl rfl ?_
          refine g_iload_n 3 dX9_incomeOf_63 rfl rfl ?_
          refine g_iload_n 1 dX9_incomeOf_64 rfl rfl ?_
          refine g_iload 4 dX9_incomeOf_65 rfl ?_
          obtain ⟨q7, e8, hf⟩ := bnd_some hf
          refine p_callV (As := [.int b3, .int b1, .int b4]) (rest := [.int b2]) (t_X9_partOf e8) cw_1096 w_1098 w_40 ob_187 rfl (Nat.le_of_ble_eq_true rfl) rfl rfl (Nat.le_of_ble_eq_true rfl) dX9_incomeOf_67 ?_
          refine g_iadd dX9_incomeOf_70 ?_
          refine g_istore_n dX9_incomeOf_71 rfl (Nat.le_of_ble_eq_true rfl) rfl ?_
          refine g_iinc (q := 4) (v := (b4 + (1 : Int32))) dX9_incomeOf_72 rfl rfl (Nat.le_of_ble_eq_true rfl) rfl ?_
          refine g_goto (tgt := 28) dX9_incomeOf_75 (by decide) ?_
          refine g_sub [2, 3, 1, 4, 0] rfl ?_
          exact ih (b2 + q7) (b4 + (1 : Int32)) _ hf hk

set_option maxRecDepth 100000 in
theorem t_X9_incomeOf_L4 {V : eV} (b1 : Int32) {r : Option Value} {h' : aH} : ∀ (n : Nat) (b2 : Int32) (b3 : Int32) (m : mM) (o : Int32 × mM), f_X9_incomeOf_L4 b1 n b2 b3 m = some o → gG V k_X9_incomeOf 84 [(2, .int o.1)] [] (hS o.2) r h' → gG V k_X9_incomeOf 4 [(0, .ref (vB V + 187)), (1, .int b1), (2, .int b2), (3, .int b3)] [] (hS m) r h' := by
  intro n
  induction n with
  | zero => intro b2 b3 m o hf; cases hf
  | succ n ih =>
    intro b2 b3 m o hf hk
    rw [f_X9_incomeOf_L4] at hf
    refine g_iload_n 3 dX9_incomeOf_4 rfl rfl ?_
    refine g_aload_n 0 dX9_incomeOf_5 rfl rfl ?_
    refine gf_930 dX9_incomeOf_6 rfl ob_187 rfl ?_
    refine g_iconst (v := 1) dX9_incomeOf_9 rfl ?_
    obtain ⟨v1, e2, hf⟩ := bnd_some hf
    refine p_iald dX9_incomeOf_10 at_189 e2 ?_
    refine g_icmp_ge (tgt := 84) dX9_incomeOf_11 (by decide) (fun c15 => ?_) (fun c15 => ?_)
    · replace hf := (if_pos c15).symm.trans hf
      cases hf
      refine g_sub [2] rfl ?_
      exact hk
    · replace hf := (if_neg c15).symm.trans hf
      refine g_aload_n 0 dX9_incomeOf_14 rfl rfl ?_
      refine g_iload_n 3 dX9_incomeOf_15 rfl rfl ?_
      obtain ⟨q3, e4, hf⟩ := bnd_some hf
      refine p_callV (As := [.int b3]) (rest := []) (t_X9_netOf e4) cw_1068 w_1070 w_33 ob_187 rfl (Nat.le_of_ble_eq_true rfl) rfl rfl (Nat.le_of_ble_eq_true rfl) dX9_incomeOf_16 ?_
      refine g_if_ge (tgt := 25) dX9_incomeOf_19 (by decide) (fun c14 => ?_) (fun c14 => ?_)
      · replace hf := (if_pos c14).symm.trans hf
        refine g_iconst (v := 0) dX9_incomeOf_25 rfl ?_
        refine g_istore dX9_incomeOf_26 (Nat.le_of_ble_eq_true rfl) rfl ?_
        refine g_sub [1, 2, 3, 4, 0] rfl ?_
        obtain ⟨o12, e13, hf⟩ := bnd_some hf
        refine t_X9_incomeOf_L28 (V := V) b1 b3 q3.2 fU b2 (0 : Int32) _ e13 ?_
        refine g_iinc (q := 3) (v := (b3 + (1 : Int32))) dX9_incomeOf_78 rfl rfl (Nat.le_of_ble_eq_true rfl) rfl ?_
        refine g_goto (tgt := 4) dX9_incomeOf_81 (by decide) ?_
        refine g_sub [1, 2, 3, 0] rfl ?_
        exact ih o12 (b3 + (1 : Int32)) q3.2 _ hf hk
      · replace hf := (if_neg c14).symm.trans hf
        refine g_goto (tgt := 78) dX9_incomeOf_22 (by decide) ?_
        refine g_iinc (q := 3) (v := (b3 + (1 : Int32))) dX9_incomeOf_78 rfl rfl (Nat.le_of_ble_eq_true rfl) rfl ?_
        refine g_goto (tgt := 4) dX9_incomeOf_81 (by decide) ?_
        refine g_sub [1, 2, 3, 0] rfl ?_
        exact ih b2 (b3 + (1 : Int32)) q3.2 _ hf hk

set_option maxRecDepth 100000 in
theorem t_X9_incomeOf {V : eV} {a1 : Int32}  {m : mM} {q : Int32 × mM} (hf : f_X9_incomeOf a1 m = some q) : eE V 9 yX9_incomeOf cX9_incomeOf 5 (some .int) [.ref (vB V + 187), .int a1] (hS m) (some (.int q.1)) (hS q.2) := by
  refine eE_of (by decide) (Nat.le_of_ble_eq_true rfl) ?_
  show gG V k_X9_incomeOf 0 [(0, .ref (vB V + 187)), (1, .int a1)] [] (hS m) _ _
  unfold f_X9_incomeOf at hf
  refine g_iconst (v := 0) dX9_incomeOf_0 rfl ?_
  refine g_istore_n dX9_incomeOf_1 rfl (Nat.le_of_ble_eq_true rfl) rfl ?_
  refine g_iconst (v := 0) dX9_incomeOf_2 rfl ?_
  refine g_istore_n dX9_incomeOf_3 rfl (Nat.le_of_ble_eq_true rfl) rfl ?_
  refine g_sub [2, 3, 1, 0] rfl ?_
  obtain ⟨o16, e17, hf⟩ := bnd_some hf
  refine t_X9_incomeOf_L4 (V := V) a1 fU (0 : Int32) (0 : Int32) m _ e17 ?_
  refine g_iload_n 0 dX9_incomeOf_84 rfl rfl ?_
  cases hf
  exact g_iret dX9_incomeOf_85 .int rfl rfl

abbrev k_X9_holder : kX := (cX9_holder, "WhoseHourItIsModel", "holder", some .int, 5, 10)
def f_X9_holder_L60 (b1 : Int32) (m : mM) : Nat → Int32 → Int32 → Option (Int32)
  | 0, _, _ => none
  | n + 1, b3, b4 =>
      if (28 : Int32) ≤ b4 then (
      some b3)
      else (
      bnd (f_X9_hasPart_189 b4 b1 m) fun q15 =>
      if q15 = 0 then (
      f_X9_holder_L60 b1 m n (b3 + (0 : Int32)) (b4 + (1 : Int32)))
      else (
      f_X9_holder_L60 b1 m n (b3 + (1 : Int32)) (b4 + (1 : Int32))))
def f_X9_holder (a1 : Int32) (a2 : Int32) (m : mM) : Option (Int32 × mM) :=
bnd (f_X9_isHolder a1 m) fun q1 =>
if q1 = 0 then (
bnd (f_X9_refuse (-1 : Int32) m) fun q3 =>
some (q3.1, q3.2))
else (
if a2 = (0 : Int32) then (
bnd (f_X9_get a1 a2 m) fun q6 =>
some (q6, m))
else (
if a2 = (1 : Int32) then (
bnd (f_X9_get a1 a2 m) fun q9 =>
some (q9, m))
else (
if a2 = (2 : Int32) then (
bnd (f_X9_get a1 a2 m) fun q12 =>
some (q12, m))
else (
if a2 = (3 : Int32) then (
bnd (f_X9_holder_L60 a1 m fU (0 : Int32) (0 : Int32)) fun o19 =>
some (o19, m))
else (
if a2 = (4 : Int32) then (
bnd (f_X9_incomeOf a1 m) fun q22 =>
some (q22.1, q22.2))
else (
bnd (f_X9_refuse (-2 : Int32) m) fun q24 =>
some (q24.1, q24.2)))))))
set_option maxRecDepth 100000 in
theorem t_X9_holder_L60 {V : eV} (b1 : Int32) (m : mM) {r : Option Value} {h' : aH} : ∀ (n : Nat) (b3 : Int32) (b4 : Int32) (o : Int32), f_X9_holder_L60 b1 m n b3 b4 = some o → gG V k_X9_holder 94 [(3, .int o)] [] (hS m) r h' → gG V k_X9_holder 60 [(0, .ref (vB V + 187)), (1, .int b1), (3, .int b3), (4, .int b4)] [] (hS m) r h' := by
  intro n
  induction n with
  | zero => intro b3 b4 o hf; cases hf
  | succ n ih =>
    intro b3 b4 o hf hk
    rw [f_X9_holder_L60] at hf
    refine g_iload 3 dX9_holder_60 rfl ?_
    refine g_bipush (v := 28) dX9_holder_62 rfl ?_
    refine g_icmp_ge (tgt := 94) dX9_holder_64 (by decide) (fun c18 => ?_) (fun c18 => ?_)
    · replace hf := (if_pos c18).symm.trans hf
      cases hf
      refine g_sub [2] rfl ?_
      exact hk
    · replace hf := (if_neg c18).symm.trans hf
      refine g_iload_n 2 dX9_holder_67 rfl rfl ?_
      refine g_aload_n 0 dX9_holder_68 rfl rfl ?_
      refine gf_930 dX9_holder_69 rfl ob_187 rfl ?_
      refine g_iload 3 dX9_holder_72 rfl ?_
      refine g_iload_n 1 dX9_holder_74 rfl rfl ?_
      obtain ⟨q15, e16, hf⟩ := bnd_some hf
      refine p_callS (As := [.ref (vB V + 189), .int b4, .int b1]) (rest := [.int b3]) (t_X9_hasPart_189 e16) cw_1043 w_1044 (Nat.le_of_ble_eq_true rfl) rfl rfl (Nat.le_of_ble_eq_true rfl) dX9_holder_75 ?_
      refine g_if_eq (tgt := 85) dX9_holder_78 (by decide) (fun c17 => ?_) (fun c17 => ?_)
      · replace hf := (if_pos c17).symm.trans hf
        refine g_iconst (v := 0) dX9_holder_85 rfl ?_
        refine g_iadd dX9_holder_86 ?_
        refine g_istore_n dX9_holder_87 rfl (Nat.le_of_ble_eq_true rfl) rfl ?_
        refine g_iinc (q := 3) (v := (b4 + (1 : Int32))) dX9_holder_88 rfl rfl (Nat.le_of_ble_eq_true rfl) rfl ?_
        refine g_goto (tgt := 60) dX9_holder_91 (by decide) ?_
        refine g_sub [2, 3, 1, 0] rfl ?_
        exact ih (b3 + (0 : Int32)) (b4 + (1 : Int32)) _ hf hk
      · replace hf := (if_neg c17).symm.trans hf
        refine g_iconst (v := 1) dX9_holder_81 rfl ?_
        refine g_goto (tgt := 86) dX9_holder_82 (by decide) ?_
        refine g_iadd dX9_holder_86 ?_
        refine g_istore_n dX9_holder_87 rfl (Nat.le_of_ble_eq_true rfl) rfl ?_
        refine g_iinc (q := 3) (v := (b4 + (1 : Int32))) dX9_holder_88 rfl rfl (Nat.le_of_ble_eq_true rfl) rfl ?_
        refine g_goto (tgt := 60) dX9_holder_91 (by decide) ?_
        refine g_sub [2, 3, 1, 0] rfl ?_
        exact ih (b3 + (1 : Int32)) (b4 + (1 : Int32)) _ hf hk

set_option maxRecDepth 100000 in
theorem t_X9_holder {V : eV} {a1 : Int32} {a2 : Int32}  {m : mM} {q : Int32 × mM} (hf : f_X9_holder a1 a2 m = some q) : eE V 10 yX9_holder cX9_holder 5 (some .int) [.ref (vB V + 187), .int a1, .int a2] (hS m) (some (.int q.1)) (hS q.2) := by
  refine eE_of (by decide) (Nat.le_of_ble_eq_true rfl) ?_
  show gG V k_X9_holder 0 [(0, .ref (vB V + 187)), (1, .int a1), (2, .int a2)] [] (hS m) _ _
  unfold f_X9_holder at hf
  refine g_aload_n 0 dX9_holder_0 rfl rfl ?_
  refine g_iload_n 1 dX9_holder_1 rfl rfl ?_
  obtain ⟨q1, e2, hf⟩ := bnd_some hf
  refine p_callV (As := [.int a1]) (rest := []) (t_X9_isHolder e2) cw_1053 w_1055 w_30 ob_187 rfl (Nat.le_of_ble_eq_true rfl) rfl rfl (Nat.le_of_ble_eq_true rfl) dX9_holder_2 ?_
  refine g_if_ne (tgt := 14) dX9_holder_5 (by decide) (fun c26 => ?_) (fun c26 => ?_)
  · replace hf := (if_neg c26).symm.trans hf
    refine g_iload_n 2 dX9_holder_14 rfl rfl ?_
    by_cases c5 : a2 = (0 : Int32)
    · replace hf := (if_pos c5).symm.trans hf
      refine g_tableIn (tgt := 48) (off := 33) dX9_holder_15 (by rw [c5]; decide) (by rw [c5]; decide) (by rw [c5]; rfl) (by decide) ?_
      refine g_aload_n 0 dX9_holder_48 rfl rfl ?_
      refine g_iload_n 1 dX9_holder_49 rfl rfl ?_
      refine g_iload_n 2 dX9_holder_50 rfl rfl ?_
      obtain ⟨q6, e7, hf⟩ := bnd_some hf
      refine p_callV (As := [.int a1, .int a2]) (rest := []) (t_X9_get e7) cw_1060 w_1062 w_31 ob_187 rfl (Nat.le_of_ble_eq_true rfl) rfl rfl (Nat.le_of_ble_eq_true rfl) dX9_holder_51 ?_
      cases hf
      exact g_iret dX9_holder_54 .int rfl rfl
    · replace hf := (if_neg c5).symm.trans hf
      by_cases c8 : a2 = (1 : Int32)
      · replace hf := (if_pos c8).symm.trans hf
        refine g_tableIn (tgt := 48) (off := 33) dX9_holder_15 (by rw [c8]; decide) (by rw [c8]; decide) (by rw [c8]; rfl) (by decide) ?_
        refine g_aload_n 0 dX9_holder_48 rfl rfl ?_
        refine g_iload_n 1 dX9_holder_49 rfl rfl ?_
        refine g_iload_n 2 dX9_holder_50 rfl rfl ?_
        obtain ⟨q9, e10, hf⟩ := bnd_some hf
        refine p_callV (As := [.int a1, .int a2]) (rest := []) (t_X9_get e10) cw_1060 w_1062 w_31 ob_187 rfl (Nat.le_of_ble_eq_true rfl) rfl rfl (Nat.le_of_ble_eq_true rfl) dX9_holder_51 ?_
        cases hf
        exact g_iret dX9_holder_54 .int rfl rfl
      · replace hf := (if_neg c8).symm.trans hf
        by_cases c11 : a2 = (2 : Int32)
        · replace hf := (if_pos c11).symm.trans hf
          refine g_tableIn (tgt := 48) (off := 33) dX9_holder_15 (by rw [c11]; decide) (by rw [c11]; decide) (by rw [c11]; rfl) (by decide) ?_
          refine g_aload_n 0 dX9_holder_48 rfl rfl ?_
          refine g_iload_n 1 dX9_holder_49 rfl rfl ?_
          refine g_iload_n 2 dX9_holder_50 rfl rfl ?_
          obtain ⟨q12, e13, hf⟩ := bnd_some hf
          refine p_callV (As := [.int a1, .int a2]) (rest := []) (t_X9_get e13) cw_1060 w_1062 w_31 ob_187 rfl (Nat.le_of_ble_eq_true rfl) rfl rfl (Nat.le_of_ble_eq_true rfl) dX9_holder_51 ?_
          cases hf
          exact g_iret dX9_holder_54 .int rfl rfl
        · replace hf := (if_neg c11).symm.trans hf
          by_cases c14 : a2 = (3 : Int32)
          · replace hf := (if_pos c14).symm.trans hf
            refine g_tableIn (tgt := 55) (off := 40) dX9_holder_15 (by rw [c14]; decide) (by rw [c14]; decide) (by rw [c14]; rfl) (by decide) ?_
            refine g_iconst (v := 0) dX9_holder_55 rfl ?_
            refine g_istore_n dX9_holder_56 rfl (Nat.le_of_ble_eq_true rfl) rfl ?_
            refine g_iconst (v := 0) dX9_holder_57 rfl ?_
            refine g_istore dX9_holder_58 (Nat.le_of_ble_eq_true rfl) rfl ?_
            refine g_sub [2, 3, 1, 0] rfl ?_
            obtain ⟨o19, e20, hf⟩ := bnd_some hf
            refine t_X9_holder_L60 (V := V) a1 m fU (0 : Int32) (0 : Int32) _ e20 ?_
            refine g_iload_n 0 dX9_holder_94 rfl rfl ?_
            cases hf
            exact g_iret dX9_holder_95 .int rfl rfl
          · replace hf := (if_neg c14).symm.trans hf
            by_cases c21 : a2 = (4 : Int32)
            · replace hf := (if_pos c21).symm.trans hf
              refine g_tableIn (tgt := 96) (off := 81) dX9_holder_15 (by rw [c21]; decide) (by rw [c21]; decide) (by rw [c21]; rfl) (by decide) ?_
              refine g_aload_n 0 dX9_holder_96 rfl rfl ?_
              refine g_iload_n 1 dX9_holder_97 rfl rfl ?_
              obtain ⟨q22, e23, hf⟩ := bnd_some hf
              refine p_callV (As := [.int a1]) (rest := []) (t_X9_incomeOf e23) cw_1064 w_1066 w_32 ob_187 rfl (Nat.le_of_ble_eq_true rfl) rfl rfl (Nat.le_of_ble_eq_true rfl) dX9_holder_98 ?_
              cases hf
              exact g_iret dX9_holder_101 .int rfl rfl
            · replace hf := (if_neg c21).symm.trans hf
              have hsw := sw_out (lo := 0) (hi := 4) (x := a2) (fun z z1 z2 => by
                  have zz : z = 0 ∨ z = 1 ∨ z = 2 ∨ z = 3 ∨ z = 4 := by omega
                  rcases zz with rfl | rfl | rfl | rfl | rfl <;> assumption)
              refine g_tableOut (tgt := 102) dX9_holder_15 hsw (by decide) ?_
              refine g_aload_n 0 dX9_holder_102 rfl rfl ?_
              refine g_bipush (v := -2) dX9_holder_103 rfl ?_
              obtain ⟨q24, e25, hf⟩ := bnd_some hf
              refine p_callV (As := [.int (-2 : Int32)]) (rest := []) (t_X9_refuse e25) cw_1000 w_1002 w_22 ob_187 rfl (Nat.le_of_ble_eq_true rfl) rfl rfl (Nat.le_of_ble_eq_true rfl) dX9_holder_105 ?_
              cases hf
              exact g_iret dX9_holder_108 .int rfl rfl
  · replace hf := (if_pos c26).symm.trans hf
    refine g_aload_n 0 dX9_holder_8 rfl rfl ?_
    refine g_iconst (v := -1) dX9_holder_9 rfl ?_
    obtain ⟨q3, e4, hf⟩ := bnd_some hf
    refine p_callV (As := [.int (-1 : Int32)]) (rest := []) (t_X9_refuse e4) cw_1000 w_1002 w_22 ob_187 rfl (Nat.le_of_ble_eq_true rfl) rfl rfl (Nat.le_of_ble_eq_true rfl) dX9_holder_10 ?_
    cases hf
    exact g_iret dX9_holder_13 .int rfl rfl

abbrev k_X9_isHour : kX := (cX9_isHour, "WhoseHourItIsModel", "isHour", some .boolean, 1, 1)
def f_X9_isHour (a0 : Int32) (m : mM) : Option (Int32) :=
bnd (f_X9_isIn a0 (28 : Int32) m) fun q1 =>
bnd (nzB q1) fun v3 =>
some v3
set_option maxRecDepth 100000 in
theorem t_X9_isHour {V : eV} {a0 : Int32}  {m : mM} {q : Int32} (hf : f_X9_isHour a0 m = some q) : eE V 1 yX9_isHour cX9_isHour 1 (some .boolean) [.int a0] (hS m) (some (.int q)) (hS m) := by
  refine eE_of (by decide) (Nat.le_of_ble_eq_true rfl) ?_
  show gG V k_X9_isHour 0 [(0, .int a0)] [] (hS m) _ _
  unfold f_X9_isHour at hf
  refine g_iload_n 0 dX9_isHour_0 rfl rfl ?_
  refine g_bipush (v := 28) dX9_isHour_1 rfl ?_
  obtain ⟨q1, e2, hf⟩ := bnd_some hf
  refine p_callS (As := [.int a0, .int (28 : Int32)]) (rest := []) (t_X9_isIn e2) cw_1057 w_1058 (Nat.le_of_ble_eq_true rfl) rfl rfl (Nat.le_of_ble_eq_true rfl) dX9_isHour_3 ?_
  obtain ⟨v3, e4, hf⟩ := bnd_some hf
  obtain ⟨hn, rfl⟩ := nzB_n e4
  cases hf
  exact g_iret dX9_isHour_6 .boolean rfl hn

abbrev k_X9_hour : kX := (cX9_hour, "WhoseHourItIsModel", "hour", some .int, 4, 2)
def f_X9_hour (a1 : Int32) (a2 : Int32) (m : mM) : Option (Int32 × mM) :=
bnd (f_X9_isHour a1 m) fun q1 =>
if q1 = 0 then (
bnd (f_X9_refuse (-1 : Int32) m) fun q3 =>
some (q3.1, q3.2))
else (
if (-1 : Int32) ≤ a2 then (
bnd (rdA 189 189 ((9 : Int32) + ((4 : Int32) * a1)) m) fun v5 =>
if 0 ≤ a2 then (
if v5 ≤ a2 then (
some ((-9 : Int32), m))
else (
bnd (rdA 189 189 ((((9 : Int32) + ((4 : Int32) * a1)) + (1 : Int32)) + a2) m) fun v7 =>
some (v7, m)))
else (
some (v5, m)))
else (
bnd (f_X9_refuse (-4 : Int32) m) fun q11 =>
some (q11.1, q11.2)))
set_option maxRecDepth 100000 in
theorem t_X9_hour {V : eV} {a1 : Int32} {a2 : Int32}  {m : mM} {q : Int32 × mM} (hf : f_X9_hour a1 a2 m = some q) : eE V 2 yX9_hour cX9_hour 4 (some .int) [.ref (vB V + 187), .int a1, .int a2] (hS m) (some (.int q.1)) (hS q.2) := by
  refine eE_of (by decide) (Nat.le_of_ble_eq_true rfl) ?_
  show gG V k_X9_hour 0 [(0, .ref (vB V + 187)), (1, .int a1), (2, .int a2)] [] (hS m) _ _
  unfold f_X9_hour at hf
  refine g_iload_n 1 dX9_hour_0 rfl rfl ?_
  obtain ⟨q1, e2, hf⟩ := bnd_some hf
  refine p_callS (As := [.int a1]) (rest := []) (t_X9_isHour e2) cw_1113 w_1114 (Nat.le_of_ble_eq_true rfl) rfl rfl (Nat.le_of_ble_eq_true rfl) dX9_hour_1 ?_
  refine g_if_ne (tgt := 13) dX9_hour_4 (by decide) (fun c14 => ?_) (fun c14 => ?_)
  · replace hf := (if_neg c14).symm.trans hf
    refine g_iload_n 2 dX9_hour_13 rfl rfl ?_
    refine g_iconst (v := -1) dX9_hour_14 rfl ?_
    refine g_icmp_ge (tgt := 25) dX9_hour_15 (by decide) (fun c13 => ?_) (fun c13 => ?_)
    · replace hf := (if_pos c13).symm.trans hf
      refine g_aload_n 0 dX9_hour_25 rfl rfl ?_
      refine gf_930 dX9_hour_26 rfl ob_187 rfl ?_
      refine g_bipush (v := 9) dX9_hour_29 rfl ?_
      refine g_iconst (v := 4) dX9_hour_31 rfl ?_
      refine g_iload_n 1 dX9_hour_32 rfl rfl ?_
      refine g_imul dX9_hour_33 ?_
      refine g_iadd dX9_hour_34 ?_
      obtain ⟨v5, e6, hf⟩ := bnd_some hf
      refine p_iald dX9_hour_35 at_189 e6 ?_
      refine g_istore_n dX9_hour_36 rfl (Nat.le_of_ble_eq_true rfl) rfl ?_
      refine g_iload_n 3 dX9_hour_37 rfl rfl ?_
      refine g_if_ge (tgt := 45) dX9_hour_38 (by decide) (fun c10 => ?_) (fun c10 => ?_)
      · replace hf := (if_pos c10).symm.trans hf
        refine g_iload_n 3 dX9_hour_45 rfl rfl ?_
        refine g_iload_n 0 dX9_hour_46 rfl rfl ?_
        refine g_icmp_ge (tgt := 68) dX9_hour_47 (by decide) (fun c9 => ?_) (fun c9 => ?_)
        · replace hf := (if_pos c9).symm.trans hf
          refine g_bipush (v := -9) dX9_hour_68 rfl ?_
          cases hf
          exact g_iret dX9_hour_70 .int rfl rfl
        · replace hf := (if_neg c9).symm.trans hf
          refine g_aload_n 1 dX9_hour_50 rfl rfl ?_
          refine gf_930 dX9_hour_51 rfl ob_187 rfl ?_
          refine g_bipush (v := 9) dX9_hour_54 rfl ?_
          refine g_iconst (v := 4) dX9_hour_56 rfl ?_
          refine g_iload_n 2 dX9_hour_57 rfl rfl ?_
          refine g_imul dX9_hour_58 ?_
          refine g_iadd dX9_hour_59 ?_
          refine g_iconst (v := 1) dX9_hour_60 rfl ?_
          refine g_iadd dX9_hour_61 ?_
          refine g_iload_n 3 dX9_hour_62 rfl rfl ?_
          refine g_iadd dX9_hour_63 ?_
          obtain ⟨v7, e8, hf⟩ := bnd_some hf
          refine p_iald dX9_hour_64 at_189 e8 ?_
          refine g_goto (tgt := 70) dX9_hour_65 (by decide) ?_
          cases hf
          exact g_iret dX9_hour_70 .int rfl rfl
      · replace hf := (if_neg c10).symm.trans hf
        refine g_iload_n 0 dX9_hour_41 rfl rfl ?_
        refine g_goto (tgt := 70) dX9_hour_42 (by decide) ?_
        cases hf
        exact g_iret dX9_hour_70 .int rfl rfl
    · replace hf := (if_neg c13).symm.trans hf
      refine g_aload_n 0 dX9_hour_18 rfl rfl ?_
      refine g_bipush (v := -4) dX9_hour_19 rfl ?_
      obtain ⟨q11, e12, hf⟩ := bnd_some hf
      refine p_callV (As := [.int (-4 : Int32)]) (rest := []) (t_X9_refuse e12) cw_1000 w_1002 w_22 ob_187 rfl (Nat.le_of_ble_eq_true rfl) rfl rfl (Nat.le_of_ble_eq_true rfl) dX9_hour_21 ?_
      cases hf
      exact g_iret dX9_hour_24 .int rfl rfl
  · replace hf := (if_pos c14).symm.trans hf
    refine g_aload_n 0 dX9_hour_7 rfl rfl ?_
    refine g_iconst (v := -1) dX9_hour_8 rfl ?_
    obtain ⟨q3, e4, hf⟩ := bnd_some hf
    refine p_callV (As := [.int (-1 : Int32)]) (rest := []) (t_X9_refuse e4) cw_1000 w_1002 w_22 ob_187 rfl (Nat.le_of_ble_eq_true rfl) rfl rfl (Nat.le_of_ble_eq_true rfl) dX9_hour_9 ?_
    cases hf
    exact g_iret dX9_hour_12 .int rfl rfl

abbrev k_X9_isWork : kX := (cX9_isWork, "WhoseHourItIsModel", "isWork", some .boolean, 2, 1)
def f_X9_isWork (a1 : Int32) (m : mM) : Option (Int32) :=
bnd (rdA 189 189 (1 : Int32) m) fun v1 =>
bnd (f_X9_isIn a1 v1 m) fun q3 =>
bnd (nzB q3) fun v5 =>
some v5
set_option maxRecDepth 100000 in
theorem t_X9_isWork {V : eV} {a1 : Int32}  {m : mM} {q : Int32} (hf : f_X9_isWork a1 m = some q) : eE V 1 yX9_isWork cX9_isWork 2 (some .boolean) [.ref (vB V + 187), .int a1] (hS m) (some (.int q)) (hS m) := by
  refine eE_of (by decide) (Nat.le_of_ble_eq_true rfl) ?_
  show gG V k_X9_isWork 0 [(0, .ref (vB V + 187)), (1, .int a1)] [] (hS m) _ _
  unfold f_X9_isWork at hf
  refine g_iload_n 1 dX9_isWork_0 rfl rfl ?_
  refine g_aload_n 0 dX9_isWork_1 rfl rfl ?_
  refine gf_930 dX9_isWork_2 rfl ob_187 rfl ?_
  refine g_iconst (v := 1) dX9_isWork_5 rfl ?_
  obtain ⟨v1, e2, hf⟩ := bnd_some hf
  refine p_iald dX9_isWork_6 at_189 e2 ?_
  obtain ⟨q3, e4, hf⟩ := bnd_some hf
  refine p_callS (As := [.int a1, .int v1]) (rest := []) (t_X9_isIn e4) cw_1057 w_1058 (Nat.le_of_ble_eq_true rfl) rfl rfl (Nat.le_of_ble_eq_true rfl) dX9_isWork_7 ?_
  obtain ⟨v5, e6, hf⟩ := bnd_some hf
  obtain ⟨hn, rfl⟩ := nzB_n e6
  cases hf
  exact g_iret dX9_isWork_10 .boolean rfl hn

abbrev k_X9_work : kX := (cX9_work, "WhoseHourItIsModel", "work", some .int, 3, 2)
def f_X9_work (a1 : Int32) (a2 : Int32) (m : mM) : Option (Int32 × mM) :=
bnd (f_X9_isWork a1 m) fun q1 =>
if q1 = 0 then (
bnd (f_X9_refuse (-1 : Int32) m) fun q3 =>
some (q3.1, q3.2))
else (
bnd (f_X9_isIn a2 (6 : Int32) m) fun q5 =>
if q5 = 0 then (
bnd (f_X9_refuse (-2 : Int32) m) fun q7 =>
some (q7.1, q7.2))
else (
bnd (f_X9_of a1 a2 m) fun q9 =>
some (q9, m)))
set_option maxRecDepth 100000 in
theorem t_X9_work {V : eV} {a1 : Int32} {a2 : Int32}  {m : mM} {q : Int32 × mM} (hf : f_X9_work a1 a2 m = some q) : eE V 2 yX9_work cX9_work 3 (some .int) [.ref (vB V + 187), .int a1, .int a2] (hS m) (some (.int q.1)) (hS q.2) := by
  refine eE_of (by decide) (Nat.le_of_ble_eq_true rfl) ?_
  show gG V k_X9_work 0 [(0, .ref (vB V + 187)), (1, .int a1), (2, .int a2)] [] (hS m) _ _
  unfold f_X9_work at hf
  refine g_aload_n 0 dX9_work_0 rfl rfl ?_
  refine g_iload_n 1 dX9_work_1 rfl rfl ?_
  obtain ⟨q1, e2, hf⟩ := bnd_some hf
  refine p_callV (As := [.int a1]) (rest := []) (t_X9_isWork e2) cw_1120 w_1122 w_43 ob_187 rfl (Nat.le_of_ble_eq_true rfl) rfl rfl (Nat.le_of_ble_eq_true rfl) dX9_work_2 ?_
  refine g_if_ne (tgt := 16) dX9_work_5 (by decide) (fun c12 => ?_) (fun c12 => ?_)
  · replace hf := (if_neg c12).symm.trans hf
    refine g_iload_n 2 dX9_work_16 rfl rfl ?_
    refine g_bipush (v := 6) dX9_work_17 rfl ?_
    obtain ⟨q5, e6, hf⟩ := bnd_some hf
    refine p_callS (As := [.int a2, .int (6 : Int32)]) (rest := []) (t_X9_isIn e6) cw_1057 w_1058 (Nat.le_of_ble_eq_true rfl) rfl rfl (Nat.le_of_ble_eq_true rfl) dX9_work_19 ?_
    refine g_if_eq (tgt := 34) dX9_work_22 (by decide) (fun c11 => ?_) (fun c11 => ?_)
    · replace hf := (if_pos c11).symm.trans hf
      refine g_aload_n 0 dX9_work_34 rfl rfl ?_
      refine g_bipush (v := -2) dX9_work_35 rfl ?_
      obtain ⟨q7, e8, hf⟩ := bnd_some hf
      refine p_callV (As := [.int (-2 : Int32)]) (rest := []) (t_X9_refuse e8) cw_1000 w_1002 w_22 ob_187 rfl (Nat.le_of_ble_eq_true rfl) rfl rfl (Nat.le_of_ble_eq_true rfl) dX9_work_37 ?_
      cases hf
      exact g_iret dX9_work_40 .int rfl rfl
    · replace hf := (if_neg c11).symm.trans hf
      refine g_aload_n 0 dX9_work_25 rfl rfl ?_
      refine g_iload_n 1 dX9_work_26 rfl rfl ?_
      refine g_iload_n 2 dX9_work_27 rfl rfl ?_
      obtain ⟨q9, e10, hf⟩ := bnd_some hf
      refine p_callV (As := [.int a1, .int a2]) (rest := []) (t_X9_of e10) cw_1072 w_1074 w_34 ob_187 rfl (Nat.le_of_ble_eq_true rfl) rfl rfl (Nat.le_of_ble_eq_true rfl) dX9_work_28 ?_
      refine g_goto (tgt := 40) dX9_work_31 (by decide) ?_
      cases hf
      exact g_iret dX9_work_40 .int rfl rfl
  · replace hf := (if_pos c12).symm.trans hf
    refine g_aload_n 0 dX9_work_8 rfl rfl ?_
    refine g_iconst (v := -1) dX9_work_9 rfl ?_
    obtain ⟨q3, e4, hf⟩ := bnd_some hf
    refine p_callV (As := [.int (-1 : Int32)]) (rest := []) (t_X9_refuse e4) cw_1000 w_1002 w_22 ob_187 rfl (Nat.le_of_ble_eq_true rfl) rfl rfl (Nat.le_of_ble_eq_true rfl) dX9_work_10 ?_
    refine g_goto (tgt := 40) dX9_work_13 (by decide) ?_
    cases hf
    exact g_iret dX9_work_40 .int rfl rfl

abbrev k_X9_becomes : kX := (cX9_becomes, "WhoseHourItIsModel", "becomes", some .int, 4, 0)
def f_X9_becomes (a1 : Int32) (a2 : Int32) (m : mM) : Option (Int32 × mM) :=
bnd (rdA 189 189 a1 m) fun v1 =>
bnd (wrA 189 189 a1 a2 m) fun m3 =>
some (v1, m3)
set_option maxRecDepth 100000 in
theorem t_X9_becomes {V : eV} {a1 : Int32} {a2 : Int32}  {m : mM} {q : Int32 × mM} (hf : f_X9_becomes a1 a2 m = some q) : eE V 0 yX9_becomes cX9_becomes 4 (some .int) [.ref (vB V + 187), .int a1, .int a2] (hS m) (some (.int q.1)) (hS q.2) := by
  refine eE_of (by decide) (Nat.le_of_ble_eq_true rfl) ?_
  show gG V k_X9_becomes 0 [(0, .ref (vB V + 187)), (1, .int a1), (2, .int a2)] [] (hS m) _ _
  unfold f_X9_becomes at hf
  refine g_aload_n 0 dX9_becomes_0 rfl rfl ?_
  refine gf_930 dX9_becomes_1 rfl ob_187 rfl ?_
  refine g_iload_n 1 dX9_becomes_4 rfl rfl ?_
  obtain ⟨v1, e2, hf⟩ := bnd_some hf
  refine p_iald dX9_becomes_5 at_189 e2 ?_
  refine g_istore_n dX9_becomes_6 rfl (Nat.le_of_ble_eq_true rfl) rfl ?_
  refine g_aload_n 1 dX9_becomes_7 rfl rfl ?_
  refine gf_930 dX9_becomes_8 rfl ob_187 rfl ?_
  refine g_iload_n 2 dX9_becomes_11 rfl rfl ?_
  refine g_iload_n 3 dX9_becomes_12 rfl rfl ?_
  obtain ⟨m3, e4, hf⟩ := bnd_some hf
  refine p_iast dX9_becomes_13 at_189 e4 ?_
  refine g_iload_n 0 dX9_becomes_14 rfl rfl ?_
  cases hf
  exact g_iret dX9_becomes_15 .int rfl rfl

abbrev k_X9_within : kX := (cX9_within, "WhoseHourItIsModel", "within", some .int, 3, 0)
def f_X9_within (a0 : Int32) (a1 : Int32) (a2 : Int32) (m : mM) : Option (Int32) :=
if a1 ≤ a0 then (
if a0 ≤ a2 then (
some (0 : Int32))
else (
some (-6 : Int32)))
else (
some (-4 : Int32))
set_option maxRecDepth 100000 in
theorem t_X9_within {V : eV} {a0 : Int32} {a1 : Int32} {a2 : Int32}  {m : mM} {q : Int32} (hf : f_X9_within a0 a1 a2 m = some q) : eE V 0 yX9_within cX9_within 3 (some .int) [.int a0, .int a1, .int a2] (hS m) (some (.int q)) (hS m) := by
  refine eE_of (by decide) (Nat.le_of_ble_eq_true rfl) ?_
  show gG V k_X9_within 0 [(0, .int a0), (1, .int a1), (2, .int a2)] [] (hS m) _ _
  unfold f_X9_within at hf
  refine g_iload_n 0 dX9_within_0 rfl rfl ?_
  refine g_iload_n 1 dX9_within_1 rfl rfl ?_
  refine g_icmp_ge (tgt := 10) dX9_within_2 (by decide) (fun c2 => ?_) (fun c2 => ?_)
  · replace hf := (if_pos c2).symm.trans hf
    refine g_iload_n 0 dX9_within_10 rfl rfl ?_
    refine g_iload_n 2 dX9_within_11 rfl rfl ?_
    refine g_icmp_le (tgt := 20) dX9_within_12 (by decide) (fun c1 => ?_) (fun c1 => ?_)
    · replace hf := (if_pos c1).symm.trans hf
      refine g_iconst (v := 0) dX9_within_20 rfl ?_
      cases hf
      exact g_iret dX9_within_21 .int rfl rfl
    · replace hf := (if_neg c1).symm.trans hf
      refine g_bipush (v := -6) dX9_within_15 rfl ?_
      refine g_goto (tgt := 21) dX9_within_17 (by decide) ?_
      cases hf
      exact g_iret dX9_within_21 .int rfl rfl
  · replace hf := (if_neg c2).symm.trans hf
    refine g_bipush (v := -4) dX9_within_5 rfl ?_
    refine g_goto (tgt := 21) dX9_within_7 (by decide) ?_
    cases hf
    exact g_iret dX9_within_21 .int rfl rfl

