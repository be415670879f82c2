/-! printed by wip/whole/gen_meth.py: plain functions of the methods, and that the bytecode does as they say -/
abbrev k_X1_roundsToRest : kX := (cX1_roundsToRest, "WhoseHourItIs$Market", "roundsToRest", some .int, 6, 6)
def f_X1_roundsToRest_L2 : Nat → Int32 → mM → Option (mM)
  | 0, _, _ => none
  | n + 1, b1, m =>
      if (m 1 0) ≤ b1 then (
      some m)
      else (
      bnd (ckR 8 b1) fun j1 =>
      bnd (rdA (3 + j1) 3 (1 : Int32) m) fun v3 =>
      bnd (wrA 158 8 b1 v3 m) fun m5 =>
      f_X1_roundsToRest_L2 n (b1 + (1 : Int32)) m5)
def f_X1_roundsToRest_L58 (b1 : Int32) (b2 : Int32) : Nat → Int32 → Int32 → mM → Option (Int32 × mM)
  | 0, _, _, _ => none
  | n + 1, b3, b4, m =>
      if (m 1 0) ≤ b4 then (
      some (b3, m))
      else (
      bnd (f_X1_bestPrice b4 m) fun q10 =>
      if b3 = 0 then (
      bnd (ckR 8 b4) fun j12 =>
      bnd (rdA (3 + j12) 3 (1 : Int32) q10.2) fun v14 =>
      if q10.1 = v14 then (
      bnd (ckR 8 b4) fun j16 =>
      bnd (wrA (3 + j16) 3 (1 : Int32) q10.1 q10.2) fun m18 =>
      f_X1_roundsToRest_L58 b1 b2 n (0 : Int32) (b4 + (1 : Int32)) m18)
      else (
      bnd (ckR 8 b4) fun j20 =>
      bnd (wrA (3 + j20) 3 (1 : Int32) q10.1 q10.2) fun m22 =>
      f_X1_roundsToRest_L58 b1 b2 n (1 : Int32) (b4 + (1 : Int32)) m22))
      else (
      bnd (ckR 8 b4) fun j25 =>
      bnd (wrA (3 + j25) 3 (1 : Int32) q10.1 q10.2) fun m27 =>
      f_X1_roundsToRest_L58 b1 b2 n (1 : Int32) (b4 + (1 : Int32)) m27))
def f_X1_roundsToRest_L41 : Nat → Int32 → Int32 → mM → Option (Int32 × mM)
  | 0, _, _, _ => none
  | n + 1, b1, b2, m =>
      if (10 : Int32) < b2 then (
      some (b1, m))
      else (
      if b1 = (-9 : Int32) then (
      bnd (f_X1_roundsToRest_L58 b1 b2 fU (0 : Int32) (0 : Int32) m) fun o31 =>
      if o31.1 = 0 then (
      f_X1_roundsToRest_L41 n b2 (b2 + (1 : Int32)) o31.2)
      else (
      f_X1_roundsToRest_L41 n b1 (b2 + (1 : Int32)) o31.2))
      else (
      some (b1, m)))
def f_X1_roundsToRest_L139 (b1 : Int32) : Nat → Int32 → mM → Option (mM)
  | 0, _, _ => none
  | n + 1, b2, m =>
      if (m 1 0) ≤ b2 then (
      some m)
      else (
      bnd (ckR 8 b2) fun j38 =>
      bnd (rdA 158 8 b2 m) fun v40 =>
      bnd (wrA (3 + j38) 3 (1 : Int32) v40 m) fun m42 =>
      f_X1_roundsToRest_L139 b1 n (b2 + (1 : Int32)) m42)
def f_X1_roundsToRest_J137 (b1 : Int32) (m : mM) : Option (Int32 × mM) :=
bnd (f_X1_roundsToRest_L139 b1 fU (0 : Int32) m) fun o45 =>
some (b1, o45)
def f_X1_roundsToRest  (m : mM) : Option (Int32 × mM) :=
bnd (f_X1_roundsToRest_L2 fU (0 : Int32) m) fun o8 =>
bnd (f_X1_roundsToRest_L41 fU (-9 : Int32) (1 : Int32) o8) fun o36 =>
f_X1_roundsToRest_J137 o36.1 o36.2
set_option maxRecDepth 100000 in
theorem t_X1_roundsToRest_L2 {V : eV} {r : Option Value} {h' : aH} : ∀ (n : Nat) (b1 : Int32) (m : mM) (o : mM), f_X1_roundsToRest_L2 n b1 m = some o → gG V k_X1_roundsToRest 36 [(0, .ref (vB V + 157))] [] (hS o) r h' → gG V k_X1_roundsToRest 2 [(0, .ref (vB V + 157)), (1, .int b1)] [] (hS m) r h' := by
  intro n
  induction n with
  | zero => intro b1 m o hf; cases hf
  | succ n ih =>
    intro b1 m o hf hk
    rw [f_X1_roundsToRest_L2] at hf
    refine g_iload_n 1 dX1_roundsToRest_2 rfl rfl ?_
    refine g_aload_n 0 dX1_roundsToRest_3 rfl rfl ?_
    refine gf_218 dX1_roundsToRest_4 rfl ob_157 rfl ?_
    refine gf_93 dX1_roundsToRest_7 rfl ob_1 rfl ?_
    refine g_icmp_ge (tgt := 36) dX1_roundsToRest_10 (by decide) (fun c7 => ?_) (fun c7 => ?_)
    · replace hf := (if_pos c7).symm.trans hf
      cases hf
      refine g_sub [0] rfl ?_
      exact hk
    · replace hf := (if_neg c7).symm.trans hf
      refine g_aload_n 0 dX1_roundsToRest_13 rfl rfl ?_
      refine gf_220 dX1_roundsToRest_14 rfl ob_157 rfl ?_
      refine g_iload_n 1 dX1_roundsToRest_17 rfl rfl ?_
      refine g_aload_n 0 dX1_roundsToRest_18 rfl rfl ?_
      refine gf_218 dX1_roundsToRest_19 rfl ob_157 rfl ?_
      refine gf_113 dX1_roundsToRest_22 rfl ob_1 rfl ?_
      refine g_iload_n 1 dX1_roundsToRest_25 rfl rfl ?_
      obtain ⟨j1, e2, hf⟩ := bnd_some hf
      refine p_aald dX1_roundsToRest_26 rt_2 e2 (fun hj1 => ?_)
      refine g_iconst (v := 1) dX1_roundsToRest_27 rfl ?_
      obtain ⟨v3, e4, hf⟩ := bnd_some hf
      refine p_iald dX1_roundsToRest_28 (ar_3 hj1) e4 ?_
      obtain ⟨m5, e6, hf⟩ := bnd_some hf
      refine p_iast dX1_roundsToRest_29 at_158 e6 ?_
      refine g_iinc (q := 1) (v := (b1 + (1 : Int32))) dX1_roundsToRest_30 rfl rfl (Nat.le_of_ble_eq_true rfl) rfl ?_
      refine g_goto (tgt := 2) dX1_roundsToRest_33 (by decide) ?_
      refine g_sub [1, 0] rfl ?_
      exact ih (b1 + (1 : Int32)) m5 _ hf hk

set_option maxRecDepth 100000 in
theorem t_X1_roundsToRest_L58 {V : eV} (b1 : Int32) (b2 : Int32) {r : Option Value} {h' : aH} : ∀ (n : Nat) (b3 : Int32) (b4 : Int32) (m : mM) (o : Int32 × mM), f_X1_roundsToRest_L58 b1 b2 n b3 b4 m = some o → gG V k_X1_roundsToRest 125 [(0, .ref (vB V + 157)), (1, .int b1), (2, .int b2), (3, .int o.1)] [] (hS o.2) r h' → gG V k_X1_roundsToRest 58 [(0, .ref (vB V + 157)), (1, .int b1), (2, .int b2), (3, .int b3), (4, .int b4)] [] (hS m) r h' := by
  intro n
  induction n with
  | zero => intro b3 b4 m o hf; cases hf
  | succ n ih =>
    intro b3 b4 m o hf hk
    rw [f_X1_roundsToRest_L58] at hf
    refine g_iload 4 dX1_roundsToRest_58 rfl ?_
    refine g_aload_n 0 dX1_roundsToRest_60 rfl rfl ?_
    refine gf_218 dX1_roundsToRest_61 rfl ob_157 rfl ?_
    refine gf_93 dX1_roundsToRest_64 rfl ob_1 rfl ?_
    refine g_icmp_ge (tgt := 125) dX1_roundsToRest_67 (by decide) (fun c30 => ?_) (fun c30 => ?_)
    · replace hf := (if_pos c30).symm.trans hf
      cases hf
      refine g_sub [0, 1, 2, 3] rfl ?_
      exact hk
    · replace hf := (if_neg c30).symm.trans hf
      refine g_aload_n 0 dX1_roundsToRest_70 rfl rfl ?_
      refine g_iload 4 dX1_roundsToRest_71 rfl ?_
      obtain ⟨q10, e11, hf⟩ := bnd_some hf
      refine p_callV (As := [.int b4]) (rest := []) (t_X1_bestPrice e11) cw_741 w_729 w_730 ob_157 rfl (Nat.le_of_ble_eq_true rfl) rfl rfl (Nat.le_of_ble_eq_true rfl) dX1_roundsToRest_73 ?_
      refine g_istore dX1_roundsToRest_76 (Nat.le_of_ble_eq_true rfl) rfl ?_
      refine g_iload_n 4 dX1_roundsToRest_78 rfl rfl ?_
      refine g_if_ne (tgt := 99) dX1_roundsToRest_79 (by decide) (fun c29 => ?_) (fun c29 => ?_)
      · replace hf := (if_neg c29).symm.trans hf
        refine g_iconst (v := 1) dX1_roundsToRest_99 rfl ?_
        refine g_goto (tgt := 104) dX1_roundsToRest_100 (by decide) ?_
        refine g_istore_n dX1_roundsToRest_104 rfl (Nat.le_of_ble_eq_true rfl) rfl ?_
        refine g_aload_n 2 dX1_roundsToRest_105 rfl rfl ?_
        refine gf_218 dX1_roundsToRest_106 rfl ob_157 rfl ?_
        refine gf_113 dX1_roundsToRest_109 rfl ob_1 rfl ?_
        refine g_iload 5 dX1_roundsToRest_112 rfl ?_
        obtain ⟨j25, e26, hf⟩ := bnd_some hf
        refine p_aald dX1_roundsToRest_114 rt_2 e26 (fun hj25 => ?_)
        refine g_iconst (v := 1) dX1_roundsToRest_115 rfl ?_
        refine g_iload 1 dX1_roundsToRest_116 rfl ?_
        obtain ⟨m27, e28, hf⟩ := bnd_some hf
        refine p_iast dX1_roundsToRest_118 (ar_3 hj25) e28 ?_
        refine g_iinc (q := 5) (v := (b4 + (1 : Int32))) dX1_roundsToRest_119 rfl rfl (Nat.le_of_ble_eq_true rfl) rfl ?_
        refine g_goto (tgt := 58) dX1_roundsToRest_122 (by decide) ?_
        refine g_sub [3, 4, 5, 1, 0] rfl ?_
        exact ih (1 : Int32) (b4 + (1 : Int32)) m27 _ hf hk
      · replace hf := (if_pos c29).symm.trans hf
        refine g_iload 0 dX1_roundsToRest_82 rfl ?_
        refine g_aload_n 1 dX1_roundsToRest_84 rfl rfl ?_
        refine gf_218 dX1_roundsToRest_85 rfl ob_157 rfl ?_
        refine gf_113 dX1_roundsToRest_88 rfl ob_1 rfl ?_
        refine g_iload 5 dX1_roundsToRest_91 rfl ?_
        obtain ⟨j12, e13, hf⟩ := bnd_some hf
        refine p_aald dX1_roundsToRest_93 rt_2 e13 (fun hj12 => ?_)
        refine g_iconst (v := 1) dX1_roundsToRest_94 rfl ?_
        obtain ⟨v14, e15, hf⟩ := bnd_some hf
        refine p_iald dX1_roundsToRest_95 (ar_3 hj12) e15 ?_
        refine g_icmp_eq (tgt := 103) dX1_roundsToRest_96 (by decide) (fun c24 => ?_) (fun c24 => ?_)
        · replace hf := (if_pos c24).symm.trans hf
          refine g_iconst (v := 0) dX1_roundsToRest_103 rfl ?_
          refine g_istore_n dX1_roundsToRest_104 rfl (Nat.le_of_ble_eq_true rfl) rfl ?_
          refine g_aload_n 2 dX1_roundsToRest_105 rfl rfl ?_
          refine gf_218 dX1_roundsToRest_106 rfl ob_157 rfl ?_
          refine gf_113 dX1_roundsToRest_109 rfl ob_1 rfl ?_
          refine g_iload 5 dX1_roundsToRest_112 rfl ?_
          obtain ⟨j16, e17, hf⟩ := bnd_some hf
          refine p_aald dX1_roundsToRest_114 rt_2 e17 (fun hj16 => ?_)
          refine g_iconst (v := 1) dX1_roundsToRest_115 rfl ?_
          refine g_iload 1 dX1_roundsToRest_116 rfl ?_
          obtain ⟨m18, e19, hf⟩ := bnd_some hf
          refine p_iast dX1_roundsToRest_118 (ar_3 hj16) e19 ?_
          refine g_iinc (q := 5) (v := (b4 + (1 : Int32))) dX1_roundsToRest_119 rfl rfl (Nat.le_of_ble_eq_true rfl) rfl ?_
          refine g_goto (tgt := 58) dX1_roundsToRest_122 (by decide) ?_
          refine g_sub [3, 4, 5, 1, 0] rfl ?_
          exact ih (0 : Int32) (b4 + (1 : Int32)) m18 _ hf hk
        · replace hf := (if_neg c24).symm.trans hf
          refine g_iconst (v := 1) dX1_roundsToRest_99 rfl ?_
          refine g_goto (tgt := 104) dX1_roundsToRest_100 (by decide) ?_
          refine g_istore_n dX1_roundsToRest_104 rfl (Nat.le_of_ble_eq_true rfl) rfl ?_
          refine g_aload_n 2 dX1_roundsToRest_105 rfl rfl ?_
          refine gf_218 dX1_roundsToRest_106 rfl ob_157 rfl ?_
          refine gf_113 dX1_roundsToRest_109 rfl ob_1 rfl ?_
          refine g_iload 5 dX1_roundsToRest_112 rfl ?_
          obtain ⟨j20, e21, hf⟩ := bnd_some hf
          refine p_aald dX1_roundsToRest_114 rt_2 e21 (fun hj20 => ?_)
          refine g_iconst (v := 1) dX1_roundsToRest_115 rfl ?_
          refine g_iload 1 dX1_roundsToRest_116 rfl ?_
          obtain ⟨m22, e23, hf⟩ := bnd_some hf
          refine p_iast dX1_roundsToRest_118 (ar_3 hj20) e23 ?_
          refine g_iinc (q := 5) (v := (b4 + (1 : Int32))) dX1_roundsToRest_119 rfl rfl (Nat.le_of_ble_eq_true rfl) rfl ?_
          refine g_goto (tgt := 58) dX1_roundsToRest_122 (by decide) ?_
          refine g_sub [3, 4, 5, 1, 0] rfl ?_
          exact ih (1 : Int32) (b4 + (1 : Int32)) m22 _ hf hk

set_option maxRecDepth 100000 in
theorem t_X1_roundsToRest_L41 {V : eV} {r : Option Value} {h' : aH} : ∀ (n : Nat) (b1 : Int32) (b2 : Int32) (m : mM) (o : Int32 × mM), f_X1_roundsToRest_L41 n b1 b2 m = some o → gG V k_X1_roundsToRest 137 [(0, .ref (vB V + 157)), (1, .int o.1)] [] (hS o.2) r h' → gG V k_X1_roundsToRest 41 [(0, .ref (vB V + 157)), (1, .int b1), (2, .int b2)] [] (hS m) r h' := by
  intro n
  induction n with
  | zero => intro b1 b2 m o hf; cases hf
  | succ n ih =>
    intro b1 b2 m o hf hk
    rw [f_X1_roundsToRest_L41] at hf
    refine g_iload_n 2 dX1_roundsToRest_41 rfl rfl ?_
    refine g_bipush (v := 10) dX1_roundsToRest_42 rfl ?_
    refine g_icmp_gt (tgt := 137) dX1_roundsToRest_44 (by decide) (fun c35 => ?_) (fun c35 => ?_)
    · replace hf := (if_pos c35).symm.trans hf
      cases hf
      refine g_sub [0, 1] rfl ?_
      exact hk
    · replace hf := (if_neg c35).symm.trans hf
      refine g_iload_n 1 dX1_roundsToRest_47 rfl rfl ?_
      refine g_bipush (v := -9) dX1_roundsToRest_48 rfl ?_
      refine g_icmp_ne (tgt := 137) dX1_roundsToRest_50 (by decide) (fun c34 => ?_) (fun c34 => ?_)
      · replace hf := (if_neg c34).symm.trans hf
        cases hf
        refine g_sub [0, 1] rfl ?_
        exact hk
      · replace hf := (if_pos c34).symm.trans hf
        refine g_iconst (v := 0) dX1_roundsToRest_53 rfl ?_
        refine g_istore_n dX1_roundsToRest_54 rfl (Nat.le_of_ble_eq_true rfl) rfl ?_
        refine g_iconst (v := 0) dX1_roundsToRest_55 rfl ?_
        refine g_istore dX1_roundsToRest_56 (Nat.le_of_ble_eq_true rfl) rfl ?_
        refine g_sub [2, 3, 4, 1, 0] rfl ?_
        obtain ⟨o31, e32, hf⟩ := bnd_some hf
        refine t_X1_roundsToRest_L58 (V := V) b1 b2 fU (0 : Int32) (0 : Int32) m _ e32 ?_
        refine g_iload_n 3 dX1_roundsToRest_125 rfl rfl ?_
        refine g_if_ne (tgt := 131) dX1_roundsToRest_126 (by decide) (fun c33 => ?_) (fun c33 => ?_)
        · replace hf := (if_neg c33).symm.trans hf
          refine g_iinc (q := 2) (v := (b2 + (1 : Int32))) dX1_roundsToRest_131 rfl rfl (Nat.le_of_ble_eq_true rfl) rfl ?_
          refine g_goto (tgt := 41) dX1_roundsToRest_134 (by decide) ?_
          refine g_sub [1, 2, 0] rfl ?_
          exact ih b1 (b2 + (1 : Int32)) o31.2 _ hf hk
        · replace hf := (if_pos c33).symm.trans hf
          refine g_iload_n 2 dX1_roundsToRest_129 rfl rfl ?_
          refine g_istore_n dX1_roundsToRest_130 rfl (Nat.le_of_ble_eq_true rfl) rfl ?_
          refine g_iinc (q := 2) (v := (b2 + (1 : Int32))) dX1_roundsToRest_131 rfl rfl (Nat.le_of_ble_eq_true rfl) rfl ?_
          refine g_goto (tgt := 41) dX1_roundsToRest_134 (by decide) ?_
          refine g_sub [2, 1, 0] rfl ?_
          exact ih b2 (b2 + (1 : Int32)) o31.2 _ hf hk

set_option maxRecDepth 100000 in
theorem t_X1_roundsToRest_L139 {V : eV} (b1 : Int32) {r : Option Value} {h' : aH} : ∀ (n : Nat) (b2 : Int32) (m : mM) (o : mM), f_X1_roundsToRest_L139 b1 n b2 m = some o → gG V k_X1_roundsToRest 173 [(1, .int b1)] [] (hS o) r h' → gG V k_X1_roundsToRest 139 [(0, .ref (vB V + 157)), (1, .int b1), (2, .int b2)] [] (hS m) r h' := by
  intro n
  induction n with
  | zero => intro b2 m o hf; cases hf
  | succ n ih =>
    intro b2 m o hf hk
    rw [f_X1_roundsToRest_L139] at hf
    refine g_iload_n 2 dX1_roundsToRest_139 rfl rfl ?_
    refine g_aload_n 0 dX1_roundsToRest_140 rfl rfl ?_
    refine gf_218 dX1_roundsToRest_141 rfl ob_157 rfl ?_
    refine gf_93 dX1_roundsToRest_144 rfl ob_1 rfl ?_
    refine g_icmp_ge (tgt := 173) dX1_roundsToRest_147 (by decide) (fun c44 => ?_) (fun c44 => ?_)
    · replace hf := (if_pos c44).symm.trans hf
      cases hf
      refine g_sub [1] rfl ?_
      exact hk
    · replace hf := (if_neg c44).symm.trans hf
      refine g_aload_n 0 dX1_roundsToRest_150 rfl rfl ?_
      refine gf_218 dX1_roundsToRest_151 rfl ob_157 rfl ?_
      refine gf_113 dX1_roundsToRest_154 rfl ob_1 rfl ?_
      refine g_iload_n 2 dX1_roundsToRest_157 rfl rfl ?_
      obtain ⟨j38, e39, hf⟩ := bnd_some hf
      refine p_aald dX1_roundsToRest_158 rt_2 e39 (fun hj38 => ?_)
      refine g_iconst (v := 1) dX1_roundsToRest_159 rfl ?_
      refine g_aload_n 0 dX1_roundsToRest_160 rfl rfl ?_
      refine gf_220 dX1_roundsToRest_161 rfl ob_157 rfl ?_
      refine g_iload_n 2 dX1_roundsToRest_164 rfl rfl ?_
      obtain ⟨v40, e41, hf⟩ := bnd_some hf
      refine p_iald dX1_roundsToRest_165 at_158 e41 ?_
      obtain ⟨m42, e43, hf⟩ := bnd_some hf
      refine p_iast dX1_roundsToRest_166 (ar_3 hj38) e43 ?_
      refine g_iinc (q := 2) (v := (b2 + (1 : Int32))) dX1_roundsToRest_167 rfl rfl (Nat.le_of_ble_eq_true rfl) rfl ?_
      refine g_goto (tgt := 139) dX1_roundsToRest_170 (by decide) ?_
      refine g_sub [1, 2, 0] rfl ?_
      exact ih (b2 + (1 : Int32)) m42 _ hf hk

set_option maxRecDepth 100000 in
theorem t_X1_roundsToRest_J137 {V : eV} {b1 : Int32} {m : mM} {q : Int32 × mM} (hf : f_X1_roundsToRest_J137 b1 m = some q) : gG V k_X1_roundsToRest 137 [(0, .ref (vB V + 157)), (1, .int b1)] [] (hS m) (some (.int q.1)) (hS q.2) := by
  unfold f_X1_roundsToRest_J137 at hf
  refine g_iconst (v := 0) dX1_roundsToRest_137 rfl ?_
  refine g_istore_n dX1_roundsToRest_138 rfl (Nat.le_of_ble_eq_true rfl) rfl ?_
  refine g_sub [1, 2, 0] rfl ?_
  obtain ⟨o45, e46, hf⟩ := bnd_some hf
  refine t_X1_roundsToRest_L139 (V := V) b1 fU (0 : Int32) m _ e46 ?_
  refine g_iload_n 0 dX1_roundsToRest_173 rfl rfl ?_
  cases hf
  exact g_iret dX1_roundsToRest_174 .int rfl rfl

set_option maxRecDepth 100000 in
theorem t_X1_roundsToRest {V : eV}  {m : mM} {q : Int32 × mM} (hf : f_X1_roundsToRest  m = some q) : eE V 6 yX1_roundsToRest cX1_roundsToRest 6 (some .int) [.ref (vB V + 157)] (hS m) (some (.int q.1)) (hS q.2) := by
  refine eE_of (by decide) (Nat.le_of_ble_eq_true rfl) ?_
  show gG V k_X1_roundsToRest 0 [(0, .ref (vB V + 157))] [] (hS m) _ _
  unfold f_X1_roundsToRest at hf
  refine g_iconst (v := 0) dX1_roundsToRest_0 rfl ?_
  refine g_istore_n dX1_roundsToRest_1 rfl (Nat.le_of_ble_eq_true rfl) rfl ?_
  refine g_sub [1, 0] rfl ?_
  obtain ⟨o8, e9, hf⟩ := bnd_some hf
  refine t_X1_roundsToRest_L2 (V := V) fU (0 : Int32) m _ e9 ?_
  refine g_bipush (v := -9) dX1_roundsToRest_36 rfl ?_
  refine g_istore_n dX1_roundsToRest_38 rfl (Nat.le_of_ble_eq_true rfl) rfl ?_
  refine g_iconst (v := 1) dX1_roundsToRest_39 rfl ?_
  refine g_istore_n dX1_roundsToRest_40 rfl (Nat.le_of_ble_eq_true rfl) rfl ?_
  refine g_sub [2, 1, 0] rfl ?_
  obtain ⟨o36, e37, hf⟩ := bnd_some hf
  refine t_X1_roundsToRest_L41 (V := V) fU (-9 : Int32) (1 : Int32) o8 _ e37 ?_
  refine g_sub [0, 1] rfl ?_
  exact t_X1_roundsToRest_J137 hf

abbrev k_X8_rest : kX := (cX8_rest, "WhoseHourItIs", "rest", some .int, 1, 7)
def f_X8_rest  (m : mM) : Option (Int32 × mM) :=
bnd (f_X1_roundsToRest m) fun q1 =>
some (q1.1, q1.2)
set_option maxRecDepth 100000 in
theorem t_X8_rest {V : eV}  {m : mM} {q : Int32 × mM} (hf : f_X8_rest  m = some q) : eE V 7 yX8_rest cX8_rest 1 (some .int) [.ref (vB V + 0)] (hS m) (some (.int q.1)) (hS q.2) := by
  refine eE_of (by decide) (Nat.le_of_ble_eq_true rfl) ?_
  show gG V k_X8_rest 0 [(0, .ref (vB V + 0))] [] (hS m) _ _
  unfold f_X8_rest at hf
  refine g_aload_n 0 dX8_rest_0 rfl rfl ?_
  refine gf_320 dX8_rest_1 rfl ob_0 rfl ?_
  obtain ⟨q1, e2, hf⟩ := bnd_some hf
  refine p_callV (As := []) (rest := []) (t_X1_roundsToRest e2) cw_737 w_738 w_739 ob_157 rfl (Nat.le_of_ble_eq_true rfl) rfl rfl (Nat.le_of_ble_eq_true rfl) dX8_rest_4 ?_
  cases hf
  exact g_iret dX8_rest_7 .int rfl rfl

abbrev k_X5_fewestToStop : kX := (cX5_fewestToStop, "WhoseHourItIs$Strikes", "fewestToStop", some .int, 7, 3)
def f_X5_fewestToStop_L27 (b1 : Int32) (b2 : Int32) (m : mM) : Nat → Int32 → Int32 → Int32 → Option (Int32)
  | 0, _, _, _ => none
  | n + 1, b3, b4, b5 =>
      bnd (f_X7_everyone m) fun q7 =>
      if q7 < b5 then (
      some b3)
      else (
      if b4 ≤ (bitC b5) then (
      f_X5_fewestToStop_L27 b1 b2 m n b3 b4 (b5 + (1 : Int32)))
      else (
      bnd (f_X8_isIn b5 b2 m) fun q9 =>
      if q9 = 0 then (
      bnd (f_X5_canBe b1 ((m 1 2) ||| b5) (0 : Int32) m) fun q11 =>
      if q11 = 0 then (
      f_X5_fewestToStop_L27 b1 b2 m n b5 (bitC b5) (b5 + (1 : Int32)))
      else (
      f_X5_fewestToStop_L27 b1 b2 m n b3 b4 (b5 + (1 : Int32))))
      else (
      f_X5_fewestToStop_L27 b1 b2 m n b3 b4 (b5 + (1 : Int32)))))
def f_X5_fewestToStop (a1 : Int32) (m : mM) : Option (Int32 × mM) :=
bnd (f_X5_look a1 m) fun q1 =>
bnd (ckR 6 a1) fun j3 =>
bnd (rdA (44 + j3) 6 (0 : Int32) q1) fun v5 =>
bnd (f_X5_fewestToStop_L27 a1 v5 q1 fU (-9 : Int32) (9 : Int32) (0 : Int32)) fun o17 =>
some (o17, q1)
set_option maxRecDepth 100000 in
theorem t_X5_fewestToStop_L27 {V : eV} (b1 : Int32) (b2 : Int32) (m : mM) {r : Option Value} {h' : aH} : ∀ (n : Nat) (b3 : Int32) (b4 : Int32) (b5 : Int32) (o : Int32), f_X5_fewestToStop_L27 b1 b2 m n b3 b4 b5 = some o → gG V k_X5_fewestToStop 94 [(3, .int o)] [] (hS m) r h' → gG V k_X5_fewestToStop 27 [(0, .ref (vB V + 167)), (1, .int b1), (2, .int b2), (3, .int b3), (4, .int b4), (5, .int b5)] [] (hS m) r h' := by
  intro n
  induction n with
  | zero => intro b3 b4 b5 o hf; cases hf
  | succ n ih =>
    intro b3 b4 b5 o hf hk
    rw [f_X5_fewestToStop_L27] at hf
    refine g_iload 5 dX5_fewestToStop_27 rfl ?_
    refine g_aload_n 0 dX5_fewestToStop_29 rfl rfl ?_
    refine gf_268 dX5_fewestToStop_30 rfl ob_167 rfl ?_
    obtain ⟨q7, e8, hf⟩ := bnd_some hf
    refine p_callV (As := []) (rest := [.int b5]) (t_X7_everyone e8) cw_750 w_639 w_640 ob_1 rfl (Nat.le_of_ble_eq_true rfl) rfl rfl (Nat.le_of_ble_eq_true rfl) dX5_fewestToStop_33 ?_
    refine g_icmp_gt (tgt := 94) dX5_fewestToStop_36 (by decide) (fun c16 => ?_) (fun c16 => ?_)
    · replace hf := (if_pos c16).symm.trans hf
      cases hf
      refine g_sub [3] rfl ?_
      exact hk
    · replace hf := (if_neg c16).symm.trans hf
      refine g_iload 5 dX5_fewestToStop_39 rfl ?_
      refine p_callS (As := [.int b5]) (rest := []) (j_bitCount b5) cw_751 w_551 (Nat.le_of_ble_eq_true rfl) rfl rfl (Nat.le_of_ble_eq_true rfl) dX5_fewestToStop_41 ?_
      refine g_istore dX5_fewestToStop_44 (Nat.le_of_ble_eq_true rfl) rfl ?_
      refine g_iload 0 dX5_fewestToStop_46 rfl ?_
      refine g_iload 5 dX5_fewestToStop_48 rfl ?_
      refine g_icmp_ge (tgt := 88) dX5_fewestToStop_50 (by decide) (fun c15 => ?_) (fun c15 => ?_)
      · replace hf := (if_pos c15).symm.trans hf
        refine g_iinc (q := 6) (v := (b5 + (1 : Int32))) dX5_fewestToStop_88 rfl rfl (Nat.le_of_ble_eq_true rfl) rfl ?_
        refine g_goto (tgt := 27) dX5_fewestToStop_91 (by decide) ?_
        refine g_sub [2, 3, 4, 5, 6, 0] rfl ?_
        exact ih b3 b4 (b5 + (1 : Int32)) _ hf hk
      · replace hf := (if_neg c15).symm.trans hf
        refine g_iload 6 dX5_fewestToStop_53 rfl ?_
        refine g_iload_n 3 dX5_fewestToStop_55 rfl rfl ?_
        obtain ⟨q9, e10, hf⟩ := bnd_some hf
        refine p_callSN (As := [.int b5, .int b2]) (rest := []) (t_X8_isIn e10) cw_690 w_534 (Nat.le_of_ble_eq_true rfl) rfl rfl (Nat.le_of_ble_eq_true rfl) dX5_fewestToStop_56 ?_
        refine g_if_ne (tgt := 88) dX5_fewestToStop_59 (by decide) (fun c14 => ?_) (fun c14 => ?_)
        · replace hf := (if_neg c14).symm.trans hf
          refine g_iinc (q := 6) (v := (b5 + (1 : Int32))) dX5_fewestToStop_88 rfl rfl (Nat.le_of_ble_eq_true rfl) rfl ?_
          refine g_goto (tgt := 27) dX5_fewestToStop_91 (by decide) ?_
          refine g_sub [2, 3, 4, 5, 6, 0] rfl ?_
          exact ih b3 b4 (b5 + (1 : Int32)) _ hf hk
        · replace hf := (if_pos c14).symm.trans hf
          refine g_aload_n 1 dX5_fewestToStop_62 rfl rfl ?_
          refine g_iload_n 2 dX5_fewestToStop_63 rfl rfl ?_
          refine g_aload_n 1 dX5_fewestToStop_64 rfl rfl ?_
          refine gf_268 dX5_fewestToStop_65 rfl ob_167 rfl ?_
          refine gf_105 dX5_fewestToStop_68 rfl ob_1 rfl ?_
          refine g_iload 6 dX5_fewestToStop_71 rfl ?_
          refine g_ior dX5_fewestToStop_73 ?_
          refine g_iconst (v := 0) dX5_fewestToStop_74 rfl ?_
          obtain ⟨q11, e12, hf⟩ := bnd_some hf
          refine p_callV (As := [.int b1, .int ((m 1 2) ||| b5), .int (0 : Int32)]) (rest := []) (t_X5_canBe e12) cw_680 w_682 w_12 ob_167 rfl (Nat.le_of_ble_eq_true rfl) rfl rfl (Nat.le_of_ble_eq_true rfl) dX5_fewestToStop_75 ?_
          refine g_if_ne (tgt := 88) dX5_fewestToStop_78 (by decide) (fun c13 => ?_) (fun c13 => ?_)
          · replace hf := (if_neg c13).symm.trans hf
            refine g_iinc (q := 6) (v := (b5 + (1 : Int32))) dX5_fewestToStop_88 rfl rfl (Nat.le_of_ble_eq_true rfl) rfl ?_
            refine g_goto (tgt := 27) dX5_fewestToStop_91 (by decide) ?_
            refine g_sub [2, 3, 4, 5, 6, 0] rfl ?_
            exact ih b3 b4 (b5 + (1 : Int32)) _ hf hk
          · replace hf := (if_pos c13).symm.trans hf
            refine g_iload 0 dX5_fewestToStop_81 rfl ?_
            refine g_istore dX5_fewestToStop_83 (Nat.le_of_ble_eq_true rfl) rfl ?_
            refine g_iload 6 dX5_fewestToStop_85 rfl ?_
            refine g_istore_n dX5_fewestToStop_87 rfl (Nat.le_of_ble_eq_true rfl) rfl ?_
            refine g_iinc (q := 6) (v := (b5 + (1 : Int32))) dX5_fewestToStop_88 rfl rfl (Nat.le_of_ble_eq_true rfl) rfl ?_
            refine g_goto (tgt := 27) dX5_fewestToStop_91 (by decide) ?_
            refine g_sub [4, 5, 6, 1, 2, 0] rfl ?_
            exact ih b5 (bitC b5) (b5 + (1 : Int32)) _ hf hk

set_option maxRecDepth 100000 in
theorem t_X5_fewestToStop {V : eV} {a1 : Int32}  {m : mM} {q : Int32 × mM} (hf : f_X5_fewestToStop a1 m = some q) : eE V 3 yX5_fewestToStop cX5_fewestToStop 7 (some .int) [.ref (vB V + 167), .int a1] (hS m) (some (.int q.1)) (hS q.2) := by
  refine eE_of (by decide) (Nat.le_of_ble_eq_true rfl) ?_
  show gG V k_X5_fewestToStop 0 [(0, .ref (vB V + 167)), (1, .int a1)] [] (hS m) _ _
  unfold f_X5_fewestToStop at hf
  refine g_aload_n 0 dX5_fewestToStop_0 rfl rfl ?_
  refine g_iload_n 1 dX5_fewestToStop_1 rfl rfl ?_
  obtain ⟨q1, e2, hf⟩ := bnd_some hf
  refine p_callVv (As := [.int a1]) (rest := []) (t_X5_look e2) cw_674 w_676 w_11 ob_167 rfl (Nat.le_of_ble_eq_true rfl) rfl rfl (Nat.le_of_ble_eq_true rfl) dX5_fewestToStop_2 ?_
  refine g_aload_n 0 dX5_fewestToStop_5 rfl rfl ?_
  refine gf_268 dX5_fewestToStop_6 rfl ob_167 rfl ?_
  refine gf_135 dX5_fewestToStop_9 rfl ob_1 rfl ?_
  refine g_iload_n 1 dX5_fewestToStop_12 rfl rfl ?_
  obtain ⟨j3, e4, hf⟩ := bnd_some hf
  refine p_aald dX5_fewestToStop_13 rt_43 e4 (fun hj3 => ?_)
  refine g_iconst (v := 0) dX5_fewestToStop_14 rfl ?_
  obtain ⟨v5, e6, hf⟩ := bnd_some hf
  refine p_iald dX5_fewestToStop_15 (ar_44 hj3) e6 ?_
  refine g_istore_n dX5_fewestToStop_16 rfl (Nat.le_of_ble_eq_true rfl) rfl ?_
  refine g_bipush (v := -9) dX5_fewestToStop_17 rfl ?_
  refine g_istore_n dX5_fewestToStop_19 rfl (Nat.le_of_ble_eq_true rfl) rfl ?_
  refine g_bipush (v := 9) dX5_fewestToStop_20 rfl ?_
  refine g_istore dX5_fewestToStop_22 (Nat.le_of_ble_eq_true rfl) rfl ?_
  refine g_iconst (v := 0) dX5_fewestToStop_24 rfl ?_
  refine g_istore dX5_fewestToStop_25 (Nat.le_of_ble_eq_true rfl) rfl ?_
  refine g_sub [4, 5, 3, 2, 1, 0] rfl ?_
  obtain ⟨o17, e18, hf⟩ := bnd_some hf
  refine t_X5_fewestToStop_L27 (V := V) a1 v5 q1 fU (-9 : Int32) (9 : Int32) (0 : Int32) _ e18 ?_
  refine g_iload_n 0 dX5_fewestToStop_94 rfl rfl ?_
  cases hf
  exact g_iret dX5_fewestToStop_95 .int rfl rfl

abbrev k_X8_stop : kX := (cX8_stop, "WhoseHourItIs", "stop", some .int, 2, 4)
def f_X8_stop (a1 : Int32) (m : mM) : Option (Int32 × mM) :=
bnd (f_X7_hasWork_1 a1 m) fun q1 =>
if q1 = 0 then (
bnd (f_X8_refuse (-1 : Int32) m) fun q3 =>
some (q3.1, q3.2))
else (
bnd (f_X5_fewestToStop a1 m) fun q5 =>
some (q5.1, q5.2))
set_option maxRecDepth 100000 in
theorem t_X8_stop {V : eV} {a1 : Int32}  {m : mM} {q : Int32 × mM} (hf : f_X8_stop a1 m = some q) : eE V 4 yX8_stop cX8_stop 2 (some .int) [.ref (vB V + 0), .int a1] (hS m) (some (.int q.1)) (hS q.2) := by
  refine eE_of (by decide) (Nat.le_of_ble_eq_true rfl) ?_
  show gG V k_X8_stop 0 [(0, .ref (vB V + 0)), (1, .int a1)] [] (hS m) _ _
  unfold f_X8_stop at hf
  refine g_aload_n 0 dX8_stop_0 rfl rfl ?_
  refine gf_314 dX8_stop_1 rfl ob_0 rfl ?_
  refine g_iload_n 1 dX8_stop_4 rfl rfl ?_
  obtain ⟨q1, e2, hf⟩ := bnd_some hf
  refine p_callV (As := [.int a1]) (rest := []) (t_X7_hasWork_1 e2) cw_623 w_624 w_625 ob_1 rfl (Nat.le_of_ble_eq_true rfl) rfl rfl (Nat.le_of_ble_eq_true rfl) dX8_stop_5 ?_
  refine g_if_eq (tgt := 22) dX8_stop_8 (by decide) (fun c7 => ?_) (fun c7 => ?_)
  · replace hf := (if_pos c7).symm.trans hf
    refine g_aload_n 0 dX8_stop_22 rfl rfl ?_
    refine g_iconst (v := -1) dX8_stop_23 rfl ?_
    obtain ⟨q3, e4, hf⟩ := bnd_some hf
    refine p_callV (As := [.int (-1 : Int32)]) (rest := []) (t_X8_refuse e4) cw_355 w_357 w_0 ob_0 rfl (Nat.le_of_ble_eq_true rfl) rfl rfl (Nat.le_of_ble_eq_true rfl) dX8_stop_24 ?_
    cases hf
    exact g_iret dX8_stop_27 .int rfl rfl
  · replace hf := (if_neg c7).symm.trans hf
    refine g_aload_n 0 dX8_stop_11 rfl rfl ?_
    refine gf_322 dX8_stop_12 rfl ob_0 rfl ?_
    refine g_iload_n 1 dX8_stop_15 rfl rfl ?_
    obtain ⟨q5, e6, hf⟩ := bnd_some hf
    refine p_callV (As := [.int a1]) (rest := []) (t_X5_fewestToStop e6) cw_746 w_747 w_748 ob_167 rfl (Nat.le_of_ble_eq_true rfl) rfl rfl (Nat.le_of_ble_eq_true rfl) dX8_stop_16 ?_
    refine g_goto (tgt := 27) dX8_stop_19 (by decide) ?_
    cases hf
    exact g_iret dX8_stop_27 .int rfl rfl

abbrev k_X5_stopsOthers : kX := (cX5_stopsOthers, "WhoseHourItIs$Strikes", "stopsOthers", some .boolean, 4, 3)
def f_X5_stopsOthers_L2 (b1 : Int32) (m : mM) : Nat → Int32 → Option ((Int32) ⊕ (Unit))
  | 0, _ => none
  | n + 1, b2 =>
      if (m 1 1) ≤ b2 then (
      some (.inr ()))
      else (
      bnd (ckR 6 b2) fun j1 =>
      bnd (rdA (44 + j1) 6 (0 : Int32) m) fun v3 =>
      bnd (f_X8_isIn b1 v3 m) fun q5 =>
      if q5 = 0 then (
      bnd (f_X5_canBe b2 ((m 1 2) ||| b1) (0 : Int32) m) fun q7 =>
      if q7 = 0 then (
      f_X5_stopsOthers_L2 b1 m n (b2 + (1 : Int32)))
      else (
      some (.inl (0 : Int32))))
      else (
      f_X5_stopsOthers_L2 b1 m n (b2 + (1 : Int32))))
def f_X5_stopsOthers (a1 : Int32) (m : mM) : Option (Int32) :=
bnd (f_X5_stopsOthers_L2 a1 m fU (0 : Int32)) fun o12 =>
ora o12 (fun zq => some zq) fun x13 =>
some (1 : Int32)
set_option maxRecDepth 100000 in
theorem t_X5_stopsOthers_L2 {V : eV} (b1 : Int32) (m : mM) {r : Option Value} {h' : aH} : ∀ (n : Nat) (b2 : Int32) (o : (Int32) ⊕ (Unit)), f_X5_stopsOthers_L2 b1 m n b2 = some o → lxP (hS m) o r h' (fun x => gG V k_X5_stopsOthers 59 [] [] (hS m) r h') → gG V k_X5_stopsOthers 2 [(0, .ref (vB V + 167)), (1, .int b1), (2, .int b2)] [] (hS m) r h' := by
  intro n
  induction n with
  | zero => intro b2 o hf; cases hf
  | succ n ih =>
    intro b2 o hf hk
    rw [f_X5_stopsOthers_L2] at hf
    refine g_iload_n 2 dX5_stopsOthers_2 rfl rfl ?_
    refine g_aload_n 0 dX5_stopsOthers_3 rfl rfl ?_
    refine gf_268 dX5_stopsOthers_4 rfl ob_167 rfl ?_
    refine gf_101 dX5_stopsOthers_7 rfl ob_1 rfl ?_
    refine g_icmp_ge (tgt := 59) dX5_stopsOthers_10 (by decide) (fun c11 => ?_) (fun c11 => ?_)
    · replace hf := (if_pos c11).symm.trans hf
      cases hf
      refine g_sub [] rfl ?_
      exact hk
    · replace hf := (if_neg c11).symm.trans hf
      refine g_iload_n 1 dX5_stopsOthers_13 rfl rfl ?_
      refine g_aload_n 0 dX5_stopsOthers_14 rfl rfl ?_
      refine gf_268 dX5_stopsOthers_15 rfl ob_167 rfl ?_
      refine gf_135 dX5_stopsOthers_18 rfl ob_1 rfl ?_
      refine g_iload_n 2 dX5_stopsOthers_21 rfl rfl ?_
      obtain ⟨j1, e2, hf⟩ := bnd_some hf
      refine p_aald dX5_stopsOthers_22 rt_43 e2 (fun hj1 => ?_)
      refine g_iconst (v := 0) dX5_stopsOthers_23 rfl ?_
      obtain ⟨v3, e4, hf⟩ := bnd_some hf
      refine p_iald dX5_stopsOthers_24 (ar_44 hj1) e4 ?_
      obtain ⟨q5, e6, hf⟩ := bnd_some hf
      refine p_callSN (As := [.int b1, .int v3]) (rest := []) (t_X8_isIn e6) cw_690 w_534 (Nat.le_of_ble_eq_true rfl) rfl rfl (Nat.le_of_ble_eq_true rfl) dX5_stopsOthers_25 ?_
      refine g_istore_n dX5_stopsOthers_28 rfl (Nat.le_of_ble_eq_true rfl) rfl ?_
      refine g_iload_n 0 dX5_stopsOthers_29 rfl rfl ?_
      refine g_if_ne (tgt := 53) dX5_stopsOthers_30 (by decide) (fun c10 => ?_) (fun c10 => ?_)
      · replace hf := (if_neg c10).symm.trans hf
        refine g_iinc (q := 3) (v := (b2 + (1 : Int32))) dX5_stopsOthers_53 rfl rfl (Nat.le_of_ble_eq_true rfl) rfl ?_
        refine g_goto (tgt := 2) dX5_stopsOthers_56 (by decide) ?_
        refine g_sub [2, 3, 0] rfl ?_
        exact ih (b2 + (1 : Int32)) _ hf hk
      · replace hf := (if_pos c10).symm.trans hf
        refine g_aload_n 1 dX5_stopsOthers_33 rfl rfl ?_
        refine g_iload_n 3 dX5_stopsOthers_34 rfl rfl ?_
        refine g_aload_n 1 dX5_stopsOthers_35 rfl rfl ?_
        refine gf_268 dX5_stopsOthers_36 rfl ob_167 rfl ?_
        refine gf_105 dX5_stopsOthers_39 rfl ob_1 rfl ?_
        refine g_iload_n 2 dX5_stopsOthers_42 rfl rfl ?_
        refine g_ior dX5_stopsOthers_43 ?_
        refine g_iconst (v := 0) dX5_stopsOthers_44 rfl ?_
        obtain ⟨q7, e8, hf⟩ := bnd_some hf
        refine p_callV (As := [.int b2, .int ((m 1 2) ||| b1), .int (0 : Int32)]) (rest := []) (t_X5_canBe e8) cw_680 w_682 w_12 ob_167 rfl (Nat.le_of_ble_eq_true rfl) rfl rfl (Nat.le_of_ble_eq_true rfl) dX5_stopsOthers_45 ?_
        refine g_if_eq (tgt := 53) dX5_stopsOthers_48 (by decide) (fun c9 => ?_) (fun c9 => ?_)
        · replace hf := (if_pos c9).symm.trans hf
          refine g_iinc (q := 3) (v := (b2 + (1 : Int32))) dX5_stopsOthers_53 rfl rfl (Nat.le_of_ble_eq_true rfl) rfl ?_
          refine g_goto (tgt := 2) dX5_stopsOthers_56 (by decide) ?_
          refine g_sub [2, 3, 0] rfl ?_
          exact ih (b2 + (1 : Int32)) _ hf hk
        · replace hf := (if_neg c9).symm.trans hf
          refine g_iconst (v := 0) dX5_stopsOthers_51 rfl ?_
          cases hf
          obtain ⟨rfl, rfl⟩ := hk
          exact g_iret dX5_stopsOthers_52 .boolean rfl rfl

set_option maxRecDepth 100000 in
theorem t_X5_stopsOthers {V : eV} {a1 : Int32}  {m : mM} {q : Int32} (hf : f_X5_stopsOthers a1 m = some q) : eE V 3 yX5_stopsOthers cX5_stopsOthers 4 (some .boolean) [.ref (vB V + 167), .int a1] (hS m) (some (.int q)) (hS m) := by
  refine eE_of (by decide) (Nat.le_of_ble_eq_true rfl) ?_
  show gG V k_X5_stopsOthers 0 [(0, .ref (vB V + 167)), (1, .int a1)] [] (hS m) _ _
  unfold f_X5_stopsOthers at hf
  refine g_iconst (v := 0) dX5_stopsOthers_0 rfl ?_
  refine g_istore_n dX5_stopsOthers_1 rfl (Nat.le_of_ble_eq_true rfl) rfl ?_
  refine g_sub [1, 2, 0] rfl ?_
  obtain ⟨o12, e14, hf⟩ := bnd_some hf
  refine t_X5_stopsOthers_L2 (V := V) a1 m fU (0 : Int32) _ e14 ?_
  rcases o12 with zq | x13
  · replace hf := ora_l hf
    cases hf
    exact ⟨rfl, rfl⟩
  · replace hf := ora_r hf
    show gG V _ _ _ _ _ _ _
    refine g_iconst (v := 1) dX5_stopsOthers_59 rfl ?_
    cases hf
    exact g_iret dX5_stopsOthers_60 .boolean rfl rfl

abbrev k_X5_fewestToStopEach : kX := (cX5_fewestToStopEach, "WhoseHourItIs$Strikes", "fewestToStopEach", some .int, 5, 4)
def f_X5_fewestToStopEach_L2 : Nat → Int32 → mM → Option (mM)
  | 0, _, _ => none
  | n + 1, b1, m =>
      if (m 1 1) ≤ b1 then (
      some m)
      else (
      bnd (f_X5_look b1 m) fun q1 =>
      f_X5_fewestToStopEach_L2 n (b1 + (1 : Int32)) q1)
def f_X5_fewestToStopEach_L31 (m : mM) : Nat → Int32 → Int32 → Int32 → Option (Int32)
  | 0, _, _, _ => none
  | n + 1, b1, b2, b3 =>
      bnd (f_X7_everyone m) fun q6 =>
      if q6 < b3 then (
      some b1)
      else (
      if b2 ≤ (bitC b3) then (
      f_X5_fewestToStopEach_L31 m n b1 b2 (b3 + (1 : Int32)))
      else (
      bnd (f_X5_stopsOthers b3 m) fun q8 =>
      if q8 = 0 then (
      f_X5_fewestToStopEach_L31 m n b1 b2 (b3 + (1 : Int32)))
      else (
      f_X5_fewestToStopEach_L31 m n b3 (bitC b3) (b3 + (1 : Int32)))))
def f_X5_fewestToStopEach  (m : mM) : Option (Int32 × mM) :=
bnd (f_X5_fewestToStopEach_L2 fU (0 : Int32) m) fun o4 =>
bnd (f_X5_fewestToStopEach_L31 o4 fU (0 : Int32) (9 : Int32) (0 : Int32)) fun o13 =>
some (o13, o4)
set_option maxRecDepth 100000 in
theorem t_X5_fewestToStopEach_L2 {V : eV} {r : Option Value} {h' : aH} : ∀ (n : Nat) (b1 : Int32) (m : mM) (o : mM), f_X5_fewestToStopEach_L2 n b1 m = some o → gG V k_X5_fewestToStopEach 24 [(0, .ref (vB V + 167))] [] (hS o) r h' → gG V k_X5_fewestToStopEach 2 [(0, .ref (vB V + 167)), (1, .int b1)] [] (hS m) r h' := by
  intro n
  induction n with
  | zero => intro b1 m o hf; cases hf
  | succ n ih =>
    intro b1 m o hf hk
    rw [f_X5_fewestToStopEach_L2] at hf
    refine g_iload_n 1 dX5_fewestToStopEach_2 rfl rfl ?_
    refine g_aload_n 0 dX5_fewestToStopEach_3 rfl rfl ?_
    refine gf_268 dX5_fewestToStopEach_4 rfl ob_167 rfl ?_
    refine gf_101 dX5_fewestToStopEach_7 rfl ob_1 rfl ?_
    refine g_icmp_ge (tgt := 24) dX5_fewestToStopEach_10 (by decide) (fun c3 => ?_) (fun c3 => ?_)
    · replace hf := (if_pos c3).symm.trans hf
      cases hf
      refine g_sub [0] rfl ?_
      exact hk
    · replace hf := (if_neg c3).symm.trans hf
      refine g_aload_n 0 dX5_fewestToStopEach_13 rfl rfl ?_
      refine g_iload_n 1 dX5_fewestToStopEach_14 rfl rfl ?_
      obtain ⟨q1, e2, hf⟩ := bnd_some hf
      refine p_callVv (As := [.int b1]) (rest := []) (t_X5_look e2) cw_674 w_676 w_11 ob_167 rfl (Nat.le_of_ble_eq_true rfl) rfl rfl (Nat.le_of_ble_eq_true rfl) dX5_fewestToStopEach_15 ?_
      refine g_iinc (q := 1) (v := (b1 + (1 : Int32))) dX5_fewestToStopEach_18 rfl rfl (Nat.le_of_ble_eq_true rfl) rfl ?_
      refine g_goto (tgt := 2) dX5_fewestToStopEach_21 (by decide) ?_
      refine g_sub [1, 0] rfl ?_
      exact ih (b1 + (1 : Int32)) q1 _ hf hk

set_option maxRecDepth 100000 in
theorem t_X5_fewestToStopEach_L31 {V : eV} (m : mM) {r : Option Value} {h' : aH} : ∀ (n : Nat) (b1 : Int32) (b2 : Int32) (b3 : Int32) (o : Int32), f_X5_fewestToStopEach_L31 m n b1 b2 b3 = some o → gG V k_X5_fewestToStopEach 73 [(1, .int o)] [] (hS m) r h' → gG V k_X5_fewestToStopEach 31 [(0, .ref (vB V + 167)), (1, .int b1), (2, .int b2), (3, .int b3)] [] (hS m) r h' := by
  intro n
  induction n with
  | zero => intro b1 b2 b3 o hf; cases hf
  | succ n ih =>
    intro b1 b2 b3 o hf hk
    rw [f_X5_fewestToStopEach_L31] at hf
    refine g_iload_n 3 dX5_fewestToStopEach_31 rfl rfl ?_
    refine g_aload_n 0 dX5_fewestToStopEach_32 rfl rfl ?_
    refine gf_268 dX5_fewestToStopEach_33 rfl ob_167 rfl ?_
    obtain ⟨q6, e7, hf⟩ := bnd_some hf
    refine p_callV (As := []) (rest := [.int b3]) (t_X7_everyone e7) cw_750 w_639 w_640 ob_1 rfl (Nat.le_of_ble_eq_true rfl) rfl rfl (Nat.le_of_ble_eq_true rfl) dX5_fewestToStopEach_36 ?_
    refine g_icmp_gt (tgt := 73) dX5_fewestToStopEach_39 (by decide) (fun c12 => ?_) (fun c12 => ?_)
    · replace hf := (if_pos c12).symm.trans hf
      cases hf
      refine g_sub [1] rfl ?_
      exact hk
    · replace hf := (if_neg c12).symm.trans hf
      refine g_iload_n 3 dX5_fewestToStopEach_42 rfl rfl ?_
      refine p_callS (As := [.int b3]) (rest := []) (j_bitCount b3) cw_751 w_551 (Nat.le_of_ble_eq_true rfl) rfl rfl (Nat.le_of_ble_eq_true rfl) dX5_fewestToStopEach_43 ?_
      refine g_istore dX5_fewestToStopEach_46 (Nat.le_of_ble_eq_true rfl) rfl ?_
      refine g_iload 0 dX5_fewestToStopEach_48 rfl ?_
      refine g_iload_n 3 dX5_fewestToStopEach_50 rfl rfl ?_
      refine g_icmp_ge (tgt := 67) dX5_fewestToStopEach_51 (by decide) (fun c11 => ?_) (fun c11 => ?_)
      · replace hf := (if_pos c11).symm.trans hf
        refine g_iinc (q := 4) (v := (b3 + (1 : Int32))) dX5_fewestToStopEach_67 rfl rfl (Nat.le_of_ble_eq_true rfl) rfl ?_
        refine g_goto (tgt := 31) dX5_fewestToStopEach_70 (by decide) ?_
        refine g_sub [2, 3, 4, 0] rfl ?_
        exact ih b1 b2 (b3 + (1 : Int32)) _ hf hk
      · replace hf := (if_neg c11).symm.trans hf
        refine g_aload_n 1 dX5_fewestToStopEach_54 rfl rfl ?_
        refine g_iload_n 4 dX5_fewestToStopEach_55 rfl rfl ?_
        obtain ⟨q8, e9, hf⟩ := bnd_some hf
        refine p_callV (As := [.int b3]) (rest := []) (t_X5_stopsOthers e9) cw_760 w_762 w_15 ob_167 rfl (Nat.le_of_ble_eq_true rfl) rfl rfl (Nat.le_of_ble_eq_true rfl) dX5_fewestToStopEach_56 ?_
        refine g_if_eq (tgt := 67) dX5_fewestToStopEach_59 (by decide) (fun c10 => ?_) (fun c10 => ?_)
        · replace hf := (if_pos c10).symm.trans hf
          refine g_iinc (q := 4) (v := (b3 + (1 : Int32))) dX5_fewestToStopEach_67 rfl rfl (Nat.le_of_ble_eq_true rfl) rfl ?_
          refine g_goto (tgt := 31) dX5_fewestToStopEach_70 (by decide) ?_
          refine g_sub [2, 3, 4, 0] rfl ?_
          exact ih b1 b2 (b3 + (1 : Int32)) _ hf hk
        · replace hf := (if_neg c10).symm.trans hf
          refine g_iload 0 dX5_fewestToStopEach_62 rfl ?_
          refine g_istore_n dX5_fewestToStopEach_64 rfl (Nat.le_of_ble_eq_true rfl) rfl ?_
          refine g_iload_n 4 dX5_fewestToStopEach_65 rfl rfl ?_
          refine g_istore_n dX5_fewestToStopEach_66 rfl (Nat.le_of_ble_eq_true rfl) rfl ?_
          refine g_iinc (q := 4) (v := (b3 + (1 : Int32))) dX5_fewestToStopEach_67 rfl rfl (Nat.le_of_ble_eq_true rfl) rfl ?_
          refine g_goto (tgt := 31) dX5_fewestToStopEach_70 (by decide) ?_
          refine g_sub [4, 1, 2, 0] rfl ?_
          exact ih b3 (bitC b3) (b3 + (1 : Int32)) _ hf hk

set_option maxRecDepth 100000 in
theorem t_X5_fewestToStopEach {V : eV}  {m : mM} {q : Int32 × mM} (hf : f_X5_fewestToStopEach  m = some q) : eE V 4 yX5_fewestToStopEach cX5_fewestToStopEach 5 (some .int) [.ref (vB V + 167)] (hS m) (some (.int q.1)) (hS q.2) := by
  refine eE_of (by decide) (Nat.le_of_ble_eq_true rfl) ?_
  show gG V k_X5_fewestToStopEach 0 [(0, .ref (vB V + 167))] [] (hS m) _ _
  unfold f_X5_fewestToStopEach at hf
  refine g_iconst (v := 0) dX5_fewestToStopEach_0 rfl ?_
  refine g_istore_n dX5_fewestToStopEach_1 rfl (Nat.le_of_ble_eq_true rfl) rfl ?_
  refine g_sub [1, 0] rfl ?_
  obtain ⟨o4, e5, hf⟩ := bnd_some hf
  refine t_X5_fewestToStopEach_L2 (V := V) fU (0 : Int32) m _ e5 ?_
  refine g_iconst (v := 0) dX5_fewestToStopEach_24 rfl ?_
  refine g_istore_n dX5_fewestToStopEach_25 rfl (Nat.le_of_ble_eq_true rfl) rfl ?_
  refine g_bipush (v := 9) dX5_fewestToStopEach_26 rfl ?_
  refine g_istore_n dX5_fewestToStopEach_28 rfl (Nat.le_of_ble_eq_true rfl) rfl ?_
  refine g_iconst (v := 0) dX5_fewestToStopEach_29 rfl ?_
  refine g_istore_n dX5_fewestToStopEach_30 rfl (Nat.le_of_ble_eq_true rfl) rfl ?_
  refine g_sub [3, 2, 1, 0] rfl ?_
  obtain ⟨o13, e14, hf⟩ := bnd_some hf
  refine t_X5_fewestToStopEach_L31 (V := V) o4 fU (0 : Int32) (9 : Int32) (0 : Int32) _ e14 ?_
  refine g_iload_n 0 dX5_fewestToStopEach_73 rfl rfl ?_
  cases hf
  exact g_iret dX5_fewestToStopEach_74 .int rfl rfl

abbrev k_X8_stopAll : kX := (cX8_stopAll, "WhoseHourItIs", "stopAll", some .int, 1, 5)
def f_X8_stopAll  (m : mM) : Option (Int32 × mM) :=
bnd (f_X5_fewestToStopEach m) fun q1 =>
some (q1.1, q1.2)
set_option maxRecDepth 100000 in
theorem t_X8_stopAll {V : eV}  {m : mM} {q : Int32 × mM} (hf : f_X8_stopAll  m = some q) : eE V 5 yX8_stopAll cX8_stopAll 1 (some .int) [.ref (vB V + 0)] (hS m) (some (.int q.1)) (hS q.2) := by
  refine eE_of (by decide) (Nat.le_of_ble_eq_true rfl) ?_
  show gG V k_X8_stopAll 0 [(0, .ref (vB V + 0))] [] (hS m) _ _
  unfold f_X8_stopAll at hf
  refine g_aload_n 0 dX8_stopAll_0 rfl rfl ?_
  refine gf_322 dX8_stopAll_1 rfl ob_0 rfl ?_
  obtain ⟨q1, e2, hf⟩ := bnd_some hf
  refine p_callV (As := []) (rest := []) (t_X5_fewestToStopEach e2) cw_756 w_757 w_758 ob_167 rfl (Nat.le_of_ble_eq_true rfl) rfl rfl (Nat.le_of_ble_eq_true rfl) dX8_stopAll_4 ?_
  cases hf
  exact g_iret dX8_stopAll_7 .int rfl rfl

abbrev k_X5_ordersOf : kX := (cX5_ordersOf, "WhoseHourItIs$Strikes", "ordersOf", some .int, 1, 1)
def f_X5_ordersOf (a0 : Int32) (m : mM) : Option (Int32) :=
bnd (fcA (if (bitC a0) < (5 : Int32) then (bitC a0) else (5 : Int32))) fun v1 =>
some v1
set_option maxRecDepth 100000 in
theorem t_X5_ordersOf {V : eV} {a0 : Int32}  {m : mM} {q : Int32} (hf : f_X5_ordersOf a0 m = some q) : eE V 1 yX5_ordersOf cX5_ordersOf 1 (some .int) [.int a0] (hS m) (some (.int q)) (hS m) := by
  refine eE_of (by decide) (Nat.le_of_ble_eq_true rfl) ?_
  show gG V k_X5_ordersOf 0 [(0, .int a0)] [] (hS m) _ _
  unfold f_X5_ordersOf at hf
  refine g_fac w_775 dX5_ordersOf_0 ?_
  refine g_iconst (v := 5) dX5_ordersOf_3 rfl ?_
  refine g_iload_n 0 dX5_ordersOf_4 rfl rfl ?_
  refine p_callS (As := [.int a0]) (rest := [.int (5 : Int32), .ref (vF V)]) (j_bitCount a0) cw_751 w_551 (Nat.le_of_ble_eq_true rfl) rfl rfl (Nat.le_of_ble_eq_true rfl) dX5_ordersOf_5 ?_
  refine g_min w_777 w_459 w_71 w_460 (Nat.le_of_ble_eq_true rfl) (Nat.le_of_ble_eq_true rfl) dX5_ordersOf_8 ?_
  obtain ⟨v1, e2, hf⟩ := bnd_some hf
  refine p_facld dX5_ordersOf_11 e2 ?_
  cases hf
  exact g_iret dX5_ordersOf_12 .int rfl rfl

abbrev k_X5_pivotalOrders : kX := (cX5_pivotalOrders, "WhoseHourItIs$Strikes", "pivotalOrders", some .int, 9, 3)
def f_X5_pivotalOrders_L44 (b1 : Int32) (b2 : Int32) (b4 : Int32) (m : mM) : Nat → Int32 → Int32 → Option (Int32)
  | 0, _, _ => none
  | n + 1, b5, b6 =>
      if b4 < b6 then (
      some b5)
      else (
      if (b6 &&& (b4 ^^^ (-1 : Int32))) = 0 then (
      bnd (f_X5_canBe b2 (((m 1 2) ||| (b4 &&& (b6 ^^^ (-1 : Int32)))) ||| ((1 : Int32) <<< (b1 &&& 31))) (0 : Int32) m) fun q9 =>
      if q9 = 0 then (
      bnd (f_X5_canBe b2 ((m 1 2) ||| (b4 &&& (b6 ^^^ (-1 : Int32)))) (0 : Int32) m) fun q11 =>
      if q11 = 0 then (
      f_X5_pivotalOrders_L44 b1 b2 b4 m n b5 (b6 + (1 : Int32)))
      else (
      bnd (f_X5_ordersOf b6 m) fun q13 =>
      bnd (f_X5_ordersOf (b4 &&& (b6 ^^^ (-1 : Int32))) m) fun q15 =>
      f_X5_pivotalOrders_L44 b1 b2 b4 m n (b5 + (q13 * q15)) (b6 + (1 : Int32))))
      else (
      f_X5_pivotalOrders_L44 b1 b2 b4 m n b5 (b6 + (1 : Int32))))
      else (
      f_X5_pivotalOrders_L44 b1 b2 b4 m n b5 (b6 + (1 : Int32))))
def f_X5_pivotalOrders (a1 : Int32) (a2 : Int32) (m : mM) : Option (Int32 × mM) :=
bnd (f_X5_look a2 m) fun q1 =>
bnd (f_X7_everyone q1) fun q3 =>
bnd (ckR 6 a2) fun j5 =>
bnd (rdA (44 + j5) 6 (0 : Int32) q1) fun v7 =>
bnd (f_X5_pivotalOrders_L44 a1 a2 ((q3 &&& (((1 : Int32) <<< (v7 &&& 31)) ^^^ (-1 : Int32))) &&& (((1 : Int32) <<< (a1 &&& 31)) ^^^ (-1 : Int32))) q1 fU (0 : Int32) (0 : Int32)) fun o21 =>
some (o21, q1)
set_option maxRecDepth 100000 in
theorem t_X5_pivotalOrders_L44 {V : eV} (b1 : Int32) (b2 : Int32) (b4 : Int32) (m : mM) {r : Option Value} {h' : aH} : ∀ (n : Nat) (b5 : Int32) (b6 : Int32) (o : Int32), f_X5_pivotalOrders_L44 b1 b2 b4 m n b5 b6 = some o → gG V k_X5_pivotalOrders 141 [(5, .int o)] [] (hS m) r h' → gG V k_X5_pivotalOrders 44 [(0, .ref (vB V + 167)), (1, .int b1), (2, .int b2), (4, .int b4), (5, .int b5), (6, .int b6)] [] (hS m) r h' := by
  intro n
  induction n with
  | zero => intro b5 b6 o hf; cases hf
  | succ n ih =>
    intro b5 b6 o hf hk
    rw [f_X5_pivotalOrders_L44] at hf
    refine g_iload 5 dX5_pivotalOrders_44 rfl ?_
    refine g_iload 3 dX5_pivotalOrders_46 rfl ?_
    refine g_icmp_gt (tgt := 141) dX5_pivotalOrders_48 (by decide) (fun c20 => ?_) (fun c20 => ?_)
    · replace hf := (if_pos c20).symm.trans hf
      cases hf
      refine g_sub [4] rfl ?_
      exact hk
    · replace hf := (if_neg c20).symm.trans hf
      refine g_iload 5 dX5_pivotalOrders_51 rfl ?_
      refine g_iload 3 dX5_pivotalOrders_53 rfl ?_
      refine g_iconst (v := -1) dX5_pivotalOrders_55 rfl ?_
      refine g_ixor dX5_pivotalOrders_56 ?_
      refine g_iand dX5_pivotalOrders_57 ?_
      refine g_if_eq (tgt := 64) dX5_pivotalOrders_58 (by decide) (fun c19 => ?_) (fun c19 => ?_)
      · replace hf := (if_pos c19).symm.trans hf
        refine g_iload 3 dX5_pivotalOrders_64 rfl ?_
        refine g_iload 5 dX5_pivotalOrders_66 rfl ?_
        refine g_iconst (v := -1) dX5_pivotalOrders_68 rfl ?_
        refine g_ixor dX5_pivotalOrders_69 ?_
        refine g_iand dX5_pivotalOrders_70 ?_
        refine g_istore dX5_pivotalOrders_71 (Nat.le_of_ble_eq_true rfl) rfl ?_
        refine g_aload_n 1 dX5_pivotalOrders_73 rfl rfl ?_
        refine gf_268 dX5_pivotalOrders_74 rfl ob_167 rfl ?_
        refine gf_105 dX5_pivotalOrders_77 rfl ob_1 rfl ?_
        refine g_iload 0 dX5_pivotalOrders_80 rfl ?_
        refine g_ior dX5_pivotalOrders_82 ?_
        refine g_iconst (v := 1) dX5_pivotalOrders_83 rfl ?_
        refine g_iload_n 2 dX5_pivotalOrders_84 rfl rfl ?_
        refine g_ishl dX5_pivotalOrders_85 ?_
        refine g_ior dX5_pivotalOrders_86 ?_
        refine g_istore dX5_pivotalOrders_87 (Nat.le_of_ble_eq_true rfl) rfl ?_
        refine g_aload_n 2 dX5_pivotalOrders_89 rfl rfl ?_
        refine g_iload_n 4 dX5_pivotalOrders_90 rfl rfl ?_
        refine g_iload 0 dX5_pivotalOrders_91 rfl ?_
        refine g_iconst (v := 0) dX5_pivotalOrders_93 rfl ?_
        obtain ⟨q9, e10, hf⟩ := bnd_some hf
        refine p_callV (As := [.int b2, .int (((m 1 2) ||| (b4 &&& (b6 ^^^ (-1 : Int32)))) ||| ((1 : Int32) <<< (b1 &&& 31))), .int (0 : Int32)]) (rest := []) (t_X5_canBe e10) cw_680 w_682 w_12 ob_167 rfl (Nat.le_of_ble_eq_true rfl) rfl rfl (Nat.le_of_ble_eq_true rfl) dX5_pivotalOrders_94 ?_
        refine g_if_ne (tgt := 135) dX5_pivotalOrders_97 (by decide) (fun c18 => ?_) (fun c18 => ?_)
        · replace hf := (if_neg c18).symm.trans hf
          refine g_iinc (q := 7) (v := (b6 + (1 : Int32))) dX5_pivotalOrders_135 rfl rfl (Nat.le_of_ble_eq_true rfl) rfl ?_
          refine g_goto (tgt := 44) dX5_pivotalOrders_138 (by decide) ?_
          refine g_sub [3, 4, 5, 6, 7, 0] rfl ?_
          exact ih b5 (b6 + (1 : Int32)) _ hf hk
        · replace hf := (if_pos c18).symm.trans hf
          refine g_aload_n 2 dX5_pivotalOrders_100 rfl rfl ?_
          refine g_iload_n 4 dX5_pivotalOrders_101 rfl rfl ?_
          refine g_aload_n 2 dX5_pivotalOrders_102 rfl rfl ?_
          refine gf_268 dX5_pivotalOrders_103 rfl ob_167 rfl ?_
          refine gf_105 dX5_pivotalOrders_106 rfl ob_1 rfl ?_
          refine g_iload 1 dX5_pivotalOrders_109 rfl ?_
          refine g_ior dX5_pivotalOrders_111 ?_
          refine g_iconst (v := 0) dX5_pivotalOrders_112 rfl ?_
          obtain ⟨q11, e12, hf⟩ := bnd_some hf
          refine p_callV (As := [.int b2, .int ((m 1 2) ||| (b4 &&& (b6 ^^^ (-1 : Int32)))), .int (0 : Int32)]) (rest := []) (t_X5_canBe e12) cw_680 w_682 w_12 ob_167 rfl (Nat.le_of_ble_eq_true rfl) rfl rfl (Nat.le_of_ble_eq_true rfl) dX5_pivotalOrders_113 ?_
          refine g_if_eq (tgt := 135) dX5_pivotalOrders_116 (by decide) (fun c17 => ?_) (fun c17 => ?_)
          · replace hf := (if_pos c17).symm.trans hf
            refine g_iinc (q := 7) (v := (b6 + (1 : Int32))) dX5_pivotalOrders_135 rfl rfl (Nat.le_of_ble_eq_true rfl) rfl ?_
            refine g_goto (tgt := 44) dX5_pivotalOrders_138 (by decide) ?_
            refine g_sub [3, 4, 5, 6, 7, 0] rfl ?_
            exact ih b5 (b6 + (1 : Int32)) _ hf hk
          · replace hf := (if_neg c17).symm.trans hf
            refine g_iload 6 dX5_pivotalOrders_119 rfl ?_
            refine g_iload 7 dX5_pivotalOrders_121 rfl ?_
            obtain ⟨q13, e14, hf⟩ := bnd_some hf
            refine p_callS (As := [.int b6]) (rest := [.int b5]) (t_X5_ordersOf e14) cw_772 w_773 (Nat.le_of_ble_eq_true rfl) rfl rfl (Nat.le_of_ble_eq_true rfl) dX5_pivotalOrders_123 ?_
            refine g_iload 1 dX5_pivotalOrders_126 rfl ?_
            obtain ⟨q15, e16, hf⟩ := bnd_some hf
            refine p_callS (As := [.int (b4 &&& (b6 ^^^ (-1 : Int32)))]) (rest := [.int q13, .int b5]) (t_X5_ordersOf e16) cw_772 w_773 (Nat.le_of_ble_eq_true rfl) rfl rfl (Nat.le_of_ble_eq_true rfl) dX5_pivotalOrders_128 ?_
            refine g_imul dX5_pivotalOrders_131 ?_
            refine g_iadd dX5_pivotalOrders_132 ?_
            refine g_istore dX5_pivotalOrders_133 (Nat.le_of_ble_eq_true rfl) rfl ?_
            refine g_iinc (q := 7) (v := (b6 + (1 : Int32))) dX5_pivotalOrders_135 rfl rfl (Nat.le_of_ble_eq_true rfl) rfl ?_
            refine g_goto (tgt := 44) dX5_pivotalOrders_138 (by decide) ?_
            refine g_sub [4, 5, 6, 7, 1, 0] rfl ?_
            exact ih (b5 + (q13 * q15)) (b6 + (1 : Int32)) _ hf hk
      · replace hf := (if_neg c19).symm.trans hf
        refine g_goto (tgt := 135) dX5_pivotalOrders_61 (by decide) ?_
        refine g_iinc (q := 5) (v := (b6 + (1 : Int32))) dX5_pivotalOrders_135 rfl rfl (Nat.le_of_ble_eq_true rfl) rfl ?_
        refine g_goto (tgt := 44) dX5_pivotalOrders_138 (by decide) ?_
        refine g_sub [1, 2, 3, 4, 5, 0] rfl ?_
        exact ih b5 (b6 + (1 : Int32)) _ hf hk

set_option maxRecDepth 100000 in
theorem t_X5_pivotalOrders {V : eV} {a1 : Int32} {a2 : Int32}  {m : mM} {q : Int32 × mM} (hf : f_X5_pivotalOrders a1 a2 m = some q) : eE V 3 yX5_pivotalOrders cX5_pivotalOrders 9 (some .int) [.ref (vB V + 167), .int a1, .int a2] (hS m) (some (.int q.1)) (hS q.2) := by
  refine eE_of (by decide) (Nat.le_of_ble_eq_true rfl) ?_
  show gG V k_X5_pivotalOrders 0 [(0, .ref (vB V + 167)), (1, .int a1), (2, .int a2)] [] (hS m) _ _
  unfold f_X5_pivotalOrders at hf
  refine g_aload_n 0 dX5_pivotalOrders_0 rfl rfl ?_
  refine g_iload_n 2 dX5_pivotalOrders_1 rfl rfl ?_
  obtain ⟨q1, e2, hf⟩ := bnd_some hf
  refine p_callVv (As := [.int a2]) (rest := []) (t_X5_look e2) cw_674 w_676 w_11 ob_167 rfl (Nat.le_of_ble_eq_true rfl) rfl rfl (Nat.le_of_ble_eq_true rfl) dX5_pivotalOrders_2 ?_
  refine g_aload_n 0 dX5_pivotalOrders_5 rfl rfl ?_
  refine gf_268 dX5_pivotalOrders_6 rfl ob_167 rfl ?_
  obtain ⟨q3, e4, hf⟩ := bnd_some hf
  refine p_callV (As := []) (rest := []) (t_X7_everyone e4) cw_750 w_639 w_640 ob_1 rfl (Nat.le_of_ble_eq_true rfl) rfl rfl (Nat.le_of_ble_eq_true rfl) dX5_pivotalOrders_9 ?_
  refine g_iconst (v := 1) dX5_pivotalOrders_12 rfl ?_
  refine g_aload_n 0 dX5_pivotalOrders_13 rfl rfl ?_
  refine gf_268 dX5_pivotalOrders_14 rfl ob_167 rfl ?_
  refine gf_135 dX5_pivotalOrders_17 rfl ob_1 rfl ?_
  refine g_iload_n 2 dX5_pivotalOrders_20 rfl rfl ?_
  obtain ⟨j5, e6, hf⟩ := bnd_some hf
  refine p_aald dX5_pivotalOrders_21 rt_43 e6 (fun hj5 => ?_)
  refine g_iconst (v := 0) dX5_pivotalOrders_22 rfl ?_
  obtain ⟨v7, e8, hf⟩ := bnd_some hf
  refine p_iald dX5_pivotalOrders_23 (ar_44 hj5) e8 ?_
  refine g_ishl dX5_pivotalOrders_24 ?_
  refine g_iconst (v := -1) dX5_pivotalOrders_25 rfl ?_
  refine g_ixor dX5_pivotalOrders_26 ?_
  refine g_iand dX5_pivotalOrders_27 ?_
  refine g_istore_n dX5_pivotalOrders_28 rfl (Nat.le_of_ble_eq_true rfl) rfl ?_
  refine g_iload_n 0 dX5_pivotalOrders_29 rfl rfl ?_
  refine g_iconst (v := 1) dX5_pivotalOrders_30 rfl ?_
  refine g_iload_n 2 dX5_pivotalOrders_31 rfl rfl ?_
  refine g_ishl dX5_pivotalOrders_32 ?_
  refine g_iconst (v := -1) dX5_pivotalOrders_33 rfl ?_
  refine g_ixor dX5_pivotalOrders_34 ?_
  refine g_iand dX5_pivotalOrders_35 ?_
  refine g_istore dX5_pivotalOrders_36 (Nat.le_of_ble_eq_true rfl) rfl ?_
  refine g_iconst (v := 0) dX5_pivotalOrders_38 rfl ?_
  refine g_istore dX5_pivotalOrders_39 (Nat.le_of_ble_eq_true rfl) rfl ?_
  refine g_iconst (v := 0) dX5_pivotalOrders_41 rfl ?_
  refine g_istore dX5_pivotalOrders_42 (Nat.le_of_ble_eq_true rfl) rfl ?_
  refine g_sub [4, 5, 6, 2, 1, 0] rfl ?_
  obtain ⟨o21, e22, hf⟩ := bnd_some hf
  refine t_X5_pivotalOrders_L44 (V := V) a1 a2 ((q3 &&& (((1 : Int32) <<< (v7 &&& 31)) ^^^ (-1 : Int32))) &&& (((1 : Int32) <<< (a1 &&& 31)) ^^^ (-1 : Int32))) q1 fU (0 : Int32) (0 : Int32) _ e22 ?_
  refine g_iload 0 dX5_pivotalOrders_141 rfl ?_
  cases hf
  exact g_iret dX5_pivotalOrders_143 .int rfl rfl

abbrev k_X5_orders : kX := (cX5_orders, "WhoseHourItIs$Strikes", "orders", some .int, 1, 1)
def f_X5_orders  (m : mM) : Option (Int32) :=
bnd (fcA (if (0 : Int32) < (if ((m 1 0) - (1 : Int32)) < (5 : Int32) then ((m 1 0) - (1 : Int32)) else (5 : Int32)) then (if ((m 1 0) - (1 : Int32)) < (5 : Int32) then ((m 1 0) - (1 : Int32)) else (5 : Int32)) else (0 : Int32))) fun v1 =>
some v1
set_option maxRecDepth 100000 in
theorem t_X5_orders {V : eV}  {m : mM} {q : Int32} (hf : f_X5_orders  m = some q) : eE V 1 yX5_orders cX5_orders 1 (some .int) [.ref (vB V + 167)] (hS m) (some (.int q)) (hS m) := by
  refine eE_of (by decide) (Nat.le_of_ble_eq_true rfl) ?_
  show gG V k_X5_orders 0 [(0, .ref (vB V + 167))] [] (hS m) _ _
  unfold f_X5_orders at hf
  refine g_fac w_775 dX5_orders_0 ?_
  refine g_iconst (v := 0) dX5_orders_3 rfl ?_
  refine g_iconst (v := 5) dX5_orders_4 rfl ?_
  refine g_aload_n 0 dX5_orders_5 rfl rfl ?_
  refine gf_268 dX5_orders_6 rfl ob_167 rfl ?_
  refine gf_94 dX5_orders_9 rfl ob_1 rfl ?_
  refine g_iconst (v := 1) dX5_orders_12 rfl ?_
  refine g_isub dX5_orders_13 ?_
  refine g_min w_777 w_459 w_71 w_460 (Nat.le_of_ble_eq_true rfl) (Nat.le_of_ble_eq_true rfl) dX5_orders_14 ?_
  refine g_max w_691 w_456 w_71 w_457 (Nat.le_of_ble_eq_true rfl) (Nat.le_of_ble_eq_true rfl) dX5_orders_17 ?_
  obtain ⟨v1, e2, hf⟩ := bnd_some hf
  refine p_facld dX5_orders_20 e2 ?_
  cases hf
  exact g_iret dX5_orders_21 .int rfl rfl

abbrev k_X8_greatestShared : kX := (cX8_greatestShared, "WhoseHourItIs", "greatestShared", some .int, 3, 0)
def f_X8_greatestShared_L2 (b0 : Int32) (b1 : Int32) (m : mM) : Nat → Int32 → Option ((Int32) ⊕ (Unit))
  | 0, _ => none
  | n + 1, b2 =>
      if b2 ≤ (1 : Int32) then (
      some (.inr ()))
      else (
      bnd (rmI b0 b2) fun v1 =>
      if v1 = 0 then (
      bnd (rmI b1 b2) fun v3 =>
      if v3 = 0 then (
      some (.inl b2))
      else (
      f_X8_greatestShared_L2 b0 b1 m n (b2 + (-1 : Int32))))
      else (
      f_X8_greatestShared_L2 b0 b1 m n (b2 + (-1 : Int32))))
def f_X8_greatestShared (a0 : Int32) (a1 : Int32) (m : mM) : Option (Int32) :=
bnd (f_X8_greatestShared_L2 a0 a1 m fU a1) fun o8 =>
ora o8 (fun zq => some zq) fun x9 =>
some (1 : Int32)
set_option maxRecDepth 100000 in
theorem t_X8_greatestShared_L2 {V : eV} (b0 : Int32) (b1 : Int32) (m : mM) {r : Option Value} {h' : aH} : ∀ (n : Nat) (b2 : Int32) (o : (Int32) ⊕ (Unit)), f_X8_greatestShared_L2 b0 b1 m n b2 = some o → lxP (hS m) o r h' (fun x => gG V k_X8_greatestShared 27 [] [] (hS m) r h') → gG V k_X8_greatestShared 2 [(0, .int b0), (1, .int b1), (2, .int b2)] [] (hS m) r h' := by
  intro n
  induction n with
  | zero => intro b2 o hf; cases hf
  | succ n ih =>
    intro b2 o hf hk
    rw [f_X8_greatestShared_L2] at hf
    refine g_iload_n 2 dX8_greatestShared_2 rfl rfl ?_
    refine g_iconst (v := 1) dX8_greatestShared_3 rfl ?_
    refine g_icmp_le (tgt := 27) dX8_greatestShared_4 (by decide) (fun c7 => ?_) (fun c7 => ?_)
    · replace hf := (if_pos c7).symm.trans hf
      cases hf
      refine g_sub [] rfl ?_
      exact hk
    · replace hf := (if_neg c7).symm.trans hf
      refine g_iload_n 0 dX8_greatestShared_7 rfl rfl ?_
      refine g_iload_n 2 dX8_greatestShared_8 rfl rfl ?_
      obtain ⟨v1, e2, hf⟩ := bnd_some hf
      refine p_irem dX8_greatestShared_9 e2 ?_
      refine g_if_ne (tgt := 21) dX8_greatestShared_10 (by decide) (fun c6 => ?_) (fun c6 => ?_)
      · replace hf := (if_neg c6).symm.trans hf
        refine g_iinc (q := 2) (v := (b2 + (-1 : Int32))) dX8_greatestShared_21 rfl rfl (Nat.le_of_ble_eq_true rfl) rfl ?_
        refine g_goto (tgt := 2) dX8_greatestShared_24 (by decide) ?_
        refine g_sub [1, 2, 0] rfl ?_
        exact ih (b2 + (-1 : Int32)) _ hf hk
      · replace hf := (if_pos c6).symm.trans hf
        refine g_iload_n 1 dX8_greatestShared_13 rfl rfl ?_
        refine g_iload_n 2 dX8_greatestShared_14 rfl rfl ?_
        obtain ⟨v3, e4, hf⟩ := bnd_some hf
        refine p_irem dX8_greatestShared_15 e4 ?_
        refine g_if_ne (tgt := 21) dX8_greatestShared_16 (by decide) (fun c5 => ?_) (fun c5 => ?_)
        · replace hf := (if_neg c5).symm.trans hf
          refine g_iinc (q := 2) (v := (b2 + (-1 : Int32))) dX8_greatestShared_21 rfl rfl (Nat.le_of_ble_eq_true rfl) rfl ?_
          refine g_goto (tgt := 2) dX8_greatestShared_24 (by decide) ?_
          refine g_sub [1, 2, 0] rfl ?_
          exact ih (b2 + (-1 : Int32)) _ hf hk
        · replace hf := (if_pos c5).symm.trans hf
          refine g_iload_n 2 dX8_greatestShared_19 rfl rfl ?_
          cases hf
          obtain ⟨rfl, rfl⟩ := hk
          exact g_iret dX8_greatestShared_20 .int rfl rfl

set_option maxRecDepth 100000 in
theorem t_X8_greatestShared {V : eV} {a0 : Int32} {a1 : Int32}  {m : mM} {q : Int32} (hf : f_X8_greatestShared a0 a1 m = some q) : eE V 0 yX8_greatestShared cX8_greatestShared 3 (some .int) [.int a0, .int a1] (hS m) (some (.int q)) (hS m) := by
  refine eE_of (by decide) (Nat.le_of_ble_eq_true rfl) ?_
  show gG V k_X8_greatestShared 0 [(0, .int a0), (1, .int a1)] [] (hS m) _ _
  unfold f_X8_greatestShared at hf
  refine g_iload_n 1 dX8_greatestShared_0 rfl rfl ?_
  refine g_istore_n dX8_greatestShared_1 rfl (Nat.le_of_ble_eq_true rfl) rfl ?_
  refine g_sub [1, 2, 0] rfl ?_
  obtain ⟨o8, e10, hf⟩ := bnd_some hf
  refine t_X8_greatestShared_L2 (V := V) a0 a1 m fU a1 _ e10 ?_
  rcases o8 with zq | x9
  · replace hf := ora_l hf
    cases hf
    exact ⟨rfl, rfl⟩
  · replace hf := ora_r hf
    show gG V _ _ _ _ _ _ _
    refine g_iconst (v := 1) dX8_greatestShared_27 rfl ?_
    cases hf
    exact g_iret dX8_greatestShared_28 .int rfl rfl

abbrev k_X8_power : kX := (cX8_power, "WhoseHourItIs", "power", some .int, 7, 4)
def f_X8_power (a1 : Int32) (a2 : Int32) (a3 : Int32) (m : mM) : Option (Int32 × mM) :=
bnd (f_X7_hasHolder_1 a1 m) fun q1 =>
if q1 = 0 then (
bnd (f_X8_refuse (-1 : Int32) m) fun q3 =>
some (q3.1, q3.2))
else (
bnd (f_X7_hasWork_1 a2 m) fun q5 =>
if q5 = 0 then (
bnd (f_X8_refuse (-1 : Int32) m) fun q7 =>
some (q7.1, q7.2))
else (
bnd (ckR 6 a2) fun j9 =>
bnd (rdA (44 + j9) 6 (0 : Int32) m) fun v11 =>
if v11 = a1 then (
bnd (f_X8_refuse (-1 : Int32) m) fun q13 =>
some (q13.1, q13.2))
else (
if a3 < 0 then (
bnd (f_X8_refuse (-2 : Int32) m) fun q15 =>
some (q15.1, q15.2))
else (
if a3 ≤ (1 : Int32) then (
if (m 1 0) ≤ (6 : Int32) then (
bnd (f_X5_pivotalOrders a1 a2 m) fun q17 =>
bnd (f_X5_orders q17.2) fun q19 =>
bnd (f_X8_greatestShared q17.1 q19 q17.2) fun q21 =>
if a3 = 0 then (
bnd (dvI q17.1 (if (1 : Int32) < q21 then q21 else (1 : Int32))) fun v23 =>
some (v23, q17.2))
else (
bnd (dvI q19 (if (1 : Int32) < q21 then q21 else (1 : Int32))) fun v25 =>
some (v25, q17.2)))
else (
bnd (f_X8_refuse (-6 : Int32) m) fun q28 =>
some (q28.1, q28.2)))
else (
bnd (f_X8_refuse (-2 : Int32) m) fun q31 =>
some (q31.1, q31.2))))))
set_option maxRecDepth 100000 in
theorem t_X8_power {V : eV} {a1 : Int32} {a2 : Int32} {a3 : Int32}  {m : mM} {q : Int32 × mM} (hf : f_X8_power a1 a2 a3 m = some q) : eE V 4 yX8_power cX8_power 7 (some .int) [.ref (vB V + 0), .int a1, .int a2, .int a3] (hS m) (some (.int q.1)) (hS q.2) := by
  refine eE_of (by decide) (Nat.le_of_ble_eq_true rfl) ?_
  show gG V k_X8_power 0 [(0, .ref (vB V + 0)), (1, .int a1), (2, .int a2), (3, .int a3)] [] (hS m) _ _
  unfold f_X8_power at hf
  refine g_aload_n 0 dX8_power_0 rfl rfl ?_
  refine gf_314 dX8_power_1 rfl ob_0 rfl ?_
  refine g_iload_n 1 dX8_power_4 rfl rfl ?_
  obtain ⟨q1, e2, hf⟩ := bnd_some hf
  refine p_callV (As := [.int a1]) (rest := []) (t_X7_hasHolder_1 e2) cw_549 w_523 w_524 ob_1 rfl (Nat.le_of_ble_eq_true rfl) rfl rfl (Nat.le_of_ble_eq_true rfl) dX8_power_5 ?_
  refine g_if_eq (tgt := 37) dX8_power_8 (by decide) (fun c37 => ?_) (fun c37 => ?_)
  · replace hf := (if_pos c37).symm.trans hf
    refine g_aload_n 0 dX8_power_37 rfl rfl ?_
    refine g_iconst (v := -1) dX8_power_38 rfl ?_
    obtain ⟨q3, e4, hf⟩ := bnd_some hf
    refine p_callV (As := [.int (-1 : Int32)]) (rest := []) (t_X8_refuse e4) cw_355 w_357 w_0 ob_0 rfl (Nat.le_of_ble_eq_true rfl) rfl rfl (Nat.le_of_ble_eq_true rfl) dX8_power_39 ?_
    cases hf
    exact g_iret dX8_power_42 .int rfl rfl
  · replace hf := (if_neg c37).symm.trans hf
    refine g_aload_n 0 dX8_power_11 rfl rfl ?_
    refine gf_314 dX8_power_12 rfl ob_0 rfl ?_
    refine g_iload_n 2 dX8_power_15 rfl rfl ?_
    obtain ⟨q5, e6, hf⟩ := bnd_some hf
    refine p_callV (As := [.int a2]) (rest := []) (t_X7_hasWork_1 e6) cw_623 w_624 w_625 ob_1 rfl (Nat.le_of_ble_eq_true rfl) rfl rfl (Nat.le_of_ble_eq_true rfl) dX8_power_16 ?_
    refine g_if_eq (tgt := 37) dX8_power_19 (by decide) (fun c36 => ?_) (fun c36 => ?_)
    · replace hf := (if_pos c36).symm.trans hf
      refine g_aload_n 0 dX8_power_37 rfl rfl ?_
      refine g_iconst (v := -1) dX8_power_38 rfl ?_
      obtain ⟨q7, e8, hf⟩ := bnd_some hf
      refine p_callV (As := [.int (-1 : Int32)]) (rest := []) (t_X8_refuse e8) cw_355 w_357 w_0 ob_0 rfl (Nat.le_of_ble_eq_true rfl) rfl rfl (Nat.le_of_ble_eq_true rfl) dX8_power_39 ?_
      cases hf
      exact g_iret dX8_power_42 .int rfl rfl
    · replace hf := (if_neg c36).symm.trans hf
      refine g_aload_n 0 dX8_power_22 rfl rfl ?_
      refine gf_314 dX8_power_23 rfl ob_0 rfl ?_
      refine gf_138 dX8_power_26 rfl ob_1 rfl ?_
      refine g_iload_n 2 dX8_power_29 rfl rfl ?_
      obtain ⟨j9, e10, hf⟩ := bnd_some hf
      refine p_aald dX8_power_30 rt_43 e10 (fun hj9 => ?_)
      refine g_iconst (v := 0) dX8_power_31 rfl ?_
      obtain ⟨v11, e12, hf⟩ := bnd_some hf
      refine p_iald dX8_power_32 (ar_44 hj9) e12 ?_
      refine g_iload_n 1 dX8_power_33 rfl rfl ?_
      refine g_icmp_ne (tgt := 43) dX8_power_34 (by decide) (fun c35 => ?_) (fun c35 => ?_)
      · replace hf := (if_neg c35).symm.trans hf
        refine g_iload_n 3 dX8_power_43 rfl rfl ?_
        refine g_if_lt (tgt := 52) dX8_power_44 (by decide) (fun c34 => ?_) (fun c34 => ?_)
        · replace hf := (if_pos c34).symm.trans hf
          refine g_aload_n 0 dX8_power_52 rfl rfl ?_
          refine g_bipush (v := -2) dX8_power_53 rfl ?_
          obtain ⟨q15, e16, hf⟩ := bnd_some hf
          refine p_callV (As := [.int (-2 : Int32)]) (rest := []) (t_X8_refuse e16) cw_355 w_357 w_0 ob_0 rfl (Nat.le_of_ble_eq_true rfl) rfl rfl (Nat.le_of_ble_eq_true rfl) dX8_power_55 ?_
          cases hf
          exact g_iret dX8_power_58 .int rfl rfl
        · replace hf := (if_neg c34).symm.trans hf
          refine g_iload_n 3 dX8_power_47 rfl rfl ?_
          refine g_iconst (v := 1) dX8_power_48 rfl ?_
          refine g_icmp_le (tgt := 59) dX8_power_49 (by decide) (fun c33 => ?_) (fun c33 => ?_)
          · replace hf := (if_pos c33).symm.trans hf
            refine g_aload_n 0 dX8_power_59 rfl rfl ?_
            refine gf_314 dX8_power_60 rfl ob_0 rfl ?_
            refine gf_95 dX8_power_63 rfl ob_1 rfl ?_
            refine g_bipush (v := 6) dX8_power_66 rfl ?_
            refine g_icmp_le (tgt := 78) dX8_power_68 (by decide) (fun c30 => ?_) (fun c30 => ?_)
            · replace hf := (if_pos c30).symm.trans hf
              refine g_aload_n 0 dX8_power_78 rfl rfl ?_
              refine gf_322 dX8_power_79 rfl ob_0 rfl ?_
              refine g_iload_n 1 dX8_power_82 rfl rfl ?_
              refine g_iload_n 2 dX8_power_83 rfl rfl ?_
              obtain ⟨q17, e18, hf⟩ := bnd_some hf
              refine p_callV (As := [.int a1, .int a2]) (rest := []) (t_X5_pivotalOrders e18) cw_768 w_769 w_770 ob_167 rfl (Nat.le_of_ble_eq_true rfl) rfl rfl (Nat.le_of_ble_eq_true rfl) dX8_power_84 ?_
              refine g_istore dX8_power_87 (Nat.le_of_ble_eq_true rfl) rfl ?_
              refine g_aload_n 1 dX8_power_89 rfl rfl ?_
              refine gf_322 dX8_power_90 rfl ob_0 rfl ?_
              obtain ⟨q19, e20, hf⟩ := bnd_some hf
              refine p_callV (As := []) (rest := []) (t_X5_orders e20) cw_778 w_779 w_780 ob_167 rfl (Nat.le_of_ble_eq_true rfl) rfl rfl (Nat.le_of_ble_eq_true rfl) dX8_power_93 ?_
              refine g_istore dX8_power_96 (Nat.le_of_ble_eq_true rfl) rfl ?_
              refine g_iload 1 dX8_power_98 rfl ?_
              refine g_iload 0 dX8_power_100 rfl ?_
              obtain ⟨q21, e22, hf⟩ := bnd_some hf
              refine p_callS (As := [.int q17.1, .int q19]) (rest := []) (t_X8_greatestShared e22) cw_782 w_783 (Nat.le_of_ble_eq_true rfl) rfl rfl (Nat.le_of_ble_eq_true rfl) dX8_power_102 ?_
              refine g_istore dX8_power_105 (Nat.le_of_ble_eq_true rfl) rfl ?_
              refine g_iload_n 6 dX8_power_107 rfl rfl ?_
              refine g_if_ne (tgt := 116) dX8_power_108 (by decide) (fun c27 => ?_) (fun c27 => ?_)
              · replace hf := (if_neg c27).symm.trans hf
                refine g_iload 1 dX8_power_116 rfl ?_
                refine g_iconst (v := 1) dX8_power_118 rfl ?_
                refine g_iload 0 dX8_power_119 rfl ?_
                refine g_max w_785 w_456 w_71 w_457 (Nat.le_of_ble_eq_true rfl) (Nat.le_of_ble_eq_true rfl) dX8_power_121 ?_
                obtain ⟨v25, e26, hf⟩ := bnd_some hf
                refine p_idiv dX8_power_124 e26 ?_
                cases hf
                exact g_iret dX8_power_125 .int rfl rfl
              · replace hf := (if_pos c27).symm.trans hf
                refine g_iload 2 dX8_power_111 rfl ?_
                refine g_goto (tgt := 118) dX8_power_113 (by decide) ?_
                refine g_iconst (v := 1) dX8_power_118 rfl ?_
                refine g_iload 0 dX8_power_119 rfl ?_
                refine g_max w_785 w_456 w_71 w_457 (Nat.le_of_ble_eq_true rfl) (Nat.le_of_ble_eq_true rfl) dX8_power_121 ?_
                obtain ⟨v23, e24, hf⟩ := bnd_some hf
                refine p_idiv dX8_power_124 e24 ?_
                cases hf
                exact g_iret dX8_power_125 .int rfl rfl
            · replace hf := (if_neg c30).symm.trans hf
              refine g_aload_n 0 dX8_power_71 rfl rfl ?_
              refine g_bipush (v := -6) dX8_power_72 rfl ?_
              obtain ⟨q28, e29, hf⟩ := bnd_some hf
              refine p_callV (As := [.int (-6 : Int32)]) (rest := []) (t_X8_refuse e29) cw_355 w_357 w_0 ob_0 rfl (Nat.le_of_ble_eq_true rfl) rfl rfl (Nat.le_of_ble_eq_true rfl) dX8_power_74 ?_
              cases hf
              exact g_iret dX8_power_77 .int rfl rfl
          · replace hf := (if_neg c33).symm.trans hf
            refine g_aload_n 0 dX8_power_52 rfl rfl ?_
            refine g_bipush (v := -2) dX8_power_53 rfl ?_
            obtain ⟨q31, e32, hf⟩ := bnd_some hf
            refine p_callV (As := [.int (-2 : Int32)]) (rest := []) (t_X8_refuse e32) cw_355 w_357 w_0 ob_0 rfl (Nat.le_of_ble_eq_true rfl) rfl rfl (Nat.le_of_ble_eq_true rfl) dX8_power_55 ?_
            cases hf
            exact g_iret dX8_power_58 .int rfl rfl
      · replace hf := (if_pos c35).symm.trans hf
        refine g_aload_n 0 dX8_power_37 rfl rfl ?_
        refine g_iconst (v := -1) dX8_power_38 rfl ?_
        obtain ⟨q13, e14, hf⟩ := bnd_some hf
        refine p_callV (As := [.int (-1 : Int32)]) (rest := []) (t_X8_refuse e14) cw_355 w_357 w_0 ob_0 rfl (Nat.le_of_ble_eq_true rfl) rfl rfl (Nat.le_of_ble_eq_true rfl) dX8_power_39 ?_
        cases hf
        exact g_iret dX8_power_42 .int rfl rfl

abbrev k_X2_costOfWorksOf : kX := (cX2_costOfWorksOf, "WhoseHourItIs$Outlook", "costOfWorksOf", some .int, 4, 4)
def f_X2_costOfWorksOf_L4 (b1 : Int32) : Nat → Int32 → Int32 → mM → Option (Int32 × mM)
  | 0, _, _, _ => none
  | n + 1, b2, b3, m =>
      if (m 1 1) ≤ b3 then (
      some (b2, m))
      else (
      bnd (ckR 6 b3) fun j1 =>
      bnd (rdA (44 + j1) 6 (0 : Int32) m) fun v3 =>
      if v3 = b1 then (
      bnd (f_X0_choose b3 m) fun q5 =>
      if (q5 154 4) = (-9 : Int32) then (
      f_X2_costOfWorksOf_L4 b1 n (b2 + (100 : Int32)) (b3 + (1 : Int32)) q5)
      else (
      f_X2_costOfWorksOf_L4 b1 n (b2 + (q5 154 4)) (b3 + (1 : Int32)) q5))
      else (
      f_X2_costOfWorksOf_L4 b1 n b2 (b3 + (1 : Int32)) m))
def f_X2_costOfWorksOf (a1 : Int32) (m : mM) : Option (Int32 × mM) :=
bnd (f_X2_costOfWorksOf_L4 a1 fU (0 : Int32) (0 : Int32) m) fun o10 =>
some (o10.1, o10.2)
set_option maxRecDepth 100000 in
theorem t_X2_costOfWorksOf_L4 {V : eV} (b1 : Int32) {r : Option Value} {h' : aH} : ∀ (n : Nat) (b2 : Int32) (b3 : Int32) (m : mM) (o : Int32 × mM), f_X2_costOfWorksOf_L4 b1 n b2 b3 m = some o → gG V k_X2_costOfWorksOf 71 [(2, .int o.1)] [] (hS o.2) r h' → gG V k_X2_costOfWorksOf 4 [(0, .ref (vB V + 182)), (1, .int b1), (2, .int b2), (3, .int b3)] [] (hS m) r h' := by
  intro n
  induction n with
  | zero => intro b2 b3 m o hf; cases hf
  | succ n ih =>
    intro b2 b3 m o hf hk
    rw [f_X2_costOfWorksOf_L4] at hf
    refine g_iload_n 3 dX2_costOfWorksOf_4 rfl rfl ?_
    refine g_aload_n 0 dX2_costOfWorksOf_5 rfl rfl ?_
    refine gf_284 dX2_costOfWorksOf_6 rfl ob_182 rfl ?_
    refine gf_99 dX2_costOfWorksOf_9 rfl ob_1 rfl ?_
    refine g_icmp_ge (tgt := 71) dX2_costOfWorksOf_12 (by decide) (fun c9 => ?_) (fun c9 => ?_)
    · replace hf := (if_pos c9).symm.trans hf
      cases hf
      refine g_sub [2] rfl ?_
      exact hk
    · replace hf := (if_neg c9).symm.trans hf
      refine g_aload_n 0 dX2_costOfWorksOf_15 rfl rfl ?_
      refine gf_284 dX2_costOfWorksOf_16 rfl ob_182 rfl ?_
      refine gf_136 dX2_costOfWorksOf_19 rfl ob_1 rfl ?_
      refine g_iload_n 3 dX2_costOfWorksOf_22 rfl rfl ?_
      obtain ⟨j1, e2, hf⟩ := bnd_some hf
      refine p_aald dX2_costOfWorksOf_23 rt_43 e2 (fun hj1 => ?_)
      refine g_iconst (v := 0) dX2_costOfWorksOf_24 rfl ?_
      obtain ⟨v3, e4, hf⟩ := bnd_some hf
      refine p_iald dX2_costOfWorksOf_25 (ar_44 hj1) e4 ?_
      refine g_iload_n 1 dX2_costOfWorksOf_26 rfl rfl ?_
      refine g_icmp_ne (tgt := 65) dX2_costOfWorksOf_27 (by decide) (fun c8 => ?_) (fun c8 => ?_)
      · replace hf := (if_neg c8).symm.trans hf
        refine g_iinc (q := 3) (v := (b3 + (1 : Int32))) dX2_costOfWorksOf_65 rfl rfl (Nat.le_of_ble_eq_true rfl) rfl ?_
        refine g_goto (tgt := 4) dX2_costOfWorksOf_68 (by decide) ?_
        refine g_sub [1, 2, 3, 0] rfl ?_
        exact ih b2 (b3 + (1 : Int32)) m _ hf hk
      · replace hf := (if_pos c8).symm.trans hf
        refine g_aload_n 0 dX2_costOfWorksOf_30 rfl rfl ?_
        refine gf_285 dX2_costOfWorksOf_31 rfl ob_182 rfl ?_
        refine g_iload_n 3 dX2_costOfWorksOf_34 rfl rfl ?_
        obtain ⟨q5, e6, hf⟩ := bnd_some hf
        refine p_callVv (As := [.int b3]) (rest := []) (t_X0_choose e6) cw_798 w_561 w_562 ob_154 rfl (Nat.le_of_ble_eq_true rfl) rfl rfl (Nat.le_of_ble_eq_true rfl) dX2_costOfWorksOf_35 ?_
        refine g_iload_n 2 dX2_costOfWorksOf_38 rfl rfl ?_
        refine g_aload_n 0 dX2_costOfWorksOf_39 rfl rfl ?_
        refine gf_285 dX2_costOfWorksOf_40 rfl ob_182 rfl ?_
        refine gf_198 dX2_costOfWorksOf_43 rfl ob_154 rfl ?_
        refine g_bipush (v := -9) dX2_costOfWorksOf_46 rfl ?_
        refine g_icmp_ne (tgt := 56) dX2_costOfWorksOf_48 (by decide) (fun c7 => ?_) (fun c7 => ?_)
        · replace hf := (if_neg c7).symm.trans hf
          refine g_aload_n 0 dX2_costOfWorksOf_56 rfl rfl ?_
          refine gf_285 dX2_costOfWorksOf_57 rfl ob_182 rfl ?_
          refine gf_198 dX2_costOfWorksOf_60 rfl ob_154 rfl ?_
          refine g_iadd dX2_costOfWorksOf_63 ?_
          refine g_istore_n dX2_costOfWorksOf_64 rfl (Nat.le_of_ble_eq_true rfl) rfl ?_
          refine g_iinc (q := 3) (v := (b3 + (1 : Int32))) dX2_costOfWorksOf_65 rfl rfl (Nat.le_of_ble_eq_true rfl) rfl ?_
          refine g_goto (tgt := 4) dX2_costOfWorksOf_68 (by decide) ?_
          refine g_sub [2, 3, 1, 0] rfl ?_
          exact ih (b2 + (q5 154 4)) (b3 + (1 : Int32)) q5 _ hf hk
        · replace hf := (if_pos c7).symm.trans hf
          refine g_bipush (v := 100) dX2_costOfWorksOf_51 rfl ?_
          refine g_goto (tgt := 63) dX2_costOfWorksOf_53 (by decide) ?_
          refine g_iadd dX2_costOfWorksOf_63 ?_
          refine g_istore_n dX2_costOfWorksOf_64 rfl (Nat.le_of_ble_eq_true rfl) rfl ?_
          refine g_iinc (q := 3) (v := (b3 + (1 : Int32))) dX2_costOfWorksOf_65 rfl rfl (Nat.le_of_ble_eq_true rfl) rfl ?_
          refine g_goto (tgt := 4) dX2_costOfWorksOf_68 (by decide) ?_
          refine g_sub [2, 3, 1, 0] rfl ?_
          exact ih (b2 + (100 : Int32)) (b3 + (1 : Int32)) q5 _ hf hk

set_option maxRecDepth 100000 in
theorem t_X2_costOfWorksOf {V : eV} {a1 : Int32}  {m : mM} {q : Int32 × mM} (hf : f_X2_costOfWorksOf a1 m = some q) : eE V 4 yX2_costOfWorksOf cX2_costOfWorksOf 4 (some .int) [.ref (vB V + 182), .int a1] (hS m) (some (.int q.1)) (hS q.2) := by
  refine eE_of (by decide) (Nat.le_of_ble_eq_true rfl) ?_
  show gG V k_X2_costOfWorksOf 0 [(0, .ref (vB V + 182)), (1, .int a1)] [] (hS m) _ _
  unfold f_X2_costOfWorksOf at hf
  refine g_iconst (v := 0) dX2_costOfWorksOf_0 rfl ?_
  refine g_istore_n dX2_costOfWorksOf_1 rfl (Nat.le_of_ble_eq_true rfl) rfl ?_
  refine g_iconst (v := 0) dX2_costOfWorksOf_2 rfl ?_
  refine g_istore_n dX2_costOfWorksOf_3 rfl (Nat.le_of_ble_eq_true rfl) rfl ?_
  refine g_sub [2, 3, 1, 0] rfl ?_
  obtain ⟨o10, e11, hf⟩ := bnd_some hf
  refine t_X2_costOfWorksOf_L4 (V := V) a1 fU (0 : Int32) (0 : Int32) m _ e11 ?_
  refine g_iload_n 0 dX2_costOfWorksOf_71 rfl rfl ?_
  cases hf
  exact g_iret dX2_costOfWorksOf_72 .int rfl rfl

abbrev k_X2_bestSpouse : kX := (cX2_bestSpouse, "WhoseHourItIs$Outlook", "bestSpouse", some .int, 7, 5)
def f_X2_bestSpouse_L23 (b1 : Int32) (b2 : Int32) : Nat → Int32 → Int32 → Int32 → mM → Option (Int32 × mM)
  | 0, _, _, _, _ => none
  | n + 1, b3, b4, b5, m =>
      if (m 1 0) ≤ b5 then (
      some (b4, m))
      else (
      if b5 = b1 then (
      bnd (wrA 12 8 b1 b2 m) fun m5 =>
      bnd (f_X2_costOfWorksOf b1 m5) fun q7 =>
      if b3 ≤ q7.1 then (
      f_X2_bestSpouse_L23 b1 b2 n b3 b4 (b5 + (1 : Int32)) q7.2)
      else (
      f_X2_bestSpouse_L23 b1 b2 n q7.1 b5 (b5 + (1 : Int32)) q7.2))
      else (
      bnd (wrA 12 8 b1 b5 m) fun m10 =>
      bnd (f_X2_costOfWorksOf b1 m10) fun q12 =>
      if b3 ≤ q12.1 then (
      f_X2_bestSpouse_L23 b1 b2 n b3 b4 (b5 + (1 : Int32)) q12.2)
      else (
      f_X2_bestSpouse_L23 b1 b2 n q12.1 b5 (b5 + (1 : Int32)) q12.2)))
def f_X2_bestSpouse (a1 : Int32) (m : mM) : Option (Int32 × mM) :=
bnd (rdA 12 8 a1 m) fun v1 =>
bnd (f_X2_costOfWorksOf a1 m) fun q3 =>
bnd (f_X2_bestSpouse_L23 a1 v1 fU q3.1 (-9 : Int32) (0 : Int32) q3.2) fun o17 =>
bnd (wrA 12 8 a1 v1 o17.2) fun m19 =>
some (o17.1, m19)
set_option maxRecDepth 100000 in
theorem t_X2_bestSpouse_L23 {V : eV} (b1 : Int32) (b2 : Int32) {r : Option Value} {h' : aH} : ∀ (n : Nat) (b3 : Int32) (b4 : Int32) (b5 : Int32) (m : mM) (o : Int32 × mM), f_X2_bestSpouse_L23 b1 b2 n b3 b4 b5 m = some o → gG V k_X2_bestSpouse 82 [(0, .ref (vB V + 182)), (1, .int b1), (2, .int b2), (4, .int o.1)] [] (hS o.2) r h' → gG V k_X2_bestSpouse 23 [(0, .ref (vB V + 182)), (1, .int b1), (2, .int b2), (3, .int b3), (4, .int b4), (5, .int b5)] [] (hS m) r h' := by
  intro n
  induction n with
  | zero => intro b3 b4 b5 m o hf; cases hf
  | succ n ih =>
    intro b3 b4 b5 m o hf hk
    rw [f_X2_bestSpouse_L23] at hf
    refine g_iload 5 dX2_bestSpouse_23 rfl ?_
    refine g_aload_n 0 dX2_bestSpouse_25 rfl rfl ?_
    refine gf_284 dX2_bestSpouse_26 rfl ob_182 rfl ?_
    refine gf_92 dX2_bestSpouse_29 rfl ob_1 rfl ?_
    refine g_icmp_ge (tgt := 82) dX2_bestSpouse_32 (by decide) (fun c16 => ?_) (fun c16 => ?_)
    · replace hf := (if_pos c16).symm.trans hf
      cases hf
      refine g_sub [0, 1, 2, 4] rfl ?_
      exact hk
    · replace hf := (if_neg c16).symm.trans hf
      refine g_aload_n 0 dX2_bestSpouse_35 rfl rfl ?_
      refine gf_284 dX2_bestSpouse_36 rfl ob_182 rfl ?_
      refine gf_120 dX2_bestSpouse_39 rfl ob_1 rfl ?_
      refine g_iload_n 1 dX2_bestSpouse_42 rfl rfl ?_
      refine g_iload 5 dX2_bestSpouse_43 rfl ?_
      refine g_iload_n 1 dX2_bestSpouse_45 rfl rfl ?_
      refine g_icmp_ne (tgt := 53) dX2_bestSpouse_46 (by decide) (fun c15 => ?_) (fun c15 => ?_)
      · replace hf := (if_neg c15).symm.trans hf
        refine g_iload 5 dX2_bestSpouse_53 rfl ?_
        obtain ⟨m10, e11, hf⟩ := bnd_some hf
        refine p_iast dX2_bestSpouse_55 at_12 e11 ?_
        refine g_aload_n 0 dX2_bestSpouse_56 rfl rfl ?_
        refine g_iload_n 1 dX2_bestSpouse_57 rfl rfl ?_
        obtain ⟨q12, e13, hf⟩ := bnd_some hf
        refine p_callV (As := [.int b1]) (rest := []) (t_X2_costOfWorksOf e13) cw_794 w_796 w_16 ob_182 rfl (Nat.le_of_ble_eq_true rfl) rfl rfl (Nat.le_of_ble_eq_true rfl) dX2_bestSpouse_58 ?_
        refine g_istore dX2_bestSpouse_61 (Nat.le_of_ble_eq_true rfl) rfl ?_
        refine g_iload 0 dX2_bestSpouse_63 rfl ?_
        refine g_iload_n 4 dX2_bestSpouse_65 rfl rfl ?_
        refine g_icmp_ge (tgt := 76) dX2_bestSpouse_66 (by decide) (fun c14 => ?_) (fun c14 => ?_)
        · replace hf := (if_pos c14).symm.trans hf
          refine g_iinc (q := 6) (v := (b5 + (1 : Int32))) dX2_bestSpouse_76 rfl rfl (Nat.le_of_ble_eq_true rfl) rfl ?_
          refine g_goto (tgt := 23) dX2_bestSpouse_79 (by decide) ?_
          refine g_sub [2, 3, 4, 5, 6, 0] rfl ?_
          exact ih b3 b4 (b5 + (1 : Int32)) q12.2 _ hf hk
        · replace hf := (if_neg c14).symm.trans hf
          refine g_iload 0 dX2_bestSpouse_69 rfl ?_
          refine g_istore_n dX2_bestSpouse_71 rfl (Nat.le_of_ble_eq_true rfl) rfl ?_
          refine g_iload 6 dX2_bestSpouse_72 rfl ?_
          refine g_istore dX2_bestSpouse_74 (Nat.le_of_ble_eq_true rfl) rfl ?_
          refine g_iinc (q := 6) (v := (b5 + (1 : Int32))) dX2_bestSpouse_76 rfl rfl (Nat.le_of_ble_eq_true rfl) rfl ?_
          refine g_goto (tgt := 23) dX2_bestSpouse_79 (by decide) ?_
          refine g_sub [4, 5, 6, 2, 1, 0] rfl ?_
          exact ih q12.1 b5 (b5 + (1 : Int32)) q12.2 _ hf hk
      · replace hf := (if_pos c15).symm.trans hf
        refine g_iload_n 2 dX2_bestSpouse_49 rfl rfl ?_
        refine g_goto (tgt := 55) dX2_bestSpouse_50 (by decide) ?_
        obtain ⟨m5, e6, hf⟩ := bnd_some hf
        refine p_iast dX2_bestSpouse_55 at_12 e6 ?_
        refine g_aload_n 0 dX2_bestSpouse_56 rfl rfl ?_
        refine g_iload_n 1 dX2_bestSpouse_57 rfl rfl ?_
        obtain ⟨q7, e8, hf⟩ := bnd_some hf
        refine p_callV (As := [.int b1]) (rest := []) (t_X2_costOfWorksOf e8) cw_794 w_796 w_16 ob_182 rfl (Nat.le_of_ble_eq_true rfl) rfl rfl (Nat.le_of_ble_eq_true rfl) dX2_bestSpouse_58 ?_
        refine g_istore dX2_bestSpouse_61 (Nat.le_of_ble_eq_true rfl) rfl ?_
        refine g_iload 0 dX2_bestSpouse_63 rfl ?_
        refine g_iload_n 4 dX2_bestSpouse_65 rfl rfl ?_
        refine g_icmp_ge (tgt := 76) dX2_bestSpouse_66 (by decide) (fun c9 => ?_) (fun c9 => ?_)
        · replace hf := (if_pos c9).symm.trans hf
          refine g_iinc (q := 6) (v := (b5 + (1 : Int32))) dX2_bestSpouse_76 rfl rfl (Nat.le_of_ble_eq_true rfl) rfl ?_
          refine g_goto (tgt := 23) dX2_bestSpouse_79 (by decide) ?_
          refine g_sub [2, 3, 4, 5, 6, 0] rfl ?_
          exact ih b3 b4 (b5 + (1 : Int32)) q7.2 _ hf hk
        · replace hf := (if_neg c9).symm.trans hf
          refine g_iload 0 dX2_bestSpouse_69 rfl ?_
          refine g_istore_n dX2_bestSpouse_71 rfl (Nat.le_of_ble_eq_true rfl) rfl ?_
          refine g_iload 6 dX2_bestSpouse_72 rfl ?_
          refine g_istore dX2_bestSpouse_74 (Nat.le_of_ble_eq_true rfl) rfl ?_
          refine g_iinc (q := 6) (v := (b5 + (1 : Int32))) dX2_bestSpouse_76 rfl rfl (Nat.le_of_ble_eq_true rfl) rfl ?_
          refine g_goto (tgt := 23) dX2_bestSpouse_79 (by decide) ?_
          refine g_sub [4, 5, 6, 2, 1, 0] rfl ?_
          exact ih q7.1 b5 (b5 + (1 : Int32)) q7.2 _ hf hk

set_option maxRecDepth 100000 in
theorem t_X2_bestSpouse {V : eV} {a1 : Int32}  {m : mM} {q : Int32 × mM} (hf : f_X2_bestSpouse a1 m = some q) : eE V 5 yX2_bestSpouse cX2_bestSpouse 7 (some .int) [.ref (vB V + 182), .int a1] (hS m) (some (.int q.1)) (hS q.2) := by
  refine eE_of (by decide) (Nat.le_of_ble_eq_true rfl) ?_
  show gG V k_X2_bestSpouse 0 [(0, .ref (vB V + 182)), (1, .int a1)] [] (hS m) _ _
  unfold f_X2_bestSpouse at hf
  refine g_aload_n 0 dX2_bestSpouse_0 rfl rfl ?_
  refine gf_284 dX2_bestSpouse_1 rfl ob_182 rfl ?_
  refine gf_120 dX2_bestSpouse_4 rfl ob_1 rfl ?_
  refine g_iload_n 1 dX2_bestSpouse_7 rfl rfl ?_
  obtain ⟨v1, e2, hf⟩ := bnd_some hf
  refine p_iald dX2_bestSpouse_8 at_12 e2 ?_
  refine g_istore_n dX2_bestSpouse_9 rfl (Nat.le_of_ble_eq_true rfl) rfl ?_
  refine g_aload_n 1 dX2_bestSpouse_10 rfl rfl ?_
  refine g_iload_n 2 dX2_bestSpouse_11 rfl rfl ?_
  obtain ⟨q3, e4, hf⟩ := bnd_some hf
  refine p_callV (As := [.int a1]) (rest := []) (t_X2_costOfWorksOf e4) cw_794 w_796 w_16 ob_182 rfl (Nat.le_of_ble_eq_true rfl) rfl rfl (Nat.le_of_ble_eq_true rfl) dX2_bestSpouse_12 ?_
  refine g_istore_n dX2_bestSpouse_15 rfl (Nat.le_of_ble_eq_true rfl) rfl ?_
  refine g_bipush (v := -9) dX2_bestSpouse_16 rfl ?_
  refine g_istore dX2_bestSpouse_18 (Nat.le_of_ble_eq_true rfl) rfl ?_
  refine g_iconst (v := 0) dX2_bestSpouse_20 rfl ?_
  refine g_istore dX2_bestSpouse_21 (Nat.le_of_ble_eq_true rfl) rfl ?_
  refine g_sub [4, 5, 3, 2, 1, 0] rfl ?_
  obtain ⟨o17, e18, hf⟩ := bnd_some hf
  refine t_X2_bestSpouse_L23 (V := V) a1 v1 fU q3.1 (-9 : Int32) (0 : Int32) q3.2 _ e18 ?_
  refine g_aload_n 0 dX2_bestSpouse_82 rfl rfl ?_
  refine gf_284 dX2_bestSpouse_83 rfl ob_182 rfl ?_
  refine gf_120 dX2_bestSpouse_86 rfl ob_1 rfl ?_
  refine g_iload_n 1 dX2_bestSpouse_89 rfl rfl ?_
  refine g_iload_n 2 dX2_bestSpouse_90 rfl rfl ?_
  obtain ⟨m19, e20, hf⟩ := bnd_some hf
  refine p_iast dX2_bestSpouse_91 at_12 e20 ?_
  refine g_iload 3 dX2_bestSpouse_92 rfl ?_
  cases hf
  exact g_iret dX2_bestSpouse_94 .int rfl rfl

abbrev k_X8_wed : kX := (cX8_wed, "WhoseHourItIs", "wed", some .int, 2, 6)
def f_X8_wed (a1 : Int32) (m : mM) : Option (Int32 × mM) :=
bnd (f_X7_hasHolder_1 a1 m) fun q1 =>
if q1 = 0 then (
bnd (f_X8_refuse (-1 : Int32) m) fun q3 =>
some (q3.1, q3.2))
else (
bnd (f_X2_bestSpouse a1 m) fun q5 =>
some (q5.1, q5.2))
set_option maxRecDepth 100000 in
theorem t_X8_wed {V : eV} {a1 : Int32}  {m : mM} {q : Int32 × mM} (hf : f_X8_wed a1 m = some q) : eE V 6 yX8_wed cX8_wed 2 (some .int) [.ref (vB V + 0), .int a1] (hS m) (some (.int q.1)) (hS q.2) := by
  refine eE_of (by decide) (Nat.le_of_ble_eq_true rfl) ?_
  show gG V k_X8_wed 0 [(0, .ref (vB V + 0)), (1, .int a1)] [] (hS m) _ _
  unfold f_X8_wed at hf
  refine g_aload_n 0 dX8_wed_0 rfl rfl ?_
  refine gf_314 dX8_wed_1 rfl ob_0 rfl ?_
  refine g_iload_n 1 dX8_wed_4 rfl rfl ?_
  obtain ⟨q1, e2, hf⟩ := bnd_some hf
  refine p_callV (As := [.int a1]) (rest := []) (t_X7_hasHolder_1 e2) cw_549 w_523 w_524 ob_1 rfl (Nat.le_of_ble_eq_true rfl) rfl rfl (Nat.le_of_ble_eq_true rfl) dX8_wed_5 ?_
  refine g_if_eq (tgt := 22) dX8_wed_8 (by decide) (fun c7 => ?_) (fun c7 => ?_)
  · replace hf := (if_pos c7).symm.trans hf
    refine g_aload_n 0 dX8_wed_22 rfl rfl ?_
    refine g_iconst (v := -1) dX8_wed_23 rfl ?_
    obtain ⟨q3, e4, hf⟩ := bnd_some hf
    refine p_callV (As := [.int (-1 : Int32)]) (rest := []) (t_X8_refuse e4) cw_355 w_357 w_0 ob_0 rfl (Nat.le_of_ble_eq_true rfl) rfl rfl (Nat.le_of_ble_eq_true rfl) dX8_wed_24 ?_
    cases hf
    exact g_iret dX8_wed_27 .int rfl rfl
  · replace hf := (if_neg c7).symm.trans hf
    refine g_aload_n 0 dX8_wed_11 rfl rfl ?_
    refine gf_323 dX8_wed_12 rfl ob_0 rfl ?_
    refine g_iload_n 1 dX8_wed_15 rfl rfl ?_
    obtain ⟨q5, e6, hf⟩ := bnd_some hf
    refine p_callV (As := [.int a1]) (rest := []) (t_X2_bestSpouse e6) cw_790 w_791 w_792 ob_182 rfl (Nat.le_of_ble_eq_true rfl) rfl rfl (Nat.le_of_ble_eq_true rfl) dX8_wed_16 ?_
    refine g_goto (tgt := 27) dX8_wed_19 (by decide) ?_
    cases hf
    exact g_iret dX8_wed_27 .int rfl rfl

abbrev k_X7_unwed : kX := (cX7_unwed, "WhoseHourItIs$Town", "unwed", none, 3, 0)
def f_X7_unwed (a1 : Int32) (m : mM) : Option (mM) :=
bnd (rdA 12 8 a1 m) fun v1 =>
if v1 < 0 then (
bnd (wrA 12 8 a1 (-9 : Int32) m) fun m3 =>
some m3)
else (
bnd (wrA 12 8 v1 (-9 : Int32) m) fun m5 =>
bnd (wrA 12 8 a1 (-9 : Int32) m5) fun m7 =>
some m7)
set_option maxRecDepth 100000 in
theorem t_X7_unwed {V : eV} {a1 : Int32}  {m : mM} {q : mM} (hf : f_X7_unwed a1 m = some q) : eE V 0 yX7_unwed cX7_unwed 3 (none) [.ref (vB V + 1), .int a1] (hS m) none (hS q) := by
  refine eE_of (by decide) (Nat.le_of_ble_eq_true rfl) ?_
  show gG V k_X7_unwed 0 [(0, .ref (vB V + 1)), (1, .int a1)] [] (hS m) _ _
  unfold f_X7_unwed at hf
  refine g_aload_n 0 dX7_unwed_0 rfl rfl ?_
  refine gf_119 dX7_unwed_1 rfl ob_1 rfl ?_
  refine g_iload_n 1 dX7_unwed_4 rfl rfl ?_
  obtain ⟨v1, e2, hf⟩ := bnd_some hf
  refine p_iald dX7_unwed_5 at_12 e2 ?_
  refine g_istore_n dX7_unwed_6 rfl (Nat.le_of_ble_eq_true rfl) rfl ?_
  refine g_iload_n 0 dX7_unwed_7 rfl rfl ?_
  refine g_if_lt (tgt := 19) dX7_unwed_8 (by decide) (fun c9 => ?_) (fun c9 => ?_)
  · replace hf := (if_pos c9).symm.trans hf
    refine g_aload_n 1 dX7_unwed_19 rfl rfl ?_
    refine gf_119 dX7_unwed_20 rfl ob_1 rfl ?_
    refine g_iload_n 2 dX7_unwed_23 rfl rfl ?_
    refine g_bipush (v := -9) dX7_unwed_24 rfl ?_
    obtain ⟨m3, e4, hf⟩ := bnd_some hf
    refine p_iast dX7_unwed_26 at_12 e4 ?_
    cases hf
    exact g_vret dX7_unwed_27 rfl
  · replace hf := (if_neg c9).symm.trans hf
    refine g_aload_n 1 dX7_unwed_11 rfl rfl ?_
    refine gf_119 dX7_unwed_12 rfl ob_1 rfl ?_
    refine g_iload_n 0 dX7_unwed_15 rfl rfl ?_
    refine g_bipush (v := -9) dX7_unwed_16 rfl ?_
    obtain ⟨m5, e6, hf⟩ := bnd_some hf
    refine p_iast dX7_unwed_18 at_12 e6 ?_
    refine g_aload_n 1 dX7_unwed_19 rfl rfl ?_
    refine gf_119 dX7_unwed_20 rfl ob_1 rfl ?_
    refine g_iload_n 2 dX7_unwed_23 rfl rfl ?_
    refine g_bipush (v := -9) dX7_unwed_24 rfl ?_
    obtain ⟨m7, e8, hf⟩ := bnd_some hf
    refine p_iast dX7_unwed_26 at_12 e8 ?_
    cases hf
    exact g_vret dX7_unwed_27 rfl

abbrev k_X8_marry : kX := (cX8_marry, "WhoseHourItIs", "marry", some .int, 3, 1)
def f_X8_marry (a1 : Int32) (a2 : Int32) (m : mM) : Option (Int32 × mM) :=
bnd (f_X7_hasHolder_1 a1 m) fun q1 =>
if q1 = 0 then (
bnd (f_X8_refuse (-1 : Int32) m) fun q3 =>
some (q3.1, q3.2))
else (
bnd (f_X7_hasHolder_1 a2 m) fun q5 =>
if q5 = 0 then (
bnd (f_X8_refuse (-1 : Int32) m) fun q7 =>
some (q7.1, q7.2))
else (
if a1 = a2 then (
bnd (f_X8_refuse (-1 : Int32) m) fun q9 =>
some (q9.1, q9.2))
else (
bnd (f_X7_unwed a1 m) fun q11 =>
bnd (f_X7_unwed a2 q11) fun q13 =>
bnd (wrA 12 8 a1 a2 q13) fun m15 =>
bnd (wrA 12 8 a2 a1 m15) fun m17 =>
some ((1 : Int32), m17))))
set_option maxRecDepth 100000 in
theorem t_X8_marry {V : eV} {a1 : Int32} {a2 : Int32}  {m : mM} {q : Int32 × mM} (hf : f_X8_marry a1 a2 m = some q) : eE V 1 yX8_marry cX8_marry 3 (some .int) [.ref (vB V + 0), .int a1, .int a2] (hS m) (some (.int q.1)) (hS q.2) := by
  refine eE_of (by decide) (Nat.le_of_ble_eq_true rfl) ?_
  show gG V k_X8_marry 0 [(0, .ref (vB V + 0)), (1, .int a1), (2, .int a2)] [] (hS m) _ _
  unfold f_X8_marry at hf
  refine g_aload_n 0 dX8_marry_0 rfl rfl ?_
  refine gf_314 dX8_marry_1 rfl ob_0 rfl ?_
  refine g_iload_n 1 dX8_marry_4 rfl rfl ?_
  obtain ⟨q1, e2, hf⟩ := bnd_some hf
  refine p_callV (As := [.int a1]) (rest := []) (t_X7_hasHolder_1 e2) cw_549 w_523 w_524 ob_1 rfl (Nat.le_of_ble_eq_true rfl) rfl rfl (Nat.le_of_ble_eq_true rfl) dX8_marry_5 ?_
  refine g_if_eq (tgt := 27) dX8_marry_8 (by decide) (fun c21 => ?_) (fun c21 => ?_)
  · replace hf := (if_pos c21).symm.trans hf
    refine g_aload_n 0 dX8_marry_27 rfl rfl ?_
    refine g_iconst (v := -1) dX8_marry_28 rfl ?_
    obtain ⟨q3, e4, hf⟩ := bnd_some hf
    refine p_callV (As := [.int (-1 : Int32)]) (rest := []) (t_X8_refuse e4) cw_355 w_357 w_0 ob_0 rfl (Nat.le_of_ble_eq_true rfl) rfl rfl (Nat.le_of_ble_eq_true rfl) dX8_marry_29 ?_
    cases hf
    exact g_iret dX8_marry_32 .int rfl rfl
  · replace hf := (if_neg c21).symm.trans hf
    refine g_aload_n 0 dX8_marry_11 rfl rfl ?_
    refine gf_314 dX8_marry_12 rfl ob_0 rfl ?_
    refine g_iload_n 2 dX8_marry_15 rfl rfl ?_
    obtain ⟨q5, e6, hf⟩ := bnd_some hf
    refine p_callV (As := [.int a2]) (rest := []) (t_X7_hasHolder_1 e6) cw_549 w_523 w_524 ob_1 rfl (Nat.le_of_ble_eq_true rfl) rfl rfl (Nat.le_of_ble_eq_true rfl) dX8_marry_16 ?_
    refine g_if_eq (tgt := 27) dX8_marry_19 (by decide) (fun c20 => ?_) (fun c20 => ?_)
    · replace hf := (if_pos c20).symm.trans hf
      refine g_aload_n 0 dX8_marry_27 rfl rfl ?_
      refine g_iconst (v := -1) dX8_marry_28 rfl ?_
      obtain ⟨q7, e8, hf⟩ := bnd_some hf
      refine p_callV (As := [.int (-1 : Int32)]) (rest := []) (t_X8_refuse e8) cw_355 w_357 w_0 ob_0 rfl (Nat.le_of_ble_eq_true rfl) rfl rfl (Nat.le_of_ble_eq_true rfl) dX8_marry_29 ?_
      cases hf
      exact g_iret dX8_marry_32 .int rfl rfl
    · replace hf := (if_neg c20).symm.trans hf
      refine g_iload_n 1 dX8_marry_22 rfl rfl ?_
      refine g_iload_n 2 dX8_marry_23 rfl rfl ?_
      refine g_icmp_ne (tgt := 33) dX8_marry_24 (by decide) (fun c19 => ?_) (fun c19 => ?_)
      · replace hf := (if_neg c19).symm.trans hf
        refine g_aload_n 0 dX8_marry_33 rfl rfl ?_
        refine gf_314 dX8_marry_34 rfl ob_0 rfl ?_
        refine g_iload_n 1 dX8_marry_37 rfl rfl ?_
        obtain ⟨q11, e12, hf⟩ := bnd_some hf
        refine p_callVv (As := [.int a1]) (rest := []) (t_X7_unwed e12) cw_803 w_804 w_805 ob_1 rfl (Nat.le_of_ble_eq_true rfl) rfl rfl (Nat.le_of_ble_eq_true rfl) dX8_marry_38 ?_
        refine g_aload_n 0 dX8_marry_41 rfl rfl ?_
        refine gf_314 dX8_marry_42 rfl ob_0 rfl ?_
        refine g_iload_n 2 dX8_marry_45 rfl rfl ?_
        obtain ⟨q13, e14, hf⟩ := bnd_some hf
        refine p_callVv (As := [.int a2]) (rest := []) (t_X7_unwed e14) cw_803 w_804 w_805 ob_1 rfl (Nat.le_of_ble_eq_true rfl) rfl rfl (Nat.le_of_ble_eq_true rfl) dX8_marry_46 ?_
        refine g_aload_n 0 dX8_marry_49 rfl rfl ?_
        refine gf_314 dX8_marry_50 rfl ob_0 rfl ?_
        refine gf_121 dX8_marry_53 rfl ob_1 rfl ?_
        refine g_iload_n 1 dX8_marry_56 rfl rfl ?_
        refine g_iload_n 2 dX8_marry_57 rfl rfl ?_
        obtain ⟨m15, e16, hf⟩ := bnd_some hf
        refine p_iast dX8_marry_58 at_12 e16 ?_
        refine g_aload_n 0 dX8_marry_59 rfl rfl ?_
        refine gf_314 dX8_marry_60 rfl ob_0 rfl ?_
        refine gf_121 dX8_marry_63 rfl ob_1 rfl ?_
        refine g_iload_n 2 dX8_marry_66 rfl rfl ?_
        refine g_iload_n 1 dX8_marry_67 rfl rfl ?_
        obtain ⟨m17, e18, hf⟩ := bnd_some hf
        refine p_iast dX8_marry_68 at_12 e18 ?_
        refine g_iconst (v := 1) dX8_marry_69 rfl ?_
        cases hf
        exact g_iret dX8_marry_70 .int rfl rfl
      · replace hf := (if_pos c19).symm.trans hf
        refine g_aload_n 0 dX8_marry_27 rfl rfl ?_
        refine g_iconst (v := -1) dX8_marry_28 rfl ?_
        obtain ⟨q9, e10, hf⟩ := bnd_some hf
        refine p_callV (As := [.int (-1 : Int32)]) (rest := []) (t_X8_refuse e10) cw_355 w_357 w_0 ob_0 rfl (Nat.le_of_ble_eq_true rfl) rfl rfl (Nat.le_of_ble_eq_true rfl) dX8_marry_29 ?_
        cases hf
        exact g_iret dX8_marry_32 .int rfl rfl

abbrev k_X8_wedTo : kX := (cX8_wedTo, "WhoseHourItIs", "wedTo", some .int, 2, 1)
def f_X8_wedTo (a1 : Int32) (m : mM) : Option (Int32 × mM) :=
bnd (f_X7_hasHolder_1 a1 m) fun q1 =>
if q1 = 0 then (
bnd (f_X8_refuse (-1 : Int32) m) fun q3 =>
some (q3.1, q3.2))
else (
bnd (rdA 12 8 a1 m) fun v5 =>
some (v5, m))
set_option maxRecDepth 100000 in
theorem t_X8_wedTo {V : eV} {a1 : Int32}  {m : mM} {q : Int32 × mM} (hf : f_X8_wedTo a1 m = some q) : eE V 1 yX8_wedTo cX8_wedTo 2 (some .int) [.ref (vB V + 0), .int a1] (hS m) (some (.int q.1)) (hS q.2) := by
  refine eE_of (by decide) (Nat.le_of_ble_eq_true rfl) ?_
  show gG V k_X8_wedTo 0 [(0, .ref (vB V + 0)), (1, .int a1)] [] (hS m) _ _
  unfold f_X8_wedTo at hf
  refine g_aload_n 0 dX8_wedTo_0 rfl rfl ?_
  refine gf_314 dX8_wedTo_1 rfl ob_0 rfl ?_
  refine g_iload_n 1 dX8_wedTo_4 rfl rfl ?_
  obtain ⟨q1, e2, hf⟩ := bnd_some hf
  refine p_callV (As := [.int a1]) (rest := []) (t_X7_hasHolder_1 e2) cw_549 w_523 w_524 ob_1 rfl (Nat.le_of_ble_eq_true rfl) rfl rfl (Nat.le_of_ble_eq_true rfl) dX8_wedTo_5 ?_
  refine g_if_eq (tgt := 23) dX8_wedTo_8 (by decide) (fun c7 => ?_) (fun c7 => ?_)
  · replace hf := (if_pos c7).symm.trans hf
    refine g_aload_n 0 dX8_wedTo_23 rfl rfl ?_
    refine g_iconst (v := -1) dX8_wedTo_24 rfl ?_
    obtain ⟨q3, e4, hf⟩ := bnd_some hf
    refine p_callV (As := [.int (-1 : Int32)]) (rest := []) (t_X8_refuse e4) cw_355 w_357 w_0 ob_0 rfl (Nat.le_of_ble_eq_true rfl) rfl rfl (Nat.le_of_ble_eq_true rfl) dX8_wedTo_25 ?_
    cases hf
    exact g_iret dX8_wedTo_28 .int rfl rfl
  · replace hf := (if_neg c7).symm.trans hf
    refine g_aload_n 0 dX8_wedTo_11 rfl rfl ?_
    refine gf_314 dX8_wedTo_12 rfl ob_0 rfl ?_
    refine gf_121 dX8_wedTo_15 rfl ob_1 rfl ?_
    refine g_iload_n 1 dX8_wedTo_18 rfl rfl ?_
    obtain ⟨v5, e6, hf⟩ := bnd_some hf
    refine p_iald dX8_wedTo_19 at_12 e6 ?_
    refine g_goto (tgt := 28) dX8_wedTo_20 (by decide) ?_
    cases hf
    exact g_iret dX8_wedTo_28 .int rfl rfl

abbrev k_X8_heirs : kX := (cX8_heirs, "WhoseHourItIs", "heirs", some .int, 5, 1)
def f_X8_heirs_L34 (b1 : Int32) (b2 : Int32) (m : mM) : Nat → Int32 → Option ((Int32 × mM) ⊕ (Unit))
  | 0, _ => none
  | n + 1, b4 =>
      if (20 : Int32) < b4 then (
      some (.inr ()))
      else (
      bnd (rdA 13 28 b1 m) fun v7 =>
      if (v7 <<< (b4 &&& 31)) ≤ b2 then (
      f_X8_heirs_L34 b1 b2 m n (b4 + (1 : Int32)))
      else (
      some (.inl (b4, m))))
def f_X8_heirs (a1 : Int32) (a2 : Int32) (m : mM) : Option (Int32 × mM) :=
bnd (f_X8_isHour a1 m) fun q1 =>
if q1 = 0 then (
bnd (f_X8_refuse (-1 : Int32) m) fun q3 =>
some (q3.1, q3.2))
else (
bnd (f_X8_outside a2 (9999 : Int32) m) fun q5 =>
if q5 = 0 then (
bnd (f_X8_heirs_L34 a1 a2 m fU (0 : Int32)) fun o11 =>
ora o11 (fun zq => some zq) fun x12 =>
some ((-9 : Int32), m))
else (
bnd (f_X8_refuse q5 m) fun q14 =>
some (q14.1, q14.2)))
set_option maxRecDepth 100000 in
theorem t_X8_heirs_L34 {V : eV} (b1 : Int32) (b2 : Int32) (m : mM) {r : Option Value} {h' : aH} : ∀ (n : Nat) (b4 : Int32) (o : (Int32 × mM) ⊕ (Unit)), f_X8_heirs_L34 b1 b2 m n b4 = some o → lxI hS o r h' (fun x => gG V k_X8_heirs 66 [] [] (hS m) r h') → gG V k_X8_heirs 34 [(0, .ref (vB V + 0)), (1, .int b1), (2, .int b2), (4, .int b4)] [] (hS m) r h' := by
  intro n
  induction n with
  | zero => intro b4 o hf; cases hf
  | succ n ih =>
    intro b4 o hf hk
    rw [f_X8_heirs_L34] at hf
    refine g_iload 3 dX8_heirs_34 rfl ?_
    refine g_bipush (v := 20) dX8_heirs_36 rfl ?_
    refine g_icmp_gt (tgt := 66) dX8_heirs_38 (by decide) (fun c10 => ?_) (fun c10 => ?_)
    · replace hf := (if_pos c10).symm.trans hf
      cases hf
      refine g_sub [] rfl ?_
      exact hk
    · replace hf := (if_neg c10).symm.trans hf
      refine g_aload_n 0 dX8_heirs_41 rfl rfl ?_
      refine gf_314 dX8_heirs_42 rfl ob_0 rfl ?_
      refine gf_126 dX8_heirs_45 rfl ob_1 rfl ?_
      refine g_iload_n 1 dX8_heirs_48 rfl rfl ?_
      obtain ⟨v7, e8, hf⟩ := bnd_some hf
      refine p_iald dX8_heirs_49 at_13 e8 ?_
      refine g_iload 3 dX8_heirs_50 rfl ?_
      refine g_ishl dX8_heirs_52 ?_
      refine g_iload_n 2 dX8_heirs_53 rfl rfl ?_
      refine g_icmp_le (tgt := 60) dX8_heirs_54 (by decide) (fun c9 => ?_) (fun c9 => ?_)
      · replace hf := (if_pos c9).symm.trans hf
        refine g_iinc (q := 3) (v := (b4 + (1 : Int32))) dX8_heirs_60 rfl rfl (Nat.le_of_ble_eq_true rfl) rfl ?_
        refine g_goto (tgt := 34) dX8_heirs_63 (by decide) ?_
        refine g_sub [1, 2, 3, 0] rfl ?_
        exact ih (b4 + (1 : Int32)) _ hf hk
      · replace hf := (if_neg c9).symm.trans hf
        refine g_iload 3 dX8_heirs_57 rfl ?_
        cases hf
        obtain ⟨rfl, rfl⟩ := hk
        exact g_iret dX8_heirs_59 .int rfl rfl

set_option maxRecDepth 100000 in
theorem t_X8_heirs {V : eV} {a1 : Int32} {a2 : Int32}  {m : mM} {q : Int32 × mM} (hf : f_X8_heirs a1 a2 m = some q) : eE V 1 yX8_heirs cX8_heirs 5 (some .int) [.ref (vB V + 0), .int a1, .int a2] (hS m) (some (.int q.1)) (hS q.2) := by
  refine eE_of (by decide) (Nat.le_of_ble_eq_true rfl) ?_
  show gG V k_X8_heirs 0 [(0, .ref (vB V + 0)), (1, .int a1), (2, .int a2)] [] (hS m) _ _
  unfold f_X8_heirs at hf
  refine g_iload_n 1 dX8_heirs_0 rfl rfl ?_
  obtain ⟨q1, e2, hf⟩ := bnd_some hf
  refine p_callS (As := [.int a1]) (rest := []) (t_X8_isHour e2) cw_618 w_527 (Nat.le_of_ble_eq_true rfl) rfl rfl (Nat.le_of_ble_eq_true rfl) dX8_heirs_1 ?_
  refine g_if_ne (tgt := 13) dX8_heirs_4 (by decide) (fun c17 => ?_) (fun c17 => ?_)
  · replace hf := (if_neg c17).symm.trans hf
    refine g_iload_n 2 dX8_heirs_13 rfl rfl ?_
    refine g_sipush (v := 9999) dX8_heirs_14 rfl ?_
    obtain ⟨q5, e6, hf⟩ := bnd_some hf
    refine p_callS (As := [.int a2, .int (9999 : Int32)]) (rest := []) (t_X8_outside e6) cw_631 w_632 (Nat.le_of_ble_eq_true rfl) rfl rfl (Nat.le_of_ble_eq_true rfl) dX8_heirs_17 ?_
    refine g_istore_n dX8_heirs_20 rfl (Nat.le_of_ble_eq_true rfl) rfl ?_
    refine g_iload_n 0 dX8_heirs_21 rfl rfl ?_
    refine g_if_eq (tgt := 31) dX8_heirs_22 (by decide) (fun c16 => ?_) (fun c16 => ?_)
    · replace hf := (if_pos c16).symm.trans hf
      refine g_iconst (v := 0) dX8_heirs_31 rfl ?_
      refine g_istore dX8_heirs_32 (Nat.le_of_ble_eq_true rfl) rfl ?_
      refine g_sub [2, 3, 4, 0] rfl ?_
      obtain ⟨o11, e13, hf⟩ := bnd_some hf
      refine t_X8_heirs_L34 (V := V) a1 a2 m fU (0 : Int32) _ e13 ?_
      rcases o11 with zq | x12
      · replace hf := ora_l hf
        cases hf
        exact ⟨rfl, rfl⟩
      · replace hf := ora_r hf
        show gG V _ _ _ _ _ _ _
        refine g_bipush (v := -9) dX8_heirs_66 rfl ?_
        cases hf
        exact g_iret dX8_heirs_68 .int rfl rfl
    · replace hf := (if_neg c16).symm.trans hf
      refine g_aload_n 1 dX8_heirs_25 rfl rfl ?_
      refine g_iload_n 0 dX8_heirs_26 rfl rfl ?_
      obtain ⟨q14, e15, hf⟩ := bnd_some hf
      refine p_callV (As := [.int q5]) (rest := []) (t_X8_refuse e15) cw_355 w_357 w_0 ob_0 rfl (Nat.le_of_ble_eq_true rfl) rfl rfl (Nat.le_of_ble_eq_true rfl) dX8_heirs_27 ?_
      cases hf
      exact g_iret dX8_heirs_30 .int rfl rfl
  · replace hf := (if_pos c17).symm.trans hf
    refine g_aload_n 0 dX8_heirs_7 rfl rfl ?_
    refine g_iconst (v := -1) dX8_heirs_8 rfl ?_
    obtain ⟨q3, e4, hf⟩ := bnd_some hf
    refine p_callV (As := [.int (-1 : Int32)]) (rest := []) (t_X8_refuse e4) cw_355 w_357 w_0 ob_0 rfl (Nat.le_of_ble_eq_true rfl) rfl rfl (Nat.le_of_ble_eq_true rfl) dX8_heirs_9 ?_
    cases hf
    exact g_iret dX8_heirs_12 .int rfl rfl

abbrev k_X7_addPart_1 : kX := (cX7_addPart, "WhoseHourItIs$Town", "addPart", none, 3, 0)
def f_X7_addPart_1 (a1 : Int32) (a2 : Int32) (m : mM) : Option (mM) :=
bnd (ckR 28 a2) fun j1 =>
bnd (rdA 13 28 a2 m) fun v3 =>
bnd (wrA (15 + j1) 3 v3 a1 m) fun m5 =>
bnd (rdA 13 28 a2 m5) fun v7 =>
bnd (wrA 13 28 a2 (v7 + (1 : Int32)) m5) fun m9 =>
bnd (rdA 11 8 a1 m9) fun v11 =>
bnd (wrA 11 8 a1 (v11 ||| ((1 : Int32) <<< (a2 &&& 31))) m9) fun m13 =>
some m13
set_option maxRecDepth 100000 in
theorem t_X7_addPart_1 {V : eV} {a1 : Int32} {a2 : Int32}  {m : mM} {q : mM} (hf : f_X7_addPart_1 a1 a2 m = some q) : eE V 0 yX7_addPart cX7_addPart 3 (none) [.ref (vB V + 1), .int a1, .int a2] (hS m) none (hS q) := by
  refine eE_of (by decide) (Nat.le_of_ble_eq_true rfl) ?_
  show gG V k_X7_addPart_1 0 [(0, .ref (vB V + 1)), (1, .int a1), (2, .int a2)] [] (hS m) _ _
  unfold f_X7_addPart_1 at hf
  refine g_aload_n 0 dX7_addPart_0 rfl rfl ?_
  refine gf_127 dX7_addPart_1 rfl ob_1 rfl ?_
  refine g_iload_n 2 dX7_addPart_4 rfl rfl ?_
  obtain ⟨j1, e2, hf⟩ := bnd_some hf
  refine p_aald dX7_addPart_5 rt_14 e2 (fun hj1 => ?_)
  refine g_aload_n 0 dX7_addPart_6 rfl rfl ?_
  refine gf_122 dX7_addPart_7 rfl ob_1 rfl ?_
  refine g_iload_n 2 dX7_addPart_10 rfl rfl ?_
  obtain ⟨v3, e4, hf⟩ := bnd_some hf
  refine p_iald dX7_addPart_11 at_13 e4 ?_
  refine g_iload_n 1 dX7_addPart_12 rfl rfl ?_
  obtain ⟨m5, e6, hf⟩ := bnd_some hf
  refine p_iast dX7_addPart_13 (ar_15 hj1) e6 ?_
  refine g_aload_n 0 dX7_addPart_14 rfl rfl ?_
  refine gf_122 dX7_addPart_15 rfl ob_1 rfl ?_
  refine g_iload_n 2 dX7_addPart_18 rfl rfl ?_
  refine g_dup2 dX7_addPart_19 rfl rfl ?_
  obtain ⟨v7, e8, hf⟩ := bnd_some hf
  refine p_iald dX7_addPart_20 at_13 e8 ?_
  refine g_iconst (v := 1) dX7_addPart_21 rfl ?_
  refine g_iadd dX7_addPart_22 ?_
  obtain ⟨m9, e10, hf⟩ := bnd_some hf
  refine p_iast dX7_addPart_23 at_13 e10 ?_
  refine g_aload_n 0 dX7_addPart_24 rfl rfl ?_
  refine gf_115 dX7_addPart_25 rfl ob_1 rfl ?_
  refine g_iload_n 1 dX7_addPart_28 rfl rfl ?_
  refine g_dup2 dX7_addPart_29 rfl rfl ?_
  obtain ⟨v11, e12, hf⟩ := bnd_some hf
  refine p_iald dX7_addPart_30 at_11 e12 ?_
  refine g_iconst (v := 1) dX7_addPart_31 rfl ?_
  refine g_iload_n 2 dX7_addPart_32 rfl rfl ?_
  refine g_ishl dX7_addPart_33 ?_
  refine g_ior dX7_addPart_34 ?_
  obtain ⟨m13, e14, hf⟩ := bnd_some hf
  refine p_iast dX7_addPart_35 at_11 e14 ?_
  cases hf
  exact g_vret dX7_addPart_36 rfl

abbrev k_X2_findCosts : kX := (cX2_findCosts, "WhoseHourItIs$Outlook", "findCosts", none, 2, 4)
def f_X2_findCosts_L2 : Nat → Int32 → mM → Option (mM)
  | 0, _, _ => none
  | n + 1, b1, m =>
      if (m 1 1) ≤ b1 then (
      some m)
      else (
      bnd (f_X0_choose b1 m) fun q1 =>
      bnd (wrA 183 6 b1 (q1 154 4) q1) fun m3 =>
      f_X2_findCosts_L2 n (b1 + (1 : Int32)) m3)
def f_X2_findCosts  (m : mM) : Option (mM) :=
bnd (f_X2_findCosts_L2 fU (0 : Int32) m) fun o6 =>
some o6
set_option maxRecDepth 100000 in
theorem t_X2_findCosts_L2 {V : eV} {r : Option Value} {h' : aH} : ∀ (n : Nat) (b1 : Int32) (m : mM) (o : mM), f_X2_findCosts_L2 n b1 m = some o → gG V k_X2_findCosts 40 [] [] (hS o) r h' → gG V k_X2_findCosts 2 [(0, .ref (vB V + 182)), (1, .int b1)] [] (hS m) r h' := by
  intro n
  induction n with
  | zero => intro b1 m o hf; cases hf
  | succ n ih =>
    intro b1 m o hf hk
    rw [f_X2_findCosts_L2] at hf
    refine g_iload_n 1 dX2_findCosts_2 rfl rfl ?_
    refine g_aload_n 0 dX2_findCosts_3 rfl rfl ?_
    refine gf_284 dX2_findCosts_4 rfl ob_182 rfl ?_
    refine gf_99 dX2_findCosts_7 rfl ob_1 rfl ?_
    refine g_icmp_ge (tgt := 40) dX2_findCosts_10 (by decide) (fun c5 => ?_) (fun c5 => ?_)
    · replace hf := (if_pos c5).symm.trans hf
      cases hf
      refine g_sub [] rfl ?_
      exact hk
    · replace hf := (if_neg c5).symm.trans hf
      refine g_aload_n 0 dX2_findCosts_13 rfl rfl ?_
      refine gf_285 dX2_findCosts_14 rfl ob_182 rfl ?_
      refine g_iload_n 1 dX2_findCosts_17 rfl rfl ?_
      obtain ⟨q1, e2, hf⟩ := bnd_some hf
      refine p_callVv (As := [.int b1]) (rest := []) (t_X0_choose e2) cw_798 w_561 w_562 ob_154 rfl (Nat.le_of_ble_eq_true rfl) rfl rfl (Nat.le_of_ble_eq_true rfl) dX2_findCosts_18 ?_
      refine g_aload_n 0 dX2_findCosts_21 rfl rfl ?_
      refine gf_286 dX2_findCosts_22 rfl ob_182 rfl ?_
      refine g_iload_n 1 dX2_findCosts_25 rfl rfl ?_
      refine g_aload_n 0 dX2_findCosts_26 rfl rfl ?_
      refine gf_285 dX2_findCosts_27 rfl ob_182 rfl ?_
      refine gf_198 dX2_findCosts_30 rfl ob_154 rfl ?_
      obtain ⟨m3, e4, hf⟩ := bnd_some hf
      refine p_iast dX2_findCosts_33 at_183 e4 ?_
      refine g_iinc (q := 1) (v := (b1 + (1 : Int32))) dX2_findCosts_34 rfl rfl (Nat.le_of_ble_eq_true rfl) rfl ?_
      refine g_goto (tgt := 2) dX2_findCosts_37 (by decide) ?_
      refine g_sub [1, 0] rfl ?_
      exact ih (b1 + (1 : Int32)) m3 _ hf hk

set_option maxRecDepth 100000 in
theorem t_X2_findCosts {V : eV}  {m : mM} {q : mM} (hf : f_X2_findCosts  m = some q) : eE V 4 yX2_findCosts cX2_findCosts 2 (none) [.ref (vB V + 182)] (hS m) none (hS q) := by
  refine eE_of (by decide) (Nat.le_of_ble_eq_true rfl) ?_
  show gG V k_X2_findCosts 0 [(0, .ref (vB V + 182))] [] (hS m) _ _
  unfold f_X2_findCosts at hf
  refine g_iconst (v := 0) dX2_findCosts_0 rfl ?_
  refine g_istore_n dX2_findCosts_1 rfl (Nat.le_of_ble_eq_true rfl) rfl ?_
  refine g_sub [1, 0] rfl ?_
  obtain ⟨o6, e7, hf⟩ := bnd_some hf
  refine t_X2_findCosts_L2 (V := V) fU (0 : Int32) m _ e7 ?_
  cases hf
  exact g_vret dX2_findCosts_40 rfl

abbrev k_X2_doneNet : kX := (cX2_doneNet, "WhoseHourItIs$Outlook", "doneNet", some .int, 3, 1)
def f_X2_doneNet (a1 : Int32) (a2 : Int32) (m : mM) : Option (Int32) :=
bnd (rdA 183 6 a1 m) fun v1 =>
bnd (f_X8_netOf a2 v1 m) fun q3 =>
some (if (0 : Int32) < q3 then q3 else (0 : Int32))
set_option maxRecDepth 100000 in
theorem t_X2_doneNet {V : eV} {a1 : Int32} {a2 : Int32}  {m : mM} {q : Int32} (hf : f_X2_doneNet a1 a2 m = some q) : eE V 1 yX2_doneNet cX2_doneNet 3 (some .int) [.ref (vB V + 182), .int a1, .int a2] (hS m) (some (.int q)) (hS m) := by
  refine eE_of (by decide) (Nat.le_of_ble_eq_true rfl) ?_
  show gG V k_X2_doneNet 0 [(0, .ref (vB V + 182)), (1, .int a1), (2, .int a2)] [] (hS m) _ _
  unfold f_X2_doneNet at hf
  refine g_iconst (v := 0) dX2_doneNet_0 rfl ?_
  refine g_iload_n 2 dX2_doneNet_1 rfl rfl ?_
  refine g_aload_n 0 dX2_doneNet_2 rfl rfl ?_
  refine gf_286 dX2_doneNet_3 rfl ob_182 rfl ?_
  refine g_iload_n 1 dX2_doneNet_6 rfl rfl ?_
  obtain ⟨v1, e2, hf⟩ := bnd_some hf
  refine p_iald dX2_doneNet_7 at_183 e2 ?_
  obtain ⟨q3, e4, hf⟩ := bnd_some hf
  refine p_callSN (As := [.int a2, .int v1]) (rest := [.int (0 : Int32)]) (t_X8_netOf e4) cw_837 w_606 (Nat.le_of_ble_eq_true rfl) rfl rfl (Nat.le_of_ble_eq_true rfl) dX2_doneNet_8 ?_
  refine g_max w_838 w_456 w_71 w_457 (Nat.le_of_ble_eq_true rfl) (Nat.le_of_ble_eq_true rfl) dX2_doneNet_11 ?_
  cases hf
  exact g_iret dX2_doneNet_14 .int rfl rfl

abbrev k_X7_takeOnlyPart : kX := (cX7_takeOnlyPart, "WhoseHourItIs$Town", "takeOnlyPart", none, 3, 0)
def f_X7_takeOnlyPart (a1 : Int32) (a2 : Int32) (m : mM) : Option (mM) :=
bnd (wrA 13 28 a2 (0 : Int32) m) fun m1 =>
bnd (rdA 11 8 a1 m1) fun v3 =>
bnd (wrA 11 8 a1 (v3 &&& (((1 : Int32) <<< (a2 &&& 31)) ^^^ (-1 : Int32))) m1) fun m5 =>
some m5
set_option maxRecDepth 100000 in
theorem t_X7_takeOnlyPart {V : eV} {a1 : Int32} {a2 : Int32}  {m : mM} {q : mM} (hf : f_X7_takeOnlyPart a1 a2 m = some q) : eE V 0 yX7_takeOnlyPart cX7_takeOnlyPart 3 (none) [.ref (vB V + 1), .int a1, .int a2] (hS m) none (hS q) := by
  refine eE_of (by decide) (Nat.le_of_ble_eq_true rfl) ?_
  show gG V k_X7_takeOnlyPart 0 [(0, .ref (vB V + 1)), (1, .int a1), (2, .int a2)] [] (hS m) _ _
  unfold f_X7_takeOnlyPart at hf
  refine g_aload_n 0 dX7_takeOnlyPart_0 rfl rfl ?_
  refine gf_122 dX7_takeOnlyPart_1 rfl ob_1 rfl ?_
  refine g_iload_n 2 dX7_takeOnlyPart_4 rfl rfl ?_
  refine g_iconst (v := 0) dX7_takeOnlyPart_5 rfl ?_
  obtain ⟨m1, e2, hf⟩ := bnd_some hf
  refine p_iast dX7_takeOnlyPart_6 at_13 e2 ?_
  refine g_aload_n 0 dX7_takeOnlyPart_7 rfl rfl ?_
  refine gf_115 dX7_takeOnlyPart_8 rfl ob_1 rfl ?_
  refine g_iload_n 1 dX7_takeOnlyPart_11 rfl rfl ?_
  refine g_dup2 dX7_takeOnlyPart_12 rfl rfl ?_
  obtain ⟨v3, e4, hf⟩ := bnd_some hf
  refine p_iald dX7_takeOnlyPart_13 at_11 e4 ?_
  refine g_iconst (v := 1) dX7_takeOnlyPart_14 rfl ?_
  refine g_iload_n 2 dX7_takeOnlyPart_15 rfl rfl ?_
  refine g_ishl dX7_takeOnlyPart_16 ?_
  refine g_iconst (v := -1) dX7_takeOnlyPart_17 rfl ?_
  refine g_ixor dX7_takeOnlyPart_18 ?_
  refine g_iand dX7_takeOnlyPart_19 ?_
  obtain ⟨m5, e6, hf⟩ := bnd_some hf
  refine p_iast dX7_takeOnlyPart_20 at_11 e6 ?_
  cases hf
  exact g_vret dX7_takeOnlyPart_21 rfl

