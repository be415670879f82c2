/-! printed by wip/whole/gen_meth.py: plain functions of the methods, and that the bytecode does as they say -/
abbrev k_X9_lines (fd : Nat) : kX := (cX9_lines, "WhoseHourItIsModel", "lines", none, 9, 7 + fd)
def f_X9_lines_L21 (self : Int32 → Int32 → Int32 → Int32 → Int32 → mM → Option (mM)) (b1 : Int32) (b2 : Int32) (b3 : Int32) (b4 : Int32) (b5 : Int32) : Nat → Int32 → mM → Option (mM)
  | 0, _, _ => none
  | n + 1, b6, m =>
      bnd (rdA 189 189 (0 : Int32) m) fun v3 =>
      if v3 ≤ b6 then (
      some m)
      else (
      if ((b5 >>> (b6 &&& 31)) &&& (1 : Int32)) = 0 then (
      f_X9_lines_L21 self b1 b2 b3 b4 b5 n (b6 + (1 : Int32)) m)
      else (
      if ((b4 >>> (b6 &&& 31)) &&& (1 : Int32)) = (1 : Int32) then (
      f_X9_lines_L21 self b1 b2 b3 b4 b5 n (b6 + (1 : Int32)) m)
      else (
      bnd (self b1 b2 b3 (b4 ||| ((1 : Int32) <<< (b6 &&& 31))) b5 m) fun q5 =>
      if b6 = b1 then (
      bnd (wrA 189 189 (2 : Int32) (b3 ||| (b5 &&& (b4 ^^^ (-1 : Int32)))) q5) fun m7 =>
      bnd (f_X9_costOf b2 m7) fun q9 =>
      if q9.1 < 0 then (
      bnd (wrA 189 189 (2 : Int32) (b3 ||| (b5 &&& ((b4 ||| ((1 : Int32) <<< (b6 &&& 31))) ^^^ (-1 : Int32)))) q9.2) fun m11 =>
      if (0 : Int32) = 0 then (
      bnd (f_X9_costOf b2 m11) fun q13 =>
      if q13.1 < 0 then (
      bnd (some (m_up q13.2 187 18 ((m11 187 18) + (0 : Int32)))) fun m15 =>
      f_X9_lines_L21 self b1 b2 b3 b4 b5 n (b6 + (1 : Int32)) m15)
      else (
      bnd (some (m_up q13.2 187 18 ((m11 187 18) + ((q13.2 187 19) - (m 187 19))))) fun m17 =>
      f_X9_lines_L21 self b1 b2 b3 b4 b5 n (b6 + (1 : Int32)) m17))
      else (
      bnd (some (m_up m11 187 18 ((m11 187 18) + (0 : Int32)))) fun m20 =>
      f_X9_lines_L21 self b1 b2 b3 b4 b5 n (b6 + (1 : Int32)) m20))
      else (
      bnd (wrA 189 189 (2 : Int32) (b3 ||| (b5 &&& ((b4 ||| ((1 : Int32) <<< (b6 &&& 31))) ^^^ (-1 : Int32)))) q9.2) fun m23 =>
      if (1 : Int32) = 0 then (
      bnd (f_X9_costOf b2 m23) fun q25 =>
      if q25.1 < 0 then (
      bnd (some (m_up q25.2 187 18 ((m23 187 18) + (0 : Int32)))) fun m27 =>
      f_X9_lines_L21 self b1 b2 b3 b4 b5 n (b6 + (1 : Int32)) m27)
      else (
      bnd (some (m_up q25.2 187 18 ((m23 187 18) + ((q25.2 187 19) - (m 187 19))))) fun m29 =>
      f_X9_lines_L21 self b1 b2 b3 b4 b5 n (b6 + (1 : Int32)) m29))
      else (
      bnd (some (m_up m23 187 18 ((m23 187 18) + (0 : Int32)))) fun m32 =>
      f_X9_lines_L21 self b1 b2 b3 b4 b5 n (b6 + (1 : Int32)) m32)))
      else (
      f_X9_lines_L21 self b1 b2 b3 b4 b5 n (b6 + (1 : Int32)) q5))))
def f_X9_lines : Nat → Int32 → Int32 → Int32 → Int32 → Int32 → mM → Option (mM)
  | 0, _, _, _, _, _, _ => none
  | fd + 1, a1, a2, a3, a4, a5, m =>
      if a4 = a5 then (
      bnd (some (m_up m 187 19 ((m 187 19) + (1 : Int32)))) fun m1 =>
      some m1)
      else (
      bnd (f_X9_lines_L21 (f_X9_lines fd) a1 a2 a3 a4 a5 fU (0 : Int32) m) fun o40 =>
      some o40)
set_option maxRecDepth 100000 in
theorem t_X9_lines_L21 {V : eV} (fd : Nat) (ihR : ∀ (a1 : Int32) (a2 : Int32) (a3 : Int32) (a4 : Int32) (a5 : Int32) (m : mM) (q : mM), f_X9_lines fd a1 a2 a3 a4 a5 m = some q → eE V (7 + fd) yX9_lines cX9_lines 9 (none) [.ref (vB V + 187), .int a1, .int a2, .int a3, .int a4, .int a5] (hS m) none (hS q)) (b1 : Int32) (b2 : Int32) (b3 : Int32) (b4 : Int32) (b5 : Int32) {r : Option Value} {h' : aH} : ∀ (n : Nat) (b6 : Int32) (m : mM) (o : mM), f_X9_lines_L21 (f_X9_lines fd) b1 b2 b3 b4 b5 n b6 m = some o → gG V (k_X9_lines (fd + 1)) 176 [] [] (hS o) r h' → gG V (k_X9_lines (fd + 1)) 21 [(0, .ref (vB V + 187)), (1, .int b1), (2, .int b2), (3, .int b3), (4, .int b4), (5, .int b5), (6, .int b6)] [] (hS m) r h' := by
  intro n
  induction n with
  | zero => intro b6 m o hf; cases hf
  | succ n ih =>
    intro b6 m o hf hk
    rw [f_X9_lines_L21] at hf
    refine g_iload 6 dX9_lines_21 rfl ?_
    refine g_aload_n 0 dX9_lines_23 rfl rfl ?_
    refine gf_930 dX9_lines_24 rfl ob_187 rfl ?_
    refine g_iconst (v := 0) dX9_lines_27 rfl ?_
    obtain ⟨v3, e4, hf⟩ := bnd_some hf
    refine p_iald dX9_lines_28 at_189 e4 ?_
    refine g_icmp_ge (tgt := 176) dX9_lines_29 (by decide) (fun c39 => ?_) (fun c39 => ?_)
    · replace hf := (if_pos c39).symm.trans hf
      cases hf
      refine g_sub [] rfl ?_
      exact hk
    · replace hf := (if_neg c39).symm.trans hf
      refine g_iload 5 dX9_lines_32 rfl ?_
      refine g_iload 6 dX9_lines_34 rfl ?_
      refine g_ishr dX9_lines_36 ?_
      refine g_iconst (v := 1) dX9_lines_37 rfl ?_
      refine g_iand dX9_lines_38 ?_
      refine g_if_eq (tgt := 170) dX9_lines_39 (by decide) (fun c38 => ?_) (fun c38 => ?_)
      · replace hf := (if_pos c38).symm.trans hf
        refine g_iinc (q := 6) (v := (b6 + (1 : Int32))) dX9_lines_170 rfl rfl (Nat.le_of_ble_eq_true rfl) rfl ?_
        refine g_goto (tgt := 21) dX9_lines_173 (by decide) ?_
        refine g_sub [1, 2, 3, 4, 5, 6, 0] rfl ?_
        exact ih (b6 + (1 : Int32)) m _ hf hk
      · replace hf := (if_neg c38).symm.trans hf
        refine g_iload 4 dX9_lines_42 rfl ?_
        refine g_iload 6 dX9_lines_44 rfl ?_
        refine g_ishr dX9_lines_46 ?_
        refine g_iconst (v := 1) dX9_lines_47 rfl ?_
        refine g_iand dX9_lines_48 ?_
        refine g_iconst (v := 1) dX9_lines_49 rfl ?_
        refine g_icmp_ne (tgt := 56) dX9_lines_50 (by decide) (fun c37 => ?_) (fun c37 => ?_)
        · replace hf := (if_neg c37).symm.trans hf
          refine g_aload_n 0 dX9_lines_56 rfl rfl ?_
          refine gf_948 dX9_lines_57 rfl ob_187 rfl ?_
          refine g_istore dX9_lines_60 (Nat.le_of_ble_eq_true rfl) rfl ?_
          refine g_aload_n 1 dX9_lines_62 rfl rfl ?_
          refine g_iload_n 2 dX9_lines_63 rfl rfl ?_
          refine g_iload_n 3 dX9_lines_64 rfl rfl ?_
          refine g_iload_n 4 dX9_lines_65 rfl rfl ?_
          refine g_iload 5 dX9_lines_66 rfl ?_
          refine g_iconst (v := 1) dX9_lines_68 rfl ?_
          refine g_iload 7 dX9_lines_69 rfl ?_
          refine g_ishl dX9_lines_71 ?_
          refine g_ior dX9_lines_72 ?_
          refine g_iload 6 dX9_lines_73 rfl ?_
          obtain ⟨q5, e6, hf⟩ := bnd_some hf
          refine p_callVv (As := [.int b1, .int b2, .int b3, .int (b4 ||| ((1 : Int32) <<< (b6 &&& 31))), .int b5]) (rest := []) (ihR b1 b2 b3 (b4 ||| ((1 : Int32) <<< (b6 &&& 31))) b5 m _ e6) cw_1215 w_1217 w_50 ob_187 rfl (Nat.le_refl _) rfl rfl (Nat.le_of_ble_eq_true rfl) dX9_lines_75 ?_
          refine g_iload 7 dX9_lines_78 rfl ?_
          refine g_iload_n 2 dX9_lines_80 rfl rfl ?_
          refine g_icmp_eq (tgt := 87) dX9_lines_81 (by decide) (fun c36 => ?_) (fun c36 => ?_)
          · replace hf := (if_pos c36).symm.trans hf
            refine g_aload_n 1 dX9_lines_87 rfl rfl ?_
            refine gf_930 dX9_lines_88 rfl ob_187 rfl ?_
            refine g_iconst (v := 2) dX9_lines_91 rfl ?_
            refine g_iload_n 4 dX9_lines_92 rfl rfl ?_
            refine g_iload 6 dX9_lines_93 rfl ?_
            refine g_iload 5 dX9_lines_95 rfl ?_
            refine g_iconst (v := -1) dX9_lines_97 rfl ?_
            refine g_ixor dX9_lines_98 ?_
            refine g_iand dX9_lines_99 ?_
            refine g_ior dX9_lines_100 ?_
            obtain ⟨m7, e8, hf⟩ := bnd_some hf
            refine p_iast dX9_lines_101 at_189 e8 ?_
            refine g_aload_n 1 dX9_lines_102 rfl rfl ?_
            refine g_iload_n 3 dX9_lines_103 rfl rfl ?_
            obtain ⟨q9, e10, hf⟩ := bnd_some hf
            refine p_callV (As := [.int b2]) (rest := []) (t_X9_costOf e10) cw_1080 w_1082 w_36 ob_187 rfl (by show 6 + 1 ≤ 7 + (fd + 1); omega) rfl rfl (Nat.le_of_ble_eq_true rfl) dX9_lines_104 ?_
            refine g_if_lt (tgt := 114) dX9_lines_107 (by decide) (fun c35 => ?_) (fun c35 => ?_)
            · replace hf := (if_pos c35).symm.trans hf
              refine g_iconst (v := 0) dX9_lines_114 rfl ?_
              refine g_istore dX9_lines_115 (Nat.le_of_ble_eq_true rfl) rfl ?_
              refine g_aload_n 2 dX9_lines_117 rfl rfl ?_
              refine gf_930 dX9_lines_118 rfl ob_187 rfl ?_
              refine g_iconst (v := 2) dX9_lines_121 rfl ?_
              refine g_iload_n 5 dX9_lines_122 rfl rfl ?_
              refine g_iload 7 dX9_lines_123 rfl ?_
              refine g_iload 6 dX9_lines_125 rfl ?_
              refine g_iconst (v := 1) dX9_lines_127 rfl ?_
              refine g_iload 8 dX9_lines_128 rfl ?_
              refine g_ishl dX9_lines_130 ?_
              refine g_ior dX9_lines_131 ?_
              refine g_iconst (v := -1) dX9_lines_132 rfl ?_
              refine g_ixor dX9_lines_133 ?_
              refine g_iand dX9_lines_134 ?_
              refine g_ior dX9_lines_135 ?_
              obtain ⟨m11, e12, hf⟩ := bnd_some hf
              refine p_iast dX9_lines_136 at_189 e12 ?_
              refine g_aload_n 2 dX9_lines_137 rfl rfl ?_
              refine g_dup dX9_lines_138 rfl ?_
              refine gf_947 dX9_lines_139 rfl ob_187 rfl ?_
              refine g_iload 0 dX9_lines_142 rfl ?_
              refine g_if_ne (tgt := 165) dX9_lines_144 (by decide) (fun c22 => ?_) (fun c22 => ?_)
              · replace hf := (if_neg c22).symm.trans hf
                refine g_iconst (v := 0) dX9_lines_165 rfl ?_
                refine g_iadd dX9_lines_166 ?_
                obtain ⟨m20, e21, hf⟩ := bnd_some hf
                cases e21
                refine pf_947 dX9_lines_167 rfl ob_187 rfl ?_
                generalize m_up m11 187 18 ((m11 187 18) + (0 : Int32)) = m20 at hf ⊢
                refine g_iinc (q := 8) (v := (b6 + (1 : Int32))) dX9_lines_170 rfl rfl (Nat.le_of_ble_eq_true rfl) rfl ?_
                refine g_goto (tgt := 21) dX9_lines_173 (by decide) ?_
                refine g_sub [3, 4, 5, 6, 7, 8, 0] rfl ?_
                exact ih (b6 + (1 : Int32)) m20 _ hf hk
              · replace hf := (if_pos c22).symm.trans hf
                refine g_aload_n 2 dX9_lines_147 rfl rfl ?_
                refine g_iload_n 4 dX9_lines_148 rfl rfl ?_
                obtain ⟨q13, e14, hf⟩ := bnd_some hf
                refine p_callV (As := [.int b2]) (rest := [.int (m11 187 18), .ref (vB V + 187)]) (t_X9_costOf e14) cw_1080 w_1082 w_36 ob_187 rfl (by show 6 + 1 ≤ 7 + (fd + 1); omega) rfl rfl (Nat.le_of_ble_eq_true rfl) dX9_lines_149 ?_
                refine g_if_lt (tgt := 165) dX9_lines_152 (by decide) (fun c19 => ?_) (fun c19 => ?_)
                · replace hf := (if_pos c19).symm.trans hf
                  refine g_iconst (v := 0) dX9_lines_165 rfl ?_
                  refine g_iadd dX9_lines_166 ?_
                  obtain ⟨m15, e16, hf⟩ := bnd_some hf
                  cases e16
                  refine pf_947 dX9_lines_167 rfl ob_187 rfl ?_
                  generalize m_up q13.2 187 18 ((m11 187 18) + (0 : Int32)) = m15 at hf ⊢
                  refine g_iinc (q := 8) (v := (b6 + (1 : Int32))) dX9_lines_170 rfl rfl (Nat.le_of_ble_eq_true rfl) rfl ?_
                  refine g_goto (tgt := 21) dX9_lines_173 (by decide) ?_
                  refine g_sub [3, 4, 5, 6, 7, 8, 0] rfl ?_
                  exact ih (b6 + (1 : Int32)) m15 _ hf hk
                · replace hf := (if_neg c19).symm.trans hf
                  refine g_aload_n 2 dX9_lines_155 rfl rfl ?_
                  refine gf_948 dX9_lines_156 rfl ob_187 rfl ?_
                  refine g_iload 1 dX9_lines_159 rfl ?_
                  refine g_isub dX9_lines_161 ?_
                  refine g_goto (tgt := 166) dX9_lines_162 (by decide) ?_
                  refine g_iadd dX9_lines_166 ?_
                  obtain ⟨m17, e18, hf⟩ := bnd_some hf
                  cases e18
                  refine pf_947 dX9_lines_167 rfl ob_187 rfl ?_
                  generalize m_up q13.2 187 18 ((m11 187 18) + ((q13.2 187 19) - (m 187 19))) = m17 at hf ⊢
                  refine g_iinc (q := 8) (v := (b6 + (1 : Int32))) dX9_lines_170 rfl rfl (Nat.le_of_ble_eq_true rfl) rfl ?_
                  refine g_goto (tgt := 21) dX9_lines_173 (by decide) ?_
                  refine g_sub [3, 4, 5, 6, 7, 8, 0] rfl ?_
                  exact ih (b6 + (1 : Int32)) m17 _ hf hk
            · replace hf := (if_neg c35).symm.trans hf
              refine g_iconst (v := 1) dX9_lines_110 rfl ?_
              refine g_goto (tgt := 115) dX9_lines_111 (by decide) ?_
              refine g_istore dX9_lines_115 (Nat.le_of_ble_eq_true rfl) rfl ?_
              refine g_aload_n 2 dX9_lines_117 rfl rfl ?_
              refine gf_930 dX9_lines_118 rfl ob_187 rfl ?_
              refine g_iconst (v := 2) dX9_lines_121 rfl ?_
              refine g_iload_n 5 dX9_lines_122 rfl rfl ?_
              refine g_iload 7 dX9_lines_123 rfl ?_
              refine g_iload 6 dX9_lines_125 rfl ?_
              refine g_iconst (v := 1) dX9_lines_127 rfl ?_
              refine g_iload 8 dX9_lines_128 rfl ?_
              refine g_ishl dX9_lines_130 ?_
              refine g_ior dX9_lines_131 ?_
              refine g_iconst (v := -1) dX9_lines_132 rfl ?_
              refine g_ixor dX9_lines_133 ?_
              refine g_iand dX9_lines_134 ?_
              refine g_ior dX9_lines_135 ?_
              obtain ⟨m23, e24, hf⟩ := bnd_some hf
              refine p_iast dX9_lines_136 at_189 e24 ?_
              refine g_aload_n 2 dX9_lines_137 rfl rfl ?_
              refine g_dup dX9_lines_138 rfl ?_
              refine gf_947 dX9_lines_139 rfl ob_187 rfl ?_
              refine g_iload 0 dX9_lines_142 rfl ?_
              refine g_if_ne (tgt := 165) dX9_lines_144 (by decide) (fun c34 => ?_) (fun c34 => ?_)
              · replace hf := (if_neg c34).symm.trans hf
                refine g_iconst (v := 0) dX9_lines_165 rfl ?_
                refine g_iadd dX9_lines_166 ?_
                obtain ⟨m32, e33, hf⟩ := bnd_some hf
                cases e33
                refine pf_947 dX9_lines_167 rfl ob_187 rfl ?_
                generalize m_up m23 187 18 ((m23 187 18) + (0 : Int32)) = m32 at hf ⊢
                refine g_iinc (q := 8) (v := (b6 + (1 : Int32))) dX9_lines_170 rfl rfl (Nat.le_of_ble_eq_true rfl) rfl ?_
                refine g_goto (tgt := 21) dX9_lines_173 (by decide) ?_
                refine g_sub [3, 4, 5, 6, 7, 8, 0] rfl ?_
                exact ih (b6 + (1 : Int32)) m32 _ hf hk
              · replace hf := (if_pos c34).symm.trans hf
                refine g_aload_n 2 dX9_lines_147 rfl rfl ?_
                refine g_iload_n 4 dX9_lines_148 rfl rfl ?_
                obtain ⟨q25, e26, hf⟩ := bnd_some hf
                refine p_callV (As := [.int b2]) (rest := [.int (m23 187 18), .ref (vB V + 187)]) (t_X9_costOf e26) cw_1080 w_1082 w_36 ob_187 rfl (by show 6 + 1 ≤ 7 + (fd + 1); omega) rfl rfl (Nat.le_of_ble_eq_true rfl) dX9_lines_149 ?_
                refine g_if_lt (tgt := 165) dX9_lines_152 (by decide) (fun c31 => ?_) (fun c31 => ?_)
                · replace hf := (if_pos c31).symm.trans hf
                  refine g_iconst (v := 0) dX9_lines_165 rfl ?_
                  refine g_iadd dX9_lines_166 ?_
                  obtain ⟨m27, e28, hf⟩ := bnd_some hf
                  cases e28
                  refine pf_947 dX9_lines_167 rfl ob_187 rfl ?_
                  generalize m_up q25.2 187 18 ((m23 187 18) + (0 : Int32)) = m27 at hf ⊢
                  refine g_iinc (q := 8) (v := (b6 + (1 : Int32))) dX9_lines_170 rfl rfl (Nat.le_of_ble_eq_true rfl) rfl ?_
                  refine g_goto (tgt := 21) dX9_lines_173 (by decide) ?_
                  refine g_sub [3, 4, 5, 6, 7, 8, 0] rfl ?_
                  exact ih (b6 + (1 : Int32)) m27 _ hf hk
                · replace hf := (if_neg c31).symm.trans hf
                  refine g_aload_n 2 dX9_lines_155 rfl rfl ?_
                  refine gf_948 dX9_lines_156 rfl ob_187 rfl ?_
                  refine g_iload 1 dX9_lines_159 rfl ?_
                  refine g_isub dX9_lines_161 ?_
                  refine g_goto (tgt := 166) dX9_lines_162 (by decide) ?_
                  refine g_iadd dX9_lines_166 ?_
                  obtain ⟨m29, e30, hf⟩ := bnd_some hf
                  cases e30
                  refine pf_947 dX9_lines_167 rfl ob_187 rfl ?_
                  generalize m_up q25.2 187 18 ((m23 187 18) + ((q25.2 187 19) - (m 187 19))) = m29 at hf ⊢
                  refine g_iinc (q := 8) (v := (b6 + (1 : Int32))) dX9_lines_170 rfl rfl (Nat.le_of_ble_eq_true rfl) rfl ?_
                  refine g_goto (tgt := 21) dX9_lines_173 (by decide) ?_
                  refine g_sub [3, 4, 5, 6, 7, 8, 0] rfl ?_
                  exact ih (b6 + (1 : Int32)) m29 _ hf hk
          · replace hf := (if_neg c36).symm.trans hf
            refine g_goto (tgt := 170) dX9_lines_84 (by decide) ?_
            refine g_iinc (q := 7) (v := (b6 + (1 : Int32))) dX9_lines_170 rfl rfl (Nat.le_of_ble_eq_true rfl) rfl ?_
            refine g_goto (tgt := 21) dX9_lines_173 (by decide) ?_
            refine g_sub [2, 3, 4, 5, 6, 7, 0] rfl ?_
            exact ih (b6 + (1 : Int32)) q5 _ hf hk
        · replace hf := (if_pos c37).symm.trans hf
          refine g_goto (tgt := 170) dX9_lines_53 (by decide) ?_
          refine g_iinc (q := 6) (v := (b6 + (1 : Int32))) dX9_lines_170 rfl rfl (Nat.le_of_ble_eq_true rfl) rfl ?_
          refine g_goto (tgt := 21) dX9_lines_173 (by decide) ?_
          refine g_sub [1, 2, 3, 4, 5, 6, 0] rfl ?_
          exact ih (b6 + (1 : Int32)) m _ hf hk

set_option maxRecDepth 100000 in
theorem t_X9_lines {V : eV} : ∀ (fd : Nat) (a1 : Int32) (a2 : Int32) (a3 : Int32) (a4 : Int32) (a5 : Int32) (m : mM) (q : mM), f_X9_lines fd a1 a2 a3 a4 a5 m = some q → eE V (7 + fd) yX9_lines cX9_lines 9 (none) [.ref (vB V + 187), .int a1, .int a2, .int a3, .int a4, .int a5] (hS m) none (hS q) := by
  intro fd
  induction fd with
  | zero => intro a1 a2 a3 a4 a5 m q hf; cases hf
  | succ fd ih =>
  intro a1 a2 a3 a4 a5 m q hf
  refine eE_of (by decide) (Nat.le_of_ble_eq_true rfl) ?_
  show gG V (k_X9_lines (fd + 1)) 0 [(0, .ref (vB V + 187)), (1, .int a1), (2, .int a2), (3, .int a3), (4, .int a4), (5, .int a5)] [] (hS m) _ _
  rw [f_X9_lines] at hf
  refine g_iload 4 dX9_lines_0 rfl ?_
  refine g_iload 5 dX9_lines_2 rfl ?_
  refine g_icmp_ne (tgt := 18) dX9_lines_4 (by decide) (fun c42 => ?_) (fun c42 => ?_)
  · replace hf := (if_neg c42).symm.trans hf
    refine g_iconst (v := 0) dX9_lines_18 rfl ?_
    refine g_istore dX9_lines_19 (Nat.le_of_ble_eq_true rfl) rfl ?_
    refine g_sub [1, 2, 3, 4, 5, 6, 0] rfl ?_
    obtain ⟨o40, e41, hf⟩ := bnd_some hf
    refine t_X9_lines_L21 (V := V) fd ih a1 a2 a3 a4 a5 fU (0 : Int32) m _ e41 ?_
    cases hf
    exact g_vret dX9_lines_176 rfl
  · replace hf := (if_pos c42).symm.trans hf
    refine g_aload_n 0 dX9_lines_7 rfl rfl ?_
    refine g_dup dX9_lines_8 rfl ?_
    refine gf_948 dX9_lines_9 rfl ob_187 rfl ?_
    refine g_iconst (v := 1) dX9_lines_12 rfl ?_
    refine g_iadd dX9_lines_13 ?_
    obtain ⟨m1, e2, hf⟩ := bnd_some hf
    cases e2
    refine pf_948 dX9_lines_14 rfl ob_187 rfl ?_
    generalize m_up m 187 19 ((m 187 19) + (1 : Int32)) = m1 at hf ⊢
    cases hf
    exact g_vret dX9_lines_17 rfl

abbrev k_X9_common (fd : Nat) : kX := (cX9_common, "WhoseHourItIsModel", "common", some .int, 2, 0 + fd)
def f_X9_common : Nat → Int32 → Int32 → mM → Option (Int32)
  | 0, _, _, _ => none
  | fd + 1, a0, a1, m =>
      if a1 = 0 then (
      some a0)
      else (
      bnd (rmI a0 a1) fun v1 =>
      bnd (f_X9_common fd a1 v1 m) fun q3 =>
      some q3)
set_option maxRecDepth 100000 in
theorem t_X9_common {V : eV} : ∀ (fd : Nat) (a0 : Int32) (a1 : Int32) (m : mM) (q : Int32), f_X9_common fd a0 a1 m = some q → eE V (0 + fd) yX9_common cX9_common 2 (some .int) [.int a0, .int a1] (hS m) (some (.int q)) (hS m) := by
  intro fd
  induction fd with
  | zero => intro a0 a1 m q hf; cases hf
  | succ fd ih =>
  intro a0 a1 m q hf
  refine eE_of (by decide) (Nat.le_of_ble_eq_true rfl) ?_
  show gG V (k_X9_common (fd + 1)) 0 [(0, .int a0), (1, .int a1)] [] (hS m) _ _
  rw [f_X9_common] at hf
  refine g_iload_n 1 dX9_common_0 rfl rfl ?_
  refine g_if_ne (tgt := 8) dX9_common_1 (by decide) (fun c5 => ?_) (fun c5 => ?_)
  · replace hf := (if_neg c5).symm.trans hf
    refine g_iload_n 1 dX9_common_8 rfl rfl ?_
    refine g_iload_n 0 dX9_common_9 rfl rfl ?_
    refine g_iload_n 1 dX9_common_10 rfl rfl ?_
    obtain ⟨v1, e2, hf⟩ := bnd_some hf
    refine p_irem dX9_common_11 e2 ?_
    obtain ⟨q3, e4, hf⟩ := bnd_some hf
    refine p_callS (As := [.int a1, .int v1]) (rest := []) (ih a1 v1 m _ e4) cw_1219 w_1220 (Nat.le_refl _) rfl rfl (Nat.le_of_ble_eq_true rfl) dX9_common_12 ?_
    cases hf
    exact g_iret dX9_common_15 .int rfl rfl
  · replace hf := (if_pos c5).symm.trans hf
    refine g_iload_n 0 dX9_common_4 rfl rfl ?_
    refine g_goto (tgt := 15) dX9_common_5 (by decide) ?_
    cases hf
    exact g_iret dX9_common_15 .int rfl rfl

abbrev k_X9_power : kX := (cX9_power, "WhoseHourItIsModel", "power", some .int, 6, 20)
def f_X9_power (a1 : Int32) (a2 : Int32) (a3 : Int32) (m : mM) : Option (Int32 × mM) :=
bnd (f_X9_isHolder a1 m) fun q1 =>
if q1 = 0 then (
bnd (f_X9_refuse (-1 : Int32) m) fun q3 =>
some (q3.1, q3.2))
else (
bnd (f_X9_isWork a2 m) fun q5 =>
if q5 = 0 then (
bnd (f_X9_refuse (-1 : Int32) m) fun q7 =>
some (q7.1, q7.2))
else (
bnd (f_X9_of a2 (0 : Int32) m) fun q9 =>
if q9 = a1 then (
bnd (f_X9_refuse (-1 : Int32) m) fun q11 =>
some (q11.1, q11.2))
else (
bnd (f_X9_isIn a3 (2 : Int32) m) fun q13 =>
if q13 = 0 then (
bnd (f_X9_refuse (-2 : Int32) m) fun q15 =>
some (q15.1, q15.2))
else (
bnd (rdA 189 189 (0 : Int32) m) fun v17 =>
if v17 ≤ (6 : Int32) then (
bnd (rdA 189 189 (2 : Int32) m) fun v19 =>
bnd (some (m_up m 187 18 (0 : Int32))) fun m21 =>
bnd (some (m_up m21 187 19 (0 : Int32))) fun m23 =>
bnd (rdA 189 189 (0 : Int32) m23) fun v25 =>
bnd (f_X9_of a2 (0 : Int32) m23) fun q27 =>
bnd (f_X9_lines fR a1 a2 v19 (0 : Int32) ((((1 : Int32) <<< (v25 &&& 31)) - (1 : Int32)) &&& (((1 : Int32) <<< (q27 &&& 31)) ^^^ (-1 : Int32))) m23) fun q29 =>
bnd (wrA 189 189 (2 : Int32) v19 q29) fun m31 =>
bnd (f_X9_common fR (m31 187 19) (m31 187 18) m31) fun q33 =>
if a3 = 0 then (
bnd (dvI (m31 187 18) q33) fun v35 =>
some (v35, m31))
else (
bnd (dvI (m31 187 19) q33) fun v37 =>
some (v37, m31)))
else (
bnd (f_X9_refuse (-6 : Int32) m) fun q40 =>
some (q40.1, q40.2))))))
set_option maxRecDepth 100000 in
theorem t_X9_power {V : eV} {a1 : Int32} {a2 : Int32} {a3 : Int32}  {m : mM} {q : Int32 × mM} (hf : f_X9_power a1 a2 a3 m = some q) : eE V 20 yX9_power cX9_power 6 (some .int) [.ref (vB V + 187), .int a1, .int a2, .int a3] (hS m) (some (.int q.1)) (hS q.2) := by
  refine eE_of (by decide) (Nat.le_of_ble_eq_true rfl) ?_
  show gG V k_X9_power 0 [(0, .ref (vB V + 187)), (1, .int a1), (2, .int a2), (3, .int a3)] [] (hS m) _ _
  unfold f_X9_power at hf
  refine g_aload_n 0 dX9_power_0 rfl rfl ?_
  refine g_iload_n 1 dX9_power_1 rfl rfl ?_
  obtain ⟨q1, e2, hf⟩ := bnd_some hf
  refine p_callV (As := [.int a1]) (rest := []) (t_X9_isHolder e2) cw_1053 w_1055 w_30 ob_187 rfl (Nat.le_of_ble_eq_true rfl) rfl rfl (Nat.le_of_ble_eq_true rfl) dX9_power_2 ?_
  refine g_if_eq (tgt := 26) dX9_power_5 (by decide) (fun c46 => ?_) (fun c46 => ?_)
  · replace hf := (if_pos c46).symm.trans hf
    refine g_aload_n 0 dX9_power_26 rfl rfl ?_
    refine g_iconst (v := -1) dX9_power_27 rfl ?_
    obtain ⟨q3, e4, hf⟩ := bnd_some hf
    refine p_callV (As := [.int (-1 : Int32)]) (rest := []) (t_X9_refuse e4) cw_1000 w_1002 w_22 ob_187 rfl (Nat.le_of_ble_eq_true rfl) rfl rfl (Nat.le_of_ble_eq_true rfl) dX9_power_28 ?_
    cases hf
    exact g_iret dX9_power_31 .int rfl rfl
  · replace hf := (if_neg c46).symm.trans hf
    refine g_aload_n 0 dX9_power_8 rfl rfl ?_
    refine g_iload_n 2 dX9_power_9 rfl rfl ?_
    obtain ⟨q5, e6, hf⟩ := bnd_some hf
    refine p_callV (As := [.int a2]) (rest := []) (t_X9_isWork e6) cw_1120 w_1122 w_43 ob_187 rfl (Nat.le_of_ble_eq_true rfl) rfl rfl (Nat.le_of_ble_eq_true rfl) dX9_power_10 ?_
    refine g_if_eq (tgt := 26) dX9_power_13 (by decide) (fun c45 => ?_) (fun c45 => ?_)
    · replace hf := (if_pos c45).symm.trans hf
      refine g_aload_n 0 dX9_power_26 rfl rfl ?_
      refine g_iconst (v := -1) dX9_power_27 rfl ?_
      obtain ⟨q7, e8, hf⟩ := bnd_some hf
      refine p_callV (As := [.int (-1 : Int32)]) (rest := []) (t_X9_refuse e8) cw_1000 w_1002 w_22 ob_187 rfl (Nat.le_of_ble_eq_true rfl) rfl rfl (Nat.le_of_ble_eq_true rfl) dX9_power_28 ?_
      cases hf
      exact g_iret dX9_power_31 .int rfl rfl
    · replace hf := (if_neg c45).symm.trans hf
      refine g_aload_n 0 dX9_power_16 rfl rfl ?_
      refine g_iload_n 2 dX9_power_17 rfl rfl ?_
      refine g_iconst (v := 0) dX9_power_18 rfl ?_
      obtain ⟨q9, e10, hf⟩ := bnd_some hf
      refine p_callV (As := [.int a2, .int (0 : Int32)]) (rest := []) (t_X9_of e10) cw_1072 w_1074 w_34 ob_187 rfl (Nat.le_of_ble_eq_true rfl) rfl rfl (Nat.le_of_ble_eq_true rfl) dX9_power_19 ?_
      refine g_iload_n 1 dX9_power_22 rfl rfl ?_
      refine g_icmp_ne (tgt := 32) dX9_power_23 (by decide) (fun c44 => ?_) (fun c44 => ?_)
      · replace hf := (if_neg c44).symm.trans hf
        refine g_iload_n 3 dX9_power_32 rfl rfl ?_
        refine g_iconst (v := 2) dX9_power_33 rfl ?_
        obtain ⟨q13, e14, hf⟩ := bnd_some hf
        refine p_callS (As := [.int a3, .int (2 : Int32)]) (rest := []) (t_X9_isIn e14) cw_1057 w_1058 (Nat.le_of_ble_eq_true rfl) rfl rfl (Nat.le_of_ble_eq_true rfl) dX9_power_34 ?_
        refine g_if_ne (tgt := 47) dX9_power_37 (by decide) (fun c43 => ?_) (fun c43 => ?_)
        · replace hf := (if_neg c43).symm.trans hf
          refine g_aload_n 0 dX9_power_47 rfl rfl ?_
          refine gf_930 dX9_power_48 rfl ob_187 rfl ?_
          refine g_iconst (v := 0) dX9_power_51 rfl ?_
          obtain ⟨v17, e18, hf⟩ := bnd_some hf
          refine p_iald dX9_power_52 at_189 e18 ?_
          refine g_bipush (v := 6) dX9_power_53 rfl ?_
          refine g_icmp_le (tgt := 65) dX9_power_55 (by decide) (fun c42 => ?_) (fun c42 => ?_)
          · replace hf := (if_pos c42).symm.trans hf
            refine g_aload_n 0 dX9_power_65 rfl rfl ?_
            refine gf_930 dX9_power_66 rfl ob_187 rfl ?_
            refine g_iconst (v := 2) dX9_power_69 rfl ?_
            obtain ⟨v19, e20, hf⟩ := bnd_some hf
            refine p_iald dX9_power_70 at_189 e20 ?_
            refine g_istore dX9_power_71 (Nat.le_of_ble_eq_true rfl) rfl ?_
            refine g_aload_n 1 dX9_power_73 rfl rfl ?_
            refine g_iconst (v := 0) dX9_power_74 rfl ?_
            obtain ⟨m21, e22, hf⟩ := bnd_some hf
            cases e22
            refine pf_947 dX9_power_75 rfl ob_187 rfl ?_
            generalize m_up m 187 18 (0 : Int32) = m21 at hf ⊢
            refine g_aload_n 1 dX9_power_78 rfl rfl ?_
            refine g_iconst (v := 0) dX9_power_79 rfl ?_
            obtain ⟨m23, e24, hf⟩ := bnd_some hf
            cases e24
            refine pf_948 dX9_power_80 rfl ob_187 rfl ?_
            generalize m_up m21 187 19 (0 : Int32) = m23 at hf ⊢
            refine g_aload_n 1 dX9_power_83 rfl rfl ?_
            refine g_iload_n 2 dX9_power_84 rfl rfl ?_
            refine g_iload_n 3 dX9_power_85 rfl rfl ?_
            refine g_iload 0 dX9_power_86 rfl ?_
            refine g_iconst (v := 0) dX9_power_88 rfl ?_
            refine g_iconst (v := 1) dX9_power_89 rfl ?_
            refine g_aload_n 1 dX9_power_90 rfl rfl ?_
            refine gf_930 dX9_power_91 rfl ob_187 rfl ?_
            refine g_iconst (v := 0) dX9_power_94 rfl ?_
            obtain ⟨v25, e26, hf⟩ := bnd_some hf
            refine p_iald dX9_power_95 at_189 e26 ?_
            refine g_ishl dX9_power_96 ?_
            refine g_iconst (v := 1) dX9_power_97 rfl ?_
            refine g_isub dX9_power_98 ?_
            refine g_iconst (v := 1) dX9_power_99 rfl ?_
            refine g_aload_n 1 dX9_power_100 rfl rfl ?_
            refine g_iload_n 3 dX9_power_101 rfl rfl ?_
            refine g_iconst (v := 0) dX9_power_102 rfl ?_
            obtain ⟨q27, e28, hf⟩ := bnd_some hf
            refine p_callV (As := [.int a2, .int (0 : Int32)]) (rest := [.int (1 : Int32), .int (((1 : Int32) <<< (v25 &&& 31)) - (1 : Int32)), .int (0 : Int32), .int v19, .int a2, .int a1, .ref (vB V + 187)]) (t_X9_of e28) cw_1072 w_1074 w_34 ob_187 rfl (Nat.le_of_ble_eq_true rfl) rfl rfl (Nat.le_of_ble_eq_true rfl) dX9_power_103 ?_
            refine g_ishl dX9_power_106 ?_
            refine g_iconst (v := -1) dX9_power_107 rfl ?_
            refine g_ixor dX9_power_108 ?_
            refine g_iand dX9_power_109 ?_
            obtain ⟨q29, e30, hf⟩ := bnd_some hf
            refine p_callVv (As := [.int a1, .int a2, .int v19, .int (0 : Int32), .int ((((1 : Int32) <<< (v25 &&& 31)) - (1 : Int32)) &&& (((1 : Int32) <<< (q27 &&& 31)) ^^^ (-1 : Int32)))]) (rest := []) (t_X9_lines fR a1 a2 v19 (0 : Int32) ((((1 : Int32) <<< (v25 &&& 31)) - (1 : Int32)) &&& (((1 : Int32) <<< (q27 &&& 31)) ^^^ (-1 : Int32))) m23 _ e30) cw_1215 w_1217 w_50 ob_187 rfl (Nat.le_of_ble_eq_true rfl) rfl rfl (Nat.le_of_ble_eq_true rfl) dX9_power_110 ?_
            refine g_aload_n 1 dX9_power_113 rfl rfl ?_
            refine gf_930 dX9_power_114 rfl ob_187 rfl ?_
            refine g_iconst (v := 2) dX9_power_117 rfl ?_
            refine g_iload 0 dX9_power_118 rfl ?_
            obtain ⟨m31, e32, hf⟩ := bnd_some hf
            refine p_iast dX9_power_120 at_189 e32 ?_
            refine g_aload_n 1 dX9_power_121 rfl rfl ?_
            refine gf_948 dX9_power_122 rfl ob_187 rfl ?_
            refine g_aload_n 1 dX9_power_125 rfl rfl ?_
            refine gf_947 dX9_power_126 rfl ob_187 rfl ?_
            obtain ⟨q33, e34, hf⟩ := bnd_some hf
            refine p_callS (As := [.int (m31 187 19), .int (m31 187 18)]) (rest := []) (t_X9_common fR (m31 187 19) (m31 187 18) m31 _ e34) cw_1219 w_1220 (Nat.le_of_ble_eq_true rfl) rfl rfl (Nat.le_of_ble_eq_true rfl) dX9_power_129 ?_
            refine g_istore dX9_power_132 (Nat.le_of_ble_eq_true rfl) rfl ?_
            refine g_iload_n 5 dX9_power_134 rfl rfl ?_
            refine g_if_ne (tgt := 148) dX9_power_135 (by decide) (fun c39 => ?_) (fun c39 => ?_)
            · replace hf := (if_neg c39).symm.trans hf
              refine g_aload_n 2 dX9_power_148 rfl rfl ?_
              refine gf_948 dX9_power_149 rfl ob_187 rfl ?_
              refine g_iload 0 dX9_power_152 rfl ?_
              obtain ⟨v37, e38, hf⟩ := bnd_some hf
              refine p_idiv dX9_power_154 e38 ?_
              cases hf
              exact g_iret dX9_power_155 .int rfl rfl
            · replace hf := (if_pos c39).symm.trans hf
              refine g_aload_n 2 dX9_power_138 rfl rfl ?_
              refine gf_947 dX9_power_139 rfl ob_187 rfl ?_
              refine g_iload 0 dX9_power_142 rfl ?_
              obtain ⟨v35, e36, hf⟩ := bnd_some hf
              refine p_idiv dX9_power_144 e36 ?_
              refine g_goto (tgt := 155) dX9_power_145 (by decide) ?_
              cases hf
              exact g_iret dX9_power_155 .int rfl rfl
          · replace hf := (if_neg c42).symm.trans hf
            refine g_aload_n 0 dX9_power_58 rfl rfl ?_
            refine g_bipush (v := -6) dX9_power_59 rfl ?_
            obtain ⟨q40, e41, hf⟩ := bnd_some hf
            refine p_callV (As := [.int (-6 : Int32)]) (rest := []) (t_X9_refuse e41) cw_1000 w_1002 w_22 ob_187 rfl (Nat.le_of_ble_eq_true rfl) rfl rfl (Nat.le_of_ble_eq_true rfl) dX9_power_61 ?_
            cases hf
            exact g_iret dX9_power_64 .int rfl rfl
        · replace hf := (if_pos c43).symm.trans hf
          refine g_aload_n 0 dX9_power_40 rfl rfl ?_
          refine g_bipush (v := -2) dX9_power_41 rfl ?_
          obtain ⟨q15, e16, hf⟩ := bnd_some hf
          refine p_callV (As := [.int (-2 : Int32)]) (rest := []) (t_X9_refuse e16) cw_1000 w_1002 w_22 ob_187 rfl (Nat.le_of_ble_eq_true rfl) rfl rfl (Nat.le_of_ble_eq_true rfl) dX9_power_43 ?_
          cases hf
          exact g_iret dX9_power_46 .int rfl rfl
      · replace hf := (if_pos c44).symm.trans hf
        refine g_aload_n 0 dX9_power_26 rfl rfl ?_
        refine g_iconst (v := -1) dX9_power_27 rfl ?_
        obtain ⟨q11, e12, hf⟩ := bnd_some hf
        refine p_callV (As := [.int (-1 : Int32)]) (rest := []) (t_X9_refuse e12) cw_1000 w_1002 w_22 ob_187 rfl (Nat.le_of_ble_eq_true rfl) rfl rfl (Nat.le_of_ble_eq_true rfl) dX9_power_28 ?_
        cases hf
        exact g_iret dX9_power_31 .int rfl rfl

abbrev k_X9_costsOf : kX := (cX9_costsOf, "WhoseHourItIsModel", "costsOf", some .int, 5, 7)
def f_X9_costsOf_L4 (b1 : Int32) : Nat → Int32 → Int32 → mM → Option (Int32 × mM)
  | 0, _, _, _ => none
  | n + 1, b2, b3, m =>
      bnd (rdA 189 189 (1 : Int32) m) fun v1 =>
      if v1 ≤ b3 then (
      some (b2, m))
      else (
      bnd (f_X9_of b3 (0 : Int32) m) fun q3 =>
      if q3 = b1 then (
      bnd (f_X9_costOf b3 m) fun q5 =>
      if 0 ≤ q5.1 then (
      f_X9_costsOf_L4 b1 n (b2 + q5.1) (b3 + (1 : Int32)) q5.2)
      else (
      f_X9_costsOf_L4 b1 n (b2 + (100 : Int32)) (b3 + (1 : Int32)) q5.2))
      else (
      f_X9_costsOf_L4 b1 n b2 (b3 + (1 : Int32)) m))
def f_X9_costsOf (a1 : Int32) (m : mM) : Option (Int32 × mM) :=
bnd (f_X9_costsOf_L4 a1 fU (0 : Int32) (0 : Int32) m) fun o10 =>
some (o10.1, o10.2)
set_option maxRecDepth 100000 in
theorem t_X9_costsOf_L4 {V : eV} (b1 : Int32) {r : Option Value} {h' : aH} : ∀ (n : Nat) (b2 : Int32) (b3 : Int32) (m : mM) (o : Int32 × mM), f_X9_costsOf_L4 b1 n b2 b3 m = some o → gG V k_X9_costsOf 55 [(2, .int o.1)] [] (hS o.2) r h' → gG V k_X9_costsOf 4 [(0, .ref (vB V + 187)), (1, .int b1), (2, .int b2), (3, .int b3)] [] (hS m) r h' := by
  intro n
  induction n with
  | zero => intro b2 b3 m o hf; cases hf
  | succ n ih =>
    intro b2 b3 m o hf hk
    rw [f_X9_costsOf_L4] at hf
    refine g_iload_n 3 dX9_costsOf_4 rfl rfl ?_
    refine g_aload_n 0 dX9_costsOf_5 rfl rfl ?_
    refine gf_930 dX9_costsOf_6 rfl ob_187 rfl ?_
    refine g_iconst (v := 1) dX9_costsOf_9 rfl ?_
    obtain ⟨v1, e2, hf⟩ := bnd_some hf
    refine p_iald dX9_costsOf_10 at_189 e2 ?_
    refine g_icmp_ge (tgt := 55) dX9_costsOf_11 (by decide) (fun c9 => ?_) (fun c9 => ?_)
    · replace hf := (if_pos c9).symm.trans hf
      cases hf
      refine g_sub [2] rfl ?_
      exact hk
    · replace hf := (if_neg c9).symm.trans hf
      refine g_aload_n 0 dX9_costsOf_14 rfl rfl ?_
      refine g_iload_n 3 dX9_costsOf_15 rfl rfl ?_
      refine g_iconst (v := 0) dX9_costsOf_16 rfl ?_
      obtain ⟨q3, e4, hf⟩ := bnd_some hf
      refine p_callV (As := [.int b3, .int (0 : Int32)]) (rest := []) (t_X9_of e4) cw_1072 w_1074 w_34 ob_187 rfl (Nat.le_of_ble_eq_true rfl) rfl rfl (Nat.le_of_ble_eq_true rfl) dX9_costsOf_17 ?_
      refine g_iload_n 1 dX9_costsOf_20 rfl rfl ?_
      refine g_icmp_eq (tgt := 27) dX9_costsOf_21 (by decide) (fun c8 => ?_) (fun c8 => ?_)
      · replace hf := (if_pos c8).symm.trans hf
        refine g_aload_n 0 dX9_costsOf_27 rfl rfl ?_
        refine g_iload_n 3 dX9_costsOf_28 rfl rfl ?_
        obtain ⟨q5, e6, hf⟩ := bnd_some hf
        refine p_callV (As := [.int b3]) (rest := []) (t_X9_costOf e6) cw_1080 w_1082 w_36 ob_187 rfl (Nat.le_of_ble_eq_true rfl) rfl rfl (Nat.le_of_ble_eq_true rfl) dX9_costsOf_29 ?_
        refine g_istore dX9_costsOf_32 (Nat.le_of_ble_eq_true rfl) rfl ?_
        refine g_iload_n 3 dX9_costsOf_34 rfl rfl ?_
        refine g_iload 0 dX9_costsOf_35 rfl ?_
        refine g_if_ge (tgt := 45) dX9_costsOf_37 (by decide) (fun c7 => ?_) (fun c7 => ?_)
        · replace hf := (if_pos c7).symm.trans hf
          refine g_iload 0 dX9_costsOf_45 rfl ?_
          refine g_iadd dX9_costsOf_47 ?_
          refine g_istore_n dX9_costsOf_48 rfl (Nat.le_of_ble_eq_true rfl) rfl ?_
          refine g_iinc (q := 4) (v := (b3 + (1 : Int32))) dX9_costsOf_49 rfl rfl (Nat.le_of_ble_eq_true rfl) rfl ?_
          refine g_goto (tgt := 4) dX9_costsOf_52 (by decide) ?_
          refine g_sub [3, 4, 1, 0] rfl ?_
          exact ih (b2 + q5.1) (b3 + (1 : Int32)) q5.2 _ hf hk
        · replace hf := (if_neg c7).symm.trans hf
          refine g_bipush (v := 100) dX9_costsOf_40 rfl ?_
          refine g_goto (tgt := 47) dX9_costsOf_42 (by decide) ?_
          refine g_iadd dX9_costsOf_47 ?_
          refine g_istore_n dX9_costsOf_48 rfl (Nat.le_of_ble_eq_true rfl) rfl ?_
          refine g_iinc (q := 4) (v := (b3 + (1 : Int32))) dX9_costsOf_49 rfl rfl (Nat.le_of_ble_eq_true rfl) rfl ?_
          refine g_goto (tgt := 4) dX9_costsOf_52 (by decide) ?_
          refine g_sub [3, 4, 1, 0] rfl ?_
          exact ih (b2 + (100 : Int32)) (b3 + (1 : Int32)) q5.2 _ hf hk
      · replace hf := (if_neg c8).symm.trans hf
        refine g_goto (tgt := 49) dX9_costsOf_24 (by decide) ?_
        refine g_iinc (q := 3) (v := (b3 + (1 : Int32))) dX9_costsOf_49 rfl rfl (Nat.le_of_ble_eq_true rfl) rfl ?_
        refine g_goto (tgt := 4) dX9_costsOf_52 (by decide) ?_
        refine g_sub [1, 2, 3, 0] rfl ?_
        exact ih b2 (b3 + (1 : Int32)) m _ hf hk

set_option maxRecDepth 100000 in
theorem t_X9_costsOf {V : eV} {a1 : Int32}  {m : mM} {q : Int32 × mM} (hf : f_X9_costsOf a1 m = some q) : eE V 7 yX9_costsOf cX9_costsOf 5 (some .int) [.ref (vB V + 187), .int a1] (hS m) (some (.int q.1)) (hS q.2) := by
  refine eE_of (by decide) (Nat.le_of_ble_eq_true rfl) ?_
  show gG V k_X9_costsOf 0 [(0, .ref (vB V + 187)), (1, .int a1)] [] (hS m) _ _
  unfold f_X9_costsOf at hf
  refine g_iconst (v := 0) dX9_costsOf_0 rfl ?_
  refine g_istore_n dX9_costsOf_1 rfl (Nat.le_of_ble_eq_true rfl) rfl ?_
  refine g_iconst (v := 0) dX9_costsOf_2 rfl ?_
  refine g_istore_n dX9_costsOf_3 rfl (Nat.le_of_ble_eq_true rfl) rfl ?_
  refine g_sub [2, 3, 1, 0] rfl ?_
  obtain ⟨o10, e11, hf⟩ := bnd_some hf
  refine t_X9_costsOf_L4 (V := V) a1 fU (0 : Int32) (0 : Int32) m _ e11 ?_
  refine g_iload_n 0 dX9_costsOf_55 rfl rfl ?_
  cases hf
  exact g_iret dX9_costsOf_56 .int rfl rfl

abbrev k_X9_weds : kX := (cX9_weds, "WhoseHourItIsModel", "weds", none, 4, 1)
def f_X9_weds_L2 (b1 : Int32) (b2 : Int32) : Nat → Int32 → mM → Option (mM)
  | 0, _, _ => none
  | n + 1, b3, m =>
      bnd (rdA 189 189 (0 : Int32) m) fun v1 =>
      if v1 ≤ b3 then (
      some m)
      else (
      bnd (f_X9_get b3 (3 : Int32) m) fun q3 =>
      if q3 = b1 then (
      bnd (wrA 189 189 (((121 : Int32) + ((4 : Int32) * b3)) + (3 : Int32)) (-9 : Int32) m) fun m5 =>
      f_X9_weds_L2 b1 b2 n (b3 + (1 : Int32)) m5)
      else (
      bnd (f_X9_get b3 (3 : Int32) m) fun q7 =>
      if q7 = b2 then (
      bnd (wrA 189 189 (((121 : Int32) + ((4 : Int32) * b3)) + (3 : Int32)) (-9 : Int32) m) fun m9 =>
      f_X9_weds_L2 b1 b2 n (b3 + (1 : Int32)) m9)
      else (
      f_X9_weds_L2 b1 b2 n (b3 + (1 : Int32)) m)))
def f_X9_weds (a1 : Int32) (a2 : Int32) (m : mM) : Option (mM) :=
bnd (f_X9_weds_L2 a1 a2 fU (0 : Int32) m) fun o14 =>
bnd (wrA 189 189 (((121 : Int32) + ((4 : Int32) * a1)) + (3 : Int32)) a2 o14) fun m16 =>
bnd (wrA 189 189 (((121 : Int32) + ((4 : Int32) * a2)) + (3 : Int32)) a1 m16) fun m18 =>
some m18
set_option maxRecDepth 100000 in
theorem t_X9_weds_L2 {V : eV} (b1 : Int32) (b2 : Int32) {r : Option Value} {h' : aH} : ∀ (n : Nat) (b3 : Int32) (m : mM) (o : mM), f_X9_weds_L2 b1 b2 n b3 m = some o → gG V k_X9_weds 53 [(0, .ref (vB V + 187)), (1, .int b1), (2, .int b2)] [] (hS o) r h' → gG V k_X9_weds 2 [(0, .ref (vB V + 187)), (1, .int b1), (2, .int b2), (3, .int b3)] [] (hS m) r h' := by
  intro n
  induction n with
  | zero => intro b3 m o hf; cases hf
  | succ n ih =>
    intro b3 m o hf hk
    rw [f_X9_weds_L2] at hf
    refine g_iload_n 3 dX9_weds_2 rfl rfl ?_
    refine g_aload_n 0 dX9_weds_3 rfl rfl ?_
    refine gf_930 dX9_weds_4 rfl ob_187 rfl ?_
    refine g_iconst (v := 0) dX9_weds_7 rfl ?_
    obtain ⟨v1, e2, hf⟩ := bnd_some hf
    refine p_iald dX9_weds_8 at_189 e2 ?_
    refine g_icmp_ge (tgt := 53) dX9_weds_9 (by decide) (fun c13 => ?_) (fun c13 => ?_)
    · replace hf := (if_pos c13).symm.trans hf
      cases hf
      refine g_sub [0, 1, 2] rfl ?_
      exact hk
    · replace hf := (if_neg c13).symm.trans hf
      refine g_aload_n 0 dX9_weds_12 rfl rfl ?_
      refine g_iload_n 3 dX9_weds_13 rfl rfl ?_
      refine g_iconst (v := 3) dX9_weds_14 rfl ?_
      obtain ⟨q3, e4, hf⟩ := bnd_some hf
      refine p_callV (As := [.int b3, .int (3 : Int32)]) (rest := []) (t_X9_get e4) cw_1060 w_1062 w_31 ob_187 rfl (Nat.le_of_ble_eq_true rfl) rfl rfl (Nat.le_of_ble_eq_true rfl) dX9_weds_15 ?_
      refine g_iload_n 1 dX9_weds_18 rfl rfl ?_
      refine g_icmp_eq (tgt := 32) dX9_weds_19 (by decide) (fun c12 => ?_) (fun c12 => ?_)
      · replace hf := (if_pos c12).symm.trans hf
        refine g_aload_n 0 dX9_weds_32 rfl rfl ?_
        refine gf_930 dX9_weds_33 rfl ob_187 rfl ?_
        refine g_bipush (v := 121) dX9_weds_36 rfl ?_
        refine g_iconst (v := 4) dX9_weds_38 rfl ?_
        refine g_iload_n 3 dX9_weds_39 rfl rfl ?_
        refine g_imul dX9_weds_40 ?_
        refine g_iadd dX9_weds_41 ?_
        refine g_iconst (v := 3) dX9_weds_42 rfl ?_
        refine g_iadd dX9_weds_43 ?_
        refine g_bipush (v := -9) dX9_weds_44 rfl ?_
        obtain ⟨m5, e6, hf⟩ := bnd_some hf
        refine p_iast dX9_weds_46 at_189 e6 ?_
        refine g_iinc (q := 3) (v := (b3 + (1 : Int32))) dX9_weds_47 rfl rfl (Nat.le_of_ble_eq_true rfl) rfl ?_
        refine g_goto (tgt := 2) dX9_weds_50 (by decide) ?_
        refine g_sub [1, 2, 3, 0] rfl ?_
        exact ih (b3 + (1 : Int32)) m5 _ hf hk
      · replace hf := (if_neg c12).symm.trans hf
        refine g_aload_n 0 dX9_weds_22 rfl rfl ?_
        refine g_iload_n 3 dX9_weds_23 rfl rfl ?_
        refine g_iconst (v := 3) dX9_weds_24 rfl ?_
        obtain ⟨q7, e8, hf⟩ := bnd_some hf
        refine p_callV (As := [.int b3, .int (3 : Int32)]) (rest := []) (t_X9_get e8) cw_1060 w_1062 w_31 ob_187 rfl (Nat.le_of_ble_eq_true rfl) rfl rfl (Nat.le_of_ble_eq_true rfl) dX9_weds_25 ?_
        refine g_iload_n 2 dX9_weds_28 rfl rfl ?_
        refine g_icmp_ne (tgt := 47) dX9_weds_29 (by decide) (fun c11 => ?_) (fun c11 => ?_)
        · replace hf := (if_neg c11).symm.trans hf
          refine g_iinc (q := 3) (v := (b3 + (1 : Int32))) dX9_weds_47 rfl rfl (Nat.le_of_ble_eq_true rfl) rfl ?_
          refine g_goto (tgt := 2) dX9_weds_50 (by decide) ?_
          refine g_sub [1, 2, 3, 0] rfl ?_
          exact ih (b3 + (1 : Int32)) m _ hf hk
        · replace hf := (if_pos c11).symm.trans hf
          refine g_aload_n 0 dX9_weds_32 rfl rfl ?_
          refine gf_930 dX9_weds_33 rfl ob_187 rfl ?_
          refine g_bipush (v := 121) dX9_weds_36 rfl ?_
          refine g_iconst (v := 4) dX9_weds_38 rfl ?_
          refine g_iload_n 3 dX9_weds_39 rfl rfl ?_
          refine g_imul dX9_weds_40 ?_
          refine g_iadd dX9_weds_41 ?_
          refine g_iconst (v := 3) dX9_weds_42 rfl ?_
          refine g_iadd dX9_weds_43 ?_
          refine g_bipush (v := -9) dX9_weds_44 rfl ?_
          obtain ⟨m9, e10, hf⟩ := bnd_some hf
          refine p_iast dX9_weds_46 at_189 e10 ?_
          refine g_iinc (q := 3) (v := (b3 + (1 : Int32))) dX9_weds_47 rfl rfl (Nat.le_of_ble_eq_true rfl) rfl ?_
          refine g_goto (tgt := 2) dX9_weds_50 (by decide) ?_
          refine g_sub [1, 2, 3, 0] rfl ?_
          exact ih (b3 + (1 : Int32)) m9 _ hf hk

set_option maxRecDepth 100000 in
theorem t_X9_weds {V : eV} {a1 : Int32} {a2 : Int32}  {m : mM} {q : mM} (hf : f_X9_weds a1 a2 m = some q) : eE V 1 yX9_weds cX9_weds 4 (none) [.ref (vB V + 187), .int a1, .int a2] (hS m) none (hS q) := by
  refine eE_of (by decide) (Nat.le_of_ble_eq_true rfl) ?_
  show gG V k_X9_weds 0 [(0, .ref (vB V + 187)), (1, .int a1), (2, .int a2)] [] (hS m) _ _
  unfold f_X9_weds at hf
  refine g_iconst (v := 0) dX9_weds_0 rfl ?_
  refine g_istore_n dX9_weds_1 rfl (Nat.le_of_ble_eq_true rfl) rfl ?_
  refine g_sub [1, 2, 3, 0] rfl ?_
  obtain ⟨o14, e15, hf⟩ := bnd_some hf
  refine t_X9_weds_L2 (V := V) a1 a2 fU (0 : Int32) m _ e15 ?_
  refine g_aload_n 0 dX9_weds_53 rfl rfl ?_
  refine gf_930 dX9_weds_54 rfl ob_187 rfl ?_
  refine g_bipush (v := 121) dX9_weds_57 rfl ?_
  refine g_iconst (v := 4) dX9_weds_59 rfl ?_
  refine g_iload_n 1 dX9_weds_60 rfl rfl ?_
  refine g_imul dX9_weds_61 ?_
  refine g_iadd dX9_weds_62 ?_
  refine g_iconst (v := 3) dX9_weds_63 rfl ?_
  refine g_iadd dX9_weds_64 ?_
  refine g_iload_n 2 dX9_weds_65 rfl rfl ?_
  obtain ⟨m16, e17, hf⟩ := bnd_some hf
  refine p_iast dX9_weds_66 at_189 e17 ?_
  refine g_aload_n 0 dX9_weds_67 rfl rfl ?_
  refine gf_930 dX9_weds_68 rfl ob_187 rfl ?_
  refine g_bipush (v := 121) dX9_weds_71 rfl ?_
  refine g_iconst (v := 4) dX9_weds_73 rfl ?_
  refine g_iload_n 2 dX9_weds_74 rfl rfl ?_
  refine g_imul dX9_weds_75 ?_
  refine g_iadd dX9_weds_76 ?_
  refine g_iconst (v := 3) dX9_weds_77 rfl ?_
  refine g_iadd dX9_weds_78 ?_
  refine g_iload_n 1 dX9_weds_79 rfl rfl ?_
  obtain ⟨m18, e19, hf⟩ := bnd_some hf
  refine p_iast dX9_weds_80 at_189 e19 ?_
  cases hf
  exact g_vret dX9_weds_81 rfl

abbrev k_X9_wed : kX := (cX9_wed, "WhoseHourItIsModel", "wed", some .int, 6, 8)
def f_X9_wed_L37 (b1 : Int32) : Nat → Int32 → Int32 → Int32 → mM → Option (Int32 × mM)
  | 0, _, _, _, _ => none
  | n + 1, b2, b3, b4, m =>
      bnd (rdA 189 189 (0 : Int32) m) fun v9 =>
      if v9 ≤ b4 then (
      some (b2, m))
      else (
      if b4 = b1 then (
      f_X9_wed_L37 b1 n b2 b3 (b4 + (1 : Int32)) m)
      else (
      bnd (f_X9_weds b1 b4 m) fun q11 =>
      bnd (f_X9_costsOf b1 q11) fun q13 =>
      bnd (f_X9_copies_192_189 q13.2) fun q15 =>
      if q13.1 < b3 then (
      f_X9_wed_L37 b1 n b4 q13.1 (b4 + (1 : Int32)) q15)
      else (
      f_X9_wed_L37 b1 n b2 b3 (b4 + (1 : Int32)) q15)))
def f_X9_wed (a1 : Int32) (m : mM) : Option (Int32 × mM) :=
bnd (f_X9_isHolder a1 m) fun q1 =>
if q1 = 0 then (
bnd (f_X9_refuse (-1 : Int32) m) fun q3 =>
some (q3.1, q3.2))
else (
bnd (f_X9_costsOf a1 m) fun q5 =>
bnd (f_X9_copies_189_192 q5.2) fun q7 =>
bnd (f_X9_wed_L37 a1 fU (-9 : Int32) q5.1 (0 : Int32) q7) fun o20 =>
some (o20.1, o20.2))
set_option maxRecDepth 100000 in
theorem t_X9_wed_L37 {V : eV} (b1 : Int32) {r : Option Value} {h' : aH} : ∀ (n : Nat) (b2 : Int32) (b3 : Int32) (b4 : Int32) (m : mM) (o : Int32 × mM), f_X9_wed_L37 b1 n b2 b3 b4 m = some o → gG V k_X9_wed 103 [(2, .int o.1)] [] (hS o.2) r h' → gG V k_X9_wed 37 [(0, .ref (vB V + 187)), (1, .int b1), (2, .int b2), (3, .int b3), (4, .int b4)] [] (hS m) r h' := by
  intro n
  induction n with
  | zero => intro b2 b3 b4 m o hf; cases hf
  | succ n ih =>
    intro b2 b3 b4 m o hf hk
    rw [f_X9_wed_L37] at hf
    refine g_iload 4 dX9_wed_37 rfl ?_
    refine g_aload_n 0 dX9_wed_39 rfl rfl ?_
    refine gf_930 dX9_wed_40 rfl ob_187 rfl ?_
    refine g_iconst (v := 0) dX9_wed_43 rfl ?_
    obtain ⟨v9, e10, hf⟩ := bnd_some hf
    refine p_iald dX9_wed_44 at_189 e10 ?_
    refine g_icmp_ge (tgt := 103) dX9_wed_45 (by decide) (fun c19 => ?_) (fun c19 => ?_)
    · replace hf := (if_pos c19).symm.trans hf
      cases hf
      refine g_sub [2] rfl ?_
      exact hk
    · replace hf := (if_neg c19).symm.trans hf
      refine g_iload 4 dX9_wed_48 rfl ?_
      refine g_iload_n 1 dX9_wed_50 rfl rfl ?_
      refine g_icmp_ne (tgt := 57) dX9_wed_51 (by decide) (fun c18 => ?_) (fun c18 => ?_)
      · replace hf := (if_neg c18).symm.trans hf
        refine g_aload_n 0 dX9_wed_57 rfl rfl ?_
        refine g_iload_n 1 dX9_wed_58 rfl rfl ?_
        refine g_iload 4 dX9_wed_59 rfl ?_
        obtain ⟨q11, e12, hf⟩ := bnd_some hf
        refine p_callVv (As := [.int b1, .int b4]) (rest := []) (t_X9_weds e12) cw_1230 w_1232 w_52 ob_187 rfl (Nat.le_of_ble_eq_true rfl) rfl rfl (Nat.le_of_ble_eq_true rfl) dX9_wed_61 ?_
        refine g_aload_n 0 dX9_wed_64 rfl rfl ?_
        refine g_iload_n 1 dX9_wed_65 rfl rfl ?_
        obtain ⟨q13, e14, hf⟩ := bnd_some hf
        refine p_callV (As := [.int b1]) (rest := []) (t_X9_costsOf e14) cw_1226 w_1228 w_51 ob_187 rfl (Nat.le_of_ble_eq_true rfl) rfl rfl (Nat.le_of_ble_eq_true rfl) dX9_wed_66 ?_
        refine g_istore dX9_wed_69 (Nat.le_of_ble_eq_true rfl) rfl ?_
        refine g_aload_n 1 dX9_wed_71 rfl rfl ?_
        refine gf_933 dX9_wed_72 rfl ob_187 rfl ?_
        refine g_aload_n 1 dX9_wed_75 rfl rfl ?_
        refine gf_930 dX9_wed_76 rfl ob_187 rfl ?_
        obtain ⟨q15, e16, hf⟩ := bnd_some hf
        refine p_callSv (As := [.ref (vB V + 192), .ref (vB V + 189)]) (rest := []) (t_X9_copies_192_189 e16) cw_1032 w_1033 (Nat.le_of_ble_eq_true rfl) rfl rfl (Nat.le_of_ble_eq_true rfl) dX9_wed_79 ?_
        refine g_iload 0 dX9_wed_82 rfl ?_
        refine g_iload_n 4 dX9_wed_84 rfl rfl ?_
        refine g_icmp_lt (tgt := 91) dX9_wed_85 (by decide) (fun c17 => ?_) (fun c17 => ?_)
        · replace hf := (if_pos c17).symm.trans hf
          refine g_iload 5 dX9_wed_91 rfl ?_
          refine g_istore_n dX9_wed_93 rfl (Nat.le_of_ble_eq_true rfl) rfl ?_
          refine g_iload 1 dX9_wed_94 rfl ?_
          refine g_istore_n dX9_wed_96 rfl (Nat.le_of_ble_eq_true rfl) rfl ?_
          refine g_iinc (q := 5) (v := (b4 + (1 : Int32))) dX9_wed_97 rfl rfl (Nat.le_of_ble_eq_true rfl) rfl ?_
          refine g_goto (tgt := 37) dX9_wed_100 (by decide) ?_
          refine g_sub [4, 5, 2, 1, 0] rfl ?_
          exact ih b4 q13.1 (b4 + (1 : Int32)) q15 _ hf hk
        · replace hf := (if_neg c17).symm.trans hf
          refine g_goto (tgt := 97) dX9_wed_88 (by decide) ?_
          refine g_iinc (q := 5) (v := (b4 + (1 : Int32))) dX9_wed_97 rfl rfl (Nat.le_of_ble_eq_true rfl) rfl ?_
          refine g_goto (tgt := 37) dX9_wed_100 (by decide) ?_
          refine g_sub [2, 3, 4, 5, 0] rfl ?_
          exact ih b2 b3 (b4 + (1 : Int32)) q15 _ hf hk
      · replace hf := (if_pos c18).symm.trans hf
        refine g_goto (tgt := 97) dX9_wed_54 (by decide) ?_
        refine g_iinc (q := 4) (v := (b4 + (1 : Int32))) dX9_wed_97 rfl rfl (Nat.le_of_ble_eq_true rfl) rfl ?_
        refine g_goto (tgt := 37) dX9_wed_100 (by decide) ?_
        refine g_sub [1, 2, 3, 4, 0] rfl ?_
        exact ih b2 b3 (b4 + (1 : Int32)) m _ hf hk

set_option maxRecDepth 100000 in
theorem t_X9_wed {V : eV} {a1 : Int32}  {m : mM} {q : Int32 × mM} (hf : f_X9_wed a1 m = some q) : eE V 8 yX9_wed cX9_wed 6 (some .int) [.ref (vB V + 187), .int a1] (hS m) (some (.int q.1)) (hS q.2) := by
  refine eE_of (by decide) (Nat.le_of_ble_eq_true rfl) ?_
  show gG V k_X9_wed 0 [(0, .ref (vB V + 187)), (1, .int a1)] [] (hS m) _ _
  unfold f_X9_wed at hf
  refine g_aload_n 0 dX9_wed_0 rfl rfl ?_
  refine g_iload_n 1 dX9_wed_1 rfl rfl ?_
  obtain ⟨q1, e2, hf⟩ := bnd_some hf
  refine p_callV (As := [.int a1]) (rest := []) (t_X9_isHolder e2) cw_1053 w_1055 w_30 ob_187 rfl (Nat.le_of_ble_eq_true rfl) rfl rfl (Nat.le_of_ble_eq_true rfl) dX9_wed_2 ?_
  refine g_if_ne (tgt := 14) dX9_wed_5 (by decide) (fun c22 => ?_) (fun c22 => ?_)
  · replace hf := (if_neg c22).symm.trans hf
    refine g_bipush (v := -9) dX9_wed_14 rfl ?_
    refine g_istore_n dX9_wed_16 rfl (Nat.le_of_ble_eq_true rfl) rfl ?_
    refine g_aload_n 1 dX9_wed_17 rfl rfl ?_
    refine g_iload_n 2 dX9_wed_18 rfl rfl ?_
    obtain ⟨q5, e6, hf⟩ := bnd_some hf
    refine p_callV (As := [.int a1]) (rest := []) (t_X9_costsOf e6) cw_1226 w_1228 w_51 ob_187 rfl (Nat.le_of_ble_eq_true rfl) rfl rfl (Nat.le_of_ble_eq_true rfl) dX9_wed_19 ?_
    refine g_istore_n dX9_wed_22 rfl (Nat.le_of_ble_eq_true rfl) rfl ?_
    refine g_aload_n 2 dX9_wed_23 rfl rfl ?_
    refine gf_930 dX9_wed_24 rfl ob_187 rfl ?_
    refine g_aload_n 2 dX9_wed_27 rfl rfl ?_
    refine gf_933 dX9_wed_28 rfl ob_187 rfl ?_
    obtain ⟨q7, e8, hf⟩ := bnd_some hf
    refine p_callSv (As := [.ref (vB V + 189), .ref (vB V + 192)]) (rest := []) (t_X9_copies_189_192 e8) cw_1032 w_1033 (Nat.le_of_ble_eq_true rfl) rfl rfl (Nat.le_of_ble_eq_true rfl) dX9_wed_31 ?_
    refine g_iconst (v := 0) dX9_wed_34 rfl ?_
    refine g_istore dX9_wed_35 (Nat.le_of_ble_eq_true rfl) rfl ?_
    refine g_sub [3, 4, 2, 1, 0] rfl ?_
    obtain ⟨o20, e21, hf⟩ := bnd_some hf
    refine t_X9_wed_L37 (V := V) a1 fU (-9 : Int32) q5.1 (0 : Int32) q7 _ e21 ?_
    refine g_iload_n 0 dX9_wed_103 rfl rfl ?_
    cases hf
    exact g_iret dX9_wed_104 .int rfl rfl
  · replace hf := (if_pos c22).symm.trans hf
    refine g_aload_n 0 dX9_wed_8 rfl rfl ?_
    refine g_iconst (v := -1) dX9_wed_9 rfl ?_
    obtain ⟨q3, e4, hf⟩ := bnd_some hf
    refine p_callV (As := [.int (-1 : Int32)]) (rest := []) (t_X9_refuse e4) cw_1000 w_1002 w_22 ob_187 rfl (Nat.le_of_ble_eq_true rfl) rfl rfl (Nat.le_of_ble_eq_true rfl) dX9_wed_10 ?_
    cases hf
    exact g_iret dX9_wed_13 .int rfl rfl

abbrev k_X9_marry : kX := (cX9_marry, "WhoseHourItIsModel", "marry", some .int, 3, 2)
def f_X9_marry (a1 : Int32) (a2 : Int32) (m : mM) : Option (Int32 × mM) :=
bnd (f_X9_isHolder a1 m) fun q1 =>
if q1 = 0 then (
bnd (f_X9_refuse (-1 : Int32) m) fun q3 =>
some (q3.1, q3.2))
else (
bnd (f_X9_isHolder a2 m) fun q5 =>
if q5 = 0 then (
bnd (f_X9_refuse (-1 : Int32) m) fun q7 =>
some (q7.1, q7.2))
else (
if a1 = a2 then (
bnd (f_X9_refuse (-1 : Int32) m) fun q9 =>
some (q9.1, q9.2))
else (
bnd (f_X9_weds a1 a2 m) fun q11 =>
some ((1 : Int32), q11))))
set_option maxRecDepth 100000 in
theorem t_X9_marry {V : eV} {a1 : Int32} {a2 : Int32}  {m : mM} {q : Int32 × mM} (hf : f_X9_marry a1 a2 m = some q) : eE V 2 yX9_marry cX9_marry 3 (some .int) [.ref (vB V + 187), .int a1, .int a2] (hS m) (some (.int q.1)) (hS q.2) := by
  refine eE_of (by decide) (Nat.le_of_ble_eq_true rfl) ?_
  show gG V k_X9_marry 0 [(0, .ref (vB V + 187)), (1, .int a1), (2, .int a2)] [] (hS m) _ _
  unfold f_X9_marry at hf
  refine g_aload_n 0 dX9_marry_0 rfl rfl ?_
  refine g_iload_n 1 dX9_marry_1 rfl rfl ?_
  obtain ⟨q1, e2, hf⟩ := bnd_some hf
  refine p_callV (As := [.int a1]) (rest := []) (t_X9_isHolder e2) cw_1053 w_1055 w_30 ob_187 rfl (Nat.le_of_ble_eq_true rfl) rfl rfl (Nat.le_of_ble_eq_true rfl) dX9_marry_2 ?_
  refine g_if_eq (tgt := 21) dX9_marry_5 (by decide) (fun c15 => ?_) (fun c15 => ?_)
  · replace hf := (if_pos c15).symm.trans hf
    refine g_aload_n 0 dX9_marry_21 rfl rfl ?_
    refine g_iconst (v := -1) dX9_marry_22 rfl ?_
    obtain ⟨q3, e4, hf⟩ := bnd_some hf
    refine p_callV (As := [.int (-1 : Int32)]) (rest := []) (t_X9_refuse e4) cw_1000 w_1002 w_22 ob_187 rfl (Nat.le_of_ble_eq_true rfl) rfl rfl (Nat.le_of_ble_eq_true rfl) dX9_marry_23 ?_
    cases hf
    exact g_iret dX9_marry_26 .int rfl rfl
  · replace hf := (if_neg c15).symm.trans hf
    refine g_aload_n 0 dX9_marry_8 rfl rfl ?_
    refine g_iload_n 2 dX9_marry_9 rfl rfl ?_
    obtain ⟨q5, e6, hf⟩ := bnd_some hf
    refine p_callV (As := [.int a2]) (rest := []) (t_X9_isHolder e6) cw_1053 w_1055 w_30 ob_187 rfl (Nat.le_of_ble_eq_true rfl) rfl rfl (Nat.le_of_ble_eq_true rfl) dX9_marry_10 ?_
    refine g_if_eq (tgt := 21) dX9_marry_13 (by decide) (fun c14 => ?_) (fun c14 => ?_)
    · replace hf := (if_pos c14).symm.trans hf
      refine g_aload_n 0 dX9_marry_21 rfl rfl ?_
      refine g_iconst (v := -1) dX9_marry_22 rfl ?_
      obtain ⟨q7, e8, hf⟩ := bnd_some hf
      refine p_callV (As := [.int (-1 : Int32)]) (rest := []) (t_X9_refuse e8) cw_1000 w_1002 w_22 ob_187 rfl (Nat.le_of_ble_eq_true rfl) rfl rfl (Nat.le_of_ble_eq_true rfl) dX9_marry_23 ?_
      cases hf
      exact g_iret dX9_marry_26 .int rfl rfl
    · replace hf := (if_neg c14).symm.trans hf
      refine g_iload_n 1 dX9_marry_16 rfl rfl ?_
      refine g_iload_n 2 dX9_marry_17 rfl rfl ?_
      refine g_icmp_ne (tgt := 27) dX9_marry_18 (by decide) (fun c13 => ?_) (fun c13 => ?_)
      · replace hf := (if_neg c13).symm.trans hf
        refine g_aload_n 0 dX9_marry_27 rfl rfl ?_
        refine g_iload_n 1 dX9_marry_28 rfl rfl ?_
        refine g_iload_n 2 dX9_marry_29 rfl rfl ?_
        obtain ⟨q11, e12, hf⟩ := bnd_some hf
        refine p_callVv (As := [.int a1, .int a2]) (rest := []) (t_X9_weds e12) cw_1230 w_1232 w_52 ob_187 rfl (Nat.le_of_ble_eq_true rfl) rfl rfl (Nat.le_of_ble_eq_true rfl) dX9_marry_30 ?_
        refine g_iconst (v := 1) dX9_marry_33 rfl ?_
        cases hf
        exact g_iret dX9_marry_34 .int rfl rfl
      · replace hf := (if_pos c13).symm.trans hf
        refine g_aload_n 0 dX9_marry_21 rfl rfl ?_
        refine g_iconst (v := -1) dX9_marry_22 rfl ?_
        obtain ⟨q9, e10, hf⟩ := bnd_some hf
        refine p_callV (As := [.int (-1 : Int32)]) (rest := []) (t_X9_refuse e10) cw_1000 w_1002 w_22 ob_187 rfl (Nat.le_of_ble_eq_true rfl) rfl rfl (Nat.le_of_ble_eq_true rfl) dX9_marry_23 ?_
        cases hf
        exact g_iret dX9_marry_26 .int rfl rfl

abbrev k_X9_wedTo : kX := (cX9_wedTo, "WhoseHourItIsModel", "wedTo", some .int, 2, 2)
def f_X9_wedTo (a1 : Int32) (m : mM) : Option (Int32 × mM) :=
bnd (f_X9_isHolder a1 m) fun q1 =>
if q1 = 0 then (
bnd (f_X9_refuse (-1 : Int32) m) fun q3 =>
some (q3.1, q3.2))
else (
bnd (f_X9_get a1 (3 : Int32) m) fun q5 =>
some (q5, m))
set_option maxRecDepth 100000 in
theorem t_X9_wedTo {V : eV} {a1 : Int32}  {m : mM} {q : Int32 × mM} (hf : f_X9_wedTo a1 m = some q) : eE V 2 yX9_wedTo cX9_wedTo 2 (some .int) [.ref (vB V + 187), .int a1] (hS m) (some (.int q.1)) (hS q.2) := by
  refine eE_of (by decide) (Nat.le_of_ble_eq_true rfl) ?_
  show gG V k_X9_wedTo 0 [(0, .ref (vB V + 187)), (1, .int a1)] [] (hS m) _ _
  unfold f_X9_wedTo at hf
  refine g_aload_n 0 dX9_wedTo_0 rfl rfl ?_
  refine g_iload_n 1 dX9_wedTo_1 rfl rfl ?_
  obtain ⟨q1, e2, hf⟩ := bnd_some hf
  refine p_callV (As := [.int a1]) (rest := []) (t_X9_isHolder e2) cw_1053 w_1055 w_30 ob_187 rfl (Nat.le_of_ble_eq_true rfl) rfl rfl (Nat.le_of_ble_eq_true rfl) dX9_wedTo_2 ?_
  refine g_if_eq (tgt := 17) dX9_wedTo_5 (by decide) (fun c7 => ?_) (fun c7 => ?_)
  · replace hf := (if_pos c7).symm.trans hf
    refine g_aload_n 0 dX9_wedTo_17 rfl rfl ?_
    refine g_iconst (v := -1) dX9_wedTo_18 rfl ?_
    obtain ⟨q3, e4, hf⟩ := bnd_some hf
    refine p_callV (As := [.int (-1 : Int32)]) (rest := []) (t_X9_refuse e4) cw_1000 w_1002 w_22 ob_187 rfl (Nat.le_of_ble_eq_true rfl) rfl rfl (Nat.le_of_ble_eq_true rfl) dX9_wedTo_19 ?_
    cases hf
    exact g_iret dX9_wedTo_22 .int rfl rfl
  · replace hf := (if_neg c7).symm.trans hf
    refine g_aload_n 0 dX9_wedTo_8 rfl rfl ?_
    refine g_iload_n 1 dX9_wedTo_9 rfl rfl ?_
    refine g_iconst (v := 3) dX9_wedTo_10 rfl ?_
    obtain ⟨q5, e6, hf⟩ := bnd_some hf
    refine p_callV (As := [.int a1, .int (3 : Int32)]) (rest := []) (t_X9_get e6) cw_1060 w_1062 w_31 ob_187 rfl (Nat.le_of_ble_eq_true rfl) rfl rfl (Nat.le_of_ble_eq_true rfl) dX9_wedTo_11 ?_
    refine g_goto (tgt := 22) dX9_wedTo_14 (by decide) ?_
    cases hf
    exact g_iret dX9_wedTo_22 .int rfl rfl

abbrev k_X9_heirs : kX := (cX9_heirs, "WhoseHourItIsModel", "heirs", some .int, 5, 2)
def f_X9_heirs_L33 (b1 : Int32) (b2 : Int32) (m : mM) : Nat → Int32 → Option ((Int32 × mM) ⊕ (Unit))
  | 0, _ => none
  | n + 1, b4 =>
      if (20 : Int32) < b4 then (
      some (.inr ()))
      else (
      bnd (rdA 189 189 ((9 : Int32) + ((4 : Int32) * b1)) m) fun v3 =>
      if (v3 <<< (b4 &&& 31)) ≤ b2 then (
      f_X9_heirs_L33 b1 b2 m n (b4 + (1 : Int32)))
      else (
      some (.inl (b4, m))))
def f_X9_heirs_J19 (b1 : Int32) (b2 : Int32) (s0 : Int32) (m : mM) : Option (Int32 × mM) :=
if s0 = 0 then (
bnd (f_X9_heirs_L33 b1 b2 m fU (0 : Int32)) fun o7 =>
ora o7 (fun zq => some zq) fun x8 =>
some ((-9 : Int32), m))
else (
bnd (f_X9_refuse s0 m) fun q10 =>
some (q10.1, q10.2))
def f_X9_heirs (a1 : Int32) (a2 : Int32) (m : mM) : Option (Int32 × mM) :=
bnd (f_X9_isHour a1 m) fun q1 =>
if q1 = 0 then (
f_X9_heirs_J19 a1 a2 (-1 : Int32) m)
else (
bnd (f_X9_within a2 (0 : Int32) (9999 : Int32) m) fun q13 =>
f_X9_heirs_J19 a1 a2 q13 m)
set_option maxRecDepth 100000 in
theorem t_X9_heirs_L33 {V : eV} (b1 : Int32) (b2 : Int32) (m : mM) {r : Option Value} {h' : aH} : ∀ (n : Nat) (b4 : Int32) (o : (Int32 × mM) ⊕ (Unit)), f_X9_heirs_L33 b1 b2 m n b4 = some o → lxI hS o r h' (fun x => gG V k_X9_heirs 67 [] [] (hS m) r h') → gG V k_X9_heirs 33 [(0, .ref (vB V + 187)), (1, .int b1), (2, .int b2), (4, .int b4)] [] (hS m) r h' := by
  intro n
  induction n with
  | zero => intro b4 o hf; cases hf
  | succ n ih =>
    intro b4 o hf hk
    rw [f_X9_heirs_L33] at hf
    refine g_iload 3 dX9_heirs_33 rfl ?_
    refine g_bipush (v := 20) dX9_heirs_35 rfl ?_
    refine g_icmp_gt (tgt := 67) dX9_heirs_37 (by decide) (fun c6 => ?_) (fun c6 => ?_)
    · replace hf := (if_pos c6).symm.trans hf
      cases hf
      refine g_sub [] rfl ?_
      exact hk
    · replace hf := (if_neg c6).symm.trans hf
      refine g_aload_n 0 dX9_heirs_40 rfl rfl ?_
      refine gf_930 dX9_heirs_41 rfl ob_187 rfl ?_
      refine g_bipush (v := 9) dX9_heirs_44 rfl ?_
      refine g_iconst (v := 4) dX9_heirs_46 rfl ?_
      refine g_iload_n 1 dX9_heirs_47 rfl rfl ?_
      refine g_imul dX9_heirs_48 ?_
      refine g_iadd dX9_heirs_49 ?_
      obtain ⟨v3, e4, hf⟩ := bnd_some hf
      refine p_iald dX9_heirs_50 at_189 e4 ?_
      refine g_iload 3 dX9_heirs_51 rfl ?_
      refine g_ishl dX9_heirs_53 ?_
      refine g_iload_n 2 dX9_heirs_54 rfl rfl ?_
      refine g_icmp_le (tgt := 61) dX9_heirs_55 (by decide) (fun c5 => ?_) (fun c5 => ?_)
      · replace hf := (if_pos c5).symm.trans hf
        refine g_iinc (q := 3) (v := (b4 + (1 : Int32))) dX9_heirs_61 rfl rfl (Nat.le_of_ble_eq_true rfl) rfl ?_
        refine g_goto (tgt := 33) dX9_heirs_64 (by decide) ?_
        refine g_sub [1, 2, 3, 0] rfl ?_
        exact ih (b4 + (1 : Int32)) _ hf hk
      · replace hf := (if_neg c5).symm.trans hf
        refine g_iload 3 dX9_heirs_58 rfl ?_
        cases hf
        obtain ⟨rfl, rfl⟩ := hk
        exact g_iret dX9_heirs_60 .int rfl rfl

set_option maxRecDepth 100000 in
theorem t_X9_heirs_J19 {V : eV} {b1 : Int32} {b2 : Int32} {s0 : Int32} {m : mM} {q : Int32 × mM} (hf : f_X9_heirs_J19 b1 b2 s0 m = some q) : gG V k_X9_heirs 19 [(0, .ref (vB V + 187)), (1, .int b1), (2, .int b2)] [.int s0] (hS m) (some (.int q.1)) (hS q.2) := by
  unfold f_X9_heirs_J19 at hf
  refine g_istore_n dX9_heirs_19 rfl (Nat.le_of_ble_eq_true rfl) rfl ?_
  refine g_iload_n 0 dX9_heirs_20 rfl rfl ?_
  refine g_if_eq (tgt := 30) dX9_heirs_21 (by decide) (fun c12 => ?_) (fun c12 => ?_)
  · replace hf := (if_pos c12).symm.trans hf
    refine g_iconst (v := 0) dX9_heirs_30 rfl ?_
    refine g_istore dX9_heirs_31 (Nat.le_of_ble_eq_true rfl) rfl ?_
    refine g_sub [2, 3, 4, 0] rfl ?_
    obtain ⟨o7, e9, hf⟩ := bnd_some hf
    refine t_X9_heirs_L33 (V := V) b1 b2 m fU (0 : Int32) _ e9 ?_
    rcases o7 with zq | x8
    · replace hf := ora_l hf
      cases hf
      exact ⟨rfl, rfl⟩
    · replace hf := ora_r hf
      show gG V _ _ _ _ _ _ _
      refine g_bipush (v := -9) dX9_heirs_67 rfl ?_
      cases hf
      exact g_iret dX9_heirs_69 .int rfl rfl
  · replace hf := (if_neg c12).symm.trans hf
    refine g_aload_n 1 dX9_heirs_24 rfl rfl ?_
    refine g_iload_n 0 dX9_heirs_25 rfl rfl ?_
    obtain ⟨q10, e11, hf⟩ := bnd_some hf
    refine p_callV (As := [.int s0]) (rest := []) (t_X9_refuse e11) cw_1000 w_1002 w_22 ob_187 rfl (Nat.le_of_ble_eq_true rfl) rfl rfl (Nat.le_of_ble_eq_true rfl) dX9_heirs_26 ?_
    cases hf
    exact g_iret dX9_heirs_29 .int rfl rfl

set_option maxRecDepth 100000 in
theorem t_X9_heirs {V : eV} {a1 : Int32} {a2 : Int32}  {m : mM} {q : Int32 × mM} (hf : f_X9_heirs a1 a2 m = some q) : eE V 2 yX9_heirs cX9_heirs 5 (some .int) [.ref (vB V + 187), .int a1, .int a2] (hS m) (some (.int q.1)) (hS q.2) := by
  refine eE_of (by decide) (Nat.le_of_ble_eq_true rfl) ?_
  show gG V k_X9_heirs 0 [(0, .ref (vB V + 187)), (1, .int a1), (2, .int a2)] [] (hS m) _ _
  unfold f_X9_heirs at hf
  refine g_iload_n 1 dX9_heirs_0 rfl rfl ?_
  obtain ⟨q1, e2, hf⟩ := bnd_some hf
  refine p_callS (As := [.int a1]) (rest := []) (t_X9_isHour e2) cw_1113 w_1114 (Nat.le_of_ble_eq_true rfl) rfl rfl (Nat.le_of_ble_eq_true rfl) dX9_heirs_1 ?_
  refine g_if_eq (tgt := 18) dX9_heirs_4 (by decide) (fun c15 => ?_) (fun c15 => ?_)
  · replace hf := (if_pos c15).symm.trans hf
    refine g_iconst (v := -1) dX9_heirs_18 rfl ?_
    refine g_sub [0, 1, 2] rfl ?_
    exact t_X9_heirs_J19 hf
  · replace hf := (if_neg c15).symm.trans hf
    refine g_iload_n 2 dX9_heirs_7 rfl rfl ?_
    refine g_iconst (v := 0) dX9_heirs_8 rfl ?_
    refine g_sipush (v := 9999) dX9_heirs_9 rfl ?_
    obtain ⟨q13, e14, hf⟩ := bnd_some hf
    refine p_callS (As := [.int a2, .int (0 : Int32), .int (9999 : Int32)]) (rest := []) (t_X9_within e14) cw_1128 w_1129 (Nat.le_of_ble_eq_true rfl) rfl rfl (Nat.le_of_ble_eq_true rfl) dX9_heirs_12 ?_
    refine g_goto (tgt := 19) dX9_heirs_15 (by decide) ?_
    refine g_sub [0, 1, 2] rfl ?_
    exact t_X9_heirs_J19 hf

abbrev k_X9_adds_189 : kX := (cX9_adds, "WhoseHourItIsModel", "adds", none, 4, 0)
def f_X9_adds_189 (a1 : Int32) (a2 : Int32) (m : mM) : Option (mM) :=
bnd (rdA 189 189 ((9 : Int32) + ((4 : Int32) * a1)) m) fun v1 =>
bnd (wrA 189 189 ((((9 : Int32) + ((4 : Int32) * a1)) + (1 : Int32)) + v1) a2 m) fun m3 =>
bnd (rdA 189 189 ((9 : Int32) + ((4 : Int32) * a1)) m3) fun v5 =>
bnd (wrA 189 189 ((9 : Int32) + ((4 : Int32) * a1)) (v5 + (1 : Int32)) m3) fun m7 =>
some m7
set_option maxRecDepth 100000 in
theorem t_X9_adds_189 {V : eV} {a1 : Int32} {a2 : Int32}  {m : mM} {q : mM} (hf : f_X9_adds_189 a1 a2 m = some q) : eE V 0 yX9_adds cX9_adds 4 (none) [.ref (vB V + 189), .int a1, .int a2] (hS m) none (hS q) := by
  refine eE_of (by decide) (Nat.le_of_ble_eq_true rfl) ?_
  show gG V k_X9_adds_189 0 [(0, .ref (vB V + 189)), (1, .int a1), (2, .int a2)] [] (hS m) _ _
  unfold f_X9_adds_189 at hf
  refine g_bipush (v := 9) dX9_adds_0 rfl ?_
  refine g_iconst (v := 4) dX9_adds_2 rfl ?_
  refine g_iload_n 1 dX9_adds_3 rfl rfl ?_
  refine g_imul dX9_adds_4 ?_
  refine g_iadd dX9_adds_5 ?_
  refine g_istore_n dX9_adds_6 rfl (Nat.le_of_ble_eq_true rfl) rfl ?_
  refine g_aload_n 1 dX9_adds_7 rfl rfl ?_
  refine g_iload_n 0 dX9_adds_8 rfl rfl ?_
  refine g_iconst (v := 1) dX9_adds_9 rfl ?_
  refine g_iadd dX9_adds_10 ?_
  refine g_aload_n 1 dX9_adds_11 rfl rfl ?_
  refine g_iload_n 0 dX9_adds_12 rfl rfl ?_
  obtain ⟨v1, e2, hf⟩ := bnd_some hf
  refine p_iald dX9_adds_13 at_189 e2 ?_
  refine g_iadd dX9_adds_14 ?_
  refine g_iload_n 3 dX9_adds_15 rfl rfl ?_
  obtain ⟨m3, e4, hf⟩ := bnd_some hf
  refine p_iast dX9_adds_16 at_189 e4 ?_
  refine g_aload_n 1 dX9_adds_17 rfl rfl ?_
  refine g_iload_n 0 dX9_adds_18 rfl rfl ?_
  refine g_dup2 dX9_adds_19 rfl rfl ?_
  obtain ⟨v5, e6, hf⟩ := bnd_some hf
  refine p_iald dX9_adds_20 at_189 e6 ?_
  refine g_iconst (v := 1) dX9_adds_21 rfl ?_
  refine g_iadd dX9_adds_22 ?_
  obtain ⟨m7, e8, hf⟩ := bnd_some hf
  refine p_iast dX9_adds_23 at_189 e8 ?_
  cases hf
  exact g_vret dX9_adds_24 rfl

abbrev k_X9_netsBy : kX := (cX9_netsBy, "WhoseHourItIsModel", "netsBy", some .int, 5, 8)
def f_X9_netsBy_L4 (b1 : Int32) : Nat → Int32 → Int32 → mM → Option (Int32 × mM)
  | 0, _, _, _ => none
  | n + 1, b2, b3, m =>
      bnd (rdA 189 189 (1 : Int32) m) fun v1 =>
      if v1 ≤ b3 then (
      some (b2, m))
      else (
      bnd (f_X9_of b3 (4 : Int32) m) fun q3 =>
      bnd (f_X9_netBy b3 ((q3 * b1) / (100 : Int32)) m) fun q5 =>
      if 0 ≤ q5.1 then (
      f_X9_netsBy_L4 b1 n (b2 + q5.1) (b3 + (1 : Int32)) q5.2)
      else (
      f_X9_netsBy_L4 b1 n (b2 + (0 : Int32)) (b3 + (1 : Int32)) q5.2))
def f_X9_netsBy (a1 : Int32) (m : mM) : Option (Int32 × mM) :=
bnd (f_X9_netsBy_L4 a1 fU (0 : Int32) (0 : Int32) m) fun o9 =>
some (o9.1, o9.2)
set_option maxRecDepth 100000 in
theorem t_X9_netsBy_L4 {V : eV} (b1 : Int32) {r : Option Value} {h' : aH} : ∀ (n : Nat) (b2 : Int32) (b3 : Int32) (m : mM) (o : Int32 × mM), f_X9_netsBy_L4 b1 n b2 b3 m = some o → gG V k_X9_netsBy 52 [(2, .int o.1)] [] (hS o.2) r h' → gG V k_X9_netsBy 4 [(0, .ref (vB V + 187)), (1, .int b1), (2, .int b2), (3, .int b3)] [] (hS m) r h' := by
  intro n
  induction n with
  | zero => intro b2 b3 m o hf; cases hf
  | succ n ih =>
    intro b2 b3 m o hf hk
    rw [f_X9_netsBy_L4] at hf
    refine g_iload_n 3 dX9_netsBy_4 rfl rfl ?_
    refine g_aload_n 0 dX9_netsBy_5 rfl rfl ?_
    refine gf_930 dX9_netsBy_6 rfl ob_187 rfl ?_
    refine g_iconst (v := 1) dX9_netsBy_9 rfl ?_
    obtain ⟨v1, e2, hf⟩ := bnd_some hf
    refine p_iald dX9_netsBy_10 at_189 e2 ?_
    refine g_icmp_ge (tgt := 52) dX9_netsBy_11 (by decide) (fun c8 => ?_) (fun c8 => ?_)
    · replace hf := (if_pos c8).symm.trans hf
      cases hf
      refine g_sub [2] rfl ?_
      exact hk
    · replace hf := (if_neg c8).symm.trans hf
      refine g_aload_n 0 dX9_netsBy_14 rfl rfl ?_
      refine g_iload_n 3 dX9_netsBy_15 rfl rfl ?_
      refine g_aload_n 0 dX9_netsBy_16 rfl rfl ?_
      refine g_iload_n 3 dX9_netsBy_17 rfl rfl ?_
      refine g_iconst (v := 4) dX9_netsBy_18 rfl ?_
      obtain ⟨q3, e4, hf⟩ := bnd_some hf
      refine p_callV (As := [.int b3, .int (4 : Int32)]) (rest := [.int b3, .ref (vB V + 187)]) (t_X9_of e4) cw_1072 w_1074 w_34 ob_187 rfl (Nat.le_of_ble_eq_true rfl) rfl rfl (Nat.le_of_ble_eq_true rfl) dX9_netsBy_19 ?_
      refine g_iload_n 1 dX9_netsBy_22 rfl rfl ?_
      refine g_imul dX9_netsBy_23 ?_
      refine g_bipush (v := 100) dX9_netsBy_24 rfl ?_
      refine g_idiv dX9_netsBy_26 (by decide) ?_
      obtain ⟨q5, e6, hf⟩ := bnd_some hf
      refine p_callV (As := [.int b3, .int ((q3 * b1) / (100 : Int32))]) (rest := []) (t_X9_netBy e6) cw_1076 w_1078 w_35 ob_187 rfl (Nat.le_of_ble_eq_true rfl) rfl rfl (Nat.le_of_ble_eq_true rfl) dX9_netsBy_27 ?_
      refine g_istore dX9_netsBy_30 (Nat.le_of_ble_eq_true rfl) rfl ?_
      refine g_iload_n 3 dX9_netsBy_32 rfl rfl ?_
      refine g_iload 0 dX9_netsBy_33 rfl ?_
      refine g_if_ge (tgt := 42) dX9_netsBy_35 (by decide) (fun c7 => ?_) (fun c7 => ?_)
      · replace hf := (if_pos c7).symm.trans hf
        refine g_iload 0 dX9_netsBy_42 rfl ?_
        refine g_iadd dX9_netsBy_44 ?_
        refine g_istore_n dX9_netsBy_45 rfl (Nat.le_of_ble_eq_true rfl) rfl ?_
        refine g_iinc (q := 4) (v := (b3 + (1 : Int32))) dX9_netsBy_46 rfl rfl (Nat.le_of_ble_eq_true rfl) rfl ?_
        refine g_goto (tgt := 4) dX9_netsBy_49 (by decide) ?_
        refine g_sub [3, 4, 1, 0] rfl ?_
        exact ih (b2 + q5.1) (b3 + (1 : Int32)) q5.2 _ hf hk
      · replace hf := (if_neg c7).symm.trans hf
        refine g_iconst (v := 0) dX9_netsBy_38 rfl ?_
        refine g_goto (tgt := 44) dX9_netsBy_39 (by decide) ?_
        refine g_iadd dX9_netsBy_44 ?_
        refine g_istore_n dX9_netsBy_45 rfl (Nat.le_of_ble_eq_true rfl) rfl ?_
        refine g_iinc (q := 4) (v := (b3 + (1 : Int32))) dX9_netsBy_46 rfl rfl (Nat.le_of_ble_eq_true rfl) rfl ?_
        refine g_goto (tgt := 4) dX9_netsBy_49 (by decide) ?_
        refine g_sub [3, 4, 1, 0] rfl ?_
        exact ih (b2 + (0 : Int32)) (b3 + (1 : Int32)) q5.2 _ hf hk

set_option maxRecDepth 100000 in
theorem t_X9_netsBy {V : eV} {a1 : Int32}  {m : mM} {q : Int32 × mM} (hf : f_X9_netsBy a1 m = some q) : eE V 8 yX9_netsBy cX9_netsBy 5 (some .int) [.ref (vB V + 187), .int a1] (hS m) (some (.int q.1)) (hS q.2) := by
  refine eE_of (by decide) (Nat.le_of_ble_eq_true rfl) ?_
  show gG V k_X9_netsBy 0 [(0, .ref (vB V + 187)), (1, .int a1)] [] (hS m) _ _
  unfold f_X9_netsBy at hf
  refine g_iconst (v := 0) dX9_netsBy_0 rfl ?_
  refine g_istore_n dX9_netsBy_1 rfl (Nat.le_of_ble_eq_true rfl) rfl ?_
  refine g_iconst (v := 0) dX9_netsBy_2 rfl ?_
  refine g_istore_n dX9_netsBy_3 rfl (Nat.le_of_ble_eq_true rfl) rfl ?_
  refine g_sub [2, 3, 1, 0] rfl ?_
  obtain ⟨o9, e10, hf⟩ := bnd_some hf
  refine t_X9_netsBy_L4 (V := V) a1 fU (0 : Int32) (0 : Int32) m _ e10 ?_
  refine g_iload_n 0 dX9_netsBy_52 rfl rfl ?_
  cases hf
  exact g_iret dX9_netsBy_53 .int rfl rfl

abbrev k_X9_give : kX := (cX9_give, "WhoseHourItIsModel", "give", some .int, 5, 9)
def f_X9_give_L31 (b1 : Int32) (b2 : Int32) (b3 : Int32) : Nat → Int32 → mM → Option (mM)
  | 0, _, _ => none
  | n + 1, b4, m =>
      if (28 : Int32) ≤ b4 then (
      some m)
      else (
      bnd (rdA 189 189 ((9 : Int32) + ((4 : Int32) * b4)) m) fun v5 =>
      if v5 = 0 then (
      bnd (f_X9_adds_189 b4 b3 m) fun q7 =>
      f_X9_give_L31 b1 b2 b3 n (b4 + (1 : Int32)) q7)
      else (
      f_X9_give_L31 b1 b2 b3 n (b4 + (1 : Int32)) m))
def f_X9_give_L18 : Nat → Int32 → Int32 → Int32 → mM → Option (Int32 × mM)
  | 0, _, _, _, _ => none
  | n + 1, b1, b2, b3, m =>
      bnd (rdA 189 189 (0 : Int32) m) fun v3 =>
      if v3 ≤ b3 then (
      some (b1, m))
      else (
      bnd (f_X9_give_L31 b1 b2 b3 fU (0 : Int32) m) fun o11 =>
      bnd (f_X9_netsBy (100 : Int32) o11) fun q13 =>
      bnd (f_X9_copies_192_189 q13.2) fun q15 =>
      if b1 < 0 then (
      f_X9_give_L18 n b3 q13.1 (b3 + (1 : Int32)) q15)
      else (
      if b2 < q13.1 then (
      f_X9_give_L18 n b3 q13.1 (b3 + (1 : Int32)) q15)
      else (
      f_X9_give_L18 n b1 b2 (b3 + (1 : Int32)) q15)))
def f_X9_give  (m : mM) : Option (Int32 × mM) :=
bnd (f_X9_copies_189_192 m) fun q1 =>
bnd (f_X9_give_L18 fU (-9 : Int32) (0 : Int32) (0 : Int32) q1) fun o20 =>
some (o20.1, o20.2)
set_option maxRecDepth 100000 in
theorem t_X9_give_L31 {V : eV} (b1 : Int32) (b2 : Int32) (b3 : Int32) {r : Option Value} {h' : aH} : ∀ (n : Nat) (b4 : Int32) (m : mM) (o : mM), f_X9_give_L31 b1 b2 b3 n b4 m = some o → gG V k_X9_give 69 [(0, .ref (vB V + 187)), (1, .int b1), (2, .int b2), (3, .int b3)] [] (hS o) r h' → gG V k_X9_give 31 [(0, .ref (vB V + 187)), (1, .int b1), (2, .int b2), (3, .int b3), (4, .int b4)] [] (hS m) r h' := by
  intro n
  induction n with
  | zero => intro b4 m o hf; cases hf
  | succ n ih =>
    intro b4 m o hf hk
    rw [f_X9_give_L31] at hf
    refine g_iload 4 dX9_give_31 rfl ?_
    refine g_bipush (v := 28) dX9_give_33 rfl ?_
    refine g_icmp_ge (tgt := 69) dX9_give_35 (by decide) (fun c10 => ?_) (fun c10 => ?_)
    · replace hf := (if_pos c10).symm.trans hf
      cases hf
      refine g_sub [0, 1, 2, 3] rfl ?_
      exact hk
    · replace hf := (if_neg c10).symm.trans hf
      refine g_aload_n 0 dX9_give_38 rfl rfl ?_
      refine gf_930 dX9_give_39 rfl ob_187 rfl ?_
      refine g_bipush (v := 9) dX9_give_42 rfl ?_
      refine g_iconst (v := 4) dX9_give_44 rfl ?_
      refine g_iload 4 dX9_give_45 rfl ?_
      refine g_imul dX9_give_47 ?_
      refine g_iadd dX9_give_48 ?_
      obtain ⟨v5, e6, hf⟩ := bnd_some hf
      refine p_iald dX9_give_49 at_189 e6 ?_
      refine g_if_ne (tgt := 63) dX9_give_50 (by decide) (fun c9 => ?_) (fun c9 => ?_)
      · replace hf := (if_neg c9).symm.trans hf
        refine g_iinc (q := 4) (v := (b4 + (1 : Int32))) dX9_give_63 rfl rfl (Nat.le_of_ble_eq_true rfl) rfl ?_
        refine g_goto (tgt := 31) dX9_give_66 (by decide) ?_
        refine g_sub [1, 2, 3, 4, 0] rfl ?_
        exact ih (b4 + (1 : Int32)) m _ hf hk
      · replace hf := (if_pos c9).symm.trans hf
        refine g_aload_n 0 dX9_give_53 rfl rfl ?_
        refine gf_930 dX9_give_54 rfl ob_187 rfl ?_
        refine g_iload 4 dX9_give_57 rfl ?_
        refine g_iload_n 3 dX9_give_59 rfl rfl ?_
        obtain ⟨q7, e8, hf⟩ := bnd_some hf
        refine p_callSv (As := [.ref (vB V + 189), .int b4, .int b3]) (rest := []) (t_X9_adds_189 e8) cw_1046 w_1047 (Nat.le_of_ble_eq_true rfl) rfl rfl (Nat.le_of_ble_eq_true rfl) dX9_give_60 ?_
        refine g_iinc (q := 4) (v := (b4 + (1 : Int32))) dX9_give_63 rfl rfl (Nat.le_of_ble_eq_true rfl) rfl ?_
        refine g_goto (tgt := 31) dX9_give_66 (by decide) ?_
        refine g_sub [1, 2, 3, 4, 0] rfl ?_
        exact ih (b4 + (1 : Int32)) q7 _ hf hk

set_option maxRecDepth 100000 in
theorem t_X9_give_L18 {V : eV} {r : Option Value} {h' : aH} : ∀ (n : Nat) (b1 : Int32) (b2 : Int32) (b3 : Int32) (m : mM) (o : Int32 × mM), f_X9_give_L18 n b1 b2 b3 m = some o → gG V k_X9_give 112 [(1, .int o.1)] [] (hS o.2) r h' → gG V k_X9_give 18 [(0, .ref (vB V + 187)), (1, .int b1), (2, .int b2), (3, .int b3)] [] (hS m) r h' := by
  intro n
  induction n with
  | zero => intro b1 b2 b3 m o hf; cases hf
  | succ n ih =>
    intro b1 b2 b3 m o hf hk
    rw [f_X9_give_L18] at hf
    refine g_iload_n 3 dX9_give_18 rfl rfl ?_
    refine g_aload_n 0 dX9_give_19 rfl rfl ?_
    refine gf_930 dX9_give_20 rfl ob_187 rfl ?_
    refine g_iconst (v := 0) dX9_give_23 rfl ?_
    obtain ⟨v3, e4, hf⟩ := bnd_some hf
    refine p_iald dX9_give_24 at_189 e4 ?_
    refine g_icmp_ge (tgt := 112) dX9_give_25 (by decide) (fun c19 => ?_) (fun c19 => ?_)
    · replace hf := (if_pos c19).symm.trans hf
      cases hf
      refine g_sub [1] rfl ?_
      exact hk
    · replace hf := (if_neg c19).symm.trans hf
      refine g_iconst (v := 0) dX9_give_28 rfl ?_
      refine g_istore dX9_give_29 (Nat.le_of_ble_eq_true rfl) rfl ?_
      refine g_sub [1, 2, 3, 4, 0] rfl ?_
      obtain ⟨o11, e12, hf⟩ := bnd_some hf
      refine t_X9_give_L31 (V := V) b1 b2 b3 fU (0 : Int32) m _ e12 ?_
      refine g_aload_n 0 dX9_give_69 rfl rfl ?_
      refine g_bipush (v := 100) dX9_give_70 rfl ?_
      obtain ⟨q13, e14, hf⟩ := bnd_some hf
      refine p_callV (As := [.int (100 : Int32)]) (rest := []) (t_X9_netsBy e14) cw_1250 w_1252 w_53 ob_187 rfl (Nat.le_of_ble_eq_true rfl) rfl rfl (Nat.le_of_ble_eq_true rfl) dX9_give_72 ?_
      refine g_istore dX9_give_75 (Nat.le_of_ble_eq_true rfl) rfl ?_
      refine g_aload_n 1 dX9_give_77 rfl rfl ?_
      refine gf_933 dX9_give_78 rfl ob_187 rfl ?_
      refine g_aload_n 1 dX9_give_81 rfl rfl ?_
      refine gf_930 dX9_give_82 rfl ob_187 rfl ?_
      obtain ⟨q15, e16, hf⟩ := bnd_some hf
      refine p_callSv (As := [.ref (vB V + 192), .ref (vB V + 189)]) (rest := []) (t_X9_copies_192_189 e16) cw_1032 w_1033 (Nat.le_of_ble_eq_true rfl) rfl rfl (Nat.le_of_ble_eq_true rfl) dX9_give_85 ?_
      refine g_iload_n 2 dX9_give_88 rfl rfl ?_
      refine g_if_lt (tgt := 101) dX9_give_89 (by decide) (fun c18 => ?_) (fun c18 => ?_)
      · replace hf := (if_pos c18).symm.trans hf
        refine g_iload_n 4 dX9_give_101 rfl rfl ?_
        refine g_istore_n dX9_give_102 rfl (Nat.le_of_ble_eq_true rfl) rfl ?_
        refine g_iload 1 dX9_give_103 rfl ?_
        refine g_istore_n dX9_give_105 rfl (Nat.le_of_ble_eq_true rfl) rfl ?_
        refine g_iinc (q := 4) (v := (b3 + (1 : Int32))) dX9_give_106 rfl rfl (Nat.le_of_ble_eq_true rfl) rfl ?_
        refine g_goto (tgt := 18) dX9_give_109 (by decide) ?_
        refine g_sub [4, 2, 1, 0] rfl ?_
        exact ih b3 q13.1 (b3 + (1 : Int32)) q15 _ hf hk
      · replace hf := (if_neg c18).symm.trans hf
        refine g_iload 0 dX9_give_92 rfl ?_
        refine g_iload_n 3 dX9_give_94 rfl rfl ?_
        refine g_icmp_gt (tgt := 101) dX9_give_95 (by decide) (fun c17 => ?_) (fun c17 => ?_)
        · replace hf := (if_pos c17).symm.trans hf
          refine g_iload_n 4 dX9_give_101 rfl rfl ?_
          refine g_istore_n dX9_give_102 rfl (Nat.le_of_ble_eq_true rfl) rfl ?_
          refine g_iload 1 dX9_give_103 rfl ?_
          refine g_istore_n dX9_give_105 rfl (Nat.le_of_ble_eq_true rfl) rfl ?_
          refine g_iinc (q := 4) (v := (b3 + (1 : Int32))) dX9_give_106 rfl rfl (Nat.le_of_ble_eq_true rfl) rfl ?_
          refine g_goto (tgt := 18) dX9_give_109 (by decide) ?_
          refine g_sub [4, 2, 1, 0] rfl ?_
          exact ih b3 q13.1 (b3 + (1 : Int32)) q15 _ hf hk
        · replace hf := (if_neg c17).symm.trans hf
          refine g_goto (tgt := 106) dX9_give_98 (by decide) ?_
          refine g_iinc (q := 4) (v := (b3 + (1 : Int32))) dX9_give_106 rfl rfl (Nat.le_of_ble_eq_true rfl) rfl ?_
          refine g_goto (tgt := 18) dX9_give_109 (by decide) ?_
          refine g_sub [2, 3, 4, 0] rfl ?_
          exact ih b1 b2 (b3 + (1 : Int32)) q15 _ hf hk

set_option maxRecDepth 100000 in
theorem t_X9_give {V : eV}  {m : mM} {q : Int32 × mM} (hf : f_X9_give  m = some q) : eE V 9 yX9_give cX9_give 5 (some .int) [.ref (vB V + 187)] (hS m) (some (.int q.1)) (hS q.2) := by
  refine eE_of (by decide) (Nat.le_of_ble_eq_true rfl) ?_
  show gG V k_X9_give 0 [(0, .ref (vB V + 187))] [] (hS m) _ _
  unfold f_X9_give at hf
  refine g_aload_n 0 dX9_give_0 rfl rfl ?_
  refine gf_930 dX9_give_1 rfl ob_187 rfl ?_
  refine g_aload_n 0 dX9_give_4 rfl rfl ?_
  refine gf_933 dX9_give_5 rfl ob_187 rfl ?_
  obtain ⟨q1, e2, hf⟩ := bnd_some hf
  refine p_callSv (As := [.ref (vB V + 189), .ref (vB V + 192)]) (rest := []) (t_X9_copies_189_192 e2) cw_1032 w_1033 (Nat.le_of_ble_eq_true rfl) rfl rfl (Nat.le_of_ble_eq_true rfl) dX9_give_8 ?_
  refine g_bipush (v := -9) dX9_give_11 rfl ?_
  refine g_istore_n dX9_give_13 rfl (Nat.le_of_ble_eq_true rfl) rfl ?_
  refine g_iconst (v := 0) dX9_give_14 rfl ?_
  refine g_istore_n dX9_give_15 rfl (Nat.le_of_ble_eq_true rfl) rfl ?_
  refine g_iconst (v := 0) dX9_give_16 rfl ?_
  refine g_istore_n dX9_give_17 rfl (Nat.le_of_ble_eq_true rfl) rfl ?_
  refine g_sub [3, 2, 1, 0] rfl ?_
  obtain ⟨o20, e21, hf⟩ := bnd_some hf
  refine t_X9_give_L18 (V := V) fU (-9 : Int32) (0 : Int32) (0 : Int32) q1 _ e21 ?_
  refine g_iload_n 0 dX9_give_112 rfl rfl ?_
  cases hf
  exact g_iret dX9_give_113 .int rfl rfl

abbrev k_X9_together : kX := (cX9_together, "WhoseHourItIsModel", "together", some .int, 5, 2)
def f_X9_together_L32 (b1 : Int32) (b2 : Int32) (m : mM) : Nat → Int32 → Int32 → Option (Int32)
  | 0, _, _ => none
  | n + 1, b3, b4 =>
      if (28 : Int32) ≤ b4 then (
      some b3)
      else (
      bnd (f_X9_hasPart_189 b4 b1 m) fun q11 =>
      if q11 = 0 then (
      f_X9_together_L32 b1 b2 m n (b3 + (0 : Int32)) (b4 + (1 : Int32)))
      else (
      bnd (f_X9_hasPart_189 b4 b2 m) fun q13 =>
      if q13 = 0 then (
      f_X9_together_L32 b1 b2 m n (b3 + (0 : Int32)) (b4 + (1 : Int32)))
      else (
      f_X9_together_L32 b1 b2 m n (b3 + (1 : Int32)) (b4 + (1 : Int32)))))
def f_X9_together (a1 : Int32) (a2 : Int32) (m : mM) : Option (Int32 × mM) :=
bnd (f_X9_isHolder a1 m) fun q1 =>
if q1 = 0 then (
bnd (f_X9_refuse (-1 : Int32) m) fun q3 =>
some (q3.1, q3.2))
else (
bnd (f_X9_isHolder a2 m) fun q5 =>
if q5 = 0 then (
bnd (f_X9_refuse (-1 : Int32) m) fun q7 =>
some (q7.1, q7.2))
else (
if a1 = a2 then (
bnd (f_X9_refuse (-1 : Int32) m) fun q9 =>
some (q9.1, q9.2))
else (
bnd (f_X9_together_L32 a1 a2 m fU (0 : Int32) (0 : Int32)) fun o18 =>
some (o18, m))))
set_option maxRecDepth 100000 in
theorem t_X9_together_L32 {V : eV} (b1 : Int32) (b2 : Int32) (m : mM) {r : Option Value} {h' : aH} : ∀ (n : Nat) (b3 : Int32) (b4 : Int32) (o : Int32), f_X9_together_L32 b1 b2 m n b3 b4 = some o → gG V k_X9_together 79 [(3, .int o)] [] (hS m) r h' → gG V k_X9_together 32 [(0, .ref (vB V + 187)), (1, .int b1), (2, .int b2), (3, .int b3), (4, .int b4)] [] (hS m) r h' := by
  intro n
  induction n with
  | zero => intro b3 b4 o hf; cases hf
  | succ n ih =>
    intro b3 b4 o hf hk
    rw [f_X9_together_L32] at hf
    refine g_iload 4 dX9_together_32 rfl ?_
    refine g_bipush (v := 28) dX9_together_34 rfl ?_
    refine g_icmp_ge (tgt := 79) dX9_together_36 (by decide) (fun c17 => ?_) (fun c17 => ?_)
    · replace hf := (if_pos c17).symm.trans hf
      cases hf
      refine g_sub [3] rfl ?_
      exact hk
    · replace hf := (if_neg c17).symm.trans hf
      refine g_iload_n 3 dX9_together_39 rfl rfl ?_
      refine g_aload_n 0 dX9_together_40 rfl rfl ?_
      refine gf_930 dX9_together_41 rfl ob_187 rfl ?_
      refine g_iload 4 dX9_together_44 rfl ?_
      refine g_iload_n 1 dX9_together_46 rfl rfl ?_
      obtain ⟨q11, e12, hf⟩ := bnd_some hf
      refine p_callS (As := [.ref (vB V + 189), .int b4, .int b1]) (rest := [.int b3]) (t_X9_hasPart_189 e12) cw_1043 w_1044 (Nat.le_of_ble_eq_true rfl) rfl rfl (Nat.le_of_ble_eq_true rfl) dX9_together_47 ?_
      refine g_if_eq (tgt := 70) dX9_together_50 (by decide) (fun c16 => ?_) (fun c16 => ?_)
      · replace hf := (if_pos c16).symm.trans hf
        refine g_iconst (v := 0) dX9_together_70 rfl ?_
        refine g_iadd dX9_together_71 ?_
        refine g_istore_n dX9_together_72 rfl (Nat.le_of_ble_eq_true rfl) rfl ?_
        refine g_iinc (q := 4) (v := (b4 + (1 : Int32))) dX9_together_73 rfl rfl (Nat.le_of_ble_eq_true rfl) rfl ?_
        refine g_goto (tgt := 32) dX9_together_76 (by decide) ?_
        refine g_sub [2, 3, 4, 1, 0] rfl ?_
        exact ih (b3 + (0 : Int32)) (b4 + (1 : Int32)) _ hf hk
      · replace hf := (if_neg c16).symm.trans hf
        refine g_aload_n 0 dX9_together_53 rfl rfl ?_
        refine gf_930 dX9_together_54 rfl ob_187 rfl ?_
        refine g_iload 4 dX9_together_57 rfl ?_
        refine g_iload_n 2 dX9_together_59 rfl rfl ?_
        obtain ⟨q13, e14, hf⟩ := bnd_some hf
        refine p_callS (As := [.ref (vB V + 189), .int b4, .int b2]) (rest := [.int b3]) (t_X9_hasPart_189 e14) cw_1043 w_1044 (Nat.le_of_ble_eq_true rfl) rfl rfl (Nat.le_of_ble_eq_true rfl) dX9_together_60 ?_
        refine g_if_eq (tgt := 70) dX9_together_63 (by decide) (fun c15 => ?_) (fun c15 => ?_)
        · replace hf := (if_pos c15).symm.trans hf
          refine g_iconst (v := 0) dX9_together_70 rfl ?_
          refine g_iadd dX9_together_71 ?_
          refine g_istore_n dX9_together_72 rfl (Nat.le_of_ble_eq_true rfl) rfl ?_
          refine g_iinc (q := 4) (v := (b4 + (1 : Int32))) dX9_together_73 rfl rfl (Nat.le_of_ble_eq_true rfl) rfl ?_
          refine g_goto (tgt := 32) dX9_together_76 (by decide) ?_
          refine g_sub [2, 3, 4, 1, 0] rfl ?_
          exact ih (b3 + (0 : Int32)) (b4 + (1 : Int32)) _ hf hk
        · replace hf := (if_neg c15).symm.trans hf
          refine g_iconst (v := 1) dX9_together_66 rfl ?_
          refine g_goto (tgt := 71) dX9_together_67 (by decide) ?_
          refine g_iadd dX9_together_71 ?_
          refine g_istore_n dX9_together_72 rfl (Nat.le_of_ble_eq_true rfl) rfl ?_
          refine g_iinc (q := 4) (v := (b4 + (1 : Int32))) dX9_together_73 rfl rfl (Nat.le_of_ble_eq_true rfl) rfl ?_
          refine g_goto (tgt := 32) dX9_together_76 (by decide) ?_
          refine g_sub [2, 3, 4, 1, 0] rfl ?_
          exact ih (b3 + (1 : Int32)) (b4 + (1 : Int32)) _ hf hk

set_option maxRecDepth 100000 in
theorem t_X9_together {V : eV} {a1 : Int32} {a2 : Int32}  {m : mM} {q : Int32 × mM} (hf : f_X9_together a1 a2 m = some q) : eE V 2 yX9_together cX9_together 5 (some .int) [.ref (vB V + 187), .int a1, .int a2] (hS m) (some (.int q.1)) (hS q.2) := by
  refine eE_of (by decide) (Nat.le_of_ble_eq_true rfl) ?_
  show gG V k_X9_together 0 [(0, .ref (vB V + 187)), (1, .int a1), (2, .int a2)] [] (hS m) _ _
  unfold f_X9_together at hf
  refine g_aload_n 0 dX9_together_0 rfl rfl ?_
  refine g_iload_n 1 dX9_together_1 rfl rfl ?_
  obtain ⟨q1, e2, hf⟩ := bnd_some hf
  refine p_callV (As := [.int a1]) (rest := []) (t_X9_isHolder e2) cw_1053 w_1055 w_30 ob_187 rfl (Nat.le_of_ble_eq_true rfl) rfl rfl (Nat.le_of_ble_eq_true rfl) dX9_together_2 ?_
  refine g_if_eq (tgt := 21) dX9_together_5 (by decide) (fun c22 => ?_) (fun c22 => ?_)
  · replace hf := (if_pos c22).symm.trans hf
    refine g_aload_n 0 dX9_together_21 rfl rfl ?_
    refine g_iconst (v := -1) dX9_together_22 rfl ?_
    obtain ⟨q3, e4, hf⟩ := bnd_some hf
    refine p_callV (As := [.int (-1 : Int32)]) (rest := []) (t_X9_refuse e4) cw_1000 w_1002 w_22 ob_187 rfl (Nat.le_of_ble_eq_true rfl) rfl rfl (Nat.le_of_ble_eq_true rfl) dX9_together_23 ?_
    cases hf
    exact g_iret dX9_together_26 .int rfl rfl
  · replace hf := (if_neg c22).symm.trans hf
    refine g_aload_n 0 dX9_together_8 rfl rfl ?_
    refine g_iload_n 2 dX9_together_9 rfl rfl ?_
    obtain ⟨q5, e6, hf⟩ := bnd_some hf
    refine p_callV (As := [.int a2]) (rest := []) (t_X9_isHolder e6) cw_1053 w_1055 w_30 ob_187 rfl (Nat.le_of_ble_eq_true rfl) rfl rfl (Nat.le_of_ble_eq_true rfl) dX9_together_10 ?_
    refine g_if_eq (tgt := 21) dX9_together_13 (by decide) (fun c21 => ?_) (fun c21 => ?_)
    · replace hf := (if_pos c21).symm.trans hf
      refine g_aload_n 0 dX9_together_21 rfl rfl ?_
      refine g_iconst (v := -1) dX9_together_22 rfl ?_
      obtain ⟨q7, e8, hf⟩ := bnd_some hf
      refine p_callV (As := [.int (-1 : Int32)]) (rest := []) (t_X9_refuse e8) cw_1000 w_1002 w_22 ob_187 rfl (Nat.le_of_ble_eq_true rfl) rfl rfl (Nat.le_of_ble_eq_true rfl) dX9_together_23 ?_
      cases hf
      exact g_iret dX9_together_26 .int rfl rfl
    · replace hf := (if_neg c21).symm.trans hf
      refine g_iload_n 1 dX9_together_16 rfl rfl ?_
      refine g_iload_n 2 dX9_together_17 rfl rfl ?_
      refine g_icmp_ne (tgt := 27) dX9_together_18 (by decide) (fun c20 => ?_) (fun c20 => ?_)
      · replace hf := (if_neg c20).symm.trans hf
        refine g_iconst (v := 0) dX9_together_27 rfl ?_
        refine g_istore_n dX9_together_28 rfl (Nat.le_of_ble_eq_true rfl) rfl ?_
        refine g_iconst (v := 0) dX9_together_29 rfl ?_
        refine g_istore dX9_together_30 (Nat.le_of_ble_eq_true rfl) rfl ?_
        refine g_sub [2, 3, 4, 1, 0] rfl ?_
        obtain ⟨o18, e19, hf⟩ := bnd_some hf
        refine t_X9_together_L32 (V := V) a1 a2 m fU (0 : Int32) (0 : Int32) _ e19 ?_
        refine g_iload_n 0 dX9_together_79 rfl rfl ?_
        cases hf
        exact g_iret dX9_together_80 .int rfl rfl
      · replace hf := (if_pos c20).symm.trans hf
        refine g_aload_n 0 dX9_together_21 rfl rfl ?_
        refine g_iconst (v := -1) dX9_together_22 rfl ?_
        obtain ⟨q9, e10, hf⟩ := bnd_some hf
        refine p_callV (As := [.int (-1 : Int32)]) (rest := []) (t_X9_refuse e10) cw_1000 w_1002 w_22 ob_187 rfl (Nat.le_of_ble_eq_true rfl) rfl rfl (Nat.le_of_ble_eq_true rfl) dX9_together_23 ?_
        cases hf
        exact g_iret dX9_together_26 .int rfl rfl

abbrev k_X9_season : kX := (cX9_season, "WhoseHourItIsModel", "season", some .int, 4, 1)
def f_X9_season_J20 (b1 : Int32) (b2 : Int32) (s0 : Int32) (m : mM) : Option (Int32 × mM) :=
if s0 = 0 then (
bnd (f_X9_becomes ((5 : Int32) + b1) b2 m) fun q3 =>
some (q3.1, q3.2))
else (
bnd (f_X9_refuse s0 m) fun q5 =>
some (q5.1, q5.2))
def f_X9_season (a1 : Int32) (a2 : Int32) (m : mM) : Option (Int32 × mM) :=
bnd (f_X9_isIn a1 (4 : Int32) m) fun q1 =>
if q1 = 0 then (
f_X9_season_J20 a1 a2 (-1 : Int32) m)
else (
bnd (f_X9_within a2 (0 : Int32) (300 : Int32) m) fun q8 =>
f_X9_season_J20 a1 a2 q8 m)
set_option maxRecDepth 100000 in
theorem t_X9_season_J20 {V : eV} {b1 : Int32} {b2 : Int32} {s0 : Int32} {m : mM} {q : Int32 × mM} (hf : f_X9_season_J20 b1 b2 s0 m = some q) : gG V k_X9_season 20 [(0, .ref (vB V + 187)), (1, .int b1), (2, .int b2)] [.int s0] (hS m) (some (.int q.1)) (hS q.2) := by
  unfold f_X9_season_J20 at hf
  refine g_istore_n dX9_season_20 rfl (Nat.le_of_ble_eq_true rfl) rfl ?_
  refine g_iload_n 0 dX9_season_21 rfl rfl ?_
  refine g_if_eq (tgt := 33) dX9_season_22 (by decide) (fun c7 => ?_) (fun c7 => ?_)
  · replace hf := (if_pos c7).symm.trans hf
    refine g_aload_n 1 dX9_season_33 rfl rfl ?_
    refine g_iconst (v := 5) dX9_season_34 rfl ?_
    refine g_iload_n 2 dX9_season_35 rfl rfl ?_
    refine g_iadd dX9_season_36 ?_
    refine g_iload_n 3 dX9_season_37 rfl rfl ?_
    obtain ⟨q3, e4, hf⟩ := bnd_some hf
    refine p_callV (As := [.int ((5 : Int32) + b1), .int b2]) (rest := []) (t_X9_becomes e4) cw_1131 w_1133 w_44 ob_187 rfl (Nat.le_of_ble_eq_true rfl) rfl rfl (Nat.le_of_ble_eq_true rfl) dX9_season_38 ?_
    cases hf
    exact g_iret dX9_season_41 .int rfl rfl
  · replace hf := (if_neg c7).symm.trans hf
    refine g_aload_n 1 dX9_season_25 rfl rfl ?_
    refine g_iload_n 0 dX9_season_26 rfl rfl ?_
    obtain ⟨q5, e6, hf⟩ := bnd_some hf
    refine p_callV (As := [.int s0]) (rest := []) (t_X9_refuse e6) cw_1000 w_1002 w_22 ob_187 rfl (Nat.le_of_ble_eq_true rfl) rfl rfl (Nat.le_of_ble_eq_true rfl) dX9_season_27 ?_
    refine g_goto (tgt := 41) dX9_season_30 (by decide) ?_
    cases hf
    exact g_iret dX9_season_41 .int rfl rfl

set_option maxRecDepth 100000 in
theorem t_X9_season {V : eV} {a1 : Int32} {a2 : Int32}  {m : mM} {q : Int32 × mM} (hf : f_X9_season a1 a2 m = some q) : eE V 1 yX9_season cX9_season 4 (some .int) [.ref (vB V + 187), .int a1, .int a2] (hS m) (some (.int q.1)) (hS q.2) := by
  refine eE_of (by decide) (Nat.le_of_ble_eq_true rfl) ?_
  show gG V k_X9_season 0 [(0, .ref (vB V + 187)), (1, .int a1), (2, .int a2)] [] (hS m) _ _
  unfold f_X9_season at hf
  refine g_iload_n 1 dX9_season_0 rfl rfl ?_
  refine g_iconst (v := 4) dX9_season_1 rfl ?_
  obtain ⟨q1, e2, hf⟩ := bnd_some hf
  refine p_callS (As := [.int a1, .int (4 : Int32)]) (rest := []) (t_X9_isIn e2) cw_1057 w_1058 (Nat.le_of_ble_eq_true rfl) rfl rfl (Nat.le_of_ble_eq_true rfl) dX9_season_2 ?_
  refine g_if_eq (tgt := 19) dX9_season_5 (by decide) (fun c10 => ?_) (fun c10 => ?_)
  · replace hf := (if_pos c10).symm.trans hf
    refine g_iconst (v := -1) dX9_season_19 rfl ?_
    refine g_sub [0, 1, 2] rfl ?_
    exact t_X9_season_J20 hf
  · replace hf := (if_neg c10).symm.trans hf
    refine g_iload_n 2 dX9_season_8 rfl rfl ?_
    refine g_iconst (v := 0) dX9_season_9 rfl ?_
    refine g_sipush (v := 300) dX9_season_10 rfl ?_
    obtain ⟨q8, e9, hf⟩ := bnd_some hf
    refine p_callS (As := [.int a2, .int (0 : Int32), .int (300 : Int32)]) (rest := []) (t_X9_within e9) cw_1128 w_1129 (Nat.le_of_ble_eq_true rfl) rfl rfl (Nat.le_of_ble_eq_true rfl) dX9_season_13 ?_
    refine g_goto (tgt := 20) dX9_season_16 (by decide) ?_
    refine g_sub [0, 1, 2] rfl ?_
    exact t_X9_season_J20 hf

abbrev k_X9_year : kX := (cX9_year, "WhoseHourItIsModel", "year", some .int, 3, 9)
def f_X9_year_L4 : Nat → Int32 → Int32 → mM → Option (Int32 × mM)
  | 0, _, _, _ => none
  | n + 1, b1, b2, m =>
      if (4 : Int32) ≤ b2 then (
      some (b1, m))
      else (
      bnd (rdA 189 189 ((5 : Int32) + b2) m) fun v1 =>
      bnd (f_X9_netsBy v1 m) fun q3 =>
      f_X9_year_L4 n (b1 + q3.1) (b2 + (1 : Int32)) q3.2)
def f_X9_year  (m : mM) : Option (Int32 × mM) :=
bnd (f_X9_year_L4 fU (0 : Int32) (0 : Int32) m) fun o6 =>
some (o6.1, o6.2)
set_option maxRecDepth 100000 in
theorem t_X9_year_L4 {V : eV} {r : Option Value} {h' : aH} : ∀ (n : Nat) (b1 : Int32) (b2 : Int32) (m : mM) (o : Int32 × mM), f_X9_year_L4 n b1 b2 m = some o → gG V k_X9_year 30 [(1, .int o.1)] [] (hS o.2) r h' → gG V k_X9_year 4 [(0, .ref (vB V + 187)), (1, .int b1), (2, .int b2)] [] (hS m) r h' := by
  intro n
  induction n with
  | zero => intro b1 b2 m o hf; cases hf
  | succ n ih =>
    intro b1 b2 m o hf hk
    rw [f_X9_year_L4] at hf
    refine g_iload_n 2 dX9_year_4 rfl rfl ?_
    refine g_iconst (v := 4) dX9_year_5 rfl ?_
    refine g_icmp_ge (tgt := 30) dX9_year_6 (by decide) (fun c5 => ?_) (fun c5 => ?_)
    · replace hf := (if_pos c5).symm.trans hf
      cases hf
      refine g_sub [1] rfl ?_
      exact hk
    · replace hf := (if_neg c5).symm.trans hf
      refine g_iload_n 1 dX9_year_9 rfl rfl ?_
      refine g_aload_n 0 dX9_year_10 rfl rfl ?_
      refine g_aload_n 0 dX9_year_11 rfl rfl ?_
      refine gf_930 dX9_year_12 rfl ob_187 rfl ?_
      refine g_iconst (v := 5) dX9_year_15 rfl ?_
      refine g_iload_n 2 dX9_year_16 rfl rfl ?_
      refine g_iadd dX9_year_17 ?_
      obtain ⟨v1, e2, hf⟩ := bnd_some hf
      refine p_iald dX9_year_18 at_189 e2 ?_
      obtain ⟨q3, e4, hf⟩ := bnd_some hf
      refine p_callV (As := [.int v1]) (rest := [.int b1]) (t_X9_netsBy e4) cw_1250 w_1252 w_53 ob_187 rfl (Nat.le_of_ble_eq_true rfl) rfl rfl (Nat.le_of_ble_eq_true rfl) dX9_year_19 ?_
      refine g_iadd dX9_year_22 ?_
      refine g_istore_n dX9_year_23 rfl (Nat.le_of_ble_eq_true rfl) rfl ?_
      refine g_iinc (q := 2) (v := (b2 + (1 : Int32))) dX9_year_24 rfl rfl (Nat.le_of_ble_eq_true rfl) rfl ?_
      refine g_goto (tgt := 4) dX9_year_27 (by decide) ?_
      refine g_sub [2, 1, 0] rfl ?_
      exact ih (b1 + q3.1) (b2 + (1 : Int32)) q3.2 _ hf hk

set_option maxRecDepth 100000 in
theorem t_X9_year {V : eV}  {m : mM} {q : Int32 × mM} (hf : f_X9_year  m = some q) : eE V 9 yX9_year cX9_year 3 (some .int) [.ref (vB V + 187)] (hS m) (some (.int q.1)) (hS q.2) := by
  refine eE_of (by decide) (Nat.le_of_ble_eq_true rfl) ?_
  show gG V k_X9_year 0 [(0, .ref (vB V + 187))] [] (hS m) _ _
  unfold f_X9_year at hf
  refine g_iconst (v := 0) dX9_year_0 rfl ?_
  refine g_istore_n dX9_year_1 rfl (Nat.le_of_ble_eq_true rfl) rfl ?_
  refine g_iconst (v := 0) dX9_year_2 rfl ?_
  refine g_istore_n dX9_year_3 rfl (Nat.le_of_ble_eq_true rfl) rfl ?_
  refine g_sub [2, 1, 0] rfl ?_
  obtain ⟨o6, e7, hf⟩ := bnd_some hf
  refine t_X9_year_L4 (V := V) fU (0 : Int32) (0 : Int32) m _ e7 ?_
  refine g_iload_n 0 dX9_year_30 rfl rfl ?_
  cases hf
  exact g_iret dX9_year_31 .int rfl rfl

abbrev k_X9_years : kX := (cX9_years, "WhoseHourItIsModel", "years", some .int, 9, 8)
def f_X9_years_L36 (b1 : Int32) (b6 : Int32) : Nat → Int32 → Int32 → Int32 → mM → Option (Int32 × Int32 × mM)
  | 0, _, _, _, _ => none
  | n + 1, b4, b5, b7, m =>
      bnd (rdA 189 189 (1 : Int32) m) fun v3 =>
      if v3 ≤ b7 then (
      some (b4, b5, m))
      else (
      bnd (f_X9_of b7 (4 : Int32) m) fun q5 =>
      bnd (rmI ((((b4 * (1664525 : Int32)) + (1013904223 : Int32)) &&& (2147483647 : Int32)) / (256 : Int32)) (((2 : Int32) * q5) + (1 : Int32))) fun v7 =>
      bnd (f_X9_netBy b7 v7 m) fun q9 =>
      if 0 ≤ q9.1 then (
      f_X9_years_L36 b1 b6 n ((b4 * (1664525 : Int32)) + (1013904223 : Int32)) (b5 + q9.1) (b7 + (1 : Int32)) q9.2)
      else (
      f_X9_years_L36 b1 b6 n ((b4 * (1664525 : Int32)) + (1013904223 : Int32)) (b5 + (0 : Int32)) (b7 + (1 : Int32)) q9.2))
def f_X9_years_L27 (b1 : Int32) : Nat → Int32 → Int32 → Int32 → mM → Option (Int32 × mM)
  | 0, _, _, _, _ => none
  | n + 1, b4, b5, b6, m =>
      if b1 ≤ b6 then (
      some (b5, m))
      else (
      bnd (f_X9_years_L36 b1 b6 fU b4 b5 (0 : Int32) m) fun o13 =>
      f_X9_years_L27 b1 n o13.1 o13.2.1 (b6 + (1 : Int32)) o13.2.2)
def f_X9_years (a1 : Int32) (a2 : Int32) (m : mM) : Option (Int32 × mM) :=
bnd (f_X9_within a1 (1 : Int32) (10 : Int32) m) fun q1 =>
if q1 = 0 then (
bnd (f_X9_years_L27 a1 fU a2 (0 : Int32) (0 : Int32) m) fun o16 =>
some (o16.1, o16.2))
else (
bnd (f_X9_refuse q1 m) fun q18 =>
some (q18.1, q18.2))
set_option maxRecDepth 100000 in
theorem t_X9_years_L36 {V : eV} (b1 : Int32) (b6 : Int32) {r : Option Value} {h' : aH} : ∀ (n : Nat) (b4 : Int32) (b5 : Int32) (b7 : Int32) (m : mM) (o : Int32 × Int32 × mM), f_X9_years_L36 b1 b6 n b4 b5 b7 m = some o → gG V k_X9_years 108 [(0, .ref (vB V + 187)), (1, .int b1), (4, .int o.1), (5, .int o.2.1), (6, .int b6)] [] (hS o.2.2) r h' → gG V k_X9_years 36 [(0, .ref (vB V + 187)), (1, .int b1), (4, .int b4), (5, .int b5), (6, .int b6), (7, .int b7)] [] (hS m) r h' := by
  intro n
  induction n with
  | zero => intro b4 b5 b7 m o hf; cases hf
  | succ n ih =>
    intro b4 b5 b7 m o hf hk
    rw [f_X9_years_L36] at hf
    refine g_iload 5 dX9_years_36 rfl ?_
    refine g_aload_n 0 dX9_years_38 rfl rfl ?_
    refine gf_930 dX9_years_39 rfl ob_187 rfl ?_
    refine g_iconst (v := 1) dX9_years_42 rfl ?_
    obtain ⟨v3, e4, hf⟩ := bnd_some hf
    refine p_iald dX9_years_43 at_189 e4 ?_
    refine g_icmp_ge (tgt := 108) dX9_years_44 (by decide) (fun c12 => ?_) (fun c12 => ?_)
    · replace hf := (if_pos c12).symm.trans hf
      cases hf
      refine g_sub [0, 1, 2, 3, 4] rfl ?_
      exact hk
    · replace hf := (if_neg c12).symm.trans hf
      refine g_iload 2 dX9_years_47 rfl ?_
      refine g_ldc w_1270 dX9_years_49 ?_
      refine g_imul dX9_years_51 ?_
      refine g_ldc w_1271 dX9_years_52 ?_
      refine g_iadd dX9_years_54 ?_
      refine g_istore dX9_years_55 (Nat.le_of_ble_eq_true rfl) rfl ?_
      refine g_aload_n 1 dX9_years_57 rfl rfl ?_
      refine g_iload 5 dX9_years_58 rfl ?_
      refine g_iload 0 dX9_years_60 rfl ?_
      refine g_ldc w_1272 dX9_years_62 ?_
      refine g_iand dX9_years_64 ?_
      refine g_sipush (v := 256) dX9_years_65 rfl ?_
      refine g_idiv dX9_years_68 (by decide) ?_
      refine g_iconst (v := 2) dX9_years_69 rfl ?_
      refine g_aload_n 1 dX9_years_70 rfl rfl ?_
      refine g_iload 5 dX9_years_71 rfl ?_
      refine g_iconst (v := 4) dX9_years_73 rfl ?_
      obtain ⟨q5, e6, hf⟩ := bnd_some hf
      refine p_callV (As := [.int b7, .int (4 : Int32)]) (rest := [.int (2 : Int32), .int ((((b4 * (1664525 : Int32)) + (1013904223 : Int32)) &&& (2147483647 : Int32)) / (256 : Int32)), .int b7, .ref (vB V + 187)]) (t_X9_of e6) cw_1072 w_1074 w_34 ob_187 rfl (Nat.le_of_ble_eq_true rfl) rfl rfl (Nat.le_of_ble_eq_true rfl) dX9_years_74 ?_
      refine g_imul dX9_years_77 ?_
      refine g_iconst (v := 1) dX9_years_78 rfl ?_
      refine g_iadd dX9_years_79 ?_
      obtain ⟨v7, e8, hf⟩ := bnd_some hf
      refine p_irem dX9_years_80 e8 ?_
      obtain ⟨q9, e10, hf⟩ := bnd_some hf
      refine p_callV (As := [.int b7, .int v7]) (rest := []) (t_X9_netBy e10) cw_1076 w_1078 w_35 ob_187 rfl (Nat.le_of_ble_eq_true rfl) rfl rfl (Nat.le_of_ble_eq_true rfl) dX9_years_81 ?_
      refine g_istore dX9_years_84 (Nat.le_of_ble_eq_true rfl) rfl ?_
      refine g_iload 4 dX9_years_86 rfl ?_
      refine g_iload 0 dX9_years_88 rfl ?_
      refine g_if_ge (tgt := 97) dX9_years_90 (by decide) (fun c11 => ?_) (fun c11 => ?_)
      · replace hf := (if_pos c11).symm.trans hf
        refine g_iload 0 dX9_years_97 rfl ?_
        refine g_iadd dX9_years_99 ?_
        refine g_istore dX9_years_100 (Nat.le_of_ble_eq_true rfl) rfl ?_
        refine g_iinc (q := 6) (v := (b7 + (1 : Int32))) dX9_years_102 rfl rfl (Nat.le_of_ble_eq_true rfl) rfl ?_
        refine g_goto (tgt := 36) dX9_years_105 (by decide) ?_
        refine g_sub [4, 5, 3, 1, 6, 0] rfl ?_
        exact ih ((b4 * (1664525 : Int32)) + (1013904223 : Int32)) (b5 + q9.1) (b7 + (1 : Int32)) q9.2 _ hf hk
      · replace hf := (if_neg c11).symm.trans hf
        refine g_iconst (v := 0) dX9_years_93 rfl ?_
        refine g_goto (tgt := 99) dX9_years_94 (by decide) ?_
        refine g_iadd dX9_years_99 ?_
        refine g_istore dX9_years_100 (Nat.le_of_ble_eq_true rfl) rfl ?_
        refine g_iinc (q := 6) (v := (b7 + (1 : Int32))) dX9_years_102 rfl rfl (Nat.le_of_ble_eq_true rfl) rfl ?_
        refine g_goto (tgt := 36) dX9_years_105 (by decide) ?_
        refine g_sub [4, 5, 3, 1, 6, 0] rfl ?_
        exact ih ((b4 * (1664525 : Int32)) + (1013904223 : Int32)) (b5 + (0 : Int32)) (b7 + (1 : Int32)) q9.2 _ hf hk

set_option maxRecDepth 100000 in
theorem t_X9_years_L27 {V : eV} (b1 : Int32) {r : Option Value} {h' : aH} : ∀ (n : Nat) (b4 : Int32) (b5 : Int32) (b6 : Int32) (m : mM) (o : Int32 × mM), f_X9_years_L27 b1 n b4 b5 b6 m = some o → gG V k_X9_years 114 [(5, .int o.1)] [] (hS o.2) r h' → gG V k_X9_years 27 [(0, .ref (vB V + 187)), (1, .int b1), (4, .int b4), (5, .int b5), (6, .int b6)] [] (hS m) r h' := by
  intro n
  induction n with
  | zero => intro b4 b5 b6 m o hf; cases hf
  | succ n ih =>
    intro b4 b5 b6 m o hf hk
    rw [f_X9_years_L27] at hf
    refine g_iload 4 dX9_years_27 rfl ?_
    refine g_iload_n 1 dX9_years_29 rfl rfl ?_
    refine g_icmp_ge (tgt := 114) dX9_years_30 (by decide) (fun c15 => ?_) (fun c15 => ?_)
    · replace hf := (if_pos c15).symm.trans hf
      cases hf
      refine g_sub [3] rfl ?_
      exact hk
    · replace hf := (if_neg c15).symm.trans hf
      refine g_iconst (v := 0) dX9_years_33 rfl ?_
      refine g_istore dX9_years_34 (Nat.le_of_ble_eq_true rfl) rfl ?_
      refine g_sub [1, 2, 3, 4, 5, 0] rfl ?_
      obtain ⟨o13, e14, hf⟩ := bnd_some hf
      refine t_X9_years_L36 (V := V) b1 b6 fU b4 b5 (0 : Int32) m _ e14 ?_
      refine g_iinc (q := 4) (v := (b6 + (1 : Int32))) dX9_years_108 rfl rfl (Nat.le_of_ble_eq_true rfl) rfl ?_
      refine g_goto (tgt := 27) dX9_years_111 (by decide) ?_
      refine g_sub [1, 2, 3, 4, 0] rfl ?_
      exact ih o13.1 o13.2.1 (b6 + (1 : Int32)) o13.2.2 _ hf hk

set_option maxRecDepth 100000 in
theorem t_X9_years {V : eV} {a1 : Int32} {a2 : Int32}  {m : mM} {q : Int32 × mM} (hf : f_X9_years a1 a2 m = some q) : eE V 8 yX9_years cX9_years 9 (some .int) [.ref (vB V + 187), .int a1, .int a2] (hS m) (some (.int q.1)) (hS q.2) := by
  refine eE_of (by decide) (Nat.le_of_ble_eq_true rfl) ?_
  show gG V k_X9_years 0 [(0, .ref (vB V + 187)), (1, .int a1), (2, .int a2)] [] (hS m) _ _
  unfold f_X9_years at hf
  refine g_iload_n 1 dX9_years_0 rfl rfl ?_
  refine g_iconst (v := 1) dX9_years_1 rfl ?_
  refine g_bipush (v := 10) dX9_years_2 rfl ?_
  obtain ⟨q1, e2, hf⟩ := bnd_some hf
  refine p_callS (As := [.int a1, .int (1 : Int32), .int (10 : Int32)]) (rest := []) (t_X9_within e2) cw_1128 w_1129 (Nat.le_of_ble_eq_true rfl) rfl rfl (Nat.le_of_ble_eq_true rfl) dX9_years_4 ?_
  refine g_istore_n dX9_years_7 rfl (Nat.le_of_ble_eq_true rfl) rfl ?_
  refine g_iload_n 0 dX9_years_8 rfl rfl ?_
  refine g_if_eq (tgt := 18) dX9_years_9 (by decide) (fun c20 => ?_) (fun c20 => ?_)
  · replace hf := (if_pos c20).symm.trans hf
    refine g_iload_n 3 dX9_years_18 rfl rfl ?_
    refine g_istore dX9_years_19 (Nat.le_of_ble_eq_true rfl) rfl ?_
    refine g_iconst (v := 0) dX9_years_21 rfl ?_
    refine g_istore dX9_years_22 (Nat.le_of_ble_eq_true rfl) rfl ?_
    refine g_iconst (v := 0) dX9_years_24 rfl ?_
    refine g_istore dX9_years_25 (Nat.le_of_ble_eq_true rfl) rfl ?_
    refine g_sub [4, 5, 2, 1, 0] rfl ?_
    obtain ⟨o16, e17, hf⟩ := bnd_some hf
    refine t_X9_years_L27 (V := V) a1 fU a2 (0 : Int32) (0 : Int32) m _ e17 ?_
    refine g_iload 0 dX9_years_114 rfl ?_
    cases hf
    exact g_iret dX9_years_116 .int rfl rfl
  · replace hf := (if_neg c20).symm.trans hf
    refine g_aload_n 1 dX9_years_12 rfl rfl ?_
    refine g_iload_n 0 dX9_years_13 rfl rfl ?_
    obtain ⟨q18, e19, hf⟩ := bnd_some hf
    refine p_callV (As := [.int q1]) (rest := []) (t_X9_refuse e19) cw_1000 w_1002 w_22 ob_187 rfl (Nat.le_of_ble_eq_true rfl) rfl rfl (Nat.le_of_ble_eq_true rfl) dX9_years_14 ?_
    cases hf
    exact g_iret dX9_years_17 .int rfl rfl

abbrev k_X9_row : kX := (cX9_row, "WhoseHourItIsModel", "row", some .int, 3, 1)
def f_X9_row_J24 (b1 : Int32) (b2 : Int32) (m : mM) : Option (Int32 × mM) :=
if b2 = 0 then (
bnd (wrA 199 28 (m 187 21) b1 m) fun m3 =>
bnd (some (m_up m3 187 21 ((m3 187 21) + (1 : Int32)))) fun m5 =>
some ((m5 187 21), m5))
else (
bnd (f_X9_refuse b2 m) fun q7 =>
some (q7.1, q7.2))
def f_X9_row (a1 : Int32) (m : mM) : Option (Int32 × mM) :=
bnd (f_X9_within a1 (0 : Int32) (9 : Int32) m) fun q1 =>
if q1 = 0 then (
if (m 187 21) = (28 : Int32) then (
f_X9_row_J24 a1 (-6 : Int32) m)
else (
f_X9_row_J24 a1 q1 m))
else (
f_X9_row_J24 a1 q1 m)
set_option maxRecDepth 100000 in
theorem t_X9_row_J24 {V : eV} {b1 : Int32} {b2 : Int32} {m : mM} {q : Int32 × mM} (hf : f_X9_row_J24 b1 b2 m = some q) : gG V k_X9_row 24 [(0, .ref (vB V + 187)), (1, .int b1), (2, .int b2)] [] (hS m) (some (.int q.1)) (hS q.2) := by
  unfold f_X9_row_J24 at hf
  refine g_iload_n 2 dX9_row_24 rfl rfl ?_
  refine g_if_eq (tgt := 34) dX9_row_25 (by decide) (fun c9 => ?_) (fun c9 => ?_)
  · replace hf := (if_pos c9).symm.trans hf
    refine g_aload_n 0 dX9_row_34 rfl rfl ?_
    refine gf_949 dX9_row_35 rfl ob_187 rfl ?_
    refine g_aload_n 0 dX9_row_38 rfl rfl ?_
    refine gf_950 dX9_row_39 rfl ob_187 rfl ?_
    refine g_iload_n 1 dX9_row_42 rfl rfl ?_
    obtain ⟨m3, e4, hf⟩ := bnd_some hf
    refine p_iast dX9_row_43 at_199 e4 ?_
    refine g_aload_n 0 dX9_row_44 rfl rfl ?_
    refine g_dup dX9_row_45 rfl ?_
    refine gf_950 dX9_row_46 rfl ob_187 rfl ?_
    refine g_iconst (v := 1) dX9_row_49 rfl ?_
    refine g_iadd dX9_row_50 ?_
    obtain ⟨m5, e6, hf⟩ := bnd_some hf
    cases e6
    refine pf_950 dX9_row_51 rfl ob_187 rfl ?_
    generalize m_up m3 187 21 ((m3 187 21) + (1 : Int32)) = m5 at hf ⊢
    refine g_aload_n 0 dX9_row_54 rfl rfl ?_
    refine gf_950 dX9_row_55 rfl ob_187 rfl ?_
    cases hf
    exact g_iret dX9_row_58 .int rfl rfl
  · replace hf := (if_neg c9).symm.trans hf
    refine g_aload_n 0 dX9_row_28 rfl rfl ?_
    refine g_iload_n 2 dX9_row_29 rfl rfl ?_
    obtain ⟨q7, e8, hf⟩ := bnd_some hf
    refine p_callV (As := [.int b2]) (rest := []) (t_X9_refuse e8) cw_1000 w_1002 w_22 ob_187 rfl (Nat.le_of_ble_eq_true rfl) rfl rfl (Nat.le_of_ble_eq_true rfl) dX9_row_30 ?_
    cases hf
    exact g_iret dX9_row_33 .int rfl rfl

set_option maxRecDepth 100000 in
theorem t_X9_row {V : eV} {a1 : Int32}  {m : mM} {q : Int32 × mM} (hf : f_X9_row a1 m = some q) : eE V 1 yX9_row cX9_row 3 (some .int) [.ref (vB V + 187), .int a1] (hS m) (some (.int q.1)) (hS q.2) := by
  refine eE_of (by decide) (Nat.le_of_ble_eq_true rfl) ?_
  show gG V k_X9_row 0 [(0, .ref (vB V + 187)), (1, .int a1)] [] (hS m) _ _
  unfold f_X9_row at hf
  refine g_iload_n 1 dX9_row_0 rfl rfl ?_
  refine g_iconst (v := 0) dX9_row_1 rfl ?_
  refine g_bipush (v := 9) dX9_row_2 rfl ?_
  obtain ⟨q1, e2, hf⟩ := bnd_some hf
  refine p_callS (As := [.int a1, .int (0 : Int32), .int (9 : Int32)]) (rest := []) (t_X9_within e2) cw_1128 w_1129 (Nat.le_of_ble_eq_true rfl) rfl rfl (Nat.le_of_ble_eq_true rfl) dX9_row_4 ?_
  refine g_istore_n dX9_row_7 rfl (Nat.le_of_ble_eq_true rfl) rfl ?_
  refine g_iload_n 0 dX9_row_8 rfl rfl ?_
  refine g_if_ne (tgt := 24) dX9_row_9 (by decide) (fun c11 => ?_) (fun c11 => ?_)
  · replace hf := (if_neg c11).symm.trans hf
    refine g_sub [1, 2, 0] rfl ?_
    exact t_X9_row_J24 hf
  · replace hf := (if_pos c11).symm.trans hf
    refine g_aload_n 1 dX9_row_12 rfl rfl ?_
    refine gf_950 dX9_row_13 rfl ob_187 rfl ?_
    refine g_bipush (v := 28) dX9_row_16 rfl ?_
    refine g_icmp_ne (tgt := 24) dX9_row_18 (by decide) (fun c10 => ?_) (fun c10 => ?_)
    · replace hf := (if_neg c10).symm.trans hf
      refine g_sub [1, 2, 0] rfl ?_
      exact t_X9_row_J24 hf
    · replace hf := (if_pos c10).symm.trans hf
      refine g_bipush (v := -6) dX9_row_21 rfl ?_
      refine g_istore_n dX9_row_23 rfl (Nat.le_of_ble_eq_true rfl) rfl ?_
      refine g_sub [1, 2, 0] rfl ?_
      exact t_X9_row_J24 hf

