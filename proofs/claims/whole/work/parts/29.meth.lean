/-! printed by wip/whole/gen_meth.py: plain functions of the methods, and that the bytecode does as they say -/
abbrev k_X9_firstWrong : kX := (cX9_firstWrong, "WhoseHourItIsModel", "firstWrong", some .int, 4, 4)
def f_X9_firstWrong_L2 (b1 : Int32) (m : mM) : Nat → Int32 → Option ((Int32) ⊕ (Unit))
  | 0, _ => none
  | n + 1, b2 =>
      if b1 ≤ b2 then (
      some (.inr ()))
      else (
      bnd (rdA 199 28 b2 m) fun v1 =>
      if v1 = (9 : Int32) then (
      f_X9_firstWrong_L2 b1 m n (b2 + (1 : Int32)))
      else (
      bnd (f_X9_isWork v1 m) fun q3 =>
      if q3 = 0 then (
      some (.inl b2))
      else (
      bnd (f_X9_of v1 (3 : Int32) m) fun q5 =>
      if q5 < b2 then (
      some (.inl b2))
      else (
      bnd (f_X9_hourOf v1 b2 m) fun q7 =>
      if q7 < (100000 : Int32) then (
      f_X9_firstWrong_L2 b1 m n (b2 + (1 : Int32)))
      else (
      some (.inl b2))))))
def f_X9_firstWrong (a1 : Int32) (m : mM) : Option (Int32) :=
bnd (f_X9_firstWrong_L2 a1 m fU (0 : Int32)) fun o14 =>
ora o14 (fun zq => some zq) fun x15 =>
some (-9 : Int32)
set_option maxRecDepth 100000 in
theorem t_X9_firstWrong_L2 {V : eV} (b1 : Int32) (m : mM) {r : Option Value} {h' : aH} : ∀ (n : Nat) (b2 : Int32) (o : (Int32) ⊕ (Unit)), f_X9_firstWrong_L2 b1 m n b2 = some o → lxP (hS m) o r h' (fun x => gG V k_X9_firstWrong 60 [] [] (hS m) r h') → gG V k_X9_firstWrong 2 [(0, .ref (vB V + 187)), (1, .int b1), (2, .int b2)] [] (hS m) r h' := by
  intro n
  induction n with
  | zero => intro b2 o hf; cases hf
  | succ n ih =>
    intro b2 o hf hk
    rw [f_X9_firstWrong_L2] at hf
    refine g_iload_n 2 dX9_firstWrong_2 rfl rfl ?_
    refine g_iload_n 1 dX9_firstWrong_3 rfl rfl ?_
    refine g_icmp_ge (tgt := 60) dX9_firstWrong_4 (by decide) (fun c13 => ?_) (fun c13 => ?_)
    · replace hf := (if_pos c13).symm.trans hf
      cases hf
      refine g_sub [] rfl ?_
      exact hk
    · replace hf := (if_neg c13).symm.trans hf
      refine g_aload_n 0 dX9_firstWrong_7 rfl rfl ?_
      refine gf_949 dX9_firstWrong_8 rfl ob_187 rfl ?_
      refine g_iload_n 2 dX9_firstWrong_11 rfl rfl ?_
      obtain ⟨v1, e2, hf⟩ := bnd_some hf
      refine p_iald dX9_firstWrong_12 at_199 e2 ?_
      refine g_istore_n dX9_firstWrong_13 rfl (Nat.le_of_ble_eq_true rfl) rfl ?_
      refine g_iload_n 0 dX9_firstWrong_14 rfl rfl ?_
      refine g_bipush (v := 9) dX9_firstWrong_15 rfl ?_
      refine g_icmp_ne (tgt := 23) dX9_firstWrong_17 (by decide) (fun c12 => ?_) (fun c12 => ?_)
      · replace hf := (if_neg c12).symm.trans hf
        refine g_aload_n 1 dX9_firstWrong_23 rfl rfl ?_
        refine g_iload_n 0 dX9_firstWrong_24 rfl rfl ?_
        obtain ⟨q3, e4, hf⟩ := bnd_some hf
        refine p_callV (As := [.int v1]) (rest := []) (t_X9_isWork e4) cw_1120 w_1122 w_43 ob_187 rfl (Nat.le_of_ble_eq_true rfl) rfl rfl (Nat.le_of_ble_eq_true rfl) dX9_firstWrong_25 ?_
        refine g_if_eq (tgt := 52) dX9_firstWrong_28 (by decide) (fun c11 => ?_) (fun c11 => ?_)
        · replace hf := (if_pos c11).symm.trans hf
          refine g_iload_n 3 dX9_firstWrong_52 rfl rfl ?_
          cases hf
          obtain ⟨rfl, rfl⟩ := hk
          exact g_iret dX9_firstWrong_53 .int rfl rfl
        · replace hf := (if_neg c11).symm.trans hf
          refine g_iload_n 3 dX9_firstWrong_31 rfl rfl ?_
          refine g_aload_n 1 dX9_firstWrong_32 rfl rfl ?_
          refine g_iload_n 0 dX9_firstWrong_33 rfl rfl ?_
          refine g_iconst (v := 3) dX9_firstWrong_34 rfl ?_
          obtain ⟨q5, e6, hf⟩ := bnd_some hf
          refine p_callV (As := [.int v1, .int (3 : Int32)]) (rest := [.int b2]) (t_X9_of e6) cw_1072 w_1074 w_34 ob_187 rfl (Nat.le_of_ble_eq_true rfl) rfl rfl (Nat.le_of_ble_eq_true rfl) dX9_firstWrong_35 ?_
          refine g_icmp_gt (tgt := 52) dX9_firstWrong_38 (by decide) (fun c10 => ?_) (fun c10 => ?_)
          · replace hf := (if_pos c10).symm.trans hf
            refine g_iload_n 3 dX9_firstWrong_52 rfl rfl ?_
            cases hf
            obtain ⟨rfl, rfl⟩ := hk
            exact g_iret dX9_firstWrong_53 .int rfl rfl
          · replace hf := (if_neg c10).symm.trans hf
            refine g_aload_n 1 dX9_firstWrong_41 rfl rfl ?_
            refine g_iload_n 0 dX9_firstWrong_42 rfl rfl ?_
            refine g_iload_n 3 dX9_firstWrong_43 rfl rfl ?_
            obtain ⟨q7, e8, hf⟩ := bnd_some hf
            refine p_callV (As := [.int v1, .int b2]) (rest := []) (t_X9_hourOf e8) cw_1092 w_1094 w_39 ob_187 rfl (Nat.le_of_ble_eq_true rfl) rfl rfl (Nat.le_of_ble_eq_true rfl) dX9_firstWrong_44 ?_
            refine g_ldc w_1104 dX9_firstWrong_47 ?_
            refine g_icmp_lt (tgt := 54) dX9_firstWrong_49 (by decide) (fun c9 => ?_) (fun c9 => ?_)
            · replace hf := (if_pos c9).symm.trans hf
              refine g_iinc (q := 3) (v := (b2 + (1 : Int32))) dX9_firstWrong_54 rfl rfl (Nat.le_of_ble_eq_true rfl) rfl ?_
              refine g_goto (tgt := 2) dX9_firstWrong_57 (by decide) ?_
              refine g_sub [2, 3, 0] rfl ?_
              exact ih (b2 + (1 : Int32)) _ hf hk
            · replace hf := (if_neg c9).symm.trans hf
              refine g_iload_n 3 dX9_firstWrong_52 rfl rfl ?_
              cases hf
              obtain ⟨rfl, rfl⟩ := hk
              exact g_iret dX9_firstWrong_53 .int rfl rfl
      · replace hf := (if_pos c12).symm.trans hf
        refine g_goto (tgt := 54) dX9_firstWrong_20 (by decide) ?_
        refine g_iinc (q := 3) (v := (b2 + (1 : Int32))) dX9_firstWrong_54 rfl rfl (Nat.le_of_ble_eq_true rfl) rfl ?_
        refine g_goto (tgt := 2) dX9_firstWrong_57 (by decide) ?_
        refine g_sub [2, 3, 0] rfl ?_
        exact ih (b2 + (1 : Int32)) _ hf hk

set_option maxRecDepth 100000 in
theorem t_X9_firstWrong {V : eV} {a1 : Int32}  {m : mM} {q : Int32} (hf : f_X9_firstWrong a1 m = some q) : eE V 4 yX9_firstWrong cX9_firstWrong 4 (some .int) [.ref (vB V + 187), .int a1] (hS m) (some (.int q)) (hS m) := by
  refine eE_of (by decide) (Nat.le_of_ble_eq_true rfl) ?_
  show gG V k_X9_firstWrong 0 [(0, .ref (vB V + 187)), (1, .int a1)] [] (hS m) _ _
  unfold f_X9_firstWrong at hf
  refine g_iconst (v := 0) dX9_firstWrong_0 rfl ?_
  refine g_istore_n dX9_firstWrong_1 rfl (Nat.le_of_ble_eq_true rfl) rfl ?_
  refine g_sub [1, 2, 0] rfl ?_
  obtain ⟨o14, e16, hf⟩ := bnd_some hf
  refine t_X9_firstWrong_L2 (V := V) a1 m fU (0 : Int32) _ e16 ?_
  rcases o14 with zq | x15
  · replace hf := ora_l hf
    cases hf
    exact ⟨rfl, rfl⟩
  · replace hf := ora_r hf
    show gG V _ _ _ _ _ _ _
    refine g_bipush (v := -9) dX9_firstWrong_60 rfl ?_
    cases hf
    exact g_iret dX9_firstWrong_62 .int rfl rfl

abbrev k_X9_isDone : kX := (cX9_isDone, "WhoseHourItIsModel", "isDone", some .boolean, 7, 1)
def f_X9_isDone_L12 (b1 : Int32) (b2 : Int32) (m : mM) : Nat → Int32 → Int32 → Int32 → Int32 → Option ((Int32) ⊕ (Int32))
  | 0, _, _, _, _ => none
  | n + 1, b3, b4, b5, b6 =>
      if b2 ≤ b6 then (
      some (.inr b3))
      else (
      bnd (rdA 199 28 b6 m) fun v1 =>
      if v1 = b1 then (
      bnd (f_X9_of b1 (1 : Int32) m) fun q3 =>
      if q3 = (1 : Int32) then (
      if ((b4 >>> ((b6 / (4 : Int32)) &&& 31)) &&& (1 : Int32)) = (1 : Int32) then (
      some (.inl (0 : Int32)))
      else (
      f_X9_isDone_L12 b1 b2 m n (b3 + (1 : Int32)) (b4 ||| ((1 : Int32) <<< ((b6 / (4 : Int32)) &&& 31))) b6 (b6 + (1 : Int32))))
      else (
      if b3 ≤ 0 then (
      f_X9_isDone_L12 b1 b2 m n (b3 + (1 : Int32)) (b4 ||| ((1 : Int32) <<< ((b6 / (4 : Int32)) &&& 31))) b6 (b6 + (1 : Int32)))
      else (
      if b5 = (b6 - (1 : Int32)) then (
      f_X9_isDone_L12 b1 b2 m n (b3 + (1 : Int32)) (b4 ||| ((1 : Int32) <<< ((b6 / (4 : Int32)) &&& 31))) b6 (b6 + (1 : Int32)))
      else (
      some (.inl (0 : Int32))))))
      else (
      f_X9_isDone_L12 b1 b2 m n b3 b4 b5 (b6 + (1 : Int32))))
def f_X9_isDone (a1 : Int32) (a2 : Int32) (m : mM) : Option (Int32) :=
bnd (f_X9_isDone_L12 a1 a2 m fU (0 : Int32) (0 : Int32) (-9 : Int32) (0 : Int32)) fun o11 =>
ora o11 (fun zq => some zq) fun x12 =>
bnd (f_X9_of a1 (2 : Int32) m) fun q14 =>
if x12 = q14 then (
some (1 : Int32))
else (
some (0 : Int32))
set_option maxRecDepth 100000 in
theorem t_X9_isDone_L12 {V : eV} (b1 : Int32) (b2 : Int32) (m : mM) {r : Option Value} {h' : aH} : ∀ (n : Nat) (b3 : Int32) (b4 : Int32) (b5 : Int32) (b6 : Int32) (o : (Int32) ⊕ (Int32)), f_X9_isDone_L12 b1 b2 m n b3 b4 b5 b6 = some o → lxP (hS m) o r h' (fun x => gG V k_X9_isDone 97 [(0, .ref (vB V + 187)), (1, .int b1), (3, .int x)] [] (hS m) r h') → gG V k_X9_isDone 12 [(0, .ref (vB V + 187)), (1, .int b1), (2, .int b2), (3, .int b3), (4, .int b4), (5, .int b5), (6, .int b6)] [] (hS m) r h' := by
  intro n
  induction n with
  | zero => intro b3 b4 b5 b6 o hf; cases hf
  | succ n ih =>
    intro b3 b4 b5 b6 o hf hk
    rw [f_X9_isDone_L12] at hf
    refine g_iload 6 dX9_isDone_12 rfl ?_
    refine g_iload_n 2 dX9_isDone_14 rfl rfl ?_
    refine g_icmp_ge (tgt := 97) dX9_isDone_15 (by decide) (fun c10 => ?_) (fun c10 => ?_)
    · replace hf := (if_pos c10).symm.trans hf
      cases hf
      refine g_sub [0, 1, 3] rfl ?_
      exact hk
    · replace hf := (if_neg c10).symm.trans hf
      refine g_aload_n 0 dX9_isDone_18 rfl rfl ?_
      refine gf_949 dX9_isDone_19 rfl ob_187 rfl ?_
      refine g_iload 6 dX9_isDone_22 rfl ?_
      obtain ⟨v1, e2, hf⟩ := bnd_some hf
      refine p_iald dX9_isDone_24 at_199 e2 ?_
      refine g_iload_n 1 dX9_isDone_25 rfl rfl ?_
      refine g_icmp_eq (tgt := 32) dX9_isDone_26 (by decide) (fun c9 => ?_) (fun c9 => ?_)
      · replace hf := (if_pos c9).symm.trans hf
        refine g_aload_n 0 dX9_isDone_32 rfl rfl ?_
        refine g_iload_n 1 dX9_isDone_33 rfl rfl ?_
        refine g_iconst (v := 1) dX9_isDone_34 rfl ?_
        obtain ⟨q3, e4, hf⟩ := bnd_some hf
        refine p_callV (As := [.int b1, .int (1 : Int32)]) (rest := []) (t_X9_of e4) cw_1072 w_1074 w_34 ob_187 rfl (Nat.le_of_ble_eq_true rfl) rfl rfl (Nat.le_of_ble_eq_true rfl) dX9_isDone_35 ?_
        refine g_iconst (v := 1) dX9_isDone_38 rfl ?_
        refine g_icmp_ne (tgt := 58) dX9_isDone_39 (by decide) (fun c8 => ?_) (fun c8 => ?_)
        · replace hf := (if_neg c8).symm.trans hf
          refine g_iload_n 3 dX9_isDone_58 rfl rfl ?_
          refine g_if_le (tgt := 73) dX9_isDone_59 (by decide) (fun c7 => ?_) (fun c7 => ?_)
          · replace hf := (if_pos c7).symm.trans hf
            refine g_iinc (q := 3) (v := (b3 + (1 : Int32))) dX9_isDone_73 rfl rfl (Nat.le_of_ble_eq_true rfl) rfl ?_
            refine g_iload 4 dX9_isDone_76 rfl ?_
            refine g_iconst (v := 1) dX9_isDone_78 rfl ?_
            refine g_iload 6 dX9_isDone_79 rfl ?_
            refine g_iconst (v := 4) dX9_isDone_81 rfl ?_
            refine g_idiv dX9_isDone_82 (by decide) ?_
            refine g_ishl dX9_isDone_83 ?_
            refine g_ior dX9_isDone_84 ?_
            refine g_istore dX9_isDone_85 (Nat.le_of_ble_eq_true rfl) rfl ?_
            refine g_iload 6 dX9_isDone_87 rfl ?_
            refine g_istore dX9_isDone_89 (Nat.le_of_ble_eq_true rfl) rfl ?_
            refine g_iinc (q := 6) (v := (b6 + (1 : Int32))) dX9_isDone_91 rfl rfl (Nat.le_of_ble_eq_true rfl) rfl ?_
            refine g_goto (tgt := 12) dX9_isDone_94 (by decide) ?_
            refine g_sub [4, 5, 6, 3, 2, 1, 0] rfl ?_
            exact ih (b3 + (1 : Int32)) (b4 ||| ((1 : Int32) <<< ((b6 / (4 : Int32)) &&& 31))) b6 (b6 + (1 : Int32)) _ hf hk
          · replace hf := (if_neg c7).symm.trans hf
            refine g_iload 5 dX9_isDone_62 rfl ?_
            refine g_iload 6 dX9_isDone_64 rfl ?_
            refine g_iconst (v := 1) dX9_isDone_66 rfl ?_
            refine g_isub dX9_isDone_67 ?_
            refine g_icmp_eq (tgt := 73) dX9_isDone_68 (by decide) (fun c6 => ?_) (fun c6 => ?_)
            · replace hf := (if_pos c6).symm.trans hf
              refine g_iinc (q := 3) (v := (b3 + (1 : Int32))) dX9_isDone_73 rfl rfl (Nat.le_of_ble_eq_true rfl) rfl ?_
              refine g_iload 4 dX9_isDone_76 rfl ?_
              refine g_iconst (v := 1) dX9_isDone_78 rfl ?_
              refine g_iload 6 dX9_isDone_79 rfl ?_
              refine g_iconst (v := 4) dX9_isDone_81 rfl ?_
              refine g_idiv dX9_isDone_82 (by decide) ?_
              refine g_ishl dX9_isDone_83 ?_
              refine g_ior dX9_isDone_84 ?_
              refine g_istore dX9_isDone_85 (Nat.le_of_ble_eq_true rfl) rfl ?_
              refine g_iload 6 dX9_isDone_87 rfl ?_
              refine g_istore dX9_isDone_89 (Nat.le_of_ble_eq_true rfl) rfl ?_
              refine g_iinc (q := 6) (v := (b6 + (1 : Int32))) dX9_isDone_91 rfl rfl (Nat.le_of_ble_eq_true rfl) rfl ?_
              refine g_goto (tgt := 12) dX9_isDone_94 (by decide) ?_
              refine g_sub [4, 5, 6, 3, 2, 1, 0] rfl ?_
              exact ih (b3 + (1 : Int32)) (b4 ||| ((1 : Int32) <<< ((b6 / (4 : Int32)) &&& 31))) b6 (b6 + (1 : Int32)) _ hf hk
            · replace hf := (if_neg c6).symm.trans hf
              refine g_iconst (v := 0) dX9_isDone_71 rfl ?_
              cases hf
              obtain ⟨rfl, rfl⟩ := hk
              exact g_iret dX9_isDone_72 .boolean rfl rfl
        · replace hf := (if_pos c8).symm.trans hf
          refine g_iload 4 dX9_isDone_42 rfl ?_
          refine g_iload 6 dX9_isDone_44 rfl ?_
          refine g_iconst (v := 4) dX9_isDone_46 rfl ?_
          refine g_idiv dX9_isDone_47 (by decide) ?_
          refine g_ishr dX9_isDone_48 ?_
          refine g_iconst (v := 1) dX9_isDone_49 rfl ?_
          refine g_iand dX9_isDone_50 ?_
          refine g_iconst (v := 1) dX9_isDone_51 rfl ?_
          refine g_icmp_ne (tgt := 73) dX9_isDone_52 (by decide) (fun c5 => ?_) (fun c5 => ?_)
          · replace hf := (if_neg c5).symm.trans hf
            refine g_iinc (q := 3) (v := (b3 + (1 : Int32))) dX9_isDone_73 rfl rfl (Nat.le_of_ble_eq_true rfl) rfl ?_
            refine g_iload 4 dX9_isDone_76 rfl ?_
            refine g_iconst (v := 1) dX9_isDone_78 rfl ?_
            refine g_iload 6 dX9_isDone_79 rfl ?_
            refine g_iconst (v := 4) dX9_isDone_81 rfl ?_
            refine g_idiv dX9_isDone_82 (by decide) ?_
            refine g_ishl dX9_isDone_83 ?_
            refine g_ior dX9_isDone_84 ?_
            refine g_istore dX9_isDone_85 (Nat.le_of_ble_eq_true rfl) rfl ?_
            refine g_iload 6 dX9_isDone_87 rfl ?_
            refine g_istore dX9_isDone_89 (Nat.le_of_ble_eq_true rfl) rfl ?_
            refine g_iinc (q := 6) (v := (b6 + (1 : Int32))) dX9_isDone_91 rfl rfl (Nat.le_of_ble_eq_true rfl) rfl ?_
            refine g_goto (tgt := 12) dX9_isDone_94 (by decide) ?_
            refine g_sub [4, 5, 6, 3, 2, 1, 0] rfl ?_
            exact ih (b3 + (1 : Int32)) (b4 ||| ((1 : Int32) <<< ((b6 / (4 : Int32)) &&& 31))) b6 (b6 + (1 : Int32)) _ hf hk
          · replace hf := (if_pos c5).symm.trans hf
            refine g_goto (tgt := 71) dX9_isDone_55 (by decide) ?_
            refine g_iconst (v := 0) dX9_isDone_71 rfl ?_
            cases hf
            obtain ⟨rfl, rfl⟩ := hk
            exact g_iret dX9_isDone_72 .boolean rfl rfl
      · replace hf := (if_neg c9).symm.trans hf
        refine g_goto (tgt := 91) dX9_isDone_29 (by decide) ?_
        refine g_iinc (q := 6) (v := (b6 + (1 : Int32))) dX9_isDone_91 rfl rfl (Nat.le_of_ble_eq_true rfl) rfl ?_
        refine g_goto (tgt := 12) dX9_isDone_94 (by decide) ?_
        refine g_sub [1, 2, 3, 4, 5, 6, 0] rfl ?_
        exact ih b3 b4 b5 (b6 + (1 : Int32)) _ hf hk

set_option maxRecDepth 100000 in
theorem t_X9_isDone {V : eV} {a1 : Int32} {a2 : Int32}  {m : mM} {q : Int32} (hf : f_X9_isDone a1 a2 m = some q) : eE V 1 yX9_isDone cX9_isDone 7 (some .boolean) [.ref (vB V + 187), .int a1, .int a2] (hS m) (some (.int q)) (hS m) := by
  refine eE_of (by decide) (Nat.le_of_ble_eq_true rfl) ?_
  show gG V k_X9_isDone 0 [(0, .ref (vB V + 187)), (1, .int a1), (2, .int a2)] [] (hS m) _ _
  unfold f_X9_isDone at hf
  refine g_iconst (v := 0) dX9_isDone_0 rfl ?_
  refine g_istore_n dX9_isDone_1 rfl (Nat.le_of_ble_eq_true rfl) rfl ?_
  refine g_iconst (v := 0) dX9_isDone_2 rfl ?_
  refine g_istore dX9_isDone_3 (Nat.le_of_ble_eq_true rfl) rfl ?_
  refine g_bipush (v := -9) dX9_isDone_5 rfl ?_
  refine g_istore dX9_isDone_7 (Nat.le_of_ble_eq_true rfl) rfl ?_
  refine g_iconst (v := 0) dX9_isDone_9 rfl ?_
  refine g_istore dX9_isDone_10 (Nat.le_of_ble_eq_true rfl) rfl ?_
  refine g_sub [4, 5, 6, 3, 2, 1, 0] rfl ?_
  obtain ⟨o11, e13, hf⟩ := bnd_some hf
  refine t_X9_isDone_L12 (V := V) a1 a2 m fU (0 : Int32) (0 : Int32) (-9 : Int32) (0 : Int32) _ e13 ?_
  rcases o11 with zq | x12
  · replace hf := ora_l hf
    cases hf
    exact ⟨rfl, rfl⟩
  · replace hf := ora_r hf
    show gG V _ _ _ _ _ _ _
    refine g_iload_n 2 dX9_isDone_97 rfl rfl ?_
    refine g_aload_n 0 dX9_isDone_98 rfl rfl ?_
    refine g_iload_n 1 dX9_isDone_99 rfl rfl ?_
    refine g_iconst (v := 2) dX9_isDone_100 rfl ?_
    obtain ⟨q14, e15, hf⟩ := bnd_some hf
    refine p_callV (As := [.int a1, .int (2 : Int32)]) (rest := [.int x12]) (t_X9_of e15) cw_1072 w_1074 w_34 ob_187 rfl (Nat.le_of_ble_eq_true rfl) rfl rfl (Nat.le_of_ble_eq_true rfl) dX9_isDone_101 ?_
    refine g_icmp_ne (tgt := 111) dX9_isDone_104 (by decide) (fun c16 => ?_) (fun c16 => ?_)
    · replace hf := (if_neg c16).symm.trans hf
      refine g_iconst (v := 0) dX9_isDone_111 rfl ?_
      cases hf
      exact g_iret dX9_isDone_112 .boolean rfl rfl
    · replace hf := (if_pos c16).symm.trans hf
      refine g_iconst (v := 1) dX9_isDone_107 rfl ?_
      refine g_goto (tgt := 112) dX9_isDone_108 (by decide) ?_
      cases hf
      exact g_iret dX9_isDone_112 .boolean rfl rfl

abbrev k_X9_judge : kX := (cX9_judge, "WhoseHourItIsModel", "judge", some .int, 4, 5)
def f_X9_judge_L37 (b2 : Int32) (m : mM) : Nat → Int32 → Option ((Int32 × mM) ⊕ (Unit))
  | 0, _ => none
  | n + 1, b3 =>
      bnd (rdA 189 189 (1 : Int32) m) fun v9 =>
      if v9 ≤ b3 then (
      some (.inr ()))
      else (
      bnd (f_X9_isDone b3 b2 m) fun q11 =>
      if q11 = 0 then (
      some (.inl (b3, m)))
      else (
      f_X9_judge_L37 b2 m n (b3 + (1 : Int32))))
def f_X9_judge (a1 : Int32) (m : mM) : Option (Int32 × mM) :=
bnd (f_X9_isIn a1 (2 : Int32) m) fun q1 =>
if q1 = 0 then (
bnd (f_X9_refuse (-2 : Int32) m) fun q3 =>
some (q3.1, q3.2))
else (
bnd (some (m_up m 187 21 (0 : Int32))) fun m5 =>
if a1 = 0 then (
bnd (f_X9_firstWrong (m 187 21) m5) fun q7 =>
some (q7, m5))
else (
bnd (f_X9_judge_L37 (m 187 21) m5 fU (0 : Int32)) fun o15 =>
ora o15 (fun zq => some zq) fun x16 =>
some ((-9 : Int32), m5)))
set_option maxRecDepth 100000 in
theorem t_X9_judge_L37 {V : eV} (b2 : Int32) (m : mM) {r : Option Value} {h' : aH} : ∀ (n : Nat) (b3 : Int32) (o : (Int32 × mM) ⊕ (Unit)), f_X9_judge_L37 b2 m n b3 = some o → lxI hS o r h' (fun x => gG V k_X9_judge 64 [] [] (hS m) r h') → gG V k_X9_judge 37 [(0, .ref (vB V + 187)), (2, .int b2), (3, .int b3)] [] (hS m) r h' := by
  intro n
  induction n with
  | zero => intro b3 o hf; cases hf
  | succ n ih =>
    intro b3 o hf hk
    rw [f_X9_judge_L37] at hf
    refine g_iload_n 2 dX9_judge_37 rfl rfl ?_
    refine g_aload_n 0 dX9_judge_38 rfl rfl ?_
    refine gf_930 dX9_judge_39 rfl ob_187 rfl ?_
    refine g_iconst (v := 1) dX9_judge_42 rfl ?_
    obtain ⟨v9, e10, hf⟩ := bnd_some hf
    refine p_iald dX9_judge_43 at_189 e10 ?_
    refine g_icmp_ge (tgt := 64) dX9_judge_44 (by decide) (fun c14 => ?_) (fun c14 => ?_)
    · replace hf := (if_pos c14).symm.trans hf
      cases hf
      refine g_sub [] rfl ?_
      exact hk
    · replace hf := (if_neg c14).symm.trans hf
      refine g_aload_n 0 dX9_judge_47 rfl rfl ?_
      refine g_iload_n 2 dX9_judge_48 rfl rfl ?_
      refine g_iload_n 1 dX9_judge_49 rfl rfl ?_
      obtain ⟨q11, e12, hf⟩ := bnd_some hf
      refine p_callV (As := [.int b3, .int b2]) (rest := []) (t_X9_isDone e12) cw_1285 w_1287 w_55 ob_187 rfl (Nat.le_of_ble_eq_true rfl) rfl rfl (Nat.le_of_ble_eq_true rfl) dX9_judge_50 ?_
      refine g_if_ne (tgt := 58) dX9_judge_53 (by decide) (fun c13 => ?_) (fun c13 => ?_)
      · replace hf := (if_neg c13).symm.trans hf
        refine g_iinc (q := 2) (v := (b3 + (1 : Int32))) dX9_judge_58 rfl rfl (Nat.le_of_ble_eq_true rfl) rfl ?_
        refine g_goto (tgt := 37) dX9_judge_61 (by decide) ?_
        refine g_sub [1, 2, 0] rfl ?_
        exact ih (b3 + (1 : Int32)) _ hf hk
      · replace hf := (if_pos c13).symm.trans hf
        refine g_iload_n 2 dX9_judge_56 rfl rfl ?_
        cases hf
        obtain ⟨rfl, rfl⟩ := hk
        exact g_iret dX9_judge_57 .int rfl rfl

set_option maxRecDepth 100000 in
theorem t_X9_judge {V : eV} {a1 : Int32}  {m : mM} {q : Int32 × mM} (hf : f_X9_judge a1 m = some q) : eE V 5 yX9_judge cX9_judge 4 (some .int) [.ref (vB V + 187), .int a1] (hS m) (some (.int q.1)) (hS q.2) := by
  refine eE_of (by decide) (Nat.le_of_ble_eq_true rfl) ?_
  show gG V k_X9_judge 0 [(0, .ref (vB V + 187)), (1, .int a1)] [] (hS m) _ _
  unfold f_X9_judge at hf
  refine g_iload_n 1 dX9_judge_0 rfl rfl ?_
  refine g_iconst (v := 2) dX9_judge_1 rfl ?_
  obtain ⟨q1, e2, hf⟩ := bnd_some hf
  refine p_callS (As := [.int a1, .int (2 : Int32)]) (rest := []) (t_X9_isIn e2) cw_1057 w_1058 (Nat.le_of_ble_eq_true rfl) rfl rfl (Nat.le_of_ble_eq_true rfl) dX9_judge_2 ?_
  refine g_if_ne (tgt := 15) dX9_judge_5 (by decide) (fun c19 => ?_) (fun c19 => ?_)
  · replace hf := (if_neg c19).symm.trans hf
    refine g_aload_n 0 dX9_judge_15 rfl rfl ?_
    refine gf_950 dX9_judge_16 rfl ob_187 rfl ?_
    refine g_istore_n dX9_judge_19 rfl (Nat.le_of_ble_eq_true rfl) rfl ?_
    refine g_aload_n 1 dX9_judge_20 rfl rfl ?_
    refine g_iconst (v := 0) dX9_judge_21 rfl ?_
    obtain ⟨m5, e6, hf⟩ := bnd_some hf
    cases e6
    refine pf_950 dX9_judge_22 rfl ob_187 rfl ?_
    generalize m_up m 187 21 (0 : Int32) = m5 at hf ⊢
    refine g_iload_n 2 dX9_judge_25 rfl rfl ?_
    refine g_if_ne (tgt := 35) dX9_judge_26 (by decide) (fun c18 => ?_) (fun c18 => ?_)
    · replace hf := (if_neg c18).symm.trans hf
      refine g_iconst (v := 0) dX9_judge_35 rfl ?_
      refine g_istore_n dX9_judge_36 rfl (Nat.le_of_ble_eq_true rfl) rfl ?_
      refine g_sub [2, 1, 0] rfl ?_
      obtain ⟨o15, e17, hf⟩ := bnd_some hf
      refine t_X9_judge_L37 (V := V) (m 187 21) m5 fU (0 : Int32) _ e17 ?_
      rcases o15 with zq | x16
      · replace hf := ora_l hf
        cases hf
        exact ⟨rfl, rfl⟩
      · replace hf := ora_r hf
        show gG V _ _ _ _ _ _ _
        refine g_bipush (v := -9) dX9_judge_64 rfl ?_
        cases hf
        exact g_iret dX9_judge_66 .int rfl rfl
    · replace hf := (if_pos c18).symm.trans hf
      refine g_aload_n 1 dX9_judge_29 rfl rfl ?_
      refine g_iload_n 0 dX9_judge_30 rfl rfl ?_
      obtain ⟨q7, e8, hf⟩ := bnd_some hf
      refine p_callV (As := [.int (m 187 21)]) (rest := []) (t_X9_firstWrong e8) cw_1281 w_1283 w_54 ob_187 rfl (Nat.le_of_ble_eq_true rfl) rfl rfl (Nat.le_of_ble_eq_true rfl) dX9_judge_31 ?_
      cases hf
      exact g_iret dX9_judge_34 .int rfl rfl
  · replace hf := (if_pos c19).symm.trans hf
    refine g_aload_n 0 dX9_judge_8 rfl rfl ?_
    refine g_bipush (v := -2) dX9_judge_9 rfl ?_
    obtain ⟨q3, e4, hf⟩ := bnd_some hf
    refine p_callV (As := [.int (-2 : Int32)]) (rest := []) (t_X9_refuse e4) cw_1000 w_1002 w_22 ob_187 rfl (Nat.le_of_ble_eq_true rfl) rfl rfl (Nat.le_of_ble_eq_true rfl) dX9_judge_11 ?_
    cases hf
    exact g_iret dX9_judge_14 .int rfl rfl

abbrev k_X9_copies_189_190 : kX := (cX9_copies, "WhoseHourItIsModel", "copies", none, 3, 0)
def f_X9_copies_189_190_L2 : Nat → Int32 → mM → Option (mM)
  | 0, _, _ => none
  | n + 1, b2, m =>
      if (189 : Int32) ≤ b2 then (
      some m)
      else (
      bnd (rdA 189 189 b2 m) fun v1 =>
      bnd (wrA 190 189 b2 v1 m) fun m3 =>
      f_X9_copies_189_190_L2 n (b2 + (1 : Int32)) m3)
def f_X9_copies_189_190  (m : mM) : Option (mM) :=
bnd (f_X9_copies_189_190_L2 fU (0 : Int32) m) fun o6 =>
some o6
set_option maxRecDepth 100000 in
theorem t_X9_copies_189_190_L2 {V : eV} {r : Option Value} {h' : aH} : ∀ (n : Nat) (b2 : Int32) (m : mM) (o : mM), f_X9_copies_189_190_L2 n b2 m = some o → gG V k_X9_copies_189_190 21 [] [] (hS o) r h' → gG V k_X9_copies_189_190 2 [(0, .ref (vB V + 189)), (1, .ref (vB V + 190)), (2, .int b2)] [] (hS m) r h' := by
  intro n
  induction n with
  | zero => intro b2 m o hf; cases hf
  | succ n ih =>
    intro b2 m o hf hk
    rw [f_X9_copies_189_190_L2] at hf
    refine g_iload_n 2 dX9_copies_2 rfl rfl ?_
    refine g_sipush (v := 189) dX9_copies_3 rfl ?_
    refine g_icmp_ge (tgt := 21) dX9_copies_6 (by decide) (fun c5 => ?_) (fun c5 => ?_)
    · replace hf := (if_pos c5).symm.trans hf
      cases hf
      refine g_sub [] rfl ?_
      exact hk
    · replace hf := (if_neg c5).symm.trans hf
      refine g_aload_n 1 dX9_copies_9 rfl rfl ?_
      refine g_iload_n 2 dX9_copies_10 rfl rfl ?_
      refine g_aload_n 0 dX9_copies_11 rfl rfl ?_
      refine g_iload_n 2 dX9_copies_12 rfl rfl ?_
      obtain ⟨v1, e2, hf⟩ := bnd_some hf
      refine p_iald dX9_copies_13 at_189 e2 ?_
      obtain ⟨m3, e4, hf⟩ := bnd_some hf
      refine p_iast dX9_copies_14 at_190 e4 ?_
      refine g_iinc (q := 2) (v := (b2 + (1 : Int32))) dX9_copies_15 rfl rfl (Nat.le_of_ble_eq_true rfl) rfl ?_
      refine g_goto (tgt := 2) dX9_copies_18 (by decide) ?_
      refine g_sub [1, 2, 0] rfl ?_
      exact ih (b2 + (1 : Int32)) m3 _ hf hk

set_option maxRecDepth 100000 in
theorem t_X9_copies_189_190 {V : eV}  {m : mM} {q : mM} (hf : f_X9_copies_189_190  m = some q) : eE V 0 yX9_copies cX9_copies 3 (none) [.ref (vB V + 189), .ref (vB V + 190)] (hS m) none (hS q) := by
  refine eE_of (by decide) (Nat.le_of_ble_eq_true rfl) ?_
  show gG V k_X9_copies_189_190 0 [(0, .ref (vB V + 189)), (1, .ref (vB V + 190))] [] (hS m) _ _
  unfold f_X9_copies_189_190 at hf
  refine g_iconst (v := 0) dX9_copies_0 rfl ?_
  refine g_istore_n dX9_copies_1 rfl (Nat.le_of_ble_eq_true rfl) rfl ?_
  refine g_sub [1, 2, 0] rfl ?_
  obtain ⟨o6, e7, hf⟩ := bnd_some hf
  refine t_X9_copies_189_190_L2 (V := V) fU (0 : Int32) m _ e7 ?_
  cases hf
  exact g_vret dX9_copies_21 rfl

abbrev k_X9_image : kX := (cX9_image, "WhoseHourItIsModel", "image", some .int, 1, 1)
def f_X9_image  (m : mM) : Option (Int32 × mM) :=
bnd (f_X9_copies_189_190 m) fun q1 =>
bnd (some (m_up q1 187 5 (1 : Int32))) fun m3 =>
bnd (rdA 189 189 (0 : Int32) m3) fun v5 =>
some (v5, m3)
set_option maxRecDepth 100000 in
theorem t_X9_image {V : eV}  {m : mM} {q : Int32 × mM} (hf : f_X9_image  m = some q) : eE V 1 yX9_image cX9_image 1 (some .int) [.ref (vB V + 187)] (hS m) (some (.int q.1)) (hS q.2) := by
  refine eE_of (by decide) (Nat.le_of_ble_eq_true rfl) ?_
  show gG V k_X9_image 0 [(0, .ref (vB V + 187))] [] (hS m) _ _
  unfold f_X9_image at hf
  refine g_aload_n 0 dX9_image_0 rfl rfl ?_
  refine gf_930 dX9_image_1 rfl ob_187 rfl ?_
  refine g_aload_n 0 dX9_image_4 rfl rfl ?_
  refine gf_931 dX9_image_5 rfl ob_187 rfl ?_
  obtain ⟨q1, e2, hf⟩ := bnd_some hf
  refine p_callSv (As := [.ref (vB V + 189), .ref (vB V + 190)]) (rest := []) (t_X9_copies_189_190 e2) cw_1032 w_1033 (Nat.le_of_ble_eq_true rfl) rfl rfl (Nat.le_of_ble_eq_true rfl) dX9_image_8 ?_
  refine g_aload_n 0 dX9_image_11 rfl rfl ?_
  refine g_iconst (v := 1) dX9_image_12 rfl ?_
  obtain ⟨m3, e4, hf⟩ := bnd_some hf
  cases e4
  refine pf_934 dX9_image_13 rfl ob_187 rfl rfl rfl ?_
  generalize m_up q1 187 5 (1 : Int32) = m3 at hf ⊢
  refine g_aload_n 0 dX9_image_16 rfl rfl ?_
  refine gf_930 dX9_image_17 rfl ob_187 rfl ?_
  refine g_iconst (v := 0) dX9_image_20 rfl ?_
  obtain ⟨v5, e6, hf⟩ := bnd_some hf
  refine p_iald dX9_image_21 at_189 e6 ?_
  cases hf
  exact g_iret dX9_image_22 .int rfl rfl

abbrev k_X9_copies_190_189 : kX := (cX9_copies, "WhoseHourItIsModel", "copies", none, 3, 0)
def f_X9_copies_190_189_L2 : Nat → Int32 → mM → Option (mM)
  | 0, _, _ => none
  | n + 1, b2, m =>
      if (189 : Int32) ≤ b2 then (
      some m)
      else (
      bnd (rdA 190 189 b2 m) fun v1 =>
      bnd (wrA 189 189 b2 v1 m) fun m3 =>
      f_X9_copies_190_189_L2 n (b2 + (1 : Int32)) m3)
def f_X9_copies_190_189  (m : mM) : Option (mM) :=
bnd (f_X9_copies_190_189_L2 fU (0 : Int32) m) fun o6 =>
some o6
set_option maxRecDepth 100000 in
theorem t_X9_copies_190_189_L2 {V : eV} {r : Option Value} {h' : aH} : ∀ (n : Nat) (b2 : Int32) (m : mM) (o : mM), f_X9_copies_190_189_L2 n b2 m = some o → gG V k_X9_copies_190_189 21 [] [] (hS o) r h' → gG V k_X9_copies_190_189 2 [(0, .ref (vB V + 190)), (1, .ref (vB V + 189)), (2, .int b2)] [] (hS m) r h' := by
  intro n
  induction n with
  | zero => intro b2 m o hf; cases hf
  | succ n ih =>
    intro b2 m o hf hk
    rw [f_X9_copies_190_189_L2] at hf
    refine g_iload_n 2 dX9_copies_2 rfl rfl ?_
    refine g_sipush (v := 189) dX9_copies_3 rfl ?_
    refine g_icmp_ge (tgt := 21) dX9_copies_6 (by decide) (fun c5 => ?_) (fun c5 => ?_)
    · replace hf := (if_pos c5).symm.trans hf
      cases hf
      refine g_sub [] rfl ?_
      exact hk
    · replace hf := (if_neg c5).symm.trans hf
      refine g_aload_n 1 dX9_copies_9 rfl rfl ?_
      refine g_iload_n 2 dX9_copies_10 rfl rfl ?_
      refine g_aload_n 0 dX9_copies_11 rfl rfl ?_
      refine g_iload_n 2 dX9_copies_12 rfl rfl ?_
      obtain ⟨v1, e2, hf⟩ := bnd_some hf
      refine p_iald dX9_copies_13 at_190 e2 ?_
      obtain ⟨m3, e4, hf⟩ := bnd_some hf
      refine p_iast dX9_copies_14 at_189 e4 ?_
      refine g_iinc (q := 2) (v := (b2 + (1 : Int32))) dX9_copies_15 rfl rfl (Nat.le_of_ble_eq_true rfl) rfl ?_
      refine g_goto (tgt := 2) dX9_copies_18 (by decide) ?_
      refine g_sub [1, 2, 0] rfl ?_
      exact ih (b2 + (1 : Int32)) m3 _ hf hk

set_option maxRecDepth 100000 in
theorem t_X9_copies_190_189 {V : eV}  {m : mM} {q : mM} (hf : f_X9_copies_190_189  m = some q) : eE V 0 yX9_copies cX9_copies 3 (none) [.ref (vB V + 190), .ref (vB V + 189)] (hS m) none (hS q) := by
  refine eE_of (by decide) (Nat.le_of_ble_eq_true rfl) ?_
  show gG V k_X9_copies_190_189 0 [(0, .ref (vB V + 190)), (1, .ref (vB V + 189))] [] (hS m) _ _
  unfold f_X9_copies_190_189 at hf
  refine g_iconst (v := 0) dX9_copies_0 rfl ?_
  refine g_istore_n dX9_copies_1 rfl (Nat.le_of_ble_eq_true rfl) rfl ?_
  refine g_sub [1, 2, 0] rfl ?_
  obtain ⟨o6, e7, hf⟩ := bnd_some hf
  refine t_X9_copies_190_189_L2 (V := V) fU (0 : Int32) m _ e7 ?_
  cases hf
  exact g_vret dX9_copies_21 rfl

abbrev k_X9_on : kX := (cX9_on, "WhoseHourItIsModel", "on", some .int, 1, 1)
def f_X9_on  (m : mM) : Option (Int32 × mM) :=
if (m 187 5) = 0 then (
bnd (f_X9_refuse (-3 : Int32) m) fun q1 =>
some (q1.1, q1.2))
else (
bnd (f_X9_copies_190_189 m) fun q3 =>
bnd (rdA 189 189 (0 : Int32) q3) fun v5 =>
some (v5, q3))
set_option maxRecDepth 100000 in
theorem t_X9_on {V : eV}  {m : mM} {q : Int32 × mM} (hf : f_X9_on  m = some q) : eE V 1 yX9_on cX9_on 1 (some .int) [.ref (vB V + 187)] (hS m) (some (.int q.1)) (hS q.2) := by
  refine eE_of (by decide) (Nat.le_of_ble_eq_true rfl) ?_
  show gG V k_X9_on 0 [(0, .ref (vB V + 187))] [] (hS m) _ _
  unfold f_X9_on at hf
  refine g_aload_n 0 dX9_on_0 rfl rfl ?_
  refine gf_934 dX9_on_1 rfl ob_187 rfl ?_
  refine g_if_ne (tgt := 14) dX9_on_4 (by decide) (fun c7 => ?_) (fun c7 => ?_)
  · replace hf := (if_neg c7).symm.trans hf
    refine g_aload_n 0 dX9_on_14 rfl rfl ?_
    refine gf_931 dX9_on_15 rfl ob_187 rfl ?_
    refine g_aload_n 0 dX9_on_18 rfl rfl ?_
    refine gf_930 dX9_on_19 rfl ob_187 rfl ?_
    obtain ⟨q3, e4, hf⟩ := bnd_some hf
    refine p_callSv (As := [.ref (vB V + 190), .ref (vB V + 189)]) (rest := []) (t_X9_copies_190_189 e4) cw_1032 w_1033 (Nat.le_of_ble_eq_true rfl) rfl rfl (Nat.le_of_ble_eq_true rfl) dX9_on_22 ?_
    refine g_aload_n 0 dX9_on_25 rfl rfl ?_
    refine gf_930 dX9_on_26 rfl ob_187 rfl ?_
    refine g_iconst (v := 0) dX9_on_29 rfl ?_
    obtain ⟨v5, e6, hf⟩ := bnd_some hf
    refine p_iald dX9_on_30 at_189 e6 ?_
    cases hf
    exact g_iret dX9_on_31 .int rfl rfl
  · replace hf := (if_pos c7).symm.trans hf
    refine g_aload_n 0 dX9_on_7 rfl rfl ?_
    refine g_bipush (v := -3) dX9_on_8 rfl ?_
    obtain ⟨q1, e2, hf⟩ := bnd_some hf
    refine p_callV (As := [.int (-3 : Int32)]) (rest := []) (t_X9_refuse e2) cw_1000 w_1002 w_22 ob_187 rfl (Nat.le_of_ble_eq_true rfl) rfl rfl (Nat.le_of_ble_eq_true rfl) dX9_on_10 ?_
    cases hf
    exact g_iret dX9_on_13 .int rfl rfl

abbrev k_X9_count : kX := (cX9_count, "WhoseHourItIsModel", "count", some .int, 4, 1)
def f_X9_count_L77 (b1 : Int32) (m : mM) : Nat → Int32 → Int32 → Option (Int32)
  | 0, _, _ => none
  | n + 1, b2, b3 =>
      if (28 : Int32) ≤ b3 then (
      some b2)
      else (
      if b1 = (2 : Int32) then (
      bnd (rdA 189 189 ((9 : Int32) + ((4 : Int32) * b3)) m) fun v8 =>
      if v8 = 0 then (
      f_X9_count_L77 b1 m n (b2 + (1 : Int32)) (b3 + (1 : Int32)))
      else (
      f_X9_count_L77 b1 m n (b2 + (0 : Int32)) (b3 + (1 : Int32))))
      else (
      bnd (rdA 189 189 ((9 : Int32) + ((4 : Int32) * b3)) m) fun v11 =>
      f_X9_count_L77 b1 m n (b2 + v11) (b3 + (1 : Int32))))
def f_X9_count_J22 (b1 : Int32) (m : mM) : Option (Int32) :=
if b1 = (0 : Int32) then (
bnd (rdA 189 189 b1 m) fun v2 =>
some v2)
else (
if b1 = (1 : Int32) then (
bnd (rdA 189 189 b1 m) fun v5 =>
some v5)
else (
if b1 = (2 : Int32) then (
bnd (f_X9_count_L77 b1 m fU (0 : Int32) (0 : Int32)) fun o15 =>
some o15)
else (
if b1 = (3 : Int32) then (
bnd (f_X9_count_L77 b1 m fU (0 : Int32) (0 : Int32)) fun o18 =>
some o18)
else (
if b1 = (4 : Int32) then (
bnd (rdA 189 189 (2 : Int32) m) fun v21 =>
bnd (f_X9_bits v21 m) fun q23 =>
some q23)
else (
if b1 = (5 : Int32) then (
some (m 187 21))
else (
if b1 = (6 : Int32) then (
some (m 187 8))
else (
some (-9 : Int32))))))))
def f_X9_count (a1 : Int32) (m : mM) : Option (Int32) :=
if a1 ≤ (10 : Int32) then (
f_X9_count_J22 a1 m)
else (
if (17 : Int32) ≤ a1 then (
f_X9_count_J22 a1 m)
else (
bnd (rdA 188 7 (a1 - (10 : Int32)) m) fun v27 =>
some v27))
set_option maxRecDepth 100000 in
theorem t_X9_count_L77 {V : eV} (b1 : Int32) (m : mM) {r : Option Value} {h' : aH} : ∀ (n : Nat) (b2 : Int32) (b3 : Int32) (o : Int32), f_X9_count_L77 b1 m n b2 b3 = some o → gG V k_X9_count 130 [(2, .int o)] [] (hS m) r h' → gG V k_X9_count 77 [(0, .ref (vB V + 187)), (1, .int b1), (2, .int b2), (3, .int b3)] [] (hS m) r h' := by
  intro n
  induction n with
  | zero => intro b2 b3 o hf; cases hf
  | succ n ih =>
    intro b2 b3 o hf hk
    rw [f_X9_count_L77] at hf
    refine g_iload_n 3 dX9_count_77 rfl rfl ?_
    refine g_bipush (v := 28) dX9_count_78 rfl ?_
    refine g_icmp_ge (tgt := 130) dX9_count_80 (by decide) (fun c14 => ?_) (fun c14 => ?_)
    · replace hf := (if_pos c14).symm.trans hf
      cases hf
      refine g_sub [2] rfl ?_
      exact hk
    · replace hf := (if_neg c14).symm.trans hf
      refine g_iload_n 2 dX9_count_83 rfl rfl ?_
      refine g_iload_n 1 dX9_count_84 rfl rfl ?_
      refine g_iconst (v := 2) dX9_count_85 rfl ?_
      refine g_icmp_ne (tgt := 111) dX9_count_86 (by decide) (fun c13 => ?_) (fun c13 => ?_)
      · replace hf := (if_neg c13).symm.trans hf
        refine g_aload_n 0 dX9_count_111 rfl rfl ?_
        refine gf_930 dX9_count_112 rfl ob_187 rfl ?_
        refine g_bipush (v := 9) dX9_count_115 rfl ?_
        refine g_iconst (v := 4) dX9_count_117 rfl ?_
        refine g_iload_n 3 dX9_count_118 rfl rfl ?_
        refine g_imul dX9_count_119 ?_
        refine g_iadd dX9_count_120 ?_
        obtain ⟨v11, e12, hf⟩ := bnd_some hf
        refine p_iald dX9_count_121 at_189 e12 ?_
        refine g_iadd dX9_count_122 ?_
        refine g_istore_n dX9_count_123 rfl (Nat.le_of_ble_eq_true rfl) rfl ?_
        refine g_iinc (q := 3) (v := (b3 + (1 : Int32))) dX9_count_124 rfl rfl (Nat.le_of_ble_eq_true rfl) rfl ?_
        refine g_goto (tgt := 77) dX9_count_127 (by decide) ?_
        refine g_sub [2, 3, 1, 0] rfl ?_
        exact ih (b2 + v11) (b3 + (1 : Int32)) _ hf hk
      · replace hf := (if_pos c13).symm.trans hf
        refine g_aload_n 0 dX9_count_89 rfl rfl ?_
        refine gf_930 dX9_count_90 rfl ob_187 rfl ?_
        refine g_bipush (v := 9) dX9_count_93 rfl ?_
        refine g_iconst (v := 4) dX9_count_95 rfl ?_
        refine g_iload_n 3 dX9_count_96 rfl rfl ?_
        refine g_imul dX9_count_97 ?_
        refine g_iadd dX9_count_98 ?_
        obtain ⟨v8, e9, hf⟩ := bnd_some hf
        refine p_iald dX9_count_99 at_189 e9 ?_
        refine g_if_ne (tgt := 107) dX9_count_100 (by decide) (fun c10 => ?_) (fun c10 => ?_)
        · replace hf := (if_neg c10).symm.trans hf
          refine g_iconst (v := 0) dX9_count_107 rfl ?_
          refine g_goto (tgt := 122) dX9_count_108 (by decide) ?_
          refine g_iadd dX9_count_122 ?_
          refine g_istore_n dX9_count_123 rfl (Nat.le_of_ble_eq_true rfl) rfl ?_
          refine g_iinc (q := 3) (v := (b3 + (1 : Int32))) dX9_count_124 rfl rfl (Nat.le_of_ble_eq_true rfl) rfl ?_
          refine g_goto (tgt := 77) dX9_count_127 (by decide) ?_
          refine g_sub [2, 3, 1, 0] rfl ?_
          exact ih (b2 + (0 : Int32)) (b3 + (1 : Int32)) _ hf hk
        · replace hf := (if_pos c10).symm.trans hf
          refine g_iconst (v := 1) dX9_count_103 rfl ?_
          refine g_goto (tgt := 122) dX9_count_104 (by decide) ?_
          refine g_iadd dX9_count_122 ?_
          refine g_istore_n dX9_count_123 rfl (Nat.le_of_ble_eq_true rfl) rfl ?_
          refine g_iinc (q := 3) (v := (b3 + (1 : Int32))) dX9_count_124 rfl rfl (Nat.le_of_ble_eq_true rfl) rfl ?_
          refine g_goto (tgt := 77) dX9_count_127 (by decide) ?_
          refine g_sub [2, 3, 1, 0] rfl ?_
          exact ih (b2 + (1 : Int32)) (b3 + (1 : Int32)) _ hf hk

set_option maxRecDepth 100000 in
theorem t_X9_count_J22 {V : eV} {b1 : Int32} {m : mM} {q : Int32} (hf : f_X9_count_J22 b1 m = some q) : gG V k_X9_count 22 [(0, .ref (vB V + 187)), (1, .int b1)] [] (hS m) (some (.int q)) (hS m) := by
  unfold f_X9_count_J22 at hf
  refine g_iconst (v := 0) dX9_count_22 rfl ?_
  refine g_istore_n dX9_count_23 rfl (Nat.le_of_ble_eq_true rfl) rfl ?_
  refine g_iload_n 2 dX9_count_24 rfl rfl ?_
  by_cases c1 : b1 = (0 : Int32)
  · replace hf := (if_pos c1).symm.trans hf
    refine g_tableIn (tgt := 68) (off := 43) dX9_count_25 (by rw [c1]; decide) (by rw [c1]; decide) (by rw [c1]; rfl) (by decide) ?_
    refine g_aload_n 1 dX9_count_68 rfl rfl ?_
    refine gf_930 dX9_count_69 rfl ob_187 rfl ?_
    refine g_iload_n 2 dX9_count_72 rfl rfl ?_
    obtain ⟨v2, e3, hf⟩ := bnd_some hf
    refine p_iald dX9_count_73 at_189 e3 ?_
    cases hf
    exact g_iret dX9_count_74 .int rfl rfl
  · replace hf := (if_neg c1).symm.trans hf
    by_cases c4 : b1 = (1 : Int32)
    · replace hf := (if_pos c4).symm.trans hf
      refine g_tableIn (tgt := 68) (off := 43) dX9_count_25 (by rw [c4]; decide) (by rw [c4]; decide) (by rw [c4]; rfl) (by decide) ?_
      refine g_aload_n 1 dX9_count_68 rfl rfl ?_
      refine gf_930 dX9_count_69 rfl ob_187 rfl ?_
      refine g_iload_n 2 dX9_count_72 rfl rfl ?_
      obtain ⟨v5, e6, hf⟩ := bnd_some hf
      refine p_iald dX9_count_73 at_189 e6 ?_
      cases hf
      exact g_iret dX9_count_74 .int rfl rfl
    · replace hf := (if_neg c4).symm.trans hf
      by_cases c7 : b1 = (2 : Int32)
      · replace hf := (if_pos c7).symm.trans hf
        refine g_tableIn (tgt := 75) (off := 50) dX9_count_25 (by rw [c7]; decide) (by rw [c7]; decide) (by rw [c7]; rfl) (by decide) ?_
        refine g_iconst (v := 0) dX9_count_75 rfl ?_
        refine g_istore_n dX9_count_76 rfl (Nat.le_of_ble_eq_true rfl) rfl ?_
        refine g_sub [2, 3, 1, 0] rfl ?_
        obtain ⟨o15, e16, hf⟩ := bnd_some hf
        refine t_X9_count_L77 (V := V) b1 m fU (0 : Int32) (0 : Int32) _ e16 ?_
        refine g_iload_n 0 dX9_count_130 rfl rfl ?_
        cases hf
        exact g_iret dX9_count_131 .int rfl rfl
      · replace hf := (if_neg c7).symm.trans hf
        by_cases c17 : b1 = (3 : Int32)
        · replace hf := (if_pos c17).symm.trans hf
          refine g_tableIn (tgt := 75) (off := 50) dX9_count_25 (by rw [c17]; decide) (by rw [c17]; decide) (by rw [c17]; rfl) (by decide) ?_
          refine g_iconst (v := 0) dX9_count_75 rfl ?_
          refine g_istore_n dX9_count_76 rfl (Nat.le_of_ble_eq_true rfl) rfl ?_
          refine g_sub [2, 3, 1, 0] rfl ?_
          obtain ⟨o18, e19, hf⟩ := bnd_some hf
          refine t_X9_count_L77 (V := V) b1 m fU (0 : Int32) (0 : Int32) _ e19 ?_
          refine g_iload_n 0 dX9_count_130 rfl rfl ?_
          cases hf
          exact g_iret dX9_count_131 .int rfl rfl
        · replace hf := (if_neg c17).symm.trans hf
          by_cases c20 : b1 = (4 : Int32)
          · replace hf := (if_pos c20).symm.trans hf
            refine g_tableIn (tgt := 132) (off := 107) dX9_count_25 (by rw [c20]; decide) (by rw [c20]; decide) (by rw [c20]; rfl) (by decide) ?_
            refine g_aload_n 1 dX9_count_132 rfl rfl ?_
            refine gf_930 dX9_count_133 rfl ob_187 rfl ?_
            refine g_iconst (v := 2) dX9_count_136 rfl ?_
            obtain ⟨v21, e22, hf⟩ := bnd_some hf
            refine p_iald dX9_count_137 at_189 e22 ?_
            obtain ⟨q23, e24, hf⟩ := bnd_some hf
            refine p_callS (As := [.int v21]) (rest := []) (t_X9_bits e24) cw_1200 w_1201 (Nat.le_of_ble_eq_true rfl) rfl rfl (Nat.le_of_ble_eq_true rfl) dX9_count_138 ?_
            cases hf
            exact g_iret dX9_count_141 .int rfl rfl
          · replace hf := (if_neg c20).symm.trans hf
            by_cases c25 : b1 = (5 : Int32)
            · replace hf := (if_pos c25).symm.trans hf
              refine g_tableIn (tgt := 142) (off := 117) dX9_count_25 (by rw [c25]; decide) (by rw [c25]; decide) (by rw [c25]; rfl) (by decide) ?_
              refine g_aload_n 1 dX9_count_142 rfl rfl ?_
              refine gf_950 dX9_count_143 rfl ob_187 rfl ?_
              cases hf
              exact g_iret dX9_count_146 .int rfl rfl
            · replace hf := (if_neg c25).symm.trans hf
              by_cases c26 : b1 = (6 : Int32)
              · replace hf := (if_pos c26).symm.trans hf
                refine g_tableIn (tgt := 147) (off := 122) dX9_count_25 (by rw [c26]; decide) (by rw [c26]; decide) (by rw [c26]; rfl) (by decide) ?_
                refine g_aload_n 1 dX9_count_147 rfl rfl ?_
                refine gf_937 dX9_count_148 rfl ob_187 rfl ?_
                cases hf
                exact g_iret dX9_count_151 .int rfl rfl
              · replace hf := (if_neg c26).symm.trans hf
                have hsw := sw_out (lo := 0) (hi := 6) (x := b1) (fun z z1 z2 => by
                    have zz : z = 0 ∨ z = 1 ∨ z = 2 ∨ z = 3 ∨ z = 4 ∨ z = 5 ∨ z = 6 := by omega
                    rcases zz with rfl | rfl | rfl | rfl | rfl | rfl | rfl <;> assumption)
                refine g_tableOut (tgt := 152) dX9_count_25 hsw (by decide) ?_
                refine g_bipush (v := -9) dX9_count_152 rfl ?_
                cases hf
                exact g_iret dX9_count_154 .int rfl rfl

set_option maxRecDepth 100000 in
theorem t_X9_count {V : eV} {a1 : Int32}  {m : mM} {q : Int32} (hf : f_X9_count a1 m = some q) : eE V 1 yX9_count cX9_count 4 (some .int) [.ref (vB V + 187), .int a1] (hS m) (some (.int q)) (hS m) := by
  refine eE_of (by decide) (Nat.le_of_ble_eq_true rfl) ?_
  show gG V k_X9_count 0 [(0, .ref (vB V + 187)), (1, .int a1)] [] (hS m) _ _
  unfold f_X9_count at hf
  refine g_iload_n 1 dX9_count_0 rfl rfl ?_
  refine g_bipush (v := 10) dX9_count_1 rfl ?_
  refine g_icmp_le (tgt := 22) dX9_count_3 (by decide) (fun c30 => ?_) (fun c30 => ?_)
  · replace hf := (if_pos c30).symm.trans hf
    refine g_sub [0, 1] rfl ?_
    exact t_X9_count_J22 hf
  · replace hf := (if_neg c30).symm.trans hf
    refine g_iload_n 1 dX9_count_6 rfl rfl ?_
    refine g_bipush (v := 17) dX9_count_7 rfl ?_
    refine g_icmp_ge (tgt := 22) dX9_count_9 (by decide) (fun c29 => ?_) (fun c29 => ?_)
    · replace hf := (if_pos c29).symm.trans hf
      refine g_sub [0, 1] rfl ?_
      exact t_X9_count_J22 hf
    · replace hf := (if_neg c29).symm.trans hf
      refine g_aload_n 0 dX9_count_12 rfl rfl ?_
      refine gf_929 dX9_count_13 rfl ob_187 rfl ?_
      refine g_iload_n 1 dX9_count_16 rfl rfl ?_
      refine g_bipush (v := 10) dX9_count_17 rfl ?_
      refine g_isub dX9_count_19 ?_
      obtain ⟨v27, e28, hf⟩ := bnd_some hf
      refine p_iald dX9_count_20 at_188 e28 ?_
      cases hf
      exact g_iret dX9_count_21 .int rfl rfl

