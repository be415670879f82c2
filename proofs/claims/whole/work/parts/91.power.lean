/-! power: both sides -/
section Power2
variable {s : aSt}
theorem sbs_lt {P B n : Nat} (h : sbs P B = true) (hB : B < 2 ^ n) : P < 2 ^ n := by
  have : P &&& B = P := of_decide_eq_true h
  have h2 : P &&& B ≤ B := Nat.and_le_right
  omega
theorem lnG_sum (hS : SI s) {w a P ρ : Nat} (hw : w < s.1 1) (ha : a < s.1 0) (hd : a ≠ (s.1 (153 + 6 * w))) (hP : sbs P (pwB s.1 w) = true) (hr : cnt P (pwB s.1 w) (s.1 0) = ρ + 1) : sumF (lnG s.1 w a P ρ) 0 (s.1 0) = lnD s.1 w a P := by
  have h0 := hS.w.h0
  have hB := pwB_lt hS w
  have hR := pwR_lt hS w a
  have hs := sbs_iff.mp hP
  by_cases e : P.testBit a = true
  · have : lnD s.1 w a P = 0 := if_pos e
    rw [this]
    refine sumF_zero _ _ (fun y _ hy => ?_)
    unfold lnG
    by_cases z : ((pwB s.1 w).testBit y && !(P.testBit y)) = true
    · rw [if_pos z]
      rw [Bool.and_eq_true] at z
      have hy2 : P.testBit y = false := by simpa using z.2
      have hne : y ≠ a := fun q => by rw [q, e] at hy2; cases hy2
      rw [if_neg hne]
      unfold lnD
      rw [or_bit, e, Bool.true_or]
      rfl
    · rw [if_neg z]
  · have e' : P.testBit a = false := by simpa using e
    have : lnD s.1 w a P = DD (pwR s.1 w a + 1) (pwR s.1 w a) (pwV s.1 w a) P := if_neg e
    rw [this]
    have hPR : sbs P (pwR s.1 w a) = true := sbs_iff.mpr (fun j hj => by
      rw [pwR_b hS, hs j hj]
      rw [decide_eq_false (fun z => by rw [z, e'] at hj; cases hj)]; rfl)
    have hPl := sbs_lt hPR hR
    have hle : P < pwR s.1 w a + 1 := by
      have h1 : P &&& pwR s.1 w a = P := of_decide_eq_true hPR
      have h2 : P &&& pwR s.1 w a ≤ pwR s.1 w a := Nat.and_le_right
      omega
    rw [← comb hPR hle (show s.1 0 ≤ 28 by omega) hR]
    have hp := cnt_pop hP hB (by omega)
    have hp2 := pwR_pop hS ha hd
    refine sumF_pt (r := a) ?_ (s.1 0) 0 (Nat.zero_le _) (by omega) (fun y hy => ?_)
    · rw [pwR_b hS, decide_eq_true (show a = a from rfl)]
      unfold lnG lnD
      rw [e', pwB_b hS, decide_eq_true ha, decide_eq_false hd, or_bit, decide_eq_true (show a = a from rfl), Bool.or_true, if_pos (by rfl), if_pos rfl, if_pos rfl, show pop (pwR s.1 w a) - pop P = ρ by omega]
      show 0 + _ = (if ((true && !false) && !true && !false) = true then _ else 0) + _
      rfl
    · rw [pwR_b hS, decide_eq_false hy]
      unfold lnG lnD
      rw [or_bit, e', decide_eq_false (show ¬ a = y from fun z => hy z.symm), if_neg (show ¬ (false || false) = true by decide), if_neg hy]
      cases (pwB s.1 w).testBit y <;> cases P.testBit y <;> rfl
theorem M_lines (hS : SI s) {w a : Nat} (hw : w < s.1 1) (ha : a < s.1 0) (hd : a ≠ (s.1 (153 + 6 * w))) : ∀ (r fd P : Nat), r < fd → sbs P (pwB s.1 w) = true → cnt P (pwB s.1 w) (s.1 0) = r → lnQ s w a (f_X9_lines fd (nI a) (nI w) (nI (s.1 2)) (nI P) (nI (pwB s.1 w))) (lnD s.1 w a P) (fct r) := by
  have h0 := hS.w.h0
  have hB := pwB_lt hS w
  have hB8 := pwB_8 hS w
  intro r
  induction r with
  | zero =>
    intro fd P hf hP hr m u c18 c19 hM q18 q19
    obtain ⟨fd, rfl⟩ : ∃ z, fd = z + 1 := ⟨fd - 1, by omega⟩
    have : P = pwB s.1 w := cnt_0 hP hB hr
    subst this
    have ld : lnD s.1 w a (pwB s.1 w) = 0 := by
      unfold lnD
      rw [pwB_b hS, decide_eq_true ha, decide_eq_false hd]
      rfl
    refine ⟨m_up m 187 19 (nI c19 + 1), u, ?_, hM.k19 _, ?_, ?_, pF.u19 _ _⟩
    · rw [f_X9_lines, q19]
      refine (if_pos rfl).trans ?_
      exact (bnd_of rfl).trans rfl
    · rw [ld]; exact (m_up_ni (by decide)).trans q18
    · rw [m_up_eq, nI_1]; rfl
  | succ r ih =>
    intro fd P hf hP hr m u c18 c19 hM q18 q19
    obtain ⟨fd, rfl⟩ : ∃ z, fd = z + 1 := ⟨fd - 1, by omega⟩
    have hP8 := sbs_lt hP hB8
    have hne : P ≠ pwB s.1 w := fun z => by
      subst z
      have := cnt_pop hP hB (show s.1 0 ≤ 28 by omega)
      omega
    have hc := cnt_pop hP hB (show s.1 0 ≤ 28 by omega)
    have lp := M_lnL hS (ρ := r) hw ha hd hP8 (self := f_X9_lines fd) (fun y hy y1 y2 => by
      have hs2 : sbs (P ||| 2 ^ y) (pwB s.1 w) = true := by rw [sbs_or, hP, y1]; rfl
      have hc2 := cnt_pop hs2 hB (show s.1 0 ≤ 28 by omega)
      rw [pop_or y2 (by omega)] at hc2
      exact ih fd (P ||| 2 ^ y) (by omega) hs2 (by omega)) (s.1 0) fU 0 (by omega) (by show _ < 300; omega)
    rw [lnG_sum hS hw ha hd hP hr, sumF_k] at lp
    have hr' : sumF (fun y => b2n ((pwB s.1 w).testBit y && !(P.testBit y))) 0 (s.1 0) = r + 1 := hr
    rw [hr'] at lp
    obtain ⟨m', u', i1, i2, i3, i4, i5⟩ := lp m u c18 c19 hM q18 q19
    refine ⟨m', u', ?_, i2, i3, i4, i5⟩
    rw [f_X9_lines]
    refine (if_neg (nIn (by omega) (by omega) hne)).trans ?_
    exact (bnd_of i1).trans rfl
end Power2
theorem fct_le : ∀ n, n < 6 → fct n ≤ 120 ∧ 0 < fct n := by decide
theorem op_power (a1 a2 a3 : Int32) : Op (f_X8_power a1 a2 a3) (f_X9_power a1 a2 a3) := by
  intro s hS
  have w0 := hS.w.w0
  have h0 := hS.w.h0
  have p8 : 2 ^ s.1 0 ≤ 2 ^ 8 := Nat.pow_le_pow_right (by decide) h0
  have p0 := Nat.two_pow_pos (s.1 0)
  rcases io a1 (n := s.1 0) (by omega) with q | ⟨a, ha, rfl⟩
  · refine both_ref (k := 1) hS (by decide) (by decide) (fun m hX => ?_) (fun m hM => ?_)
    · unfold f_X8_power; exact (bnd_of (X_hol0 hX q)).trans (if_pos rfl)
    · unfold f_X9_power; exact (bnd_of (M_hol0 hS hM q)).trans (if_pos rfl)
  rcases io a2 (n := s.1 1) (by omega) with q | ⟨w, hw, rfl⟩
  · refine both_ref (k := 1) hS (by decide) (by decide) (fun m hX => ?_) (fun m hM => ?_)
    · unfold f_X8_power
      refine (bnd_of (X_hol1 hS hX ha)).trans ?_
      refine (if_neg (by decide)).trans ?_
      exact (bnd_of (X_wrk0 hX q)).trans (if_pos rfl)
    · unfold f_X9_power
      refine (bnd_of (M_hol1 hS hM ha)).trans ?_
      refine (if_neg (by decide)).trans ?_
      exact (bnd_of (M_wrk0 hS hM q)).trans (if_pos rfl)
  obtain ⟨d1, d2, d3, d4, d5, d6⟩ := hS.w.wk hw
  have cx : ∀ m, XI s m → m (44 + w) 0 = nI (s.1 (153 + 6 * w)) := fun m hX => (hX.x.w (k := 0) (by omega) (by omega)).trans (dcN (show (s.1 (153 + 6 * w)) < 999 by omega))
  have cm : ∀ m, MI s m → f_X9_of (nI w) 0 m = some (nI (s.1 (153 + 6 * w))) := fun m hM => hM.un.ud hS hw
  by_cases hd : (s.1 (153 + 6 * w)) = a
  · refine both_ref (k := 1) hS (by decide) (by decide) (fun m hX => ?_) (fun m hM => ?_)
    · unfold f_X8_power
      refine (bnd_of (X_hol1 hS hX ha)).trans ?_
      refine (if_neg (by decide)).trans ?_
      refine (bnd_of (X_wrk1 hS hX hw)).trans ?_
      refine (if_neg (by decide)).trans ?_
      refine (bnd_of (ckN (show w < 6 by omega) (by decide))).trans ?_
      refine (bnd_of (rdX (k := 0) rfl (by decide) (by decide) (cx m hX))).trans ?_
      exact if_pos (nIq hd)
    · unfold f_X9_power
      refine (bnd_of (M_hol1 hS hM ha)).trans ?_
      refine (if_neg (by decide)).trans ?_
      refine (bnd_of (M_wrk1 hS hM hw)).trans ?_
      refine (if_neg (by decide)).trans ?_
      refine (bnd_of (cm m hM)).trans ?_
      exact if_pos (nIq hd)
  have hda : a ≠ (s.1 (153 + 6 * w)) := fun z => hd z.symm
  rcases io a3 (n := 2) (by decide) with q | ⟨c, hc, rfl⟩
  · refine both_ref (k := 2) hS (by decide) (by decide) (fun m hX => ?_) (fun m hM => ?_)
    · unfold f_X8_power
      refine (bnd_of (X_hol1 hS hX ha)).trans ?_
      refine (if_neg (by decide)).trans ?_
      refine (bnd_of (X_wrk1 hS hX hw)).trans ?_
      refine (if_neg (by decide)).trans ?_
      refine (bnd_of (ckN (show w < 6 by omega) (by decide))).trans ?_
      refine (bnd_of (rdX (k := 0) rfl (by decide) (by decide) (cx m hX))).trans ?_
      refine (if_neg (nIn (by omega) (by omega) hd)).trans ?_
      rcases q with q | q
      · exact if_pos q
      · have q1 : ¬ a3 < 0 := fun z => by
          rw [Int32.lt_iff_toInt_lt] at z
          rw [Int32.le_iff_toInt_le] at q
          have e2 : (nI 2).toInt = 2 := by decide
          have e0 : (0 : Int32).toInt = 0 := by decide
          omega
        have q2 : ¬ a3 ≤ (1 : Int32) := fun z => by
          rw [Int32.le_iff_toInt_le] at z q
          have e2 : (nI 2).toInt = 2 := by decide
          have e0 : (1 : Int32).toInt = 1 := by decide
          omega
        exact (if_neg q1).trans (if_neg q2)
    · unfold f_X9_power
      refine (bnd_of (M_hol1 hS hM ha)).trans ?_
      refine (if_neg (by decide)).trans ?_
      refine (bnd_of (M_wrk1 hS hM hw)).trans ?_
      refine (if_neg (by decide)).trans ?_
      refine (bnd_of (cm m hM)).trans ?_
      refine (if_neg (nIn (by omega) (by omega) hd)).trans ?_
      exact (bnd_of (M_in0 (n := 2) q)).trans (if_pos rfl)
  have gx : ∀ m, XI s m → f_X8_power (nI a) (nI w) (nI c) m = if nI (s.1 0) ≤ (6 : Int32) then (bnd (f_X5_pivotalOrders (nI a) (nI w) m) fun q17 => bnd (f_X5_orders q17.2) fun q19 => bnd (f_X8_greatestShared q17.1 q19 q17.2) fun q21 => if nI c = 0 then (bnd (dvI q17.1 (if (1 : Int32) < q21 then q21 else (1 : Int32))) fun v23 => some (v23, q17.2)) else (bnd (dvI q19 (if (1 : Int32) < q21 then q21 else (1 : Int32))) fun v25 => some (v25, q17.2))) else (bnd (f_X8_refuse (-nI 6) m) fun q => some (q.1, q.2)) := fun m hX => by
    unfold f_X8_power
    refine (bnd_of (X_hol1 hS hX ha)).trans ?_
    refine (if_neg (by decide)).trans ?_
    refine (bnd_of (X_wrk1 hS hX hw)).trans ?_
    refine (if_neg (by decide)).trans ?_
    refine (bnd_of (ckN (show w < 6 by omega) (by decide))).trans ?_
    refine (bnd_of (rdX (k := 0) rfl (by decide) (by decide) (cx m hX))).trans ?_
    refine (if_neg (nIn (by omega) (by omega) hd)).trans ?_
    refine (if_neg (nI_pos (by omega))).trans ?_
    refine (if_pos (nI_le (b := 1) (by omega) (by decide))).trans ?_
    rw [hX.o0]
    rfl
  have gm : ∀ m, MI s m → f_X9_power (nI a) (nI w) (nI c) m = if nI (s.1 0) ≤ (6 : Int32) then (bnd (f_X9_lines fR (nI a) (nI w) (nI (s.1 2)) (nI 0) (nI (pwB s.1 w)) (m_up (m_up m 187 18 0) 187 19 0)) fun q29 => bnd (wrA 189 189 (2 : Int32) (nI (s.1 2)) q29) fun m31 => bnd (f_X9_common fR (m31 187 19) (m31 187 18) m31) fun q33 => if nI c = 0 then (bnd (dvI (m31 187 18) q33) fun v35 => some (v35, m31)) else (bnd (dvI (m31 187 19) q33) fun v37 => some (v37, m31))) else (bnd (f_X9_refuse (-nI 6) m) fun q => some (q.1, q.2)) := fun m hM => by
    have c2 : m 189 2 = nI (s.1 2) := hM.s.n (by decide) (by have := hS.w.s256; omega)
    have hM2 : MI s (m_up (m_up m 187 18 0) 187 19 0) := (hM.k18 0).k19 0
    have eb : (((1 : Int32) <<< (nI (s.1 0) &&& 31)) - (1 : Int32)) &&& (((1 : Int32) <<< (nI (s.1 (153 + 6 * w)) &&& 31)) ^^^ (-1 : Int32)) = nI (pwB s.1 w) := by
      rw [msk h0, bit_i (by omega), difN (by omega)]
      rfl
    unfold f_X9_power
    refine (bnd_of (M_hol1 hS hM ha)).trans ?_
    refine (if_neg (by decide)).trans ?_
    refine (bnd_of (M_wrk1 hS hM hw)).trans ?_
    refine (if_neg (by decide)).trans ?_
    refine (bnd_of (cm m hM)).trans ?_
    refine (if_neg (nIn (by omega) (by omega) hd)).trans ?_
    refine (bnd_of (M_in1 (n := 2) hc (by decide))).trans ?_
    refine (if_neg (by decide)).trans ?_
    refine (bnd_of (rdX (k := 0) rfl (by decide) (by decide) (hM.c0 hS))).trans ?_
    rw [bnd_of (rdX (k := 2) (x := 2) rfl (by decide) (by decide) c2), bnd_s, bnd_s, bnd_of (rdX (k := 0) (x := 0) rfl (by decide) (by decide) (hM2.c0 hS)), bnd_of (cm _ hM2), eb]
    rfl
  by_cases h6 : s.1 0 ≤ 6
  · have hB := pwB_lt hS w
    have hR := pwR_lt hS w a
    have hp1 := pwB_pop hS hw
    have hp2 := pwR_pop hS ha hda
    have p6 : 2 ^ s.1 0 ≤ 2 ^ 6 := Nat.pow_le_pow_right (by decide) h6
    have hcn : cnt 0 (pwB s.1 w) (s.1 0) = s.1 0 - 1 := by
      have := cnt_pop (sbs_0 (pwB s.1 w)) hB (show s.1 0 ≤ 28 by omega)
      have z : pop 0 = 0 := by decide
      omega
    have hDl : pwD s.1 w a ≤ fct (s.1 0 - 1) := by
      have z : pop 0 = 0 := by decide
      have := DD_le (K := pwR s.1 w a + 1) (R := pwR s.1 w a) (n := s.1 0) (pv := pwV s.1 w a) (by omega) (by omega) hR (pop (pwR s.1 w a)) 0 (sbs_0 _) (by omega)
      rw [show pop (pwR s.1 w a) + 1 = s.1 0 - 1 by omega] at this
      exact this
    obtain ⟨f1, f2⟩ := fct_le (s.1 0 - 1) (by omega)
    have gp : 0 < Nat.gcd (pwD s.1 w a) (fct (s.1 0 - 1)) := Nat.gcd_pos_of_pos_right _ f2
    have gl : Nat.gcd (pwD s.1 w a) (fct (s.1 0 - 1)) ≤ fct (s.1 0 - 1) := Nat.gcd_le_right _ f2
    refine ⟨if nI c = 0 then nI (pwD s.1 w a / Nat.gcd (pwD s.1 w a) (fct (s.1 0 - 1))) else nI (fct (s.1 0 - 1) / Nat.gcd (pwD s.1 w a) (fct (s.1 0 - 1))), s, hS, fun m hX => ?_, fun m hM => ?_⟩
    · obtain ⟨m1, i1, i2, i3⟩ := X_look hS.w.b hw hX.x
      have hX1 := hX.lk (show w < 6 by omega) i3
      refine ⟨m1, ?_, hX1, fun a i q => i3 a i (by omega) (by omega)⟩
      have lp := X_poL hS hX1 hw i2 ha hda h6 (pwR s.1 w a + 1) fU 0 0 (by omega) (by show _ < 300; omega)
      rw [Nat.zero_add] at lp
      have er : (nI (2 ^ s.1 0 - 1) &&& (((1 : Int32) <<< (nI (s.1 (153 + 6 * w)) &&& 31)) ^^^ (-1 : Int32))) &&& (((1 : Int32) <<< (nI a &&& 31)) ^^^ (-1 : Int32)) = nI (pwR s.1 w a) := by
        rw [bit_i (by omega), bit_i (by omega), difN (by omega)]
        have h8 := pwB_8 hS w
        exact difN h8
      have ep : f_X5_pivotalOrders (nI a) (nI w) m = some (nI (pwD s.1 w a), m1) := by
        unfold f_X5_pivotalOrders
        refine (bnd_of i1).trans ?_
        refine (bnd_of (X_ev hS hX1)).trans ?_
        refine (bnd_of (ckN (show w < 6 by omega) (by decide))).trans ?_
        refine (bnd_of (rdX (k := 0) rfl (by decide) (by decide) (cx m1 hX1))).trans ?_
        rw [er]
        exact (bnd_of lp).trans rfl
      have eo : f_X5_orders m1 = some (nI (fct (s.1 0 - 1))) := by
        unfold f_X5_orders
        have e1 : (if m1 1 0 - (1 : Int32) < (5 : Int32) then m1 1 0 - (1 : Int32) else (5 : Int32)) = nI (s.1 0 - 1) := by
          rw [hX1.o0, show nI (s.1 0) - (1 : Int32) = nI (s.1 0 - 1) from pk_sub (b := 1) (by omega)]
          by_cases z : s.1 0 - 1 < 5
          · exact if_pos (nI_lt (b := 5) z (by decide))
          · rw [show s.1 0 - 1 = 5 by omega]; decide
        rw [e1]
        have e2 : (if (0 : Int32) < nI (s.1 0 - 1) then nI (s.1 0 - 1) else (0 : Int32)) = nI (s.1 0 - 1) := by
          by_cases z : 0 < s.1 0 - 1
          · exact if_pos (nI_lt (a := 0) z (by omega))
          · rw [show s.1 0 - 1 = 0 by omega]; rfl
        rw [e2]
        refine (bnd_of (fcN (show s.1 0 - 1 < 6 by omega))).trans ?_
        rw [fac_n _ (by omega)]
      rw [gx m hX]
      refine (if_pos (nI_le (b := 6) h6 (by decide))).trans ?_
      refine (bnd_of ep).trans ?_
      refine (bnd_of eo).trans ?_
      refine (bnd_of (X_gs (by omega) f2 (by omega))).trans ?_
      have eg : (if (1 : Int32) < nI (Nat.gcd (pwD s.1 w a) (fct (s.1 0 - 1))) then nI (Nat.gcd (pwD s.1 w a) (fct (s.1 0 - 1))) else (1 : Int32)) = nI (Nat.gcd (pwD s.1 w a) (fct (s.1 0 - 1))) := by
        by_cases z : 1 < Nat.gcd (pwD s.1 w a) (fct (s.1 0 - 1))
        · exact if_pos (nI_lt (a := 1) z (by omega))
        · rw [show Nat.gcd (pwD s.1 w a) (fct (s.1 0 - 1)) = 1 by omega]; rfl
      rw [eg, bnd_of (dvN (show pwD s.1 w a < 2 ^ 31 by omega) gp (by omega)), bnd_of (dvN (show fct (s.1 0 - 1) < 2 ^ 31 by omega) gp (by omega))]
      by_cases z : nI c = 0
      · rw [if_pos z, if_pos z]
      · rw [if_neg z, if_neg z]
    · have hM2 : MI s (m_up (m_up m 187 18 0) 187 19 0) := (hM.k18 0).k19 0
      obtain ⟨m1, u, i1, i2, i3, i4, i5⟩ := M_lines hS hw ha hda (s.1 0 - 1) fR 0 (by show _ < 12; omega) (sbs_0 _) hcn (m_up (m_up m 187 18 0) 187 19 0) (s.1 2) 0 0 hM2.un ((m_up_ni (by decide)).trans (m_up_eq _ _ _ _)) (m_up_eq _ _ _ _)
      have eD : lnD s.1 w a 0 = pwD s.1 w a := if_neg (by rw [Nat.zero_testBit]; decide)
      rw [eD, Nat.zero_add] at i3
      rw [Nat.zero_add] at i4
      refine ⟨m_up m1 189 2 (nI (s.1 2)), ?_, i2.st0 hS, fun x i q => by rw [m_up_na (by omega), i5 x i (by omega) (by omega) (by omega) (by omega), m_up_na (by omega), m_up_na (by omega)]⟩
      have ec : f_X9_common fR (m_up m1 189 2 (nI (s.1 2)) 187 19) (m_up m1 189 2 (nI (s.1 2)) 187 18) (m_up m1 189 2 (nI (s.1 2))) = some (nI (Nat.gcd (pwD s.1 w a) (fct (s.1 0 - 1)))) := by
        rw [m_up_na (by decide), m_up_na (by decide), i3, i4, Nat.gcd_comm]
        exact M_common fR _ _ (by omega) (by omega) (egk_ok (s.1 0 - 1) (by omega) _ (by omega) hDl)
      rw [gm m hM]
      refine (if_pos (nI_le (b := 6) h6 (by decide))).trans ?_
      refine (bnd_of i1).trans ?_
      refine (bnd_of (wrN (k := 2) (by decide) (by decide))).trans ?_
      refine (bnd_of ec).trans ?_
      rw [m_up_na (by decide), m_up_na (by decide), i3, i4, bnd_of (dvN (show pwD s.1 w a < 2 ^ 31 by omega) gp (by omega)), bnd_of (dvN (show fct (s.1 0 - 1) < 2 ^ 31 by omega) gp (by omega))]
      by_cases z : nI c = 0
      · rw [if_pos z, if_pos z]
      · rw [if_neg z, if_neg z]
  · refine both_ref (k := 6) hS (by decide) (by decide) (fun m hX => ?_) (fun m hM => ?_)
    · rw [gx m hX]
      exact if_neg (nI_ge (a := 6) (by omega) (by omega))
    · rw [gm m hM]
      exact if_neg (nI_ge (a := 6) (by omega) (by omega))
