/-! power: the reference's lines -/
def pF (m m' : mM) : Prop := ∀ a i, a ≠ 195 → a ≠ 196 → ¬ (a = 187 ∧ (i = 11 ∨ i = 12 ∨ i = 18 ∨ i = 19)) → ¬ (a = 189 ∧ i = 2) → m' a i = m a i
theorem pF.rf (m : mM) : pF m m := fun _ _ _ _ _ _ => rfl
theorem pF.tr {m m1 m2 : mM} (h1 : pF m m1) (h2 : pF m1 m2) : pF m m2 := fun a i x y z v => (h2 a i x y z v).trans (h1 a i x y z v)
theorem sF.p {m m' : mM} (h : sF m m') : pF m m' := fun a i x y z v => h a i x y (by omega) v
theorem pF.u18 (m : mM) (v : Int32) : pF m (m_up m 187 18 v) := fun a i _ _ z _ => if_neg (by omega)
theorem pF.u19 (m : mM) (v : Int32) : pF m (m_up m 187 19 v) := fun a i _ _ z _ => if_neg (by omega)
theorem MI.k18 {s : aSt} {m : mM} (h : MI s m) (v : Int32) : MI s (m_up m 187 18 v) := h.cg (fun a i q => if_neg (by omega))
theorem MI.k19 {s : aSt} {m : mM} (h : MI s m) (v : Int32) : MI s (m_up m 187 19 v) := h.cg (fun a i q => if_neg (by omega))
/-- what lines from P on add -/
def lnD (t : Nat → Nat) (w a P : Nat) : Nat := if P.testBit a = true then 0 else DD (pwR t w a + 1) (pwR t w a) (pwV t w a) P
def lnG (t : Nat → Nat) (w a P ρ y : Nat) : Nat := if ((pwB t w).testBit y && !(P.testBit y)) = true then lnD t w a (P ||| 2 ^ y) + (if y = a then fct ρ * b2n (pwV t w a P) else 0) else 0
/-- what a call of lines does from P on -/
def lnQ (s : aSt) (w a : Nat) (F : mM → Option mM) (d18 d19 : Nat) : Prop := ∀ (m : mM) (u c18 c19 : Nat), MI (tset s.1 2 u, s.2) m → m 187 18 = nI c18 → m 187 19 = nI c19 → ∃ m' u', F m = some m' ∧ MI (tset s.1 2 u', s.2) m' ∧ m' 187 18 = nI (c18 + d18) ∧ m' 187 19 = nI (c19 + d19) ∧ pF m m'
section Lines
variable {s : aSt}
theorem bt_i {P j : Nat} (hP : P < 2 ^ 31) (hj : j < 32) : (nI P >>> (nI j &&& 31)) &&& 1 = nI (b2n (P.testBit j)) := by
  show (nI P >>> (nI j &&& nI 31)) &&& nI 1 = _
  rw [shN hP hj, an1, tb]
theorem dif_in (hS : SI s) {w a P : Nat} (ha : a < s.1 0) (hd : a ≠ (s.1 (153 + 6 * w))) (hP : P.testBit a = false) : dif (pwB s.1 w) P = dif (pwR s.1 w a) P ||| 2 ^ a := by
  apply Nat.eq_of_testBit_eq
  intro j
  rw [or_bit, dif_b _ (pwB_8 hS w), dif_b _ (pwR_8 hS w a), pwR_b hS]
  by_cases z : j = a
  · rw [decide_eq_true z, z, hP, pwB_b hS, decide_eq_true ha, decide_eq_false hd]; rfl
  · rw [decide_eq_false z]; cases (pwB s.1 w).testBit j <;> cases P.testBit j <;> rfl
theorem dif_out (hS : SI s) {w a P : Nat} : dif (pwB s.1 w) (P ||| 2 ^ a) = dif (pwR s.1 w a) P := by
  apply Nat.eq_of_testBit_eq
  intro j
  rw [dif_b _ (pwB_8 hS w), or_bit, dif_b _ (pwR_8 hS w a), pwR_b hS]
  cases (pwB s.1 w).testBit j <;> cases P.testBit j <;> cases decide (j = a) <;> rfl
theorem M_lnL (hS : SI s) {w a P ρ : Nat} (hw : w < s.1 1) (ha : a < s.1 0) (hd : a ≠ (s.1 (153 + 6 * w))) (hP : P < 2 ^ 8) {self : Int32 → Int32 → Int32 → Int32 → Int32 → mM → Option mM} (hs : ∀ y, y < s.1 0 → (pwB s.1 w).testBit y = true → P.testBit y = false → lnQ s w a (self (nI a) (nI w) (nI (s.1 2)) (nI (P ||| 2 ^ y)) (nI (pwB s.1 w))) (lnD s.1 w a (P ||| 2 ^ y)) (fct ρ)) : ∀ (k n x : Nat), x + k = s.1 0 → k < n → lnQ s w a (f_X9_lines_L21 self (nI a) (nI w) (nI (s.1 2)) (nI P) (nI (pwB s.1 w)) n (nI x)) (sumF (lnG s.1 w a P ρ) x k) (sumF (fun y => b2n ((pwB s.1 w).testBit y && !(P.testBit y)) * fct ρ) x k) := by
  have h0 := hS.w.h0
  have p8 : 2 ^ s.1 0 ≤ 2 ^ 8 := Nat.pow_le_pow_right (by decide) h0
  have hB8 := pwB_8 hS w
  have hB := pwB_lt hS w
  intro k
  induction k with
  | zero =>
    intro n x hx hn m u c18 c19 hM q18 q19
    obtain ⟨n, rfl⟩ : ∃ z, n = z + 1 := ⟨n - 1, by omega⟩
    refine ⟨m, u, ?_, hM, q18, q19, pF.rf m⟩
    rw [f_X9_lines_L21]
    refine (bnd_of (rdX (k := 0) rfl (by decide) (by decide) (hM.u0 hS))).trans ?_
    exact if_pos (nI_le (by omega) (by omega))
  | succ k ih =>
    intro n x hx hn m u c18 c19 hM q18 q19
    obtain ⟨n, rfl⟩ : ∃ z, n = z + 1 := ⟨n - 1, by omega⟩
    have hx0 : x < s.1 0 := by omega
    simp only [sumF]
    have skip : ((pwB s.1 w).testBit x && !(P.testBit x)) = false → ∃ m' u', f_X9_lines_L21 self (nI a) (nI w) (nI (s.1 2)) (nI P) (nI (pwB s.1 w)) n (nI x + 1) m = some m' ∧ MI (tset s.1 2 u', s.2) m' ∧ m' 187 18 = nI (c18 + (lnG s.1 w a P ρ x + sumF (lnG s.1 w a P ρ) (x + 1) k)) ∧ m' 187 19 = nI (c19 + (b2n ((pwB s.1 w).testBit x && !(P.testBit x)) * fct ρ + sumF (fun y => b2n ((pwB s.1 w).testBit y && !(P.testBit y)) * fct ρ) (x + 1) k)) ∧ pF m m' := fun e => by
      obtain ⟨m', u', i1, i2, i3, i4, i5⟩ := ih n (x + 1) (by omega) (by omega) m u c18 c19 hM q18 q19
      refine ⟨m', u', by rw [nI_1]; exact i1, i2, ?_, ?_, i5⟩
      · rw [show lnG s.1 w a P ρ x = 0 by unfold lnG; rw [e]; rfl, Nat.zero_add]; exact i3
      · rw [e]; show _ = nI (c19 + (0 * _ + _)); rw [Nat.zero_mul, Nat.zero_add]; exact i4
    have st : ∀ r, (if nI (b2n ((pwB s.1 w).testBit x)) = 0 then f_X9_lines_L21 self (nI a) (nI w) (nI (s.1 2)) (nI P) (nI (pwB s.1 w)) n (nI x + 1) m else if nI (b2n (P.testBit x)) = (1 : Int32) then f_X9_lines_L21 self (nI a) (nI w) (nI (s.1 2)) (nI P) (nI (pwB s.1 w)) n (nI x + 1) m else bnd (self (nI a) (nI w) (nI (s.1 2)) (nI (P ||| 2 ^ x)) (nI (pwB s.1 w)) m) fun q5 => if nI x = nI a then (bnd (wrA 189 189 (2 : Int32) (nI (s.1 2 ||| dif (pwB s.1 w) P)) q5) fun m7 => bnd (f_X9_costOf (nI w) m7) fun q9 => if q9.1 < 0 then (bnd (wrA 189 189 (2 : Int32) (nI (s.1 2 ||| dif (pwB s.1 w) (P ||| 2 ^ x))) q9.2) fun m11 => if (0 : Int32) = 0 then (bnd (f_X9_costOf (nI w) m11) fun q13 => if q13.1 < 0 then (bnd (some (m_up q13.2 187 18 ((m11 187 18) + (0 : Int32)))) fun m15 => f_X9_lines_L21 self (nI a) (nI w) (nI (s.1 2)) (nI P) (nI (pwB s.1 w)) n (nI x + 1) m15) else (bnd (some (m_up q13.2 187 18 ((m11 187 18) + ((q13.2 187 19) - (m 187 19))))) fun m17 => f_X9_lines_L21 self (nI a) (nI w) (nI (s.1 2)) (nI P) (nI (pwB s.1 w)) n (nI x + 1) m17)) else (bnd (some (m_up m11 187 18 ((m11 187 18) + (0 : Int32)))) fun m20 => f_X9_lines_L21 self (nI a) (nI w) (nI (s.1 2)) (nI P) (nI (pwB s.1 w)) n (nI x + 1) m20)) else (bnd (wrA 189 189 (2 : Int32) (nI (s.1 2 ||| dif (pwB s.1 w) (P ||| 2 ^ x))) q9.2) fun m23 => if (1 : Int32) = 0 then (bnd (f_X9_costOf (nI w) m23) fun q25 => if q25.1 < 0 then (bnd (some (m_up q25.2 187 18 ((m23 187 18) + (0 : Int32)))) fun m27 => f_X9_lines_L21 self (nI a) (nI w) (nI (s.1 2)) (nI P) (nI (pwB s.1 w)) n (nI x + 1) m27) else (bnd (some (m_up q25.2 187 18 ((m23 187 18) + ((q25.2 187 19) - (m 187 19))))) fun m29 => f_X9_lines_L21 self (nI a) (nI w) (nI (s.1 2)) (nI P) (nI (pwB s.1 w)) n (nI x + 1) m29)) else (bnd (some (m_up m23 187 18 ((m23 187 18) + (0 : Int32)))) fun m32 => f_X9_lines_L21 self (nI a) (nI w) (nI (s.1 2)) (nI P) (nI (pwB s.1 w)) n (nI x + 1) m32))) else f_X9_lines_L21 self (nI a) (nI w) (nI (s.1 2)) (nI P) (nI (pwB s.1 w)) n (nI x + 1) q5) = r → f_X9_lines_L21 self (nI a) (nI w) (nI (s.1 2)) (nI P) (nI (pwB s.1 w)) (n + 1) (nI x) m = r := fun r hr => by
      rw [f_X9_lines_L21]
      refine (bnd_of (rdX (k := 0) rfl (by decide) (by decide) (hM.u0 hS))).trans ?_
      refine (if_neg (nI_ge (by omega) (by omega))).trans ?_
      rw [bt_i (by omega) (by omega), bt_i (by omega) (by omega), bit_i (by omega), orN, difN hB8, difN hB8, orN, orN]
      exact hr
    by_cases e1 : (pwB s.1 w).testBit x = true
    · by_cases e2 : P.testBit x = true
      · obtain ⟨m', u', i1, i2⟩ := skip (by rw [e1, e2]; rfl)
        refine ⟨m', u', st _ ?_, i2⟩
        rw [e1, e2]
        exact (if_neg (by decide)).trans ((if_pos (by rfl)).trans i1)
      · have e2' : P.testBit x = false := by simpa using e2
        have ein : ((pwB s.1 w).testBit x && !(P.testBit x)) = true := by rw [e1, e2']; rfl
        obtain ⟨m1, u1, j1, j2, j3, j4, j5⟩ := hs x hx0 e1 e2' m u c18 c19 hM q18 q19
        have go : ∀ (m2 : mM) (u2 d : Nat), MI (tset s.1 2 u2, s.2) m2 → m2 187 18 = nI (c18 + d) → m2 187 19 = nI (c19 + fct ρ) → pF m m2 → lnG s.1 w a P ρ x = d → ∃ m' u', f_X9_lines_L21 self (nI a) (nI w) (nI (s.1 2)) (nI P) (nI (pwB s.1 w)) n (nI x + 1) m2 = some m' ∧ MI (tset s.1 2 u', s.2) m' ∧ m' 187 18 = nI (c18 + (lnG s.1 w a P ρ x + sumF (lnG s.1 w a P ρ) (x + 1) k)) ∧ m' 187 19 = nI (c19 + (b2n ((pwB s.1 w).testBit x && !(P.testBit x)) * fct ρ + sumF (fun y => b2n ((pwB s.1 w).testBit y && !(P.testBit y)) * fct ρ) (x + 1) k)) ∧ pF m m' := fun m2 u2 d a1 a2 a3 a4 a5 => by
          obtain ⟨m', u', i1, i2, i3, i4, i5⟩ := ih n (x + 1) (by omega) (by omega) m2 u2 _ _ a1 a2 a3
          refine ⟨m', u', by rw [nI_1]; exact i1, i2, ?_, ?_, a4.tr i5⟩
          · rw [a5, ← Nat.add_assoc]; exact i3
          · rw [ein]; show _ = nI (c19 + (1 * _ + _)); rw [Nat.one_mul, ← Nat.add_assoc]; exact i4
        have pre : ∀ r, (if nI x = nI a then (bnd (wrA 189 189 (2 : Int32) (nI (s.1 2 ||| dif (pwB s.1 w) P)) m1) fun m7 => bnd (f_X9_costOf (nI w) m7) fun q9 => if q9.1 < 0 then (bnd (wrA 189 189 (2 : Int32) (nI (s.1 2 ||| dif (pwB s.1 w) (P ||| 2 ^ x))) q9.2) fun m11 => (bnd (f_X9_costOf (nI w) m11) fun q13 => if q13.1 < 0 then f_X9_lines_L21 self (nI a) (nI w) (nI (s.1 2)) (nI P) (nI (pwB s.1 w)) n (nI x + 1) (m_up q13.2 187 18 ((m11 187 18) + (0 : Int32))) else f_X9_lines_L21 self (nI a) (nI w) (nI (s.1 2)) (nI P) (nI (pwB s.1 w)) n (nI x + 1) (m_up q13.2 187 18 ((m11 187 18) + ((q13.2 187 19) - (m 187 19)))))) else (bnd (wrA 189 189 (2 : Int32) (nI (s.1 2 ||| dif (pwB s.1 w) (P ||| 2 ^ x))) q9.2) fun m23 => f_X9_lines_L21 self (nI a) (nI w) (nI (s.1 2)) (nI P) (nI (pwB s.1 w)) n (nI x + 1) (m_up m23 187 18 ((m23 187 18) + (0 : Int32))))) else f_X9_lines_L21 self (nI a) (nI w) (nI (s.1 2)) (nI P) (nI (pwB s.1 w)) n (nI x + 1) m1) = r → f_X9_lines_L21 self (nI a) (nI w) (nI (s.1 2)) (nI P) (nI (pwB s.1 w)) (n + 1) (nI x) m = r := fun r hr => by
          refine st r ?_
          rw [e1, e2']
          refine (if_neg (by decide)).trans ?_
          refine (if_neg (by decide)).trans ?_
          refine (bnd_of j1).trans ?_
          exact hr
        by_cases e3 : x = a
        · subst e3
          have hdl : dif (pwB s.1 w) P < 2 ^ s.1 0 := dif_lt _ hB
          have hdl2 : dif (pwB s.1 w) (P ||| 2 ^ x) < 2 ^ s.1 0 := dif_lt _ hB
          have hv1 := or_st hS hdl
          have hv2 := or_st hS hdl2
          have lx : lnD s.1 w x (P ||| 2 ^ x) = 0 := by
            unfold lnD
            rw [or_bit, decide_eq_true (show x = x from rfl), Bool.or_true]
            rfl
          rw [lx, Nat.add_zero] at j3
          obtain ⟨m2, l1, l2, l3⟩ := M_test hS hw hv1 j2
          obtain ⟨m3, r1, r2, r3⟩ := M_test hS hw hv2 l2
          have hw2 : ∀ v, w < tset s.1 2 v 1 := fun v => by rw [tset_ne (by omega)]; exact hw
          have ok1 : bOK (one (tset s.1 2 (s.1 2 ||| dif (pwB s.1 w) P)) 999 w) := one_bok (lt := 999) (hS.st2 hv1).w.b (hw2 (s.1 2 ||| dif (pwB s.1 w) P))
          have ok2 : bOK (one (tset s.1 2 (s.1 2 ||| dif (pwB s.1 w) (P ||| 2 ^ x))) 999 w) := one_bok (lt := 999) (hS.st2 hv2).w.b (hw2 (s.1 2 ||| dif (pwB s.1 w) (P ||| 2 ^ x)))
          have a18 : m2 187 18 = nI c18 := (l3 187 18 (by decide) (by decide) (by omega) (by omega)).trans j3
          have a19 : m2 187 19 = nI (c19 + fct ρ) := (l3 187 19 (by decide) (by decide) (by omega) (by omega)).trans j4
          have b18 : m3 187 18 = nI c18 := (r3 187 18 (by decide) (by decide) (by omega) (by omega)).trans a18
          have b19 : m3 187 19 = nI (c19 + fct ρ) := (r3 187 19 (by decide) (by decide) (by omega) (by omega)).trans a19
          have lg : lnG s.1 w x P ρ x = fct ρ * b2n (pwV s.1 w x P) := by
            unfold lnG
            rw [ein, if_pos (by rfl), lx, if_pos rfl, Nat.zero_add]
          have ev : pwV s.1 w x P = (!(can (tset s.1 2 (s.1 2 ||| dif (pwB s.1 w) P)) 999 w) && can (tset s.1 2 (s.1 2 ||| dif (pwB s.1 w) (P ||| 2 ^ x))) 999 w) := by
            unfold pwV
            rw [dif_in hS ha hd e2', dif_out hS, Nat.or_assoc]
          have f2 : pF m m2 := j5.tr l3.p
          have f3 : pF m m3 := f2.tr r3.p
          by_cases c1 : can (tset s.1 2 (s.1 2 ||| dif (pwB s.1 w) P)) 999 w = true
          · have ev0 : pwV s.1 w x P = false := by rw [ev, c1]; rfl
            obtain ⟨m', u', i1, i2⟩ := go (m_up (m_up m2 189 2 (nI (s.1 2 ||| dif (pwB s.1 w) (P ||| 2 ^ x)))) 187 18 (nI c18 + (0 : Int32))) (s.1 2 ||| dif (pwB s.1 w) (P ||| 2 ^ x)) 0 ((l2.st2 (by omega)).k18 _) ((m_up_eq _ _ _ _).trans (iz _)) ((m_up_ni (by decide)).trans ((m_up_na (by decide)).trans a19)) ((f2.tr (sF.u m2 _).p).tr (pF.u18 _ _)) (by rw [lg, ev0]; exact Nat.mul_zero _)
            refine ⟨m', u', pre _ ?_, i2⟩
            refine (if_pos rfl).trans ?_
            refine (bnd_of (wrN (k := 2) (by decide) (by decide))).trans ?_
            refine (bnd_of l1).trans ?_
            refine (if_neg (fun z => ?_)).trans ?_
            · have := (bc_neg ok1).mp z
              unfold can at c1
              rw [this] at c1; cases c1
            · refine (bnd_of (wrN (k := 2) (by decide) (by decide))).trans ?_
              show f_X9_lines_L21 self (nI x) (nI w) (nI (s.1 2)) (nI P) (nI (pwB s.1 w)) n (nI x + 1) (m_up (m_up m2 189 2 (nI (s.1 2 ||| dif (pwB s.1 w) (P ||| 2 ^ x)))) 187 18 (m_up m2 189 2 (nI (s.1 2 ||| dif (pwB s.1 w) (P ||| 2 ^ x))) 187 18 + 0)) = some m'
              rw [show m_up m2 189 2 (nI (s.1 2 ||| dif (pwB s.1 w) (P ||| 2 ^ x))) 187 18 = nI c18 from (m_up_na (by decide)).trans a18]
              exact i1
          · have c1' : can (tset s.1 2 (s.1 2 ||| dif (pwB s.1 w) P)) 999 w = false := by simpa using c1
            have a18' : m_up m2 189 2 (nI (s.1 2 ||| dif (pwB s.1 w) (P ||| 2 ^ x))) 187 18 = nI c18 := (m_up_na (by decide)).trans a18
            by_cases c2 : can (tset s.1 2 (s.1 2 ||| dif (pwB s.1 w) (P ||| 2 ^ x))) 999 w = true
            · have ev1 : pwV s.1 w x P = true := by rw [ev, c1', c2]; rfl
              obtain ⟨m', u', i1, i2⟩ := go (m_up m3 187 18 (nI (c18 + fct ρ))) (s.1 2 ||| dif (pwB s.1 w) (P ||| 2 ^ x)) (fct ρ) (r2.k18 _) (m_up_eq _ _ _ _) ((m_up_ni (by decide)).trans b19) (f3.tr (pF.u18 _ _)) (by rw [lg, ev1]; exact Nat.mul_one _)
              refine ⟨m', u', pre _ ?_, i2⟩
              refine (if_pos rfl).trans ?_
              refine (bnd_of (wrN (k := 2) (by decide) (by decide))).trans ?_
              refine (bnd_of l1).trans ?_
              refine (if_pos ((bc_neg ok1).mpr c1')).trans ?_
              refine (bnd_of (wrN (k := 2) (by decide) (by decide))).trans ?_
              refine (bnd_of r1).trans ?_
              refine (if_neg (fun z => ?_)).trans ?_
              · have := (bc_neg ok2).mp z
                unfold can at c2
                rw [this] at c2; cases c2
              · show f_X9_lines_L21 self (nI x) (nI w) (nI (s.1 2)) (nI P) (nI (pwB s.1 w)) n (nI x + 1) (m_up m3 187 18 (m_up m2 189 2 (nI (s.1 2 ||| dif (pwB s.1 w) (P ||| 2 ^ x))) 187 18 + (m3 187 19 - m 187 19))) = some m'
                rw [a18', b19, q19, pk_sub (by omega), nI_add, show c19 + fct ρ - c19 = fct ρ by omega]
                exact i1
            · have c2' : can (tset s.1 2 (s.1 2 ||| dif (pwB s.1 w) (P ||| 2 ^ x))) 999 w = false := by simpa using c2
              have ev0 : pwV s.1 w x P = false := by rw [ev, c2']; simp
              obtain ⟨m', u', i1, i2⟩ := go (m_up m3 187 18 (nI c18 + (0 : Int32))) (s.1 2 ||| dif (pwB s.1 w) (P ||| 2 ^ x)) 0 (r2.k18 _) ((m_up_eq _ _ _ _).trans (iz _)) ((m_up_ni (by decide)).trans b19) (f3.tr (pF.u18 _ _)) (by rw [lg, ev0]; exact Nat.mul_zero _)
              refine ⟨m', u', pre _ ?_, i2⟩
              refine (if_pos rfl).trans ?_
              refine (bnd_of (wrN (k := 2) (by decide) (by decide))).trans ?_
              refine (bnd_of l1).trans ?_
              refine (if_pos ((bc_neg ok1).mpr c1')).trans ?_
              refine (bnd_of (wrN (k := 2) (by decide) (by decide))).trans ?_
              refine (bnd_of r1).trans ?_
              refine (if_pos ((bc_neg ok2).mpr c2')).trans ?_
              show f_X9_lines_L21 self (nI x) (nI w) (nI (s.1 2)) (nI P) (nI (pwB s.1 w)) n (nI x + 1) (m_up m3 187 18 (m_up m2 189 2 (nI (s.1 2 ||| dif (pwB s.1 w) (P ||| 2 ^ x))) 187 18 + 0)) = some m'
              rw [a18']
              exact i1
        · have lg : lnG s.1 w a P ρ x = lnD s.1 w a (P ||| 2 ^ x) := by
            unfold lnG
            rw [ein, if_pos (by rfl), if_neg e3, Nat.add_zero]
          obtain ⟨m', u', i1, i2⟩ := go m1 u1 _ j2 j3 j4 j5 lg
          exact ⟨m', u', pre _ ((if_neg (nIn (by omega) (by omega) e3)).trans i1), i2⟩
    · have e1' : (pwB s.1 w).testBit x = false := by simpa using e1
      obtain ⟨m', u', i1, i2⟩ := skip (by rw [e1']; rfl)
      refine ⟨m', u', st _ ?_, i2⟩
      rw [e1']
      exact (if_pos (by rfl)).trans i1
end Lines
