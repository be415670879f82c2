/-! power -/
theorem DD_le {K R n : Nat} {pv : Nat → Bool} (hK : R < K) (hn : n ≤ 28) (hR : R < 2 ^ n) : ∀ (r P : Nat), sbs P R = true → pop R = pop P + r → DD K R pv P ≤ fct (r + 1) := by
  have le : ∀ P, sbs P R = true → P < K := fun P h => by
    have : P &&& R = P := of_decide_eq_true h
    have h2 : P &&& R ≤ R := Nat.and_le_right
    omega
  intro r
  induction r with
  | zero =>
    intro P hP hp
    rw [← comb hP (le P hP) hn hR]
    have hc := cnt_pop hP hR hn
    have : P = R := cnt_0 hP hR (by omega)
    subst this
    rw [sumF_zero n 0 (fun y _ _ => by cases P.testBit y <;> rfl), Nat.sub_self]
    cases pv P <;> decide
  | succ r ih =>
    intro P hP hp
    rw [← comb hP (le P hP) hn hR]
    have hc := cnt_pop hP hR hn
    have h1 : sumF (fun y => if (R.testBit y && !(P.testBit y)) = true then DD K R pv (P ||| 2 ^ y) else 0) 0 n ≤ sumF (fun y => b2n (R.testBit y && !(P.testBit y)) * fct (r + 1)) 0 n := sumF_mono n 0 (fun y _ hy => by
      cases e : (R.testBit y && !(P.testBit y)) with
      | false => exact Nat.zero_le _
      | true =>
        show DD K R pv (P ||| 2 ^ y) ≤ 1 * fct (r + 1)
        rw [Nat.one_mul]
        rw [Bool.and_eq_true] at e
        have e2 : P.testBit y = false := by simpa using e.2
        refine ih _ (by rw [sbs_or, hP, e.1]; rfl) ?_
        rw [pop_or e2 (by omega)]
        omega)
    rw [sumF_k] at h1
    have h2 : sumF (fun y => b2n (R.testBit y && !(P.testBit y))) 0 n = r + 1 := by
      have : cnt P R n = r + 1 := by omega
      exact this
    rw [h2] at h1
    have h3 : fct (pop R - pop P) * b2n (pv P) ≤ fct (r + 1) := by
      rw [show pop R - pop P = r + 1 by omega]
      cases pv P
      · exact Nat.zero_le _
      · exact Nat.le_of_eq (Nat.mul_one _)
    have h4 : fct (r + 1 + 1) = (r + 1) * fct (r + 1) + fct (r + 1) := by
      show (r + 1 + 1) * fct (r + 1) = _
      rw [Nat.add_mul, Nat.one_mul]
    omega
/-- all but the doer; all but the doer and the holder -/
def pwB (t : Nat → Nat) (w : Nat) : Nat := dif (2 ^ t 0 - 1) (2 ^ (t (153 + 6 * w)))
def pwR (t : Nat → Nat) (w a : Nat) : Nat := dif (pwB t w) (2 ^ a)
def pwV (t : Nat → Nat) (w a P : Nat) : Bool := !(can (tset t 2 (t 2 ||| dif (pwR t w a) P ||| 2 ^ a)) 999 w) && can (tset t 2 (t 2 ||| dif (pwR t w a) P)) 999 w
def pwD (t : Nat → Nat) (w a : Nat) : Nat := DD (pwR t w a + 1) (pwR t w a) (pwV t w a) 0
section Power
variable {s : aSt}
theorem pop_all : ∀ n, n ≤ 8 → pop (2 ^ n - 1) = n := by decide
theorem pwB_b (hS : SI s) {w : Nat} (j : Nat) : (pwB s.1 w).testBit j = (decide (j < s.1 0) && !(decide (j = (s.1 (153 + 6 * w))))) := by
  have h0 := hS.w.h0
  have p8 : 2 ^ s.1 0 ≤ 2 ^ 8 := Nat.pow_le_pow_right (by decide) h0
  have p0 := Nat.two_pow_pos (s.1 0)
  unfold pwB
  rw [dif_b _ (by omega), Nat.testBit_two_pow_sub_one, Nat.testBit_two_pow]
  by_cases e : j = (s.1 (153 + 6 * w))
  · rw [decide_eq_true e, decide_eq_true e.symm]
  · rw [decide_eq_false e, decide_eq_false (show ¬ (s.1 (153 + 6 * w)) = j from fun z => e z.symm)]
theorem pwB_lt (hS : SI s) (w : Nat) : pwB s.1 w < 2 ^ s.1 0 := by
  have p0 := Nat.two_pow_pos (s.1 0)
  exact dif_lt _ (by omega)
theorem pwB_8 (hS : SI s) (w : Nat) : pwB s.1 w < 2 ^ 8 := Nat.lt_of_lt_of_le (pwB_lt hS w) (Nat.pow_le_pow_right (by decide) hS.w.h0)
theorem pwR_lt (hS : SI s) (w a : Nat) : pwR s.1 w a < 2 ^ s.1 0 := dif_lt _ (pwB_lt hS w)
theorem pwR_8 (hS : SI s) (w a : Nat) : pwR s.1 w a < 2 ^ 8 := dif_lt _ (pwB_8 hS w)
theorem pwR_b (hS : SI s) {w a : Nat} (j : Nat) : (pwR s.1 w a).testBit j = ((pwB s.1 w).testBit j && !(decide (j = a))) := by
  unfold pwR
  rw [dif_b _ (pwB_8 hS w), Nat.testBit_two_pow]
  by_cases e : j = a
  · rw [decide_eq_true e, decide_eq_true e.symm]
  · rw [decide_eq_false e, decide_eq_false (fun z => e z.symm)]
theorem pwB_pop (hS : SI s) {w : Nat} (hw : w < s.1 1) : pop (pwB s.1 w) + 1 = s.1 0 := by
  have h0 := hS.w.h0
  obtain ⟨d1, d2, d3, d4, d5, d6⟩ := hS.w.wk hw
  have e : pwB s.1 w ||| 2 ^ (s.1 (153 + 6 * w)) = 2 ^ s.1 0 - 1 := by
    apply Nat.eq_of_testBit_eq
    intro j
    rw [or_bit, pwB_b hS, Nat.testBit_two_pow_sub_one]
    by_cases z : j = (s.1 (153 + 6 * w))
    · rw [decide_eq_true z, decide_eq_true (show j < s.1 0 by omega)]; rfl
    · rw [decide_eq_false z]; cases decide (j < s.1 0) <;> rfl
  have h := pop_or (P := pwB s.1 w) (y := (s.1 (153 + 6 * w))) (by rw [pwB_b hS, decide_eq_true (show (s.1 (153 + 6 * w)) = (s.1 (153 + 6 * w)) from rfl)]; simp) (by omega)
  rw [e, pop_all _ h0] at h
  omega
theorem pwR_pop (hS : SI s) {w a : Nat} (ha : a < s.1 0) (hd : a ≠ (s.1 (153 + 6 * w))) : pop (pwR s.1 w a) + 1 = pop (pwB s.1 w) := by
  have h0 := hS.w.h0
  have e : pwR s.1 w a ||| 2 ^ a = pwB s.1 w := by
    apply Nat.eq_of_testBit_eq
    intro j
    rw [or_bit, pwR_b hS]
    by_cases z : j = a
    · rw [decide_eq_true z, pwB_b hS, decide_eq_true (show j < s.1 0 by omega), decide_eq_false (show ¬ j = (s.1 (153 + 6 * w)) by omega)]; rfl
    · rw [decide_eq_false z]; cases (pwB s.1 w).testBit j <;> rfl
  have h := pop_or (P := pwR s.1 w a) (y := a) (by rw [pwR_b hS, decide_eq_true (show a = a from rfl)]; simp) (by omega)
  rw [e] at h
  omega
theorem fac_n : ∀ k, k < 6 → fac6 k = nI (fct k) := by decide
theorem X_oo {m : mM} {P : Nat} (hP : P < 2 ^ 28) (h : pop P ≤ 4) : f_X5_ordersOf (nI P) m = some (nI (fct (pop P))) := by
  unfold f_X5_ordersOf
  rw [bitC_n hP, show (if nI (pop P) < (5 : Int32) then nI (pop P) else (5 : Int32)) = nI (pop P) from if_pos (nI_lt (b := 5) (by omega) (by decide))]
  refine (bnd_of (fcN (show pop P < 6 by omega))).trans ?_
  rw [fac_n _ (by omega)]
theorem pop_dif {R P : Nat} (hR : R < 2 ^ 8) (h : sbs P R = true) : pop (dif R P) = pop R - pop P := by
  have hs := sbs_iff.mp h
  have : pop R = pop P + pop (dif R P) := by
    rw [pop_tb, pop_tb, pop_tb, ← sumF_add]
    refine sumF_congr _ _ (fun d _ _ => ?_)
    rw [dif_b _ hR]
    cases e : P.testBit d with
    | true => rw [hs d e]; rfl
    | false => cases R.testBit d <;> rfl
  omega
theorem sbs_0 (Q : Nat) : sbs 0 Q = true := sbs_iff.mpr (fun j h => by rw [Nat.zero_testBit] at h; cases h)
theorem X_poL (hS : SI s) {m : mM} (hX : XI s m) {w a : Nat} (hw : w < s.1 1) (hk : lkd s.1 w m) (ha : a < s.1 0) (hd : a ≠ (s.1 (153 + 6 * w))) (h6 : s.1 0 ≤ 6) : ∀ (k n P b : Nat), P + k = pwR s.1 w a + 1 → k < n → f_X5_pivotalOrders_L44 (nI a) (nI w) (nI (pwR s.1 w a)) m n (nI b) (nI P) = some (nI (b + sumF (trm (pwR s.1 w a) (pwV s.1 w a) 0) P k)) := by
  have p8 : 2 ^ s.1 0 ≤ 2 ^ 6 := Nat.pow_le_pow_right (by decide) h6
  have hR := pwR_lt hS w a
  have hR8 := pwR_8 hS w a
  have hp1 := pwB_pop hS hw
  have hp2 := pwR_pop hS ha hd
  have ha2 : 2 ^ a < 2 ^ s.1 0 := Nat.pow_lt_pow_right (by decide) ha
  intro k
  induction k with
  | zero =>
    intro n P b hP hn
    obtain ⟨n, rfl⟩ : ∃ z, n = z + 1 := ⟨n - 1, by omega⟩
    rw [f_X5_pivotalOrders_L44]
    exact if_pos (nI_lt (by omega) (by omega))
  | succ k ih =>
    intro n P b hP hn
    obtain ⟨n, rfl⟩ : ∃ z, n = z + 1 := ⟨n - 1, by omega⟩
    have hPl : P < 2 ^ s.1 0 := by omega
    rw [f_X5_pivotalOrders_L44]
    refine (if_neg (nI_nlt (by omega) (by omega))).trans ?_
    simp only [sumF]
    have hand : P &&& pwR s.1 w a ≤ P := Nat.and_le_left
    have cs : (nI P &&& (nI (pwR s.1 w a) ^^^ (-1 : Int32)) = 0) ↔ sbs P (pwR s.1 w a) = true := by
      rw [and_not, anN, nI_eq (by omega) (by omega)]
      unfold sbs
      rw [decide_eq_true_eq]
    by_cases e : sbs P (pwR s.1 w a) = true
    · refine (if_pos (cs.mpr e)).trans ?_
      have hdl : dif (pwR s.1 w a) P < 2 ^ s.1 0 := dif_lt _ hR
      have hpd := pop_dif hR8 e
      have hpc := cnt_pop e hR8 (by decide)
      have hv1 := or_st hS hdl
      have hv2 : s.1 2 ||| dif (pwR s.1 w a) P ||| 2 ^ a < 2 ^ s.1 0 := Nat.or_lt_two_pow hv1 ha2
      have cb1 := X_canBe hS.w.b hw hX.x hk (L := 0) (lt := 999) hv2 (by decide) z_bit
      have cb2 := X_canBe hS.w.b hw hX.x hk (L := 0) (lt := 999) hv1 (by decide) z_bit
      rw [difN hR8, hX.o2, bit_i (by omega), orN, orN]
      refine (bnd_of cb1).trans ?_
      have et : trm (pwR s.1 w a) (pwV s.1 w a) 0 P = fct (pop P) * (fct (pop (pwR s.1 w a) - pop P) * b2n (pwV s.1 w a P)) := by
        unfold trm
        rw [sbs_0, e, if_pos (by rfl)]
        rfl
      by_cases e1 : can (tset s.1 2 (s.1 2 ||| dif (pwR s.1 w a) P ||| 2 ^ a)) 999 w = true
      · rw [e1]
        refine (if_neg (by decide)).trans ?_
        rw [et, show pwV s.1 w a P = false by unfold pwV; rw [e1]; rfl, nI_1, ih n (P + 1) b (by omega) (by omega)]
        show some (nI (b + _)) = some (nI (b + (fct (pop P) * (fct (pop (pwR s.1 w a) - pop P) * 0) + _)))
        rw [Nat.mul_zero, Nat.mul_zero, Nat.zero_add]
      · have e1' : can (tset s.1 2 (s.1 2 ||| dif (pwR s.1 w a) P ||| 2 ^ a)) 999 w = false := by simpa using e1
        rw [e1']
        refine (if_pos (by decide)).trans ?_
        refine (bnd_of cb2).trans ?_
        by_cases e2 : can (tset s.1 2 (s.1 2 ||| dif (pwR s.1 w a) P)) 999 w = true
        · rw [e2]
          refine (if_neg (by decide)).trans ?_
          refine (bnd_of (X_oo (by omega) (by omega))).trans ?_
          refine (bnd_of (X_oo (P := dif (pwR s.1 w a) P) (by omega) (by omega))).trans ?_
          rw [et, show pwV s.1 w a P = true by unfold pwV; rw [e1', e2]; rfl, nI_1, pk_mul, nI_add, ih n (P + 1) _ (by omega) (by omega), hpd]
          show some (nI (b + fct (pop P) * fct (pop (pwR s.1 w a) - pop P) + _)) = some (nI (b + (fct (pop P) * (fct (pop (pwR s.1 w a) - pop P) * 1) + _)))
          rw [Nat.mul_one, Nat.add_assoc]
        · have e2' : can (tset s.1 2 (s.1 2 ||| dif (pwR s.1 w a) P)) 999 w = false := by simpa using e2
          rw [e2']
          refine (if_pos (by decide)).trans ?_
          rw [et, show pwV s.1 w a P = false by unfold pwV; rw [e2']; simp, nI_1, ih n (P + 1) b (by omega) (by omega)]
          show some (nI (b + _)) = some (nI (b + (fct (pop P) * (fct (pop (pwR s.1 w a) - pop P) * 0) + _)))
          rw [Nat.mul_zero, Nat.mul_zero, Nat.zero_add]
    · refine (if_neg (fun z => e (cs.mp z))).trans ?_
      have et : trm (pwR s.1 w a) (pwV s.1 w a) 0 P = 0 := by
        unfold trm
        rw [show sbs P (pwR s.1 w a) = false by simpa using e, Bool.and_false]
        rfl
      rw [et, Nat.zero_add, nI_1]
      exact ih n (P + 1) b (by omega) (by omega)
end Power
