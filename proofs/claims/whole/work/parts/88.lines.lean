/-! power: lines of holders and sets of them -/
def fct : Nat → Nat
  | 0 => 1
  | n + 1 => (n + 1) * fct n
theorem tb (P y : Nat) : P / 2 ^ y % 2 = b2n (P.testBit y) := by
  rw [Nat.testBit_eq_decide_div_mod_eq]
  have : P / 2 ^ y % 2 < 2 := Nat.mod_lt _ (by decide)
  by_cases e : P / 2 ^ y % 2 = 1
  · rw [decide_eq_true e, e]; rfl
  · rw [decide_eq_false e]; show _ = 0; omega
theorem pop_tb (P : Nat) : pop P = sumF (fun d => b2n (P.testBit d)) 0 28 := sumF_congr _ _ (fun d _ _ => tb P d)
theorem sumF_zero {f : Nat → Nat} (k i : Nat) (h : ∀ j, i ≤ j → j < i + k → f j = 0) : sumF f i k = 0 := by
  have := sumF_le (B := 0) k i (fun j a b => Nat.le_of_eq (h j a b))
  omega
theorem sumF_pt {f g : Nat → Nat} {r δ : Nat} (hr : g r = f r + δ) : ∀ (k i : Nat), i ≤ r → r < i + k → (∀ d, d ≠ r → g d = f d) → sumF g i k = sumF f i k + δ := by
  intro k
  induction k with
  | zero => intro i h1 h2; omega
  | succ k ih =>
    intro i h1 h2 h3
    simp only [sumF]
    by_cases e : i = r
    · subst e
      rw [hr, sumF_congr (g := f) k (i + 1) (fun j a _ => h3 j (by omega))]
      omega
    · rw [h3 i e, ih (i + 1) (by omega) (by omega) h3]
      omega
theorem sumF_swap (g : Nat → Nat → Nat) (K : Nat) : ∀ (k i : Nat), sumF (fun y => sumF (g y) 0 K) i k = sumF (fun Q => sumF (fun y => g y Q) i k) 0 K := by
  intro k
  induction k with
  | zero => intro i; exact (sumF_zero K 0 (fun _ _ _ => rfl)).symm
  | succ k ih =>
    intro i
    simp only [sumF]
    rw [ih (i + 1), ← sumF_add]
theorem sumF_ite (c : Bool) (f : Nat → Nat) (k i : Nat) : (if c = true then sumF f i k else 0) = sumF (fun j => if c = true then f j else 0) i k := by
  cases c with
  | false => exact (sumF_zero k i (fun _ _ _ => rfl)).symm
  | true => rfl
/-- P is part of Q -/
def sbs (P Q : Nat) : Bool := decide (P &&& Q = P)
theorem sbs_iff {P Q : Nat} : sbs P Q = true ↔ ∀ j, P.testBit j = true → Q.testBit j = true := by
  unfold sbs
  rw [decide_eq_true_eq]
  exact and_sub
theorem or_bit {P y : Nat} (j : Nat) : (P ||| 2 ^ y).testBit j = (P.testBit j || decide (j = y)) := by
  rw [Nat.testBit_or, Nat.testBit_two_pow]
  by_cases e : j = y
  · subst e; rfl
  · rw [decide_eq_false e, decide_eq_false (fun z => e z.symm)]
theorem pop_or {P y : Nat} (h : P.testBit y = false) (hy : y < 28) : pop (P ||| 2 ^ y) = pop P + 1 := by
  rw [pop_tb, pop_tb]
  refine sumF_pt (r := y) ?_ 28 0 (Nat.zero_le _) (by omega) (fun d hd => ?_)
  · rw [or_bit, h, decide_eq_true rfl]; rfl
  · rw [or_bit, decide_eq_false hd, Bool.or_false]
/-- how many are in Q and not in P -/
def cnt (P Q n : Nat) : Nat := sumF (fun y => b2n (Q.testBit y && !(P.testBit y))) 0 n
theorem tb_far {Q n j : Nat} (hQ : Q < 2 ^ n) (hj : n ≤ j) : Q.testBit j = false := Nat.testBit_lt_two_pow (Nat.lt_of_lt_of_le hQ (Nat.pow_le_pow_right (by decide) hj))
theorem cnt_pop {P Q n : Nat} (h : sbs P Q = true) (hQ : Q < 2 ^ n) (hn : n ≤ 28) : pop Q = pop P + cnt P Q n := by
  have hs := sbs_iff.mp h
  have e1 : cnt P Q n = cnt P Q 28 := by
    unfold cnt
    rw [show (28 : Nat) = n + (28 - n) by omega, sumF_split, sumF_zero (28 - n) (0 + n) (fun j a _ => by rw [tb_far hQ (by omega)]; rfl)]
    rfl
  rw [e1, pop_tb, pop_tb]
  unfold cnt
  rw [← sumF_add]
  refine sumF_congr _ _ (fun d _ _ => ?_)
  cases e : P.testBit d with
  | true => rw [hs d e]; rfl
  | false => cases Q.testBit d <;> rfl
theorem cnt_0 {P Q n : Nat} (h : sbs P Q = true) (hQ : Q < 2 ^ n) (e : cnt P Q n = 0) : P = Q := by
  have hs := sbs_iff.mp h
  apply Nat.eq_of_testBit_eq
  intro j
  cases eP : P.testBit j with
  | true => rw [hs j eP]
  | false =>
    by_cases z : j < n
    · have := sumF_at (f := fun y => b2n (Q.testBit y && !(P.testBit y))) (i := 0) (k := n) (j := j) (Nat.zero_le _) (by omega)
      unfold cnt at e
      rw [e] at this
      cases eQ : Q.testBit j with
      | false => rfl
      | true =>
        simp only [eP, eQ] at this
        exact absurd this (by decide)
    · rw [tb_far hQ (by omega)]
def trm (R : Nat) (pv : Nat → Bool) (P Q : Nat) : Nat := if (sbs P Q && sbs Q R) = true then fct (pop Q - pop P) * (fct (pop R - pop Q) * b2n (pv Q)) else 0
def DD (K R : Nat) (pv : Nat → Bool) (P : Nat) : Nat := sumF (trm R pv P) 0 K
theorem sbs_or {P Q y : Nat} : sbs (P ||| 2 ^ y) Q = (sbs P Q && Q.testBit y) := by
  rw [Bool.eq_iff_iff, Bool.and_eq_true, sbs_iff, sbs_iff]
  constructor
  · intro h
    refine ⟨fun j hj => h j (by rw [or_bit, hj]; rfl), h y (by rw [or_bit, decide_eq_true rfl, Bool.or_true])⟩
  · rintro ⟨h1, h2⟩ j hj
    rw [or_bit, Bool.or_eq_true, decide_eq_true_eq] at hj
    rcases hj with hj | rfl
    · exact h1 j hj
    · exact h2
theorem sbs_rf (P : Nat) : sbs P P = true := sbs_iff.mpr (fun _ h => h)
theorem sumF_k {f : Nat → Nat} {c : Nat} : ∀ (k i : Nat), sumF (fun j => f j * c) i k = sumF f i k * c := sumF_mul f c
/-- the sum over the next of a line -/
theorem comb {K R P n : Nat} {pv : Nat → Bool} (hP : sbs P R = true) (hK : P < K) (hn : n ≤ 28) (hR : R < 2 ^ n) : sumF (fun y => if (R.testBit y && !(P.testBit y)) = true then DD K R pv (P ||| 2 ^ y) else 0) 0 n + fct (pop R - pop P) * b2n (pv P) = DD K R pv P := by
  have hs := sbs_iff.mp hP
  unfold DD
  rw [sumF_congr (g := fun y => sumF (fun Q => if (R.testBit y && !(P.testBit y)) = true then trm R pv (P ||| 2 ^ y) Q else 0) 0 K) n 0 (fun y _ _ => sumF_ite _ _ _ _), sumF_swap]
  refine (sumF_pt (f := fun Q => sumF (fun y => if (R.testBit y && !(P.testBit y)) = true then trm R pv (P ||| 2 ^ y) Q else 0) 0 n) (g := trm R pv P) (r := P) (δ := fct (pop R - pop P) * b2n (pv P)) ?_ K 0 (Nat.zero_le _) (by omega) (fun Q hQ => ?_)).symm
  · rw [sumF_zero n 0 (fun y _ _ => ?_), Nat.zero_add]
    · unfold trm
      rw [sbs_rf, hP, if_pos (by rfl), Nat.sub_self]
      show 1 * _ = _
      rw [Nat.one_mul]
    · by_cases z : (R.testBit y && !(P.testBit y)) = true
      · rw [if_pos z]
        unfold trm
        rw [sbs_or]
        rw [Bool.and_eq_true] at z
        have : P.testBit y = false := by simpa using z.2
        rw [this, Bool.and_false]
        rfl
      · rw [if_neg z]
  · by_cases z : (sbs P Q && sbs Q R) = true
    · have e1 : trm R pv P Q = fct (pop Q - pop P) * (fct (pop R - pop Q) * b2n (pv Q)) := if_pos z
      rw [Bool.and_eq_true] at z
      have hq := sbs_iff.mp z.2
      have hQn : Q < 2 ^ n := by
        refine Nat.lt_pow_two_of_testBit Q (fun i hi => ?_)
        cases e : Q.testBit i with
        | false => rfl
        | true => exact absurd (hq i e) (by rw [tb_far hR hi]; decide)
      have hc := cnt_pop z.1 hQn hn
      have hc0 : cnt P Q n ≠ 0 := fun y => hQ (cnt_0 z.1 hQn y).symm
      obtain ⟨c, ec⟩ : ∃ c, cnt P Q n = c + 1 := ⟨cnt P Q n - 1, by omega⟩
      rw [e1, show pop Q - pop P = c + 1 by omega]
      have e2 : ∀ y, 0 ≤ y → y < 0 + n → (if (R.testBit y && !(P.testBit y)) = true then trm R pv (P ||| 2 ^ y) Q else 0) = b2n (Q.testBit y && !(P.testBit y)) * (fct c * (fct (pop R - pop Q) * b2n (pv Q))) := fun y _ hy => by
        cases eQ : Q.testBit y with
        | false =>
          show _ = 0 * _
          rw [Nat.zero_mul]
          split
          · unfold trm; rw [sbs_or, eQ, Bool.and_false]; rfl
          · rfl
        | true =>
          rw [hq y eQ]
          cases eP : P.testBit y with
          | true => show 0 = 0 * _; rw [Nat.zero_mul]
          | false =>
            show (if true = true then _ else _) = 1 * _
            rw [if_pos rfl, Nat.one_mul]
            unfold trm
            rw [sbs_or, eQ, z.1, z.2, if_pos (by rfl), pop_or eP (by omega), show pop Q - (pop P + 1) = c by omega]
      rw [sumF_congr _ _ e2, sumF_k]
      show _ = cnt P Q n * _
      rw [ec]
      show (c + 1) * fct c * _ = _
      rw [Nat.mul_assoc]
    · have e1 : trm R pv P Q = 0 := if_neg z
      rw [e1, sumF_zero n 0 (fun y _ _ => ?_)]
      split
      · unfold trm
        refine if_neg (fun y2 => z ?_)
        rw [sbs_or, Bool.and_eq_true, Bool.and_eq_true] at y2
        rw [Bool.and_eq_true]
        exact ⟨y2.1.1, y2.2⟩
      · rfl
/-- what is in B and not in P -/
def dif (B P : Nat) : Nat := B &&& (P ^^^ (2 ^ 8 - 1))
theorem dif_b {B : Nat} (P : Nat) (hB : B < 2 ^ 8) (j : Nat) : (dif B P).testBit j = (B.testBit j && !(P.testBit j)) := by
  unfold dif
  rw [Nat.testBit_and, Nat.testBit_xor, Nat.testBit_two_pow_sub_one]
  by_cases e : j < 8
  · rw [decide_eq_true e]
    cases P.testBit j <;> cases B.testBit j <;> rfl
  · rw [tb_far hB (by omega)]; rfl
theorem dif_lt {B n : Nat} (P : Nat) (hB : B < 2 ^ n) : dif B P < 2 ^ n := Nat.lt_of_le_of_lt Nat.and_le_left hB
theorem difN {B P : Nat} (hB : B < 2 ^ 8) : nI B &&& (nI P ^^^ (-1 : Int32)) = nI (dif B P) := by
  have e1 : (-1 : Int32).toBitVec = BitVec.allOnes 32 := by decide
  apply Int32.toBitVec_inj.mp
  apply BitVec.eq_of_getLsbD_eq
  intro i hi
  show ((BitVec.ofNat 32 B) &&& ((BitVec.ofNat 32 P) ^^^ (-1 : Int32).toBitVec)).getLsbD i = (BitVec.ofNat 32 (dif B P)).getLsbD i
  rw [e1, BitVec.getLsbD_and, BitVec.getLsbD_xor, BitVec.getLsbD_allOnes, BitVec.getLsbD_ofNat, BitVec.getLsbD_ofNat, BitVec.getLsbD_ofNat, dif_b P hB]
  simp only [hi, decide_true, Bool.true_and]
  cases P.testBit i <;> cases B.testBit i <;> rfl
/-- Euclid with a bound -/
def egk : Nat → Nat → Nat → Bool
  | 0, _, _ => false
  | f + 1, a, b => decide (b = 0) || egk f b (a % b)
theorem M_common {m : mM} : ∀ (f a b : Nat), a < 2 ^ 31 → b < 2 ^ 31 → egk f a b = true → f_X9_common f (nI a) (nI b) m = some (nI (Nat.gcd a b)) := by
  intro f
  induction f with
  | zero => intro a b _ _ h; cases h
  | succ f ih =>
    intro a b ha hb h
    rw [f_X9_common]
    by_cases e : b = 0
    · subst e
      rw [Nat.gcd_zero_right]
      exact if_pos rfl
    · refine (if_neg (nIn (b := 0) hb (by omega) e)).trans ?_
      refine (bnd_of (rmN ha (by omega) hb)).trans ?_
      unfold egk at h
      rw [decide_eq_false e, Bool.false_or] at h
      have hm : a % b < b := Nat.mod_lt _ (by omega)
      refine (bnd_of (ih b (a % b) hb (by omega) h)).trans ?_
      rw [Nat.gcd_comm a b, Nat.gcd_rec b a, Nat.gcd_comm (a % b) b]
theorem egk_ok : ∀ n, n < 6 → ∀ b, b < 121 → b ≤ fct n → egk 12 (fct n) b = true := by decide
theorem X_gsL {m : mM} {a b : Nat} (ha : a < 2 ^ 31) (hb0 : 0 < b) (hb : b < 2 ^ 31) : ∀ (d n : Nat), d < n → d ≤ b → (∀ e, d < e → e ≤ b → ¬ (a % e = 0 ∧ b % e = 0)) → f_X8_greatestShared_L2 (nI a) (nI b) m n (nI d) = some (if Nat.gcd a b ≤ 1 then .inr () else .inl (nI (Nat.gcd a b))) := by
  have gp : 0 < Nat.gcd a b := Nat.gcd_pos_of_pos_right _ hb0
  have gl : Nat.gcd a b ≤ b := Nat.gcd_le_right _ hb0
  have g1 : a % Nat.gcd a b = 0 := Nat.mod_eq_zero_of_dvd (Nat.gcd_dvd_left a b)
  have g2 : b % Nat.gcd a b = 0 := Nat.mod_eq_zero_of_dvd (Nat.gcd_dvd_right a b)
  intro d
  induction d with
  | zero =>
    intro n hn hd h
    exact absurd ⟨g1, g2⟩ (h _ gp gl)
  | succ d ih =>
    intro n hn hd h
    obtain ⟨n, rfl⟩ : ∃ z, n = z + 1 := ⟨n - 1, by omega⟩
    have hg : Nat.gcd a b ≤ d + 1 := by
      refine Classical.byContradiction (fun z => ?_)
      exact h _ (by omega) gl ⟨g1, g2⟩
    rw [f_X8_greatestShared_L2]
    by_cases e : d = 0
    · subst e
      refine (if_pos (nI_le (b := 1) (by omega) (by decide))).trans ?_
      rw [if_pos (by omega)]
    · refine (if_neg (nI_ge (a := 1) (by omega) (by omega))).trans ?_
      have em : nI (d + 1) + (-1 : Int32) = nI d := by
        have : nI (d + 1) = nI d + nI 1 := (nI_add d 1).symm
        rw [this]
        show nI d + nI 1 + (-1) = nI d
        rw [Int32.add_assoc]
        show nI d + (nI 1 + (-1)) = nI d
        rw [show nI 1 + (-1 : Int32) = 0 by decide, Int32.add_zero]
      have next : ¬ (a % (d + 1) = 0 ∧ b % (d + 1) = 0) → f_X8_greatestShared_L2 (nI a) (nI b) m n (nI (d + 1) + (-1 : Int32)) = some (if Nat.gcd a b ≤ 1 then .inr () else .inl (nI (Nat.gcd a b))) := fun q => by
        rw [em]
        refine ih n (by omega) (by omega) (fun x h1 h2 => ?_)
        by_cases y : x = d + 1
        · rw [y]; exact q
        · exact h x (by omega) h2
      have l1 : a % (d + 1) < d + 1 := Nat.mod_lt _ (by omega)
      have l2 : b % (d + 1) < d + 1 := Nat.mod_lt _ (by omega)
      refine (bnd_of (rmN ha (by omega) (by omega))).trans ?_
      by_cases e1 : a % (d + 1) = 0
      · refine (if_pos (nIq e1)).trans ?_
        refine (bnd_of (rmN hb (by omega) (by omega))).trans ?_
        by_cases e2 : b % (d + 1) = 0
        · refine (if_pos (nIq e2)).trans ?_
          have hdv : d + 1 ∣ Nat.gcd a b := Nat.dvd_gcd (Nat.dvd_of_mod_eq_zero e1) (Nat.dvd_of_mod_eq_zero e2)
          have : d + 1 ≤ Nat.gcd a b := Nat.le_of_dvd gp hdv
          have eg : Nat.gcd a b = d + 1 := by omega
          rw [eg, if_neg (by omega)]
        · exact (if_neg (nIn (b := 0) (by omega) (by omega) e2)).trans (next (fun y => e2 y.2))
      · exact (if_neg (nIn (b := 0) (by omega) (by omega) e1)).trans (next (fun y => e1 y.1))
theorem X_gs {m : mM} {a b : Nat} (ha : a < 2 ^ 31) (hb0 : 0 < b) (hb : b < 300) : f_X8_greatestShared (nI a) (nI b) m = some (nI (Nat.gcd a b)) := by
  have gp : 0 < Nat.gcd a b := Nat.gcd_pos_of_pos_right _ hb0
  unfold f_X8_greatestShared
  refine (bnd_of (X_gsL ha hb0 (by omega) b fU hb (Nat.le_refl _) (fun e h1 h2 => by omega))).trans ?_
  by_cases e : Nat.gcd a b ≤ 1
  · rw [if_pos e, show Nat.gcd a b = 1 by omega]; rfl
  · rw [if_neg e]; rfl
