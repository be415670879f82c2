/-! give: who should have the hours of nobody -/
/-- the hours of nobody from j on below k are p's -/
def gvT (t : Nat → Nat) (p j k : Nat) : Nat → Nat := fun i =>
  if 9 + 4 * j ≤ i ∧ i < 9 + 4 * k ∧ i < 121 ∧ t (9 + 4 * ((i - 9) / 4)) = 0 then (if i % 4 = 1 then 1 else if i % 4 = 2 then p else t i) else t i
section Gv
variable {t : Nat → Nat} {p j k : Nat}
theorem gvT_n {i : Nat} (h : ¬ (9 ≤ i ∧ i < 121)) : gvT t p j k i = t i := if_neg (by omega)
theorem gvT_c {h : Nat} (hh : h < 28) : ((gvT t p j k) (9 + 4 * h)) = if j ≤ h ∧ h < k ∧ (t (9 + 4 * h)) = 0 then 1 else (t (9 + 4 * h)) := by
  unfold gvT
  rw [show (9 + 4 * h - 9) / 4 = h by omega]
  by_cases e : j ≤ h ∧ h < k ∧ (t (9 + 4 * h)) = 0
  · rw [if_pos ⟨by omega, by omega, by omega, e.2.2⟩, if_pos (by omega), if_pos e]
  · rw [if_neg (fun z => e ⟨by omega, by omega, z.2.2.2⟩), if_neg e]
theorem gvT_p0 {h : Nat} (hh : h < 28) (hj : j ≤ h) (hk : h < k) (e : (t (9 + 4 * h)) = 0) : ((gvT t p j k) (9 + 4 * h + 1 + 0)) = p := by
  unfold gvT
  rw [show (9 + 4 * h + 1 + 0 - 9) / 4 = h by omega]
  rw [if_pos ⟨by omega, by omega, by omega, e⟩, if_neg (by omega), if_pos (by omega)]
theorem gvT_p {h i : Nat} (hh : h < 28) (hi : i < 3) (e : ¬ (j ≤ h ∧ h < k ∧ (t (9 + 4 * h)) = 0)) : ((gvT t p j k) (9 + 4 * h + 1 + i)) = (t (9 + 4 * h + 1 + i)) := by
  unfold gvT
  rw [show (9 + 4 * h + 1 + i - 9) / 4 = h by omega]
  exact if_neg (fun z => e ⟨by omega, by omega, z.2.2.2⟩)
theorem gvT_z (h : k ≤ j) : gvT t p j k = t := by
  funext i
  exact if_neg (by omega)
theorem WT.gv (hW : WT t) (hp : p < t 0) (j k : Nat) : WT (gvT t p j k) := by
  have h0 := hW.h0
  have w0 := hW.w0
  have e : ∀ i, (i < 9 ∨ 121 ≤ i) → gvT t p j k i = t i := fun i hi => gvT_n (by omega)
  refine ⟨⟨by rw [e 0 (by omega)]; exact h0, by rw [e 1 (by omega)]; exact w0, by rw [e 2 (by omega), e 0 (by omega)]; exact hW.st, by rw [e 3 (by omega)]; exact hW.be, by rw [e 4 (by omega)]; exact hW.bs, fun k hk => by rw [e _ (by omega)]; exact hW.se hk, fun h hh => ?_, fun h i hh hi => ?_, fun x hx => ?_, fun w hw => ?_, fun i hi => ?_⟩, fun h i l hh hi hj => ?_, fun x hx => ?_, fun x hx h8 => ?_⟩
  · rw [gvT_c hh]
    split
    · omega
    · exact hW.pa hh
  · rw [e 0 (by omega)]
    rw [gvT_c hh] at hi
    by_cases z : j ≤ h ∧ h < k ∧ (t (9 + 4 * h)) = 0
    · rw [if_pos z] at hi
      have : i = 0 := by omega
      subst this
      rw [gvT_p0 hh z.1 z.2.1 z.2.2]; exact hp
    · rw [if_neg z] at hi
      have := hW.pa hh
      rw [gvT_p hh (by omega) z]; exact hW.pp hh hi
  · rw [e 0 (by omega)] at hx
    rw [e (121 + 4 * x) (by omega), e (121 + 4 * x + 1) (by omega), e (121 + 4 * x + 2) (by omega)]
    exact hW.ho hx
  · rw [e 1 (by omega)] at hw
    rw [e (153 + 6 * w) (by omega), e (153 + 6 * w + 1) (by omega), e (153 + 6 * w + 2) (by omega), e (153 + 6 * w + 3) (by omega), e (153 + 6 * w + 4) (by omega), e (153 + 6 * w + 5) (by omega), e 0 (by omega)]
    exact hW.wk hw
  · have := hW.lt hi
    unfold gvT
    split
    · split
      · omega
      · split <;> omega
    · exact this
  · rw [gvT_c hh] at hj
    by_cases z : j ≤ h ∧ h < k ∧ (t (9 + 4 * h)) = 0
    · rw [if_pos z] at hj; omega
    · rw [if_neg z] at hj
      have := hW.pa hh
      rw [gvT_p hh (by omega) z, gvT_p hh (by omega) z]
      exact hW.di hh hi hj
  · rw [e 0 (by omega)] at hx ⊢
    rw [e (121 + 4 * x + 3) (by omega)]
    rcases hW.spo hx with q | ⟨q1, q2, q3⟩
    · exact Or.inl q
    · exact Or.inr ⟨q1, q2, by rw [e _ (by omega)]; exact q3⟩
  · rw [e 0 (by omega)] at hx
    rw [e _ (by omega)]; exact hW.sz hx h8
theorem gvT_has (hW : WT t) {h x : Nat} (hh : h < 28) : hasP (gvT t p j k) h x = ((decide (j ≤ h ∧ h < k ∧ (t (9 + 4 * h)) = 0) && decide (x = p)) || hasP t h x) := by
  have h3 := hW.pa hh
  rw [Bool.eq_iff_iff]
  simp only [Bool.or_eq_true, Bool.and_eq_true, decide_eq_true_eq]
  rw [hasP_iff, hasP_iff, gvT_c hh]
  by_cases z : j ≤ h ∧ h < k ∧ (t (9 + 4 * h)) = 0
  · rw [if_pos z]
    constructor
    · rintro ⟨i, hi, e⟩
      have : i = 0 := by omega
      subst this
      rw [gvT_p0 hh z.1 z.2.1 z.2.2] at e
      exact Or.inl ⟨z, e.symm⟩
    · rintro (⟨-, e⟩ | ⟨i, hi, e⟩)
      · exact ⟨0, by omega, by rw [gvT_p0 hh z.1 z.2.1 z.2.2, e]⟩
      · omega
  · rw [if_neg z]
    constructor
    · rintro ⟨i, hi, e⟩
      rw [gvT_p hh (by omega) z] at e
      exact Or.inr ⟨i, hi, e⟩
    · rintro (⟨c, -⟩ | ⟨i, hi, e⟩)
      · exact absurd c z
      · exact ⟨i, hi, by rw [gvT_p hh (by omega) z]; exact e⟩
end Gv
/-- a sum of bits grows by one bit -/
theorem mkB_or {f g : Nat → Bool} {h : Nat} (hf : f h = false) (hg : g h = true) : ∀ n, h < n → (∀ x, x < n → x ≠ h → g x = f x) → mkB g n = mkB f n + 2 ^ h := by
  intro n
  induction n with
  | zero => intro q; omega
  | succ n ih =>
    intro q e
    simp only [mkB]
    by_cases z : h = n
    · subst z
      rw [hf, hg, mkB_congr (g := f) h (fun x hx => e x (by omega) (by omega))]
      simp
    · rw [ih (by omega) (fun x hx => e x (by omega)), e n (by omega) (by omega)]
      omega
theorem hMk_gv {T T' : Nat → Nat} {p h : Nat} (hh : h < 28) (h1 : hasP T h p = false) (h2 : hasP T' h p = true) (h3 : ∀ x, x < 28 → x ≠ h → hasP T' x p = hasP T x p) : hMk T' p = hMk T p + 2 ^ h ∧ hMk T p / 2 ^ h % 2 = 0 := by
  refine ⟨mkB_or (f := fun x => hasP T x p) (g := fun x => hasP T' x p) (h := h) h1 h2 28 hh h3, ?_⟩
  have := mkB_bit (fun x => hasP T x p) 28 h hh
  simp only [h1] at this
  exact this
theorem clr {a q : Int32} (h : a &&& q = 0) : (a ||| q) &&& (q ^^^ (-1 : Int32)) = a := by
  apply Int32.toBitVec_inj.mp
  apply BitVec.eq_of_getLsbD_eq
  intro i hi
  have hb := congrArg (fun z => z.toBitVec.getLsbD i) h
  have e1 : (-1 : Int32).toBitVec = BitVec.allOnes 32 := by decide
  simp only [Int32.toBitVec_and, Int32.toBitVec_or, Int32.toBitVec_xor, BitVec.getLsbD_and, BitVec.getLsbD_or, BitVec.getLsbD_xor, e1, BitVec.getLsbD_allOnes] at hb ⊢
  have e2 : (0 : Int32).toBitVec.getLsbD i = false := by
    show (0#32).getLsbD i = false
    exact BitVec.getLsbD_zero
  rw [e2] at hb
  simp only [hi, decide_true]
  revert hb
  cases a.toBitVec.getLsbD i <;> cases q.toBitVec.getLsbD i <;> decide
theorem bit_i {h : Nat} (hh : h < 31) : (1 : Int32) <<< (nI h &&& 31) = nI (2 ^ h) := by
  have p28 : 2 ^ h < 2 ^ 31 := Nat.pow_lt_pow_right (by decide) hh
  show nI 1 <<< (nI _ &&& nI 31) = _
  rw [slN (by omega) (by omega), Nat.one_mul]
theorem clrN {a h : Nat} (hh : h < 31) (h0 : a / 2 ^ h % 2 = 0) : nI (a + 2 ^ h) &&& (((1 : Int32) <<< (nI h &&& 31)) ^^^ (-1 : Int32)) = nI a := by
  rw [bit_i hh, ← or_free (x := a) (h := h) h0, ← orN]
  refine clr ?_
  rw [anN]
  refine congrArg nI ?_
  apply Nat.eq_of_testBit_eq
  intro j
  rw [Nat.testBit_and, Nat.zero_testBit]
  by_cases y : j = h
  · subst y
    rw [Nat.testBit_eq_decide_div_mod_eq, h0]; rfl
  · rw [Nat.testBit_two_pow_of_ne (Ne.symm y), Bool.and_false]
/-- the cells of one hour change -/
theorem XS.gv {T T' : Nat → Nat} {m m' : mM} (hX : XS T m) (hW : WT T) {p h : Nat} (hh : h < 28) (hp : p < 8) (e : ∀ i, ¬ (9 + 4 * h ≤ i ∧ i < 9 + 4 * h + 4) → T' i = T i) (f : ∀ a i, ¬ (a = 13 ∧ i = h) → a ≠ 15 + h → ¬ (a = 11 ∧ i = p) → a < 51 → m' a i = m a i) (c1 : m' 13 h = nI (T' (9 + 4 * h))) (c2 : ∀ i, i < (T' (9 + 4 * h)) → m' (15 + h) i = nI (T' (9 + 4 * h + 1 + i))) (c3 : m' 11 p = nI (hMk T' p)) (c4 : ∀ x, x < 28 → ∀ q, q ≠ p → hasP T' x q = hasP T x q) : XS T' m' := by
  refine ⟨?_, ?_, ?_, ?_, ?_, fun x k hx hk => ?_, fun x hx => ?_, fun x hx => ?_, fun x i hx hi => ?_, fun w k hw hk => ?_, fun k hk => ?_, fun x hx => ?_⟩
  · rw [f 1 0 (by omega) (by omega) (by omega) (by omega), e 0 (by omega)]; exact hX.1
  · rw [f 1 1 (by omega) (by omega) (by omega) (by omega), e 1 (by omega)]; exact hX.2.1
  · rw [f 1 2 (by omega) (by omega) (by omega) (by omega), e 2 (by omega)]; exact hX.2.2.1
  · rw [f 1 3 (by omega) (by omega) (by omega) (by omega), e 3 (by omega)]; exact hX.2.2.2.1
  · rw [f 1 4 (by omega) (by omega) (by omega) (by omega), e 4 (by omega)]; exact hX.2.2.2.2.1
  · rw [f (3 + x) k (by omega) (by omega) (by omega) (by omega), e (121 + 4 * x + k) (by omega)]; exact hX.h hx hk
  · rw [f 12 x (by omega) (by omega) (by omega) (by omega), e _ (by omega)]; exact hX.s hx
  · by_cases z : x = h
    · subst z; exact c1
    · rw [f 13 x (by omega) (by omega) (by omega) (by omega), e _ (by omega)]; exact hX.p hx
  · by_cases z : x = h
    · subst z; exact c2 i hi
    · rw [e _ (by omega)] at hi
      have := hW.pa hx
      rw [f (15 + x) i (by omega) (by omega) (by omega) (by omega), e _ (by omega)]; exact hX.q hx hi
  · rw [f (44 + w) k (by omega) (by omega) (by omega) (by omega), e _ (by omega)]; exact hX.w hw hk
  · rw [f 50 k (by omega) (by omega) (by omega) (by omega), e _ (by omega)]; exact hX.u hk
  · by_cases z : x = p
    · subst z; exact c3
    · rw [f 11 x (by omega) (by omega) (by omega) (by omega), hX.b hx]
      exact congrArg nI (mkB_congr 28 (fun y hy => (c4 y hy x z).symm))
theorem gvT_s {t : Nat → Nat} {p j k i : Nat} (h : ¬ (9 + 4 * k ≤ i ∧ i < 9 + 4 * k + 4)) : gvT t p j (k + 1) i = gvT t p j k i := by
  unfold gvT
  by_cases z : 9 + 4 * j ≤ i ∧ i < 9 + 4 * k ∧ i < 121 ∧ t (9 + 4 * ((i - 9) / 4)) = 0
  · rw [if_pos z, if_pos ⟨z.1, by omega, z.2.2⟩]
  · rw [if_neg z, if_neg (fun y => z ⟨y.1, by omega, y.2.2⟩)]
theorem gvT_j {t : Nat → Nat} {p j k i : Nat} (h : ¬ (9 + 4 * j ≤ i ∧ i < 9 + 4 * j + 4)) : gvT t p (j + 1) k i = gvT t p j k i := by
  unfold gvT
  by_cases z : 9 + 4 * j ≤ i ∧ i < 9 + 4 * k ∧ i < 121 ∧ t (9 + 4 * ((i - 9) / 4)) = 0
  · rw [if_pos z, if_pos ⟨by omega, z.2⟩]
  · rw [if_neg z, if_neg (fun y => z ⟨by omega, y.2⟩)]
theorem gvT_same {t : Nat → Nat} {p j k : Nat} (hk : k < 28) (h : (t (9 + 4 * k)) ≠ 0) : gvT t p j (k + 1) = gvT t p j k := by
  funext i
  by_cases z : 9 + 4 * k ≤ i ∧ i < 9 + 4 * k + 4
  · unfold gvT
    rw [show (i - 9) / 4 = k by omega, if_neg (fun y => h y.2.2.2), if_neg (fun y => h y.2.2.2)]
  · exact gvT_s z
theorem gvT_samj {t : Nat → Nat} {p j k : Nat} (hk : j < 28) (h : (t (9 + 4 * j)) ≠ 0) : gvT t p (j + 1) k = gvT t p j k := by
  funext i
  by_cases z : 9 + 4 * j ≤ i ∧ i < 9 + 4 * j + 4
  · unfold gvT
    rw [show (i - 9) / 4 = j by omega, if_neg (fun y => h y.2.2.2), if_neg (fun y => h y.2.2.2)]
  · exact gvT_j z
theorem has0 {t : Nat → Nat} {h p : Nat} (e : (t (9 + 4 * h)) = 0) : hasP t h p = false := by
  unfold hasP
  rw [e]; rfl
def gvS (s : aSt) (p j k : Nat) : aSt := (gvT s.1 p j k, s.2)
theorem X_add {s : aSt} {m : mM} (hS : SI s) {p j k : Nat} (hp : p < s.1 0) (hk : k < 28) (hj : j ≤ k) (hX : XI (gvS s p j k) m) (e0 : (s.1 (9 + 4 * k)) = 0) : ∃ m', f_X7_addPart_1 (nI p) (nI k) m = some m' ∧ XI (gvS s p j (k + 1)) m' ∧ ∀ a i, (a = 0 ∨ 51 ≤ a) → m' a i = m a i := by
  have h0 := hS.w.h0
  have hW1 := hS.w.gv hp j k
  have c1 : ((gvT s.1 p j k) (9 + 4 * k)) = 0 := by rw [gvT_c hk, if_neg (by omega)]; exact e0
  have r1 : m 13 k = nI 0 := (hX.x.p hk).trans (by show nI (gvT s.1 p j k (9 + 4 * k)) = _; rw [c1])
  have r2 : m 11 p = nI (hMk (gvT s.1 p j k) p) := hX.x.b (by omega)
  have hp28 : 2 ^ k < 2 ^ 28 := Nat.pow_lt_pow_right (by decide) hk
  obtain ⟨g1, g2⟩ := hMk_gv (T := gvT s.1 p j k) (T' := gvT s.1 p j (k + 1)) (p := p) hk (has0 c1) (by rw [gvT_has hS.w hk]; simp [e0, hj]) (fun x hx hne => by
    rw [gvT_has hS.w hx, gvT_has hS.w hx]
    have : (j ≤ x ∧ x < k + 1 ∧ (s.1 (9 + 4 * x)) = 0) ↔ (j ≤ x ∧ x < k ∧ (s.1 (9 + 4 * x)) = 0) := by omega
    simp only [this])
  have fr : ∀ a i, a ≠ 11 → a ≠ 13 → a ≠ 15 + k → m_up (m_up (m_up m (15 + k) 0 (nI p)) 13 k (nI 1)) 11 p (nI (hMk (gvT s.1 p j (k + 1)) p)) a i = m a i := fun a i q1 q2 q3 => by rw [m_up_na q1, m_up_na q2, m_up_na q3]
  refine ⟨m_up (m_up (m_up m (15 + k) 0 (nI p)) 13 k (nI 1)) 11 p (nI (hMk (gvT s.1 p j (k + 1)) p)), ?_, ?_, fun a i q => fr a i (by omega) (by omega) (by omega)⟩
  · unfold f_X7_addPart_1
    refine (bnd_of (ckN hk (by decide))).trans ?_
    refine (bnd_of (rdX rfl hk (by decide) r1)).trans ?_
    refine (bnd_of (wrN (k := 0) (by decide) (by decide))).trans ?_
    refine (bnd_of (rdX rfl hk (by decide) ((m_up_na (by omega)).trans r1))).trans ?_
    refine (bnd_of (wrN hk (by decide))).trans ?_
    refine (bnd_of (rdX rfl (show p < 8 by omega) (by decide) ((m_up_na (by omega)).trans ((m_up_na (by omega)).trans r2)))).trans ?_
    refine (bnd_of (wrN (show p < 8 by omega) (by decide))).trans ?_
    rw [bit_i (by omega), orN, or_free (x := hMk (gvT s.1 p j k) p) (h := k) g2, ← g1]
    rfl
  · refine XI.town (s := gvS s p j k) hX (hX.x.gv hW1 (p := p) hk (by omega) (fun i hi => gvT_s hi) (fun a i q1 q2 q3 q4 => ?_) ?_ (fun i hi => ?_) ?_ (fun x hx q hq => ?_)) (fun a i q => fr a i (by omega) (by omega) (by omega))
    · show (if a = 11 ∧ i = p then _ else _) = _
      rw [if_neg q3]
      show (if a = 13 ∧ i = k then _ else _) = _
      rw [if_neg q1, m_up_na q2]
    · rw [m_up_na (by omega), m_up_eq, gvT_c hk, if_pos ⟨hj, by omega, e0⟩]
    · rw [gvT_c hk, if_pos ⟨hj, by omega, e0⟩] at hi
      have : i = 0 := by omega
      subst this
      rw [m_up_na (by omega), m_up_na (by omega), m_up_eq, gvT_p0 hk hj (by omega) e0]
    · rw [m_up_eq]
    · show hasP (gvT s.1 p j (k + 1)) x q = hasP (gvT s.1 p j k) x q
      rw [gvT_has hS.w hx, gvT_has hS.w hx]
      simp [hq]
theorem X_take {s : aSt} {m : mM} (hS : SI s) {p j k : Nat} (hp : p < s.1 0) (hk : j < 28) (hj : j < k) (hX : XI (gvS s p j k) m) (e0 : (s.1 (9 + 4 * j)) = 0) : ∃ m', f_X7_takeOnlyPart (nI p) (nI j) m = some m' ∧ XI (gvS s p (j + 1) k) m' ∧ ∀ a i, (a = 0 ∨ 51 ≤ a) → m' a i = m a i := by
  have h0 := hS.w.h0
  have hW1 := hS.w.gv hp j k
  have c1 : ((gvT s.1 p (j + 1) k) (9 + 4 * j)) = 0 := by rw [gvT_c hk, if_neg (by omega)]; exact e0
  have r2 : m 11 p = nI (hMk (gvT s.1 p j k) p) := hX.x.b (by omega)
  have hp28 : 2 ^ j < 2 ^ 28 := Nat.pow_lt_pow_right (by decide) hk
  obtain ⟨g1, g2⟩ := hMk_gv (T := gvT s.1 p (j + 1) k) (T' := gvT s.1 p j k) (p := p) hk (has0 c1) (by rw [gvT_has hS.w hk]; simp [e0, hj]) (fun x hx hne => by
    rw [gvT_has hS.w hx, gvT_has hS.w hx]
    have : (j ≤ x ∧ x < k ∧ (s.1 (9 + 4 * x)) = 0) ↔ (j + 1 ≤ x ∧ x < k ∧ (s.1 (9 + 4 * x)) = 0) := by omega
    simp only [this])
  refine ⟨m_up (m_up m 13 j (nI 0)) 11 p (nI (hMk (gvT s.1 p (j + 1) k) p)), ?_, ?_, fun a i q => by rw [m_up_na (by omega), m_up_na (by omega)]⟩
  · unfold f_X7_takeOnlyPart
    refine (bnd_of (wrN hk (by decide))).trans ?_
    refine (bnd_of (rdX rfl (show p < 8 by omega) (by decide) ((m_up_na (by omega)).trans r2))).trans ?_
    refine (bnd_of (wrN (show p < 8 by omega) (by decide))).trans ?_
    rw [g1, clrN (by omega) g2]
    rfl
  · refine XI.town (s := gvS s p j k) hX (hX.x.gv hW1 (p := p) hk (by omega) (fun i hi => gvT_j hi) (fun a i q1 q2 q3 q4 => ?_) ?_ (fun i hi => ?_) ?_ (fun x hx q hq => ?_)) (fun a i q => by rw [m_up_na (by omega), m_up_na (by omega)])
    · show (if a = 11 ∧ i = p then _ else _) = _
      rw [if_neg q3]
      show (if a = 13 ∧ i = j then _ else _) = _
      rw [if_neg q1]
    · rw [m_up_na (by omega), m_up_eq, c1]
    · rw [c1] at hi; omega
    · rw [m_up_eq]
    · show hasP (gvT s.1 p (j + 1) k) x q = hasP (gvT s.1 p j k) x q
      rw [gvT_has hS.w hx, gvT_has hS.w hx]
      simp [hq]

def nob (t : Nat → Nat) : Nat := mkB (fun h => decide ((t (9 + 4 * h)) = 0)) 28
theorem nob_b {t : Nat → Nat} {h : Nat} (hh : h < 28) : nob t / 2 ^ h % 2 = b2n (decide ((t (9 + 4 * h)) = 0)) := mkB_bit _ 28 h hh
theorem X_btL4 {s : aSt} {m : mM} (hS : SI s) (hX : XI s m) : ∀ (k n h : Nat), h + k = 28 → k < n → f_X2_bestTaker_L4 m n (nI (mkB (fun h => decide ((s.1 (9 + 4 * h)) = 0)) h)) (nI h) = some (nI (nob s.1)) := by
  intro k
  induction k with
  | zero =>
    intro n h hh hn
    obtain ⟨n, rfl⟩ : ∃ z, n = z + 1 := ⟨n - 1, by omega⟩
    have : h = 28 := by omega
    subst this
    rw [f_X2_bestTaker_L4]
    exact if_pos (nI_le (a := 28) (by omega) (by omega))
  | succ k ih =>
    intro n h hh hn
    obtain ⟨n, rfl⟩ : ∃ z, n = z + 1 := ⟨n - 1, by omega⟩
    have h28 : h < 28 := by omega
    have h3 := hS.w.pa h28
    have hb := mkB_lt (fun h => decide ((s.1 (9 + 4 * h)) = 0)) h
    have i1 := ih n (h + 1) (by omega) (by omega)
    rw [f_X2_bestTaker_L4]
    refine (if_neg (nI_ge (b := 28) (by omega) (by decide))).trans ?_
    refine (bnd_of (rdX rfl h28 (by decide) (hX.x.p h28))).trans ?_
    simp only [mkB] at i1
    by_cases e : (s.1 (9 + 4 * h)) = 0
    · refine (if_pos (nIq e)).trans ?_
      rw [if_pos (by simpa using e)] at i1
      have e0 : mkB (fun h => decide ((s.1 (9 + 4 * h)) = 0)) h / 2 ^ h % 2 = 0 := by rw [Nat.div_eq_of_lt hb]
      rw [bit_i (by omega), orN, or_free e0, nI_1]
      exact i1
    · refine (if_neg (nIn (b := 0) (by omega) (by omega) e)).trans ?_
      rw [if_neg (by simpa using e)] at i1
      have e0 : nI (mkB (fun h => decide ((s.1 (9 + 4 * h)) = 0)) h) ||| (0 : Int32) = nI (mkB (fun h => decide ((s.1 (9 + 4 * h)) = 0)) h + 0) := by
        show _ ||| nI 0 = _
        rw [orN, Nat.or_zero]; rfl
      rw [e0, nI_1]
      exact i1
theorem X_gvL {s : aSt} (hS : SI s) {p : Nat} (hp : p < s.1 0) : ∀ (k n h : Nat) (m : mM), h + k = 28 → k < n → XI (gvS s p 0 h) m → ∃ m', f_X2_netsWithGift_L2 (nI p) (nI (nob s.1)) n (nI h) m = some m' ∧ XI (gvS s p 0 28) m' ∧ ∀ a i, (a = 0 ∨ 51 ≤ a) → m' a i = m a i := by
  have hnl : nob s.1 < 2 ^ 28 := mkB_lt _ _
  intro k
  induction k with
  | zero =>
    intro n h m hh hn hX
    obtain ⟨n, rfl⟩ : ∃ z, n = z + 1 := ⟨n - 1, by omega⟩
    have : h = 28 := by omega
    subst this
    refine ⟨m, ?_, hX, fun _ _ _ => rfl⟩
    rw [f_X2_netsWithGift_L2]
    exact if_pos (nI_le (a := 28) (by omega) (by omega))
  | succ k ih =>
    intro n h m hh hn hX
    obtain ⟨n, rfl⟩ : ∃ z, n = z + 1 := ⟨n - 1, by omega⟩
    have h28 : h < 28 := by omega
    have hb := nob_b (t := s.1) h28
    by_cases e : (s.1 (9 + 4 * h)) = 0
    · obtain ⟨m1, j1, j2, j3⟩ := X_add hS hp h28 (Nat.zero_le h) hX e
      obtain ⟨m', i1, i2, i3⟩ := ih n (h + 1) m1 (by omega) (by omega) j2
      refine ⟨m', ?_, i2, fun a i q => (i3 a i q).trans (j3 a i q)⟩
      rw [f_X2_netsWithGift_L2]
      refine (if_neg (nI_ge (b := 28) (by omega) (by decide))).trans ?_
      refine (bnd_of (X_isIn (by omega) (by omega))).trans ?_
      rw [hb, show decide ((s.1 (9 + 4 * h)) = 0) = true by simpa using e]
      refine (if_neg (by decide)).trans ?_
      refine (bnd_of j1).trans ?_
      rw [nI_1]; exact i1
    · have hX' : XI (gvS s p 0 (h + 1)) m := by
        unfold gvS; rw [gvT_same h28 e]; exact hX
      obtain ⟨m', i1, i2, i3⟩ := ih n (h + 1) m (by omega) (by omega) hX'
      refine ⟨m', ?_, i2, i3⟩
      rw [f_X2_netsWithGift_L2]
      refine (if_neg (nI_ge (b := 28) (by omega) (by decide))).trans ?_
      refine (bnd_of (X_isIn (by omega) (by omega))).trans ?_
      rw [hb, show decide ((s.1 (9 + 4 * h)) = 0) = false by simpa using e]
      refine (if_pos (by decide)).trans ?_
      rw [nI_1]; exact i1
theorem X_tkL {s : aSt} (hS : SI s) {p : Nat} (hp : p < s.1 0) {z : Int32} : ∀ (k n h : Nat) (m : mM), h + k = 28 → k < n → XI (gvS s p h 28) m → ∃ m', f_X2_netsWithGift_L82 (nI p) (nI (nob s.1)) z n (nI h) m = some m' ∧ XI (gvS s p 28 28) m' ∧ ∀ a i, (a = 0 ∨ 51 ≤ a) → m' a i = m a i := by
  have hnl : nob s.1 < 2 ^ 28 := mkB_lt _ _
  intro k
  induction k with
  | zero =>
    intro n h m hh hn hX
    obtain ⟨n, rfl⟩ : ∃ z, n = z + 1 := ⟨n - 1, by omega⟩
    have : h = 28 := by omega
    subst this
    refine ⟨m, ?_, hX, fun _ _ _ => rfl⟩
    rw [f_X2_netsWithGift_L82]
    exact if_pos (nI_le (a := 28) (by omega) (by omega))
  | succ k ih =>
    intro n h m hh hn hX
    obtain ⟨n, rfl⟩ : ∃ z, n = z + 1 := ⟨n - 1, by omega⟩
    have h28 : h < 28 := by omega
    have hb := nob_b (t := s.1) h28
    by_cases e : (s.1 (9 + 4 * h)) = 0
    · obtain ⟨m1, j1, j2, j3⟩ := X_take hS hp h28 h28 hX e
      obtain ⟨m', i1, i2, i3⟩ := ih n (h + 1) m1 (by omega) (by omega) j2
      refine ⟨m', ?_, i2, fun a i q => (i3 a i q).trans (j3 a i q)⟩
      rw [f_X2_netsWithGift_L82]
      refine (if_neg (nI_ge (b := 28) (by omega) (by decide))).trans ?_
      refine (bnd_of (X_isIn (by omega) (by omega))).trans ?_
      rw [hb, show decide ((s.1 (9 + 4 * h)) = 0) = true by simpa using e]
      refine (if_neg (by decide)).trans ?_
      refine (bnd_of j1).trans ?_
      rw [nI_1]; exact i1
    · have hX' : XI (gvS s p (h + 1) 28) m := by
        unfold gvS; rw [gvT_samj h28 e]; exact hX
      obtain ⟨m', i1, i2, i3⟩ := ih n (h + 1) m (by omega) (by omega) hX'
      refine ⟨m', ?_, i2, i3⟩
      rw [f_X2_netsWithGift_L82]
      refine (if_neg (nI_ge (b := 28) (by omega) (by decide))).trans ?_
      refine (bnd_of (X_isIn (by omega) (by omega))).trans ?_
      rw [hb, show decide ((s.1 (9 + 4 * h)) = 0) = false by simpa using e]
      refine (if_pos (by decide)).trans ?_
      rw [nI_1]; exact i1
def nts (t : Nat → Nat) : Nat := sumF (yv t 100) 0 (t 1)
theorem nts_le {s : aSt} (hS : SI s) : nts s.1 ≤ 594 := by
  have w0 := hS.w.w0
  have := sumF_le (f := yv s.1 100) (B := 99) (s.1 1) 0 (fun w _ hw => by
    obtain ⟨d1, d2, d3, d4, d5, d6⟩ := hS.w.wk (show w < s.1 1 by omega)
    unfold yv nz
    have := ntO_le (b := one s.1 999 w) (g := (s.1 (153 + 6 * w + 4)) * 100 / 100) (by omega)
    split <;> omega)
  have : s.1 1 * 99 ≤ 6 * 99 := Nat.mul_le_mul_right _ w0
  unfold nts
  omega
theorem M_nb2 {s : aSt} (hS : SI s) {c : Nat} (hc : c ≤ 300) : ∀ (k n w b : Nat) (m : mM), w + k = s.1 1 → k < n → MI s m → ∃ m', f_X9_netsBy_L4 (nI c) n (nI b) (nI w) m = some (nI (b + sumF (yv s.1 c) w k), m') ∧ mF m m' := by
  have w0 := hS.w.w0
  intro k
  induction k with
  | zero =>
    intro n w b m hw hn hM
    obtain ⟨n, rfl⟩ : ∃ z, n = z + 1 := ⟨n - 1, by omega⟩
    refine ⟨m, ?_, mF.rf m⟩
    rw [f_X9_netsBy_L4]
    refine (bnd_of (rdX (k := 1) rfl (by decide) (by decide) (hM.c1 hS))).trans ?_
    exact if_pos (nI_le (by omega) (by omega))
  | succ k ih =>
    intro n w b m hw hn hM
    obtain ⟨n, rfl⟩ : ∃ z, n = z + 1 := ⟨n - 1, by omega⟩
    have hw1 : w < s.1 1 := by omega
    obtain ⟨d1, d2, d3, d4, d5, d6⟩ := hS.w.wk hw1
    have hm : (s.1 (153 + 6 * w + 4)) * c ≤ 99 * 300 := Nat.mul_le_mul d5 hc
    obtain ⟨m1, j1, -, j2⟩ := M_netBy hS hM hw1 (show (s.1 (153 + 6 * w + 4)) * c / 100 < 999 by omega)
    have hnt := ntO_le (b := one s.1 999 w) (show (s.1 (153 + 6 * w + 4)) * c / 100 < 999 by omega)
    obtain ⟨m', i1, i2⟩ := ih n (w + 1) (b + yv s.1 c w) m1 (by omega) (by omega) (hM.n j2.n)
    refine ⟨m', ?_, j2.tr i2⟩
    rw [f_X9_netsBy_L4]
    refine (bnd_of (rdX (k := 1) rfl (by decide) (by decide) (hM.c1 hS))).trans ?_
    refine (if_neg (nI_ge (by omega) (by omega))).trans ?_
    refine (bnd_of ((M_of (k := 4) hM.s (by omega) (by omega)).trans (congrArg some (dcN (by omega))))).trans ?_
    rw [show nI (s.1 (153 + 6 * w + 4)) * nI c / 100 = nI ((s.1 (153 + 6 * w + 4)) * c / 100) by rw [pk_mul]; exact pk_div (d := 100) (by omega) (by decide) (by decide)]
    refine (bnd_of j1).trans ?_
    simp only [sumF]
    rw [← Nat.add_assoc, ← i1, nI_1]
    unfold yv nz
    by_cases e : ntO (one s.1 999 w) ((s.1 (153 + 6 * w + 4)) * c / 100) = 999
    · refine (if_neg (by show ¬ (0 : Int32) ≤ dc _; rw [e]; decide)).trans ?_
      rw [iz, if_pos e]; rfl
    · refine (if_pos (by show (0 : Int32) ≤ dc _; rw [dcN (by omega)]; exact nI_pos' (by omega))).trans ?_
      rw [if_neg e, ← nI_add b, ← dcN (show ntO (one s.1 999 w) ((s.1 (153 + 6 * w + 4)) * c / 100) < 999 by omega)]
theorem M_nets2 {s : aSt} {m : mM} (hS : SI s) (hM : MI s m) : ∃ m', f_X9_netsBy (nI 100) m = some (nI (nts s.1), m') ∧ mN m m' ∧ ∀ i, m' 192 i = m 192 i := by
  have w0 := hS.w.w0
  obtain ⟨m', i1, i2⟩ := M_nb2 hS (show 100 ≤ 300 by decide) (s.1 1) fU 0 0 m (by omega) (by show _ < 300; omega) hM
  rw [Nat.zero_add] at i1
  refine ⟨m', ?_, i2.n, fun i => i2 192 i (by decide) (by decide) (by omega)⟩
  unfold f_X9_netsBy
  exact (bnd_of i1).trans rfl
theorem X_ngL {s : aSt} {m : mM} (hS : SI s) (hX : XI s m) (hf : fc s.1 m) {z1 z2 : Int32} : ∀ (k n w b : Nat), w + k = s.1 1 → k < n → f_X2_netsWithGift_L40 z1 z2 m n (nI b) (nI w) = some (nI (b + sumF (yv s.1 100) w k)) := by
  have w0 := hS.w.w0
  intro k
  induction k with
  | zero =>
    intro n w b hw hn
    obtain ⟨n, rfl⟩ : ∃ z, n = z + 1 := ⟨n - 1, by omega⟩
    rw [f_X2_netsWithGift_L40]
    exact if_pos (by rw [hX.o1]; exact nI_le (by omega) (by omega))
  | succ k ih =>
    intro n w b hw hn
    obtain ⟨n, rfl⟩ : ∃ z, n = z + 1 := ⟨n - 1, by omega⟩
    obtain ⟨d1, d2, d3, d4, d5, d6⟩ := hS.w.wk (show w < s.1 1 by omega)
    have c4 : m (44 + w) 4 = nI (s.1 (153 + 6 * w + 4)) := (hX.x.w (k := 4) (by omega) (by omega)).trans (dcN (by omega))
    rw [f_X2_netsWithGift_L40]
    refine (if_neg (by rw [hX.o1]; exact nI_ge (by omega) (by omega))).trans ?_
    refine (bnd_of (ckN (show w < 6 by omega) (by decide))).trans ?_
    refine (bnd_of (rdX (k := 4) rfl (by decide) (by decide) c4)).trans ?_
    refine (bnd_of (X_doneNet hS hf (show w < s.1 1 by omega) (by omega))).trans ?_
    rw [nI_add, nI_1, ih n (w + 1) _ (by omega) (by omega)]
    have ev : yv s.1 100 w = nz (ntO (one s.1 999 w) (s.1 (153 + 6 * w + 4))) := by
      unfold yv
      rw [show (s.1 (153 + 6 * w + 4)) * 100 / 100 = (s.1 (153 + 6 * w + 4)) by omega]
    rw [← ev]
    refine congrArg some (congrArg nI ?_)
    show b + yv s.1 100 w + sumF (yv s.1 100) (w + 1) k = b + (yv s.1 100 w + sumF (yv s.1 100) (w + 1) k)
    rw [Nat.add_assoc]
theorem X_nwg {s : aSt} {m : mM} (hS : SI s) (hX : XI s m) {p : Nat} (hp : p < s.1 0) : ∃ m', f_X2_netsWithGift (nI p) (nI (nob s.1)) m = some (nI (nts (gvT s.1 p 0 28)), m') ∧ XI s m' ∧ loF m m' := by
  have w0 := hS.w.w0
  have hX0 : XI (gvS s p 0 0) m := by unfold gvS; rw [gvT_z (Nat.le_refl _)]; exact hX
  obtain ⟨m1, a1, a2, a3⟩ := X_gvL hS hp 28 fU 0 m rfl (by decide) hX0
  have hS1 : SI (gvS s p 0 28) := hS.town (hS.w.gv hp 0 28)
  obtain ⟨m2, b1, b2, b3⟩ := X_findCosts hS1 a2
  have hX2 := a2.n b3
  have e1 : (gvS s p 0 28).1 1 = s.1 1 := by show gvT s.1 p 0 28 1 = s.1 1; exact gvT_n (by omega)
  have c1 := X_ngL (z1 := nI p) (z2 := nI (nob s.1)) hS1 hX2 b2 ((gvS s p 0 28).1 1) fU 0 0 (by omega) (by show _ < 300; omega)
  rw [Nat.zero_add] at c1
  obtain ⟨m3, d1, d2, d3⟩ := X_tkL (z := nI (nts (gvT s.1 p 0 28))) hS hp 28 fU 0 m2 rfl (by decide) hX2
  have hX3 : XI s m3 := by
    unfold gvS at d2; rw [gvT_z (Nat.le_refl _)] at d2; exact d2
  refine ⟨m3, ?_, hX3, fun a i q => (d3 a i (by omega)).trans ((b3.lo a i q).trans (a3 a i (by omega)))⟩
  unfold f_X2_netsWithGift
  refine (bnd_of a1).trans ?_
  refine (bnd_of b1).trans ?_
  refine (bnd_of c1).trans ?_
  exact (bnd_of d1).trans rfl
def gvV (t : Nat → Nat) (p : Nat) : Nat := nts (gvT t p 0 28)
theorem gvV_le {s : aSt} (hS : SI s) {p : Nat} (hp : p < s.1 0) : gvV s.1 p ≤ 594 := nts_le (s := gvS s p 0 28) (hS.town (hS.w.gv hp 0 28))
def gvX (b : Option (Nat × Nat)) : Int32 × Int32 := match b with
  | none => (-9, -1)
  | some (c, x) => (nI c, nI x)
theorem X_btL {s : aSt} (hS : SI s) : ∀ (k n x : Nat) (b : Option (Nat × Nat)) (m : mM), x + k = s.1 0 → k < n → amOK b → XI s m → ∃ m', f_X2_bestTaker_L46 (nI (nob s.1)) n (gvX b).1 (gvX b).2 (nI x) m = some ((gvX (am (gvV s.1) k x b)).1, m') ∧ XI s m' ∧ loF m m' := by
  have h0 := hS.w.h0
  intro k
  induction k with
  | zero =>
    intro n x b m hx hn hb hX
    obtain ⟨n, rfl⟩ : ∃ z, n = z + 1 := ⟨n - 1, by omega⟩
    refine ⟨m, ?_, hX, loF.rf m⟩
    rw [f_X2_bestTaker_L46]
    exact if_pos (by rw [hX.o0]; exact nI_le (by omega) (by omega))
  | succ k ih =>
    intro n x b m hx hn hb hX
    obtain ⟨n, rfl⟩ : ∃ z, n = z + 1 := ⟨n - 1, by omega⟩
    have hx0 : x < s.1 0 := by omega
    have hv := gvV_le hS hx0
    obtain ⟨m1, j1, j2, j3⟩ := X_nwg hS hX hx0
    have j1 : f_X2_netsWithGift (nI x) (nI (nob s.1)) m = some (nI (gvV s.1 x), m1) := j1
    have go : ∀ b', amOK b' → amS (gvV s.1) x b = b' → (if nI (gvV s.1 x) ≤ (gvX b).2 then f_X2_bestTaker_L46 (nI (nob s.1)) n (gvX b).1 (gvX b).2 (nI x + 1) m1 else f_X2_bestTaker_L46 (nI (nob s.1)) n (nI x) (nI (gvV s.1 x)) (nI x + 1) m1) = f_X2_bestTaker_L46 (nI (nob s.1)) n (gvX b').1 (gvX b').2 (nI x + 1) m1 → ∃ m', f_X2_bestTaker_L46 (nI (nob s.1)) (n + 1) (gvX b).1 (gvX b).2 (nI x) m = some ((gvX (am (gvV s.1) (k + 1) x b)).1, m') ∧ XI s m' ∧ loF m m' := by
      intro b' hb' eb st
      obtain ⟨m', i1, i2, i3⟩ := ih n (x + 1) b' m1 (by omega) (by omega) hb' j2
      refine ⟨m', ?_, i2, j3.tr i3⟩
      rw [f_X2_bestTaker_L46]
      refine (if_neg (by rw [hX.o0]; exact nI_ge (by omega) (by omega))).trans ?_
      refine (bnd_of j1).trans ?_
      refine st.trans ?_
      simp only [am]
      rw [eb, nI_1]
      exact i1
    cases b with
    | none => exact go (some (x, gvV s.1 x)) (fun y q => by cases q; exact ⟨by show x ≤ 9; omega, by show gvV s.1 x ≤ _; omega⟩) rfl (if_neg (by
        show ¬ nI (gvV s.1 x) ≤ (-nI 1)
        rw [ng_nle (by omega) (by decide) (by decide)]; exact id))
    | some y =>
      obtain ⟨c, v⟩ := y
      have hx := (hb (c, v) rfl).2
      have hx : v ≤ 4536 := hx
      by_cases e : v < gvV s.1 x
      · exact go (some (x, gvV s.1 x)) (fun y q => by cases q; exact ⟨by show x ≤ 9; omega, by show gvV s.1 x ≤ _; omega⟩) (if_pos e) (if_neg (nI_ge e (by omega)))
      · exact go (some (c, v)) hb (if_neg e) (if_pos (nI_le (by omega) (by omega)))
theorem M_gvL {s : aSt} (hS : SI s) {p : Nat} (hp : p < s.1 0) {z1 z2 : Int32} : ∀ (k n h : Nat) (m : mM), h + k = 28 → k < n → MI (gvS s p 0 h) m → ∃ m', f_X9_give_L31 z1 z2 (nI p) n (nI h) m = some m' ∧ MI (gvS s p 0 28) m' ∧ ∀ a i, a ≠ 189 → m' a i = m a i := by
  have h0 := hS.w.h0
  intro k
  induction k with
  | zero =>
    intro n h m hh hn hM
    obtain ⟨n, rfl⟩ : ∃ z, n = z + 1 := ⟨n - 1, by omega⟩
    have : h = 28 := by omega
    subst this
    refine ⟨m, ?_, hM, fun _ _ _ => rfl⟩
    rw [f_X9_give_L31]
    exact if_pos (nI_le (a := 28) (by omega) (by omega))
  | succ k ih =>
    intro n h m hh hn hM
    obtain ⟨n, rfl⟩ : ∃ z, n = z + 1 := ⟨n - 1, by omega⟩
    have h28 : h < 28 := by omega
    have h3 := hS.w.pa h28
    have c1 : ((gvT s.1 p 0 h) (9 + 4 * h)) = (s.1 (9 + 4 * h)) := by rw [gvT_c h28, if_neg (by omega)]
    have r1 : m 189 (9 + 4 * h) = nI (s.1 (9 + 4 * h)) := (hM.s _ (by omega)).trans (by show dc (gvT s.1 p 0 h (9 + 4 * h)) = _; rw [c1, dcN (by omega)])
    have ea : (9 : Int32) + 4 * nI h = nI (9 + 4 * h) := by simp only [lit, pk_mul, nI_add]
    by_cases e : (s.1 (9 + 4 * h)) = 0
    · have r0 : m 189 (9 + 4 * h) = nI 0 := by rw [r1, e]
      have hM1 : MI (gvS s p 0 (h + 1)) (m_up (m_up m 189 (9 + 4 * h + 1 + 0) (nI p)) 189 (9 + 4 * h) (nI 1)) := by
        refine MI.town (s := gvS s p 0 h) hM (fun i hi => ?_) (fun a i q => by rw [m_up_na (by omega), m_up_na (by omega)])
        by_cases z : i = 9 + 4 * h
        · subst z
          rw [m_up_eq, gvT_c h28, if_pos ⟨by omega, by omega, e⟩]; rfl
        · rw [m_up_ni z]
          by_cases z2 : i = 9 + 4 * h + 1 + 0
          · subst z2
            rw [m_up_eq, gvT_p0 h28 (by omega) (by omega) e, dcN (by omega)]
          · rw [m_up_ni z2, hM.s i hi]
            refine congrArg dc ?_
            show gvT s.1 p 0 h i = _
            by_cases y : 9 + 4 * h ≤ i ∧ i < 9 + 4 * h + 4
            · have h2 : gvT s.1 p 0 h i = s.1 i := if_neg (by omega)
              rw [h2]
              unfold gvT
              split
              · rw [if_neg (by omega), if_neg (by omega)]
              · rfl
            · exact (gvT_s y).symm
      obtain ⟨m', i1, i2, i3⟩ := ih n (h + 1) _ (by omega) (by omega) hM1
      refine ⟨m', ?_, i2, fun a i q => by rw [i3 a i q, m_up_na q, m_up_na q]⟩
      have ad : f_X9_adds_189 (nI h) (nI p) m = some (m_up (m_up m 189 (9 + 4 * h + 1 + 0) (nI p)) 189 (9 + 4 * h) (nI 1)) := by
        unfold f_X9_adds_189
        rw [ea]
        refine (bnd_of (rdX rfl (show 9 + 4 * h < 189 by omega) (by decide) r0)).trans ?_
        rw [show nI (9 + 4 * h) + 1 + nI 0 = nI (9 + 4 * h + 1 + 0) by simp only [lit, nI_add]]
        refine (bnd_of (wrN (show 9 + 4 * h + 1 + 0 < 189 by omega) (by decide))).trans ?_
        refine (bnd_of (rdX rfl (show 9 + 4 * h < 189 by omega) (by decide) ((m_up_ni (by omega)).trans r0))).trans ?_
        exact (bnd_of (wrN (show 9 + 4 * h < 189 by omega) (by decide))).trans rfl
      rw [f_X9_give_L31]
      refine (if_neg (nI_ge (b := 28) (by omega) (by decide))).trans ?_
      rw [ea]
      refine (bnd_of (rdX rfl (show 9 + 4 * h < 189 by omega) (by decide) r1)).trans ?_
      refine (if_pos (nIq e)).trans ?_
      refine (bnd_of ad).trans ?_
      rw [nI_1]; exact i1
    · have hM' : MI (gvS s p 0 (h + 1)) m := by
        unfold gvS; rw [gvT_same h28 e]; exact hM
      obtain ⟨m', i1, i2, i3⟩ := ih n (h + 1) m (by omega) (by omega) hM'
      refine ⟨m', ?_, i2, i3⟩
      rw [f_X9_give_L31]
      refine (if_neg (nI_ge (b := 28) (by omega) (by decide))).trans ?_
      rw [ea]
      refine (bnd_of (rdX rfl (show 9 + 4 * h < 189 by omega) (by decide) r1)).trans ?_
      refine (if_neg (nIn (b := 0) (by omega) (by omega) e)).trans ?_
      rw [nI_1]; exact i1
theorem M_btL {s : aSt} (hS : SI s) : ∀ (k n x : Nat) (b : Option (Nat × Nat)) (m : mM), x + k = s.1 0 → k < n → amOK b → MI s m → k192 s m → ∃ m', f_X9_give_L18 n (amM b).1 (amM b).2 (nI x) m = some ((amM (am (gvV s.1) k x b)).1, m') ∧ MI s m' ∧ hiF m m' := by
  have h0 := hS.w.h0
  intro k
  induction k with
  | zero =>
    intro n x b m hx hn hb hM hk
    obtain ⟨n, rfl⟩ : ∃ z, n = z + 1 := ⟨n - 1, by omega⟩
    refine ⟨m, ?_, hM, hiF.rf m⟩
    rw [f_X9_give_L18]
    refine (bnd_of (rdX (k := 0) rfl (by decide) (by decide) (hM.c0 hS))).trans ?_
    exact if_pos (nI_le (by omega) (by omega))
  | succ k ih =>
    intro n x b m hx hn hb hM hk
    obtain ⟨n, rfl⟩ : ∃ z, n = z + 1 := ⟨n - 1, by omega⟩
    have hx0 : x < s.1 0 := by omega
    have hv := gvV_le hS hx0
    have hM0 : MI (gvS s x 0 0) m := by unfold gvS; rw [gvT_z (Nat.le_refl _)]; exact hM
    obtain ⟨m1, a1, a2, a3⟩ := M_gvL (z1 := (amM b).1) (z2 := (amM b).2) hS hx0 28 fU 0 m rfl (by decide) hM0
    have hS1 : SI (gvS s x 0 28) := hS.town (hS.w.gv hx0 0 28)
    obtain ⟨m2, b1, b2, b3⟩ := M_nets2 hS1 a2
    have b1 : f_X9_netsBy 100 m1 = some (nI (gvV s.1 x), m2) := b1
    obtain ⟨m3, r1, r2, r3, r4⟩ := MI.back (s := s) (t' := gvT s.1 x 0 28) (a2.n b2) (fun i hi => (b3 i).trans ((a3 192 i (by decide)).trans (hk i hi)))
    have f3 : hiF m m3 := fun a i q => (r4 a i q).trans ((b2.hi a i q).trans (a3 a i (by omega)))
    have go : ∀ b', amOK b' → amS (gvV s.1) x b = b' → (if (amM b).1 < 0 then f_X9_give_L18 n (nI x) (nI (gvV s.1 x)) (nI x + 1) m3 else if (amM b).2 < nI (gvV s.1 x) then f_X9_give_L18 n (nI x) (nI (gvV s.1 x)) (nI x + 1) m3 else f_X9_give_L18 n (amM b).1 (amM b).2 (nI x + 1) m3) = f_X9_give_L18 n (amM b').1 (amM b').2 (nI x + 1) m3 → ∃ m', f_X9_give_L18 (n + 1) (amM b).1 (amM b).2 (nI x) m = some ((amM (am (gvV s.1) (k + 1) x b)).1, m') ∧ MI s m' ∧ hiF m m' := by
      intro b' hb' eb st
      obtain ⟨m', i1, i2, i3⟩ := ih n (x + 1) b' m3 (by omega) (by omega) hb' r2 r3
      refine ⟨m', ?_, i2, f3.tr i3⟩
      rw [f_X9_give_L18]
      refine (bnd_of (rdX (k := 0) rfl (by decide) (by decide) (hM.c0 hS))).trans ?_
      refine (if_neg (nI_ge (by omega) (by omega))).trans ?_
      refine (bnd_of a1).trans ?_
      refine (bnd_of b1).trans ?_
      refine (bnd_of r1).trans ?_
      refine st.trans ?_
      simp only [am]
      rw [eb, nI_1]
      exact i1
    cases b with
    | none => exact go (some (x, gvV s.1 x)) (fun y q => by cases q; exact ⟨by show x ≤ 9; omega, by show gvV s.1 x ≤ _; omega⟩) rfl (if_pos (show (-9 : Int32) < 0 by decide))
    | some y =>
      obtain ⟨c, v⟩ := y
      have hv2 := (hb (c, v) rfl).2
      have hv2 : v ≤ 4536 := hv2
      have hc := (hb (c, v) rfl).1
      have hc : c ≤ 9 := hc
      have nc : ¬ (amM (some (c, v))).1 < 0 := nI_pos (by omega)
      by_cases e : v < gvV s.1 x
      · exact go (some (x, gvV s.1 x)) (fun y q => by cases q; exact ⟨by show x ≤ 9; omega, by show gvV s.1 x ≤ _; omega⟩) (if_pos e) ((if_neg nc).trans (if_pos (nI_lt e (by omega))))
      · exact go (some (c, v)) hb (if_neg e) ((if_neg nc).trans (if_neg (nI_nlt (by omega) (by omega))))
theorem op_give : Op f_X8_give f_X9_give := by
  intro s hS
  have h0 := hS.w.h0
  have n0 : amOK none := fun x q => by cases q
  have ev : ∀ b, (gvX b).1 = (amM b).1 := fun b => by cases b <;> rfl
  refine ⟨(amM (am (gvV s.1) (s.1 0) 0 none)).1, s, hS, fun m hX => ?_, fun m hM => ?_⟩
  · obtain ⟨m1, i1, i2, i3⟩ := X_btL hS (s.1 0) fU 0 none m (by omega) (by show _ < 300; omega) n0 hX
    refine ⟨m1, ?_, i2, i3⟩
    have e : f_X2_bestTaker m = some ((amM (am (gvV s.1) (s.1 0) 0 none)).1, m1) := by
      unfold f_X2_bestTaker
      refine (bnd_of (X_btL4 hS hX 28 fU 0 rfl (by decide))).trans ?_
      refine (bnd_of i1).trans ?_
      rw [ev]
    unfold f_X8_give
    exact (bnd_of e).trans rfl
  · obtain ⟨m2, r1, r2, r3, r4⟩ := hM.keep
    obtain ⟨m3, i1, i2, i3⟩ := M_btL hS (s.1 0) fU 0 none m2 (by omega) (by show _ < 300; omega) n0 r2 r3
    refine ⟨m3, ?_, i2, r4.tr i3⟩
    unfold f_X9_give
    refine (bnd_of r1).trans ?_
    exact (bnd_of i1).trans rfl
