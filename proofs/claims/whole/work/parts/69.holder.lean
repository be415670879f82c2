/-! holder; what a holder earns -/
def iS (f : Nat → Int32) : Nat → Nat → Int32 → Int32
  | 0, _, b => b
  | k + 1, i, b => iS f k (i + 1) (b + f i)
theorem iz (b : Int32) : b + 0 = b := Int32.add_zero b
theorem iS_0 {f : Nat → Int32} : ∀ (k i : Nat) (b : Int32), (∀ h, f h = 0) → iS f k i b = b := by
  intro k
  induction k with
  | zero => intro i b _; rfl
  | succ k ih => intro i b h; simp only [iS]; rw [h, iz]; exact ih _ _ h
theorem iS_cg {f g : Nat → Int32} : ∀ (k i : Nat) (b : Int32), (∀ h, i ≤ h → h < i + k → f h = g h) → iS f k i b = iS g k i b := by
  intro k
  induction k with
  | zero => intro i b _; rfl
  | succ k ih => intro i b h; simp only [iS]; rw [h i (by omega) (by omega)]; exact ih _ _ (fun x a b => h x (by omega) (by omega))
theorem and_b {x y h : Nat} : (x &&& y) / 2 ^ h % 2 = 1 ↔ x / 2 ^ h % 2 = 1 ∧ y / 2 ^ h % 2 = 1 := by
  rw [Nat.and_div_two_pow]
  have h3 := Nat.and_mod_two_pow (a := x / 2 ^ h) (b := y / 2 ^ h) (n := 1)
  rw [Nat.pow_one] at h3
  rw [h3]
  have a := Nat.mod_lt (x / 2 ^ h) (show 2 > 0 by decide)
  have b := Nat.mod_lt (y / 2 ^ h) (show 2 > 0 by decide)
  generalize x / 2 ^ h % 2 = u at a
  generalize y / 2 ^ h % 2 = v at b
  have : (u = 0 ∨ u = 1) ∧ (v = 0 ∨ v = 1) := by omega
  rcases this with ⟨rfl | rfl, rfl | rfl⟩ <;> decide
def obits (b : Option (Nat × Nat)) : Nat := match b with
  | none => 0
  | some x => x.2
theorem bbits_o (b : Option (Nat × Nat)) : bbits b = nI (obits b) := by cases b <;> rfl
theorem obits_lt {b : Option (Nat × Nat)} (h : bOK b) : obits b < 2 ^ 31 := by
  cases b with
  | none => decide
  | some x => exact (h x rfl).2
/-- the share of a holder in ONE of a work -/
def shF (t : Nat → Nat) (w p h : Nat) : Int32 := if obits (one t 999 w) / 2 ^ h % 2 = 1 ∧ hasP t h p = true then oc (pC t 999 w p h) else 0
def wS (t : Nat → Nat) (p : Nat) : Nat → Nat → Int32 → Int32
  | 0, _, b => b
  | k + 1, w, b => wS t p k (w + 1) (if (t (153 + 6 * w)) = p ∨ ntO (one t 999 w) (t (153 + 6 * w + 4)) = 999 then b else iS (shF t w p) 28 0 b)
theorem hMk_b {t : Nat → Nat} {p h : Nat} (hh : h < 28) : hMk t p / 2 ^ h % 2 = 1 ↔ hasP t h p = true := by
  have e : hMk t p / 2 ^ h % 2 = b2n (hasP t h p) := mkB_bit _ 28 h hh
  rw [e]
  cases hasP t h p <;> decide
theorem X_shL {s : aSt} {m : mM} (hS : SI s) (hX : XI s m) {w p : Nat} (hw : w < s.1 1) (hp : p < s.1 0) : ∀ (k n h : Nat) (b : Int32), h + k = 28 → k < n → f_X1_shareOf_L6 (nI p) (nI w) (nI (obits (one s.1 999 w) &&& hMk s.1 p)) m n b (nI h) = some (iS (shF s.1 w p) k h b) := by
  have hB : obits (one s.1 999 w) &&& hMk s.1 p < 2 ^ 31 := Nat.lt_of_le_of_lt Nat.and_le_left (obits_lt (one_ok hS hw))
  intro k
  induction k with
  | zero =>
    intro n h b hh hn
    obtain ⟨n, rfl⟩ : ∃ z, n = z + 1 := ⟨n - 1, by omega⟩
    rw [f_X1_shareOf_L6]
    exact if_pos (nI_le (a := 28) (by omega) (by omega))
  | succ k ih =>
    intro n h b hh hn
    obtain ⟨n, rfl⟩ : ∃ z, n = z + 1 := ⟨n - 1, by omega⟩
    rw [f_X1_shareOf_L6]
    refine (if_neg (nI_ge (b := 28) (by omega) (by decide))).trans ?_
    refine (bnd_of (X_isIn hB (by omega))).trans ?_
    simp only [iS]
    by_cases e : (obits (one s.1 999 w) &&& hMk s.1 p) / 2 ^ h % 2 = 1
    · have e2 := and_b.mp e
      have ef : shF s.1 w p h = oc (pC s.1 999 w p h) := if_pos ⟨e2.1, (hMk_b (by omega)).mp e2.2⟩
      refine (if_neg (nIn (b := 0) (by omega) (by decide) (by omega))).trans ?_
      refine (bnd_of (X_partCost hX.x hS.w.b hw hp (by omega))).trans ?_
      rw [ef, nI_1]
      exact ih n (h + 1) _ (by omega) (by omega)
    · have ef : shF s.1 w p h = 0 := if_neg (fun z => e (and_b.mpr ⟨z.1, (hMk_b (by omega)).mpr z.2⟩))
      refine (if_pos (nIq (b := 0) (by omega))).trans ?_
      rw [ef, iz, nI_1]
      exact ih n (h + 1) b (by omega) (by omega)
theorem X_earnL {s : aSt} (hS : SI s) {p : Nat} (hp : p < s.1 0) : ∀ (k n w : Nat) (b : Int32) (m : mM), w + k = s.1 1 → k < n → XI s m → ∃ m', f_X1_earned_L4 (nI p) n b (nI w) m = some (wS s.1 p k w b, m') ∧ xF m m' := by
  have w0 := hS.w.w0
  have h0 := hS.w.h0
  intro k
  induction k with
  | zero =>
    intro n w b m hw hn hX
    obtain ⟨n, rfl⟩ : ∃ z, n = z + 1 := ⟨n - 1, by omega⟩
    refine ⟨m, ?_, xF.rf m⟩
    rw [f_X1_earned_L4]
    exact if_pos (by rw [hX.o1]; exact nI_le (by omega) (by omega))
  | succ k ih =>
    intro n w b m hw hn hX
    obtain ⟨n, rfl⟩ : ∃ z, n = z + 1 := ⟨n - 1, by omega⟩
    have hw1 : w < s.1 1 := by omega
    obtain ⟨d1, d2, d3, d4, d5, d6⟩ := hS.w.wk hw1
    have c0 : m (44 + w) 0 = nI (s.1 (153 + 6 * w)) := (hX.x.w (k := 0) (by omega) (by omega)).trans (dcN (by show s.1 (153 + 6 * w) < 999; omega))
    have g1 : ¬ m 1 1 ≤ nI w := by rw [hX.o1]; exact nI_ge (by omega) (by omega)
    rw [f_X1_earned_L4]
    simp only [wS]
    by_cases e : (s.1 (153 + 6 * w)) = p
    · obtain ⟨m', i1, i2⟩ := ih n (w + 1) b m (by omega) (by omega) hX
      refine ⟨m', ?_, i2⟩
      refine (if_neg g1).trans ?_
      refine (bnd_of (ckN (show w < 6 by omega) (by decide))).trans ?_
      refine (bnd_of (rdX (k := 0) rfl (by decide) (by decide) c0)).trans ?_
      refine (if_pos (nIq e)).trans ?_
      rw [nI_1, if_pos (Or.inl e)]
      exact i1
    · obtain ⟨m1, j1, j2, j3, j4⟩ := X_choose hS.w.b hw1 hX.x
      have hX1 := hX.n j4.n
      have c4 : m1 (44 + w) 4 = nI (s.1 (153 + 6 * w + 4)) := (hX1.x.w (k := 4) (by omega) (by omega)).trans (dcN (by omega))
      have b3 : m1 154 3 = nI (obits (one s.1 999 w)) := j2.2.trans (bbits_o _)
      have nl := ntO_le (b := one s.1 999 w) (show (s.1 (153 + 6 * w + 4)) < 999 by omega)
      have go : ∀ R, (if dc (ntO (one s.1 999 w) (s.1 (153 + 6 * w + 4))) = (-9 : Int32) then f_X1_earned_L4 (nI p) n b (nI w + 1) m1 else bnd (rdA 11 8 (nI p) m1) fun v13 => bnd (f_X1_shareOf (nI p) (nI w) ((m1 154 3) &&& v13) m1) fun q15 => f_X1_earned_L4 (nI p) n (b + q15) (nI w + 1) m1) = R → (if m 1 1 ≤ nI w then some (b, m) else bnd (ckR 6 (nI w)) fun j1 => bnd (rdA (44 + j1) 6 (0 : Int32) m) fun v3 => if v3 = nI p then f_X1_earned_L4 (nI p) n b (nI w + 1) m else bnd (f_X0_choose (nI w) m) fun q5 => bnd (ckR 6 (nI w)) fun j7 => bnd (rdA (44 + j7) 6 (4 : Int32) q5) fun v9 => bnd (f_X8_netOf v9 (q5 154 4) q5) fun q11 => if q11 = (-9 : Int32) then f_X1_earned_L4 (nI p) n b (nI w + 1) q5 else bnd (rdA 11 8 (nI p) q5) fun v13 => bnd (f_X1_shareOf (nI p) (nI w) ((q5 154 3) &&& v13) q5) fun q15 => f_X1_earned_L4 (nI p) n (b + q15) (nI w + 1) q5) = R := by
        intro R hR
        refine (if_neg g1).trans ?_
        refine (bnd_of (ckN (show w < 6 by omega) (by decide))).trans ?_
        refine (bnd_of (rdX (k := 0) rfl (by decide) (by decide) c0)).trans ?_
        refine (if_neg (nIn (by omega) (by omega) e)).trans ?_
        refine (bnd_of j1).trans ?_
        refine (bnd_of (ckN (show w < 6 by omega) (by decide))).trans ?_
        refine (bnd_of (rdX (k := 4) rfl (by decide) (by decide) c4)).trans ?_
        rw [j2.1]
        exact (bnd_of (X_netOf (one_ok hS hw1) (by omega))).trans hR
      by_cases e2 : ntO (one s.1 999 w) (s.1 (153 + 6 * w + 4)) = 999
      · obtain ⟨m', i1, i2⟩ := ih n (w + 1) b m1 (by omega) (by omega) hX1
        refine ⟨m', go _ ?_, j4.tr i2⟩
        rw [if_pos (Or.inr e2)]
        refine (if_pos (by rw [e2]; rfl)).trans ?_
        rw [nI_1]; exact i1
      · have hsh := X_shL hS hX1 hw1 hp 28 fU 0 0 rfl (by decide)
        obtain ⟨m', i1, i2⟩ := ih n (w + 1) (b + iS (shF s.1 w p) 28 0 0) m1 (by omega) (by omega) hX1
        refine ⟨m', go _ ?_, j4.tr i2⟩
        have ew : (if (s.1 (153 + 6 * w)) = p ∨ ntO (one s.1 999 w) (s.1 (153 + 6 * w + 4)) = 999 then b else iS (shF s.1 w p) 28 0 b) = iS (shF s.1 w p) 28 0 b := if_neg (fun z => z.elim e e2)
        rw [ew]
        refine (if_neg (by rw [dcN (by omega)]; exact n9 (by omega))).trans ?_
        refine (bnd_of (rdX rfl (by omega) (by decide) (hX1.x.b (by omega)))).trans ?_
        rw [b3, anN]
        unfold f_X1_shareOf
        refine (bnd_of ((bnd_of hsh).trans rfl)).trans ?_
        rw [nI_1]
        have ea : ∀ (k i : Nat) (b c : Int32), iS (shF s.1 w p) k i (b + c) = b + iS (shF s.1 w p) k i c := by
          intro k
          induction k with
          | zero => intro i b c; rfl
          | succ k ih => intro i b c; simp only [iS]; rw [Int32.add_assoc, ih]
        have := ea 28 0 b 0
        rw [iz] at this
        rw [this]
        exact i1
theorem M_incL {s : aSt} {m : mM} (hS : SI s) (hM : MI s m) {w p : Nat} (hB : bS (one s.1 999 w) m) (hw : w < s.1 1) (hp : p < s.1 0) : ∀ (k n h : Nat) (b : Int32), h + k = 28 → k < n → f_X9_incomeOf_L28 (nI p) (nI w) m n b (nI h) = some (iS (shF s.1 w p) k h b) := by
  have hO := obits_lt (one_ok hS hw)
  have h0 := hS.w.h0
  have b3 : m 187 11 = nI (obits (one s.1 999 w)) := hB.2.trans (bbits_o _)
  intro k
  induction k with
  | zero =>
    intro n h b hh hn
    obtain ⟨n, rfl⟩ : ∃ z, n = z + 1 := ⟨n - 1, by omega⟩
    rw [f_X9_incomeOf_L28]
    exact if_pos (nI_le (a := 28) (by omega) (by omega))
  | succ k ih =>
    intro n h b hh hn
    obtain ⟨n, rfl⟩ : ∃ z, n = z + 1 := ⟨n - 1, by omega⟩
    rw [f_X9_incomeOf_L28]
    refine (if_neg (nI_ge (b := 28) (by omega) (by decide))).trans ?_
    have ebit : ((m 187 11) >>> (nI h &&& 31)) &&& 1 = nI (obits (one s.1 999 w) / 2 ^ h % 2) := by
      rw [b3]
      show (nI _ >>> (nI h &&& nI 31)) &&& nI 1 = _
      rw [shN hO (by omega), an1]
    rw [ebit]
    simp only [iS]
    by_cases e : obits (one s.1 999 w) / 2 ^ h % 2 = 1
    · refine (if_pos (nIq (b := 1) e)).trans ?_
      refine (bnd_of (M_hasPart hM.s hS.w (by omega) (by omega))).trans ?_
      cases e2 : hasP s.1 h p with
      | false =>
        have ef : shF s.1 w p h = 0 := if_neg (fun z => by rw [e2] at z; exact absurd z.2 (by decide))
        refine (if_pos rfl).trans ?_
        rw [ef, iz, nI_1]
        exact ih n (h + 1) b (by omega) (by omega)
      | true =>
        have ef : shF s.1 w p h = oc (pC s.1 999 w p h) := if_pos ⟨e, e2⟩
        refine (if_neg (by decide)).trans ?_
        refine (bnd_of (M_partOf hM.s hS.w hM.l (by decide) hw hp (by omega))).trans ?_
        rw [ef, nI_1]
        exact ih n (h + 1) _ (by omega) (by omega)
    · have ef : shF s.1 w p h = 0 := if_neg (fun z => e z.1)
      refine (if_neg (nIn (b := 1) (by omega) (by decide) e)).trans ?_
      rw [ef, iz, nI_1]
      exact ih n (h + 1) b (by omega) (by omega)
theorem M_incW {s : aSt} (hS : SI s) {p : Nat} (hp : p < s.1 0) : ∀ (k n w : Nat) (b : Int32) (m : mM), w + k = s.1 1 → k < n → MI s m → ∃ m', f_X9_incomeOf_L4 (nI p) n b (nI w) m = some (wS s.1 p k w b, m') ∧ mF m m' := by
  have w0 := hS.w.w0
  intro k
  induction k with
  | zero =>
    intro n w b m hw hn hM
    obtain ⟨n, rfl⟩ : ∃ z, n = z + 1 := ⟨n - 1, by omega⟩
    refine ⟨m, ?_, mF.rf m⟩
    rw [f_X9_incomeOf_L4]
    refine (bnd_of (rdX (k := 1) rfl (by decide) (by decide) (hM.c1 hS))).trans ?_
    exact if_pos (nI_le (by omega) (by omega))
  | succ k ih =>
    intro n w b m hw hn hM
    obtain ⟨n, rfl⟩ : ∃ z, n = z + 1 := ⟨n - 1, by omega⟩
    have hw1 : w < s.1 1 := by omega
    obtain ⟨d1, d2, d3, d4, d5, d6⟩ := hS.w.wk hw1
    obtain ⟨m1, j1, j2, j3⟩ := M_netOf hS hM hw1
    have hM1 := hM.n j3.n
    have nl := ntO_le (b := one s.1 999 w) (show (s.1 (153 + 6 * w + 4)) < 999 by omega)
    rw [f_X9_incomeOf_L4]
    simp only [wS]
    by_cases e2 : ntO (one s.1 999 w) (s.1 (153 + 6 * w + 4)) = 999
    · obtain ⟨m', i1, i2⟩ := ih n (w + 1) b m1 (by omega) (by omega) hM1
      refine ⟨m', ?_, j3.tr i2⟩
      refine (bnd_of (rdX (k := 1) rfl (by decide) (by decide) (hM.c1 hS))).trans ?_
      refine (if_neg (nI_ge (by omega) (by omega))).trans ?_
      refine (bnd_of j1).trans ?_
      rw [if_pos (Or.inr e2)]
      refine (if_neg (by show ¬ (0 : Int32) ≤ dc _; rw [e2]; decide)).trans ?_
      rw [nI_1]; exact i1
    · obtain ⟨m', i1, i2⟩ := ih n (w + 1) (iS (shF s.1 w p) 28 0 b) m1 (by omega) (by omega) hM1
      refine ⟨m', ?_, j3.tr i2⟩
      refine (bnd_of (rdX (k := 1) rfl (by decide) (by decide) (hM.c1 hS))).trans ?_
      refine (if_neg (nI_ge (by omega) (by omega))).trans ?_
      refine (bnd_of j1).trans ?_
      refine (if_pos (by show (0 : Int32) ≤ dc _; rw [dcN (by omega)]; exact nI_pos' (by omega))).trans ?_
      refine (bnd_of (M_incL hS hM1 j2 hw1 hp 28 fU 0 b rfl (by decide))).trans ?_
      have ew : (if (s.1 (153 + 6 * w)) = p ∨ ntO (one s.1 999 w) (s.1 (153 + 6 * w + 4)) = 999 then b else iS (shF s.1 w p) 28 0 b) = iS (shF s.1 w p) 28 0 b := by
        by_cases e : (s.1 (153 + 6 * w)) = p
        · rw [if_pos (Or.inl e)]
          refine (iS_0 28 0 b (fun h => ?_)).symm
          unfold shF
          split
          · unfold pC
            rw [if_pos (Or.inl e.symm)]
            rfl
          · rfl
        · rw [if_neg (fun z => z.elim e e2)]
      rw [ew, nI_1]
      exact i1
theorem M_hoL {s : aSt} {m : mM} (hS : SI s) (hM : MI s m) {p : Nat} (hp : p < 8) : ∀ (k n h b : Nat), h + k = 28 → k < n → f_X9_holder_L60 (nI p) m n (nI b) (nI h) = some (nI (b + sumF (fun h => b2n (hasP s.1 h p)) h k)) := by
  intro k
  induction k with
  | zero =>
    intro n h b hh hn
    obtain ⟨n, rfl⟩ : ∃ z, n = z + 1 := ⟨n - 1, by omega⟩
    rw [f_X9_holder_L60]
    exact if_pos (nI_le (a := 28) (by omega) (by omega))
  | succ k ih =>
    intro n h b hh hn
    obtain ⟨n, rfl⟩ : ∃ z, n = z + 1 := ⟨n - 1, by omega⟩
    rw [f_X9_holder_L60]
    refine (if_neg (nI_ge (b := 28) (by omega) (by decide))).trans ?_
    refine (bnd_of (M_hasPart hM.s hS.w (by omega) (by omega))).trans ?_
    cases e1 : hasP s.1 h p with
    | false =>
      refine (if_pos rfl).trans ?_
      rw [iz, nI_1, ih n (h + 1) b (by omega) (by omega)]
      simp only [sumF, e1]
      rw [show b2n false = 0 from rfl, Nat.zero_add]
    | true =>
      refine (if_neg (by decide)).trans ?_
      rw [nI_1, nI_1, ih n (h + 1) (b + 1) (by omega) (by omega)]
      simp only [sumF, e1]
      rw [show b2n true = 1 from rfl, Nat.add_assoc]
theorem op_holder (a1 a2 : Int32) : Op (f_X8_holder a1 a2) (f_X9_holder a1 a2) := by
  intro s hS
  have h0 := hS.w.h0
  have w0 := hS.w.w0
  rcases io a1 (n := s.1 0) (by omega) with q | ⟨p, hp, rfl⟩
  · refine both_ref (k := 1) hS (by decide) (by decide) (fun m hX => ?_) (fun m hM => ?_)
    · unfold f_X8_holder; exact (bnd_of (X_hol0 hX q)).trans (if_pos rfl)
    · unfold f_X9_holder; exact (bnd_of (M_hol0 hS hM q)).trans (if_pos rfl)
  have bad : (∀ j, j ≤ 4 → a2 ≠ nI j) → (∀ m : mM, ∀ R S : Option (Int32 × mM), (if a2 < 0 then R else if a2 ≤ 4 then S else R) = R) → ∃ v s', SI s' ∧ XO s (f_X8_holder (nI p) a2) v s' ∧ MO s (f_X9_holder (nI p) a2) v s' := by
    intro hne hx
    refine both_ref (k := 2) hS (by decide) (by decide) (fun m hX => ?_) (fun m hM => ?_)
    · unfold f_X8_holder
      refine (bnd_of (X_hol1 hS hX hp)).trans ?_
      refine (if_neg (by decide)).trans ?_
      exact hx m _ _
    · unfold f_X9_holder
      refine (bnd_of (M_hol1 hS hM hp)).trans ?_
      refine (if_neg (by decide)).trans ?_
      exact (if_neg (hne 0 (by decide))).trans ((if_neg (hne 1 (by decide))).trans ((if_neg (hne 2 (by decide))).trans ((if_neg (hne 3 (by decide))).trans (if_neg (hne 4 (by decide))))))
  rcases rng a2 (n := 4) (by decide) with q | ⟨q, q2⟩ | ⟨k, hk, rfl⟩
  · exact bad (fun j hj z => nI_pos (n := j) (by omega) (by rw [← z]; exact q)) (fun m R S => if_pos q)
  · exact bad (fun j hj z => q2 (by rw [z]; exact nI_le hj (by decide))) (fun m R S => (if_neg q).trans (if_neg q2))
  have gx : ∀ m, XI s m → f_X8_holder (nI p) (nI k) m = if nI k = 3 then bnd (rdA 11 8 (nI p) m) (fun v7 => some (bitC v7, m)) else if nI k = 4 then bnd (f_X1_earned (nI p) m) (fun q9 => some (q9.1, q9.2)) else bnd (ckR 8 (nI p)) fun j11 => bnd (rdA (3 + j11) 3 (nI k) m) fun v13 => some (v13, m) := by
    intro m hX
    unfold f_X8_holder
    refine (bnd_of (X_hol1 hS hX hp)).trans ?_
    refine (if_neg (by decide)).trans ?_
    refine (if_neg (nI_pos (by omega))).trans ?_
    exact if_pos (nI_le (b := 4) hk (by decide))
  by_cases e3 : k = 3
  · subst e3
    refine ⟨nI (sumF (fun h => b2n (hasP s.1 h p)) 0 28), s, hS, XO.same (fun m hX => ⟨m, ?_, xN.rf m⟩), MO.same (fun m hM => ⟨m, ?_, mN.rf m⟩)⟩
    · refine (gx m hX).trans ((if_pos rfl).trans ?_)
      refine (bnd_of (rdX rfl (by omega) (by decide) (hX.x.b (by omega)))).trans ?_
      rw [bitC_n (hMk_lt _ _), pop_hMk]
    · unfold f_X9_holder
      refine (bnd_of (M_hol1 hS hM hp)).trans ?_
      refine (if_neg (by decide)).trans ?_
      refine (if_neg (by decide)).trans ((if_neg (by decide)).trans ((if_neg (by decide)).trans ((if_pos rfl).trans ?_)))
      have h := M_hoL hS hM (show p < 8 by omega) 28 fU 0 0 rfl (by decide)
      rw [Nat.zero_add] at h
      exact (bnd_of h).trans rfl
  by_cases e4 : k = 4
  · subst e4
    refine ⟨wS s.1 p (s.1 1) 0 0, s, hS, XO.same (fun m hX => ?_), MO.same (fun m hM => ?_)⟩
    · obtain ⟨m', i1, i2⟩ := X_earnL hS hp (s.1 1) fU 0 0 m (by omega) (by show _ < 300; omega) hX
      refine ⟨m', ?_, i2.n⟩
      refine (gx m hX).trans ((if_neg (by decide)).trans ((if_pos rfl).trans ?_))
      unfold f_X1_earned
      exact (bnd_of ((bnd_of i1).trans rfl)).trans rfl
    · obtain ⟨m', i1, i2⟩ := M_incW hS hp (s.1 1) fU 0 0 m (by omega) (by show _ < 300; omega) hM
      refine ⟨m', ?_, i2.n⟩
      unfold f_X9_holder f_X9_incomeOf
      refine (bnd_of (M_hol1 hS hM hp)).trans ?_
      refine (if_neg (by decide)).trans ?_
      refine (if_neg (by decide)).trans ((if_neg (by decide)).trans ((if_neg (by decide)).trans ((if_neg (by decide)).trans ((if_pos rfl).trans ?_))))
      exact (bnd_of ((bnd_of i1).trans rfl)).trans rfl
  refine ⟨dc (s.1 (121 + 4 * p + k)), s, hS, XO.same (fun m hX => ⟨m, ?_, xN.rf m⟩), MO.same (fun m hM => ⟨m, ?_, mN.rf m⟩)⟩
  · refine (gx m hX).trans ((if_neg (nIn (b := 3) (by omega) (by decide) e3)).trans ((if_neg (nIn (b := 4) (by omega) (by decide) e4)).trans ?_))
    refine (bnd_of (ckN (show p < 8 by omega) (by decide))).trans ?_
    exact (bnd_of (rdX rfl (by omega) (by decide) (hX.x.h (by omega) (by omega)))).trans rfl
  · have hg := M_get hM.s (p := p) (k := k) (by omega) (by omega)
    unfold f_X9_holder
    refine (bnd_of (M_hol1 hS hM hp)).trans ?_
    refine (if_neg (by decide)).trans ?_
    have : k = 0 ∨ k = 1 ∨ k = 2 := by omega
    rcases this with rfl | rfl | rfl
    · exact (if_pos rfl).trans ((bnd_of hg).trans rfl)
    · exact (if_neg (by decide)).trans ((if_pos rfl).trans ((bnd_of hg).trans rfl))
    · exact (if_neg (by decide)).trans ((if_neg (by decide)).trans ((if_pos rfl).trans ((bnd_of hg).trans rfl)))
