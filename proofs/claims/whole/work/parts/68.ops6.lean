/-! count -/
theorem X_noL {s : aSt} {m : mM} (hS : SI s) (hX : XI s m) : ∀ (k n h b : Nat), h + k = 28 → k < n → f_X7_hoursOfNobody_L4 m n (nI b) (nI h) = some (nI (b + sumF (fun h => if (s.1 (9 + 4 * h)) = 0 then 1 else 0) h k)) := by
  intro k
  induction k with
  | zero =>
    intro n h b hh hn
    obtain ⟨n, rfl⟩ : ∃ z, n = z + 1 := ⟨n - 1, by omega⟩
    rw [f_X7_hoursOfNobody_L4]
    exact if_pos (nI_le (a := 28) (by omega) (by omega))
  | succ k ih =>
    intro n h b hh hn
    obtain ⟨n, rfl⟩ : ∃ z, n = z + 1 := ⟨n - 1, by omega⟩
    have h3 := hS.w.pa (show h < 28 by omega)
    rw [f_X7_hoursOfNobody_L4]
    refine (if_neg (nI_ge (b := 28) (by omega) (by decide))).trans ?_
    refine (bnd_of (rdX rfl (by omega) (by decide) (hX.x.p (by omega)))).trans ?_
    by_cases e : (s.1 (9 + 4 * h)) = 0
    · refine (if_pos (nIq e)).trans ?_
      rw [nI_1, nI_1, ih n (h + 1) (b + 1) (by omega) (by omega)]
      simp only [sumF, if_pos e, Nat.add_assoc]
    · refine (if_neg (nIn (b := 0) (by omega) (by decide) e)).trans ?_
      rw [nI_1, ih n (h + 1) b (by omega) (by omega)]
      simp only [sumF, if_neg e, Nat.zero_add]
theorem X_apL {s : aSt} {m : mM} (hX : XI s m) : ∀ (k n h b : Nat), h + k = 28 → k < n → f_X7_allParts_L4 m n (nI b) (nI h) = some (nI (b + sumF (fun h => (s.1 (9 + 4 * h))) h k)) := by
  intro k
  induction k with
  | zero =>
    intro n h b hh hn
    obtain ⟨n, rfl⟩ : ∃ z, n = z + 1 := ⟨n - 1, by omega⟩
    rw [f_X7_allParts_L4]
    exact if_pos (nI_le (a := 28) (by omega) (by omega))
  | succ k ih =>
    intro n h b hh hn
    obtain ⟨n, rfl⟩ : ∃ z, n = z + 1 := ⟨n - 1, by omega⟩
    rw [f_X7_allParts_L4]
    refine (if_neg (nI_ge (b := 28) (by omega) (by decide))).trans ?_
    refine (bnd_of (rdX rfl (by omega) (by decide) (hX.x.p (by omega)))).trans ?_
    rw [nI_1, nI_add, ih n (h + 1) _ (by omega) (by omega)]
    simp only [sumF, Nat.add_assoc]
theorem M_cL {s : aSt} {m : mM} (hS : SI s) (hM : MI s m) {c : Nat} (hc : c = 2 ∨ c = 3) : ∀ (k n h b : Nat), h + k = 28 → k < n → f_X9_count_L77 (nI c) m n (nI b) (nI h) = some (nI (b + sumF (fun h => if c = 2 then (if (s.1 (9 + 4 * h)) = 0 then 1 else 0) else (s.1 (9 + 4 * h))) h k)) := by
  intro k
  induction k with
  | zero =>
    intro n h b hh hn
    obtain ⟨n, rfl⟩ : ∃ z, n = z + 1 := ⟨n - 1, by omega⟩
    rw [f_X9_count_L77]
    exact if_pos (nI_le (a := 28) (by omega) (by omega))
  | succ k ih =>
    intro n h b hh hn
    obtain ⟨n, rfl⟩ : ∃ z, n = z + 1 := ⟨n - 1, by omega⟩
    have h3 := hS.w.pa (show h < 28 by omega)
    have e9 : (9 : Int32) + 4 * nI h = nI (9 + 4 * h) := by simp only [lit, pk_mul, nI_add]
    have z0 : nI b + 0 = nI b := by show nI b + nI 0 = _; rw [nI_add, Nat.add_zero]
    rw [f_X9_count_L77]
    refine (if_neg (nI_ge (b := 28) (by omega) (by decide))).trans ?_
    rcases hc with rfl | rfl
    · refine (if_pos rfl).trans ?_
      refine (bnd_of (rdX e9 (by omega) (by decide) (hM.s.n (by omega) (by omega)))).trans ?_
      by_cases e : (s.1 (9 + 4 * h)) = 0
      · refine (if_pos (nIq e)).trans ?_
        rw [nI_1, nI_1, ih n (h + 1) (b + 1) (by omega) (by omega)]
        simp only [sumF, if_true, if_pos e, Nat.add_assoc]
      · refine (if_neg (nIn (b := 0) (by omega) (by decide) e)).trans ?_
        rw [z0, nI_1, ih n (h + 1) b (by omega) (by omega)]
        simp only [sumF, if_true, if_neg e, Nat.zero_add]
    · refine (if_neg (by decide)).trans ?_
      refine (bnd_of (rdX e9 (by omega) (by decide) (hM.s.n (by omega) (by omega)))).trans ?_
      rw [nI_1, nI_add, ih n (h + 1) _ (by omega) (by omega)]
      simp only [sumF, Nat.add_assoc]
      rfl
theorem sumF_sh (f : Nat → Nat) : ∀ (k i : Nat), sumF f (i + 1) k = sumF (fun d => f (d + 1)) i k := by
  intro k
  induction k with
  | zero => intro i; rfl
  | succ k ih => intro i; simp only [sumF]; rw [ih (i + 1)]
theorem sumF_0 : ∀ (k i : Nat), sumF (fun _ => 0) i k = 0 := by
  intro k
  induction k with
  | zero => intro i; rfl
  | succ k ih => intro i; simp only [sumF]; rw [ih (i + 1)]
theorem M_bitsL {m : mM} : ∀ (k n x b : Nat), x < 2 ^ k → k < n → k < 31 → f_X9_bits_L4 m n (nI b) (nI x) = some (nI (b + sumF (fun d => x / 2 ^ d % 2) 0 k)) := by
  intro k
  induction k with
  | zero =>
    intro n x b hx hn _
    obtain ⟨n, rfl⟩ : ∃ z, n = z + 1 := ⟨n - 1, by omega⟩
    have : x = 0 := by omega
    subst this
    rw [f_X9_bits_L4]
    exact if_pos (by decide)
  | succ k ih =>
    intro n x b hx hn hk
    obtain ⟨n, rfl⟩ : ∃ z, n = z + 1 := ⟨n - 1, by omega⟩
    have hp : 2 ^ (k + 1) ≤ 2 ^ 31 := Nat.pow_le_pow_right (by decide) (by omega)
    rw [f_X9_bits_L4]
    by_cases e : x = 0
    · subst e
      refine (if_pos (by decide)).trans ?_
      simp only [Nat.zero_div, Nat.zero_mod]
      rw [sumF_0, Nat.add_zero]
    · refine (if_neg (nI_nle (by omega) (by omega))).trans ?_
      show f_X9_bits_L4 m n (nI b + (nI x &&& nI 1)) (nI x >>> (nI 1 &&& nI 31)) = _
      rw [an1, shN (by omega) (by decide), nI_add, Nat.pow_one, ih n (x / 2) (b + x % 2) (by rw [Nat.pow_succ] at hx; omega) (by omega) (by omega)]
      simp only [sumF]
      rw [sumF_sh, Nat.pow_zero, Nat.div_one, Nat.add_assoc]
      have : sumF (fun d => x / 2 / 2 ^ d % 2) 0 k = sumF (fun d => x / 2 ^ (d + 1) % 2) 0 k := sumF_congr k 0 (fun d _ _ => by rw [Nat.div_div_eq_div_mul, Nat.pow_succ, Nat.mul_comm])
      rw [this]
theorem M_bits {m : mM} {x : Nat} (hx : x < 2 ^ 28) : f_X9_bits (nI x) m = some (nI (pop x)) := by
  unfold f_X9_bits
  refine (bnd_of (M_bitsL 28 fU x 0 hx (by decide) (by decide))).trans ?_
  rw [Nat.zero_add]
  rfl
theorem op_count (a1 : Int32) {s : aSt} (hS : SI s) : ∃ v, (∀ m, XI s m → f_X8_count a1 m = some v) ∧ ∀ m, MI s m → f_X9_count a1 m = some v := by
  have s2 := hS.w.s256
  by_cases e0 : a1 = 0
  · subst e0
    refine ⟨nI (s.1 0), fun m hX => ?_, fun m hM => ?_⟩
    · unfold f_X8_count; exact (if_pos rfl).trans (congrArg some hX.o0)
    · unfold f_X9_count f_X9_count_J22
      exact (if_pos (by decide)).trans ((if_pos rfl).trans ((bnd_of (rdX (k := 0) rfl (by decide) (by decide) (hM.c0 hS))).trans rfl))
  by_cases e1 : a1 = 1
  · subst e1
    refine ⟨nI (s.1 1), fun m hX => ?_, fun m hM => ?_⟩
    · unfold f_X8_count; exact (if_neg e0).trans ((if_pos rfl).trans (congrArg some hX.o1))
    · unfold f_X9_count f_X9_count_J22
      exact (if_pos (by decide)).trans ((if_neg e0).trans ((if_pos rfl).trans ((bnd_of (rdX (k := 1) rfl (by decide) (by decide) (hM.c1 hS))).trans rfl)))
  by_cases e2 : a1 = 2
  · subst e2
    refine ⟨nI (sumF (fun h => if (s.1 (9 + 4 * h)) = 0 then 1 else 0) 0 28), fun m hX => ?_, fun m hM => ?_⟩
    · unfold f_X8_count f_X7_hoursOfNobody
      refine (if_neg e0).trans ((if_neg e1).trans ((if_pos rfl).trans ?_))
      have h := X_noL hS hX 28 fU 0 0 rfl (by decide)
      rw [Nat.zero_add] at h
      exact (bnd_of ((bnd_of h).trans rfl)).trans rfl
    · unfold f_X9_count f_X9_count_J22
      refine (if_pos (by decide)).trans ((if_neg e0).trans ((if_neg e1).trans ((if_pos rfl).trans ?_)))
      have h := M_cL (c := 2) hS hM (Or.inl rfl) 28 fU 0 0 rfl (by decide)
      rw [Nat.zero_add] at h
      exact (bnd_of h).trans rfl
  by_cases e3 : a1 = 3
  · subst e3
    refine ⟨nI (sumF (fun h => (s.1 (9 + 4 * h))) 0 28), fun m hX => ?_, fun m hM => ?_⟩
    · unfold f_X8_count f_X7_allParts
      refine (if_neg e0).trans ((if_neg e1).trans ((if_neg e2).trans ((if_pos rfl).trans ?_)))
      have h := X_apL hX 28 fU 0 0 rfl (by decide)
      rw [Nat.zero_add] at h
      exact (bnd_of ((bnd_of h).trans rfl)).trans rfl
    · unfold f_X9_count f_X9_count_J22
      refine (if_pos (by decide)).trans ((if_neg e0).trans ((if_neg e1).trans ((if_neg e2).trans ((if_pos rfl).trans ?_))))
      have h := M_cL (c := 3) hS hM (Or.inr rfl) 28 fU 0 0 rfl (by decide)
      rw [Nat.zero_add] at h
      exact (bnd_of h).trans rfl
  by_cases e4 : a1 = 4
  · subst e4
    refine ⟨nI (pop (s.1 2)), fun m hX => ?_, fun m hM => ?_⟩
    · unfold f_X8_count
      refine (if_neg e0).trans ((if_neg e1).trans ((if_neg e2).trans ((if_neg e3).trans ((if_pos rfl).trans ?_))))
      rw [hX.o2, bitC_n (by omega)]
    · unfold f_X9_count f_X9_count_J22
      refine (if_pos (by decide)).trans ((if_neg e0).trans ((if_neg e1).trans ((if_neg e2).trans ((if_neg e3).trans ((if_pos rfl).trans ?_)))))
      refine (bnd_of (rdX (k := 2) rfl (by decide) (by decide) (hM.s.n (by decide) (by omega)))).trans ?_
      exact (bnd_of (M_bits (by omega))).trans rfl
  by_cases e5 : a1 = 5
  · subst e5
    refine ⟨nI s.2.2.2.1, fun m hX => ?_, fun m hM => ?_⟩
    · unfold f_X8_count
      exact (if_neg e0).trans ((if_neg e1).trans ((if_neg e2).trans ((if_neg e3).trans ((if_neg e4).trans ((if_pos rfl).trans (congrArg some hX.2.2.1.1))))))
    · unfold f_X9_count f_X9_count_J22
      exact (if_pos (by decide)).trans ((if_neg e0).trans ((if_neg e1).trans ((if_neg e2).trans ((if_neg e3).trans ((if_neg e4).trans ((if_pos rfl).trans (congrArg some hM.2.2.2.1.1)))))))
  by_cases e6 : a1 = 6
  · subst e6
    refine ⟨nI s.2.1, fun m hX => ?_, fun m hM => ?_⟩
    · unfold f_X8_count
      exact (if_neg e0).trans ((if_neg e1).trans ((if_neg e2).trans ((if_neg e3).trans ((if_neg e4).trans ((if_neg e5).trans ((if_pos rfl).trans (congrArg some hX.2.1.1)))))))
    · unfold f_X9_count f_X9_count_J22
      exact (if_pos (by decide)).trans ((if_neg e0).trans ((if_neg e1).trans ((if_neg e2).trans ((if_neg e3).trans ((if_neg e4).trans ((if_neg e5).trans ((if_pos rfl).trans (congrArg some hM.2.2.1.1))))))))
  have j22 : ∀ m, f_X9_count_J22 a1 m = some (-9) := fun m => by
    unfold f_X9_count_J22
    exact (if_neg e0).trans ((if_neg e1).trans ((if_neg e2).trans ((if_neg e3).trans ((if_neg e4).trans ((if_neg e5).trans (if_neg e6))))))
  have xx : ∀ m, f_X8_count a1 m = if a1 ≤ (10 : Int32) then some (-9 : Int32) else if (16 : Int32) < a1 then some (-9 : Int32) else bnd (rdA 186 7 (a1 - (10 : Int32)) m) fun v12 => some v12 := fun m => by
    unfold f_X8_count
    exact (if_neg e0).trans ((if_neg e1).trans ((if_neg e2).trans ((if_neg e3).trans ((if_neg e4).trans ((if_neg e5).trans (if_neg e6))))))
  by_cases e10 : a1 ≤ 10
  · refine ⟨-9, fun m hX => (xx m).trans (if_pos e10), fun m hM => ?_⟩
    unfold f_X9_count
    exact (if_pos e10).trans (j22 m)
  have hn : ¬ a1 < 0 := fun z => e10 (by
    have h1 := Int32.lt_iff_toInt_lt.mp z
    refine Int32.le_iff_toInt_le.mpr ?_
    have h3 : (10 : Int32).toInt = 10 := by decide
    have h4 : (0 : Int32).toInt = 0 := by decide
    omega)
  obtain ⟨j, hj, rfl⟩ := neg_nI hn
  have j10 : 10 < j := by
    by_cases z : 10 < j
    · exact z
    · exact absurd (nI_le (b := 10) (show j ≤ 10 by omega) (by decide)) e10
  by_cases e16 : 16 < j
  · refine ⟨-9, fun m hX => (xx m).trans ((if_neg e10).trans (if_pos (nI_lt (a := 16) e16 hj))), fun m hM => ?_⟩
    unfold f_X9_count
    exact (if_neg e10).trans ((if_pos (nI_le (a := 17) (by omega) hj)).trans (j22 m))
  · have ej : nI j - 10 = nI (j - 10) := pk_sub (b := 10) (by omega)
    refine ⟨s.2.2.2.2.2.1 (j - 10), fun m hX => (xx m).trans ((if_neg e10).trans ((if_neg (nI_nlt (a := 16) (by omega) (by decide))).trans ?_)), fun m hM => ?_⟩
    · exact (bnd_of (rdX ej (by omega) (by decide) (hX.2.2.2.1 _ (by omega) (by omega)))).trans rfl
    · unfold f_X9_count
      refine (if_neg e10).trans ((if_neg (nI_ge (b := 17) (by omega) (by decide))).trans ?_)
      exact (bnd_of (rdX ej (by omega) (by decide) (hM.2.2.2.2.1 _ (by omega) (by omega)))).trans rfl
