/-! rest: ten rounds at most, and all prices as before -/
theorem rounds {z : Nat} : ∀ (k n b : Nat) (s : aSt), b + k = 11 → k < n → SI s → s.1 0 = z → ∃ v t', SI (t', s.2) ∧ pe t' s.1 ∧ (∀ m, XI s m → ∃ m', f_X1_roundsToRest_L41 n (-9) (nI b) m = some (v, m') ∧ XI (t', s.2) m' ∧ gF m m') ∧ ∀ m, MI s m → ∃ m', f_X9_rest_L16 n (-9) (nI b) m = some (v, m') ∧ MI (t', s.2) m' ∧ cF m m' := by
  intro k
  induction k with
  | zero =>
    intro n b s hb hn hS hz
    obtain ⟨n, rfl⟩ : ∃ z, n = z + 1 := ⟨n - 1, by omega⟩
    refine ⟨-9, s.1, hS, fun _ _ => rfl, fun m hX => ⟨m, ?_, hX, fun _ _ _ _ _ _ => rfl⟩, fun m hM => ⟨m, ?_, hM, fun _ _ _ _ _ _ => rfl⟩⟩
    · rw [f_X1_roundsToRest_L41]; exact if_pos (nI_lt (a := 10) (by omega) (by omega))
    · rw [f_X9_rest_L16]; exact if_pos (nI_lt (a := 10) (by omega) (by omega))
  | succ k ih =>
    intro n b s hb hn hS hz
    obtain ⟨n, rfl⟩ : ∃ z, n = z + 1 := ⟨n - 1, by omega⟩
    have h0 := hS.w.h0
    obtain ⟨r1, r2, r3⟩ := rL_ok (s.1 0) 0 0 s (by omega) hS
    have r3 := r3 (by omega)
    have hX1 := fun m hX => X_rrL (z1 := -9) (z2 := nI b) (s.1 0) fU 0 0 s m (by omega) (by show _ < 300; omega) (by omega) hS hX
    have hM1 := fun m hM => M_rrL (z1 := nI b) (s.1 0) fU 0 0 s m (by omega) (by show _ < 300; omega) (by omega) hS hM
    by_cases e : (rL (s.1 0) 0 0 s.1).1 = 0
    · obtain ⟨n, rfl⟩ : ∃ z, n = z + 1 := ⟨n - 1, by omega⟩
      refine ⟨nI b, (rL (s.1 0) 0 0 s.1).2, r1, r2, fun m hX => ?_, fun m hM => ?_⟩
      · obtain ⟨m', i1, i2, i3⟩ := hX1 m hX
        refine ⟨m', ?_, i2, i3⟩
        rw [f_X1_roundsToRest_L41]
        refine (if_neg (nI_nlt (a := 10) (by omega) (by decide))).trans ?_
        refine (if_pos rfl).trans ?_
        refine (bnd_of i1).trans ?_
        refine (if_pos (nIq (b := 0) e)).trans ?_
        rw [f_X1_roundsToRest_L41, nI_1]
        by_cases z : 10 < b + 1
        · exact if_pos (nI_lt (a := 10) z (by omega))
        · refine (if_neg (nI_nlt (a := 10) (by omega) (by decide))).trans ?_
          exact if_neg (n9 (by omega))
      · obtain ⟨m', i1, i2, i3⟩ := hM1 m hM
        refine ⟨m', ?_, i2, i3⟩
        rw [f_X9_rest_L16]
        refine (if_neg (nI_nlt (a := 10) (by omega) (by decide))).trans ?_
        refine (if_neg (by decide)).trans ?_
        refine (bnd_of i1).trans ?_
        refine (if_pos (nIq (b := 0) e)).trans ?_
        rw [f_X9_rest_L16, nI_1]
        by_cases z : 10 < b + 1
        · exact if_pos (nI_lt (a := 10) z (by omega))
        · refine (if_neg (nI_nlt (a := 10) (by omega) (by decide))).trans ?_
          exact if_pos (nI_pos' (by omega))
    · obtain ⟨v, t', q1, q2, q3, q4⟩ := ih n (b + 1) ((rL (s.1 0) 0 0 s.1).2, s.2) (by omega) (by omega) r1 (by rw [← hz]; exact r2.z)
      refine ⟨v, t', q1, r2.tr q2, fun m hX => ?_, fun m hM => ?_⟩
      · obtain ⟨m1, i1, i2, i3⟩ := hX1 m hX
        obtain ⟨m', j1, j2, j3⟩ := q3 m1 i2
        refine ⟨m', ?_, j2, i3.tr j3⟩
        rw [f_X1_roundsToRest_L41]
        refine (if_neg (nI_nlt (a := 10) (by omega) (by decide))).trans ?_
        refine (if_pos rfl).trans ?_
        refine (bnd_of i1).trans ?_
        refine (if_neg (nIn (b := 0) (by omega) (by decide) e)).trans ?_
        rw [nI_1]; exact j1
      · obtain ⟨m1, i1, i2, i3⟩ := hM1 m hM
        obtain ⟨m', j1, j2, j3⟩ := q4 m1 i2
        refine ⟨m', ?_, j2, i3.tr j3⟩
        rw [f_X9_rest_L16]
        refine (if_neg (nI_nlt (a := 10) (by omega) (by decide))).trans ?_
        refine (if_neg (by decide)).trans ?_
        refine (bnd_of i1).trans ?_
        refine (if_neg (nIn (b := 0) (by omega) (by decide) e)).trans ?_
        rw [nI_1]; exact j1
theorem X_keep {s : aSt} (hS : SI s) : ∀ (k n p : Nat) (m : mM), p + k = s.1 0 → k < n → XI s m → (∀ x, x < p → m 158 x = nI (s.1 (121 + 4 * x + 1))) → ∃ m', f_X1_roundsToRest_L2 n (nI p) m = some m' ∧ (∀ x, x < s.1 0 → m' 158 x = nI (s.1 (121 + 4 * x + 1))) ∧ ∀ a i, a ≠ 158 → m' a i = m a i := by
  have h0 := hS.w.h0
  intro k
  induction k with
  | zero =>
    intro n p m hp hn hX hm
    obtain ⟨n, rfl⟩ : ∃ z, n = z + 1 := ⟨n - 1, by omega⟩
    refine ⟨m, ?_, fun x hx => hm x (by omega), fun _ _ _ => rfl⟩
    rw [f_X1_roundsToRest_L2]
    exact if_pos (by rw [hX.o0]; exact nI_le (by omega) (by omega))
  | succ k ih =>
    intro n p m hp hn hX hm
    obtain ⟨n, rfl⟩ : ∃ z, n = z + 1 := ⟨n - 1, by omega⟩
    have hb := (hS.w.ho (show p < s.1 0 by omega)).2.1
    have c1 : m (3 + p) 1 = nI (s.1 (121 + 4 * p + 1)) := (hX.x.h (k := 1) (by omega) (by decide)).trans (dcN (by omega))
    have u : xN m (m_up m 158 p (nI (s.1 (121 + 4 * p + 1)))) := fun a i q => m_up_na (by omega)
    obtain ⟨m', i1, i2, i3⟩ := ih n (p + 1) (m_up m 158 p (nI (s.1 (121 + 4 * p + 1)))) (by omega) (by omega) (hX.n u) (fun x hx => by
      by_cases z : x = p
      · subst z; rw [m_up_eq]
      · rw [m_up_ni z]; exact hm x (by omega))
    refine ⟨m', ?_, i2, fun a i h => (i3 a i h).trans (m_up_na h)⟩
    rw [f_X1_roundsToRest_L2]
    refine (if_neg (by rw [hX.o0]; exact nI_ge (by omega) (by omega))).trans ?_
    refine (bnd_of (ckN (show p < 8 by omega) (by decide))).trans ?_
    refine (bnd_of (rdX (k := 1) rfl (by decide) (by decide) c1)).trans ?_
    refine (bnd_of (wrN (show p < 8 by omega) (by decide))).trans ?_
    rw [nI_1]; exact i1
theorem X_back {s : aSt} (hS : SI s) {z : Int32} : ∀ (k n p : Nat) (m : mM), p + k = s.1 0 → k < n → m 1 0 = nI (s.1 0) → (∀ x, x < s.1 0 → m 158 x = nI (s.1 (121 + 4 * x + 1))) → ∃ m', f_X1_roundsToRest_L139 z n (nI p) m = some m' ∧ (∀ x, p ≤ x → x < s.1 0 → m' (3 + x) 1 = nI (s.1 (121 + 4 * x + 1))) ∧ ∀ a i, ¬ ((3 + p ≤ a ∧ a < 3 + s.1 0) ∧ i = 1) → m' a i = m a i := by
  have h0 := hS.w.h0
  intro k
  induction k with
  | zero =>
    intro n p m hp hn hX hm
    obtain ⟨n, rfl⟩ : ∃ z, n = z + 1 := ⟨n - 1, by omega⟩
    refine ⟨m, ?_, fun x h1 h2 => by omega, fun _ _ _ => rfl⟩
    rw [f_X1_roundsToRest_L139]
    exact if_pos (by rw [hX]; exact nI_le (by omega) (by omega))
  | succ k ih =>
    intro n p m hp hn hX hm
    obtain ⟨n, rfl⟩ : ∃ z, n = z + 1 := ⟨n - 1, by omega⟩
    obtain ⟨m', i1, i2, i3⟩ := ih n (p + 1) (m_up m (3 + p) 1 (nI (s.1 (121 + 4 * p + 1)))) (by omega) (by omega) (by rw [m_up_na (by omega)]; exact hX) (fun x hx => by rw [m_up_na (by omega)]; exact hm x hx)
    refine ⟨m', ?_, fun x h1 h2 => ?_, fun a i h => ?_⟩
    · rw [f_X1_roundsToRest_L139]
      refine (if_neg (by rw [hX]; exact nI_ge (by omega) (by omega))).trans ?_
      refine (bnd_of (ckN (show p < 8 by omega) (by decide))).trans ?_
      refine (bnd_of (rdX rfl (show p < 8 by omega) (by decide) (hm p (by omega)))).trans ?_
      refine (bnd_of (wrN (k := 1) (by decide) (by decide))).trans ?_
      rw [nI_1]; exact i1
    · by_cases y : x = p
      · subst y; rw [i3 _ _ (by omega), m_up_eq]
      · exact i2 x (by omega) h2
    · rw [i3 a i (by omega)]
      unfold m_up
      rw [if_neg (by omega)]
theorem op_rest : Op f_X8_rest f_X9_rest := by
  intro s hS
  have h0 := hS.w.h0
  obtain ⟨v, t', q1, q2, q3, q4⟩ := rounds 10 fU 1 s rfl (by decide) hS rfl
  have qf : ∀ i, fx i → s.1 i = t' i := fun i hi => (q2 i (fun ⟨p, a, b⟩ => by unfold fx at hi; omega)).symm
  have qn : ∀ i, i < 121 → t' i = s.1 i := fun i hi => q2 i (fun ⟨p, a, b⟩ => by omega)
  refine ⟨v, s, hS, fun m hX => ?_, fun m hM => ?_⟩
  · obtain ⟨m1, i1, i2, i3⟩ := X_keep hS (s.1 0) fU 0 m (by omega) (by show _ < 300; omega) hX (fun x hx => absurd hx (Nat.not_lt_zero _))
    have hX1 : XI s m1 := hX.n (fun a i q => i3 a i (by omega))
    obtain ⟨m2, j1, j2, j3⟩ := q3 m1 hX1
    have c0 : m2 1 0 = nI (s.1 0) := by
      have := j2.o0
      rw [show (t', s.2).1 0 = t' 0 from rfl, qn 0 (by omega)] at this
      exact this
    obtain ⟨m3, k1, k2, k3⟩ := X_back (z := v) hS (s.1 0) fU 0 m2 (by omega) (by show _ < 300; omega) c0 (fun x hx => by rw [j3 158 x (by omega) (by omega) (by omega) (by omega)]; exact i2 x hx)
    have hXS : XS s.1 m3 := by
      refine j2.x.set q1.w qf (fun a i z1 z2 z3 z4 => k3 a i (by omega)) ?_ ?_ ?_ (fun k hk => ?_) (fun p hp => ?_)
      · rw [k3 1 2 (by omega), j2.o2]; exact congrArg nI (qn 2 (by omega))
      · rw [k3 1 3 (by omega), j2.o3]; exact congrArg dc (qn 3 (by omega))
      · rw [k3 1 4 (by omega), j2.o4]; exact congrArg nI (qn 4 (by omega))
      · rw [k3 50 k (by omega), j2.x.u hk]; exact congrArg nI (qn (5 + k) (by omega))
      · by_cases y : p < s.1 0
        · have hb := (hS.w.ho y).2.1
          rw [k2 p (by omega) y, dcN (by omega)]
        · rw [k3 (3 + p) 1 (by omega), j2.x.h hp (by decide)]
          exact congrArg dc (q2 _ (fun ⟨x, a, b⟩ => by omega))
    refine ⟨m3, ?_, ?_, fun a i q => ?_⟩
    · unfold f_X8_rest f_X1_roundsToRest f_X1_roundsToRest_J137
      refine (bnd_of ((bnd_of i1).trans ((bnd_of j1).trans ((bnd_of k1).trans rfl)))).trans rfl
    · have := j2.town hXS (fun a i q => k3 a i (by omega))
      exact this
    · rw [k3 a i (by omega), j3 a i (by omega) (by omega) (by omega) (by omega), i3 a i (by omega)]
  · obtain ⟨m1, i1, i2, i3⟩ := cm_189_192 m
    have hM1 : MI s m1 := hM.cg (fun a i q => i3 a i (by omega))
    obtain ⟨m2, j1, j2, j3⟩ := q4 m1 hM1
    obtain ⟨m3, k1, k2, k3⟩ := cm_192_189 m2
    have ms : MS s.1 m3 := fun i hi => by
      rw [k2 i hi, j3 192 i (by omega) (by omega) (by omega) (by omega), i2 i hi]
      exact hM.s i hi
    refine ⟨m3, ?_, ?_, fun a i q => ?_⟩
    · unfold f_X9_rest
      refine (bnd_of i1).trans ?_
      refine (bnd_of j1).trans ?_
      exact (bnd_of k1).trans rfl
    · have := j2.town ms (fun a i q => k3 a i (by omega))
      exact this
    · rw [k3 a i (by omega), j3 a i (by omega) (by omega) (by omega) (by omega), i3 a i (by omega)]
