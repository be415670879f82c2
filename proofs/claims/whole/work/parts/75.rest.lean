/-! rest: rounds of asking -/
def rL : Nat → Nat → Nat → (Nat → Nat) → Nat × (Nat → Nat)
  | 0, _, fl, t => (fl, t)
  | k + 1, p, fl, t => rL k (p + 1) (if fl = 0 ∧ askV t p = (t (121 + 4 * p + 1)) then 0 else 1) (tset t (121 + 4 * p + 1) (askV t p))
def gF (m m' : mM) : Prop := ∀ a i, ¬ (3 ≤ a ∧ a < 11) → a ≠ 154 → a ≠ 155 → a ≠ 156 → m' a i = m a i
theorem gF.tr {m m1 m2 : mM} (h1 : gF m m1) (h2 : gF m1 m2) : gF m m2 := fun a i q1 q2 q3 q4 => (h2 a i q1 q2 q3 q4).trans (h1 a i q1 q2 q3 q4)
theorem cF.tr {m m1 m2 : mM} (h1 : cF m m1) (h2 : cF m1 m2) : cF m m2 := fun a i q1 q2 q3 q4 => (h2 a i q1 q2 q3 q4).trans (h1 a i q1 q2 q3 q4)
/-- all but the prices of holders -/
def pe (t' t : Nat → Nat) : Prop := ∀ i, ¬ (∃ p, p < t 0 ∧ i = 121 + 4 * p + 1) → t' i = t i
theorem pe.z {t' t : Nat → Nat} (h : pe t' t) : t' 0 = t 0 := h 0 (fun ⟨p, _, q⟩ => by omega)
theorem pe.tr {t t1 t2 : Nat → Nat} (h1 : pe t1 t) (h2 : pe t2 t1) : pe t2 t := fun i hi => by
  rw [h2 i (fun ⟨p, a, b⟩ => hi ⟨p, by rw [h1.z] at a; exact a, b⟩)]; exact h1 i hi
theorem pe_set {t : Nat → Nat} {p v : Nat} (hp : p < t 0) : pe (tset t (121 + 4 * p + 1) v) t := fun i hi => tset_ne (fun z => hi ⟨p, hp, z⟩)
theorem rL_ok : ∀ (k p fl : Nat) (s : aSt), p + k = s.1 0 → SI s → SI ((rL k p fl s.1).2, s.2) ∧ pe (rL k p fl s.1).2 s.1 ∧ (fl ≤ 1 → (rL k p fl s.1).1 ≤ 1) := by
  intro k
  induction k with
  | zero => intro p fl s _ hS; exact ⟨hS, fun _ _ => rfl, id⟩
  | succ k ih =>
    intro p fl s hp hS
    have hp1 : p < s.1 0 := by omega
    have hv := askV_le hS hp1
    obtain ⟨a1, a2, a3⟩ := ih (p + 1) (if fl = 0 ∧ askV s.1 p = (s.1 (121 + 4 * p + 1)) then 0 else 1) (sP s p (askV s.1 p)) (by rw [sP_0]; omega) (hS.price hp1 hv)
    refine ⟨a1, (pe_set hp1).tr a2, fun _ => a3 (by split <;> omega)⟩
theorem X_rrL {z1 z2 : Int32} : ∀ (k n p fl : Nat) (s : aSt) (m : mM), p + k = s.1 0 → k < n → fl ≤ 1 → SI s → XI s m → ∃ m', f_X1_roundsToRest_L58 z1 z2 n (nI fl) (nI p) m = some (nI (rL k p fl s.1).1, m') ∧ XI ((rL k p fl s.1).2, s.2) m' ∧ gF m m' := by
  intro k
  induction k with
  | zero =>
    intro n p fl s m hp hn hfl hS hX
    have h0 := hS.w.h0
    obtain ⟨n, rfl⟩ : ∃ z, n = z + 1 := ⟨n - 1, by omega⟩
    refine ⟨m, ?_, hX, fun _ _ _ _ _ _ => rfl⟩
    rw [f_X1_roundsToRest_L58]
    exact if_pos (by rw [hX.o0]; exact nI_le (by omega) (by omega))
  | succ k ih =>
    intro n p fl s m hp hn hfl hS hX
    have h0 := hS.w.h0
    obtain ⟨n, rfl⟩ : ∃ z, n = z + 1 := ⟨n - 1, by omega⟩
    have hp1 : p < s.1 0 := by omega
    have hv := askV_le hS hp1
    have hb := (hS.w.ho hp1).2.1
    obtain ⟨m1, j1, j2, j3⟩ := X_bestPrice hS hX hp1
    have hX2 := j2.price hS (p := p) (v := askV s.1 p) (by omega) hv
    have c1 : m1 (3 + p) 1 = nI (s.1 (121 + 4 * p + 1)) := (j2.x.h (k := 1) (by omega) (by decide)).trans (dcN (by omega))
    have g1 : gF m (m_up m1 (3 + p) 1 (nI (askV s.1 p))) := fun a i q1 q2 q3 q4 => (m_up_na (by omega)).trans (j3 a i (by omega) q2 q3 q4)
    obtain ⟨m', i1, i2, i3⟩ := ih n (p + 1) (if fl = 0 ∧ askV s.1 p = (s.1 (121 + 4 * p + 1)) then 0 else 1) (sP s p (askV s.1 p)) _ (by rw [sP_0]; omega) (by omega) (by split <;> omega) (hS.price hp1 hv) hX2
    refine ⟨m', ?_, i2, g1.tr i3⟩
    rw [f_X1_roundsToRest_L58]
    refine (if_neg (by rw [hX.o0]; exact nI_ge (by omega) (by omega))).trans ?_
    refine (bnd_of j1).trans ?_
    by_cases e : fl = 0
    · refine (if_pos (nIq (b := 0) e)).trans ?_
      refine (bnd_of (ckN (show p < 8 by omega) (by decide))).trans ?_
      refine (bnd_of (rdX (k := 1) rfl (by decide) (by decide) c1)).trans ?_
      by_cases e2 : askV s.1 p = (s.1 (121 + 4 * p + 1))
      · refine (if_pos (nIq e2)).trans ?_
        refine (bnd_of (ckN (show p < 8 by omega) (by decide))).trans ?_
        refine (bnd_of (wrN (k := 1) (by decide) (by decide))).trans ?_
        rw [if_pos ⟨e, e2⟩] at i1
        rw [nI_1]
        simp only [rL]
        rw [if_pos ⟨e, e2⟩]
        exact i1
      · refine (if_neg (nIn (by omega) (by omega) e2)).trans ?_
        refine (bnd_of (ckN (show p < 8 by omega) (by decide))).trans ?_
        refine (bnd_of (wrN (k := 1) (by decide) (by decide))).trans ?_
        rw [if_neg (fun z => e2 z.2)] at i1
        rw [nI_1]
        simp only [rL]
        rw [if_neg (fun z => e2 z.2)]
        exact i1
    · refine (if_neg (nIn (b := 0) (by omega) (by decide) e)).trans ?_
      refine (bnd_of (ckN (show p < 8 by omega) (by decide))).trans ?_
      refine (bnd_of (wrN (k := 1) (by decide) (by decide))).trans ?_
      rw [if_neg (fun z => e z.1)] at i1
      rw [nI_1]
      simp only [rL]
      rw [if_neg (fun z => e z.1)]
      exact i1
theorem M_rrL {z1 : Int32} : ∀ (k n p fl : Nat) (s : aSt) (m : mM), p + k = s.1 0 → k < n → fl ≤ 1 → SI s → MI s m → ∃ m', f_X9_rest_L31 z1 n (nI fl) (nI p) m = some (nI (rL k p fl s.1).1, m') ∧ MI ((rL k p fl s.1).2, s.2) m' ∧ cF m m' := by
  intro k
  induction k with
  | zero =>
    intro n p fl s m hp hn hfl hS hM
    have h0 := hS.w.h0
    obtain ⟨n, rfl⟩ : ∃ z, n = z + 1 := ⟨n - 1, by omega⟩
    refine ⟨m, ?_, hM, fun _ _ _ _ _ _ => rfl⟩
    rw [f_X9_rest_L31]
    refine (bnd_of (rdX (k := 0) rfl (by decide) (by decide) (hM.c0 hS))).trans ?_
    exact if_pos (nI_le (by omega) (by omega))
  | succ k ih =>
    intro n p fl s m hp hn hfl hS hM
    have h0 := hS.w.h0
    obtain ⟨n, rfl⟩ : ∃ z, n = z + 1 := ⟨n - 1, by omega⟩
    have hp1 : p < s.1 0 := by omega
    have hv := askV_le hS hp1
    have hb := (hS.w.ho hp1).2.1
    have e1 : ((121 : Int32) + 4 * nI p) + 1 = nI (121 + 4 * p + 1) := by simp only [lit, pk_mul, nI_add]
    obtain ⟨m1, j1, j2, j3⟩ := M_askOf hS hM hp1
    have hM2 := j2.price (p := p) (v := askV s.1 p) hv
    have hg : f_X9_get (nI p) 1 m1 = some (nI (s.1 (121 + 4 * p + 1))) := (M_get (k := 1) j2.s (by omega) (by decide)).trans (congrArg some (dcN (by omega)))
    have g1 : cF m (m_up m1 189 (121 + 4 * p + 1) (nI (askV s.1 p))) := fun a i q1 q2 q3 q4 => (m_up_na q1).trans (j3 a i q1 q2 q3 q4)
    obtain ⟨m', i1, i2, i3⟩ := ih n (p + 1) (if fl = 0 ∧ askV s.1 p = (s.1 (121 + 4 * p + 1)) then 0 else 1) (sP s p (askV s.1 p)) _ (by rw [sP_0]; omega) (by omega) (by split <;> omega) (hS.price hp1 hv) hM2
    refine ⟨m', ?_, i2, g1.tr i3⟩
    rw [f_X9_rest_L31]
    refine (bnd_of (rdX (k := 0) rfl (by decide) (by decide) (hM.c0 hS))).trans ?_
    refine (if_neg (nI_ge (by omega) (by omega))).trans ?_
    refine (bnd_of j1).trans ?_
    rw [e1]
    by_cases e : fl = 0
    · refine (if_pos (nIq (b := 0) e)).trans ?_
      refine (bnd_of hg).trans ?_
      by_cases e2 : askV s.1 p = (s.1 (121 + 4 * p + 1))
      · refine (if_pos (nIq e2)).trans ?_
        refine (bnd_of (wrN (show 121 + 4 * p + 1 < 189 by omega) (by decide))).trans ?_
        rw [if_pos ⟨e, e2⟩] at i1
        rw [nI_1]
        simp only [rL]
        rw [if_pos ⟨e, e2⟩]
        exact i1
      · refine (if_neg (nIn (by omega) (by omega) e2)).trans ?_
        refine (bnd_of (wrN (show 121 + 4 * p + 1 < 189 by omega) (by decide))).trans ?_
        rw [if_neg (fun z => e2 z.2)] at i1
        rw [nI_1]
        simp only [rL]
        rw [if_neg (fun z => e2 z.2)]
        exact i1
    · refine (if_neg (nIn (b := 0) (by omega) (by decide) e)).trans ?_
      refine (bnd_of (wrN (show 121 + 4 * p + 1 < 189 by omega) (by decide))).trans ?_
      rw [if_neg (fun z => e z.1)] at i1
      rw [nI_1]
      simp only [rL]
      rw [if_neg (fun z => e z.1)]
      exact i1
