/-! copies -/
theorem cpo {m : mM} {a0 a n b i : Nat} (h : b ≠ a) : m_cpy m a0 a n b i = m b i := if_neg (fun q => h q.1)
theorem cpi {m : mM} {a0 a n i : Nat} (h : i < n) : m_cpy m a0 a n a i = m a0 i := if_pos ⟨rfl, h⟩
def cpd (o i : Nat) : Prop := (o = 0 ∧ i < 5) ∨ (2 ≤ o ∧ o < 10 ∧ i < 3) ∨ (o = 10 ∧ i < 8) ∨ (o = 11 ∧ i < 8) ∨ (o = 12 ∧ i < 28) ∨ (14 ≤ o ∧ o < 42 ∧ i < 3) ∨ (43 ≤ o ∧ o < 49 ∧ i < 6) ∨ (o = 49 ∧ i < 4)
theorem XT.mv {a b : Nat} {t : Nat → Nat} {m m' : mM} (h : XT a (a + 2) (a + 10) (a + 11) (a + 12) (a + 14) (a + 43) (a + 49) t m) (hp : ∀ h, h < 28 → (t (9 + 4 * h)) ≤ 3) (e : ∀ o i, cpd o i → m' (b + o) i = m (a + o) i) : XT b (b + 2) (b + 10) (b + 11) (b + 12) (b + 14) (b + 43) (b + 49) t m' := by
  obtain ⟨h1, h2, h3, h4, h5, h6, h7, h8, h9, h10, h11, h12⟩ := h
  refine ⟨?_, ?_, ?_, ?_, ?_, fun p k hp hk => ?_, fun p hp => ?_, fun x hx => ?_, fun x i hx hi => ?_, fun w k hw hk => ?_, fun k hk => ?_, fun p hp => ?_⟩
  · exact (e 0 0 (by unfold cpd; omega)).trans h1
  · exact (e 0 1 (by unfold cpd; omega)).trans h2
  · exact (e 0 2 (by unfold cpd; omega)).trans h3
  · exact (e 0 3 (by unfold cpd; omega)).trans h4
  · exact (e 0 4 (by unfold cpd; omega)).trans h5
  · rw [Nat.add_assoc, e (2 + p) k (by unfold cpd; omega), ← Nat.add_assoc]; exact h6 p k hp hk
  · rw [e 11 p (by unfold cpd; omega)]; exact h7 p hp
  · rw [e 12 x (by unfold cpd; omega)]; exact h8 x hx
  · have := hp x hx
    rw [Nat.add_assoc, e (14 + x) i (by unfold cpd; omega), ← Nat.add_assoc]; exact h9 x i hx hi
  · rw [Nat.add_assoc, e (43 + w) k (by unfold cpd; omega), ← Nat.add_assoc]; exact h10 w k hw hk
  · rw [e 49 k (by unfold cpd; omega)]; exact h11 k hk
  · rw [e 10 p (by unfold cpd; omega)]; exact h12 p hp
theorem cp_101_1_L42 : ∀ (k n j : Nat) (m : mM), j + k = 8 → k < n → ∃ m', f_X7_copyFrom_101_1_L42 n (nI j) m = some m' ∧ (∀ x i, j ≤ x → x < 8 → i < 3 → m' (103 + x) i = m (3 + x) i) ∧ ∀ a i, ¬ (103 + j ≤ a ∧ a < 111) → m' a i = m a i := by
  intro k
  induction k with
  | zero =>
    intro n j m hj hn
    obtain ⟨n, rfl⟩ : ∃ z, n = z + 1 := ⟨n - 1, by omega⟩
    refine ⟨m, ?_, fun x i h1 h2 => absurd h1 (by omega), fun _ _ _ => rfl⟩
    rw [f_X7_copyFrom_101_1_L42]
    exact if_pos (nI_le (a := 8) (by omega) (by omega))
  | succ k ih =>
    intro n j m hj hn
    obtain ⟨n, rfl⟩ : ∃ z, n = z + 1 := ⟨n - 1, by omega⟩
    obtain ⟨m', i1, i2, i3⟩ := ih n (j + 1) (m_cpy m (3 + j) (103 + j) 3) (by omega) (by omega)
    refine ⟨m', ?_, fun x i h1 h2 h3 => ?_, fun a i h => ?_⟩
    · rw [f_X7_copyFrom_101_1_L42]
      refine (if_neg (nI_ge (b := 8) (by omega) (by decide))).trans ?_
      refine (bnd_of (ckN (show j < 8 by omega) (by decide))).trans ?_
      refine (bnd_of (ckN (show j < 8 by omega) (by decide))).trans ?_
      refine (bnd_of rfl).trans ?_
      rw [nI_1]
      exact i1
    · by_cases e : x = j
      · subst e; rw [i3 _ _ (by omega), cpi h3]
      · rw [i2 x i (by omega) h2 h3, cpo (by omega)]
    · rw [i3 a i (by omega), cpo (by omega)]
theorem cp_101_1_L74 : ∀ (k n j : Nat) (m : mM), j + k = 28 → k < n → ∃ m', f_X7_copyFrom_101_1_L74 n (nI j) m = some m' ∧ (∀ x i, j ≤ x → x < 28 → i < 3 → m' (115 + x) i = m (15 + x) i) ∧ ∀ a i, ¬ (115 + j ≤ a ∧ a < 143) → m' a i = m a i := by
  intro k
  induction k with
  | zero =>
    intro n j m hj hn
    obtain ⟨n, rfl⟩ : ∃ z, n = z + 1 := ⟨n - 1, by omega⟩
    refine ⟨m, ?_, fun x i h1 h2 => absurd h1 (by omega), fun _ _ _ => rfl⟩
    rw [f_X7_copyFrom_101_1_L74]
    exact if_pos (nI_le (a := 28) (by omega) (by omega))
  | succ k ih =>
    intro n j m hj hn
    obtain ⟨n, rfl⟩ : ∃ z, n = z + 1 := ⟨n - 1, by omega⟩
    obtain ⟨m', i1, i2, i3⟩ := ih n (j + 1) (m_cpy m (15 + j) (115 + j) 3) (by omega) (by omega)
    refine ⟨m', ?_, fun x i h1 h2 h3 => ?_, fun a i h => ?_⟩
    · rw [f_X7_copyFrom_101_1_L74]
      refine (if_neg (nI_ge (b := 28) (by omega) (by decide))).trans ?_
      refine (bnd_of (ckN (show j < 28 by omega) (by decide))).trans ?_
      refine (bnd_of (ckN (show j < 28 by omega) (by decide))).trans ?_
      refine (bnd_of rfl).trans ?_
      rw [nI_1]
      exact i1
    · by_cases e : x = j
      · subst e; rw [i3 _ _ (by omega), cpi h3]
      · rw [i2 x i (by omega) h2 h3, cpo (by omega)]
    · rw [i3 a i (by omega), cpo (by omega)]
theorem cp_101_1_L106 : ∀ (k n j : Nat) (m : mM), j + k = 6 → k < n → ∃ m', f_X7_copyFrom_101_1_L106 n (nI j) m = some m' ∧ (∀ x i, j ≤ x → x < 6 → i < 6 → m' (144 + x) i = m (44 + x) i) ∧ ∀ a i, ¬ (144 + j ≤ a ∧ a < 150) → m' a i = m a i := by
  intro k
  induction k with
  | zero =>
    intro n j m hj hn
    obtain ⟨n, rfl⟩ : ∃ z, n = z + 1 := ⟨n - 1, by omega⟩
    refine ⟨m, ?_, fun x i h1 h2 => absurd h1 (by omega), fun _ _ _ => rfl⟩
    rw [f_X7_copyFrom_101_1_L106]
    exact if_pos (nI_le (a := 6) (by omega) (by omega))
  | succ k ih =>
    intro n j m hj hn
    obtain ⟨n, rfl⟩ : ∃ z, n = z + 1 := ⟨n - 1, by omega⟩
    obtain ⟨m', i1, i2, i3⟩ := ih n (j + 1) (m_cpy m (44 + j) (144 + j) 6) (by omega) (by omega)
    refine ⟨m', ?_, fun x i h1 h2 h3 => ?_, fun a i h => ?_⟩
    · rw [f_X7_copyFrom_101_1_L106]
      refine (if_neg (nI_ge (b := 6) (by omega) (by decide))).trans ?_
      refine (bnd_of (ckN (show j < 6 by omega) (by decide))).trans ?_
      refine (bnd_of (ckN (show j < 6 by omega) (by decide))).trans ?_
      refine (bnd_of rfl).trans ?_
      rw [nI_1]
      exact i1
    · by_cases e : x = j
      · subst e; rw [i3 _ _ (by omega), cpi h3]
      · rw [i2 x i (by omega) h2 h3, cpo (by omega)]
    · rw [i3 a i (by omega), cpo (by omega)]
theorem cp_101_1 (m : mM) : ∃ m', f_X7_copyFrom_101_1 m = some m' ∧ (∀ o i, cpd o i → m' (101 + o) i = m (1 + o) i) ∧ ∀ a i, (a < 101 ∨ 150 < a) → m' a i = m a i := by
  have hu : ∃ m9, (m9 101 0 = m 1 0 ∧ m9 101 1 = m 1 1 ∧ m9 101 2 = m 1 2 ∧ m9 101 3 = m 1 3 ∧ m9 101 4 = m 1 4) ∧ (∀ a i, a ≠ 101 → m9 a i = m a i) ∧ f_X7_copyFrom_101_1 m = bnd (f_X7_copyFrom_101_1_L42 fU (0 : Int32) m9) fun o18 =>
      bnd (f_X7_copyFrom_101_1_L74 fU (0 : Int32) o18) fun o27 =>
      bnd (f_X7_copyFrom_101_1_L106 fU (0 : Int32) o27) fun o36 =>
      bnd (some (m_cpy o36 11 111 8)) fun m38 =>
      bnd (some (m_cpy m38 12 112 8)) fun m40 =>
      bnd (some (m_cpy m40 13 113 28)) fun m42 =>
      bnd (some (m_cpy m42 50 150 4)) fun m44 => some m44 := by
    refine ⟨(m_up (m_up (m_up (m_up (m_up m 101 0 (m 1 0)) 101 1 ((m_up m 101 0 (m 1 0)) 1 1)) 101 2 ((m_up (m_up m 101 0 (m 1 0)) 101 1 ((m_up m 101 0 (m 1 0)) 1 1)) 1 2)) 101 3 ((m_up (m_up (m_up m 101 0 (m 1 0)) 101 1 ((m_up m 101 0 (m 1 0)) 1 1)) 101 2 ((m_up (m_up m 101 0 (m 1 0)) 101 1 ((m_up m 101 0 (m 1 0)) 1 1)) 1 2)) 1 3)) 101 4 ((m_up (m_up (m_up (m_up m 101 0 (m 1 0)) 101 1 ((m_up m 101 0 (m 1 0)) 1 1)) 101 2 ((m_up (m_up m 101 0 (m 1 0)) 101 1 ((m_up m 101 0 (m 1 0)) 1 1)) 1 2)) 101 3 ((m_up (m_up (m_up m 101 0 (m 1 0)) 101 1 ((m_up m 101 0 (m 1 0)) 1 1)) 101 2 ((m_up (m_up m 101 0 (m 1 0)) 101 1 ((m_up m 101 0 (m 1 0)) 1 1)) 1 2)) 1 3)) 1 4)), ?_, ?_, ?_⟩
    · refine ⟨?_, ?_, ?_, ?_, ?_⟩ <;> simp [m_up]
    · intro a i h
      rw [m_up_na h, m_up_na h, m_up_na h, m_up_na h, m_up_na h]
    · unfold f_X7_copyFrom_101_1
      refine (bnd_of rfl).trans ?_
      refine (bnd_of rfl).trans ?_
      refine (bnd_of rfl).trans ?_
      refine (bnd_of rfl).trans ?_
      exact (bnd_of rfl)
  obtain ⟨m9, u1, u2, u3⟩ := hu
  obtain ⟨n1, a1, a2, a3⟩ := cp_101_1_L42 8 fU 0 m9 rfl (by decide)
  obtain ⟨n2, b1, b2, b3⟩ := cp_101_1_L74 28 fU 0 n1 rfl (by decide)
  obtain ⟨n3, c1, c2, c3⟩ := cp_101_1_L106 6 fU 0 n2 rfl (by decide)
  refine ⟨m_cpy (m_cpy (m_cpy (m_cpy n3 11 111 8) 12 112 8) 13 113 28) 50 150 4, ?_, fun o i h => ?_, fun a i h => ?_⟩
  · rw [u3]
    refine (bnd_of a1).trans ?_
    refine (bnd_of b1).trans ?_
    exact (bnd_of c1).trans rfl
  · rcases h with ⟨rfl, h⟩ | ⟨h1, h2, h⟩ | ⟨rfl, h⟩ | ⟨rfl, h⟩ | ⟨rfl, h⟩ | ⟨h1, h2, h⟩ | ⟨h1, h2, h⟩ | ⟨rfl, h⟩
    · rw [cpo (by omega), cpo (by omega), cpo (by omega), cpo (by omega), c3 _ _ (by omega), b3 _ _ (by omega), a3 _ _ (by omega)]
      have : i = 0 ∨ i = 1 ∨ i = 2 ∨ i = 3 ∨ i = 4 := by omega
      rcases this with rfl | rfl | rfl | rfl | rfl
      · exact u1.1
      · exact u1.2.1
      · exact u1.2.2.1
      · exact u1.2.2.2.1
      · exact u1.2.2.2.2
    · obtain ⟨x, rfl⟩ : ∃ x, o = 2 + x := ⟨o - 2, by omega⟩
      rw [cpo (by omega), cpo (by omega), cpo (by omega), cpo (by omega), c3 _ _ (by omega), b3 _ _ (by omega), ← Nat.add_assoc, ← Nat.add_assoc]
      exact (a2 x i (by omega) (by omega) h).trans (u2 _ _ (by omega))
    · rw [cpo (by omega), cpo (by omega), cpo (by omega)]
      refine (cpi h).trans ?_
      rw [c3 _ _ (by omega), b3 _ _ (by omega), a3 _ _ (by omega), u2 _ _ (by omega)]
    · rw [cpo (by omega), cpo (by omega)]
      refine (cpi h).trans ?_
      rw [cpo (by omega), c3 _ _ (by omega), b3 _ _ (by omega), a3 _ _ (by omega), u2 _ _ (by omega)]
    · rw [cpo (by omega)]
      refine (cpi h).trans ?_
      rw [cpo (by omega), cpo (by omega), c3 _ _ (by omega), b3 _ _ (by omega), a3 _ _ (by omega), u2 _ _ (by omega)]
    · obtain ⟨x, rfl⟩ : ∃ x, o = 14 + x := ⟨o - 14, by omega⟩
      rw [cpo (by omega), cpo (by omega), cpo (by omega), cpo (by omega), c3 _ _ (by omega), ← Nat.add_assoc, ← Nat.add_assoc]
      exact (b2 x i (by omega) (by omega) h).trans ((a3 _ _ (by omega)).trans (u2 _ _ (by omega)))
    · obtain ⟨x, rfl⟩ : ∃ x, o = 43 + x := ⟨o - 43, by omega⟩
      rw [cpo (by omega), cpo (by omega), cpo (by omega), cpo (by omega), ← Nat.add_assoc, ← Nat.add_assoc]
      exact (c2 x i (by omega) (by omega) h).trans ((b3 _ _ (by omega)).trans ((a3 _ _ (by omega)).trans (u2 _ _ (by omega))))
    · refine (cpi h).trans ?_
      rw [cpo (by omega), cpo (by omega), cpo (by omega), c3 _ _ (by omega), b3 _ _ (by omega), a3 _ _ (by omega), u2 _ _ (by omega)]
  · rw [cpo (by omega), cpo (by omega), cpo (by omega), cpo (by omega), c3 _ _ (by omega), b3 _ _ (by omega), a3 _ _ (by omega), u2 _ _ (by omega)]
theorem cp_1_101_L42 : ∀ (k n j : Nat) (m : mM), j + k = 8 → k < n → ∃ m', f_X7_copyFrom_1_101_L42 n (nI j) m = some m' ∧ (∀ x i, j ≤ x → x < 8 → i < 3 → m' (3 + x) i = m (103 + x) i) ∧ ∀ a i, ¬ (3 + j ≤ a ∧ a < 11) → m' a i = m a i := by
  intro k
  induction k with
  | zero =>
    intro n j m hj hn
    obtain ⟨n, rfl⟩ : ∃ z, n = z + 1 := ⟨n - 1, by omega⟩
    refine ⟨m, ?_, fun x i h1 h2 => absurd h1 (by omega), fun _ _ _ => rfl⟩
    rw [f_X7_copyFrom_1_101_L42]
    exact if_pos (nI_le (a := 8) (by omega) (by omega))
  | succ k ih =>
    intro n j m hj hn
    obtain ⟨n, rfl⟩ : ∃ z, n = z + 1 := ⟨n - 1, by omega⟩
    obtain ⟨m', i1, i2, i3⟩ := ih n (j + 1) (m_cpy m (103 + j) (3 + j) 3) (by omega) (by omega)
    refine ⟨m', ?_, fun x i h1 h2 h3 => ?_, fun a i h => ?_⟩
    · rw [f_X7_copyFrom_1_101_L42]
      refine (if_neg (nI_ge (b := 8) (by omega) (by decide))).trans ?_
      refine (bnd_of (ckN (show j < 8 by omega) (by decide))).trans ?_
      refine (bnd_of (ckN (show j < 8 by omega) (by decide))).trans ?_
      refine (bnd_of rfl).trans ?_
      rw [nI_1]
      exact i1
    · by_cases e : x = j
      · subst e; rw [i3 _ _ (by omega), cpi h3]
      · rw [i2 x i (by omega) h2 h3, cpo (by omega)]
    · rw [i3 a i (by omega), cpo (by omega)]
theorem cp_1_101_L74 : ∀ (k n j : Nat) (m : mM), j + k = 28 → k < n → ∃ m', f_X7_copyFrom_1_101_L74 n (nI j) m = some m' ∧ (∀ x i, j ≤ x → x < 28 → i < 3 → m' (15 + x) i = m (115 + x) i) ∧ ∀ a i, ¬ (15 + j ≤ a ∧ a < 43) → m' a i = m a i := by
  intro k
  induction k with
  | zero =>
    intro n j m hj hn
    obtain ⟨n, rfl⟩ : ∃ z, n = z + 1 := ⟨n - 1, by omega⟩
    refine ⟨m, ?_, fun x i h1 h2 => absurd h1 (by omega), fun _ _ _ => rfl⟩
    rw [f_X7_copyFrom_1_101_L74]
    exact if_pos (nI_le (a := 28) (by omega) (by omega))
  | succ k ih =>
    intro n j m hj hn
    obtain ⟨n, rfl⟩ : ∃ z, n = z + 1 := ⟨n - 1, by omega⟩
    obtain ⟨m', i1, i2, i3⟩ := ih n (j + 1) (m_cpy m (115 + j) (15 + j) 3) (by omega) (by omega)
    refine ⟨m', ?_, fun x i h1 h2 h3 => ?_, fun a i h => ?_⟩
    · rw [f_X7_copyFrom_1_101_L74]
      refine (if_neg (nI_ge (b := 28) (by omega) (by decide))).trans ?_
      refine (bnd_of (ckN (show j < 28 by omega) (by decide))).trans ?_
      refine (bnd_of (ckN (show j < 28 by omega) (by decide))).trans ?_
      refine (bnd_of rfl).trans ?_
      rw [nI_1]
      exact i1
    · by_cases e : x = j
      · subst e; rw [i3 _ _ (by omega), cpi h3]
      · rw [i2 x i (by omega) h2 h3, cpo (by omega)]
    · rw [i3 a i (by omega), cpo (by omega)]
theorem cp_1_101_L106 : ∀ (k n j : Nat) (m : mM), j + k = 6 → k < n → ∃ m', f_X7_copyFrom_1_101_L106 n (nI j) m = some m' ∧ (∀ x i, j ≤ x → x < 6 → i < 6 → m' (44 + x) i = m (144 + x) i) ∧ ∀ a i, ¬ (44 + j ≤ a ∧ a < 50) → m' a i = m a i := by
  intro k
  induction k with
  | zero =>
    intro n j m hj hn
    obtain ⟨n, rfl⟩ : ∃ z, n = z + 1 := ⟨n - 1, by omega⟩
    refine ⟨m, ?_, fun x i h1 h2 => absurd h1 (by omega), fun _ _ _ => rfl⟩
    rw [f_X7_copyFrom_1_101_L106]
    exact if_pos (nI_le (a := 6) (by omega) (by omega))
  | succ k ih =>
    intro n j m hj hn
    obtain ⟨n, rfl⟩ : ∃ z, n = z + 1 := ⟨n - 1, by omega⟩
    obtain ⟨m', i1, i2, i3⟩ := ih n (j + 1) (m_cpy m (144 + j) (44 + j) 6) (by omega) (by omega)
    refine ⟨m', ?_, fun x i h1 h2 h3 => ?_, fun a i h => ?_⟩
    · rw [f_X7_copyFrom_1_101_L106]
      refine (if_neg (nI_ge (b := 6) (by omega) (by decide))).trans ?_
      refine (bnd_of (ckN (show j < 6 by omega) (by decide))).trans ?_
      refine (bnd_of (ckN (show j < 6 by omega) (by decide))).trans ?_
      refine (bnd_of rfl).trans ?_
      rw [nI_1]
      exact i1
    · by_cases e : x = j
      · subst e; rw [i3 _ _ (by omega), cpi h3]
      · rw [i2 x i (by omega) h2 h3, cpo (by omega)]
    · rw [i3 a i (by omega), cpo (by omega)]
theorem cp_1_101 (m : mM) : ∃ m', f_X7_copyFrom_1_101 m = some m' ∧ (∀ o i, cpd o i → m' (1 + o) i = m (101 + o) i) ∧ ∀ a i, (a < 1 ∨ 50 < a) → m' a i = m a i := by
  have hu : ∃ m9, (m9 1 0 = m 101 0 ∧ m9 1 1 = m 101 1 ∧ m9 1 2 = m 101 2 ∧ m9 1 3 = m 101 3 ∧ m9 1 4 = m 101 4) ∧ (∀ a i, a ≠ 1 → m9 a i = m a i) ∧ f_X7_copyFrom_1_101 m = bnd (f_X7_copyFrom_1_101_L42 fU (0 : Int32) m9) fun o18 =>
      bnd (f_X7_copyFrom_1_101_L74 fU (0 : Int32) o18) fun o27 =>
      bnd (f_X7_copyFrom_1_101_L106 fU (0 : Int32) o27) fun o36 =>
      bnd (some (m_cpy o36 111 11 8)) fun m38 =>
      bnd (some (m_cpy m38 112 12 8)) fun m40 =>
      bnd (some (m_cpy m40 113 13 28)) fun m42 =>
      bnd (some (m_cpy m42 150 50 4)) fun m44 => some m44 := by
    refine ⟨(m_up (m_up (m_up (m_up (m_up m 1 0 (m 101 0)) 1 1 ((m_up m 1 0 (m 101 0)) 101 1)) 1 2 ((m_up (m_up m 1 0 (m 101 0)) 1 1 ((m_up m 1 0 (m 101 0)) 101 1)) 101 2)) 1 3 ((m_up (m_up (m_up m 1 0 (m 101 0)) 1 1 ((m_up m 1 0 (m 101 0)) 101 1)) 1 2 ((m_up (m_up m 1 0 (m 101 0)) 1 1 ((m_up m 1 0 (m 101 0)) 101 1)) 101 2)) 101 3)) 1 4 ((m_up (m_up (m_up (m_up m 1 0 (m 101 0)) 1 1 ((m_up m 1 0 (m 101 0)) 101 1)) 1 2 ((m_up (m_up m 1 0 (m 101 0)) 1 1 ((m_up m 1 0 (m 101 0)) 101 1)) 101 2)) 1 3 ((m_up (m_up (m_up m 1 0 (m 101 0)) 1 1 ((m_up m 1 0 (m 101 0)) 101 1)) 1 2 ((m_up (m_up m 1 0 (m 101 0)) 1 1 ((m_up m 1 0 (m 101 0)) 101 1)) 101 2)) 101 3)) 101 4)), ?_, ?_, ?_⟩
    · refine ⟨?_, ?_, ?_, ?_, ?_⟩ <;> simp [m_up]
    · intro a i h
      rw [m_up_na h, m_up_na h, m_up_na h, m_up_na h, m_up_na h]
    · unfold f_X7_copyFrom_1_101
      refine (bnd_of rfl).trans ?_
      refine (bnd_of rfl).trans ?_
      refine (bnd_of rfl).trans ?_
      refine (bnd_of rfl).trans ?_
      exact (bnd_of rfl)
  obtain ⟨m9, u1, u2, u3⟩ := hu
  obtain ⟨n1, a1, a2, a3⟩ := cp_1_101_L42 8 fU 0 m9 rfl (by decide)
  obtain ⟨n2, b1, b2, b3⟩ := cp_1_101_L74 28 fU 0 n1 rfl (by decide)
  obtain ⟨n3, c1, c2, c3⟩ := cp_1_101_L106 6 fU 0 n2 rfl (by decide)
  refine ⟨m_cpy (m_cpy (m_cpy (m_cpy n3 111 11 8) 112 12 8) 113 13 28) 150 50 4, ?_, fun o i h => ?_, fun a i h => ?_⟩
  · rw [u3]
    refine (bnd_of a1).trans ?_
    refine (bnd_of b1).trans ?_
    exact (bnd_of c1).trans rfl
  · rcases h with ⟨rfl, h⟩ | ⟨h1, h2, h⟩ | ⟨rfl, h⟩ | ⟨rfl, h⟩ | ⟨rfl, h⟩ | ⟨h1, h2, h⟩ | ⟨h1, h2, h⟩ | ⟨rfl, h⟩
    · rw [cpo (by omega), cpo (by omega), cpo (by omega), cpo (by omega), c3 _ _ (by omega), b3 _ _ (by omega), a3 _ _ (by omega)]
      have : i = 0 ∨ i = 1 ∨ i = 2 ∨ i = 3 ∨ i = 4 := by omega
      rcases this with rfl | rfl | rfl | rfl | rfl
      · exact u1.1
      · exact u1.2.1
      · exact u1.2.2.1
      · exact u1.2.2.2.1
      · exact u1.2.2.2.2
    · obtain ⟨x, rfl⟩ : ∃ x, o = 2 + x := ⟨o - 2, by omega⟩
      rw [cpo (by omega), cpo (by omega), cpo (by omega), cpo (by omega), c3 _ _ (by omega), b3 _ _ (by omega), ← Nat.add_assoc, ← Nat.add_assoc]
      exact (a2 x i (by omega) (by omega) h).trans (u2 _ _ (by omega))
    · rw [cpo (by omega), cpo (by omega), cpo (by omega)]
      refine (cpi h).trans ?_
      rw [c3 _ _ (by omega), b3 _ _ (by omega), a3 _ _ (by omega), u2 _ _ (by omega)]
    · rw [cpo (by omega), cpo (by omega)]
      refine (cpi h).trans ?_
      rw [cpo (by omega), c3 _ _ (by omega), b3 _ _ (by omega), a3 _ _ (by omega), u2 _ _ (by omega)]
    · rw [cpo (by omega)]
      refine (cpi h).trans ?_
      rw [cpo (by omega), cpo (by omega), c3 _ _ (by omega), b3 _ _ (by omega), a3 _ _ (by omega), u2 _ _ (by omega)]
    · obtain ⟨x, rfl⟩ : ∃ x, o = 14 + x := ⟨o - 14, by omega⟩
      rw [cpo (by omega), cpo (by omega), cpo (by omega), cpo (by omega), c3 _ _ (by omega), ← Nat.add_assoc, ← Nat.add_assoc]
      exact (b2 x i (by omega) (by omega) h).trans ((a3 _ _ (by omega)).trans (u2 _ _ (by omega)))
    · obtain ⟨x, rfl⟩ : ∃ x, o = 43 + x := ⟨o - 43, by omega⟩
      rw [cpo (by omega), cpo (by omega), cpo (by omega), cpo (by omega), ← Nat.add_assoc, ← Nat.add_assoc]
      exact (c2 x i (by omega) (by omega) h).trans ((b3 _ _ (by omega)).trans ((a3 _ _ (by omega)).trans (u2 _ _ (by omega))))
    · refine (cpi h).trans ?_
      rw [cpo (by omega), cpo (by omega), cpo (by omega), c3 _ _ (by omega), b3 _ _ (by omega), a3 _ _ (by omega), u2 _ _ (by omega)]
  · rw [cpo (by omega), cpo (by omega), cpo (by omega), cpo (by omega), c3 _ _ (by omega), b3 _ _ (by omega), a3 _ _ (by omega), u2 _ _ (by omega)]
theorem cp_51_1_L42 : ∀ (k n j : Nat) (m : mM), j + k = 8 → k < n → ∃ m', f_X7_copyFrom_51_1_L42 n (nI j) m = some m' ∧ (∀ x i, j ≤ x → x < 8 → i < 3 → m' (53 + x) i = m (3 + x) i) ∧ ∀ a i, ¬ (53 + j ≤ a ∧ a < 61) → m' a i = m a i := by
  intro k
  induction k with
  | zero =>
    intro n j m hj hn
    obtain ⟨n, rfl⟩ : ∃ z, n = z + 1 := ⟨n - 1, by omega⟩
    refine ⟨m, ?_, fun x i h1 h2 => absurd h1 (by omega), fun _ _ _ => rfl⟩
    rw [f_X7_copyFrom_51_1_L42]
    exact if_pos (nI_le (a := 8) (by omega) (by omega))
  | succ k ih =>
    intro n j m hj hn
    obtain ⟨n, rfl⟩ : ∃ z, n = z + 1 := ⟨n - 1, by omega⟩
    obtain ⟨m', i1, i2, i3⟩ := ih n (j + 1) (m_cpy m (3 + j) (53 + j) 3) (by omega) (by omega)
    refine ⟨m', ?_, fun x i h1 h2 h3 => ?_, fun a i h => ?_⟩
    · rw [f_X7_copyFrom_51_1_L42]
      refine (if_neg (nI_ge (b := 8) (by omega) (by decide))).trans ?_
      refine (bnd_of (ckN (show j < 8 by omega) (by decide))).trans ?_
      refine (bnd_of (ckN (show j < 8 by omega) (by decide))).trans ?_
      refine (bnd_of rfl).trans ?_
      rw [nI_1]
      exact i1
    · by_cases e : x = j
      · subst e; rw [i3 _ _ (by omega), cpi h3]
      · rw [i2 x i (by omega) h2 h3, cpo (by omega)]
    · rw [i3 a i (by omega), cpo (by omega)]
theorem cp_51_1_L74 : ∀ (k n j : Nat) (m : mM), j + k = 28 → k < n → ∃ m', f_X7_copyFrom_51_1_L74 n (nI j) m = some m' ∧ (∀ x i, j ≤ x → x < 28 → i < 3 → m' (65 + x) i = m (15 + x) i) ∧ ∀ a i, ¬ (65 + j ≤ a ∧ a < 93) → m' a i = m a i := by
  intro k
  induction k with
  | zero =>
    intro n j m hj hn
    obtain ⟨n, rfl⟩ : ∃ z, n = z + 1 := ⟨n - 1, by omega⟩
    refine ⟨m, ?_, fun x i h1 h2 => absurd h1 (by omega), fun _ _ _ => rfl⟩
    rw [f_X7_copyFrom_51_1_L74]
    exact if_pos (nI_le (a := 28) (by omega) (by omega))
  | succ k ih =>
    intro n j m hj hn
    obtain ⟨n, rfl⟩ : ∃ z, n = z + 1 := ⟨n - 1, by omega⟩
    obtain ⟨m', i1, i2, i3⟩ := ih n (j + 1) (m_cpy m (15 + j) (65 + j) 3) (by omega) (by omega)
    refine ⟨m', ?_, fun x i h1 h2 h3 => ?_, fun a i h => ?_⟩
    · rw [f_X7_copyFrom_51_1_L74]
      refine (if_neg (nI_ge (b := 28) (by omega) (by decide))).trans ?_
      refine (bnd_of (ckN (show j < 28 by omega) (by decide))).trans ?_
      refine (bnd_of (ckN (show j < 28 by omega) (by decide))).trans ?_
      refine (bnd_of rfl).trans ?_
      rw [nI_1]
      exact i1
    · by_cases e : x = j
      · subst e; rw [i3 _ _ (by omega), cpi h3]
      · rw [i2 x i (by omega) h2 h3, cpo (by omega)]
    · rw [i3 a i (by omega), cpo (by omega)]
theorem cp_51_1_L106 : ∀ (k n j : Nat) (m : mM), j + k = 6 → k < n → ∃ m', f_X7_copyFrom_51_1_L106 n (nI j) m = some m' ∧ (∀ x i, j ≤ x → x < 6 → i < 6 → m' (94 + x) i = m (44 + x) i) ∧ ∀ a i, ¬ (94 + j ≤ a ∧ a < 100) → m' a i = m a i := by
  intro k
  induction k with
  | zero =>
    intro n j m hj hn
    obtain ⟨n, rfl⟩ : ∃ z, n = z + 1 := ⟨n - 1, by omega⟩
    refine ⟨m, ?_, fun x i h1 h2 => absurd h1 (by omega), fun _ _ _ => rfl⟩
    rw [f_X7_copyFrom_51_1_L106]
    exact if_pos (nI_le (a := 6) (by omega) (by omega))
  | succ k ih =>
    intro n j m hj hn
    obtain ⟨n, rfl⟩ : ∃ z, n = z + 1 := ⟨n - 1, by omega⟩
    obtain ⟨m', i1, i2, i3⟩ := ih n (j + 1) (m_cpy m (44 + j) (94 + j) 6) (by omega) (by omega)
    refine ⟨m', ?_, fun x i h1 h2 h3 => ?_, fun a i h => ?_⟩
    · rw [f_X7_copyFrom_51_1_L106]
      refine (if_neg (nI_ge (b := 6) (by omega) (by decide))).trans ?_
      refine (bnd_of (ckN (show j < 6 by omega) (by decide))).trans ?_
      refine (bnd_of (ckN (show j < 6 by omega) (by decide))).trans ?_
      refine (bnd_of rfl).trans ?_
      rw [nI_1]
      exact i1
    · by_cases e : x = j
      · subst e; rw [i3 _ _ (by omega), cpi h3]
      · rw [i2 x i (by omega) h2 h3, cpo (by omega)]
    · rw [i3 a i (by omega), cpo (by omega)]
theorem cp_51_1 (m : mM) : ∃ m', f_X7_copyFrom_51_1 m = some m' ∧ (∀ o i, cpd o i → m' (51 + o) i = m (1 + o) i) ∧ ∀ a i, (a < 51 ∨ 100 < a) → m' a i = m a i := by
  have hu : ∃ m9, (m9 51 0 = m 1 0 ∧ m9 51 1 = m 1 1 ∧ m9 51 2 = m 1 2 ∧ m9 51 3 = m 1 3 ∧ m9 51 4 = m 1 4) ∧ (∀ a i, a ≠ 51 → m9 a i = m a i) ∧ f_X7_copyFrom_51_1 m = bnd (f_X7_copyFrom_51_1_L42 fU (0 : Int32) m9) fun o18 =>
      bnd (f_X7_copyFrom_51_1_L74 fU (0 : Int32) o18) fun o27 =>
      bnd (f_X7_copyFrom_51_1_L106 fU (0 : Int32) o27) fun o36 =>
      bnd (some (m_cpy o36 11 61 8)) fun m38 =>
      bnd (some (m_cpy m38 12 62 8)) fun m40 =>
      bnd (some (m_cpy m40 13 63 28)) fun m42 =>
      bnd (some (m_cpy m42 50 100 4)) fun m44 => some m44 := by
    refine ⟨(m_up (m_up (m_up (m_up (m_up m 51 0 (m 1 0)) 51 1 ((m_up m 51 0 (m 1 0)) 1 1)) 51 2 ((m_up (m_up m 51 0 (m 1 0)) 51 1 ((m_up m 51 0 (m 1 0)) 1 1)) 1 2)) 51 3 ((m_up (m_up (m_up m 51 0 (m 1 0)) 51 1 ((m_up m 51 0 (m 1 0)) 1 1)) 51 2 ((m_up (m_up m 51 0 (m 1 0)) 51 1 ((m_up m 51 0 (m 1 0)) 1 1)) 1 2)) 1 3)) 51 4 ((m_up (m_up (m_up (m_up m 51 0 (m 1 0)) 51 1 ((m_up m 51 0 (m 1 0)) 1 1)) 51 2 ((m_up (m_up m 51 0 (m 1 0)) 51 1 ((m_up m 51 0 (m 1 0)) 1 1)) 1 2)) 51 3 ((m_up (m_up (m_up m 51 0 (m 1 0)) 51 1 ((m_up m 51 0 (m 1 0)) 1 1)) 51 2 ((m_up (m_up m 51 0 (m 1 0)) 51 1 ((m_up m 51 0 (m 1 0)) 1 1)) 1 2)) 1 3)) 1 4)), ?_, ?_, ?_⟩
    · refine ⟨?_, ?_, ?_, ?_, ?_⟩ <;> simp [m_up]
    · intro a i h
      rw [m_up_na h, m_up_na h, m_up_na h, m_up_na h, m_up_na h]
    · unfold f_X7_copyFrom_51_1
      refine (bnd_of rfl).trans ?_
      refine (bnd_of rfl).trans ?_
      refine (bnd_of rfl).trans ?_
      refine (bnd_of rfl).trans ?_
      exact (bnd_of rfl)
  obtain ⟨m9, u1, u2, u3⟩ := hu
  obtain ⟨n1, a1, a2, a3⟩ := cp_51_1_L42 8 fU 0 m9 rfl (by decide)
  obtain ⟨n2, b1, b2, b3⟩ := cp_51_1_L74 28 fU 0 n1 rfl (by decide)
  obtain ⟨n3, c1, c2, c3⟩ := cp_51_1_L106 6 fU 0 n2 rfl (by decide)
  refine ⟨m_cpy (m_cpy (m_cpy (m_cpy n3 11 61 8) 12 62 8) 13 63 28) 50 100 4, ?_, fun o i h => ?_, fun a i h => ?_⟩
  · rw [u3]
    refine (bnd_of a1).trans ?_
    refine (bnd_of b1).trans ?_
    exact (bnd_of c1).trans rfl
  · rcases h with ⟨rfl, h⟩ | ⟨h1, h2, h⟩ | ⟨rfl, h⟩ | ⟨rfl, h⟩ | ⟨rfl, h⟩ | ⟨h1, h2, h⟩ | ⟨h1, h2, h⟩ | ⟨rfl, h⟩
    · rw [cpo (by omega), cpo (by omega), cpo (by omega), cpo (by omega), c3 _ _ (by omega), b3 _ _ (by omega), a3 _ _ (by omega)]
      have : i = 0 ∨ i = 1 ∨ i = 2 ∨ i = 3 ∨ i = 4 := by omega
      rcases this with rfl | rfl | rfl | rfl | rfl
      · exact u1.1
      · exact u1.2.1
      · exact u1.2.2.1
      · exact u1.2.2.2.1
      · exact u1.2.2.2.2
    · obtain ⟨x, rfl⟩ : ∃ x, o = 2 + x := ⟨o - 2, by omega⟩
      rw [cpo (by omega), cpo (by omega), cpo (by omega), cpo (by omega), c3 _ _ (by omega), b3 _ _ (by omega), ← Nat.add_assoc, ← Nat.add_assoc]
      exact (a2 x i (by omega) (by omega) h).trans (u2 _ _ (by omega))
    · rw [cpo (by omega), cpo (by omega), cpo (by omega)]
      refine (cpi h).trans ?_
      rw [c3 _ _ (by omega), b3 _ _ (by omega), a3 _ _ (by omega), u2 _ _ (by omega)]
    · rw [cpo (by omega), cpo (by omega)]
      refine (cpi h).trans ?_
      rw [cpo (by omega), c3 _ _ (by omega), b3 _ _ (by omega), a3 _ _ (by omega), u2 _ _ (by omega)]
    · rw [cpo (by omega)]
      refine (cpi h).trans ?_
      rw [cpo (by omega), cpo (by omega), c3 _ _ (by omega), b3 _ _ (by omega), a3 _ _ (by omega), u2 _ _ (by omega)]
    · obtain ⟨x, rfl⟩ : ∃ x, o = 14 + x := ⟨o - 14, by omega⟩
      rw [cpo (by omega), cpo (by omega), cpo (by omega), cpo (by omega), c3 _ _ (by omega), ← Nat.add_assoc, ← Nat.add_assoc]
      exact (b2 x i (by omega) (by omega) h).trans ((a3 _ _ (by omega)).trans (u2 _ _ (by omega)))
    · obtain ⟨x, rfl⟩ : ∃ x, o = 43 + x := ⟨o - 43, by omega⟩
      rw [cpo (by omega), cpo (by omega), cpo (by omega), cpo (by omega), ← Nat.add_assoc, ← Nat.add_assoc]
      exact (c2 x i (by omega) (by omega) h).trans ((b3 _ _ (by omega)).trans ((a3 _ _ (by omega)).trans (u2 _ _ (by omega))))
    · refine (cpi h).trans ?_
      rw [cpo (by omega), cpo (by omega), cpo (by omega), c3 _ _ (by omega), b3 _ _ (by omega), a3 _ _ (by omega), u2 _ _ (by omega)]
  · rw [cpo (by omega), cpo (by omega), cpo (by omega), cpo (by omega), c3 _ _ (by omega), b3 _ _ (by omega), a3 _ _ (by omega), u2 _ _ (by omega)]
theorem cp_1_51_L42 : ∀ (k n j : Nat) (m : mM), j + k = 8 → k < n → ∃ m', f_X7_copyFrom_1_51_L42 n (nI j) m = some m' ∧ (∀ x i, j ≤ x → x < 8 → i < 3 → m' (3 + x) i = m (53 + x) i) ∧ ∀ a i, ¬ (3 + j ≤ a ∧ a < 11) → m' a i = m a i := by
  intro k
  induction k with
  | zero =>
    intro n j m hj hn
    obtain ⟨n, rfl⟩ : ∃ z, n = z + 1 := ⟨n - 1, by omega⟩
    refine ⟨m, ?_, fun x i h1 h2 => absurd h1 (by omega), fun _ _ _ => rfl⟩
    rw [f_X7_copyFrom_1_51_L42]
    exact if_pos (nI_le (a := 8) (by omega) (by omega))
  | succ k ih =>
    intro n j m hj hn
    obtain ⟨n, rfl⟩ : ∃ z, n = z + 1 := ⟨n - 1, by omega⟩
    obtain ⟨m', i1, i2, i3⟩ := ih n (j + 1) (m_cpy m (53 + j) (3 + j) 3) (by omega) (by omega)
    refine ⟨m', ?_, fun x i h1 h2 h3 => ?_, fun a i h => ?_⟩
    · rw [f_X7_copyFrom_1_51_L42]
      refine (if_neg (nI_ge (b := 8) (by omega) (by decide))).trans ?_
      refine (bnd_of (ckN (show j < 8 by omega) (by decide))).trans ?_
      refine (bnd_of (ckN (show j < 8 by omega) (by decide))).trans ?_
      refine (bnd_of rfl).trans ?_
      rw [nI_1]
      exact i1
    · by_cases e : x = j
      · subst e; rw [i3 _ _ (by omega), cpi h3]
      · rw [i2 x i (by omega) h2 h3, cpo (by omega)]
    · rw [i3 a i (by omega), cpo (by omega)]
theorem cp_1_51_L74 : ∀ (k n j : Nat) (m : mM), j + k = 28 → k < n → ∃ m', f_X7_copyFrom_1_51_L74 n (nI j) m = some m' ∧ (∀ x i, j ≤ x → x < 28 → i < 3 → m' (15 + x) i = m (65 + x) i) ∧ ∀ a i, ¬ (15 + j ≤ a ∧ a < 43) → m' a i = m a i := by
  intro k
  induction k with
  | zero =>
    intro n j m hj hn
    obtain ⟨n, rfl⟩ : ∃ z, n = z + 1 := ⟨n - 1, by omega⟩
    refine ⟨m, ?_, fun x i h1 h2 => absurd h1 (by omega), fun _ _ _ => rfl⟩
    rw [f_X7_copyFrom_1_51_L74]
    exact if_pos (nI_le (a := 28) (by omega) (by omega))
  | succ k ih =>
    intro n j m hj hn
    obtain ⟨n, rfl⟩ : ∃ z, n = z + 1 := ⟨n - 1, by omega⟩
    obtain ⟨m', i1, i2, i3⟩ := ih n (j + 1) (m_cpy m (65 + j) (15 + j) 3) (by omega) (by omega)
    refine ⟨m', ?_, fun x i h1 h2 h3 => ?_, fun a i h => ?_⟩
    · rw [f_X7_copyFrom_1_51_L74]
      refine (if_neg (nI_ge (b := 28) (by omega) (by decide))).trans ?_
      refine (bnd_of (ckN (show j < 28 by omega) (by decide))).trans ?_
      refine (bnd_of (ckN (show j < 28 by omega) (by decide))).trans ?_
      refine (bnd_of rfl).trans ?_
      rw [nI_1]
      exact i1
    · by_cases e : x = j
      · subst e; rw [i3 _ _ (by omega), cpi h3]
      · rw [i2 x i (by omega) h2 h3, cpo (by omega)]
    · rw [i3 a i (by omega), cpo (by omega)]
theorem cp_1_51_L106 : ∀ (k n j : Nat) (m : mM), j + k = 6 → k < n → ∃ m', f_X7_copyFrom_1_51_L106 n (nI j) m = some m' ∧ (∀ x i, j ≤ x → x < 6 → i < 6 → m' (44 + x) i = m (94 + x) i) ∧ ∀ a i, ¬ (44 + j ≤ a ∧ a < 50) → m' a i = m a i := by
  intro k
  induction k with
  | zero =>
    intro n j m hj hn
    obtain ⟨n, rfl⟩ : ∃ z, n = z + 1 := ⟨n - 1, by omega⟩
    refine ⟨m, ?_, fun x i h1 h2 => absurd h1 (by omega), fun _ _ _ => rfl⟩
    rw [f_X7_copyFrom_1_51_L106]
    exact if_pos (nI_le (a := 6) (by omega) (by omega))
  | succ k ih =>
    intro n j m hj hn
    obtain ⟨n, rfl⟩ : ∃ z, n = z + 1 := ⟨n - 1, by omega⟩
    obtain ⟨m', i1, i2, i3⟩ := ih n (j + 1) (m_cpy m (94 + j) (44 + j) 6) (by omega) (by omega)
    refine ⟨m', ?_, fun x i h1 h2 h3 => ?_, fun a i h => ?_⟩
    · rw [f_X7_copyFrom_1_51_L106]
      refine (if_neg (nI_ge (b := 6) (by omega) (by decide))).trans ?_
      refine (bnd_of (ckN (show j < 6 by omega) (by decide))).trans ?_
      refine (bnd_of (ckN (show j < 6 by omega) (by decide))).trans ?_
      refine (bnd_of rfl).trans ?_
      rw [nI_1]
      exact i1
    · by_cases e : x = j
      · subst e; rw [i3 _ _ (by omega), cpi h3]
      · rw [i2 x i (by omega) h2 h3, cpo (by omega)]
    · rw [i3 a i (by omega), cpo (by omega)]
theorem cp_1_51 (m : mM) : ∃ m', f_X7_copyFrom_1_51 m = some m' ∧ (∀ o i, cpd o i → m' (1 + o) i = m (51 + o) i) ∧ ∀ a i, (a < 1 ∨ 50 < a) → m' a i = m a i := by
  have hu : ∃ m9, (m9 1 0 = m 51 0 ∧ m9 1 1 = m 51 1 ∧ m9 1 2 = m 51 2 ∧ m9 1 3 = m 51 3 ∧ m9 1 4 = m 51 4) ∧ (∀ a i, a ≠ 1 → m9 a i = m a i) ∧ f_X7_copyFrom_1_51 m = bnd (f_X7_copyFrom_1_51_L42 fU (0 : Int32) m9) fun o18 =>
      bnd (f_X7_copyFrom_1_51_L74 fU (0 : Int32) o18) fun o27 =>
      bnd (f_X7_copyFrom_1_51_L106 fU (0 : Int32) o27) fun o36 =>
      bnd (some (m_cpy o36 61 11 8)) fun m38 =>
      bnd (some (m_cpy m38 62 12 8)) fun m40 =>
      bnd (some (m_cpy m40 63 13 28)) fun m42 =>
      bnd (some (m_cpy m42 100 50 4)) fun m44 => some m44 := by
    refine ⟨(m_up (m_up (m_up (m_up (m_up m 1 0 (m 51 0)) 1 1 ((m_up m 1 0 (m 51 0)) 51 1)) 1 2 ((m_up (m_up m 1 0 (m 51 0)) 1 1 ((m_up m 1 0 (m 51 0)) 51 1)) 51 2)) 1 3 ((m_up (m_up (m_up m 1 0 (m 51 0)) 1 1 ((m_up m 1 0 (m 51 0)) 51 1)) 1 2 ((m_up (m_up m 1 0 (m 51 0)) 1 1 ((m_up m 1 0 (m 51 0)) 51 1)) 51 2)) 51 3)) 1 4 ((m_up (m_up (m_up (m_up m 1 0 (m 51 0)) 1 1 ((m_up m 1 0 (m 51 0)) 51 1)) 1 2 ((m_up (m_up m 1 0 (m 51 0)) 1 1 ((m_up m 1 0 (m 51 0)) 51 1)) 51 2)) 1 3 ((m_up (m_up (m_up m 1 0 (m 51 0)) 1 1 ((m_up m 1 0 (m 51 0)) 51 1)) 1 2 ((m_up (m_up m 1 0 (m 51 0)) 1 1 ((m_up m 1 0 (m 51 0)) 51 1)) 51 2)) 51 3)) 51 4)), ?_, ?_, ?_⟩
    · refine ⟨?_, ?_, ?_, ?_, ?_⟩ <;> simp [m_up]
    · intro a i h
      rw [m_up_na h, m_up_na h, m_up_na h, m_up_na h, m_up_na h]
    · unfold f_X7_copyFrom_1_51
      refine (bnd_of rfl).trans ?_
      refine (bnd_of rfl).trans ?_
      refine (bnd_of rfl).trans ?_
      refine (bnd_of rfl).trans ?_
      exact (bnd_of rfl)
  obtain ⟨m9, u1, u2, u3⟩ := hu
  obtain ⟨n1, a1, a2, a3⟩ := cp_1_51_L42 8 fU 0 m9 rfl (by decide)
  obtain ⟨n2, b1, b2, b3⟩ := cp_1_51_L74 28 fU 0 n1 rfl (by decide)
  obtain ⟨n3, c1, c2, c3⟩ := cp_1_51_L106 6 fU 0 n2 rfl (by decide)
  refine ⟨m_cpy (m_cpy (m_cpy (m_cpy n3 61 11 8) 62 12 8) 63 13 28) 100 50 4, ?_, fun o i h => ?_, fun a i h => ?_⟩
  · rw [u3]
    refine (bnd_of a1).trans ?_
    refine (bnd_of b1).trans ?_
    exact (bnd_of c1).trans rfl
  · rcases h with ⟨rfl, h⟩ | ⟨h1, h2, h⟩ | ⟨rfl, h⟩ | ⟨rfl, h⟩ | ⟨rfl, h⟩ | ⟨h1, h2, h⟩ | ⟨h1, h2, h⟩ | ⟨rfl, h⟩
    · rw [cpo (by omega), cpo (by omega), cpo (by omega), cpo (by omega), c3 _ _ (by omega), b3 _ _ (by omega), a3 _ _ (by omega)]
      have : i = 0 ∨ i = 1 ∨ i = 2 ∨ i = 3 ∨ i = 4 := by omega
      rcases this with rfl | rfl | rfl | rfl | rfl
      · exact u1.1
      · exact u1.2.1
      · exact u1.2.2.1
      · exact u1.2.2.2.1
      · exact u1.2.2.2.2
    · obtain ⟨x, rfl⟩ : ∃ x, o = 2 + x := ⟨o - 2, by omega⟩
      rw [cpo (by omega), cpo (by omega), cpo (by omega), cpo (by omega), c3 _ _ (by omega), b3 _ _ (by omega), ← Nat.add_assoc, ← Nat.add_assoc]
      exact (a2 x i (by omega) (by omega) h).trans (u2 _ _ (by omega))
    · rw [cpo (by omega), cpo (by omega), cpo (by omega)]
      refine (cpi h).trans ?_
      rw [c3 _ _ (by omega), b3 _ _ (by omega), a3 _ _ (by omega), u2 _ _ (by omega)]
    · rw [cpo (by omega), cpo (by omega)]
      refine (cpi h).trans ?_
      rw [cpo (by omega), c3 _ _ (by omega), b3 _ _ (by omega), a3 _ _ (by omega), u2 _ _ (by omega)]
    · rw [cpo (by omega)]
      refine (cpi h).trans ?_
      rw [cpo (by omega), cpo (by omega), c3 _ _ (by omega), b3 _ _ (by omega), a3 _ _ (by omega), u2 _ _ (by omega)]
    · obtain ⟨x, rfl⟩ : ∃ x, o = 14 + x := ⟨o - 14, by omega⟩
      rw [cpo (by omega), cpo (by omega), cpo (by omega), cpo (by omega), c3 _ _ (by omega), ← Nat.add_assoc, ← Nat.add_assoc]
      exact (b2 x i (by omega) (by omega) h).trans ((a3 _ _ (by omega)).trans (u2 _ _ (by omega)))
    · obtain ⟨x, rfl⟩ : ∃ x, o = 43 + x := ⟨o - 43, by omega⟩
      rw [cpo (by omega), cpo (by omega), cpo (by omega), cpo (by omega), ← Nat.add_assoc, ← Nat.add_assoc]
      exact (c2 x i (by omega) (by omega) h).trans ((b3 _ _ (by omega)).trans ((a3 _ _ (by omega)).trans (u2 _ _ (by omega))))
    · refine (cpi h).trans ?_
      rw [cpo (by omega), cpo (by omega), cpo (by omega), c3 _ _ (by omega), b3 _ _ (by omega), a3 _ _ (by omega), u2 _ _ (by omega)]
  · rw [cpo (by omega), cpo (by omega), cpo (by omega), cpo (by omega), c3 _ _ (by omega), b3 _ _ (by omega), a3 _ _ (by omega), u2 _ _ (by omega)]
theorem cm_189_190_L : ∀ (k n j : Nat) (m : mM), j + k = 189 → k < n → ∃ m', f_X9_copies_189_190_L2 n (nI j) m = some m' ∧ (∀ i, j ≤ i → i < 189 → m' 190 i = m 189 i) ∧ ∀ a i, ¬ (a = 190 ∧ j ≤ i) → m' a i = m a i := by
  intro k
  induction k with
  | zero =>
    intro n j m hj hn
    obtain ⟨n, rfl⟩ : ∃ z, n = z + 1 := ⟨n - 1, by omega⟩
    refine ⟨m, ?_, fun i h1 h2 => absurd h1 (by omega), fun _ _ _ => rfl⟩
    rw [f_X9_copies_189_190_L2]
    exact if_pos (nI_le (a := 189) (by omega) (by omega))
  | succ k ih =>
    intro n j m hj hn
    obtain ⟨n, rfl⟩ : ∃ z, n = z + 1 := ⟨n - 1, by omega⟩
    obtain ⟨m', i1, i2, i3⟩ := ih n (j + 1) (m_up m 190 j (m 189 j)) (by omega) (by omega)
    refine ⟨m', ?_, fun i h1 h2 => ?_, fun a i h => ?_⟩
    · rw [f_X9_copies_189_190_L2]
      refine (if_neg (nI_ge (b := 189) (by omega) (by decide))).trans ?_
      refine (bnd_of (rdN (show j < 189 by omega) (by decide))).trans ?_
      refine (bnd_of (wrN (show j < 189 by omega) (by decide))).trans ?_
      rw [nI_1]
      exact i1
    · by_cases e : i = j
      · subst e; rw [i3 _ _ (by omega), m_up_eq]
      · rw [i2 i (by omega) h2, m_up_na (by decide)]
    · rw [i3 a i (by omega)]
      unfold m_up
      rw [if_neg (by omega)]
theorem cm_189_190 (m : mM) : ∃ m', f_X9_copies_189_190 m = some m' ∧ (∀ i, i < 189 → m' 190 i = m 189 i) ∧ ∀ a i, a ≠ 190 → m' a i = m a i := by
  obtain ⟨m', i1, i2, i3⟩ := cm_189_190_L 189 fU 0 m rfl (by decide)
  refine ⟨m', ?_, fun i hi => i2 i (by omega) hi, fun a i h => i3 a i (by omega)⟩
  unfold f_X9_copies_189_190
  exact (bnd_of i1).trans rfl
theorem cm_190_189_L : ∀ (k n j : Nat) (m : mM), j + k = 189 → k < n → ∃ m', f_X9_copies_190_189_L2 n (nI j) m = some m' ∧ (∀ i, j ≤ i → i < 189 → m' 189 i = m 190 i) ∧ ∀ a i, ¬ (a = 189 ∧ j ≤ i) → m' a i = m a i := by
  intro k
  induction k with
  | zero =>
    intro n j m hj hn
    obtain ⟨n, rfl⟩ : ∃ z, n = z + 1 := ⟨n - 1, by omega⟩
    refine ⟨m, ?_, fun i h1 h2 => absurd h1 (by omega), fun _ _ _ => rfl⟩
    rw [f_X9_copies_190_189_L2]
    exact if_pos (nI_le (a := 189) (by omega) (by omega))
  | succ k ih =>
    intro n j m hj hn
    obtain ⟨n, rfl⟩ : ∃ z, n = z + 1 := ⟨n - 1, by omega⟩
    obtain ⟨m', i1, i2, i3⟩ := ih n (j + 1) (m_up m 189 j (m 190 j)) (by omega) (by omega)
    refine ⟨m', ?_, fun i h1 h2 => ?_, fun a i h => ?_⟩
    · rw [f_X9_copies_190_189_L2]
      refine (if_neg (nI_ge (b := 189) (by omega) (by decide))).trans ?_
      refine (bnd_of (rdN (show j < 189 by omega) (by decide))).trans ?_
      refine (bnd_of (wrN (show j < 189 by omega) (by decide))).trans ?_
      rw [nI_1]
      exact i1
    · by_cases e : i = j
      · subst e; rw [i3 _ _ (by omega), m_up_eq]
      · rw [i2 i (by omega) h2, m_up_na (by decide)]
    · rw [i3 a i (by omega)]
      unfold m_up
      rw [if_neg (by omega)]
theorem cm_190_189 (m : mM) : ∃ m', f_X9_copies_190_189 m = some m' ∧ (∀ i, i < 189 → m' 189 i = m 190 i) ∧ ∀ a i, a ≠ 189 → m' a i = m a i := by
  obtain ⟨m', i1, i2, i3⟩ := cm_190_189_L 189 fU 0 m rfl (by decide)
  refine ⟨m', ?_, fun i hi => i2 i (by omega) hi, fun a i h => i3 a i (by omega)⟩
  unfold f_X9_copies_190_189
  exact (bnd_of i1).trans rfl
theorem cm_189_191_L : ∀ (k n j : Nat) (m : mM), j + k = 189 → k < n → ∃ m', f_X9_copies_189_191_L2 n (nI j) m = some m' ∧ (∀ i, j ≤ i → i < 189 → m' 191 i = m 189 i) ∧ ∀ a i, ¬ (a = 191 ∧ j ≤ i) → m' a i = m a i := by
  intro k
  induction k with
  | zero =>
    intro n j m hj hn
    obtain ⟨n, rfl⟩ : ∃ z, n = z + 1 := ⟨n - 1, by omega⟩
    refine ⟨m, ?_, fun i h1 h2 => absurd h1 (by omega), fun _ _ _ => rfl⟩
    rw [f_X9_copies_189_191_L2]
    exact if_pos (nI_le (a := 189) (by omega) (by omega))
  | succ k ih =>
    intro n j m hj hn
    obtain ⟨n, rfl⟩ : ∃ z, n = z + 1 := ⟨n - 1, by omega⟩
    obtain ⟨m', i1, i2, i3⟩ := ih n (j + 1) (m_up m 191 j (m 189 j)) (by omega) (by omega)
    refine ⟨m', ?_, fun i h1 h2 => ?_, fun a i h => ?_⟩
    · rw [f_X9_copies_189_191_L2]
      refine (if_neg (nI_ge (b := 189) (by omega) (by decide))).trans ?_
      refine (bnd_of (rdN (show j < 189 by omega) (by decide))).trans ?_
      refine (bnd_of (wrN (show j < 189 by omega) (by decide))).trans ?_
      rw [nI_1]
      exact i1
    · by_cases e : i = j
      · subst e; rw [i3 _ _ (by omega), m_up_eq]
      · rw [i2 i (by omega) h2, m_up_na (by decide)]
    · rw [i3 a i (by omega)]
      unfold m_up
      rw [if_neg (by omega)]
theorem cm_189_191 (m : mM) : ∃ m', f_X9_copies_189_191 m = some m' ∧ (∀ i, i < 189 → m' 191 i = m 189 i) ∧ ∀ a i, a ≠ 191 → m' a i = m a i := by
  obtain ⟨m', i1, i2, i3⟩ := cm_189_191_L 189 fU 0 m rfl (by decide)
  refine ⟨m', ?_, fun i hi => i2 i (by omega) hi, fun a i h => i3 a i (by omega)⟩
  unfold f_X9_copies_189_191
  exact (bnd_of i1).trans rfl
theorem cm_191_189_L : ∀ (k n j : Nat) (m : mM), j + k = 189 → k < n → ∃ m', f_X9_copies_191_189_L2 n (nI j) m = some m' ∧ (∀ i, j ≤ i → i < 189 → m' 189 i = m 191 i) ∧ ∀ a i, ¬ (a = 189 ∧ j ≤ i) → m' a i = m a i := by
  intro k
  induction k with
  | zero =>
    intro n j m hj hn
    obtain ⟨n, rfl⟩ : ∃ z, n = z + 1 := ⟨n - 1, by omega⟩
    refine ⟨m, ?_, fun i h1 h2 => absurd h1 (by omega), fun _ _ _ => rfl⟩
    rw [f_X9_copies_191_189_L2]
    exact if_pos (nI_le (a := 189) (by omega) (by omega))
  | succ k ih =>
    intro n j m hj hn
    obtain ⟨n, rfl⟩ : ∃ z, n = z + 1 := ⟨n - 1, by omega⟩
    obtain ⟨m', i1, i2, i3⟩ := ih n (j + 1) (m_up m 189 j (m 191 j)) (by omega) (by omega)
    refine ⟨m', ?_, fun i h1 h2 => ?_, fun a i h => ?_⟩
    · rw [f_X9_copies_191_189_L2]
      refine (if_neg (nI_ge (b := 189) (by omega) (by decide))).trans ?_
      refine (bnd_of (rdN (show j < 189 by omega) (by decide))).trans ?_
      refine (bnd_of (wrN (show j < 189 by omega) (by decide))).trans ?_
      rw [nI_1]
      exact i1
    · by_cases e : i = j
      · subst e; rw [i3 _ _ (by omega), m_up_eq]
      · rw [i2 i (by omega) h2, m_up_na (by decide)]
    · rw [i3 a i (by omega)]
      unfold m_up
      rw [if_neg (by omega)]
theorem cm_191_189 (m : mM) : ∃ m', f_X9_copies_191_189 m = some m' ∧ (∀ i, i < 189 → m' 189 i = m 191 i) ∧ ∀ a i, a ≠ 189 → m' a i = m a i := by
  obtain ⟨m', i1, i2, i3⟩ := cm_191_189_L 189 fU 0 m rfl (by decide)
  refine ⟨m', ?_, fun i hi => i2 i (by omega) hi, fun a i h => i3 a i (by omega)⟩
  unfold f_X9_copies_191_189
  exact (bnd_of i1).trans rfl
theorem cm_189_192_L : ∀ (k n j : Nat) (m : mM), j + k = 189 → k < n → ∃ m', f_X9_copies_189_192_L2 n (nI j) m = some m' ∧ (∀ i, j ≤ i → i < 189 → m' 192 i = m 189 i) ∧ ∀ a i, ¬ (a = 192 ∧ j ≤ i) → m' a i = m a i := by
  intro k
  induction k with
  | zero =>
    intro n j m hj hn
    obtain ⟨n, rfl⟩ : ∃ z, n = z + 1 := ⟨n - 1, by omega⟩
    refine ⟨m, ?_, fun i h1 h2 => absurd h1 (by omega), fun _ _ _ => rfl⟩
    rw [f_X9_copies_189_192_L2]
    exact if_pos (nI_le (a := 189) (by omega) (by omega))
  | succ k ih =>
    intro n j m hj hn
    obtain ⟨n, rfl⟩ : ∃ z, n = z + 1 := ⟨n - 1, by omega⟩
    obtain ⟨m', i1, i2, i3⟩ := ih n (j + 1) (m_up m 192 j (m 189 j)) (by omega) (by omega)
    refine ⟨m', ?_, fun i h1 h2 => ?_, fun a i h => ?_⟩
    · rw [f_X9_copies_189_192_L2]
      refine (if_neg (nI_ge (b := 189) (by omega) (by decide))).trans ?_
      refine (bnd_of (rdN (show j < 189 by omega) (by decide))).trans ?_
      refine (bnd_of (wrN (show j < 189 by omega) (by decide))).trans ?_
      rw [nI_1]
      exact i1
    · by_cases e : i = j
      · subst e; rw [i3 _ _ (by omega), m_up_eq]
      · rw [i2 i (by omega) h2, m_up_na (by decide)]
    · rw [i3 a i (by omega)]
      unfold m_up
      rw [if_neg (by omega)]
theorem cm_189_192 (m : mM) : ∃ m', f_X9_copies_189_192 m = some m' ∧ (∀ i, i < 189 → m' 192 i = m 189 i) ∧ ∀ a i, a ≠ 192 → m' a i = m a i := by
  obtain ⟨m', i1, i2, i3⟩ := cm_189_192_L 189 fU 0 m rfl (by decide)
  refine ⟨m', ?_, fun i hi => i2 i (by omega) hi, fun a i h => i3 a i (by omega)⟩
  unfold f_X9_copies_189_192
  exact (bnd_of i1).trans rfl
theorem cm_192_189_L : ∀ (k n j : Nat) (m : mM), j + k = 189 → k < n → ∃ m', f_X9_copies_192_189_L2 n (nI j) m = some m' ∧ (∀ i, j ≤ i → i < 189 → m' 189 i = m 192 i) ∧ ∀ a i, ¬ (a = 189 ∧ j ≤ i) → m' a i = m a i := by
  intro k
  induction k with
  | zero =>
    intro n j m hj hn
    obtain ⟨n, rfl⟩ : ∃ z, n = z + 1 := ⟨n - 1, by omega⟩
    refine ⟨m, ?_, fun i h1 h2 => absurd h1 (by omega), fun _ _ _ => rfl⟩
    rw [f_X9_copies_192_189_L2]
    exact if_pos (nI_le (a := 189) (by omega) (by omega))
  | succ k ih =>
    intro n j m hj hn
    obtain ⟨n, rfl⟩ : ∃ z, n = z + 1 := ⟨n - 1, by omega⟩
    obtain ⟨m', i1, i2, i3⟩ := ih n (j + 1) (m_up m 189 j (m 192 j)) (by omega) (by omega)
    refine ⟨m', ?_, fun i h1 h2 => ?_, fun a i h => ?_⟩
    · rw [f_X9_copies_192_189_L2]
      refine (if_neg (nI_ge (b := 189) (by omega) (by decide))).trans ?_
      refine (bnd_of (rdN (show j < 189 by omega) (by decide))).trans ?_
      refine (bnd_of (wrN (show j < 189 by omega) (by decide))).trans ?_
      rw [nI_1]
      exact i1
    · by_cases e : i = j
      · subst e; rw [i3 _ _ (by omega), m_up_eq]
      · rw [i2 i (by omega) h2, m_up_na (by decide)]
    · rw [i3 a i (by omega)]
      unfold m_up
      rw [if_neg (by omega)]
theorem cm_192_189 (m : mM) : ∃ m', f_X9_copies_192_189 m = some m' ∧ (∀ i, i < 189 → m' 189 i = m 192 i) ∧ ∀ a i, a ≠ 189 → m' a i = m a i := by
  obtain ⟨m', i1, i2, i3⟩ := cm_192_189_L 189 fU 0 m rfl (by decide)
  refine ⟨m', ?_, fun i hi => i2 i (by omega) hi, fun a i h => i3 a i (by omega)⟩
  unfold f_X9_copies_192_189
  exact (bnd_of i1).trans rfl
