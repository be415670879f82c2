/-! judge -/
theorem dn_both {s : aSt} (hS : SI s) {w : Nat} (hw : w < s.1 1) : ∃ v : Int32, (∀ m, XI s m → f_X4_isDone (nI w) m = some v) ∧ ∀ m, MS s.1 m → (∀ i, i < s.2.2.2.1 → m 199 i = nI (s.2.2.2.2.1 i)) → f_X9_isDone (nI w) (nI s.2.2.2.1) m = some v := by
  have hr : s.2.2.2.1 ≤ 28 := hS.2.2.2.1
  have w0 := hS.w.w0
  obtain ⟨d1, d2, d3, d4, d5, d6⟩ := hS.w.wk hw
  obtain ⟨o, i1, i2⟩ := dn_L hS hw s.2.2.2.1 fU 0 0 999 0 (by omega) (by show _ < 300; omega) (Or.inl ⟨rfl, rfl, rfl⟩)
  refine ⟨(match o with | .inl v => v | .inr x => if x = nI (s.1 (153 + 6 * w + 2)) then 1 else 0), fun m hX => ?_, fun m hM hg => ?_⟩
  · have c2 : m (44 + w) 2 = nI (s.1 (153 + 6 * w + 2)) := (hX.x.w (k := 2) (by omega) (by omega)).trans (dcN (by omega))
    unfold f_X4_isDone
    refine (bnd_of (ckN (show w < 6 by omega) (by decide))).trans ?_
    refine (bnd_of (i1 m hX)).trans ?_
    cases o with
    | inl v => rfl
    | inr x =>
      show (bnd (rdA (44 + w) 6 (2 : Int32) m) fun v14 => if x = v14 then some (1 : Int32) else some (0 : Int32)) = some (if x = nI (s.1 (153 + 6 * w + 2)) then 1 else 0)
      refine (bnd_of (rdX (n := 6) (k := 2) rfl (by decide) (by decide) c2)).trans ?_
      by_cases e : x = nI (s.1 (153 + 6 * w + 2))
      · exact (if_pos e).trans (congrArg some (if_pos e).symm)
      · exact (if_neg e).trans (congrArg some (if_neg e).symm)
  · unfold f_X9_isDone
    refine (bnd_of (i2 m hM hg)).trans ?_
    cases o with
    | inl v => rfl
    | inr x =>
      show (bnd (f_X9_of (nI w) (2 : Int32) m) fun v14 => if x = v14 then some (1 : Int32) else some (0 : Int32)) = some (if x = nI (s.1 (153 + 6 * w + 2)) then 1 else 0)
      refine (bnd_of ((M_of (k := 2) hM (by omega) (by omega)).trans (congrArg some (dcN (by omega))))).trans ?_
      by_cases e : x = nI (s.1 (153 + 6 * w + 2))
      · exact (if_pos e).trans (congrArg some (if_pos e).symm)
      · exact (if_neg e).trans (congrArg some (if_neg e).symm)
def jO (o : Option Int32) (m : mM) : (Int32 × mM) ⊕ Unit := match o with
  | none => .inr ()
  | some v => .inl (v, m)
def jX (o : Option Int32) : Int32 ⊕ Unit := match o with
  | none => .inr ()
  | some v => .inl v
theorem nd_L {s : aSt} (hS : SI s) : ∀ (k n w : Nat), w + k = s.1 1 → k < n → ∃ o : Option Int32, (∀ m, XI s m → f_X4_firstNotDone_L2 m n (nI w) = some (jX o)) ∧ ∀ m, MS s.1 m → (∀ i, i < s.2.2.2.1 → m 199 i = nI (s.2.2.2.2.1 i)) → f_X9_judge_L37 (nI s.2.2.2.1) m n (nI w) = some (jO o m) := by
  have w0 := hS.w.w0
  intro k
  induction k with
  | zero =>
    intro n w hw hn
    obtain ⟨n, rfl⟩ : ∃ z, n = z + 1 := ⟨n - 1, by omega⟩
    refine ⟨none, fun m hX => ?_, fun m hM hg => ?_⟩
    · rw [f_X4_firstNotDone_L2]
      exact if_pos (by rw [hX.o1]; exact nI_le (by omega) (by omega))
    · rw [f_X9_judge_L37]
      refine (bnd_of (rdX (k := 1) rfl (by decide) (by decide) (hM.n (by decide) (by omega)))).trans ?_
      exact if_pos (nI_le (by omega) (by omega))
  | succ k ih =>
    intro n w hw hn
    obtain ⟨n, rfl⟩ : ∃ z, n = z + 1 := ⟨n - 1, by omega⟩
    obtain ⟨v, j1, j2⟩ := dn_both hS (show w < s.1 1 by omega)
    obtain ⟨o, i1, i2⟩ := ih n (w + 1) (by omega) (by omega)
    have g1 : ∀ m, XI s m → ¬ m 1 1 ≤ nI w := fun m hX => by rw [hX.o1]; exact nI_ge (by omega) (by omega)
    by_cases e : v = 0
    · refine ⟨some (nI w), fun m hX => ?_, fun m hM hg => ?_⟩
      · rw [f_X4_firstNotDone_L2]
        refine (if_neg (g1 m hX)).trans ?_
        refine (bnd_of (j1 m hX)).trans ?_
        exact if_pos e
      · rw [f_X9_judge_L37]
        refine (bnd_of (rdX (k := 1) rfl (by decide) (by decide) (hM.n (by decide) (by omega)))).trans ?_
        refine (if_neg (nI_ge (by omega) (by omega))).trans ?_
        refine (bnd_of (j2 m hM hg)).trans ?_
        exact if_pos e
    · refine ⟨o, fun m hX => ?_, fun m hM hg => ?_⟩
      · rw [f_X4_firstNotDone_L2]
        refine (if_neg (g1 m hX)).trans ?_
        refine (bnd_of (j1 m hX)).trans ?_
        refine (if_neg e).trans ?_
        rw [nI_1]; exact i1 m hX
      · rw [f_X9_judge_L37]
        refine (bnd_of (rdX (k := 1) rfl (by decide) (by decide) (hM.n (by decide) (by omega)))).trans ?_
        refine (if_neg (nI_ge (by omega) (by omega))).trans ?_
        refine (bnd_of (j2 m hM hg)).trans ?_
        refine (if_neg e).trans ?_
        rw [nI_1]; exact i2 m hM hg
def s0 (s : aSt) : aSt := (s.1, s.2.1, s.2.2.1, 0, s.2.2.2.2)
theorem SI.s0 {s : aSt} (h : SI s) : SI (s0 s) := ⟨h.1, h.2.1, h.2.2.1, Nat.zero_le _, fun i hi => absurd hi (Nat.not_lt_zero _), h.2.2.2.2.2⟩
theorem XI.s0 {s : aSt} {m : mM} (h : XI s m) : XI (s0 s) (m_up m 184 3 0) := by
  obtain ⟨h1, h2, h3, h4, h5⟩ := h
  refine ⟨h1.cg (fun a i q => m_up_na (by omega)), ⟨(m_up_na (by decide)).trans h2.1, fun i hi => (m_up_na (by decide)).trans (h2.2 i hi)⟩, ⟨m_up_eq _ _ _ _, fun i hi => absurd hi (Nat.not_lt_zero _)⟩, fun k q1 q2 => (m_up_na (by decide)).trans (h4 k q1 q2), iX_cg h5 (fun a i q => m_up_na (by omega))⟩
theorem mu21 {m : mM} {x : Int32} {a i : Nat} (h : ¬ (a = 187 ∧ i = 21)) : m_up m 187 21 x a i = m a i := if_neg h
theorem MI.s0 {s : aSt} {m : mM} (h : MI s m) : MI (s0 s) (m_up m 187 21 0) := by
  obtain ⟨h1, h2, h3, h4, h5, h6⟩ := h
  exact ⟨fun i hi => (mu21 (by omega)).trans (h1 i hi), (mu21 (by omega)).trans h2, ⟨(mu21 (by omega)).trans h3.1, fun i hi => (mu21 (by omega)).trans (h3.2 i hi)⟩, ⟨m_up_eq _ _ _ _, fun i hi => absurd hi (Nat.not_lt_zero _)⟩, fun k q1 q2 => (mu21 (by omega)).trans (h5 k q1 q2), iM_cg h6 (fun a i q => mu21 (by omega))⟩
theorem op_judge (a1 : Int32) : Op (f_X8_judge a1) (f_X9_judge a1) := by
  intro s hS
  have hr : s.2.2.2.1 ≤ 28 := hS.2.2.2.1
  have w0 := hS.w.w0
  have bad : (∀ m : mM, ∀ R S : Option (Int32 × mM), (if a1 < 0 then R else if a1 ≤ 1 then S else R) = R) → out a1 2 → ∃ v s', SI s' ∧ XO s (f_X8_judge a1) v s' ∧ MO s (f_X9_judge a1) v s' := fun hx ho => by
    refine both_ref (k := 2) hS (by decide) (by decide) (fun m hX => ?_) (fun m hM => ?_)
    · unfold f_X8_judge; exact hx m _ _
    · unfold f_X9_judge; exact (bnd_of (M_in0 (n := 2) ho)).trans (if_pos rfl)
  rcases rng a1 (n := 1) (by decide) with q | ⟨q, q2⟩ | ⟨j, hj, rfl⟩
  · exact bad (fun m R S => if_pos q) (Or.inl q)
  · refine bad (fun m R S => (if_neg q).trans (if_neg q2)) (Or.inr ?_)
    obtain ⟨j, hj, rfl⟩ := neg_nI q
    exact nI_le (by
      by_cases z : 2 ≤ j
      · exact z
      · exact absurd (nI_le (b := 1) (show j ≤ 1 by omega) (by decide)) q2) hj
  have hg : ∀ m, MI s m → ∀ i, i < s.2.2.2.1 → (m_up m 187 21 0) 199 i = nI (s.2.2.2.2.1 i) := fun m hM i hi => (mu21 (by omega)).trans (hM.2.2.2.1.2 i hi)
  have hms : ∀ m, MI s m → MS s.1 (m_up m 187 21 0) := fun m hM i hi => (mu21 (by omega)).trans (hM.s i hi)
  have hl : ∀ m, MI s m → (m_up m 187 21 0) 187 10 = dc 999 := fun m hM => (mu21 (by omega)).trans hM.l
  by_cases e : j = 0
  · subst e
    obtain ⟨o, i1, i2⟩ := fw_L hS s.2.2.2.1 fU 0 (by omega) (by show _ < 300; omega)
    refine ⟨(match o with | .inl v => v | .inr _ => -9), s0 s, hS.s0, fun m hX => ⟨m_up m 184 3 0, ?_, hX.s0, fun a i z => m_up_na (by omega)⟩, fun m hM => ⟨m_up m 187 21 0, ?_, hM.s0, fun a i z => mu21 (by omega)⟩⟩
    · unfold f_X8_judge f_X4_firstWrongHour
      refine (if_neg (by decide)).trans ((if_pos (by decide)).trans ((if_pos rfl).trans ?_))
      have h : (bnd (f_X4_firstWrongHour_L2 m fU (0 : Int32)) fun o10 => ora o10 (fun zq => some zq) fun x11 => some (-9 : Int32)) = some (match o with | .inl v => v | .inr _ => -9) := by
        refine (bnd_of (i1 m hX)).trans ?_
        cases o <;> rfl
      exact (bnd_of h).trans rfl
    · have c : m 187 21 = nI s.2.2.2.1 := hM.2.2.2.1.1
      unfold f_X9_judge f_X9_firstWrong
      refine (bnd_of (M_in1 (n := 2) (p := 0) (by decide) (by decide))).trans ((if_neg (by decide)).trans ((bnd_of rfl).trans ((if_pos rfl).trans ?_)))
      rw [c]
      have h : (bnd (f_X9_firstWrong_L2 (nI s.2.2.2.1) (m_up m 187 21 0) fU (0 : Int32)) fun o14 => ora o14 (fun zq => some zq) fun x15 => some (-9 : Int32)) = some (match o with | .inl v => v | .inr _ => -9) := by
        refine (bnd_of (i2 _ (hms m hM) (hl m hM) (hg m hM))).trans ?_
        cases o <;> rfl
      exact (bnd_of h).trans rfl
  · have e1 : j = 1 := by omega
    subst e1
    obtain ⟨o, i1, i2⟩ := nd_L hS (s.1 1) fU 0 (by omega) (by show _ < 300; omega)
    refine ⟨(match o with | some v => v | none => -9), s0 s, hS.s0, fun m hX => ⟨m_up m 184 3 0, ?_, hX.s0, fun a i z => m_up_na (by omega)⟩, fun m hM => ⟨m_up m 187 21 0, ?_, hM.s0, fun a i z => mu21 (by omega)⟩⟩
    · unfold f_X8_judge f_X4_firstNotDone
      refine (if_neg (by decide)).trans ((if_pos (by decide)).trans ((if_neg (by decide)).trans ?_))
      have h : (bnd (f_X4_firstNotDone_L2 m fU (0 : Int32)) fun o5 => ora o5 (fun zq => some zq) fun x6 => some (-9 : Int32)) = some (match o with | some v => v | none => -9) := by
        refine (bnd_of (i1 m hX)).trans ?_
        cases o <;> rfl
      exact (bnd_of h).trans rfl
    · have c : m 187 21 = nI s.2.2.2.1 := hM.2.2.2.1.1
      unfold f_X9_judge
      refine (bnd_of (M_in1 (n := 2) (p := 1) (by decide) (by decide))).trans ((if_neg (by decide)).trans ((bnd_of rfl).trans ((if_neg (by decide)).trans ?_)))
      rw [c]
      refine (bnd_of (i2 _ (hms m hM) (hg m hM))).trans ?_
      cases o <;> rfl
