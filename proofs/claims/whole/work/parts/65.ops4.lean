/-! image, on, bell, heirs, row -/
theorem op_image : Op f_X8_image f_X9_image := by
  intro s hS
  have h0 := hS.w.h0
  refine ⟨nI (s.1 0), (s.1, s.2.1, s.2.2.1, s.2.2.2.1, s.2.2.2.2.1, s.2.2.2.2.2.1, some s.1), ⟨hS.1, hS.2.1, hS.2.2.1, hS.2.2.2.1, hS.2.2.2.2.1, fun t ht => by cases ht; exact hS.1⟩, fun m hX => ?_, fun m hM => ?_⟩
  · obtain ⟨m1, i1, i2, i3⟩ := cp_101_1 m
    have xt : XT 101 103 111 112 113 115 144 150 s.1 m1 := XT.mv (a := 1) (b := 101) hX.x (fun h hh => hS.w.pa hh) i2
    obtain ⟨h1, h2, h3, h4, h5⟩ := hX
    have j3 : ∀ a i, a ≠ 0 → (a < 101 ∨ 150 < a) → m_up m1 0 3 1 a i = m a i := fun a i q q2 => (m_up_na q).trans (i3 a i q2)
    refine ⟨m_up m1 0 3 1, ?_, ⟨h1.cg (fun a i q => j3 a i (by omega) (by omega)), ⟨?_, fun i hi => ?_⟩, ⟨?_, fun i hi => ?_⟩, fun k q1 q2 => ?_, ⟨m_up_eq _ _ _ _, xt.cg (fun a i q => m_up_na (by omega))⟩⟩, fun a i q => j3 a i (by omega) (by omega)⟩
    · unfold f_X8_image
      refine (bnd_of i1).trans ?_
      refine (bnd_of rfl).trans ?_
      rw [m_up_na (show (101 : Nat) ≠ 0 by decide), xt.1]
    · rw [j3 _ _ (by omega) (by omega)]; exact h2.1
    · rw [j3 _ _ (by omega) (by omega)]; exact h2.2 i hi
    · rw [j3 _ _ (by omega) (by omega)]; exact h3.1
    · rw [j3 _ _ (by omega) (by omega)]; exact h3.2 i hi
    · rw [j3 _ _ (by omega) (by omega)]; exact h4 k q1 q2
  · obtain ⟨m1, i1, i2, i3⟩ := cm_189_190 m
    have c0 := hM.c0 hS
    obtain ⟨h1, h2, h3, h4, h5, h6⟩ := hM
    have j3 : ∀ a i, a ≠ 190 → ¬ (a = 187 ∧ i = 5) → m_up m1 187 5 1 a i = m a i := fun a i q q2 => by
      unfold m_up
      rw [if_neg q2]; exact i3 a i q
    refine ⟨m_up m1 187 5 1, ?_, ⟨fun i hi => ?_, ?_, ⟨?_, fun i hi => ?_⟩, ⟨?_, fun i hi => ?_⟩, fun k q1 q2 => ?_, ⟨m_up_eq _ _ _ _, fun i hi => ?_⟩⟩, fun a i q => j3 a i (by omega) (by omega)⟩
    · unfold f_X9_image
      refine (bnd_of i1).trans ?_
      refine (bnd_of rfl).trans ?_
      exact (bnd_of (rdX (k := 0) rfl (by decide) (by decide) ((j3 189 0 (by omega) (by omega)).trans c0))).trans rfl
    · rw [j3 _ _ (by omega) (by omega)]; exact h1 i hi
    · rw [j3 _ _ (by omega) (by omega)]; exact h2
    · rw [j3 _ _ (by omega) (by omega)]; exact h3.1
    · rw [j3 _ _ (by omega) (by omega)]; exact h3.2 i hi
    · rw [j3 _ _ (by omega) (by omega)]; exact h4.1
    · rw [j3 _ _ (by omega) (by omega)]; exact h4.2 i hi
    · rw [j3 _ _ (by omega) (by omega)]; exact h5 k q1 q2
    · rw [m_up_na (by decide), i2 i hi]; exact h1 i hi
theorem op_on : Op f_X8_on f_X9_on := by
  intro s hS
  cases e : s.2.2.2.2.2.2 with
  | none =>
    refine both_ref (k := 3) hS (by decide) (by decide) (fun m hX => ?_) (fun m hM => ?_)
    · have h5 := hX.2.2.2.2
      rw [e] at h5
      exact if_pos h5
    · have h5 := hM.2.2.2.2.2
      rw [e] at h5
      exact if_pos h5
  | some t =>
    have hWt := hS.2.2.2.2.2 t e
    have h0 := hWt.h0
    refine ⟨nI (t 0), (t, s.2), hS.town hWt, fun m hX => ?_, fun m hM => ?_⟩
    · have h5 := hX.2.2.2.2
      rw [e] at h5
      have g : m 0 3 = 1 := h5.1
      obtain ⟨m1, i1, i2, i3⟩ := cp_1_101 m
      have xt : XS t m1 := XT.mv (a := 101) (b := 1) h5.2 (fun h hh => hWt.pa hh) i2
      refine ⟨m1, ?_, hX.town xt (fun a i q => i3 a i (by omega)), fun a i q => i3 a i (by omega)⟩
      unfold f_X8_on
      refine (if_neg (by rw [g]; decide)).trans ?_
      refine (bnd_of i1).trans ?_
      rw [xt.1]
    · have h5 := hM.2.2.2.2.2
      rw [e] at h5
      have g : m 187 5 = 1 := h5.1
      obtain ⟨m1, i1, i2, i3⟩ := cm_190_189 m
      have ms : MS t m1 := fun i hi => (i2 i hi).trans (h5.2 i hi)
      refine ⟨m1, ?_, hM.town ms (fun a i q => i3 a i (by omega)), fun a i q => i3 a i (by omega)⟩
      unfold f_X9_on
      refine (if_neg (by rw [g]; decide)).trans ?_
      refine (bnd_of i1).trans ?_
      exact (bnd_of (rdX (k := 0) rfl (by decide) (by decide) (ms.n (by decide) (by omega)))).trans rfl
theorem op_bell_in {a1 a2 : Int32} {h : Nat} (hh : (h < 28 ∧ a1 = nI h) ∨ (h = 999 ∧ a1 = -1)) {s : aSt} (hS : SI s) : ∃ v s', SI s' ∧ XO s (f_X8_bell_J18 a1 a2) v s' ∧ MO s (f_X9_bell_J12 a1 a2) v s' := by
  have rf : ∀ c, 1 ≤ c → c ≤ 6 → (∀ m, f_X8_outside a2 9 m = some (-nI c)) → (∀ m, f_X9_within a2 0 9 m = some (-nI c)) → ∃ v s', SI s' ∧ XO s (f_X8_bell_J18 a1 a2) v s' ∧ MO s (f_X9_bell_J12 a1 a2) v s' := by
    intro c k1 k2 hx hm
    refine both_ref (k := c) hS k1 k2 (fun m hX => ?_) (fun m hM => ?_)
    · unfold f_X8_bell_J18
      exact (bnd_of (hx m)).trans (if_neg (ng0 k1 k2))
    · unfold f_X9_bell_J12 f_X9_bell_J23
      exact (bnd_of (hm m)).trans (if_neg (ng0 k1 k2))
  rcases rng a2 (n := 9) (by decide) with q | ⟨q, q2⟩ | ⟨v, hv, rfl⟩
  · exact rf 4 (by decide) (by decide) (fun _ => X_out4 q) (fun _ => M_out4 q)
  · exact rf 6 (by decide) (by decide) (fun _ => X_out6 q q2) (fun _ => M_out6 q q2)
  have h1000 : h < 1000 := by omega
  have e : ∀ i, fx i → tset (tset s.1 4 v) 3 h i = s.1 i := fun i hi => by unfold fx at hi; rw [tset_ne (by omega), tset_ne (by omega)]
  have o2 : tset (tset s.1 4 v) 3 h 2 = s.1 2 := by rw [tset_ne (by omega), tset_ne (by omega)]
  have o4 : tset (tset s.1 4 v) 3 h 4 = v := by rw [tset_ne (by omega), tset_eq]
  have o5 : ∀ k, tset (tset s.1 4 v) 3 h (5 + k) = s.1 (5 + k) := fun k => by rw [tset_ne (by omega), tset_ne (by omega)]
  have hW' : WT (tset (tset s.1 4 v) 3 h) := hS.w.set e (by rw [o2]; exact hS.w.st) (by rw [tset_eq]; omega) (by rw [o4]; exact hv) (fun k hk => by rw [o5]; exact hS.w.se hk) (fun p hp => by rw [tset_ne (by omega), tset_ne (by omega)]; have := hS.w.lt (i := 121 + 4 * p + 1) (by omega); omega) (fun p hp => by rw [tset_ne (by omega), tset_ne (by omega)]; exact (hS.w.ho hp).2.1)
  refine ⟨dc (s.1 3), (tset (tset s.1 4 v) 3 h, s.2), hS.town hW', fun m hX => ⟨m_up (m_up m 1 3 (dc h)) 1 4 (nI v), ?_, ?_, fun a i z => (m_up_na (by omega)).trans (m_up_na (by omega))⟩, fun m hM => ⟨m_up (m_up m 189 4 (nI v)) 189 3 (dc h), ?_, ?_, hu9.tr hu9⟩⟩
  · unfold f_X8_bell_J18
    refine (bnd_of (X_out0 (n := 9) hv (by decide))).trans ?_
    refine (if_pos rfl).trans ?_
    rw [← hX.o3]
    rcases hh with ⟨z1, rfl⟩ | ⟨rfl, rfl⟩
    · refine (if_neg (fun z => nI_pos (n := h) (by omega) (by rw [z]; decide))).trans ?_
      rw [dcN (by omega)]
      rfl
    · refine (if_pos rfl).trans ?_
      rfl
  · refine hX.town (hX.x.set hS.w e (fun a i z1 z2 z3 z4 => ?_) ?_ ?_ ?_ (fun j hj => ?_) (fun p hp => ?_)) (fun a i z => (m_up_na (by omega)).trans (m_up_na (by omega)))
    · unfold m_up; rw [if_neg (by omega), if_neg (by omega)]
    · rw [m_up_ni (by omega), m_up_ni (by omega), o2]; exact hX.o2
    · rw [m_up_ni (by omega), m_up_eq, tset_eq]
    · rw [m_up_eq, o4]
    · rw [m_up_na (by omega), m_up_na (by omega), o5]; exact hX.x.u hj
    · rw [m_up_na (by omega), m_up_na (by omega), tset_ne (by omega), tset_ne (by omega)]; exact hX.x.h hp (by decide)
  · unfold f_X9_bell_J12 f_X9_bell_J23
    refine (bnd_of (M_out0 (n := 9) hv (by decide))).trans ?_
    refine (if_pos rfl).trans ?_
    refine (bnd_of (wrN (k := 4) (by decide) (by decide))).trans ?_
    have c3 : (m_up m 189 4 (nI v)) 189 3 = dc (s.1 3) := (m_up_ni (by decide)).trans (hM.s 3 (by decide))
    rcases hh with ⟨z1, rfl⟩ | ⟨rfl, rfl⟩
    · refine (if_pos (nI_pos' (by omega))).trans ?_
      rw [dcN (show h < 999 by omega)]
      exact (bnd_of (M_becomes (k := 3) (by decide) c3)).trans rfl
    · refine (if_neg (by decide)).trans ?_
      exact (bnd_of (M_becomes (k := 3) (by decide) c3)).trans rfl
  · refine hM.town ?_ (fun a i q => (mu9 a i q).trans (mu9 a i q))
    have := hM.s.set (k := 4) (v := v)
    rw [dcN (show v < 999 by omega)] at this
    exact this.set
theorem op_bell (a1 a2 : Int32) : Op (f_X8_bell a1 a2) (f_X9_bell a1 a2) := by
  intro s hS
  by_cases e : a1 = -1
  · obtain ⟨v, s', g1, g2, g3⟩ := op_bell_in (h := 999) (a2 := a2) (Or.inr ⟨rfl, e⟩) hS
    exact ⟨v, s', g1, g2.at (fun m _ => if_pos e), g3.at (fun m _ => if_pos e)⟩
  · rcases io a1 (n := 28) (by decide) with q | ⟨h, hh, rfl⟩
    · refine both_ref (k := 1) hS (by decide) (by decide) (fun m hX => ?_) (fun m hM => ?_)
      · unfold f_X8_bell; exact (if_neg e).trans ((bnd_of (X_hr0 q)).trans (if_pos rfl))
      · unfold f_X9_bell f_X9_bell_J23; exact (if_neg e).trans ((bnd_of (M_hr0 q)).trans ((if_pos rfl).trans (if_neg (by decide))))
    · obtain ⟨v, s', g1, g2, g3⟩ := op_bell_in (h := h) (a2 := a2) (Or.inl ⟨hh, rfl⟩) hS
      refine ⟨v, s', g1, g2.at (fun m _ => ?_), g3.at (fun m _ => ?_)⟩
      · unfold f_X8_bell; exact (if_neg e).trans ((bnd_of (X_hr1 hh)).trans (if_neg (by decide)))
      · unfold f_X9_bell; exact (if_neg e).trans ((bnd_of (M_hr1 hh)).trans (if_neg (by decide)))
def hrO (o : Option Int32) (m : mM) : (Int32 × mM) ⊕ Unit := match o with
  | none => .inr ()
  | some v => .inl (v, m)
theorem heirs_L {h c : Nat} (hh : h < 28) (b2 : Int32) : ∀ (k n x : Nat), x + k = 21 → k < n → ∃ o : Option Int32, (∀ m, m 13 h = nI c → f_X8_heirs_L34 (nI h) b2 m n (nI x) = some (hrO o m)) ∧ ∀ m, m 189 (9 + 4 * h) = nI c → f_X9_heirs_L33 (nI h) b2 m n (nI x) = some (hrO o m) := by
  have e9 : (9 : Int32) + 4 * nI h = nI (9 + 4 * h) := by simp only [lit, pk_mul, nI_add]
  intro k
  induction k with
  | zero =>
    intro n x hx hn
    obtain ⟨n, rfl⟩ : ∃ z, n = z + 1 := ⟨n - 1, by omega⟩
    refine ⟨none, fun m _ => ?_, fun m _ => ?_⟩
    · rw [f_X8_heirs_L34]; exact if_pos (nI_lt (a := 20) (by omega) (by omega))
    · rw [f_X9_heirs_L33]; exact if_pos (nI_lt (a := 20) (by omega) (by omega))
  | succ k ih =>
    intro n x hx hn
    obtain ⟨n, rfl⟩ : ∃ z, n = z + 1 := ⟨n - 1, by omega⟩
    obtain ⟨o, i1, i2⟩ := ih n (x + 1) (by omega) (by omega)
    by_cases e : (nI c <<< (nI x &&& 31)) ≤ b2
    · refine ⟨o, fun m hm => ?_, fun m hm => ?_⟩
      · rw [f_X8_heirs_L34]
        refine (if_neg (nI_nlt (a := 20) (by omega) (by decide))).trans ?_
        refine (bnd_of (rdX rfl hh (by decide) hm)).trans ?_
        refine (if_pos e).trans ?_
        rw [nI_1]; exact i1 m hm
      · rw [f_X9_heirs_L33]
        refine (if_neg (nI_nlt (a := 20) (by omega) (by decide))).trans ?_
        refine (bnd_of (rdX e9 (by omega) (by decide) hm)).trans ?_
        refine (if_pos e).trans ?_
        rw [nI_1]; exact i2 m hm
    · refine ⟨some (nI x), fun m hm => ?_, fun m hm => ?_⟩
      · rw [f_X8_heirs_L34]
        refine (if_neg (nI_nlt (a := 20) (by omega) (by decide))).trans ?_
        refine (bnd_of (rdX rfl hh (by decide) hm)).trans ?_
        exact if_neg e
      · rw [f_X9_heirs_L33]
        refine (if_neg (nI_nlt (a := 20) (by omega) (by decide))).trans ?_
        refine (bnd_of (rdX e9 (by omega) (by decide) hm)).trans ?_
        exact if_neg e
theorem op_heirs (a1 a2 : Int32) : Op (f_X8_heirs a1 a2) (f_X9_heirs a1 a2) := by
  intro s hS
  rcases io a1 (n := 28) (by decide) with q | ⟨h, hh, rfl⟩
  · refine both_ref (k := 1) hS (by decide) (by decide) (fun m hX => ?_) (fun m hM => ?_)
    · unfold f_X8_heirs; exact (bnd_of (X_hr0 q)).trans (if_pos rfl)
    · unfold f_X9_heirs f_X9_heirs_J19; exact (bnd_of (M_hr0 q)).trans ((if_pos rfl).trans (if_neg (by decide)))
  have rf : ∀ c, 1 ≤ c → c ≤ 6 → (∀ m, f_X8_outside a2 9999 m = some (-nI c)) → (∀ m, f_X9_within a2 0 9999 m = some (-nI c)) → ∃ v s', SI s' ∧ XO s (f_X8_heirs (nI h) a2) v s' ∧ MO s (f_X9_heirs (nI h) a2) v s' := by
    intro c k1 k2 hx hm
    refine both_ref (k := c) hS k1 k2 (fun m hX => ?_) (fun m hM => ?_)
    · unfold f_X8_heirs
      refine (bnd_of (X_hr1 hh)).trans ?_
      refine (if_neg (by decide)).trans ?_
      exact (bnd_of (hx m)).trans (if_neg (ng0 k1 k2))
    · unfold f_X9_heirs f_X9_heirs_J19
      refine (bnd_of (M_hr1 hh)).trans ?_
      refine (if_neg (by decide)).trans ?_
      exact (bnd_of (hm m)).trans (if_neg (ng0 k1 k2))
  rcases rng a2 (n := 9999) (by decide) with q | ⟨q, q2⟩ | ⟨v, hv, rfl⟩
  · exact rf 4 (by decide) (by decide) (fun _ => X_out4 q) (fun _ => M_out4 q)
  · exact rf 6 (by decide) (by decide) (fun _ => X_out6 q q2) (fun _ => M_out6 q q2)
  have h3 := hS.w.pa hh
  obtain ⟨o, i1, i2⟩ := heirs_L (c := (s.1 (9 + 4 * h))) hh (nI v) 21 fU 0 rfl (by decide)
  refine ⟨(match o with | none => -9 | some v => v), s, hS, XO.same (fun m hX => ⟨m, ?_, xN.rf m⟩), MO.same (fun m hM => ⟨m, ?_, mN.rf m⟩)⟩
  · unfold f_X8_heirs
    refine (bnd_of (X_hr1 hh)).trans ?_
    refine (if_neg (by decide)).trans ?_
    refine (bnd_of (X_out0 (n := 9999) hv (by decide))).trans ?_
    refine (if_pos rfl).trans ?_
    refine (bnd_of (i1 m (hX.x.p hh))).trans ?_
    cases o <;> rfl
  · unfold f_X9_heirs f_X9_heirs_J19
    refine (bnd_of (M_hr1 hh)).trans ?_
    refine (if_neg (by decide)).trans ?_
    refine (bnd_of (M_out0 (n := 9999) hv (by decide))).trans ?_
    refine (if_pos rfl).trans ?_
    refine (bnd_of (i2 m (hM.s.n (by omega) (by omega)))).trans ?_
    cases o <;> rfl
