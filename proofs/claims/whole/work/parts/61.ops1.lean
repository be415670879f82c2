/-! the small operations: work, hour, one, cost, net, leave, price, strike, bell, row -/
theorem ge_nlt {a : Int32} {n : Nat} (h : nI n ≤ a) : ¬ a < nI n := Int32.not_lt.mpr h
theorem out_nlt {a : Int32} {n : Nat} (h : out a n) (h0 : ¬ a < 0) : ¬ a < nI n := ge_nlt (h.resolve_left h0)
theorem op_work (a1 a2 : Int32) : Op (f_X8_work a1 a2) (f_X9_work a1 a2) := by
  intro s hS
  have w0 := hS.w.w0
  rcases io a1 (n := s.1 1) (by omega) with q | ⟨w, hw, rfl⟩
  · refine both_ref (k := 1) hS (by decide) (by decide) (fun m hX => ?_) (fun m hM => ?_)
    · unfold f_X8_work; exact (bnd_of (X_wrk0 hX q)).trans (if_pos rfl)
    · unfold f_X9_work; exact (bnd_of (M_wrk0 hS hM q)).trans (if_pos rfl)
  · rcases io a2 (n := 6) (by decide) with q | ⟨k, hk, rfl⟩
    · refine both_ref (k := 2) hS (by decide) (by decide) (fun m hX => ?_) (fun m hM => ?_)
      · unfold f_X8_work
        refine (bnd_of (X_wrk1 hS hX hw)).trans ?_
        refine (if_neg (by decide)).trans ?_
        by_cases e : a2 < 0
        · exact if_pos e
        · exact (if_neg e).trans (if_neg (out_nlt q e))
      · unfold f_X9_work
        refine (bnd_of (M_wrk1 hS hM hw)).trans ?_
        refine (if_neg (by decide)).trans ?_
        exact (bnd_of (M_in0 (n := 6) q)).trans (if_pos rfl)
    · refine ⟨dc (s.1 (153 + 6 * w + k)), s, hS, XO.same (fun m hX => ⟨m, ?_, xN.rf m⟩), MO.same (fun m hM => ⟨m, ?_, mN.rf m⟩)⟩
      · unfold f_X8_work
        refine (bnd_of (X_wrk1 hS hX hw)).trans ?_
        refine (if_neg (by decide)).trans ?_
        refine (if_neg (nI_pos (by omega))).trans ?_
        refine (if_pos (nI_lt (b := 6) hk (by decide))).trans ?_
        refine (bnd_of (ckN (show w < 6 by omega) (by decide))).trans ?_
        exact (bnd_of (rdX rfl hk (by decide) (hX.x.w (by omega) hk))).trans rfl
      · unfold f_X9_work
        refine (bnd_of (M_wrk1 hS hM hw)).trans ?_
        refine (if_neg (by decide)).trans ?_
        refine (bnd_of (M_in1 (n := 6) hk (by decide))).trans ?_
        refine (if_neg (by decide)).trans ?_
        exact (bnd_of (M_of hM.s (by omega) hk)).trans rfl
theorem n0 {n : Nat} : ¬ nI (n % 2 ^ 31) < 0 := nI_pos (Nat.mod_lt _ (by decide))
theorem neg_nI {a : Int32} (h : ¬ a < 0) : ∃ j, j < 2 ^ 31 ∧ a = nI j := by
  refine ⟨a.toNatClampNeg, ?_, ?_⟩
  · have h1 := a.toInt_lt
    have h2 : (0 : Int) ≤ a.toInt := by
      have := Int32.not_lt.mp h
      exact Int32.le_iff_toInt_le.mp this
    show a.toInt.toNat < _
    omega
  · have h2 : (0 : Int) ≤ a.toInt := by
      have := Int32.not_lt.mp h
      exact Int32.le_iff_toInt_le.mp this
    have h1 := a.toInt_lt
    apply Int32.toInt_inj.mp
    rw [nI_toInt (by show a.toInt.toNat < _; omega)]
    show a.toInt = (a.toInt.toNat : Int)
    omega
theorem op_hour (a1 a2 : Int32) : Op (f_X8_hour a1 a2) (f_X9_hour a1 a2) := by
  intro s hS
  rcases io a1 (n := 28) (by decide) with q | ⟨h, hh, rfl⟩
  · refine both_ref (k := 1) hS (by decide) (by decide) (fun m hX => ?_) (fun m hM => ?_)
    · unfold f_X8_hour; exact (bnd_of (X_hr0 q)).trans (if_pos rfl)
    · unfold f_X9_hour; exact (bnd_of (M_hr0 q)).trans (if_pos rfl)
  · have h3 := hS.w.pa hh
    have e9 : (9 : Int32) + 4 * nI h = nI (9 + 4 * h) := by simp only [lit, pk_mul, nI_add]
    by_cases e : (-1 : Int32) ≤ a2
    · by_cases e0 : a2 < 0
      · have e1 : a2 = -1 := by
          apply Int32.toInt_inj.mp
          have h1 := Int32.le_iff_toInt_le.mp e
          have h2 := Int32.lt_iff_toInt_lt.mp e0
          have h3 : (-1 : Int32).toInt = -1 := by decide
          have h4 : (0 : Int32).toInt = 0 := by decide
          omega
        subst e1
        refine ⟨nI (s.1 (9 + 4 * h)), s, hS, XO.same (fun m hX => ⟨m, ?_, xN.rf m⟩), MO.same (fun m hM => ⟨m, ?_, mN.rf m⟩)⟩
        · unfold f_X8_hour
          refine (bnd_of (X_hr1 hh)).trans ?_
          refine (if_neg (by decide)).trans ?_
          refine (if_pos e).trans ?_
          refine (if_pos rfl).trans ?_
          exact (bnd_of (rdX rfl hh (by decide) (hX.x.p hh))).trans rfl
        · unfold f_X9_hour
          refine (bnd_of (M_hr1 hh)).trans ?_
          refine (if_neg (by decide)).trans ?_
          refine (if_pos e).trans ?_
          refine (bnd_of (rdX e9 (by omega) (by decide) (hM.s.n (by omega) (by omega)))).trans ?_
          exact (if_neg (by decide)).trans rfl
      · obtain ⟨k, hk, rfl⟩ := neg_nI e0
        have nm : ¬ nI k = -1 := fun z => e0 (by rw [z]; decide)
        by_cases ek : (s.1 (9 + 4 * h)) ≤ k
        · refine ⟨-9, s, hS, XO.same (fun m hX => ⟨m, ?_, xN.rf m⟩), MO.same (fun m hM => ⟨m, ?_, mN.rf m⟩)⟩
          · unfold f_X8_hour
            refine (bnd_of (X_hr1 hh)).trans ?_
            refine (if_neg (by decide)).trans ?_
            refine (if_pos e).trans ?_
            refine (if_neg nm).trans ?_
            refine (bnd_of (rdX rfl hh (by decide) (hX.x.p hh))).trans ?_
            exact (if_pos (nI_le ek hk)).trans rfl
          · unfold f_X9_hour
            refine (bnd_of (M_hr1 hh)).trans ?_
            refine (if_neg (by decide)).trans ?_
            refine (if_pos e).trans ?_
            refine (bnd_of (rdX e9 (by omega) (by decide) (hM.s.n (by omega) (by omega)))).trans ?_
            refine (if_pos (nI_pos' hk)).trans ?_
            exact (if_pos (nI_le ek hk)).trans rfl
        · have hp := hS.w.pp (i := k) hh (by omega)
          have h0 := hS.w.h0
          refine ⟨nI (s.1 (9 + 4 * h + 1 + k)), s, hS, XO.same (fun m hX => ⟨m, ?_, xN.rf m⟩), MO.same (fun m hM => ⟨m, ?_, mN.rf m⟩)⟩
          · unfold f_X8_hour
            refine (bnd_of (X_hr1 hh)).trans ?_
            refine (if_neg (by decide)).trans ?_
            refine (if_pos e).trans ?_
            refine (if_neg nm).trans ?_
            refine (bnd_of (rdX rfl hh (by decide) (hX.x.p hh))).trans ?_
            refine (if_neg (nI_ge (by omega) (by omega))).trans ?_
            refine (bnd_of (ckN hh (by decide))).trans ?_
            exact (bnd_of (rdX rfl (by omega) (by decide) (hX.x.q hh (by omega)))).trans rfl
          · unfold f_X9_hour
            refine (bnd_of (M_hr1 hh)).trans ?_
            refine (if_neg (by decide)).trans ?_
            refine (if_pos e).trans ?_
            refine (bnd_of (rdX e9 (by omega) (by decide) (hM.s.n (by omega) (by omega)))).trans ?_
            refine (if_pos (nI_pos' hk)).trans ?_
            refine (if_neg (nI_ge (by omega) (by omega))).trans ?_
            refine (bnd_of (rdX (k := 9 + 4 * h + 1 + k) (by rw [e9, nI_1, nI_add]) (by omega) (by decide) (hM.s.n (by omega) (by omega)))).trans ?_
            rfl
    · refine both_ref (k := 4) hS (by decide) (by decide) (fun m hX => ?_) (fun m hM => ?_)
      · unfold f_X8_hour
        refine (bnd_of (X_hr1 hh)).trans ?_
        refine (if_neg (by decide)).trans ?_
        exact if_neg e
      · unfold f_X9_hour
        refine (bnd_of (M_hr1 hh)).trans ?_
        refine (if_neg (by decide)).trans ?_
        exact if_neg e
theorem MI.finds {s : aSt} {m : mM} (hS : SI s) (hM : MI s m) {w : Nat} (hw : w < s.1 1) : ∃ m', f_X9_finds (nI w) m = some m' ∧ bS (one s.1 999 w) m' ∧ bOK (one s.1 999 w) ∧ mF m m' := M_finds hS.w hM.s hM.l (by decide) hw
theorem one_ok {s : aSt} (hS : SI s) {w : Nat} (hw : w < s.1 1) : bOK (one s.1 999 w) := by
  have hM : MS s.1 (fun a i => if a = 187 then dc 999 else dc (s.1 i)) := fun i _ => if_neg (by decide)
  obtain ⟨m', -, -, h, -⟩ := M_finds (lt := 999) hS.w hM (by simp) (by decide) hw
  exact h
theorem M_costOf {s : aSt} {m : mM} (hS : SI s) (hM : MI s m) {w : Nat} (hw : w < s.1 1) : ∃ m', f_X9_costOf (nI w) m = some (bcost (one s.1 999 w), m') ∧ bS (one s.1 999 w) m' ∧ mF m m' := by
  obtain ⟨m', i1, i2, i3, i4⟩ := hM.finds hS hw
  refine ⟨m', ?_, i2, i4⟩
  unfold f_X9_costOf
  refine (bnd_of i1).trans ?_
  rw [i2.1]
theorem op_one (a1 : Int32) : Op (f_X8_one a1) (f_X9_one a1) := by
  intro s hS
  have w0 := hS.w.w0
  rcases io a1 (n := s.1 1) (by omega) with q | ⟨w, hw, rfl⟩
  · refine both_ref (k := 1) hS (by decide) (by decide) (fun m hX => ?_) (fun m hM => ?_)
    · unfold f_X8_one; exact (bnd_of (X_wrk0 hX q)).trans (if_pos rfl)
    · unfold f_X9_one; exact (bnd_of (M_wrk0 hS hM q)).trans (if_pos rfl)
  · refine ⟨bbits (one s.1 999 w), s, hS, XO.same (fun m hX => ?_), MO.same (fun m hM => ?_)⟩
    · obtain ⟨m', i1, i2, i3, i4⟩ := X_choose hS.w.b hw hX.x
      refine ⟨m', ?_, i4.n⟩
      unfold f_X8_one
      refine (bnd_of (X_wrk1 hS hX hw)).trans ?_
      refine (if_neg (by decide)).trans ?_
      refine (bnd_of i1).trans ?_
      rw [i2.2]
    · obtain ⟨m', i1, i2, i3, i4⟩ := hM.finds hS hw
      refine ⟨m', ?_, i4.n⟩
      unfold f_X9_one
      refine (bnd_of (M_wrk1 hS hM hw)).trans ?_
      refine (if_neg (by decide)).trans ?_
      refine (bnd_of i1).trans ?_
      rw [i2.2]
theorem op_cost (a1 : Int32) : Op (f_X8_cost a1) (f_X9_cost a1) := by
  intro s hS
  have w0 := hS.w.w0
  rcases io a1 (n := s.1 1) (by omega) with q | ⟨w, hw, rfl⟩
  · refine both_ref (k := 1) hS (by decide) (by decide) (fun m hX => ?_) (fun m hM => ?_)
    · unfold f_X8_cost; exact (bnd_of (X_wrk0 hX q)).trans (if_pos rfl)
    · unfold f_X9_cost; exact (bnd_of (M_wrk0 hS hM q)).trans (if_pos rfl)
  · refine ⟨bcost (one s.1 999 w), s, hS, XO.same (fun m hX => ?_), MO.same (fun m hM => ?_)⟩
    · obtain ⟨m', i1, i2, i3, i4⟩ := X_choose hS.w.b hw hX.x
      refine ⟨m', ?_, i4.n⟩
      unfold f_X8_cost
      refine (bnd_of (X_wrk1 hS hX hw)).trans ?_
      refine (if_neg (by decide)).trans ?_
      refine (bnd_of i1).trans ?_
      rw [i2.1]
    · obtain ⟨m', i1, i2, i4⟩ := M_costOf hS hM hw
      refine ⟨m', ?_, i4.n⟩
      unfold f_X9_cost
      refine (bnd_of (M_wrk1 hS hM hw)).trans ?_
      refine (if_neg (by decide)).trans ?_
      exact (bnd_of i1).trans rfl
/-- what is left of a worth -/
def ntO (b : Option (Nat × Nat)) (g : Nat) : Nat := match b with
  | none => 999
  | some x => if x.1 ≤ g then g - x.1 else 999
theorem ntO_le {b : Option (Nat × Nat)} {g : Nat} (hg : g < 999) : ntO b g = 999 ∨ ntO b g ≤ g := by
  unfold ntO
  cases b with
  | none => exact Or.inl rfl
  | some x => simp only; split <;> omega
theorem X_netOf {b : Option (Nat × Nat)} (hb : bOK b) {g : Nat} (hg : g < 999) {m : mM} : f_X8_netOf (nI g) (bcost b) m = some (dc (ntO b g)) := by
  unfold f_X8_netOf ntO
  cases b with
  | none => exact if_pos rfl
  | some x =>
    have := (hb x rfl).1
    refine (if_neg (n9 (by omega))).trans ?_
    simp only [bcost]
    by_cases e : x.1 ≤ g
    · refine (if_pos (nI_le e (by omega))).trans ?_
      rw [if_pos e, dcN (by omega), pk_sub e]
    · refine (if_neg (nI_ge (by omega) (by omega))).trans ?_
      rw [if_neg e]; rfl
theorem M_netBy {s : aSt} {m : mM} (hS : SI s) (hM : MI s m) {w g : Nat} (hw : w < s.1 1) (hg : g < 999) : ∃ m', f_X9_netBy (nI w) (nI g) m = some (dc (ntO (one s.1 999 w) g), m') ∧ bS (one s.1 999 w) m' ∧ mF m m' := by
  obtain ⟨m', i1, i2, i4⟩ := M_costOf hS hM hw
  have i3 := one_ok hS hw
  refine ⟨m', ?_, i2, i4⟩
  unfold f_X9_netBy
  refine (bnd_of i1).trans ?_
  unfold ntO
  cases e : one s.1 999 w with
  | none => exact if_pos (show bcost none < 0 by decide)
  | some x =>
    have := (i3 x e).1
    refine (if_neg (nI_pos (by omega))).trans ?_
    simp only [bcost]
    by_cases e2 : x.1 ≤ g
    · refine (if_pos (nI_le e2 (by omega))).trans ?_
      rw [if_pos e2, dcN (by omega), pk_sub e2]
    · refine (if_neg (nI_ge (by omega) (by omega))).trans ?_
      rw [if_neg e2]; rfl
theorem M_netOf {s : aSt} {m : mM} (hS : SI s) (hM : MI s m) {w : Nat} (hw : w < s.1 1) : ∃ m', f_X9_netOf (nI w) m = some (dc (ntO (one s.1 999 w) (s.1 (153 + 6 * w + 4))), m') ∧ bS (one s.1 999 w) m' ∧ mF m m' := by
  have w0 := hS.w.w0
  obtain ⟨d1, d2, d3, d4, d5, d6⟩ := hS.w.wk hw
  obtain ⟨m', i1, i2, i3⟩ := M_netBy hS hM hw (show (s.1 (153 + 6 * w + 4)) < 999 by omega)
  refine ⟨m', ?_, i2, i3⟩
  unfold f_X9_netOf
  refine (bnd_of ((M_of (k := 4) hM.s (by omega) (by omega)).trans (congrArg some (dcN (by omega))))).trans ?_
  exact (bnd_of i1).trans rfl
theorem op_net (a1 : Int32) : Op (f_X8_net a1) (f_X9_net a1) := by
  intro s hS
  have w0 := hS.w.w0
  rcases io a1 (n := s.1 1) (by omega) with q | ⟨w, hw, rfl⟩
  · refine both_ref (k := 1) hS (by decide) (by decide) (fun m hX => ?_) (fun m hM => ?_)
    · unfold f_X8_net; exact (bnd_of (X_wrk0 hX q)).trans (if_pos rfl)
    · unfold f_X9_net; exact (bnd_of (M_wrk0 hS hM q)).trans (if_pos rfl)
  · obtain ⟨d1, d2, d3, d4, d5, d6⟩ := hS.w.wk hw
    refine ⟨dc (ntO (one s.1 999 w) (s.1 (153 + 6 * w + 4))), s, hS, XO.same (fun m hX => ?_), MO.same (fun m hM => ?_)⟩
    · obtain ⟨m', i1, i2, i3, i4⟩ := X_choose hS.w.b hw hX.x
      have hX' := hX.n i4.n
      have c4 : m' (44 + w) 4 = nI (s.1 (153 + 6 * w + 4)) := (hX'.x.w (k := 4) (by omega) (by omega)).trans (dcN (by omega))
      refine ⟨m', ?_, i4.n⟩
      unfold f_X8_net
      refine (bnd_of (X_wrk1 hS hX hw)).trans ?_
      refine (if_neg (by decide)).trans ?_
      refine (bnd_of i1).trans ?_
      refine (bnd_of (ckN (show w < 6 by omega) (by decide))).trans ?_
      refine (bnd_of (rdX (k := 4) rfl (by decide) (by decide) c4)).trans ?_
      rw [i2.1]
      exact (bnd_of (X_netOf (one_ok hS hw) (by omega))).trans rfl
    · obtain ⟨m', i1, i2, i3⟩ := M_netOf hS hM hw
      refine ⟨m', ?_, i3.n⟩
      unfold f_X9_net
      refine (bnd_of (M_wrk1 hS hM hw)).trans ?_
      refine (if_neg (by decide)).trans ?_
      exact (bnd_of i1).trans rfl
