/-! price, strike, bell, season, wedTo, heirs -/
theorem rng (a : Int32) {n : Nat} (hn : n < 2 ^ 30) : a < 0 ∨ (¬ a < 0 ∧ ¬ a ≤ nI n) ∨ ∃ j, j ≤ n ∧ a = nI j := by
  rcases pk_ix a (n := n + 1) (by omega) with q | q | ⟨j, hj, q⟩
  · exact Or.inl q
  · by_cases e : a < 0
    · exact Or.inl e
    · exact Or.inr (Or.inl ⟨e, out9 e q hn⟩)
  · exact Or.inr (Or.inr ⟨j, by omega, q⟩)
theorem nle0 {a : Int32} (h : a < 0) : ¬ 0 ≤ a := Int32.not_le.mpr h
theorem pos0 {a : Int32} (h : ¬ a < 0) : 0 ≤ a := Int32.not_lt.mp h
theorem X_out4 {a b : Int32} {m : mM} (h : a < 0) : f_X8_outside a b m = some (-nI 4) := if_neg (nle0 h)
theorem X_out6 {a b : Int32} {m : mM} (h : ¬ a < 0) (h2 : ¬ a ≤ b) : f_X8_outside a b m = some (-nI 6) := (if_pos (pos0 h)).trans (if_neg h2)
theorem X_out0 {j n : Nat} {m : mM} (h : j ≤ n) (hn : n < 2 ^ 30) : f_X8_outside (nI j) (nI n) m = some 0 := (if_pos (nI_pos' (by omega))).trans (if_pos (nI_le h (by omega)))
theorem M_out4 {a b : Int32} {m : mM} (h : a < 0) : f_X9_within a 0 b m = some (-nI 4) := if_neg (nle0 h)
theorem M_out6 {a b : Int32} {m : mM} (h : ¬ a < 0) (h2 : ¬ a ≤ b) : f_X9_within a 0 b m = some (-nI 6) := (if_pos (pos0 h)).trans (if_neg h2)
theorem M_out0 {j n : Nat} {m : mM} (h : j ≤ n) (hn : n < 2 ^ 30) : f_X9_within (nI j) 0 (nI n) m = some 0 := (if_pos (nI_pos' (by omega))).trans (if_pos (nI_le h (by omega)))
theorem ng0 {k : Nat} (h1 : 1 ≤ k) (h2 : k ≤ 6) : ¬ -nI k = 0 := by
  have : k = 1 ∨ k = 2 ∨ k = 3 ∨ k = 4 ∨ k = 5 ∨ k = 6 := by omega
  rcases this with rfl | rfl | rfl | rfl | rfl | rfl <;> decide
theorem M_becomes {k : Nat} {v x : Int32} {m : mM} (hk : k < 189) (e : m 189 k = v) : f_X9_becomes (nI k) x m = some (v, m_up m 189 k x) := by
  unfold f_X9_becomes
  refine (bnd_of (rdX rfl hk (by decide) e)).trans ?_
  exact (bnd_of (wrN hk (by decide))).trans rfl
theorem mu9 {m : mM} {k : Nat} {x : Int32} : ∀ a i, (a = 188 ∨ a = 190 ∨ a = 193 ∨ a = 199 ∨ (a = 187 ∧ (i = 5 ∨ i = 8 ∨ i = 10 ∨ i = 21))) → m_up m 189 k x a i = m a i := fun a i q => m_up_na (by omega)
theorem hu9 {m : mM} {k : Nat} {x : Int32} : hiF m (m_up m 189 k x) := fun a i q => m_up_na (by omega)
theorem op_price (a1 a2 : Int32) : Op (f_X8_price a1 a2) (f_X9_price a1 a2) := by
  intro s hS
  have h0 := hS.w.h0
  rcases io a1 (n := s.1 0) (by omega) with q | ⟨p, hp, rfl⟩
  · refine both_ref (k := 1) hS (by decide) (by decide) (fun m hX => ?_) (fun m hM => ?_)
    · unfold f_X8_price; exact (bnd_of (X_hol0 hX q)).trans (if_pos rfl)
    · unfold f_X9_price f_X9_price_J19; exact (bnd_of (M_hol0 hS hM q)).trans ((if_pos rfl).trans (if_neg (by decide)))
  have rf : ∀ k, 1 ≤ k → k ≤ 6 → (∀ m, f_X8_outside a2 9 m = some (-nI k)) → (∀ m, f_X9_within a2 0 9 m = some (-nI k)) → ∃ v s', SI s' ∧ XO s (f_X8_price (nI p) a2) v s' ∧ MO s (f_X9_price (nI p) a2) v s' := by
    intro k k1 k2 hx hm
    refine both_ref (k := k) hS k1 k2 (fun m hX => ?_) (fun m hM => ?_)
    · unfold f_X8_price
      refine (bnd_of (X_hol1 hS hX hp)).trans ?_
      refine (if_neg (by decide)).trans ?_
      exact (bnd_of (hx m)).trans (if_neg (ng0 k1 k2))
    · unfold f_X9_price f_X9_price_J19
      refine (bnd_of (M_hol1 hS hM hp)).trans ?_
      refine (if_neg (by decide)).trans ?_
      exact (bnd_of (hm m)).trans (if_neg (ng0 k1 k2))
  rcases rng a2 (n := 9) (by decide) with q | ⟨q, q2⟩ | ⟨v, hv, rfl⟩
  · exact rf 4 (by decide) (by decide) (fun _ => X_out4 q) (fun _ => M_out4 q)
  · exact rf 6 (by decide) (by decide) (fun _ => X_out6 q q2) (fun _ => M_out6 q q2)
  have hb := (hS.w.ho hp).2.1
  have e : ∀ i, fx i → tset s.1 (121 + 4 * p + 1) v i = s.1 i := fun i hi => tset_ne (by unfold fx at hi; omega)
  have hW' : WT (tset s.1 (121 + 4 * p + 1) v) := hS.w.set e (by rw [tset_ne (by omega)]; exact hS.w.st) (by rw [tset_ne (by omega)]; exact hS.w.be) (by rw [tset_ne (by omega)]; exact hS.w.bs) (fun k hk => by rw [tset_ne (by omega)]; exact hS.w.se hk) (fun j hj => by
      unfold tset; split
      · omega
      · have := hS.w.lt (i := 121 + 4 * j + 1) (by omega); omega) (fun j hj => by
      unfold tset; split
      · exact hv
      · exact (hS.w.ho hj).2.1)
  refine ⟨nI (s.1 (121 + 4 * p + 1)), (tset s.1 (121 + 4 * p + 1) v, s.2), hS.town hW', fun m hX => ⟨m_up m (3 + p) 1 (nI v), ?_, ?_, fun a i z => m_up_na (by omega)⟩, fun m hM => ⟨m_up m 189 (121 + 4 * p + 1) (nI v), ?_, ?_, hu9⟩⟩
  · unfold f_X8_price
    refine (bnd_of (X_hol1 hS hX hp)).trans ?_
    refine (if_neg (by decide)).trans ?_
    refine (bnd_of (X_out0 (n := 9) hv (by decide))).trans ?_
    refine (if_pos rfl).trans ?_
    refine (bnd_of (ckN (show p < 8 by omega) (by decide))).trans ?_
    refine (bnd_of (rdX (k := 1) rfl (by decide) (by decide) ((hX.x.h (by omega) (by decide)).trans (dcN (by omega))))).trans ?_
    refine (bnd_of (ckN (show p < 8 by omega) (by decide))).trans ?_
    exact (bnd_of (wrN (k := 1) (by decide) (by decide))).trans rfl
  · refine hX.town (hX.x.set hS.w e (fun a i z1 z2 z3 z4 => ?_) ?_ ?_ ?_ (fun k hk => ?_) (fun j hj => ?_)) (fun a i z => m_up_na (by omega))
    · unfold m_up; rw [if_neg (by omega)]
    · rw [m_up_na (by omega), tset_ne (by omega)]; exact hX.o2
    · rw [m_up_na (by omega), tset_ne (by omega)]; exact hX.o3
    · rw [m_up_na (by omega), tset_ne (by omega)]; exact hX.o4
    · rw [m_up_na (by omega), tset_ne (by omega)]; exact hX.x.u hk
    · by_cases z : j = p
      · subst z; rw [m_up_eq, tset_eq, dcN (by omega)]
      · rw [m_up_na (by omega), tset_ne (by omega)]; exact hX.x.h hj (by decide)
  · unfold f_X9_price f_X9_price_J19
    refine (bnd_of (M_hol1 hS hM hp)).trans ?_
    refine (if_neg (by decide)).trans ?_
    refine (bnd_of (M_out0 (n := 9) hv (by decide))).trans ?_
    refine (if_pos rfl).trans ?_
    rw [show ((121 : Int32) + 4 * nI p) + 1 = nI (121 + 4 * p + 1) by simp only [lit, pk_mul, nI_add]]
    exact (bnd_of (M_becomes (by omega) (hM.s.n (by omega) (by omega)))).trans rfl
  · refine hM.town ?_ mu9
    have := hM.s.set (k := 121 + 4 * p + 1) (v := v)
    rw [dcN (show v < 999 by omega)] at this
    exact this
theorem msk {k : Nat} (hk : k ≤ 8) : ((1 : Int32) <<< (nI k &&& 31)) - 1 = nI (2 ^ k - 1) := by
  have p : 2 ^ k ≤ 2 ^ 8 := Nat.pow_le_pow_right (by decide) hk
  have p0 := Nat.two_pow_pos k
  show (nI 1 <<< (nI k &&& nI 31)) - nI 1 = _
  rw [slN (by omega) (by omega), Nat.one_mul, pk_sub (by omega)]
theorem and_not {a q : Int32} : (a &&& (q ^^^ (-1 : Int32))) = 0 ↔ a &&& q = a := by
  have e1 : (-1 : Int32).toBitVec = BitVec.allOnes 32 := by decide
  constructor
  · intro h
    have h2 : a.toBitVec &&& (q.toBitVec ^^^ BitVec.allOnes 32) = 0#32 := by
      have h9 : a.toBitVec &&& (q.toBitVec ^^^ (-1 : Int32).toBitVec) = 0#32 := congrArg Int32.toBitVec h
      rw [e1] at h9
      exact h9
    rw [BitVec.xor_allOnes] at h2
    apply Int32.toBitVec_inj.mp
    show a.toBitVec &&& q.toBitVec = a.toBitVec
    apply BitVec.eq_of_getLsbD_eq
    intro i hi
    have h3 := congrArg (fun b => BitVec.getLsbD b i) h2
    simp only [BitVec.getLsbD_and, BitVec.getLsbD_not, hi, decide_true, Bool.true_and, BitVec.getLsbD_zero] at h3 ⊢
    revert h3
    cases a.toBitVec.getLsbD i <;> cases q.toBitVec.getLsbD i <;> simp
  · intro h
    have h2 : a.toBitVec &&& q.toBitVec = a.toBitVec := congrArg Int32.toBitVec h
    apply Int32.toBitVec_inj.mp
    show a.toBitVec &&& (q.toBitVec ^^^ (-1 : Int32).toBitVec) = 0#32
    rw [e1, BitVec.xor_allOnes]
    apply BitVec.eq_of_getLsbD_eq
    intro i hi
    have h3 := congrArg (fun b => BitVec.getLsbD b i) h2
    simp only [BitVec.getLsbD_and, BitVec.getLsbD_not, hi, decide_true, Bool.true_and, BitVec.getLsbD_zero] at h3 ⊢
    revert h3
    cases a.toBitVec.getLsbD i <;> cases q.toBitVec.getLsbD i <;> simp
theorem and_msk (a : Int32) {k : Nat} (hk : k ≤ 8) : ∃ j, j < 2 ^ k ∧ a &&& nI (2 ^ k - 1) = nI j := by
  have p : 2 ^ k ≤ 2 ^ 8 := Nat.pow_le_pow_right (by decide) hk
  exact pk_andE a k (by show (nI (2 ^ k - 1)).toBitVec.toNat = _; exact pk_tn (by omega))
theorem nI_msk {j k : Nat} (hj : j < 2 ^ k) (hk : k ≤ 8) : nI j &&& nI (2 ^ k - 1) = nI j := by
  have p : 2 ^ k ≤ 2 ^ 8 := Nat.pow_le_pow_right (by decide) hk
  rw [anN, Nat.and_two_pow_sub_one_eq_mod, Nat.mod_eq_of_lt hj]
theorem op_strike (a1 : Int32) : Op (f_X8_strike a1) (f_X9_strike a1) := by
  intro s hS
  have h0 := hS.w.h0
  have p8 : 2 ^ s.1 0 ≤ 2 ^ 8 := Nat.pow_le_pow_right (by decide) h0
  have esh : (1 : Int32) <<< (nI (s.1 0) &&& 31) = nI (2 ^ s.1 0) := by
    show nI 1 <<< (nI _ &&& nI 31) = _
    rw [slN (by omega) (by omega), Nat.one_mul]
  have gx : ∀ m, XI s m → f_X8_strike a1 m = if a1 &&& nI (2 ^ s.1 0 - 1) = a1 then some (nI (s.1 2), m_up m 1 2 a1) else bnd (f_X8_refuse (-nI 1) m) fun q => some (q.1, q.2) := by
    intro m hX
    unfold f_X8_strike f_X7_everyone
    refine (bnd_of rfl).trans ?_
    rw [hX.o0, msk h0, hX.o2]
    exact i_if and_not
  have gm : ∀ m, MI s m → f_X9_strike a1 m = bnd (f_X9_isIn a1 (nI (2 ^ s.1 0)) m) fun q3 => if q3 = 0 then bnd (f_X9_refuse (-nI 1) m) (fun q => some (q.1, q.2)) else bnd (f_X9_becomes (nI 2) a1 m) fun q7 => some (q7.1, q7.2) := by
    intro m hM
    unfold f_X9_strike
    refine (bnd_of (rdX (k := 0) rfl (by decide) (by decide) (hM.c0 hS))).trans ?_
    rw [esh]
    rfl
  rcases io a1 (n := 2 ^ s.1 0) (by omega) with q | ⟨j, hj, rfl⟩
  · refine both_ref (k := 1) hS (by decide) (by decide) (fun m hX => ?_) (fun m hM => ?_)
    · refine (gx m hX).trans (if_neg (fun z => ?_))
      obtain ⟨j, hj, ej⟩ := and_msk a1 h0
      rw [z] at ej
      rw [ej] at q
      rcases q with q | q
      · exact nI_pos (by omega) q
      · exact nI_ge hj (by omega) q
    · exact (gm m hM).trans ((bnd_of (M_in0 q)).trans (if_pos rfl))
  have e : ∀ i, fx i → tset s.1 2 j i = s.1 i := fun i hi => tset_ne (by unfold fx at hi; omega)
  have hW' : WT (tset s.1 2 j) := hS.w.set e (by rw [tset_eq]; exact hj) (by rw [tset_ne (by omega)]; exact hS.w.be) (by rw [tset_ne (by omega)]; exact hS.w.bs) (fun k hk => by rw [tset_ne (by omega)]; exact hS.w.se hk) (fun p hp => by rw [tset_ne (by omega)]; have := hS.w.lt (i := 121 + 4 * p + 1) (by omega); omega) (fun p hp => by rw [tset_ne (by omega)]; exact (hS.w.ho hp).2.1)
  have s2 := hS.w.s256
  refine ⟨nI (s.1 2), (tset s.1 2 j, s.2), hS.town hW', fun m hX => ⟨m_up m 1 2 (nI j), ?_, ?_, fun a i z => m_up_na (by omega)⟩, fun m hM => ⟨m_up m 189 2 (nI j), ?_, ?_, hu9⟩⟩
  · exact (gx m hX).trans (if_pos (nI_msk hj h0))
  · refine hX.town (hX.x.set hS.w e (fun a i z1 z2 z3 z4 => ?_) ?_ ?_ ?_ (fun k hk => ?_) (fun p hp => ?_)) (fun a i z => m_up_na (by omega))
    · unfold m_up; rw [if_neg (by omega)]
    · rw [m_up_eq, tset_eq]
    · rw [m_up_ni (by omega), tset_ne (by omega)]; exact hX.o3
    · rw [m_up_ni (by omega), tset_ne (by omega)]; exact hX.o4
    · rw [m_up_na (by omega), tset_ne (by omega)]; exact hX.x.u hk
    · rw [m_up_na (by omega), tset_ne (by omega)]; exact hX.x.h hp (by decide)
  · refine (gm m hM).trans ((bnd_of (M_in1 hj (by omega))).trans ?_)
    refine (if_neg (by decide)).trans ?_
    exact (bnd_of (M_becomes (by decide) (hM.s.n (by omega) (by omega)))).trans rfl
  · refine hM.town ?_ mu9
    have := hM.s.set (k := 2) (v := j)
    rw [dcN (show j < 999 by omega)] at this
    exact this
theorem op_season (a1 a2 : Int32) : Op (f_X8_season a1 a2) (f_X9_season a1 a2) := by
  intro s hS
  rcases io a1 (n := 4) (by decide) with q | ⟨k, hk, rfl⟩
  · refine both_ref (k := 1) hS (by decide) (by decide) (fun m hX => ?_) (fun m hM => ?_)
    · unfold f_X8_season
      by_cases e : a1 < 0
      · exact if_pos e
      · exact (if_neg e).trans (if_neg (out_nlt (n := 4) q e))
    · unfold f_X9_season f_X9_season_J20; exact (bnd_of (M_in0 (n := 4) q)).trans ((if_pos rfl).trans (if_neg (by decide)))
  have rf : ∀ c, 1 ≤ c → c ≤ 6 → (∀ m, f_X8_outside a2 300 m = some (-nI c)) → (∀ m, f_X9_within a2 0 300 m = some (-nI c)) → ∃ v s', SI s' ∧ XO s (f_X8_season (nI k) a2) v s' ∧ MO s (f_X9_season (nI k) a2) v s' := by
    intro c k1 k2 hx hm
    refine both_ref (k := c) hS k1 k2 (fun m hX => ?_) (fun m hM => ?_)
    · unfold f_X8_season
      refine (if_neg (nI_pos (by omega))).trans ?_
      refine (if_pos (nI_lt (b := 4) hk (by decide))).trans ?_
      exact (bnd_of (hx m)).trans (if_neg (ng0 k1 k2))
    · unfold f_X9_season f_X9_season_J20
      refine (bnd_of (M_in1 (n := 4) hk (by decide))).trans ?_
      refine (if_neg (by decide)).trans ?_
      exact (bnd_of (hm m)).trans (if_neg (ng0 k1 k2))
  rcases rng a2 (n := 300) (by decide) with q | ⟨q, q2⟩ | ⟨v, hv, rfl⟩
  · exact rf 4 (by decide) (by decide) (fun _ => X_out4 q) (fun _ => M_out4 q)
  · exact rf 6 (by decide) (by decide) (fun _ => X_out6 q q2) (fun _ => M_out6 q q2)
  have hb := hS.w.se hk
  have e : ∀ i, fx i → tset s.1 (5 + k) v i = s.1 i := fun i hi => tset_ne (by unfold fx at hi; omega)
  have hW' : WT (tset s.1 (5 + k) v) := hS.w.set e (by rw [tset_ne (by omega)]; exact hS.w.st) (by rw [tset_ne (by omega)]; exact hS.w.be) (by rw [tset_ne (by omega)]; exact hS.w.bs) (fun j hj => by
      unfold tset; split
      · exact hv
      · exact hS.w.se hj) (fun p hp => by rw [tset_ne (by omega)]; have := hS.w.lt (i := 121 + 4 * p + 1) (by omega); omega) (fun p hp => by rw [tset_ne (by have := hS.w.h0; omega)]; exact (hS.w.ho hp).2.1)
  refine ⟨nI (s.1 (5 + k)), (tset s.1 (5 + k) v, s.2), hS.town hW', fun m hX => ⟨m_up m 50 k (nI v), ?_, ?_, fun a i z => m_up_na (by omega)⟩, fun m hM => ⟨m_up m 189 (5 + k) (nI v), ?_, ?_, hu9⟩⟩
  · unfold f_X8_season
    refine (if_neg (nI_pos (by omega))).trans ?_
    refine (if_pos (nI_lt (b := 4) hk (by decide))).trans ?_
    refine (bnd_of (X_out0 (n := 300) hv (by decide))).trans ?_
    refine (if_pos rfl).trans ?_
    refine (bnd_of (rdX rfl hk (by decide) (hX.x.u hk))).trans ?_
    exact (bnd_of (wrN hk (by decide))).trans rfl
  · refine hX.town (hX.x.set hS.w e (fun a i z1 z2 z3 z4 => ?_) ?_ ?_ ?_ (fun j hj => ?_) (fun p hp => ?_)) (fun a i z => m_up_na (by omega))
    · unfold m_up; rw [if_neg (by omega)]
    · rw [m_up_na (by omega), tset_ne (by omega)]; exact hX.o2
    · rw [m_up_na (by omega), tset_ne (by omega)]; exact hX.o3
    · rw [m_up_na (by omega), tset_ne (by omega)]; exact hX.o4
    · by_cases z : j = k
      · subst z; rw [m_up_eq, tset_eq]
      · rw [m_up_ni z, tset_ne (by omega)]; exact hX.x.u hj
    · rw [m_up_na (by omega), tset_ne (by omega)]; exact hX.x.h hp (by decide)
  · unfold f_X9_season f_X9_season_J20
    refine (bnd_of (M_in1 (n := 4) hk (by decide))).trans ?_
    refine (if_neg (by decide)).trans ?_
    refine (bnd_of (M_out0 (n := 300) hv (by decide))).trans ?_
    refine (if_pos rfl).trans ?_
    rw [show (5 : Int32) + nI k = nI (5 + k) by simp only [lit, nI_add]]
    exact (bnd_of (M_becomes (by omega) (hM.s.n (by omega) (by omega)))).trans rfl
  · refine hM.town ?_ mu9
    have := hM.s.set (k := 5 + k) (v := v)
    rw [dcN (show v < 999 by omega)] at this
    exact this
theorem op_wedTo (a1 : Int32) : Op (f_X8_wedTo a1) (f_X9_wedTo a1) := by
  intro s hS
  have h0 := hS.w.h0
  rcases io a1 (n := s.1 0) (by omega) with q | ⟨p, hp, rfl⟩
  · refine both_ref (k := 1) hS (by decide) (by decide) (fun m hX => ?_) (fun m hM => ?_)
    · unfold f_X8_wedTo; exact (bnd_of (X_hol0 hX q)).trans (if_pos rfl)
    · unfold f_X9_wedTo; exact (bnd_of (M_hol0 hS hM q)).trans (if_pos rfl)
  · refine ⟨dc (s.1 (121 + 4 * p + 3)), s, hS, XO.same (fun m hX => ⟨m, ?_, xN.rf m⟩), MO.same (fun m hM => ⟨m, ?_, mN.rf m⟩)⟩
    · unfold f_X8_wedTo
      refine (bnd_of (X_hol1 hS hX hp)).trans ?_
      refine (if_neg (by decide)).trans ?_
      exact (bnd_of (rdX rfl (by omega) (by decide) (hX.x.s (by omega)))).trans rfl
    · unfold f_X9_wedTo
      refine (bnd_of (M_hol1 hS hM hp)).trans ?_
      refine (if_neg (by decide)).trans ?_
      exact (bnd_of (M_get (k := 3) hM.s (by omega) (by decide))).trans rfl
