/-! bars, stop -/
theorem bc_neg {b : Option (Nat × Nat)} (h : bOK b) : bcost b < 0 ↔ b.isSome = false := by
  cases b with
  | none => exact ⟨fun _ => rfl, fun _ => by decide⟩
  | some x =>
    have := (h x rfl).1
    exact ⟨fun z => absurd z (nI_pos (by omega)), fun z => by cases z⟩
theorem bc_pos {b : Option (Nat × Nat)} (h : bOK b) : (0 : Int32) ≤ bcost b ↔ b.isSome = true := by
  cases b with
  | none => exact ⟨fun z => absurd z (by decide), fun z => by cases z⟩
  | some x =>
    have := (h x rfl).1
    exact ⟨fun _ => rfl, fun _ => nI_pos' (by omega)⟩
theorem M_costLt {t : Nat → Nat} {m : mM} (hW : WT t) {lt w : Nat} (hM : MS t m) (hl : m 187 10 = dc lt) (hlt : lt < 1000) (hw : w < t 1) : ∃ m', f_X9_costOf (nI w) m = some (bcost (one t lt w), m') ∧ mF m m' := by
  obtain ⟨m', i1, i2, i3, i4⟩ := M_finds hW hM hl hlt hw
  refine ⟨m', ?_, i4⟩
  unfold f_X9_costOf
  refine (bnd_of i1).trans ?_
  rw [i2.1]
def brF (t : Nat → Nat) (w x : Nat) : Nat := if can t x w = true then 2 ^ x else 0
theorem bit_is {x j : Nat} : (2 ^ x).testBit j = true ↔ j = x := by
  rw [Nat.testBit_two_pow, decide_eq_true_eq]
  exact eq_comm
theorem X_brL {s : aSt} {m : mM} (hS : SI s) (hX : XI s m) {w : Nat} (hw : w < s.1 1) (hk : lkd s.1 w m) : ∀ (k n x b : Nat), x + k = s.1 0 → k < n → f_X5_barring_L28 (nI w) m n (nI b) (nI x) = some (nI (orA (brF s.1 w) k x b)) := by
  have h0 := hS.w.h0
  intro k
  induction k with
  | zero =>
    intro n x b hx hn
    obtain ⟨n, rfl⟩ : ∃ z, n = z + 1 := ⟨n - 1, by omega⟩
    rw [f_X5_barring_L28]
    exact if_pos (by rw [hX.o0]; exact nI_le (by omega) (by omega))
  | succ k ih =>
    intro n x b hx hn
    obtain ⟨n, rfl⟩ : ∃ z, n = z + 1 := ⟨n - 1, by omega⟩
    have p8 : 2 ^ x < 2 ^ 8 := Nat.pow_lt_pow_right (by decide) (by omega)
    have hc := X_canBe hS.w.b hw hX.x hk (S := s.1 2) (L := 2 ^ x) (lt := x) hS.w.st p8 (fun j _ => bit_is)
    rw [tset_id] at hc
    rw [f_X5_barring_L28]
    refine (if_neg (by rw [hX.o0]; exact nI_ge (by omega) (by omega))).trans ?_
    rw [hX.o2, bit_i (by omega)]
    refine (bnd_of hc).trans ?_
    simp only [orA]
    by_cases e : can s.1 x w = true
    · rw [e]
      refine (if_neg (by decide)).trans ?_
      rw [orN, nI_1, ih n (x + 1) _ (by omega) (by omega), show brF s.1 w x = 2 ^ x from if_pos e]
    · rw [show can s.1 x w = false by simpa using e]
      refine (if_pos (by decide)).trans ?_
      rw [nI_1, ih n (x + 1) _ (by omega) (by omega), show brF s.1 w x = 0 from if_neg e, Nat.or_zero]
def lF (m m' : mM) : Prop := ∀ a i, a ≠ 195 → a ≠ 196 → ¬ (a = 187 ∧ (i = 10 ∨ i = 11 ∨ i = 12)) → m' a i = m a i
theorem M_brL {s : aSt} (hS : SI s) {w : Nat} (hw : w < s.1 1) : ∀ (k n x b : Nat) (m : mM), x + k = s.1 0 → k < n → MS s.1 m → ∃ m', f_X9_bars_L33 (nI w) n (nI b) (nI x) m = some (nI (orA (brF s.1 w) k x b), m') ∧ lF m m' := by
  have h0 := hS.w.h0
  intro k
  induction k with
  | zero =>
    intro n x b m hx hn hM
    obtain ⟨n, rfl⟩ : ∃ z, n = z + 1 := ⟨n - 1, by omega⟩
    refine ⟨m, ?_, fun _ _ _ _ _ => rfl⟩
    rw [f_X9_bars_L33]
    refine (bnd_of (rdX (k := 0) rfl (by decide) (by decide) (hM.n (by decide) (by omega)))).trans ?_
    exact if_pos (nI_le (by omega) (by omega))
  | succ k ih =>
    intro n x b m hx hn hM
    obtain ⟨n, rfl⟩ : ∃ z, n = z + 1 := ⟨n - 1, by omega⟩
    have hM1 : MS s.1 (m_up m 187 10 (nI x)) := fun i hi => (m_up_na (by decide)).trans (hM i hi)
    obtain ⟨m1, j1, j2⟩ := M_costLt hS.w (lt := x) hM1 ((m_up_eq _ _ _ _).trans (dcN (by omega)).symm) (by omega) hw
    have ok := one_bok (lt := x) hS.w.b hw
    obtain ⟨m', i1, i2⟩ := ih n (x + 1) (b ||| brF s.1 w x) m1 (by omega) (by omega) (j2.ms hM1)
    refine ⟨m', ?_, fun a i q1 q2 q3 => ?_⟩
    · rw [f_X9_bars_L33]
      refine (bnd_of (rdX (k := 0) rfl (by decide) (by decide) (hM.n (by decide) (by omega)))).trans ?_
      refine (if_neg (nI_ge (by omega) (by omega))).trans ?_
      refine (bnd_of rfl).trans ?_
      refine (bnd_of j1).trans ?_
      simp only [orA]
      rw [← i1]
      by_cases e : can s.1 x w = true
      · refine (if_neg (fun z => ?_)).trans ?_
        · have := (bc_neg ok).mp z
          unfold can at e
          rw [this] at e; cases e
        · rw [bit_i (by omega), orN, nI_1, show brF s.1 w x = 2 ^ x from if_pos e]
      · refine (if_pos ((bc_neg ok).mpr (by simpa [can] using e))).trans ?_
        rw [nI_1, show brF s.1 w x = 0 from if_neg e]
        exact congrArg (fun z => f_X9_bars_L33 (nI w) n z (nI (x + 1)) m1) (orN b 0)
    · rw [i2 a i q1 q2 q3, j2 a i q1 q2 (by omega)]
      unfold m_up
      rw [if_neg (by omega)]
theorem z_bit : ∀ j, j < 8 → ((0 : Nat).testBit j = true ↔ j = 999) := fun j hj => by
  rw [Nat.zero_testBit]
  exact ⟨fun z => (by cases z), fun z => by omega⟩
theorem XI.lk {s : aSt} {m m' : mM} (hX : XI s m) {w : Nat} (hw : w < 6) (h : lkF w m m') : XI s m' := hX.cg (fun a i q => h a i (by omega) (by omega))
theorem op_bars (a1 : Int32) : Op (f_X8_bars a1) (f_X9_bars a1) := by
  intro s hS
  have w0 := hS.w.w0
  have h0 := hS.w.h0
  rcases io a1 (n := s.1 1) (by omega) with q | ⟨w, hw, rfl⟩
  · refine both_ref (k := 1) hS (by decide) (by decide) (fun m hX => ?_) (fun m hM => ?_)
    · unfold f_X8_bars; exact (bnd_of (X_wrk0 hX q)).trans (if_pos rfl)
    · unfold f_X9_bars; exact (bnd_of (M_wrk0 hS hM q)).trans (if_pos rfl)
  have ok := one_bok (lt := 999) hS.w.b hw
  have px : ∀ m, XI s m → ∃ m1, f_X5_look (nI w) m = some m1 ∧ XI s m1 ∧ lkd s.1 w m1 ∧ loF m m1 ∧ f_X5_canBe (nI w) (m1 1 2) 0 m1 = some (nI (b2n (can s.1 999 w))) := fun m hX => by
    obtain ⟨m1, i1, i2, i3⟩ := X_look hS.w.b hw hX.x
    have hX1 := hX.lk (show w < 6 by omega) i3
    refine ⟨m1, i1, hX1, i2, fun a i q => i3 a i (by omega) (by omega), ?_⟩
    have hc := X_canBe hS.w.b hw hX1.x i2 (S := s.1 2) (L := 0) (lt := 999) hS.w.st (by decide) z_bit
    rw [tset_id] at hc
    rw [hX1.o2]
    exact hc
  by_cases e : can s.1 999 w = true
  · refine ⟨-nI 3, bump s 3, hS.bump 3, fun m hX => ?_, fun m hM => ?_⟩
    · obtain ⟨m1, i1, i2, i3, i4, i5⟩ := px m hX
      obtain ⟨m2, j1, j2, j3⟩ := X_ref (s := s) (k := 3) (by decide) (by decide) m1 i2
      refine ⟨m2, ?_, j2, i4.tr j3⟩
      rw [← j1]
      unfold f_X8_bars f_X5_barring
      refine (bnd_of (X_wrk1 hS hX hw)).trans ?_
      refine (if_neg (by decide)).trans ?_
      rw [bnd_of i1, bnd_of i5, e]
      rfl
    · obtain ⟨m1, i1, i2, i3⟩ := M_costOf hS hM hw
      obtain ⟨m2, j1, j2, j3⟩ := M_ref (s := s) (k := 3) (by decide) (by decide) m1 (hM.n i3.n)
      refine ⟨m2, ?_, j2, i3.n.hi.tr j3⟩
      rw [← j1]
      unfold f_X9_bars
      refine (bnd_of (M_wrk1 hS hM hw)).trans ?_
      refine (if_neg (by decide)).trans ?_
      refine (bnd_of i1).trans ?_
      refine (if_neg (fun z => ?_)).trans rfl
      have := (bc_neg ok).mp z
      unfold can at e
      rw [this] at e; cases e
  · have e' : can s.1 999 w = false := by simpa using e
    have hob : orA (brF s.1 w) (s.1 0) 0 0 < 2 ^ 8 := orA_lt _ _ _ (by decide) (fun x _ hx => by
      unfold brF
      split
      · exact Nat.pow_lt_pow_right (by decide) (by omega)
      · decide)
    refine ⟨nI (orA (brF s.1 w) (s.1 0) 0 0), s, hS, fun m hX => ?_, fun m hM => ?_⟩
    · obtain ⟨m1, i1, i2, i3, i4, i5⟩ := px m hX
      refine ⟨m1, ?_, i2, i4⟩
      have lp := X_brL hS i2 hw i3 (s.1 0) fU 0 0 (by omega) (by show _ < 300; omega)
      unfold f_X8_bars
      refine (bnd_of (X_wrk1 hS hX hw)).trans ?_
      refine (if_neg (by decide)).trans ?_
      have eb : f_X5_barring (nI w) m = some (nI (orA (brF s.1 w) (s.1 0) 0 0), m1) := by
        unfold f_X5_barring
        refine (bnd_of i1).trans ?_
        refine (bnd_of i5).trans ?_
        rw [e']
        refine (if_pos rfl).trans ?_
        exact (bnd_of lp).trans rfl
      refine (bnd_of eb).trans ?_
      exact (if_neg (n9 (by omega))).trans rfl
    · obtain ⟨m1, i1, i2, i3⟩ := M_costOf hS hM hw
      have hM1 := hM.n i3.n
      obtain ⟨m2, j1, j2⟩ := M_brL hS hw (s.1 0) fU 0 0 m1 (by omega) (by show _ < 300; omega) hM1.s
      refine ⟨m_up m2 187 10 (-9), ?_, ?_, fun a i q => by rw [m_up_na (by omega), j2 a i (by omega) (by omega) (by omega)]; exact i3.n.hi a i q⟩
      · unfold f_X9_bars
        refine (bnd_of (M_wrk1 hS hM hw)).trans ?_
        refine (if_neg (by decide)).trans ?_
        refine (bnd_of i1).trans ?_
        refine (if_pos ((bc_neg ok).mpr (by simpa [can] using e))).trans ?_
        refine (bnd_of j1).trans ?_
        exact (bnd_of rfl).trans rfl
      · refine hM1.cg (fun a i q => ?_)
        by_cases z : a = 187 ∧ i = 10
        · obtain ⟨rfl, rfl⟩ := z
          rw [m_up_eq, hM1.l]; rfl
        · have : m_up m2 187 10 (-9) a i = m2 a i := if_neg z
          rw [this]
          exact j2 a i (by omega) (by omega) (by omega)
