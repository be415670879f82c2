/-! town -/
/-- the tape empty, the town another -/
def tz (s : aSt) (t' : Nat → Nat) : aSt := (t', 0, s.2.2)
theorem SI.tz {s : aSt} (hS : SI s) {t' : Nat → Nat} (hW : WT t') : SI (tz s t') := ⟨hW, Nat.zero_le _, fun i hi => absurd hi (Nat.not_lt_zero _), hS.2.2.2⟩
theorem XI.tz {s : aSt} {m m' : mM} {t' : Nat → Nat} (h : XI s m) (hX : XS t' m') (h0 : m' 151 0 = nI 0) (e : ∀ a i, (a = 0 ∨ (101 ≤ a ∧ a ≤ 150) ∨ (184 ≤ a ∧ a ≤ 186)) → m' a i = m a i) : XI (tz s t') m' := by
  obtain ⟨h1, h2, h3, h4, h5⟩ := h
  refine ⟨hX, ⟨h0, fun i hi => absurd hi (Nat.not_lt_zero _)⟩, ⟨?_, fun i hi => ?_⟩, fun k q1 q2 => ?_, iX_cg h5 (fun a i q => e a i (by omega))⟩
  · rw [e _ _ (by omega)]; exact h3.1
  · rw [e _ _ (by omega)]; exact h3.2 i hi
  · rw [e _ _ (by omega)]; exact h4 k q1 q2
theorem MI.tz {s : aSt} {m m' : mM} {t' : Nat → Nat} (h : MI s m) (hM : MS t' m') (h0 : m' 187 8 = nI 0) (e : ∀ a i, (a = 188 ∨ a = 190 ∨ a = 199 ∨ (a = 187 ∧ (i = 5 ∨ i = 10 ∨ i = 21))) → m' a i = m a i) : MI (tz s t') m' := by
  obtain ⟨h1, h2, h3, h4, h5, h6⟩ := h
  refine ⟨hM, ?_, ⟨h0, fun i hi => absurd hi (Nat.not_lt_zero _)⟩, ⟨?_, fun i hi => ?_⟩, fun k q1 q2 => ?_, iM_cg h6 (fun a i q => e a i (by omega))⟩
  · rw [e _ _ (by omega)]; exact h2
  · rw [e _ _ (by omega)]; exact h4.1
  · rw [e _ _ (by omega)]; exact h4.2 i hi
  · rw [e _ _ (by omega)]; exact h5 k q1 q2
theorem n1k {p : Nat} (hp : p < 100) : ¬ ((-1000 : Int32) - nI p = 0) := by
  intro z
  rw [← jI_n, show (-1000 : Int32) = jI (-1000) from rfl, jI_sub] at z
  have := congrArg Int32.toInt z
  rw [jI_t (by omega) (by omega)] at this
  have e0 : (0 : Int32).toInt = 0 := by decide
  omega
theorem n2k {p : Nat} (hp : p < 100) : (-2000 : Int32) - nI p ≤ 0 := by
  rw [← jI_n, show (-2000 : Int32) = jI (-2000) from rfl, jI_sub, show (0 : Int32) = jI 0 from rfl, jI_le (by omega) (by omega) (by omega) (by omega)]
  omega
theorem ps1_l {N : Nat} {f : Nat → Nat} (hN : TS N f) : ∀ (k i c p : Nat), i < 70 → ps1 N f k i c = .inl p → p < 100 := by
  have h64 := hN.1
  intro k
  induction k with
  | zero => intro i c p _ e; cases e
  | succ k ih =>
    intro i c p hi e
    simp only [ps1] at e
    generalize hs : stm N f i = S at e
    cases S with
    | inl q =>
      have := stm_l hs
      cases e; omega
    | inr x =>
      obtain ⟨i1, g⟩ := x
      have e : (if i1 < N then ps1 N f k i1 (c + 1) else .inr (c + 1)) = (.inl p : Nat ⊕ Nat) := e
      by_cases z : i1 < N
      · rw [if_pos z] at e; exact ih i1 (c + 1) p (by omega) e
      · rw [if_neg z] at e; cases e
def p2k (r : Nat ⊕ (Nat × (Nat → Nat))) : Prop := match r with
  | .inl p => p < 100
  | .inr x => WT x.2
theorem ps2_ok {N : Nat} {f : Nat → Nat} (hN : TS N f) : ∀ (k i c : Nat) (T : Nat → Nat), WT T → p2k (ps2 N f k i c T) := by
  have h64 := hN.1
  intro k
  induction k with
  | zero => intro i c T hW; exact hW
  | succ k ih =>
    intro i c T hW
    simp only [ps2]
    by_cases z : N ≤ i
    · rw [if_pos z]; exact hW
    · rw [if_neg z]
      generalize hs : stm N f i = S
      cases S with
      | inl p => show i < 100; omega
      | inr x =>
        obtain ⟨i1, g⟩ := x
        obtain ⟨v, q1, q2, q3, q4, q5, q6, q7, q8⟩ := stm_ok hs
        have hv : f i = v := by
          unfold sg at q1
          rw [if_pos (show i < N by omega)] at q1
          cases q1; rfl
        show p2k (p2o i (tl (f i) g T) (fun T' => ps2 N f k i1 (c + 1) T'))
        rw [hv]
        cases e2 : tl v g T with
        | none => show i < 100; omega
        | some T' => exact ih i1 (c + 1) T' (tl_ok hW q2 q6 q7 q8 e2)
theorem op_town : Op f_X8_town f_X9_town := by
  intro s hS
  have hN : TS s.2.1 s.2.2.1 := ⟨hS.2.1, hS.2.2.1⟩
  have h64 := hS.2.1
  obtain ⟨K, hK⟩ : ∃ K, K = 64 := ⟨64, rfl⟩
  have hKU : K < fU := by rw [hK]; decide
  have xff : ∀ m, XI s m → ∃ m', f_X6_formFault_L4 fU (nI 0) (nI 0) m = some (x1 (ps1 s.2.1 s.2.2.1 K 0 0) m') ∧ ∀ a x, a ≠ 153 → m' a x = m a x := fun m hX => X_ff hN K fU 0 0 m (by omega) hKU (Or.inr ⟨rfl, by omega⟩) (Nat.le_refl _) (by decide) hX.2.1
  have mr7 : ∀ m, MI s m → ∃ m', f_X9_reads_L7 fU (nI 0) (m_up m 187 9 0) = some (y1 (ps1 s.2.1 s.2.2.1 K 0 0) m') ∧ tF (m_up m 187 9 0) m' := fun m hM => M_r7 hN K fU 0 0 (m_up m 187 9 0) (by omega) hKU (Or.inr (by omega)) (by decide) ⟨⟨(m_up_ni (by decide)).trans hM.2.2.1.1, fun x hx => (m_up_na (by decide)).trans (hM.2.2.1.2 x hx)⟩, m_up_eq _ _ _ _⟩
  have hpl := ps1_l hN K 0 0
  generalize h1 : ps1 s.2.1 s.2.2.1 K 0 0 = R at xff mr7
  rw [h1] at hpl
  cases R with
  | inl p =>
    have hp := hpl p (by decide) rfl
    refine ⟨(-1000 : Int32) - nI p, tz s s.1, hS.tz hS.w, fun m hX => ?_, fun m hM => ?_⟩
    · obtain ⟨m1, i1, i2⟩ := xff m hX
      refine ⟨m_up m1 151 0 0, ?_, hX.tz (hX.x.cg (fun a i q => by rw [m_up_na (by omega)]; exact i2 a i (by omega))) (m_up_eq _ _ _ _) (fun a i q => by rw [m_up_na (by omega)]; exact i2 a i (by omega)), fun a i q => by rw [m_up_na (by omega)]; exact i2 a i (by omega)⟩
      have ef : f_X6_formFault m = some ((-1000 : Int32) - nI p, m1) := by
        unfold f_X6_formFault
        exact (bnd_of i1).trans rfl
      unfold f_X8_town
      refine (bnd_of ef).trans ?_
      refine (if_neg (n1k hp)).trans ?_
      exact (bnd_of rfl).trans rfl
    · obtain ⟨m1, i1, i2⟩ := mr7 m hM
      have g : ∀ a i, a ≠ 194 → ¬ (a = 187 ∧ i = 9) → m1 a i = m a i := fun a i q1 q2 => (i2 a i q1 q2).trans (if_neg q2)
      have gu : ∀ a i, a ≠ 194 → ¬ (a = 187 ∧ (i = 9 ∨ i = 8)) → m_up m1 187 8 0 a i = m a i := fun a i q1 q2 => by
        have : m_up m1 187 8 0 a i = m1 a i := if_neg (by omega)
        rw [this]; exact g a i q1 (by omega)
      refine ⟨m_up m1 187 8 0, ?_, hM.tz (fun i hi => (gu 189 i (by decide) (by omega)).trans (hM.s i hi)) (m_up_eq _ _ _ _) (fun a i q => gu a i (by omega) (by omega)), fun a i q => gu a i (by omega) (by omega)⟩
      have ef : f_X9_reads m = some ((-1000 : Int32) - nI p, m1) := by
        unfold f_X9_reads
        refine (bnd_of rfl).trans ?_
        exact (bnd_of i1).trans rfl
      unfold f_X9_town
      refine (bnd_of ef).trans ?_
      exact (bnd_of rfl).trans rfl
  | inr C =>
    have hi0 : 0 < s.2.1 := by
      have h1' := h1
      obtain ⟨K', rfl⟩ : ∃ K', K = K' + 1 := ⟨63, by omega⟩
      simp only [ps1] at h1'
      generalize hs : stm s.2.1 s.2.2.1 0 = S at h1'
      cases S with
      | inl q => cases h1'
      | inr x =>
        obtain ⟨i1, g⟩ := x
        obtain ⟨v, q1, -⟩ := stm_ok hs
        unfold sg at q1
        refine Classical.byContradiction (fun n => ?_)
        rw [if_neg n] at q1
        cases q1
    have xtt : ∀ m, TX s.2.1 s.2.2.1 m → XD s.1 m → ∃ m', f_X6_tellTo_L4 fU (nI 0) (nI 0) m = some (x2 (ps2 s.2.1 s.2.2.1 K 0 0 s.1) m') ∧ x2p (ps2 s.2.1 s.2.2.1 K 0 0 s.1) m' ∧ uF m m' := fun m hT hX => X_tt hN K fU 0 0 s.1 m (by omega) hKU (Nat.le_refl _) (by decide) hT hX hS.w
    have m53 : ∀ (z0 : Int32) (m : mM), MT s.2.1 s.2.2.1 0 m → MRr s.1 m → ∃ m', f_X9_reads_L53 z0 fU m = some (y2 (ps2 s.2.1 s.2.2.1 K 0 0 s.1) m') ∧ y2p (ps2 s.2.1 s.2.2.1 K 0 0 s.1) m' ∧ vvF m m' := fun z0 m hT hM => M_r53 hN K fU 0 0 s.1 m (by omega) hKU (by decide) (fun _ => h1) hT hM hS.w
    have hcx := fun x h2 => ps12 (N := s.2.1) (f := s.2.2.1) (C := C) K 0 0 s.1 x hi0 h1 (by omega) h2
    have xpre : ∀ m, XI s m → ∃ m1 m2, f_X6_formFault m = some (0, m1) ∧ f_X7_copyFrom_51_1 m1 = some m2 ∧ TX s.2.1 s.2.2.1 m2 ∧ XD s.1 m2 ∧ uF m m2 := fun m hX => by
      obtain ⟨m1, i1, i2⟩ := xff m hX
      obtain ⟨m2, j1, j2, j3⟩ := cp_51_1 m1
      have hX1 : XS s.1 m1 := hX.x.cg (fun a i q => i2 a i (by omega))
      refine ⟨m1, m2, ?_, j1, ⟨?_, fun x hx => ?_⟩, XT.mv (a := 1) (b := 51) hX1 (fun h hh => hS.w.pa hh) j2, fun a i q => by rw [j3 a i (by omega), i2 a i (by omega)]⟩
      · unfold f_X6_formFault
        exact (bnd_of i1).trans rfl
      · rw [j3 _ _ (by omega), i2 _ _ (by omega)]; exact hX.2.1.1
      · rw [j3 _ _ (by omega), i2 _ _ (by omega)]; exact hX.2.1.2 x hx
    have mpre : ∀ m, MI s m → ∃ m1 m2, f_X9_reads m = (bnd (f_X9_reads_L53 (nI C) fU m2) fun o22 => ora o22 (fun zq => some zq) fun x23 => bnd (f_X9_copies_191_189 x23) fun q25 => some (nI C, q25)) ∧ MT s.2.1 s.2.2.1 0 m2 ∧ MRr s.1 m2 ∧ vvF m m2 ∧ m1 = m := fun m hM => by
      obtain ⟨m1, i1, i2⟩ := mr7 m hM
      have g : ∀ a i, a ≠ 194 → ¬ (a = 187 ∧ i = 9) → m1 a i = m a i := fun a i q1 q2 => (i2 a i q1 q2).trans (if_neg q2)
      obtain ⟨m2, j1, j2, j3⟩ := cm_189_191 m1
      have g2 : ∀ a i, a ≠ 191 → a ≠ 194 → ¬ (a = 187 ∧ i = 9) → m_up m2 187 9 0 a i = m a i := fun a i q0 q1 q2 => by
        have : m_up m2 187 9 0 a i = m2 a i := if_neg q2
        rw [this, j3 a i q0]; exact g a i q1 q2
      refine ⟨m, m_up m2 187 9 0, ?_, ⟨⟨?_, fun x hx => ?_⟩, m_up_eq _ _ _ _⟩, fun i hi => ?_, fun a i q1 q2 q3 => g2 a i q1 q2 q3, rfl⟩
      · unfold f_X9_reads
        refine (bnd_of rfl).trans ?_
        refine (bnd_of i1).trans ?_
        rw [show y1 (Sum.inr C) m1 = Sum.inr (nI C, m1) from rfl, ora_ir]
        refine (bnd_of j1).trans ?_
        rw [bnd_s]
      · rw [g2 _ _ (by omega) (by omega) (by omega)]; exact hM.2.2.1.1
      · rw [g2 _ _ (by omega) (by omega) (by omega)]; exact hM.2.2.1.2 x hx
      · rw [m_up_na (by decide), j2 i hi, g _ _ (by omega) (by omega)]; exact hM.s i hi
    have hok2 := ps2_ok hN K 0 0 s.1 hS.w
    generalize h2 : ps2 s.2.1 s.2.2.1 K 0 0 s.1 = R2 at xtt m53 hcx hok2
    cases R2 with
    | inl p =>
      have pb : p < 100 := hok2
      refine ⟨(-2000 : Int32) - nI p, tz s s.1, hS.tz hS.w, fun m hX => ?_, fun m hM => ?_⟩
      · obtain ⟨m1, m2, a1, a2, a3, a4, a5⟩ := xpre m hX
        obtain ⟨m3, b1, b2, b3⟩ := xtt m2 a3 a4
        have g := a5.tr b3
        refine ⟨m_up m3 151 0 0, ?_, hX.tz (hX.x.cg (fun a i q => by rw [m_up_na (by omega)]; exact g a i (by omega))) (m_up_eq _ _ _ _) (fun a i q => by rw [m_up_na (by omega)]; exact g a i (by omega)), fun a i q => by rw [m_up_na (by omega)]; exact g a i (by omega)⟩
        have et : f_X6_tellTo m2 = some ((-2000 : Int32) - nI p, m3) := by
          unfold f_X6_tellTo
          exact (bnd_of b1).trans rfl
        unfold f_X8_town
        refine (bnd_of a1).trans ?_
        refine (if_pos rfl).trans ?_
        refine (bnd_of a2).trans ?_
        refine (bnd_of et).trans ?_
        refine (if_pos (n2k pb)).trans ?_
        exact (bnd_of rfl).trans rfl
      · obtain ⟨-, m2, a1, a2, a3, a4, -⟩ := mpre m hM
        obtain ⟨m3, b1, b2, b3⟩ := m53 (nI C) m2 a2 a3
        have g := a4.tr b3
        have gu : ∀ a i, a ≠ 191 → a ≠ 194 → ¬ (a = 187 ∧ (i = 9 ∨ i = 8)) → m_up m3 187 8 0 a i = m a i := fun a i q0 q1 q2 => by
          have : m_up m3 187 8 0 a i = m3 a i := if_neg (by omega)
          rw [this]; exact g a i q0 q1 (by omega)
        refine ⟨m_up m3 187 8 0, ?_, hM.tz (fun i hi => (gu 189 i (by decide) (by decide) (by omega)).trans (hM.s i hi)) (m_up_eq _ _ _ _) (fun a i q => gu a i (by omega) (by omega) (by omega)), fun a i q => gu a i (by omega) (by omega) (by omega)⟩
        have ef : f_X9_reads m = some ((-2000 : Int32) - nI p, m3) := by
          rw [a1]
          exact (bnd_of b1).trans rfl
        unfold f_X9_town
        refine (bnd_of ef).trans ?_
        exact (bnd_of rfl).trans rfl
    | inr x =>
      obtain ⟨c1, c2, c3⟩ := hcx x rfl
      have hw : WT x.2 := hok2
      · refine ⟨nI C, tz s x.2, hS.tz hw, fun m hX => ?_, fun m hM => ?_⟩
        · obtain ⟨m1, m2, a1, a2, a3, a4, a5⟩ := xpre m hX
          obtain ⟨m3, b1, b2, b3⟩ := xtt m2 a3 a4
          have g := a5.tr b3
          obtain ⟨m4, d1, d2, d3⟩ := cp_1_51 m3
          have xt : XS x.2 m4 := XT.mv (a := 51) (b := 1) b2.1 (fun h hh => hw.pa hh) d2
          have g4 : ∀ a i, (a = 0 ∨ (101 ≤ a ∧ a ≤ 150) ∨ 184 ≤ a) → m_up m4 151 0 0 a i = m a i := fun a i q => by rw [m_up_na (by omega), d3 a i (by omega)]; exact g a i (by omega)
          refine ⟨m_up m4 151 0 0, ?_, hX.tz (xt.cg (fun a i q => m_up_na (by omega))) (m_up_eq _ _ _ _) (fun a i q => g4 a i (by omega)), fun a i q => g4 a i (by omega)⟩
          have et : f_X6_tellTo m2 = some (nI C, m3) := by
            unfold f_X6_tellTo
            refine (bnd_of b1).trans ?_
            show some (nI x.1, m3) = _
            rw [c1]
          unfold f_X8_town
          refine (bnd_of a1).trans ?_
          refine (if_pos rfl).trans ?_
          refine (bnd_of a2).trans ?_
          refine (bnd_of et).trans ?_
          refine (if_neg (nI_ge (a := 0) (by omega) (by omega))).trans ?_
          refine (bnd_of d1).trans ?_
          exact (bnd_of rfl).trans rfl
        · obtain ⟨-, m2, a1, a2, a3, a4, -⟩ := mpre m hM
          obtain ⟨m3, b1, b2, b3⟩ := m53 (nI C) m2 a2 a3
          have g := a4.tr b3
          obtain ⟨m4, d1, d2, d3⟩ := cm_191_189 m3
          have gu : ∀ a i, a ≠ 189 → a ≠ 191 → a ≠ 194 → ¬ (a = 187 ∧ (i = 9 ∨ i = 8)) → m_up m4 187 8 0 a i = m a i := fun a i q q0 q1 q2 => by
            have : m_up m4 187 8 0 a i = m4 a i := if_neg (by omega)
            rw [this, d3 a i q]; exact g a i q0 q1 (by omega)
          refine ⟨m_up m4 187 8 0, ?_, hM.tz (fun i hi => ?_) (m_up_eq _ _ _ _) (fun a i q => gu a i (by omega) (by omega) (by omega) (by omega)), fun a i q => gu a i (by omega) (by omega) (by omega) (by omega)⟩
          · have ef : f_X9_reads m = some (nI C, m4) := by
              rw [a1]
              refine (bnd_of b1).trans ?_
              rw [show y2 (Sum.inr x) m3 = Sum.inr m3 from rfl, ora_ir]
              exact (bnd_of d1).trans rfl
            unfold f_X9_town
            refine (bnd_of ef).trans ?_
            exact (bnd_of rfl).trans rfl
          · rw [m_up_na (by decide), d2 i hi]; exact b2 i hi
