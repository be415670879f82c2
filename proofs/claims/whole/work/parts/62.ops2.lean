/-! leave; price, strike, bell: one field of the town is set -/
theorem X_holds {s : aSt} {m : mM} (hX : XI s m) {p h : Nat} (hp : p < 8) (hh : h < 28) : f_X7_holds_1 (nI p) (nI h) m = some (nI (b2n (hasP s.1 h p))) := by
  unfold f_X7_holds_1
  have hl := hMk_lt s.1 p
  refine (bnd_of (rdX rfl hp (by decide) (hX.x.b hp))).trans ?_
  refine (bnd_of (X_isIn (by omega) (by omega))).trans ?_
  have e : hMk s.1 p / 2 ^ h % 2 = b2n (hasP s.1 h p) := mkB_bit _ 28 h hh
  rw [e]
  cases hasP s.1 h p <;> rfl
theorem b2n0 {b : Bool} (h : b = false) : nI (b2n b) = 0 := by rw [h]; rfl
theorem b2n1 {b : Bool} (h : b = true) : ¬ nI (b2n b) = 0 := by rw [h]; decide
theorem op_leave (a1 a2 a3 : Int32) : Op (f_X8_leave a1 a2 a3) (f_X9_leave a1 a2 a3) := by
  intro s hS
  have w0 := hS.w.w0
  have h0 := hS.w.h0
  rcases io a1 (n := s.1 1) (by omega) with q | ⟨w, hw, rfl⟩
  · refine both_ref (k := 1) hS (by decide) (by decide) (fun m hX => ?_) (fun m hM => ?_)
    · unfold f_X8_leave; exact (bnd_of (X_wrk0 hX q)).trans (if_pos rfl)
    · unfold f_X9_leave; exact (bnd_of (M_wrk0 hS hM q)).trans (if_pos rfl)
  rcases io a2 (n := s.1 0) (by omega) with q | ⟨p, hp, rfl⟩
  · refine both_ref (k := 1) hS (by decide) (by decide) (fun m hX => ?_) (fun m hM => ?_)
    · unfold f_X8_leave
      refine (bnd_of (X_wrk1 hS hX hw)).trans ?_
      refine (if_neg (by decide)).trans ?_
      exact (bnd_of (X_hol0 hX q)).trans (if_pos rfl)
    · unfold f_X9_leave
      refine (bnd_of (M_wrk1 hS hM hw)).trans ?_
      refine (if_neg (by decide)).trans ?_
      exact (bnd_of (M_hol0 hS hM q)).trans (if_pos rfl)
  rcases io a3 (n := 28) (by decide) with q | ⟨h, hh, rfl⟩
  · refine both_ref (k := 1) hS (by decide) (by decide) (fun m hX => ?_) (fun m hM => ?_)
    · unfold f_X8_leave
      refine (bnd_of (X_wrk1 hS hX hw)).trans ?_
      refine (if_neg (by decide)).trans ?_
      refine (bnd_of (X_hol1 hS hX hp)).trans ?_
      refine (if_neg (by decide)).trans ?_
      exact (bnd_of (X_hr0 q)).trans (if_pos rfl)
    · unfold f_X9_leave
      refine (bnd_of (M_wrk1 hS hM hw)).trans ?_
      refine (if_neg (by decide)).trans ?_
      refine (bnd_of (M_hol1 hS hM hp)).trans ?_
      refine (if_neg (by decide)).trans ?_
      exact (bnd_of (M_hr0 q)).trans (if_pos rfl)
  have gx : ∀ m, XI s m → f_X8_leave (nI w) (nI p) (nI h) m = if nI (b2n (hasP s.1 h p)) = 0 then some ((0 : Int32), m) else some (oc (pC s.1 999 w p h), m) := by
    intro m hX
    unfold f_X8_leave
    refine (bnd_of (X_wrk1 hS hX hw)).trans ?_
    refine (if_neg (by decide)).trans ?_
    refine (bnd_of (X_hol1 hS hX hp)).trans ?_
    refine (if_neg (by decide)).trans ?_
    refine (bnd_of (X_hr1 hh)).trans ?_
    refine (if_neg (by decide)).trans ?_
    refine (bnd_of (X_holds hX (by omega) hh)).trans ?_
    rw [bnd_of (X_partCost hX.x hS.w.b hw hp hh)]
  have gm : ∀ m, MI s m → f_X9_leave (nI w) (nI p) (nI h) m = if nI (b2n (hasP s.1 h p)) = 0 then some ((0 : Int32), m) else some (oc (pC s.1 999 w p h), m) := by
    intro m hM
    unfold f_X9_leave
    refine (bnd_of (M_wrk1 hS hM hw)).trans ?_
    refine (if_neg (by decide)).trans ?_
    refine (bnd_of (M_hol1 hS hM hp)).trans ?_
    refine (if_neg (by decide)).trans ?_
    refine (bnd_of (M_hr1 hh)).trans ?_
    refine (if_neg (by decide)).trans ?_
    refine (bnd_of (M_hasPart hM.s hS.w hh (by omega))).trans ?_
    rw [bnd_of (M_partOf hM.s hS.w hM.l (by decide) hw hp hh)]
  cases e : hasP s.1 h p with
  | false =>
    exact ⟨0, s, hS, XO.same (fun m hX => ⟨m, (gx m hX).trans (if_pos (b2n0 e)), xN.rf m⟩), MO.same (fun m hM => ⟨m, (gm m hM).trans (if_pos (b2n0 e)), mN.rf m⟩)⟩
  | true =>
    exact ⟨_, s, hS, XO.same (fun m hX => ⟨m, (gx m hX).trans (if_neg (b2n1 e)), xN.rf m⟩), MO.same (fun m hM => ⟨m, (gm m hM).trans (if_neg (b2n1 e)), mN.rf m⟩)⟩
/-- fields that may be set one by one: strike, bell, seasons, prices -/
def fx (i : Nat) : Prop := i = 0 ∨ i = 1 ∨ (9 ≤ i ∧ i < 121) ∨ (121 ≤ i ∧ i < 153 ∧ i % 4 ≠ 2) ∨ 153 ≤ i
theorem hasP_cg {t t' : Nat → Nat} {h p : Nat} (hc : (t' (9 + 4 * h)) = (t (9 + 4 * h))) (hp : ∀ i, i < (t (9 + 4 * h)) → (t' (9 + 4 * h + 1 + i)) = (t (9 + 4 * h + 1 + i))) : hasP t' h p = hasP t h p := by
  unfold hasP
  rw [hc]
  exact anyF_congr _ _ (fun j _ hj => by rw [hp j (by omega)])
theorem WT.set {t t' : Nat → Nat} (hW : WT t) (e : ∀ i, fx i → t' i = t i) (h2 : t' 2 < 2 ^ t 0) (h3 : t' 3 < 28 ∨ t' 3 = 999) (h4 : t' 4 ≤ 9) (h5 : ∀ k, k < 4 → t' (5 + k) ≤ 300) (h6 : ∀ p, p < 8 → (t' (121 + 4 * p + 1)) ≤ 999) (h7 : ∀ p, p < t 0 → (t' (121 + 4 * p + 1)) ≤ 9) : WT t' := by
  have q0 := hW.h0
  have e0 : t' 0 = t 0 := e 0 (Or.inl rfl)
  have e1 : t' 1 = t 1 := e 1 (Or.inr (Or.inl rfl))
  have ec : ∀ h, h < 28 → (t' (9 + 4 * h)) = (t (9 + 4 * h)) := fun h hh => e _ (by unfold fx; omega)
  have ep : ∀ h i, h < 28 → i < 3 → (t' (9 + 4 * h + 1 + i)) = (t (9 + 4 * h + 1 + i)) := fun h i hh hi => e _ (by unfold fx; omega)
  have es : ∀ p, p < 8 → (t' (121 + 4 * p + 3)) = (t (121 + 4 * p + 3)) := fun p hp => e _ (by unfold fx; omega)
  have s8 := Nat.pow_le_pow_right (n := 2) (by decide) q0
  refine ⟨⟨by rw [e0]; exact q0, by rw [e1]; exact hW.w0, by rw [e0]; exact h2, h3, h4, h5, fun h hh => by rw [ec h hh]; exact hW.pa hh, fun h i hh hi => ?_, fun p hp => ?_, fun w hw => ?_, fun i hi => ?_⟩, fun h i j hh hi hj => ?_, fun p hp => ?_, fun p hp h8 => ?_⟩
  · rw [ec h hh] at hi
    have := hW.pa hh
    rw [ep h i hh (by omega), e0]; exact hW.pp hh hi
  · rw [e0] at hp
    have := hW.ho hp
    rw [e (121 + 4 * p) (by unfold fx; omega), e (121 + 4 * p + 2) (by unfold fx; omega)]
    exact ⟨this.1, h7 p hp, this.2.2⟩
  · rw [e1] at hw
    have hk : ∀ k, t' (153 + 6 * w + k) = t (153 + 6 * w + k) := fun k => e _ (by unfold fx; omega)
    have hk0 : t' (153 + 6 * w) = t (153 + 6 * w) := hk 0
    rw [hk0, hk, hk, hk, hk, hk, e0]
    exact hW.wk hw
  · by_cases z : fx i
    · rw [e i z]; exact hW.lt hi
    · have : i = 2 ∨ i = 3 ∨ i = 4 ∨ (∃ k, k < 4 ∧ i = 5 + k) ∨ ∃ p, p < 8 ∧ i = 121 + 4 * p + 1 := by
        unfold fx at z
        by_cases z1 : i < 5
        · omega
        · by_cases z2 : i < 9
          · exact Or.inr (Or.inr (Or.inr (Or.inl ⟨i - 5, by omega, by omega⟩)))
          · exact Or.inr (Or.inr (Or.inr (Or.inr ⟨(i - 121) / 4, by omega, by omega⟩)))
      rcases this with rfl | rfl | rfl | ⟨k, hk, rfl⟩ | ⟨p, hp, rfl⟩
      · omega
      · omega
      · omega
      · have := h5 k hk; omega
      · have := h6 p hp; omega
  · rw [ec h hh] at hj
    have := hW.pa hh
    rw [ep h i hh (by omega), ep h j hh (by omega)]
    exact hW.di hh hi hj
  · rw [e0] at hp ⊢
    rw [es p (by omega)]
    rcases hW.spo hp with z | ⟨z1, z2, z3⟩
    · exact Or.inl z
    · exact Or.inr ⟨z1, z2, by rw [es _ (by omega)]; exact z3⟩
  · rw [e0] at hp
    rw [es p h8]; exact hW.sz hp h8
theorem hMk_cg {t t' : Nat → Nat} {p : Nat} (hc : ∀ h, h < 28 → (t' (9 + 4 * h)) = (t (9 + 4 * h))) (hp : ∀ h i, h < 28 → i < (t (9 + 4 * h)) → (t' (9 + 4 * h + 1 + i)) = (t (9 + 4 * h + 1 + i))) : hMk t' p = hMk t p := mkB_congr 28 (fun h hh => hasP_cg (hc h hh) (fun i hi => hp h i hh hi))
theorem XS.set {t t' : Nat → Nat} {m m' : mM} (hX : XS t m) (hW : WT t) (e : ∀ i, fx i → t' i = t i) (f : ∀ a i, ¬ (a = 1 ∧ 2 ≤ i) → ¬ ((3 ≤ a ∧ a < 11) ∧ i = 1) → a ≠ 50 → a < 51 → m' a i = m a i) (c2 : m' 1 2 = nI (t' 2)) (c3 : m' 1 3 = dc (t' 3)) (c4 : m' 1 4 = nI (t' 4)) (c5 : ∀ k, k < 4 → m' 50 k = nI (t' (5 + k))) (c6 : ∀ p, p < 8 → m' (3 + p) 1 = dc (t' (121 + 4 * p + 1))) : XS t' m' := by
  have ec : ∀ h, h < 28 → (t' (9 + 4 * h)) = (t (9 + 4 * h)) := fun h hh => e _ (by unfold fx; omega)
  have ep : ∀ h i, h < 28 → i < 3 → (t' (9 + 4 * h + 1 + i)) = (t (9 + 4 * h + 1 + i)) := fun h i hh hi => e _ (by unfold fx; omega)
  refine ⟨?_, ?_, c2, c3, c4, fun p k hp hk => ?_, fun p hp => ?_, fun h hh => ?_, fun h i hh hi => ?_, fun w k hw hk => ?_, c5, fun p hp => ?_⟩
  · rw [f 1 0 (by omega) (by omega) (by omega) (by omega), e 0 (Or.inl rfl)]; exact hX.1
  · rw [f 1 1 (by omega) (by omega) (by omega) (by omega), e 1 (Or.inr (Or.inl rfl))]; exact hX.2.1
  · by_cases z : k = 1
    · subst z; exact c6 p hp
    · rw [f (3 + p) k (by omega) (by omega) (by omega) (by omega), e (121 + 4 * p + k) (by unfold fx; omega)]
      exact hX.h hp hk
  · rw [f 12 p (by omega) (by omega) (by omega) (by omega), e (121 + 4 * p + 3) (by unfold fx; omega)]; exact hX.s hp
  · rw [f 13 h (by omega) (by omega) (by omega) (by omega), ec h hh]; exact hX.p hh
  · rw [ec h hh] at hi
    have := hW.pa hh
    rw [f (15 + h) i (by omega) (by omega) (by omega) (by omega), ep h i hh (by omega)]; exact hX.q hh hi
  · rw [f (44 + w) k (by omega) (by omega) (by omega) (by omega), e (153 + 6 * w + k) (by unfold fx; omega)]; exact hX.w hw hk
  · rw [f 11 p (by omega) (by omega) (by omega) (by omega), hMk_cg ec (fun h i hh hi => ep h i hh (by have := hW.pa hh; omega))]; exact hX.b hp
theorem XI.town {s : aSt} {m m' : mM} {t' : Nat → Nat} (h : XI s m) (hX : XS t' m') (e : ∀ a i, (a = 0 ∨ (101 ≤ a ∧ a ≤ 152)) ∨ (184 ≤ a ∧ a ≤ 186) → m' a i = m a i) : XI (t', s.2) m' := by
  obtain ⟨h1, h2, h3, h4, h5⟩ := h
  refine ⟨hX, ⟨?_, fun i hi => ?_⟩, ⟨?_, fun i hi => ?_⟩, fun k q1 q2 => ?_, iX_cg h5 (fun a i q => e a i (by omega))⟩
  · rw [e _ _ (by omega)]; exact h2.1
  · rw [e _ _ (by omega)]; exact h2.2 i hi
  · rw [e _ _ (by omega)]; exact h3.1
  · rw [e _ _ (by omega)]; exact h3.2 i hi
  · rw [e _ _ (by omega)]; exact h4 k q1 q2
theorem MI.town {s : aSt} {m m' : mM} {t' : Nat → Nat} (h : MI s m) (hM : MS t' m') (e : ∀ a i, (a = 188 ∨ a = 190 ∨ a = 193 ∨ a = 199 ∨ (a = 187 ∧ (i = 5 ∨ i = 8 ∨ i = 10 ∨ i = 21))) → m' a i = m a i) : MI (t', s.2) m' := by
  obtain ⟨h1, h2, h3, h4, h5, h6⟩ := h
  refine ⟨hM, ?_, ⟨?_, fun i hi => ?_⟩, ⟨?_, fun i hi => ?_⟩, fun k q1 q2 => ?_, iM_cg h6 (fun a i q => e a i (by omega))⟩
  · rw [e _ _ (by omega)]; exact h2
  · rw [e _ _ (by omega)]; exact h3.1
  · rw [e _ _ (by omega)]; exact h3.2 i hi
  · rw [e _ _ (by omega)]; exact h4.1
  · rw [e _ _ (by omega)]; exact h4.2 i hi
  · rw [e _ _ (by omega)]; exact h5 k q1 q2
theorem SI.town {s : aSt} {t' : Nat → Nat} (h : SI s) (hW : WT t') : SI (t', s.2) := ⟨hW, h.2⟩
def tset (t : Nat → Nat) (k v : Nat) : Nat → Nat := fun i => if i = k then v else t i
theorem tset_eq (t : Nat → Nat) (k v : Nat) : tset t k v k = v := if_pos rfl
theorem tset_ne {t : Nat → Nat} {k v i : Nat} (h : i ≠ k) : tset t k v i = t i := if_neg h
theorem MS.set {t : Nat → Nat} {m : mM} (hM : MS t m) {k v : Nat} : MS (tset t k v) (m_up m 189 k (dc v)) := fun i hi => by
  unfold tset
  by_cases z : i = k
  · subst z; rw [if_pos rfl, m_up_eq]
  · rw [if_neg z, m_up_ni z]; exact hM i hi
theorem out9 {a : Int32} {n : Nat} (h : ¬ a < 0) (h9 : nI (n + 1) ≤ a) (hn : n < 2 ^ 30) : ¬ a ≤ nI n := by
  obtain ⟨j, hj, rfl⟩ := neg_nI h
  exact nI_ge (by
    by_cases z : n < j
    · exact z
    · exact absurd h9 (nI_ge (by omega) (by omega))) hj
