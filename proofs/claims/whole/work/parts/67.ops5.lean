/-! row, together, count -/
theorem op_row (a1 : Int32) : Op (f_X8_row a1) (f_X9_row a1) := by
  intro s hS
  rcases rng a1 (n := 9) (by decide) with q | ⟨q, q2⟩ | ⟨v, hv, rfl⟩
  · refine both_ref (k := 4) hS (by decide) (by decide) (fun m hX => ?_) (fun m hM => ?_)
    · unfold f_X8_row; exact if_neg (nle0 q)
    · unfold f_X9_row f_X9_row_J24
      refine (bnd_of (M_out4 q)).trans ?_
      exact (if_neg (by decide)).trans (if_neg (by decide))
  · refine both_ref (k := 6) hS (by decide) (by decide) (fun m hX => ?_) (fun m hM => ?_)
    · unfold f_X8_row; exact (if_pos (pos0 q)).trans (if_pos (Int32.not_le.mp q2))
    · unfold f_X9_row f_X9_row_J24
      refine (bnd_of (M_out6 q q2)).trans ?_
      exact (if_neg (by decide)).trans (if_neg (by decide))
  obtain ⟨t, n, f, r, g, c, u⟩ := s
  have hr : r ≤ 28 := hS.2.2.2.1
  have hg : ∀ i, i < r → g i ≤ 9 := hS.2.2.2.2.1
  by_cases e : r = 28
  · subst e
    refine both_ref (k := 6) hS (by decide) (by decide) (fun m hX => ?_) (fun m hM => ?_)
    · have h3 : m 184 3 = nI 28 := hX.2.2.1.1
      unfold f_X8_row
      refine (if_pos (nI_pos' (by omega))).trans ?_
      refine (if_neg (nI_nlt (a := 9) hv (by decide))).trans ?_
      exact if_neg (by rw [h3]; decide)
    · have h3 : m 187 21 = nI 28 := hM.2.2.2.1.1
      unfold f_X9_row f_X9_row_J24
      refine (bnd_of (M_out0 (n := 9) hv (by decide))).trans ?_
      refine (if_pos rfl).trans ?_
      refine (if_pos h3).trans ?_
      exact if_neg (by decide)
  refine ⟨nI (r + 1), (t, n, f, r + 1, tset g r v, c, u), ⟨hS.1, hS.2.1, hS.2.2.1, by show r + 1 ≤ 28; omega, fun i hi => ?_, hS.2.2.2.2.2⟩, fun m hX => ?_, fun m hM => ?_⟩
  · have hi : i < r + 1 := hi
    show tset g r v i ≤ 9
    unfold tset
    split
    · exact hv
    · exact hg i (by omega)
  · obtain ⟨h1, h2, h3, h4, h5⟩ := hX
    have h30 : m 184 3 = nI r := h3.1
    have j3 : ∀ a i, a ≠ 185 → a ≠ 184 → m_up (m_up m 185 r (nI v)) 184 3 (nI (r + 1)) a i = m a i := fun a i q q2 => (m_up_na q2).trans (m_up_na q)
    refine ⟨m_up (m_up m 185 r (nI v)) 184 3 (nI (r + 1)), ?_, ⟨h1.cg (fun a i q => j3 a i (by omega) (by omega)), ⟨?_, fun i hi => ?_⟩, ⟨m_up_eq _ _ _ _, fun i hi => ?_⟩, fun k q1 q2 => ?_, iX_cg h5 (fun a i q => j3 a i (by omega) (by omega))⟩, fun a i q => j3 a i (by omega) (by omega)⟩
    · unfold f_X8_row f_X4_put
      refine (if_pos (nI_pos' (by omega))).trans ?_
      refine (if_neg (nI_nlt (a := 9) hv (by decide))).trans ?_
      refine (if_pos (by rw [h30]; exact nI_lt (b := 28) (by omega) (by decide))).trans ?_
      have ep : (if (28 : Int32) ≤ m 184 3 then some m else bnd (wrA 185 28 (m 184 3) (nI v) m) fun m1 => bnd (some (m_up m1 184 3 ((m1 184 3) + (1 : Int32)))) fun m3 => some m3) = some (m_up (m_up m 185 r (nI v)) 184 3 (nI (r + 1))) := by
        refine (if_neg (by rw [h30]; exact nI_ge (b := 28) (by omega) (by decide))).trans ?_
        rw [h30]
        refine (bnd_of (wrN (show r < 28 by omega) (by decide))).trans ?_
        refine (bnd_of rfl).trans ?_
        rw [m_up_na (show (184 : Nat) ≠ 185 by decide), h30, nI_1]
      refine (bnd_of ep).trans ?_
      rw [m_up_eq]
    · rw [j3 _ _ (by decide) (by decide)]; exact h2.1
    · rw [j3 _ _ (by decide) (by decide)]; exact h2.2 i hi
    · have hi : i < r + 1 := hi
      show m_up (m_up m 185 r (nI v)) 184 3 (nI (r + 1)) 185 i = nI (tset g r v i)
      rw [m_up_na (by decide)]
      by_cases z : i = r
      · subst z; rw [m_up_eq, tset_eq]
      · rw [m_up_ni z, tset_ne z]; exact h3.2 i (show i < r by omega)
    · rw [j3 _ _ (by decide) (by decide)]; exact h4 k q1 q2
  · obtain ⟨h1, h2, h3, h4, h5, h6⟩ := hM
    have h40 : m 187 21 = nI r := h4.1
    have j3 : ∀ a i, a ≠ 199 → ¬ (a = 187 ∧ i = 21) → m_up (m_up m 199 r (nI v)) 187 21 (nI (r + 1)) a i = m a i := fun a i q q2 => by
      unfold m_up
      rw [if_neg q2, if_neg (fun z => q z.1)]
    refine ⟨m_up (m_up m 199 r (nI v)) 187 21 (nI (r + 1)), ?_, ⟨fun i hi => ?_, ?_, ⟨?_, fun i hi => ?_⟩, ⟨m_up_eq _ _ _ _, fun i hi => ?_⟩, fun k q1 q2 => ?_, iM_cg h6 (fun a i q => j3 a i (by omega) (by omega))⟩, fun a i q => j3 a i (by omega) (by omega)⟩
    · unfold f_X9_row f_X9_row_J24
      refine (bnd_of (M_out0 (n := 9) hv (by decide))).trans ?_
      refine (if_pos rfl).trans ?_
      refine (if_neg (by rw [h40]; exact nIn (b := 28) (by omega) (by decide) e)).trans ?_
      refine (if_pos rfl).trans ?_
      rw [h40]
      refine (bnd_of (wrN (show r < 28 by omega) (by decide))).trans ?_
      refine (bnd_of rfl).trans ?_
      rw [m_up_na (show (187 : Nat) ≠ 199 by decide), h40, nI_1, m_up_eq]
    · rw [j3 _ _ (by decide) (by omega)]; exact h1 i hi
    · rw [j3 _ _ (by decide) (by omega)]; exact h2
    · rw [j3 _ _ (by decide) (by omega)]; exact h3.1
    · rw [j3 _ _ (by decide) (by omega)]; exact h3.2 i hi
    · have hi : i < r + 1 := hi
      show m_up (m_up m 199 r (nI v)) 187 21 (nI (r + 1)) 199 i = nI (tset g r v i)
      rw [m_up_na (by decide)]
      by_cases z : i = r
      · subst z; rw [m_up_eq, tset_eq]
      · rw [m_up_ni z, tset_ne z]; exact h4.2 i (show i < r by omega)
    · rw [j3 _ _ (by decide) (by omega)]; exact h5 k q1 q2
theorem M_togL {s : aSt} {m : mM} (hS : SI s) (hM : MI s m) {p q : Nat} (hp : p < 8) (hq : q < 8) : ∀ (k n h b : Nat), h + k = 28 → k < n → f_X9_together_L32 (nI p) (nI q) m n (nI b) (nI h) = some (nI (b + sumF (fun h => b2n (hasP s.1 h p && hasP s.1 h q)) h k)) := by
  intro k
  induction k with
  | zero =>
    intro n h b hh hn
    obtain ⟨n, rfl⟩ : ∃ z, n = z + 1 := ⟨n - 1, by omega⟩
    rw [f_X9_together_L32]
    exact if_pos (nI_le (a := 28) (by omega) (by omega))
  | succ k ih =>
    intro n h b hh hn
    obtain ⟨n, rfl⟩ : ∃ z, n = z + 1 := ⟨n - 1, by omega⟩
    rw [f_X9_together_L32]
    refine (if_neg (nI_ge (b := 28) (by omega) (by decide))).trans ?_
    refine (bnd_of (M_hasPart hM.s hS.w (by omega) (by omega))).trans ?_
    have z0 : nI b + 0 = nI b := by show nI b + nI 0 = _; rw [nI_add, Nat.add_zero]
    cases e1 : hasP s.1 h p with
    | false =>
      refine (if_pos rfl).trans ?_
      rw [z0, nI_1, ih n (h + 1) b (by omega) (by omega)]
      simp only [sumF, e1, Bool.false_and]
      rw [show b2n false = 0 from rfl, Nat.zero_add]
    | true =>
      refine (if_neg (by decide)).trans ?_
      refine (bnd_of (M_hasPart hM.s hS.w (by omega) (by omega))).trans ?_
      cases e2 : hasP s.1 h q with
      | false =>
        refine (if_pos rfl).trans ?_
        rw [z0, nI_1, ih n (h + 1) b (by omega) (by omega)]
        simp only [sumF, e1, e2, Bool.true_and]
        rw [show b2n false = 0 from rfl, Nat.zero_add]
      | true =>
        refine (if_neg (by decide)).trans ?_
        rw [nI_1, nI_1, ih n (h + 1) (b + 1) (by omega) (by omega)]
        simp only [sumF, e1, e2, Bool.true_and]
        rw [show b2n true = 1 from rfl, Nat.add_assoc]
theorem op_together (a1 a2 : Int32) : Op (f_X8_together a1 a2) (f_X9_together a1 a2) := by
  intro s hS
  have h0 := hS.w.h0
  rcases io a1 (n := s.1 0) (by omega) with q | ⟨p, hp, rfl⟩
  · refine both_ref (k := 1) hS (by decide) (by decide) (fun m hX => ?_) (fun m hM => ?_)
    · unfold f_X8_together; exact (bnd_of (X_hol0 hX q)).trans (if_pos rfl)
    · unfold f_X9_together; exact (bnd_of (M_hol0 hS hM q)).trans (if_pos rfl)
  rcases io a2 (n := s.1 0) (by omega) with q | ⟨q, hq, rfl⟩
  · refine both_ref (k := 1) hS (by decide) (by decide) (fun m hX => ?_) (fun m hM => ?_)
    · unfold f_X8_together
      refine (bnd_of (X_hol1 hS hX hp)).trans ?_
      refine (if_neg (by decide)).trans ?_
      exact (bnd_of (X_hol0 hX q)).trans (if_pos rfl)
    · unfold f_X9_together
      refine (bnd_of (M_hol1 hS hM hp)).trans ?_
      refine (if_neg (by decide)).trans ?_
      exact (bnd_of (M_hol0 hS hM q)).trans (if_pos rfl)
  by_cases e : p = q
  · subst e
    refine both_ref (k := 1) hS (by decide) (by decide) (fun m hX => ?_) (fun m hM => ?_)
    · unfold f_X8_together
      refine (bnd_of (X_hol1 hS hX hp)).trans ?_
      refine (if_neg (by decide)).trans ?_
      refine (bnd_of (X_hol1 hS hX hp)).trans ?_
      refine (if_neg (by decide)).trans ?_
      exact if_pos rfl
    · unfold f_X9_together
      refine (bnd_of (M_hol1 hS hM hp)).trans ?_
      refine (if_neg (by decide)).trans ?_
      refine (bnd_of (M_hol1 hS hM hp)).trans ?_
      refine (if_neg (by decide)).trans ?_
      exact if_pos rfl
  have l1 := hMk_lt s.1 p
  have l3 : hMk s.1 p &&& hMk s.1 q < 2 ^ 28 := Nat.lt_of_le_of_lt Nat.and_le_left l1
  refine ⟨nI (sumF (fun h => b2n (hasP s.1 h p && hasP s.1 h q)) 0 28), s, hS, XO.same (fun m hX => ⟨m, ?_, xN.rf m⟩), MO.same (fun m hM => ⟨m, ?_, mN.rf m⟩)⟩
  · unfold f_X8_together
    refine (bnd_of (X_hol1 hS hX hp)).trans ?_
    refine (if_neg (by decide)).trans ?_
    refine (bnd_of (X_hol1 hS hX hq)).trans ?_
    refine (if_neg (by decide)).trans ?_
    refine (if_neg (nIn (by omega) (by omega) e)).trans ?_
    refine (bnd_of (rdX rfl (by omega) (by decide) (hX.x.b (by omega)))).trans ?_
    refine (bnd_of (rdX rfl (by omega) (by decide) (hX.x.b (by omega)))).trans ?_
    rw [anN, bitC_n l3, pop_and]
  · unfold f_X9_together
    refine (bnd_of (M_hol1 hS hM hp)).trans ?_
    refine (if_neg (by decide)).trans ?_
    refine (bnd_of (M_hol1 hS hM hq)).trans ?_
    refine (if_neg (by decide)).trans ?_
    refine (if_neg (nIn (by omega) (by omega) e)).trans ?_
    refine (bnd_of (M_togL hS hM (by omega) (by omega) 28 fU 0 0 rfl (by decide))).trans ?_
    rw [Nat.zero_add]
