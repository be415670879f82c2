/-! judge -/
theorem fw_L {s : aSt} (hS : SI s) : ∀ (k n h : Nat), h + k = s.2.2.2.1 → k < n → ∃ o : Int32 ⊕ Unit, (∀ m, XI s m → f_X4_firstWrongHour_L2 m n (nI h) = some o) ∧ ∀ m, MS s.1 m → m 187 10 = dc 999 → (∀ i, i < s.2.2.2.1 → m 199 i = nI (s.2.2.2.2.1 i)) → f_X9_firstWrong_L2 (nI s.2.2.2.1) m n (nI h) = some o := by
  have hr : s.2.2.2.1 ≤ 28 := hS.2.2.2.1
  have w0 := hS.w.w0
  intro k
  induction k with
  | zero =>
    intro n h hh hn
    obtain ⟨n, rfl⟩ : ∃ z, n = z + 1 := ⟨n - 1, by omega⟩
    refine ⟨.inr (), fun m hX => ?_, fun m hM hl hg => ?_⟩
    · rw [f_X4_firstWrongHour_L2]
      exact if_pos (by rw [hX.2.2.1.1]; exact nI_le (by omega) (by omega))
    · rw [f_X9_firstWrong_L2]
      exact if_pos (nI_le (by omega) (by omega))
  | succ k ih =>
    intro n h hh hn
    obtain ⟨n, rfl⟩ : ∃ z, n = z + 1 := ⟨n - 1, by omega⟩
    have hv : s.2.2.2.2.1 h ≤ 9 := hS.2.2.2.2.1 h (by omega)
    obtain ⟨o, i1, i2⟩ := ih n (h + 1) (by omega) (by omega)
    have x0 : ∀ m, XI s m → ¬ m 184 3 ≤ nI h := fun m hX => by rw [hX.2.2.1.1]; exact nI_ge (by omega) (by omega)
    have x1 : ∀ m, XI s m → rdA 185 28 (nI h) m = some (nI (s.2.2.2.2.1 h)) := fun m hX => rdX rfl (by omega) (by decide) (hX.2.2.1.2 h (by omega))
    have m1 : ∀ m : mM, (∀ i, i < s.2.2.2.1 → m 199 i = nI (s.2.2.2.2.1 i)) → rdA 199 28 (nI h) m = some (nI (s.2.2.2.2.1 h)) := fun m hg => rdX rfl (by omega) (by decide) (hg h (by omega))
    have mn : ¬ nI s.2.2.2.1 ≤ nI h := nI_ge (by omega) (by omega)
    by_cases e9 : s.2.2.2.2.1 h = 9
    · refine ⟨o, fun m hX => ?_, fun m hM hl hg => ?_⟩
      · rw [f_X4_firstWrongHour_L2]
        refine (if_neg (x0 m hX)).trans ?_
        refine (bnd_of (x1 m hX)).trans ?_
        refine (if_pos (nIq (b := 9) e9)).trans ?_
        rw [nI_1]; exact i1 m hX
      · rw [f_X9_firstWrong_L2]
        refine (if_neg mn).trans ?_
        refine (bnd_of (m1 m hg)).trans ?_
        refine (if_pos (nIq (b := 9) e9)).trans ?_
        rw [nI_1]; exact i2 m hM hl hg
    have n9' : ¬ nI (s.2.2.2.2.1 h) = 9 := nIn (b := 9) (by omega) (by decide) e9
    have isw : ∀ m : mM, MS s.1 m → f_X9_isWork (nI (s.2.2.2.2.1 h)) m = some (if s.2.2.2.2.1 h < s.1 1 then 1 else 0) := fun m hM => by
      have c1 : m 189 1 = nI (s.1 1) := hM.n (by decide) (by omega)
      unfold f_X9_isWork
      refine (bnd_of (rdX (k := 1) rfl (by decide) (by decide) c1)).trans ?_
      by_cases z : s.2.2.2.2.1 h < s.1 1
      · rw [if_pos z]; exact (bnd_of (M_in1 z (by omega))).trans rfl
      · rw [if_neg z]; exact (bnd_of (M_in0 (Or.inr (nI_le (by omega) (by omega))))).trans rfl
    have fin : ∀ (c : Prop) [Decidable c], (∀ m, XI s m → f_X4_mayBeWorked (nI (s.2.2.2.2.1 h)) (nI h) m = some (if c then 1 else 0)) → (∀ m, MS s.1 m → m 187 10 = dc 999 → (∀ i, i < s.2.2.2.1 → m 199 i = nI (s.2.2.2.2.1 i)) → f_X9_firstWrong_L2 (nI s.2.2.2.1) m (n + 1) (nI h) = if c then f_X9_firstWrong_L2 (nI s.2.2.2.1) m n (nI h + 1) else some (.inl (nI h))) → ∃ o : Int32 ⊕ Unit, (∀ m, XI s m → f_X4_firstWrongHour_L2 m (n + 1) (nI h) = some o) ∧ ∀ m, MS s.1 m → m 187 10 = dc 999 → (∀ i, i < s.2.2.2.1 → m 199 i = nI (s.2.2.2.2.1 i)) → f_X9_firstWrong_L2 (nI s.2.2.2.1) m (n + 1) (nI h) = some o := by
      intro c _ hx hm
      by_cases hc : c
      · refine ⟨o, fun m hX => ?_, fun m hM hl hg => ?_⟩
        · rw [f_X4_firstWrongHour_L2]
          refine (if_neg (x0 m hX)).trans ?_
          refine (bnd_of (x1 m hX)).trans ?_
          refine (if_neg n9').trans ?_
          refine (bnd_of (x1 m hX)).trans ?_
          refine (bnd_of (hx m hX)).trans ?_
          rw [if_pos hc]
          refine (if_neg (by decide)).trans ?_
          rw [nI_1]; exact i1 m hX
        · rw [hm m hM hl hg, if_pos hc, nI_1]; exact i2 m hM hl hg
      · refine ⟨.inl (nI h), fun m hX => ?_, fun m hM hl hg => ?_⟩
        · rw [f_X4_firstWrongHour_L2]
          refine (if_neg (x0 m hX)).trans ?_
          refine (bnd_of (x1 m hX)).trans ?_
          refine (if_neg n9').trans ?_
          refine (bnd_of (x1 m hX)).trans ?_
          refine (bnd_of (hx m hX)).trans ?_
          rw [if_neg hc]
          exact if_pos rfl
        · rw [hm m hM hl hg, if_neg hc]
    by_cases ew : s.2.2.2.2.1 h < s.1 1
    · obtain ⟨d1, d2, d3, d4, d5, d6⟩ := hS.w.wk ew
      refine fin (h ≤ (s.1 (153 + 6 * (s.2.2.2.2.1 h) + 3)) ∧ (hC s.1 999 (s.2.2.2.2.1 h) h).isSome = true) (fun m hX => ?_) (fun m hM hl hg => ?_)
      · have c3 : m (44 + s.2.2.2.2.1 h) 3 = nI (s.1 (153 + 6 * (s.2.2.2.2.1 h) + 3)) := (hX.x.w (k := 3) (by omega) (by omega)).trans (dcN (by omega))
        unfold f_X4_mayBeWorked
        refine (bnd_of (X_wrk1 hS hX ew)).trans ?_
        refine (if_neg (by decide)).trans ?_
        refine (bnd_of (ckN (show s.2.2.2.2.1 h < 6 by omega) (by decide))).trans ?_
        refine (bnd_of (rdX (k := 3) rfl (by decide) (by decide) c3)).trans ?_
        by_cases eb : h ≤ (s.1 (153 + 6 * (s.2.2.2.2.1 h) + 3))
        · refine (if_neg (nI_nlt eb (by omega))).trans ?_
          refine (bnd_of (X_hourCost hX.x hS.w.b ew (by omega))).trans ?_
          cases ec : hC s.1 999 (s.2.2.2.2.1 h) h with
          | none => exact (if_pos rfl).trans (congrArg some (if_neg (fun z => by simp at z)).symm)
          | some v =>
            have := hC_le hS.w.b ew (show h < 28 by omega) ec
            exact (if_neg (n9 (show v < 2 ^ 31 by omega))).trans (congrArg some (if_pos ⟨eb, rfl⟩).symm)
        · exact (if_pos (nI_lt (by omega) (by omega))).trans (congrArg some (if_neg (fun z => eb z.1)).symm)
      · rw [f_X9_firstWrong_L2]
        refine (if_neg mn).trans ?_
        refine (bnd_of (m1 m hg)).trans ?_
        refine (if_neg n9').trans ?_
        refine (bnd_of (isw m hM)).trans ?_
        rw [if_pos ew]
        refine (if_neg (by decide)).trans ?_
        refine (bnd_of ((M_of (k := 3) hM (by omega) (by omega)).trans (congrArg some (dcN (by omega))))).trans ?_
        by_cases eb : h ≤ (s.1 (153 + 6 * (s.2.2.2.2.1 h) + 3))
        · refine (if_neg (nI_nlt eb (by omega))).trans ?_
          refine (bnd_of (M_hourOf hM hS.w hl (by decide) ew (by omega))).trans ?_
          unfold hF
          cases ec : hC s.1 999 (s.2.2.2.2.1 h) h with
          | none => exact (if_neg (by decide)).trans (if_neg (fun z => by simp at z)).symm
          | some v =>
            have := hC_le hS.w.b ew (show h < 28 by omega) ec
            exact (if_pos (nI_lt (b := 100000) (by show v < _; omega) (by decide))).trans (if_pos ⟨eb, rfl⟩).symm
        · exact (if_pos (nI_lt (by omega) (by omega))).trans (if_neg (fun z => eb z.1)).symm
    · refine fin False (fun m hX => ?_) (fun m hM hl hg => ?_)
      · unfold f_X4_mayBeWorked
        rw [if_neg id]
        exact (bnd_of (X_wrk0 hX (Or.inr (nI_le (by omega) (by omega))))).trans (if_pos rfl)
      · rw [f_X9_firstWrong_L2, if_neg (c := False) id]
        refine (if_neg mn).trans ?_
        refine (bnd_of (m1 m hg)).trans ?_
        refine (if_neg n9').trans ?_
        refine (bnd_of (isw m hM)).trans ?_
        rw [if_neg ew]
        exact if_pos rfl
