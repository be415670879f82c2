/-! judge: is a work done -/
theorem orb (B d : Nat) : (B ||| 2 ^ d) / 2 ^ d % 2 = 1 := by
  have h : Nat.testBit (B ||| 2 ^ d) d = true := by
    rw [Nat.testBit_or, Nat.testBit_two_pow]
    simp
  rw [Nat.testBit_eq_decide_div_mod_eq] at h
  exact of_decide_eq_true h
def dQ (c l B h : Nat) : Prop := (l = 999 ∧ c = 0 ∧ B = 0) ∨ (l < h ∧ 1 ≤ c ∧ c ≤ h ∧ B < 2 ^ (l / 4 + 1) ∧ B / 2 ^ (l / 4) % 2 = 1)
theorem dQ_n {c l B h : Nat} (hQ : dQ c l B h) (hh : h < 28) : dQ (c + 1) h (B ||| 2 ^ (h / 4)) (h + 1) := by
  refine Or.inr ⟨by omega, by omega, ?_, ?_, orb _ _⟩
  · rcases hQ with q | q <;> omega
  · refine Nat.or_lt_two_pow ?_ (Nat.pow_lt_pow_right (by decide) (by omega))
    rcases hQ with ⟨-, -, q⟩ | ⟨q1, q2, q3, q4, q5⟩
    · rw [q]; exact Nat.two_pow_pos _
    · exact Nat.lt_of_lt_of_le q4 (Nat.pow_le_pow_right (by decide) (by omega))
theorem dn_L {s : aSt} (hS : SI s) {w : Nat} (hw : w < s.1 1) : ∀ (k n h c l B : Nat), h + k = s.2.2.2.1 → k < n → dQ c l B h → ∃ o : Int32 ⊕ Int32, (∀ m, XI s m → f_X4_isDone_L19 (nI w) w m n (nI c) (dc l) (nI h) = some o) ∧ ∀ m, MS s.1 m → (∀ i, i < s.2.2.2.1 → m 199 i = nI (s.2.2.2.2.1 i)) → f_X9_isDone_L12 (nI w) (nI s.2.2.2.1) m n (nI c) (nI B) (dc l) (nI h) = some o := by
  have hr : s.2.2.2.1 ≤ 28 := hS.2.2.2.1
  have w0 := hS.w.w0
  obtain ⟨d1, d2, d3, d4, d5, d6⟩ := hS.w.wk hw
  intro k
  induction k with
  | zero =>
    intro n h c l B hh hn hQ
    obtain ⟨n, rfl⟩ : ∃ z, n = z + 1 := ⟨n - 1, by omega⟩
    refine ⟨.inr (nI c), fun m hX => ?_, fun m hM hg => ?_⟩
    · rw [f_X4_isDone_L19]
      exact if_pos (by rw [hX.2.2.1.1]; exact nI_le (by omega) (by omega))
    · rw [f_X9_isDone_L12]
      exact if_pos (nI_le (by omega) (by omega))
  | succ k ih =>
    intro n h c l B hh hn hQ
    obtain ⟨n, rfl⟩ : ∃ z, n = z + 1 := ⟨n - 1, by omega⟩
    have hh28 : h < 28 := by omega
    have hv : s.2.2.2.2.1 h ≤ 9 := hS.2.2.2.2.1 h (by omega)
    have x0 : ∀ m, XI s m → ¬ m 184 3 ≤ nI h := fun m hX => by rw [hX.2.2.1.1]; exact nI_ge (by omega) (by omega)
    have x1 : ∀ m, XI s m → rdA 185 28 (nI h) m = some (nI (s.2.2.2.2.1 h)) := fun m hX => rdX rfl (by omega) (by decide) (hX.2.2.1.2 h (by omega))
    have m1 : ∀ m : mM, (∀ i, i < s.2.2.2.1 → m 199 i = nI (s.2.2.2.2.1 i)) → rdA 199 28 (nI h) m = some (nI (s.2.2.2.2.1 h)) := fun m hg => rdX rfl (by omega) (by decide) (hg h (by omega))
    have mn : ¬ nI s.2.2.2.1 ≤ nI h := nI_ge (by omega) (by omega)
    by_cases ew : s.2.2.2.2.1 h = w
    · have e4 : nI h / (4 : Int32) = nI (h / 4) := pk_div (d := 4) (by omega) (by decide) (by decide)
      have hB : B < 2 ^ 7 := by
        rcases hQ with ⟨-, -, q⟩ | ⟨q1, q2, q3, q4, q5⟩
        · rw [q]; decide
        · exact Nat.lt_of_lt_of_le q4 (Nat.pow_le_pow_right (by decide) (by omega))
      have hl : l < 1000 := by rcases hQ with q | q <;> omega
      have p7 : 2 ^ (h / 4) ≤ 2 ^ 6 := Nat.pow_le_pow_right (by decide) (by omega)
      have eor : nI B ||| ((1 : Int32) <<< (nI (h / 4) &&& 31)) = nI (B ||| 2 ^ (h / 4)) := by
        show nI B ||| (nI 1 <<< (nI (h / 4) &&& nI 31)) = _
        rw [slN (by omega) (by omega), Nat.one_mul, orN]
      have ebt : (nI B >>> (nI (h / 4) &&& 31)) &&& 1 = nI (B / 2 ^ (h / 4) % 2) := by
        show (nI B >>> (nI (h / 4) &&& nI 31)) &&& nI 1 = _
        rw [shN (by omega) (by omega), an1]
      obtain ⟨o, i1, i2⟩ := ih n (h + 1) (c + 1) h (B ||| 2 ^ (h / 4)) (by omega) (by omega) (dQ_n hQ hh28)
      rw [dcN (show h < 999 by omega)] at i1 i2
      have o1 : ∀ m : mM, MS s.1 m → f_X9_of (nI w) 1 m = some (nI (s.1 (153 + 6 * w + 1))) := fun m hM => (M_of (k := 1) hM (by omega) (by omega)).trans (congrArg some (dcN (by omega)))
      have good : (∀ m, XI s m → (if dc l = (-9 : Int32) then f_X4_isDone_L19 (nI w) w m n (nI c + 1) (nI h) (nI h + 1) else bnd (f_X4_mayFollow w (dc l) (nI h) m) fun q5 => if q5 = 0 then some (.inl (0 : Int32)) else f_X4_isDone_L19 (nI w) w m n (nI c + 1) (nI h) (nI h + 1)) = f_X4_isDone_L19 (nI w) w m n (nI c + 1) (nI h) (nI h + 1)) → (((s.1 (153 + 6 * w + 1)) = 1 → ¬ B / 2 ^ (h / 4) % 2 = 1) ∧ (¬ (s.1 (153 + 6 * w + 1)) = 1 → c = 0 ∨ l = h - 1)) → ∃ o : Int32 ⊕ Int32, (∀ m, XI s m → f_X4_isDone_L19 (nI w) w m (n + 1) (nI c) (dc l) (nI h) = some o) ∧ ∀ m, MS s.1 m → (∀ i, i < s.2.2.2.1 → m 199 i = nI (s.2.2.2.2.1 i)) → f_X9_isDone_L12 (nI w) (nI s.2.2.2.1) m (n + 1) (nI c) (nI B) (dc l) (nI h) = some o := by
        intro gx gm
        refine ⟨o, fun m hX => ?_, fun m hM hg => ?_⟩
        · rw [f_X4_isDone_L19]
          refine (if_neg (x0 m hX)).trans ?_
          refine (bnd_of (x1 m hX)).trans ?_
          refine (if_pos (nIq ew)).trans ?_
          refine (gx m hX).trans ?_
          rw [nI_1, nI_1]; exact i1 m hX
        · rw [f_X9_isDone_L12]
          refine (if_neg mn).trans ?_
          refine (bnd_of (m1 m hg)).trans ?_
          refine (if_pos (nIq ew)).trans ?_
          refine (bnd_of (o1 m hM)).trans ?_
          rw [e4, ebt, eor]
          by_cases es : (s.1 (153 + 6 * w + 1)) = 1
          · refine (if_pos (nIq (b := 1) es)).trans ?_
            refine (if_neg (nIn (b := 1) (by omega) (by decide) (gm.1 es))).trans ?_
            rw [nI_1, nI_1]; exact i2 m hM hg
          · refine (if_neg (nIn (b := 1) (by omega) (by decide) es)).trans ?_
            by_cases ec : c = 0
            · refine (if_pos (by rw [ec]; decide)).trans ?_
              rw [nI_1, nI_1]; exact i2 m hM hg
            · have lh := (gm.2 es).resolve_left ec
              refine (if_neg (nI_nle (by omega) (by rcases hQ with q | q <;> omega))).trans ?_
              refine (if_pos (by
                rw [lh, dcN (by omega)]
                rcases hQ with q | q
                · omega
                · exact (pk_sub (b := 1) (by omega)).symm)).trans ?_
              rw [nI_1, nI_1]; exact i2 m hM hg
      rcases hQ with ⟨q1, q2, q3⟩ | ⟨q1, q2, q3, q4, q5⟩
      · exact good (fun m hX => if_pos (by rw [q1]; rfl)) ⟨fun _ => by rw [q3, Nat.zero_div]; decide, fun _ => Or.inl q2⟩
      · have el : ¬ dc l = (-9 : Int32) := by rw [dcN (by omega)]; exact n9 (by omega)
        have e4l : dc l / (4 : Int32) = nI (l / 4) := by rw [dcN (by omega)]; exact pk_div (d := 4) (by omega) (by decide) (by decide)
        have mf : ∀ m, XI s m → f_X4_mayFollow w (dc l) (nI h) m = some (if (s.1 (153 + 6 * w + 1)) = 1 then (if h / 4 = l / 4 then 0 else 1) else (if h = l + 1 then 1 else 0)) := fun m hX => by
          have c1 : m (44 + w) 1 = nI (s.1 (153 + 6 * w + 1)) := (hX.x.w (k := 1) (by omega) (by omega)).trans (dcN (by omega))
          unfold f_X4_mayFollow
          refine (bnd_of (rdX (k := 1) rfl (by decide) (by decide) c1)).trans ?_
          rw [e4, e4l]
          by_cases es : (s.1 (153 + 6 * w + 1)) = 1
          · refine (if_pos (nIq (b := 1) es)).trans ?_
            rw [if_pos es]
            by_cases ed : h / 4 = l / 4
            · rw [if_pos ed]; exact if_pos (nIq ed)
            · rw [if_neg ed]; exact if_neg (nIn (by omega) (by omega) ed)
          · refine (if_neg (nIn (b := 1) (by omega) (by decide) es)).trans ?_
            rw [if_neg es, dcN (by omega), nI_1]
            by_cases ed : h = l + 1
            · rw [if_pos ed]; exact if_pos (nIq ed)
            · rw [if_neg ed]; exact if_neg (nIn (by omega) (by omega) ed)
        by_cases ok : ((s.1 (153 + 6 * w + 1)) = 1 ∧ ¬ h / 4 = l / 4) ∨ (¬ (s.1 (153 + 6 * w + 1)) = 1 ∧ h = l + 1)
        · refine good (fun m hX => (if_neg el).trans ((bnd_of (mf m hX)).trans (if_neg ?_))) ⟨fun es => ?_, fun es => ?_⟩
          · rcases ok with ⟨a, b⟩ | ⟨a, b⟩
            · rw [if_pos a, if_neg b]; decide
            · rw [if_neg a, if_pos b]; decide
          · have hlt : B < 2 ^ (h / 4) := Nat.lt_of_lt_of_le q4 (Nat.pow_le_pow_right (by decide) (by omega))
            rw [Nat.div_eq_of_lt hlt]; decide
          · exact Or.inr (by omega)
        · refine ⟨.inl 0, fun m hX => ?_, fun m hM hg => ?_⟩
          · rw [f_X4_isDone_L19]
            refine (if_neg (x0 m hX)).trans ?_
            refine (bnd_of (x1 m hX)).trans ?_
            refine (if_pos (nIq ew)).trans ?_
            refine (if_neg el).trans ?_
            refine (bnd_of (mf m hX)).trans ?_
            refine if_pos ?_
            by_cases es : (s.1 (153 + 6 * w + 1)) = 1
            · rw [if_pos es, if_pos (by omega)]
            · rw [if_neg es, if_neg (by omega)]
          · rw [f_X9_isDone_L12]
            refine (if_neg mn).trans ?_
            refine (bnd_of (m1 m hg)).trans ?_
            refine (if_pos (nIq ew)).trans ?_
            refine (bnd_of (o1 m hM)).trans ?_
            rw [e4, ebt]
            by_cases es : (s.1 (153 + 6 * w + 1)) = 1
            · refine (if_pos (nIq (b := 1) es)).trans ?_
              have ed : h / 4 = l / 4 := by omega
              exact if_pos (by rw [ed, q5]; rfl)
            · refine (if_neg (nIn (b := 1) (by omega) (by decide) es)).trans ?_
              refine (if_neg (nI_nle (by omega) (by omega))).trans ?_
              refine if_neg ?_
              rw [dcN (by omega), show nI h - 1 = nI (h - 1) from pk_sub (b := 1) (by omega)]
              exact nIn (by omega) (by omega) (by omega)
    · obtain ⟨o, i1, i2⟩ := ih n (h + 1) c l B (by omega) (by omega) (by rcases hQ with q | q; exact Or.inl q; exact Or.inr ⟨by omega, q.2.1, by omega, q.2.2.2⟩)
      refine ⟨o, fun m hX => ?_, fun m hM hg => ?_⟩
      · rw [f_X4_isDone_L19]
        refine (if_neg (x0 m hX)).trans ?_
        refine (bnd_of (x1 m hX)).trans ?_
        refine (if_neg (nIn (by omega) (by omega) ew)).trans ?_
        rw [nI_1]; exact i1 m hX
      · rw [f_X9_isDone_L12]
        refine (if_neg mn).trans ?_
        refine (bnd_of (m1 m hg)).trans ?_
        refine (if_neg (nIn (by omega) (by omega) ew)).trans ?_
        rw [nI_1]; exact i2 m hM hg
