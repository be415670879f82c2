/-! all, begin: the class's plan -/
def rk (t : Nat → Nat) (w : Nat) : Nat := sumF (fun v => 1 - (t (153 + 6 * v + 1))) 0 w
section Plan
variable {t : Nat → Nat}
theorem rk_s (w : Nat) : rk t (w + 1) = rk t w + (1 - (t (153 + 6 * w + 1))) := by
  unfold rk
  rw [sumF_last, Nat.zero_add]
theorem rk_m {v w : Nat} (h : v ≤ w) : rk t v ≤ rk t w := by
  obtain ⟨d, rfl⟩ : ∃ d, w = v + d := ⟨w - v, by omega⟩
  unfold rk
  rw [sumF_split]
  omega
theorem rk_lt {v w : Nat} (h : v < w) (e : (t (153 + 6 * v + 1)) = 0) : rk t v < rk t w := by
  have h1 := rk_s (t := t) v
  have h2 := rk_m (t := t) (show v + 1 ≤ w by omega)
  omega
theorem rk_surj : ∀ (w i : Nat), i < rk t w → ∃ v, v < w ∧ (t (153 + 6 * v + 1)) = 0 ∧ rk t v = i := by
  intro w
  induction w with
  | zero => intro i h; exact absurd h (Nat.not_lt_zero _)
  | succ w ih =>
    intro i h
    rw [rk_s] at h
    by_cases e : i < rk t w
    · obtain ⟨v, h1, h2, h3⟩ := ih i e
      exact ⟨v, by omega, h2, h3⟩
    · exact ⟨w, by omega, by omega, by omega⟩
theorem X_rwL {s : aSt} {m : mM} (hS : SI s) (hX : XI s m) : ∀ (k n w b : Nat), w + k = s.1 1 → k < n → f_X7_rowWorks_L4 m n (nI b) (nI w) = some (nI (b + sumF (fun v => 1 - (s.1 (153 + 6 * v + 1))) w k)) := by
  have w0 := hS.w.w0
  intro k
  induction k with
  | zero =>
    intro n w b hw hn
    obtain ⟨n, rfl⟩ : ∃ z, n = z + 1 := ⟨n - 1, by omega⟩
    rw [f_X7_rowWorks_L4]
    exact if_pos (by rw [hX.o1]; exact nI_le (by omega) (by omega))
  | succ k ih =>
    intro n w b hw hn
    obtain ⟨n, rfl⟩ : ∃ z, n = z + 1 := ⟨n - 1, by omega⟩
    obtain ⟨d1, d2, d3, d4, d5, d6⟩ := hS.w.wk (show w < s.1 1 by omega)
    have c1 : m (44 + w) 1 = nI (s.1 (153 + 6 * w + 1)) := (hX.x.w (k := 1) (by omega) (by omega)).trans (dcN (by omega))
    rw [f_X7_rowWorks_L4]
    refine (if_neg (by rw [hX.o1]; exact nI_ge (by omega) (by omega))).trans ?_
    refine (bnd_of (ckN (show w < 6 by omega) (by decide))).trans ?_
    refine (bnd_of (rdX (k := 1) rfl (by decide) (by decide) c1)).trans ?_
    rw [show (1 : Int32) - nI (s.1 (153 + 6 * w + 1)) = nI (1 - (s.1 (153 + 6 * w + 1))) from pk_sub (a := 1) (by omega), nI_add, nI_1, ih n (w + 1) _ (by omega) (by omega)]
    simp only [sumF, Nat.add_assoc]
theorem X_rw {s : aSt} {m : mM} (hS : SI s) (hX : XI s m) : f_X7_rowWorks m = some (nI (rk s.1 (s.1 1))) := by
  have w0 := hS.w.w0
  unfold f_X7_rowWorks
  refine (bnd_of (X_rwL hS hX (s.1 1) fU 0 0 (by omega) (by show _ < 300; omega))).trans ?_
  rw [Nat.zero_add]
  rfl
theorem M_afL {s : aSt} {m : mM} (hS : SI s) (hM : MI s m) : ∀ (k n w b : Nat), w + k = s.1 1 → k < n → f_X9_areFew_L4 m n (nI b) (nI w) = some (nI (b + sumF (fun v => 1 - (s.1 (153 + 6 * v + 1))) w k)) := by
  have w0 := hS.w.w0
  intro k
  induction k with
  | zero =>
    intro n w b hw hn
    obtain ⟨n, rfl⟩ : ∃ z, n = z + 1 := ⟨n - 1, by omega⟩
    rw [f_X9_areFew_L4]
    refine (bnd_of (rdX (k := 1) rfl (by decide) (by decide) (hM.c1 hS))).trans ?_
    exact if_pos (nI_le (by omega) (by omega))
  | succ k ih =>
    intro n w b hw hn
    obtain ⟨n, rfl⟩ : ∃ z, n = z + 1 := ⟨n - 1, by omega⟩
    obtain ⟨d1, d2, d3, d4, d5, d6⟩ := hS.w.wk (show w < s.1 1 by omega)
    rw [f_X9_areFew_L4]
    refine (bnd_of (rdX (k := 1) rfl (by decide) (by decide) (hM.c1 hS))).trans ?_
    refine (if_neg (nI_ge (by omega) (by omega))).trans ?_
    refine (bnd_of ((M_of (k := 1) hM.s (by omega) (by omega)).trans (congrArg some (dcN (by omega))))).trans ?_
    rw [show (1 : Int32) - nI (s.1 (153 + 6 * w + 1)) = nI (1 - (s.1 (153 + 6 * w + 1))) from pk_sub (a := 1) (by omega), nI_add, nI_1, ih n (w + 1) _ (by omega) (by omega)]
    simp only [sumF, Nat.add_assoc]
theorem rk_le {s : aSt} (hS : SI s) : rk s.1 (s.1 1) ≤ 6 := by
  have w0 := hS.w.w0
  have := sumF_le (f := fun v => 1 - (s.1 (153 + 6 * v + 1))) (B := 1) (s.1 1) 0 (fun j _ _ => by omega)
  unfold rk
  omega
theorem M_few {s : aSt} {m : mM} (hS : SI s) (hM : MI s m) : f_X9_areFew m = some (if 3 < rk s.1 (s.1 1) then 0 else 1) := by
  have w0 := hS.w.w0
  have hl := rk_le hS
  unfold f_X9_areFew
  refine (bnd_of (M_afL hS hM (s.1 1) fU 0 0 (by omega) (by show _ < 300; omega))).trans ?_
  rw [Nat.zero_add]
  by_cases e : 3 < rk s.1 (s.1 1)
  · rw [if_pos e]; exact if_pos (nI_lt (a := 3) e (by omega))
  · rw [if_neg e]; exact if_neg (nI_nlt (b := rk s.1 (s.1 1)) (a := 3) (by omega) (by decide))
theorem X_fgL {s : aSt} (hS : SI s) {w i : Nat} (hw : w < s.1 1) (hi : i < 3) : ∀ (k n h : Nat) (m : mM), h + k = 28 → k < n → XI s m → oH s.1 w m → (∀ x, x < h → m (162 + i) x = jI (gn s.1 w x)) → ∃ m', f_X3_fillGains_L21 i w n (nI h) m = some m' ∧ (∀ x, x < 28 → m' (162 + i) x = jI (gn s.1 w x)) ∧ ∀ a x, a ≠ 162 + i → m' a x = m a x := by
  have w0 := hS.w.w0
  obtain ⟨d1, d2, d3, d4, d5, d6⟩ := hS.w.wk hw
  intro k
  induction k with
  | zero =>
    intro n h m hh hn hX hO hl
    obtain ⟨n, rfl⟩ : ∃ z, n = z + 1 := ⟨n - 1, by omega⟩
    refine ⟨m, ?_, fun x hx => hl x (by omega), fun _ _ _ => rfl⟩
    rw [f_X3_fillGains_L21]
    exact if_pos (nI_le (a := 28) (by omega) (by omega))
  | succ k ih =>
    intro n h m hh hn hX hO hl
    obtain ⟨n, rfl⟩ : ∃ z, n = z + 1 := ⟨n - 1, by omega⟩
    have h28 : h < 28 := by omega
    have c : ∀ (v : Int32) (k : Nat), k < 6 → m_up m (162 + i) h v (44 + w) k = dc (s.1 (153 + 6 * w + k)) := fun v k hk => (m_up_na (by omega)).trans (hX.x.w (by omega) hk)
    have c2 : m_up m (162 + i) h 0 (44 + w) 2 = nI (s.1 (153 + 6 * w + 2)) := (c 0 2 (by omega)).trans (dcN (by omega))
    have c3 : m_up m (162 + i) h 0 (44 + w) 3 = nI (s.1 (153 + 6 * w + 3)) := (c 0 3 (by omega)).trans (dcN (by omega))
    have c4 : m_up m (162 + i) h 0 (44 + w) 4 = nI (s.1 (153 + 6 * w + 4)) := (c 0 4 (by omega)).trans (dcN (by omega))
    have go : ∀ m1 : mM, (∀ a x, ¬ (a = 162 + i ∧ x = h) → m1 a x = m a x) → m1 (162 + i) h = jI (gn s.1 w h) → ∃ m', f_X3_fillGains_L21 i w n (nI h + 1) m1 = some m' ∧ (∀ x, x < 28 → m' (162 + i) x = jI (gn s.1 w x)) ∧ ∀ a x, a ≠ 162 + i → m' a x = m a x := fun m1 f1 e1 => by
      obtain ⟨m', i1, i2, i3⟩ := ih n (h + 1) m1 (by omega) (by omega) (hX.cg (fun a x q => f1 a x (by omega))) (fun x hx => (f1 155 x (by omega)).trans (hO x hx)) (fun x hx => by
        by_cases z : x = h
        · rw [z]; exact e1
        · rw [f1 _ _ (by omega)]; exact hl x (by omega))
      exact ⟨m', by rw [nI_1]; exact i1, i2, fun a x q => (i3 a x q).trans (f1 a x (by omega))⟩
    have f0 : ∀ v a x, ¬ (a = 162 + i ∧ x = h) → m_up m (162 + i) h v a x = m a x := fun v a x q => if_neg q
    have el : nI h + nI (s.1 (153 + 6 * w + 2)) - 1 = nI (h + (s.1 (153 + 6 * w + 2)) - 1) := by rw [nI_add]; exact pk_sub (b := 1) (by omega)
    by_cases q : (s.1 (153 + 6 * w + 3)) < h + (s.1 (153 + 6 * w + 2)) - 1
    · have eg : gn s.1 w h = 0 := if_neg (by
        unfold fe
        rw [decide_eq_false (show ¬ (h + (s.1 (153 + 6 * w + 2)) ≤ (s.1 (153 + 6 * w + 3)) + 1) by omega)]; simp)
      obtain ⟨m', i1, i2⟩ := go (m_up m (162 + i) h 0) (f0 0) (by rw [m_up_eq, eg]; rfl)
      refine ⟨m', ?_, i2⟩
      rw [f_X3_fillGains_L21]
      refine (if_neg (nI_ge (b := 28) (by omega) (by decide))).trans ?_
      refine (bnd_of (wrN h28 (by decide))).trans ?_
      refine (bnd_of (rdX (k := 2) rfl (by decide) (by decide) c2)).trans ?_
      refine (bnd_of (rdX (k := 3) rfl (by decide) (by decide) c3)).trans ?_
      rw [el]
      exact (if_pos (nI_lt q (by omega))).trans i1
    · have hO1 : oH s.1 w (m_up m (162 + i) h 0) := fun x hx => (m_up_na (by omega)).trans (hO x hx)
      have rc := X_runCost hS.w.b hw hO1 d3.1 d3.2 (show h + (s.1 (153 + 6 * w + 2)) ≤ (s.1 (153 + 6 * w + 3)) + 1 by omega)
      have far := osum_far (f := hC s.1 999 w) (s.1 (153 + 6 * w + 2)) h
      have st : ∀ r, (bnd (f_X0_runCost (nI h) (nI (s.1 (153 + 6 * w + 2))) (m_up m (162 + i) h 0)) fun q13 => if q13 = (-9 : Int32) then (bnd (wrA (162 + i) 28 (nI h) (0 : Int32) (m_up m (162 + i) h 0)) fun m15 => f_X3_fillGains_L21 i w n (nI h + (1 : Int32)) m15) else (bnd (rdA (44 + w) 6 (4 : Int32) (m_up m (162 + i) h 0)) fun v17 => bnd (wrA (162 + i) 28 (nI h) (v17 - q13) (m_up m (162 + i) h 0)) fun m19 => f_X3_fillGains_L21 i w n (nI h + (1 : Int32)) m19)) = r → f_X3_fillGains_L21 i w (n + 1) (nI h) m = r := fun r hr => by
        rw [f_X3_fillGains_L21]
        refine (if_neg (nI_ge (b := 28) (by omega) (by decide))).trans ?_
        refine (bnd_of (wrN h28 (by decide))).trans ?_
        refine (bnd_of (rdX (k := 2) rfl (by decide) (by decide) c2)).trans ?_
        refine (bnd_of (rdX (k := 3) rfl (by decide) (by decide) c3)).trans ?_
        rw [el]
        refine (if_neg (nI_nlt (by omega) (by omega))).trans ?_
        exact (bnd_of (rdX (k := 2) rfl (by decide) (by decide) c2)).trans hr
      have f1 : ∀ v a x, ¬ (a = 162 + i ∧ x = h) → m_up (m_up m (162 + i) h 0) (162 + i) h v a x = m a x := fun v a x q => (if_neg q).trans (if_neg q)
      cases eo : osumF (hC s.1 999 w) h (s.1 (153 + 6 * w + 2)) with
      | none =>
        rw [eo] at far rc
        have far : 100000 ≤ rF s.1 999 w h (s.1 (153 + 6 * w + 2)) := far
        have eg : gn s.1 w h = 0 := if_neg (by
          unfold fe
          rw [decide_eq_false (show ¬ rF s.1 999 w h (s.1 (153 + 6 * w + 2)) < 100000 by omega)]; simp)
        obtain ⟨m', i1, i2⟩ := go _ (f1 0) (by rw [m_up_eq, eg]; rfl)
        refine ⟨m', st _ ?_, i2⟩
        refine (bnd_of rc).trans ?_
        refine (if_pos rfl).trans ?_
        exact (bnd_of (wrN h28 (by decide))).trans i1
      | some v =>
        rw [eo] at far rc
        have far : rF s.1 999 w h (s.1 (153 + 6 * w + 2)) = v := far
        have hv : v ≤ (s.1 (153 + 6 * w + 2)) * 81 := osumF_le (B := 81) _ _ _ (fun j x q1 q2 q3 => hC_le hS.w.b hw (by omega) q3) eo
        have hv2 : (s.1 (153 + 6 * w + 2)) * 81 ≤ 6 * 81 := Nat.mul_le_mul_right _ d3.2
        have eg : gn s.1 w h = ((s.1 (153 + 6 * w + 4)) : Int) - (v : Int) := by
          unfold gn
          rw [if_pos (by
            unfold fe
            rw [decide_eq_true (show h + (s.1 (153 + 6 * w + 2)) ≤ (s.1 (153 + 6 * w + 3)) + 1 by omega), decide_eq_true (show rF s.1 999 w h (s.1 (153 + 6 * w + 2)) < 100000 by omega)]; rfl), far]
        obtain ⟨m', i1, i2⟩ := go _ (f1 (nI (s.1 (153 + 6 * w + 4)) - nI v)) (by rw [m_up_eq, eg, ← jI_sub, jI_n, jI_n])
        refine ⟨m', st _ ?_, i2⟩
        refine (bnd_of rc).trans ?_
        refine (if_neg (n9 (by omega))).trans ?_
        refine (bnd_of (rdX (k := 4) rfl (by decide) (by decide) c4)).trans ?_
        exact (bnd_of (wrN h28 (by decide))).trans i1
/-- the rows of the plan -/
def plR (t : Nat → Nat) (m : mM) : Prop := m 159 2 = nI (rk t (t 1)) ∧ ∀ v, v < t 1 → (t (153 + 6 * v + 1)) = 0 → m 160 (rk t v) = nI v ∧ ∀ h, h < 28 → m (162 + rk t v) h = jI (gn t v h)
theorem X_mkL {s : aSt} (hS : SI s) (h3 : rk s.1 (s.1 1) ≤ 3) : ∀ (k n w : Nat) (m : mM), w + k = s.1 1 → k < n → XI s m → m 159 2 = nI (rk s.1 w) → (∀ v, v < w → (s.1 (153 + 6 * v + 1)) = 0 → m 160 (rk s.1 v) = nI v ∧ ∀ h, h < 28 → m (162 + rk s.1 v) h = jI (gn s.1 v h)) → ∃ m', f_X3_make_L7 n (nI w) m = some m' ∧ plR s.1 m' ∧ xN m m' := by
  have w0 := hS.w.w0
  intro k
  induction k with
  | zero =>
    intro n w m hw hn hX hr hp
    obtain ⟨n, rfl⟩ : ∃ z, n = z + 1 := ⟨n - 1, by omega⟩
    have hwe : w = s.1 1 := by omega
    refine ⟨m, ?_, ⟨by rw [hr, hwe], fun v hv => hp v (by omega)⟩, xN.rf m⟩
    rw [f_X3_make_L7]
    exact if_pos (by rw [hX.o1]; exact nI_le (by omega) (by omega))
  | succ k ih =>
    intro n w m hw hn hX hr hp
    obtain ⟨n, rfl⟩ : ∃ z, n = z + 1 := ⟨n - 1, by omega⟩
    have hw1 : w < s.1 1 := by omega
    obtain ⟨d1, d2, d3, d4, d5, d6⟩ := hS.w.wk hw1
    have c1 : m (44 + w) 1 = nI (s.1 (153 + 6 * w + 1)) := (hX.x.w (k := 1) (by omega) (by omega)).trans (dcN (by omega))
    have hle := rk_m (t := s.1) (show w ≤ s.1 1 by omega)
    by_cases e3 : 3 ≤ rk s.1 w
    · refine ⟨m, ?_, ⟨by rw [hr]; exact nIq (by omega), fun v hv hs => hp v ?_ hs⟩, xN.rf m⟩
      · rw [f_X3_make_L7]
        refine (if_neg (by rw [hX.o1]; exact nI_ge (by omega) (by omega))).trans ?_
        exact if_pos (by rw [hr]; exact nI_le (a := 3) e3 (by omega))
      · refine Classical.byContradiction (fun z => ?_)
        have a1 := rk_lt (t := s.1) hv hs
        have a2 := rk_m (t := s.1) (show w ≤ v by omega)
        omega
    · have st : ∀ r, (if nI (s.1 (153 + 6 * w + 1)) = 0 then (bnd (wrA 160 3 (m 159 2) (nI w) m) fun m7 => bnd (ckR 3 (m7 159 2)) fun j9 => bnd (f_X3_fillGains (nI w) j9 m7) fun q11 => bnd (some (m_up q11 159 2 ((q11 159 2) + (1 : Int32)))) fun m13 => f_X3_make_L7 n (nI w + (1 : Int32)) m13) else f_X3_make_L7 n (nI w + (1 : Int32)) m) = r → f_X3_make_L7 (n + 1) (nI w) m = r := fun r hr' => by
        rw [f_X3_make_L7]
        refine (if_neg (by rw [hX.o1]; exact nI_ge (by omega) (by omega))).trans ?_
        refine (if_neg (by rw [hr]; exact nI_ge (b := 3) (by omega) (by decide))).trans ?_
        refine (bnd_of (ckN (show w < 6 by omega) (by decide))).trans ?_
        exact (bnd_of (rdX (k := 1) rfl (by decide) (by decide) c1)).trans hr'
      have hrs := rk_s (t := s.1) w
      by_cases e : (s.1 (153 + 6 * w + 1)) = 0
      · have f1 : xN m (m_up m 160 (rk s.1 w) (nI w)) := fun a i q => m_up_na (by omega)
        have hX1 := hX.n f1
        obtain ⟨m1, j1, j2, j3, j4⟩ := X_choose hS.w.b hw1 hX1.x
        have hX2 := hX1.n j4.n
        obtain ⟨m2, g1, g2, g3⟩ := X_fgL hS hw1 (show rk s.1 w < 3 by omega) 28 fU 0 m1 rfl (by decide) hX2 j3 (fun x hx => absurd hx (Nat.not_lt_zero _))
        have fg : f_X3_fillGains (nI w) (rk s.1 w) (m_up m 160 (rk s.1 w) (nI w)) = some m2 := by
          unfold f_X3_fillGains
          refine (bnd_of (ckN (show w < 6 by omega) (by decide))).trans ?_
          refine (bnd_of j1).trans ?_
          exact (bnd_of g1).trans rfl
        have q2 : m2 159 2 = nI (rk s.1 w) := (g3 159 2 (by omega)).trans ((j4 159 2 (by omega) (by omega) (by omega)).trans ((m_up_na (by decide)).trans hr))
        have fx2 : xN m (m_up m2 159 2 (m2 159 2 + 1)) := fun a i q => by
          rw [m_up_na (by omega), g3 a i (by omega), j4.n a i q, f1 a i q]
        obtain ⟨m', i1, i2, i3⟩ := ih n (w + 1) (m_up m2 159 2 (m2 159 2 + 1)) (by omega) (by omega) (hX.n fx2) (by rw [m_up_eq, q2, nI_1, hrs, e]) (fun v hv hs => by
          by_cases z : v = w
          · subst z
            refine ⟨?_, fun h hh => (m_up_na (by omega)).trans (g2 h hh)⟩
            rw [m_up_na (by omega), g3 160 _ (by omega), j4 160 _ (by omega) (by omega) (by omega), m_up_eq]
          · have hv2 : v < w := by omega
            have hlt := rk_lt (t := s.1) hv2 hs
            obtain ⟨p1, p2⟩ := hp v hv2 hs
            refine ⟨?_, fun h hh => ?_⟩
            · rw [m_up_na (by omega), g3 160 _ (by omega), j4 160 _ (by omega) (by omega) (by omega), m_up_ni (by omega)]
              exact p1
            · rw [m_up_na (by omega), g3 _ _ (by omega), j4 _ _ (by omega) (by omega) (by omega), m_up_na (by omega)]
              exact p2 h hh)
        refine ⟨m', st _ ?_, i2, fx2.tr i3⟩
        refine (if_pos (nIq e)).trans ?_
        rw [hr]
        refine (bnd_of (wrN (show rk s.1 w < 3 by omega) (by decide))).trans ?_
        rw [show m_up m 160 (rk s.1 w) (nI w) 159 2 = nI (rk s.1 w) from (m_up_na (by decide)).trans hr]
        refine (bnd_of (ckN (show rk s.1 w < 3 by omega) (by decide))).trans ?_
        refine (bnd_of fg).trans ?_
        refine (bnd_of rfl).trans ?_
        rw [nI_1]
        exact i1
      · obtain ⟨m', i1, i2, i3⟩ := ih n (w + 1) m (by omega) (by omega) hX (by rw [hr, hrs]; exact nIq (by omega)) (fun v hv hs => hp v (by
          by_cases z : v = w
          · subst z; exact absurd hs e
          · omega) hs)
        refine ⟨m', st _ ?_, i2, i3⟩
        refine (if_neg (nIn (b := 0) (by omega) (by omega) e)).trans ?_
        rw [nI_1]; exact i1
end Plan
