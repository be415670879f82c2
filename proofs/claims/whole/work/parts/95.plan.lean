/-! all, begin -/
def bX (t : Nat → Nat) (b : wB) (m : mM) : Prop := match b with
  | none => m 159 7 = jI (-1)
  | some x => m 159 7 = jI x.1 ∧ ∀ v, v < t 1 → (t (153 + 6 * v + 1)) = 0 → m 166 (rk t v) = dc (x.2 v)
def bXd (b : wB) : Prop := ∀ x, b = some x → 0 ≤ x.1 ∧ x.1 ≤ 10000
def yF (m m' : mM) : Prop := ∀ a i, a ≠ 165 → a ≠ 166 → ¬ (a = 159 ∧ i = 7) → m' a i = m a i
theorem yF.rf (m : mM) : yF m m := fun _ _ _ _ _ => rfl
theorem yF.tr {m m1 m2 : mM} (h1 : yF m m1) (h2 : yF m1 m2) : yF m m2 := fun a i x y z => (h2 a i x y z).trans (h1 a i x y z)
theorem yF.u165 (m : mM) (k : Nat) (v : Int32) : yF m (m_up m 165 k v) := fun a i x _ _ => m_up_na x
theorem yF.n {m m' : mM} (h : yF m m') : xN m m' := fun a i q => h a i (by omega) (by omega) (by omega)
theorem plR.y {t : Nat → Nat} {m m' : mM} (hW : WB t) (h3 : rk t (t 1) ≤ 3) (h : plR t m) (e : yF m m') : plR t m' := by
  refine ⟨(e 159 2 (by omega) (by omega) (by omega)).trans h.1, fun v hv hs => ?_⟩
  have hlt := rk_lt (t := t) hv hs
  obtain ⟨h1, h2⟩ := h.2 v hv hs
  exact ⟨(e 160 _ (by omega) (by omega) (by omega)).trans h1, fun x hx => (e _ _ (by omega) (by omega) (by omega)).trans (h2 x hx)⟩
theorem bX.u165 {t : Nat → Nat} {b : wB} {m : mM} (h : bX t b m) (k : Nat) (v : Int32) : bX t b (m_up m 165 k v) := by
  cases b with
  | none => exact (m_up_na (by decide)).trans h
  | some x => exact ⟨(m_up_na (by decide)).trans h.1, fun y hy hs => (m_up_na (by decide)).trans (h.2 y hy hs)⟩
section Try
variable {s : aSt}
/-- what a call of tryRow does -/
def tQ (s : aSt) (w : Nat) (F : mM → Option mM) (b' : wB) (m : mM) : Prop := ∃ m', F m = some m' ∧ bX s.1 b' m' ∧ bXd b' ∧ (∀ v, v < w → (s.1 (153 + 6 * v + 1)) = 0 → m' 165 (rk s.1 v) = m 165 (rk s.1 v)) ∧ yF m m'
def cQ (s : aSt) (w : Nat) (cur : Nat → Nat) (m : mM) : Prop := ∀ v, v < w → (s.1 (153 + 6 * v + 1)) = 0 → m 165 (rk s.1 v) = dc (cur v)
theorem X_t74 (hS : SI s) (h3 : rk s.1 (s.1 1) ≤ 3) {w tk : Nat} {sum : Int} {F : Nat → wB → wB} (hw : w < s.1 1) (hsd : (s.1 (153 + 6 * w + 1)) = 0) (htk : tk < 2 ^ 28) {self : Int32 → Int32 → Int32 → mM → Option mM} {cur : Nat → Nat} (hs : ∀ (h : Nat) (b : wB) (m : mM), h < 28 → okW true s.1 w tk h = true → plR s.1 m → XI s m → cQ s w cur m → m 165 (rk s.1 w) = nI h → bX s.1 b m → bXd b → tQ s w (self (nI (rk s.1 w + 1)) (nI (tk ||| bitsR (s.1 (153 + 6 * w + 2)) h)) (jI (sum + gn s.1 w h))) (F h b) m) : ∀ (k n h : Nat) (b : wB) (m : mM), h + k = 28 → k < n → plR s.1 m → XI s m → cQ s w cur m → bX s.1 b m → bXd b → tQ s w (f_X3_tryRow_L74 self (nI (rk s.1 w)) (nI tk) (jI sum) (nI (s.1 (153 + 6 * w + 2))) n (nI h)) (wyL (okW true s.1 w tk) F k h b) m := by
  have w0 := hS.w.w0
  obtain ⟨d1, d2, d3, d4, d5, d6⟩ := hS.w.wk hw
  have hlt := rk_lt (t := s.1) hw hsd
  intro k
  induction k with
  | zero =>
    intro n h b m hh hn hp hX hc hb hd
    obtain ⟨n, rfl⟩ : ∃ z, n = z + 1 := ⟨n - 1, by omega⟩
    refine ⟨m, ?_, hb, hd, fun _ _ _ => rfl, yF.rf m⟩
    rw [f_X3_tryRow_L74]
    exact if_pos (nI_le (a := 28) (by omega) (by omega))
  | succ k ih =>
    intro n h b m hh hn hp hX hc hb hd
    obtain ⟨n, rfl⟩ : ∃ z, n = z + 1 := ⟨n - 1, by omega⟩
    have h28 : h < 28 := by omega
    have hg := gn_b hS.w.b hw h
    have hv := (hp.2 w hw hsd).2 h h28
    simp only [wyL]
    have st : ∀ r, (if jI (gn s.1 w h) ≤ 0 then f_X3_tryRow_L74 self (nI (rk s.1 w)) (nI tk) (jI sum) (nI (s.1 (153 + 6 * w + 2))) n (nI h + (1 : Int32)) m else if (nI tk &&& ((((1 : Int32) <<< (nI (s.1 (153 + 6 * w + 2)) &&& 31)) - (1 : Int32)) <<< (nI h &&& 31))) = 0 then (bnd (wrA 165 3 (nI (rk s.1 w)) (nI h) m) fun m17 => bnd (ckR 3 (nI (rk s.1 w))) fun j19 => bnd (rdA (162 + j19) 28 (nI h) m17) fun v21 => bnd (self (nI (rk s.1 w) + (1 : Int32)) (nI tk ||| ((((1 : Int32) <<< (nI (s.1 (153 + 6 * w + 2)) &&& 31)) - (1 : Int32)) <<< (nI h &&& 31))) (jI sum + v21) m17) fun q23 => f_X3_tryRow_L74 self (nI (rk s.1 w)) (nI tk) (jI sum) (nI (s.1 (153 + 6 * w + 2))) n (nI h + (1 : Int32)) q23) else f_X3_tryRow_L74 self (nI (rk s.1 w)) (nI tk) (jI sum) (nI (s.1 (153 + 6 * w + 2))) n (nI h + (1 : Int32)) m) = r → f_X3_tryRow_L74 self (nI (rk s.1 w)) (nI tk) (jI sum) (nI (s.1 (153 + 6 * w + 2))) (n + 1) (nI h) m = r := fun r hr => by
      rw [f_X3_tryRow_L74]
      refine (if_neg (nI_ge (b := 28) (by omega) (by decide))).trans ?_
      refine (bnd_of rfl).trans ?_
      refine (bnd_of (ckN (show rk s.1 w < 3 by omega) (by decide))).trans ?_
      exact (bnd_of (rdX rfl h28 (by decide) hv)).trans hr
    have skip : okW true s.1 w tk h = false → tQ s w (f_X3_tryRow_L74 self (nI (rk s.1 w)) (nI tk) (jI sum) (nI (s.1 (153 + 6 * w + 2))) n (nI h + (1 : Int32))) (wyL (okW true s.1 w tk) F k (h + 1) (if okW true s.1 w tk h = true then F h b else b)) m := fun z => by
      rw [z, if_neg (by decide), nI_1]
      exact ih n (h + 1) b m (by omega) (by omega) hp hX hc hb hd
    have z0 : (0 : Int32) = jI 0 := rfl
    by_cases e1 : gn s.1 w h ≤ 0
    · obtain ⟨m2, b1, b2⟩ := skip (by
        unfold okW
        rw [decide_eq_false (show ¬ 0 < gn s.1 w h by omega)]; simp)
      exact ⟨m2, st _ ((if_pos (by rw [z0]; exact (jI_le (by omega) (by omega) (by omega) (by omega)).mpr e1)).trans b1), b2⟩
    · have hfe : fe s.1 w h = true := by
        refine Classical.byContradiction (fun z => ?_)
        have : gn s.1 w h = 0 := if_neg z
        omega
      have hfe2 := hfe
      unfold fe at hfe2
      simp only [Bool.and_eq_true, decide_eq_true_eq] at hfe2
      have hbl := bitsR_lt (n := (s.1 (153 + 6 * w + 2))) (x := h) (by omega)
      have hal : tk &&& bitsR (s.1 (153 + 6 * w + 2)) h ≤ bitsR (s.1 (153 + 6 * w + 2)) h := Nat.and_le_right
      have eb := bitsR_i (n := (s.1 (153 + 6 * w + 2))) (x := h) d3.2 (by omega)
      have n1 : ¬ jI (gn s.1 w h) ≤ 0 := fun z => e1 (by rw [z0] at z; exact (jI_le (by omega) (by omega) (by omega) (by omega)).mp z)
      by_cases e2 : tk &&& bitsR (s.1 (153 + 6 * w + 2)) h = 0
      · have hok : okW true s.1 w tk h = true := by
          unfold okW
          rw [hfe, Nat.and_comm, decide_eq_true e2, decide_eq_true (show 0 < gn s.1 w h by omega)]
          rfl
        have f1 := yF.u165 m (rk s.1 w) (nI h)
        have hp1 := hp.y hS.w.b h3 f1
        have hX1 := hX.n f1.n
        have hc1 : ∀ v, v < w → (s.1 (153 + 6 * v + 1)) = 0 → m_up m 165 (rk s.1 w) (nI h) 165 (rk s.1 v) = m 165 (rk s.1 v) := fun v hv2 hs2 => by
          have := rk_lt (t := s.1) hv2 hs2
          exact m_up_ni (by omega)
        obtain ⟨m1, a1, a2, a3, a4, a5⟩ := hs h b (m_up m 165 (rk s.1 w) (nI h)) h28 hok hp1 hX1 (fun v hv2 hs2 => (hc1 v hv2 hs2).trans (hc v hv2 hs2)) (m_up_eq _ _ _ _) (hb.u165 _ _) hd
        have f2 := f1.tr a5
        obtain ⟨m2, b1, b2, b3, b4, b5⟩ := ih n (h + 1) (F h b) m1 (by omega) (by omega) (hp.y hS.w.b h3 f2) (hX.n f2.n) (fun v hv2 hs2 => (a4 v hv2 hs2).trans ((hc1 v hv2 hs2).trans (hc v hv2 hs2))) a2 a3
        refine ⟨m2, st _ ?_, by rw [if_pos hok]; exact b2, by rw [if_pos hok]; exact b3, fun v hv2 hs2 => (b4 v hv2 hs2).trans ((a4 v hv2 hs2).trans (hc1 v hv2 hs2)), f2.tr b5⟩
        refine (if_neg n1).trans ?_
        rw [eb, anN, orN]
        refine (if_pos (nIq e2)).trans ?_
        refine (bnd_of (wrN (show rk s.1 w < 3 by omega) (by decide))).trans ?_
        refine (bnd_of (ckN (show rk s.1 w < 3 by omega) (by decide))).trans ?_
        refine (bnd_of (rdX rfl h28 (by decide) ((m_up_na (by omega)).trans hv))).trans ?_
        rw [jI_add]
        rw [← nI_1] at a1
        refine (bnd_of a1).trans ?_
        rw [nI_1 h]; exact b1
      · obtain ⟨m2, b1, b2⟩ := skip (by
          unfold okW
          rw [Nat.and_comm, decide_eq_false e2]; simp)
        refine ⟨m2, st _ ?_, b2⟩
        refine (if_neg n1).trans ?_
        rw [eb, anN]
        exact (if_neg (nIn (b := 0) (by omega) (by omega) e2)).trans b1
theorem X_try (hS : SI s) (h3 : rk s.1 (s.1 1) ≤ 3) : ∀ (k fd w tk : Nat) (sum : Int) (cur : Nat → Nat) (b : wB) (m : mM), w + k = s.1 1 → k < fd → plR s.1 m → XI s m → cQ s w cur m → (∀ j, w ≤ j → cur j = 999) → bX s.1 b m → bXd b → tk < 2 ^ 28 → 0 ≤ sum → sum ≤ 99 * (w : Int) → tQ s w (f_X3_tryRow fd (nI (rk s.1 w)) (nI tk) (jI sum)) (wy true s.1 k w tk sum cur b) m := by
  have w0 := hS.w.w0
  intro k
  induction k with
  | zero =>
    intro fd w tk sum cur b m hk hf hp hX hc hc9 hb hd ht hs1 hs2
    obtain ⟨fd, rfl⟩ : ∃ z, fd = z + 1 := ⟨fd - 1, by omega⟩
    have hwe : w = s.1 1 := by omega
    have st : ∀ r, (if jI sum ≤ (m 159 7) then some m else (bnd (some (m_up m 159 7 (jI sum))) fun m30 => bnd (some (m_cpy m30 165 166 3)) fun m32 => some m32)) = r → f_X3_tryRow (fd + 1) (nI (rk s.1 w)) (nI tk) (jI sum) m = r := fun r hr => by
      rw [f_X3_tryRow]
      exact (if_neg (by rw [hp.1, hwe]; exact nI_nlt (Nat.le_refl _) (by omega))).trans hr
    have upd : ¬ jI sum ≤ m 159 7 → tQ s w (f_X3_tryRow (fd + 1) (nI (rk s.1 w)) (nI tk) (jI sum)) (some (sum, cur)) m := fun hl => by
      refine ⟨m_cpy (m_up m 159 7 (jI sum)) 165 166 3, st _ ((if_neg hl).trans rfl), ⟨?_, fun v hv hs => ?_⟩, fun x hx => by cases hx; exact ⟨hs1, by show sum ≤ 10000; omega⟩, fun v hv hs => ?_, fun a i x y z => ?_⟩
      · show m_cpy _ 165 166 3 159 7 = jI sum
        unfold m_cpy
        rw [if_neg (by omega), m_up_eq]
      · have hlt := rk_lt (t := s.1) hv hs
        show m_cpy _ 165 166 3 166 (rk s.1 v) = dc (cur v)
        unfold m_cpy
        rw [if_pos ⟨rfl, by omega⟩, m_up_na (by decide)]
        exact hc v (by omega) hs
      · unfold m_cpy
        rw [if_neg (by omega), m_up_na (by decide)]
      · unfold m_cpy
        rw [if_neg (by omega)]
        exact if_neg z
    cases b with
    | none =>
      have hb : m 159 7 = jI (-1) := hb
      exact upd (by rw [hb]; exact fun z => by have := (jI_le (by omega) (by omega) (by omega) (by omega)).mp z; omega)
    | some x =>
      obtain ⟨x1, x2⟩ := hd x rfl
      show tQ s w _ (if x.1 < sum then some (sum, cur) else some x) m
      by_cases e : x.1 < sum
      · rw [if_pos e]
        exact upd (by rw [hb.1]; exact fun z => by have := (jI_le (by omega) (by omega) (by omega) (by omega)).mp z; omega)
      · rw [if_neg e]
        exact ⟨m, st _ (if_pos (by rw [hb.1]; exact (jI_le (by omega) (by omega) (by omega) (by omega)).mpr (by omega))), hb, hd, fun _ _ _ => rfl, yF.rf m⟩
  | succ k ih =>
    intro fd w tk sum cur b m hk hf hp hX hc hc9 hb hd ht hs1 hs2
    have hw : w < s.1 1 := by omega
    obtain ⟨d1, d2, d3, d4, d5, d6⟩ := hS.w.wk hw
    have hrs := rk_s (t := s.1) w
    simp only [wy]
    by_cases e : (s.1 (153 + 6 * w + 1)) = 1
    · rw [if_pos e]
      have er : rk s.1 (w + 1) = rk s.1 w := by omega
      obtain ⟨m', q1, q2, q3, q4, q5⟩ := ih fd (w + 1) tk sum cur b m (by omega) (by omega) hp hX (fun v hv hs => hc v (by
        by_cases z : v = w
        · subst z; omega
        · omega) hs) (fun j hj => hc9 j (by omega)) hb hd ht hs1 (by omega)
      rw [er] at q1
      exact ⟨m', q1, q2, q3, fun v hv => q4 v (by omega), q5⟩
    · obtain ⟨fd, rfl⟩ : ∃ z, fd = z + 1 := ⟨fd - 1, by omega⟩
      have e0 : (s.1 (153 + 6 * w + 1)) = 0 := by omega
      have hlt := rk_lt (t := s.1) hw e0
      have er : rk s.1 (w + 1) = rk s.1 w + 1 := by omega
      have f1 := yF.u165 m (rk s.1 w) (-9)
      have hc1 : ∀ v, v < w → (s.1 (153 + 6 * v + 1)) = 0 → m_up m 165 (rk s.1 w) (-9) 165 (rk s.1 v) = m 165 (rk s.1 v) := fun v hv2 hs2 => by
        have := rk_lt (t := s.1) hv2 hs2
        exact m_up_ni (by omega)
      obtain ⟨m1, a1, a2, a3, a4, a5⟩ := ih fd (w + 1) tk sum cur b (m_up m 165 (rk s.1 w) (-9)) (by omega) (by omega) (hp.y hS.w.b h3 f1) (hX.n f1.n) (fun v hv hs => by
        by_cases z : v = w
        · subst z; rw [m_up_eq, hc9 v (Nat.le_refl _)]; rfl
        · exact (hc1 v (by omega) hs).trans (hc v (by omega) hs)) (fun j hj => hc9 j (by omega)) (hb.u165 _ _) hd ht hs1 (by omega)
      rw [er] at a1
      have f2 := f1.tr a5
      have hp1 := hp.y hS.w.b h3 f2
      have hX1 := hX.n f2.n
      have c1 : ∀ v, v < w → (s.1 (153 + 6 * v + 1)) = 0 → m1 165 (rk s.1 v) = m 165 (rk s.1 v) := fun v hv hs => (a4 v (by omega) hs).trans (hc1 v hv hs)
      have c2 : m1 (44 + w) 2 = nI (s.1 (153 + 6 * w + 2)) := (hX1.x.w (k := 2) (by omega) (by omega)).trans (dcN (by omega))
      rw [if_neg e]
      obtain ⟨m2, b1, b2, b3, b4, b5⟩ := X_t74 hS h3 (sum := sum) (cur := cur) hw e0 ht (self := f_X3_tryRow fd) (F := fun h b => wy true s.1 k (w + 1) (tk ||| bitsR (s.1 (153 + 6 * w + 2)) h) (sum + gn s.1 w h) (uB cur w h) b) (fun h b m hh ho hp hX hc2 hcw hb hd => by
        have hg := gn_b hS.w.b hw h
        unfold okW fe at ho
        simp only [Bool.and_eq_true, Bool.or_eq_true, decide_eq_true_eq, Bool.not_true, Bool.false_eq_true, false_or] at ho
        have hbl : bitsR (s.1 (153 + 6 * w + 2)) h < 2 ^ 28 := bitsR_lt (by
          have := ho.1.1.1
          omega)
        have hgp : 0 < gn s.1 w h := ho.2
        obtain ⟨m', q1, q2, q3, q4, q5⟩ := ih fd (w + 1) (tk ||| bitsR (s.1 (153 + 6 * w + 2)) h) (sum + gn s.1 w h) (uB cur w h) b m (by omega) (by omega) hp hX (fun v hv hs => by
          unfold uB
          by_cases z : v = w
          · subst z; rw [if_pos rfl, dcN (by omega)]; exact hcw
          · rw [if_neg z]; exact hc2 v (by omega) hs) (fun j hj => by unfold uB; rw [if_neg (by omega)]; exact hc9 j (by omega)) hb hd (Nat.or_lt_two_pow ht hbl) (by omega) (by omega)
        rw [er] at q1
        exact ⟨m', q1, q2, q3, fun v hv => q4 v (by omega), q5⟩) 28 fU 0 (wy true s.1 k (w + 1) tk sum cur b) m1 rfl (by decide) hp1 hX1 (fun v hv hs => (c1 v hv hs).trans (hc v hv hs)) a2 a3
      refine ⟨m2, ?_, b2, b3, fun v hv hs => (b4 v hv hs).trans (c1 v hv hs), f2.tr b5⟩
      rw [f_X3_tryRow]
      refine (if_pos (by rw [hp.1]; exact nI_lt hlt (by omega))).trans ?_
      refine (bnd_of (wrN (show rk s.1 w < 3 by omega) (by decide))).trans ?_
      rw [nI_1]
      refine (bnd_of a1).trans ?_
      refine (bnd_of (rdX rfl (show rk s.1 w < 3 by omega) (by decide) (hp1.2 w hw e0).1)).trans ?_
      refine (bnd_of (ckN (show w < 6 by omega) (by decide))).trans ?_
      refine (bnd_of (rdX (k := 2) rfl (by decide) (by decide) c2)).trans ?_
      exact (bnd_of b1).trans rfl
/-- the best way -/
def bw (t : Nat → Nat) : wB := wy false t (t 1) 0 0 0 (fun _ => 999) none
theorem X_make (hS : SI s) (h3 : rk s.1 (s.1 1) ≤ 3) {m : mM} (hX : XI s m) : ∃ m', f_X3_make m = some m' ∧ bX s.1 (bw s.1) m' ∧ plR s.1 m' ∧ xN m m' := by
  have w0 := hS.w.w0
  have f0 : xN m (m_up m 159 2 0) := fun a i q => m_up_na (by omega)
  obtain ⟨m1, a1, a2, a3⟩ := X_mkL hS h3 (s.1 1) fU 0 (m_up m 159 2 0) (by omega) (by show _ < 300; omega) (hX.n f0) (m_up_eq _ _ _ _) (fun v hv => absurd hv (Nat.not_lt_zero _))
  have f1 : xN m1 (m_up m1 159 7 (-1)) := fun a i q => m_up_na (by omega)
  have y1 : yF m1 (m_up m1 159 7 (-1)) := fun a i _ _ z => if_neg z
  have hX1 := ((hX.n f0).n a3).n f1
  obtain ⟨m2, b1, b2, b3, b4, b5⟩ := X_try hS h3 (s.1 1) fR 0 0 0 (fun _ => 999) none (m_up m1 159 7 (-1)) (by omega) (by show _ < 12; omega) (a2.y hS.w.b h3 y1) hX1 (fun v hv => absurd hv (Nat.not_lt_zero _)) (fun _ _ => rfl) (m_up_eq _ _ _ _) (fun x hx => by cases hx) (by decide) (by omega) (by omega)
  refine ⟨m2, ?_, by unfold bw; rw [wy_eq]; exact b2, (a2.y hS.w.b h3 y1).y hS.w.b h3 b5, ((f0.tr a3).tr f1).tr b5.n⟩
  unfold f_X3_make
  refine (bnd_of rfl).trans ?_
  refine (bnd_of a1).trans ?_
  refine (bnd_of rfl).trans ?_
  exact (bnd_of b1).trans rfl
theorem M_findsAll (hS : SI s) {m : mM} (hM : MI s m) : ∃ m', f_X9_findsAll m = some m' ∧ bM (bw s.1) m' ∧ MI s m' ∧ hiF m m' := by
  have w0 := hS.w.w0
  have hM1 : MI s (m_up m 187 17 (-100000)) := hM.cg (fun a i q => if_neg (by omega))
  obtain ⟨m2, b1, b2, b3, b4, b5, b6⟩ := M_ways hS (s.1 1) fR 0 0 0 (fun _ => 999) none (m_up m 187 17 (-100000)) (by omega) (by show _ < 12; omega) hM1 (fun v hv => absurd hv (Nat.not_lt_zero _)) (fun _ _ => rfl) (m_up_eq _ _ _ _) (fun x hx => by cases hx) (by decide) (by omega) (by omega)
  refine ⟨m2, ?_, b2, b4, fun a i q => (b6 a i (by omega) (by omega) (by omega)).trans (m_up_na (by omega))⟩
  unfold f_X9_findsAll
  refine (bnd_of rfl).trans ?_
  exact (bnd_of b1).trans rfl
theorem wyL_sp {G : Nat → Bool} {F : Nat → wB → wB} {P : wB → Prop} (hF : ∀ h b, P b → P (F h b)) : ∀ (k h : Nat) (b : wB), P b → P (wyL G F k h b) := by
  intro k
  induction k with
  | zero => intro h b hb; exact hb
  | succ k ih =>
    intro h b hb
    simp only [wyL]
    refine ih (h + 1) _ ?_
    split
    · exact hF h b hb
    · exact hb
theorem wy_sp {t : Nat → Nat} {v : Nat} (hv : (t (153 + 6 * v + 1)) = 1) : ∀ (k w tk : Nat) (sum : Int) (cur : Nat → Nat) (b : wB), cur v = 999 → (∀ x, b = some x → x.2 v = 999) → ∀ x, wy false t k w tk sum cur b = some x → x.2 v = 999 := by
  intro k
  induction k with
  | zero =>
    intro w tk sum cur b hc hb x hx
    cases b with
    | none => cases hx; exact hc
    | some y =>
      have hx : (if y.1 < sum then some (sum, cur) else some y) = some x := hx
      by_cases e : y.1 < sum
      · rw [if_pos e] at hx; cases hx; exact hc
      · rw [if_neg e] at hx; exact hb x hx
  | succ k ih =>
    intro w tk sum cur b hc hb
    have h1 := ih (w + 1) tk sum cur b hc hb
    simp only [wy]
    by_cases e : (t (153 + 6 * w + 1)) = 1
    · rw [if_pos e]; exact h1
    · rw [if_neg e]
      exact wyL_sp (P := fun b => ∀ x, b = some x → x.2 v = 999) (fun h b hb => ih _ _ _ _ b (by
        unfold uB
        rw [if_neg (fun z => e (by rw [← z]; exact hv))]; exact hc) hb) 28 0 _ h1
theorem bw_some (t : Nat → Nat) : ∃ x, bw t = some x := by
  obtain ⟨x, h, -⟩ := wy_grow (t := t) (t 1) 0 0 0 (fun _ => 999) none
  exact ⟨x, h⟩
theorem X_boL1 (hS : SI s) (h3 : rk s.1 (s.1 1) ≤ 3) {m : mM} (hp : plR s.1 m) {a : Nat} (ha : a < s.1 1) (hs : (s.1 (153 + 6 * a + 1)) = 1) : ∀ (k n i : Nat), i + k = rk s.1 (s.1 1) → k < n → f_X3_beginOf_L2 (nI a) m n (nI i) = some (.inr ()) := by
  have w0 := hS.w.w0
  intro k
  induction k with
  | zero =>
    intro n i hi hn
    obtain ⟨n, rfl⟩ : ∃ z, n = z + 1 := ⟨n - 1, by omega⟩
    rw [f_X3_beginOf_L2]
    exact if_pos (by rw [hp.1]; exact nI_le (by omega) (by omega))
  | succ k ih =>
    intro n i hi hn
    obtain ⟨n, rfl⟩ : ∃ z, n = z + 1 := ⟨n - 1, by omega⟩
    obtain ⟨v, v1, v2, v3⟩ := rk_surj (t := s.1) (s.1 1) i (by omega)
    have hc := (hp.2 v v1 v2).1
    rw [v3] at hc
    rw [f_X3_beginOf_L2]
    refine (if_neg (by rw [hp.1]; exact nI_ge (by omega) (by omega))).trans ?_
    refine (bnd_of (rdX rfl (show i < 3 by omega) (by decide) hc)).trans ?_
    refine (if_neg (nIn (by omega) (by omega) (fun z => by subst z; omega))).trans ?_
    rw [nI_1]; exact ih n (i + 1) (by omega) (by omega)
theorem X_boL0 (hS : SI s) (h3 : rk s.1 (s.1 1) ≤ 3) {m : mM} (hp : plR s.1 m) {a : Nat} {x : Int32} (ha : a < s.1 1) (hs : (s.1 (153 + 6 * a + 1)) = 0) (hb : m 166 (rk s.1 a) = x) : ∀ (k n i : Nat), i + k = rk s.1 a → k < n → f_X3_beginOf_L2 (nI a) m n (nI i) = some (.inl x) := by
  have w0 := hS.w.w0
  have hlt := rk_lt (t := s.1) ha hs
  intro k
  induction k with
  | zero =>
    intro n i hi hn
    obtain ⟨n, rfl⟩ : ∃ z, n = z + 1 := ⟨n - 1, by omega⟩
    have : i = rk s.1 a := by omega
    subst this
    rw [f_X3_beginOf_L2]
    refine (if_neg (by rw [hp.1]; exact nI_ge (by omega) (by omega))).trans ?_
    refine (bnd_of (rdX rfl (show rk s.1 a < 3 by omega) (by decide) (hp.2 a ha hs).1)).trans ?_
    refine (if_pos rfl).trans ?_
    exact (bnd_of (rdX rfl (show rk s.1 a < 3 by omega) (by decide) hb)).trans rfl
  | succ k ih =>
    intro n i hi hn
    obtain ⟨n, rfl⟩ : ∃ z, n = z + 1 := ⟨n - 1, by omega⟩
    obtain ⟨v, v1, v2, v3⟩ := rk_surj (t := s.1) (s.1 1) i (by omega)
    have hc := (hp.2 v v1 v2).1
    rw [v3] at hc
    rw [f_X3_beginOf_L2]
    refine (if_neg (by rw [hp.1]; exact nI_ge (by omega) (by omega))).trans ?_
    refine (bnd_of (rdX rfl (show i < 3 by omega) (by decide) hc)).trans ?_
    refine (if_neg (nIn (by omega) (by omega) (fun z => by subst z; omega))).trans ?_
    rw [nI_1]; exact ih n (i + 1) (by omega) (by omega)
end Try
theorem op_all : Op f_X8_all f_X9_all := by
  intro s hS
  have hl := rk_le hS
  by_cases h3 : 3 < rk s.1 (s.1 1)
  · refine both_ref (k := 6) hS (by decide) (by decide) (fun m hX => ?_) (fun m hM => ?_)
    · unfold f_X8_all
      refine (bnd_of (X_rw hS hX)).trans ?_
      exact if_neg (nI_ge (a := 3) h3 (by omega))
    · unfold f_X9_all
      refine (bnd_of (M_few hS hM)).trans ?_
      rw [if_pos h3]
      exact if_pos rfl
  · obtain ⟨x, ex⟩ := bw_some s.1
    refine ⟨jI x.1, s, hS, XO.same (fun m hX => ?_), fun m hM => ?_⟩
    · obtain ⟨m1, a1, a2, a3, a4⟩ := X_make hS (by omega) hX
      rw [ex] at a2
      refine ⟨m1, ?_, a4⟩
      unfold f_X8_all
      refine (bnd_of (X_rw hS hX)).trans ?_
      refine (if_pos (nI_le (b := 3) (by omega) (by decide))).trans ?_
      refine (bnd_of a1).trans ?_
      rw [a2.1]
    · obtain ⟨m1, a1, a2, a3, a4⟩ := M_findsAll hS hM
      rw [ex] at a2
      refine ⟨m1, ?_, a3, a4⟩
      unfold f_X9_all
      refine (bnd_of (M_few hS hM)).trans ?_
      rw [if_neg h3]
      refine (if_neg (by decide)).trans ?_
      refine (bnd_of a1).trans ?_
      rw [a2.1]
theorem op_begin (a1 : Int32) : Op (f_X8_begin a1) (f_X9_begin a1) := by
  intro s hS
  have hl := rk_le hS
  have w0 := hS.w.w0
  rcases io a1 (n := s.1 1) (by omega) with q | ⟨w, hw, rfl⟩
  · refine both_ref (k := 1) hS (by decide) (by decide) (fun m hX => ?_) (fun m hM => ?_)
    · unfold f_X8_begin; exact (bnd_of (X_wrk0 hX q)).trans (if_pos rfl)
    · unfold f_X9_begin
      refine (bnd_of (M_wrk0 hS hM q)).trans ?_
      refine (if_pos rfl).trans ?_
      unfold f_X9_begin_J25
      exact if_neg (by decide)
  obtain ⟨d1, d2, d3, d4, d5, d6⟩ := hS.w.wk hw
  by_cases h3 : 3 < rk s.1 (s.1 1)
  · refine both_ref (k := 6) hS (by decide) (by decide) (fun m hX => ?_) (fun m hM => ?_)
    · unfold f_X8_begin
      refine (bnd_of (X_wrk1 hS hX hw)).trans ?_
      refine (if_neg (by decide)).trans ?_
      refine (bnd_of (X_rw hS hX)).trans ?_
      exact if_neg (nI_ge (a := 3) h3 (by omega))
    · unfold f_X9_begin
      refine (bnd_of (M_wrk1 hS hM hw)).trans ?_
      refine (if_neg (by decide)).trans ?_
      refine (bnd_of (M_few hS hM)).trans ?_
      rw [if_pos h3]
      refine (if_pos rfl).trans ?_
      unfold f_X9_begin_J25
      exact if_neg (by decide)
  · obtain ⟨x, ex⟩ := bw_some s.1
    refine ⟨dc (x.2 w), s, hS, XO.same (fun m hX => ?_), fun m hM => ?_⟩
    · obtain ⟨m1, a1, a2, a3, a4⟩ := X_make hS (by omega) hX
      rw [ex] at a2
      refine ⟨m1, ?_, a4⟩
      have eb : f_X3_beginOf (nI w) m1 = some (dc (x.2 w)) := by
        unfold f_X3_beginOf
        by_cases e : (s.1 (153 + 6 * w + 1)) = 1
        · refine (bnd_of (X_boL1 hS (by omega) a3 hw e (rk s.1 (s.1 1)) fU 0 (by omega) (by show _ < 300; omega))).trans ?_
          rw [wy_sp e (s.1 1) 0 0 0 (fun _ => 999) none rfl (fun x h => by cases h) x ex]
          rfl
        · have e0 : (s.1 (153 + 6 * w + 1)) = 0 := by omega
          have hlt := rk_lt (t := s.1) hw e0
          exact (bnd_of (X_boL0 hS (by omega) a3 hw e0 (a2.2 w hw e0) (rk s.1 w) fU 0 (by omega) (by show _ < 300; omega))).trans rfl
      unfold f_X8_begin
      refine (bnd_of (X_wrk1 hS hX hw)).trans ?_
      refine (if_neg (by decide)).trans ?_
      refine (bnd_of (X_rw hS hX)).trans ?_
      refine (if_pos (nI_le (b := 3) (by omega) (by decide))).trans ?_
      refine (bnd_of a1).trans ?_
      exact (bnd_of eb).trans rfl
    · obtain ⟨m1, a1, a2, a3, a4⟩ := M_findsAll hS hM
      rw [ex] at a2
      refine ⟨m1, ?_, a3, a4⟩
      unfold f_X9_begin
      refine (bnd_of (M_wrk1 hS hM hw)).trans ?_
      refine (if_neg (by decide)).trans ?_
      refine (bnd_of (M_few hS hM)).trans ?_
      rw [if_neg h3]
      refine (if_neg (by decide)).trans ?_
      unfold f_X9_begin_J25
      refine (if_pos rfl).trans ?_
      refine (bnd_of a1).trans ?_
      exact (bnd_of (rdX rfl (show w < 6 by omega) (by decide) (a2.2 w (by omega)))).trans rfl
