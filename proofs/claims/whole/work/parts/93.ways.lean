/-! all, begin: the reference's ways -/
def bM (b : wB) (m : mM) : Prop := match b with
  | none => m 187 17 = jI (-100000)
  | some x => m 187 17 = jI x.1 ∧ ∀ j, j < 6 → m 198 j = dc (x.2 j)
def bBd (b : wB) : Prop := ∀ x, b = some x → -100000 < x.1 ∧ x.1 ≤ 10000
def wF (m m' : mM) : Prop := ∀ a i, a ≠ 197 → a ≠ 198 → ¬ (a = 187 ∧ i = 17) → m' a i = m a i
theorem wF.rf (m : mM) : wF m m := fun _ _ _ _ _ => rfl
theorem wF.tr {m m1 m2 : mM} (h1 : wF m m1) (h2 : wF m1 m2) : wF m m2 := fun a i x y z => (h2 a i x y z).trans (h1 a i x y z)
theorem wF.u197 (m : mM) (k : Nat) (v : Int32) : wF m (m_up m 197 k v) := fun a i x _ _ => m_up_na x
theorem MI.wf {s : aSt} {m m' : mM} (h : MI s m) (e : wF m m') : MI s m' := h.cg (fun a i q => e a i (by omega) (by omega) (by omega))
theorem bM.cg {b : wB} {m m' : mM} (h : bM b m) (e1 : m' 187 17 = m 187 17) (e2 : ∀ j, j < 6 → m' 198 j = m 198 j) : bM b m' := by
  cases b with
  | none => exact e1.trans h
  | some x => exact ⟨e1.trans h.1, fun j hj => (e2 j hj).trans (h.2 j hj)⟩
theorem bM.u197 {b : wB} {m : mM} (h : bM b m) (k : Nat) (v : Int32) : bM b (m_up m 197 k v) := h.cg (m_up_na (by decide)) (fun j _ => m_up_na (by decide))
section WaysM
variable {s : aSt}
theorem M_w27 {self : Int32 → Int32 → Int32 → mM → Option mM} {T : Nat} (hT : T ≤ 6) : ∀ (k n j : Nat) (m : mM), j + k = 6 → k < n → ∃ m', f_X9_ways_L27 self (nI T) n (nI j) m = some m' ∧ (∀ x, j ≤ x → x < 6 → m' 198 x = if T ≤ x then -9 else m 197 x) ∧ ∀ a i, ¬ (a = 198 ∧ j ≤ i) → m' a i = m a i := by
  intro k
  induction k with
  | zero =>
    intro n j m hj hn
    obtain ⟨n, rfl⟩ : ∃ z, n = z + 1 := ⟨n - 1, by omega⟩
    refine ⟨m, ?_, fun x h1 h2 => by omega, fun _ _ _ => rfl⟩
    rw [f_X9_ways_L27]
    exact if_pos (nI_le (a := 6) (by omega) (by omega))
  | succ k ih =>
    intro n j m hj hn
    obtain ⟨n, rfl⟩ : ∃ z, n = z + 1 := ⟨n - 1, by omega⟩
    have go : ∀ v, v = (if T ≤ j then -9 else m 197 j) → ∃ m', f_X9_ways_L27 self (nI T) n (nI j + 1) (m_up m 198 j v) = some m' ∧ (∀ x, j ≤ x → x < 6 → m' 198 x = if T ≤ x then -9 else m 197 x) ∧ ∀ a i, ¬ (a = 198 ∧ j ≤ i) → m' a i = m a i := fun v hv => by
      obtain ⟨m', i1, i2, i3⟩ := ih n (j + 1) (m_up m 198 j v) (by omega) (by omega)
      refine ⟨m', by rw [nI_1]; exact i1, fun x h1 h2 => ?_, fun a i q => ?_⟩
      · by_cases z : x = j
        · subst z; rw [i3 198 x (by omega), m_up_eq, hv]
        · rw [i2 x (by omega) h2, m_up_na (by decide)]
      · rw [i3 a i (by omega)]
        unfold m_up
        rw [if_neg (by omega)]
    by_cases e : T ≤ j
    · obtain ⟨m', i1, i2⟩ := go (-9) (if_pos e).symm
      refine ⟨m', ?_, i2⟩
      rw [f_X9_ways_L27]
      refine (if_neg (nI_ge (b := 6) (by omega) (by decide))).trans ?_
      refine (if_pos (nI_le e (by omega))).trans ?_
      exact (bnd_of (wrN (show j < 6 by omega) (by decide))).trans i1
    · obtain ⟨m', i1, i2⟩ := go (m 197 j) (if_neg e).symm
      refine ⟨m', ?_, i2⟩
      rw [f_X9_ways_L27]
      refine (if_neg (nI_ge (b := 6) (by omega) (by decide))).trans ?_
      refine (if_neg (nI_ge (by omega) (by omega))).trans ?_
      refine (bnd_of (rdX rfl (show j < 6 by omega) (by decide) rfl)).trans ?_
      exact (bnd_of (wrN (show j < 6 by omega) (by decide))).trans i1
/-- what a call of ways does -/
def wQ (s : aSt) (w : Nat) (F : mM → Option mM) (b b' : wB) (m : mM) : Prop := ∃ m', F m = some m' ∧ bM b' m' ∧ bBd b' ∧ MI s m' ∧ (∀ j, j < w → m' 197 j = m 197 j) ∧ wF m m'
theorem M_w105 (hS : SI s) {w tk : Nat} {sum : Int} {F : Nat → wB → wB} (hw : w < s.1 1) (htk : tk < 2 ^ 28) {self : Int32 → Int32 → Int32 → mM → Option mM} {cur : Nat → Nat} (hs : ∀ (h : Nat) (b : wB) (m : mM), h < 28 → okW false s.1 w tk h = true → MI s m → (∀ j, j < w → m 197 j = dc (cur j)) → m 197 w = nI h → bM b m → bBd b → wQ s w (self (nI (w + 1)) (nI (tk ||| bitsR (s.1 (153 + 6 * w + 2)) h)) (jI (sum + gn s.1 w h))) b (F h b) m) : ∀ (k n h : Nat) (b : wB) (m : mM), h + k = 28 → k < n → MI s m → (∀ j, j < w → m 197 j = dc (cur j)) → bM b m → bBd b → wQ s w (f_X9_ways_L105 self (nI w) (nI tk) (jI sum) (nI (s.1 (153 + 6 * w + 2))) n (nI h)) b (wyL (okW false s.1 w tk) F k h b) m := by
  have w0 := hS.w.w0
  have h0 := hS.w.h0
  obtain ⟨d1, d2, d3, d4, d5, d6⟩ := hS.w.wk hw
  intro k
  induction k with
  | zero =>
    intro n h b m hh hn hM hc hb hd
    obtain ⟨n, rfl⟩ : ∃ z, n = z + 1 := ⟨n - 1, by omega⟩
    refine ⟨m, ?_, hb, hd, hM, fun _ _ => rfl, wF.rf m⟩
    have o3 : f_X9_of (nI w) 3 m = some (nI (s.1 (153 + 6 * w + 3))) := (M_of (k := 3) hM.s (by omega) (by omega)).trans (congrArg some (dcN (by omega)))
    rw [f_X9_ways_L105]
    refine (bnd_of o3).trans ?_
    have e : nI h + nI (s.1 (153 + 6 * w + 2)) - 1 = nI (h + (s.1 (153 + 6 * w + 2)) - 1) := by rw [nI_add]; exact pk_sub (b := 1) (by omega)
    rw [e]
    exact if_pos (nI_lt (by omega) (by omega))
  | succ k ih =>
    intro n h b m hh hn hM hc hb hd
    obtain ⟨n, rfl⟩ : ∃ z, n = z + 1 := ⟨n - 1, by omega⟩
    have o3 : f_X9_of (nI w) 3 m = some (nI (s.1 (153 + 6 * w + 3))) := (M_of (k := 3) hM.s (by omega) (by omega)).trans (congrArg some (dcN (by omega)))
    have e : nI h + nI (s.1 (153 + 6 * w + 2)) - 1 = nI (h + (s.1 (153 + 6 * w + 2)) - 1) := by rw [nI_add]; exact pk_sub (b := 1) (by omega)
    by_cases q : (s.1 (153 + 6 * w + 3)) < h + (s.1 (153 + 6 * w + 2)) - 1
    · have ez : wyL (okW false s.1 w tk) F (k + 1) h b = b := wyL_same (k + 1) h (fun x h1 h2 ho => by
        unfold okW fe at ho
        simp only [Bool.and_eq_true, decide_eq_true_eq] at ho
        have := ho.1.1.1
        omega)
      rw [ez]
      refine ⟨m, ?_, hb, hd, hM, fun _ _ => rfl, wF.rf m⟩
      rw [f_X9_ways_L105]
      refine (bnd_of o3).trans ?_
      rw [e]
      exact if_pos (nI_lt q (by omega))
    · simp only [wyL]
      have hbl := bitsR_lt (n := (s.1 (153 + 6 * w + 2))) (x := h) (by omega)
      have hal : bitsR (s.1 (153 + 6 * w + 2)) h &&& tk ≤ bitsR (s.1 (153 + 6 * w + 2)) h := Nat.and_le_left
      have hr := rF_le (lt := 999) hS.w.b hw (show h + (s.1 (153 + 6 * w + 2)) ≤ 28 by omega)
      have hr2 : (s.1 (153 + 6 * w + 2)) * 100000 ≤ 6 * 100000 := Nat.mul_le_mul_right _ d3.2
      have st : ∀ r, (if nI (bitsR (s.1 (153 + 6 * w + 2)) h &&& tk) = 0 then (if nI (rF s.1 999 w h (s.1 (153 + 6 * w + 2))) < (100000 : Int32) then (bnd (wrA 197 6 (nI w) (nI h) m) fun m28 => bnd (f_X9_of (nI w) (4 : Int32) m28) fun q30 => bnd (f_X9_rowOf (nI w) (nI h) m28) fun q32 => bnd (self (nI w + (1 : Int32)) (nI (tk ||| bitsR (s.1 (153 + 6 * w + 2)) h)) ((jI sum + q30) - q32) m28) fun q34 => f_X9_ways_L105 self (nI w) (nI tk) (jI sum) (nI (s.1 (153 + 6 * w + 2))) n (nI h + (1 : Int32)) q34) else f_X9_ways_L105 self (nI w) (nI tk) (jI sum) (nI (s.1 (153 + 6 * w + 2))) n (nI h + (1 : Int32)) m) else f_X9_ways_L105 self (nI w) (nI tk) (jI sum) (nI (s.1 (153 + 6 * w + 2))) n (nI h + (1 : Int32)) m) = r → f_X9_ways_L105 self (nI w) (nI tk) (jI sum) (nI (s.1 (153 + 6 * w + 2))) (n + 1) (nI h) m = r := fun r hr => by
        rw [f_X9_ways_L105]
        refine (bnd_of o3).trans ?_
        rw [e]
        refine (if_neg (nI_nlt (by omega) (by omega))).trans ?_
        rw [bitsR_i d3.2 (by omega), anN, orN, bnd_of (M_rowOf hM.s hS.w hM.l (by decide) hw (by omega))]
        exact hr
      have skip : okW false s.1 w tk h = false → wQ s w (f_X9_ways_L105 self (nI w) (nI tk) (jI sum) (nI (s.1 (153 + 6 * w + 2))) n (nI h + (1 : Int32))) b (wyL (okW false s.1 w tk) F k (h + 1) (if okW false s.1 w tk h = true then F h b else b)) m := fun z => by
        rw [z, if_neg (by decide), nI_1]
        exact ih n (h + 1) b m (by omega) (by omega) hM hc hb hd
      by_cases e1 : bitsR (s.1 (153 + 6 * w + 2)) h &&& tk = 0
      · by_cases e2 : rF s.1 999 w h (s.1 (153 + 6 * w + 2)) < 100000
        · have hok : okW false s.1 w tk h = true := by
            unfold okW fe
            simp only [Bool.and_eq_true, decide_eq_true_eq]
            exact ⟨⟨⟨by omega, e2⟩, e1⟩, rfl⟩
          have hfe : fe s.1 w h = true := by
            unfold fe
            simp only [Bool.and_eq_true, decide_eq_true_eq]
            exact ⟨by omega, e2⟩
          have eg : gn s.1 w h = ((s.1 (153 + 6 * w + 4)) : Int) - (rF s.1 999 w h (s.1 (153 + 6 * w + 2)) : Int) := if_pos hfe
          have hM1 : MI s (m_up m 197 w (nI h)) := hM.wf (wF.u197 m w _)
          obtain ⟨m1, a1, a2, a3, a4, a5, a6⟩ := hs h b (m_up m 197 w (nI h)) (by omega) hok hM1 (fun j hj => (m_up_ni (by omega)).trans (hc j hj)) (m_up_eq _ _ _ _) (hb.u197 _ _) hd
          have c1 : ∀ j, j < w → m1 197 j = m 197 j := fun j hj => (a5 j hj).trans (m_up_ni (by omega))
          obtain ⟨m2, b1, b2, b3, b4, b5, b6⟩ := ih n (h + 1) (F h b) m1 (by omega) (by omega) a4 (fun j hj => (c1 j hj).trans (hc j hj)) a2 a3
          refine ⟨m2, st _ ?_, by rw [if_pos hok]; exact b2, by rw [if_pos hok]; exact b3, b4, fun j hj => (b5 j hj).trans (c1 j hj), (wF.u197 m w _).tr (a6.tr b6)⟩
          refine (if_pos (nIq e1)).trans ?_
          refine (if_pos (nI_lt (b := 100000) e2 (by decide))).trans ?_
          refine (bnd_of (wrN (show w < 6 by omega) (by decide))).trans ?_
          refine (bnd_of ((M_of (k := 4) hM1.s (by omega) (by omega)).trans (congrArg some (dcN (by omega))))).trans ?_
          refine (bnd_of (M_rowOf hM1.s hS.w hM1.l (by decide) hw (by omega))).trans ?_
          rw [show jI sum + nI (s.1 (153 + 6 * w + 4)) - nI (rF s.1 999 w h (s.1 (153 + 6 * w + 2))) = jI (sum + gn s.1 w h) by rw [← jI_n (s.1 (153 + 6 * w + 4)), ← jI_n (rF s.1 999 w h (s.1 (153 + 6 * w + 2))), jI_add, jI_sub, eg]; exact congrArg jI (by omega)]
          rw [← nI_1] at a1
          refine (bnd_of a1).trans ?_
          rw [nI_1]; exact b1
        · obtain ⟨m2, b1, b2⟩ := skip (by
            unfold okW fe
            rw [decide_eq_false e2]; simp)
          exact ⟨m2, st _ ((if_pos (nIq e1)).trans ((if_neg (nI_nlt (b := 100000) (by omega) (by omega))).trans b1)), b2⟩
      · obtain ⟨m2, b1, b2⟩ := skip (by
          unfold okW
          rw [decide_eq_false e1]; simp)
        exact ⟨m2, st _ ((if_neg (nIn (b := 0) (by omega) (by omega) e1)).trans b1), b2⟩
theorem M_ways (hS : SI s) : ∀ (k fd w tk : Nat) (sum : Int) (cur : Nat → Nat) (b : wB) (m : mM), w + k = s.1 1 → k < fd → MI s m → (∀ j, j < w → m 197 j = dc (cur j)) → (∀ j, w ≤ j → cur j = 999) → bM b m → bBd b → tk < 2 ^ 28 → -1000 * (w : Int) ≤ sum → sum ≤ 99 * (w : Int) → wQ s w (f_X9_ways fd (nI w) (nI tk) (jI sum)) b (wy false s.1 k w tk sum cur b) m := by
  have w0 := hS.w.w0
  intro k
  induction k with
  | zero =>
    intro fd w tk sum cur b m hk hf hM hc hc9 hb hd ht hs1 hs2
    obtain ⟨fd, rfl⟩ : ∃ z, fd = z + 1 := ⟨fd - 1, by omega⟩
    have hwe : w = s.1 1 := by omega
    have st : ∀ r, (if (m 187 17) < jI sum then (bnd (some (m_up m 187 17 (jI sum))) fun m3 => bnd (f_X9_ways_L27 (f_X9_ways fd) (nI w) fU (0 : Int32) m3) fun o13 => some o13) else some m) = r → f_X9_ways (fd + 1) (nI w) (nI tk) (jI sum) m = r := fun r hr => by
      rw [f_X9_ways]
      refine (bnd_of (rdX (k := 1) rfl (by decide) (by decide) (hM.c1 hS))).trans ?_
      exact (if_pos (nIq hwe)).trans hr
    have upd : m 187 17 < jI sum → wQ s w (f_X9_ways (fd + 1) (nI w) (nI tk) (jI sum)) b (some (sum, cur)) m := fun hl => by
      obtain ⟨m', i1, i2, i3⟩ := M_w27 (self := f_X9_ways fd) (T := w) (by omega) 6 fU 0 (m_up m 187 17 (jI sum)) rfl (by decide)
      refine ⟨m', st _ ?_, ⟨(i3 187 17 (by omega)).trans (m_up_eq _ _ _ _), fun j hj => ?_⟩, fun x hx => by cases hx; exact ⟨by show -100000 < sum; omega, by show sum ≤ 10000; omega⟩, ?_, fun j hj => (i3 197 j (by omega)).trans (m_up_na (by decide)), ?_⟩
      · refine (if_pos hl).trans ?_
        refine (bnd_of rfl).trans ?_
        exact (bnd_of i1).trans rfl
      · show m' 198 j = dc (cur j)
        rw [i2 j (by omega) hj]
        by_cases z : w ≤ j
        · rw [if_pos z, hc9 j z]; rfl
        · rw [if_neg z, m_up_na (by decide)]; exact hc j (by omega)
      · exact hM.cg (fun a i q => (i3 a i (by omega)).trans (if_neg (by omega)))
      · exact fun a i x y z => (i3 a i (by omega)).trans (if_neg z)
    cases b with
    | none =>
      have hb : m 187 17 = jI (-100000) := hb
      exact upd (by rw [hb]; exact (jI_lt (by omega) (by omega) (by omega) (by omega)).mpr (by omega))
    | some x =>
      obtain ⟨x1, x2⟩ := hd x rfl
      show wQ s w _ _ (if x.1 < sum then some (sum, cur) else some x) m
      by_cases e : x.1 < sum
      · rw [if_pos e]
        exact upd (by rw [hb.1]; exact (jI_lt (by omega) (by omega) (by omega) (by omega)).mpr e)
      · rw [if_neg e]
        refine ⟨m, st _ (if_neg ?_), hb, hd, hM, fun _ _ => rfl, wF.rf m⟩
        rw [hb.1]
        exact fun z => e ((jI_lt (by omega) (by omega) (by omega) (by omega)).mp z)
  | succ k ih =>
    intro fd w tk sum cur b m hk hf hM hc hc9 hb hd ht hs1 hs2
    obtain ⟨fd, rfl⟩ : ∃ z, fd = z + 1 := ⟨fd - 1, by omega⟩
    have hw : w < s.1 1 := by omega
    obtain ⟨d1, d2, d3, d4, d5, d6⟩ := hS.w.wk hw
    have hM1 : MI s (m_up m 197 w (-9)) := hM.wf (wF.u197 m w _)
    obtain ⟨m1, a1, a2, a3, a4, a5, a6⟩ := ih fd (w + 1) tk sum cur b (m_up m 197 w (-9)) (by omega) (by omega) hM1 (fun j hj => by
      by_cases z : j = w
      · subst z; rw [m_up_eq, hc9 j (Nat.le_refl _)]; rfl
      · exact (m_up_ni z).trans (hc j (by omega))) (fun j hj => hc9 j (by omega)) (hb.u197 _ _) hd ht (by omega) (by omega)
    have c1 : ∀ j, j < w → m1 197 j = m 197 j := fun j hj => (a5 j (by omega)).trans (m_up_ni (by omega))
    have st : ∀ r, (if nI (s.1 (153 + 6 * w + 1)) = (1 : Int32) then some m1 else bnd (f_X9_of (nI w) (2 : Int32) m1) fun q22 => bnd (f_X9_ways_L105 (f_X9_ways fd) (nI w) (nI tk) (jI sum) q22 fU (0 : Int32) m1) fun o39 => some o39) = r → f_X9_ways (fd + 1) (nI w) (nI tk) (jI sum) m = r := fun r hr => by
      rw [f_X9_ways]
      refine (bnd_of (rdX (k := 1) rfl (by decide) (by decide) (hM.c1 hS))).trans ?_
      refine (if_neg (nIn (by omega) (by omega) (by omega))).trans ?_
      refine (bnd_of (wrN (show w < 6 by omega) (by decide))).trans ?_
      rw [nI_1]
      refine (bnd_of a1).trans ?_
      refine (bnd_of ((M_of (k := 1) a4.s (by omega) (by omega)).trans (congrArg some (dcN (by omega))))).trans ?_
      exact hr
    simp only [wy]
    by_cases e : (s.1 (153 + 6 * w + 1)) = 1
    · rw [if_pos e]
      exact ⟨m1, st _ (if_pos (nIq e)), a2, a3, a4, c1, (wF.u197 m w _).tr a6⟩
    · rw [if_neg e]
      obtain ⟨m2, b1, b2, b3, b4, b5, b6⟩ := M_w105 hS (sum := sum) (cur := cur) hw ht (self := f_X9_ways fd) (F := fun h b => wy false s.1 k (w + 1) (tk ||| bitsR (s.1 (153 + 6 * w + 2)) h) (sum + gn s.1 w h) (uB cur w h) b) (fun h b m hh ho hM hc2 hcw hb hd => by
        have hg := gn_b hS.w.b hw h
        have hbl : bitsR (s.1 (153 + 6 * w + 2)) h < 2 ^ 28 := bitsR_lt (by
          unfold okW fe at ho
          simp only [Bool.and_eq_true, decide_eq_true_eq] at ho
          have := ho.1.1.1
          omega)
        obtain ⟨m', q1, q2, q3, q4, q5, q6⟩ := ih fd (w + 1) (tk ||| bitsR (s.1 (153 + 6 * w + 2)) h) (sum + gn s.1 w h) (uB cur w h) b m (by omega) (by omega) hM (fun j hj => by
          unfold uB
          by_cases z : j = w
          · subst z; rw [if_pos rfl, dcN (by omega)]; exact hcw
          · rw [if_neg z]; exact hc2 j (by omega)) (fun j hj => by unfold uB; rw [if_neg (by omega)]; exact hc9 j (by omega)) hb hd (Nat.or_lt_two_pow ht hbl) (by omega) (by omega)
        exact ⟨m', q1, q2, q3, q4, fun j hj => q5 j (by omega), q6⟩) 28 fU 0 (wy false s.1 k (w + 1) tk sum cur b) m1 rfl (by decide) a4 (fun j hj => (c1 j hj).trans (hc j hj)) a2 a3
      refine ⟨m2, st _ ?_, b2, b3, b4, fun j hj => (b5 j hj).trans (c1 j hj), (wF.u197 m w _).tr (a6.tr b6)⟩
      refine (if_neg (nIn (b := 1) (by omega) (by omega) e)).trans ?_
      refine (bnd_of ((M_of (k := 2) a4.s (by omega) (by omega)).trans (congrArg some (dcN (by omega))))).trans ?_
      exact (bnd_of b1).trans rfl
end WaysM
