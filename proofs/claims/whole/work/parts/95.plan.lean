set_option maxHeartbeats 60000
/-! all, begin -/
def bX (t : Nat → Nat) (b : wB) (m : mM) : Prop := match b with
  | none => m 159 7 = jI (-1)
  | some x => m 159 7 = jI x.1 ∧ ∀ v, v < t 1 → (t (153 + 6 * v + 1)) = 0 → m 166 (rk t v) = dc (x.2 v)
def bXd (b : wB) : Prop := ∀ x, b = some x → 0 ≤ x.1 ∧ x.1 ≤ 10000
def yF (m m' : mM) : Prop := ∀ a i, a ≠ 165 → a ≠ 166 → ¬ (a = 159 ∧ i = 7) → m' a i = m a i
theorem yF.rf (m : mM) : yF m m := fun _ _ _ _ _ => rfl
theorem yF.tr {m m1 m2 : mM} (h1 : yF m m1) (h2 : yF m1 m2) : yF m m2 := fun a i x y z => (h2 a i x y z).trans (h1 a i x y z)
theorem yF.u165 (m : mM) (k : Nat) (v : Int32) : yF m (m_up m 165 k v) := fun a i x _ _ => m_up_na x
theorem yF.n {m m' : mM} (h : yF m m') : xN m m' := fun a i q => h a i (by omega) (by omega) (by omega)
theorem plR.y {t : Nat → Nat} {m m' : mM} (hW : WB t) (h3 : rk t (t 1) ≤ 3) (h : plR t m) (e : yF m m') : plR t m' := by
  refine ⟨(e 159 2 (by omega) (by omega) (by omega)).trans h.1, fun v hv hs => ?_⟩
  have hlt := rk_lt (t := t) hv hs
  obtain ⟨h1, h2⟩ := h.2 v hv hs
  exact ⟨(e 160 _ (by omega) (by omega) (by omega)).trans h1, fun x hx => (e _ _ (by omega) (by omega) (by omega)).trans (h2 x hx)⟩
theorem bX.u165 {t : Nat → Nat} {b : wB} {m : mM} (h : bX t b m) (k : Nat) (v : Int32) : bX t b (m_up m 165 k v) := by
  cases b with
  | none => exact (m_up_na (by decide)).trans h
  | some x => exact ⟨(m_up_na (by decide)).trans h.1, fun y hy hs => (m_up_na (by decide)).trans (h.2 y hy hs)⟩
section Try
variable {s : aSt}
/-- what a call of tryRow does -/
def tQ (s : aSt) (w : Nat) (F : mM → Option mM) (b' : wB) (m : mM) : Prop := ∃ m', F m = some m' ∧ bX s.1 b' m' ∧ bXd b' ∧ (∀ v, v < w → (s.1 (153 + 6 * v + 1)) = 0 → m' 165 (rk s.1 v) = m 165 (rk s.1 v)) ∧ yF m m'
def cQ (s : aSt) (w : Nat) (cur : Nat → Nat) (m : mM) : Prop := ∀ v, v < w → (s.1 (153 + 6 * v + 1)) = 0 → m 165 (rk s.1 v) = dc (cur v)
theorem X_t74 (hS : SI s) (h3 : rk s.1 (s.1 1) ≤ 3) {w tk : Nat} {sum : Int} {F : Nat → wB → wB} (hw : w < s.1 1) (hsd : (s.1 (153 + 6 * w + 1)) = 0) (htk : tk < 2 ^ 28) {self : Int32 → Int32 → Int32 → mM → Option mM} {cur : Nat → Nat} (hs : ∀ (h : Nat) (b : wB) (m : mM), h < 28 → okW true s.1 w tk h = true → plR s.1 m → XI s m → cQ s w cur m → m 165 (rk s.1 w) = nI h → bX s.1 b m → bXd b → tQ s w (self (nI (rk s.1 w + 1)) (nI (tk ||| bitsR (s.1 (153 + 6 * w + 2)) h)) (jI (sum + gn s.1 w h))) (F h b) m) : ∀ (k n h : Nat) (b : wB) (m : mM), h + k = 28 → k < n → plR s.1 m → XI s m → cQ s w cur m → bX s.1 b m → bXd b → tQ s w (f_X3_tryRow_L74 self (nI (rk s.1 w)) (nI tk) (jI sum) (nI (s.1 (153 + 6 * w + 2))) n (nI h)) (wyL (okW true s.1 w tk) F k h b) m := by
  have w0 := hS.w.w0
  obtain ⟨d1, d2, d3, d4, d5, d6⟩ := hS.w.wk hw
  have hlt := rk_lt (t := s.1) hw hsd
  intro k
  induction k with
  | zero =>
    intro n h b m hh hn hp hX hc hb hd
    obtain ⟨n, rfl⟩ : ∃ z, n = z + 1 := ⟨n - 1, by omega⟩
    refine ⟨m, ?_, hb, hd, fun _ _ _ => rfl, yF.rf m⟩
    rw [f_X3_tryRow_L74]
    exact if_pos (nI_le (a := 28) (by omega) (by omega))
  | succ k ih =>
    intro n h b m hh hn hp hX hc hb hd
    obtain ⟨n, rfl⟩ : ∃ z, n = z + 1 := ⟨n - 1, by omega⟩
    have h28 : h < 28 := by omega
    have hg := gn_b hS.w.b hw h
    have hv := (hp.2 w hw hsd).2 h h28
    simp only [wyL]
    have st : ∀ r, (if jI (gn s.1 w h) ≤ 0 then f_X3_tryRow_L74 self (nI (rk s.1 w)) (nI tk) (jI sum) (nI (s.1 (153 + 6 * w + 2))) n (nI h + (1 : Int32)) m else if (nI tk &&& ((((1 : Int32) <<< (nI (s.1 (153 + 6 * w + 2)) &&& 31)) - (1 : Int32)) <<< (nI h &&& 31))) = 0 then (bnd (wrA 165 3 (nI (rk s.1 w)) (nI h) m) fun m17 => bnd (ckR 3 (nI (rk s.1 w))) fun j19 => bnd (rdA (162 + j19) 28 (nI h) m17) fun v21 => bnd (self (nI (rk s.1 w) + (1 : Int32)) (nI tk ||| ((((1 : Int32) <<< (nI (s.1 (153 + 6 * w + 2)) &&& 31)) - (1 : Int32)) <<< (nI h &&& 31))) (jI sum + v21) m17) fun q23 => f_X3_tryRow_L74 self (nI (rk s.1 w)) (nI tk) (jI sum) (nI (s.1 (153 + 6 * w + 2))) n (nI h + (1 : Int32)) q23) else f_X3_tryRow_L74 self (nI (rk s.1 w)) (nI tk) (jI sum) (nI (s.1 (153 + 6 * w + 2))) n (nI h + (1 : Int32)) m) = r → f_X3_tryRow_L74 self (nI (rk s.1 w)) (nI tk) (jI sum) (nI (s.1 (153 + 6 * w + 2))) (n + 1) (nI h) m = r := fun r hr => by
      rw [f_X3_tryRow_L74]
      refine (if_neg (nI_ge (b := 28) (by omega) (by decide))).trans ?_
      refine (bnd_of rfl).trans ?_
      refine (bnd_of (ckN (show rk s.1 w < 3 by omega) (by decide))).trans ?_
      exact (bnd_of (rdX rfl h28 (by decide) hv)).trans hr
    have skip : okW true s.1 w tk h = false → tQ s w (f_X3_tryRow_L74 self (nI (rk s.1 w)) (nI tk) (jI sum) (nI (s.1 (153 + 6 * w + 2))) n (nI h + (1 : Int32))) (wyL (okW true s.1 w tk) F k (h + 1) (if okW true s.1 w tk h = true then F h b else b)) m := fun z => by
      rw [z, if_neg (by decide), nI_1]
      exact ih n (h + 1) b m (by omega) (by omega) hp hX hc hb hd
    have z0 : (0 : Int32) = jI 0 := rfl
    by_cases e1 : gn s.1 w h ≤ 0
    · obtain ⟨m2, b1, b2⟩ := skip (by
        unfold okW
        rw [decide_eq_false (show ¬ 0 < gn s.1 w h by omega)]; simp)
      exact ⟨m2, st _ ((if_pos (by rw [z0]; exact (jI_le (by omega) (by omega) (by omega) (by omega)).mpr e1)).trans b1), b2⟩
    · have hfe : fe s.1 w h = true := by
        refine Classical.byContradiction (fun z => ?_)
        have : gn s.1 w h = 0 := if_neg z
        omega
      have hfe2 := hfe
      unfold fe at hfe2
      simp only [Bool.and_eq_true, decide_eq_true_eq] at hfe2
      have hbl := bitsR_lt (n := (s.1 (153 + 6 * w + 2))) (x := h) (by omega)
      have hal : tk &&& bitsR (s.1 (153 + 6 * w + 2)) h ≤ bitsR (s.1 (153 + 6 * w + 2)) h := Nat.and_le_right
      have eb := bitsR_i (n := (s.1 (153 + 6 * w + 2))) (x := h) d3.2 (by omega)
      have n1 : ¬ jI (gn s.1 w h) ≤ 0 := fun z => e1 (by rw [z0] at z; exact (jI_le (by omega) (by omega) (by omega) (by omega)).mp z)
      by_cases e2 : tk &&& bitsR (s.1 (153 + 6 * w + 2)) h = 0
      · have hok : okW true s.1 w tk h = true := by
          unfold okW
          rw [hfe, Nat.and_comm, decide_eq_true e2, decide_eq_true (show 0 < gn s.1 w h by omega)]
          rfl
        have f1 := yF.u165 m (rk s.1 w) (nI h)
        have hp1 := hp.y hS.w.b h3 f1
        have hX1 := hX.n f1.n
        have hc1 : ∀ v, v < w → (s.1 (153 + 6 * v + 1)) = 0 → m_up m 165 (rk s.1 w) (nI h) 165 (rk s.1 v) = m 165 (rk s.1 v) := fun v hv2 hs2 => by
          have := rk_lt (t := s.1) hv2 hs2
          exact m_up_ni (by omega)
        obtain ⟨m1, a1, a2, a3, a4, a5⟩ := hs h b (m_up m 165 (rk s.1 w) (nI h)) h28 hok hp1 hX1 (fun v hv2 hs2 => (hc1 v hv2 hs2).trans (hc v hv2 hs2)) (m_up_eq _ _ _ _) (hb.u165 _ _) hd
        have f2 := f1.tr a5
        obtain ⟨m2, b1, b2, b3, b4, b5⟩ := ih n (h + 1) (F h b) m1 (by omega) (by omega) (hp.y hS.w.b h3 f2) (hX.n f2.n) (fun v hv2 hs2 => (a4 v hv2 hs2).trans ((hc1 v hv2 hs2).trans (hc v hv2 hs2))) a2 a3
        refine ⟨m2, st _ ?_, by rw [if_pos hok]; exact b2, by rw [if_pos hok]; exact b3, fun v hv2 hs2 => (b4 v hv2 hs2).trans ((a4 v hv2 hs2).trans (hc1 v hv2 hs2)), f2.tr b5⟩
        refine (if_neg n1).trans ?_
        rw [eb, anN, orN]
        refine (if_pos (nIq e2)).trans ?_
        refine (bnd_of (wrN (show rk s.1 w < 3 by omega) (by decide))).trans ?_
        refine (bnd_of (ckN (show rk s.1 w < 3 by omega) (by decide))).trans ?_
        refine (bnd_of (rdX rfl h28 (by decide) ((m_up_na (by omega)).trans hv))).trans ?_
        rw [jI_add]
        rw [← nI_1] at a1
        refine (bnd_of a1).trans ?_
        rw [nI_1 h]; exact b1
      · obtain ⟨m2, b1, b2⟩ := skip (by
          unfold okW
          rw [Nat.and_comm, decide_eq_false e2]; simp)
        refine ⟨m2, st _ ?_, b2⟩
        refine (if_neg n1).trans ?_
        rw [eb, anN]
        exact (if_neg (nIn (b := 0) (by omega) (by omega) e2)).trans b1
end Try
