/-! the class's ONE of a work in a row -/
/-- all but ONE's own cells is as it was -/
def xF (m m' : mM) : Prop := ∀ a i, a ≠ 155 → a ≠ 156 → ¬ (a = 154 ∧ (i = 3 ∨ i = 4)) → m' a i = m a i
theorem xF.rf (m : mM) : xF m m := fun _ _ _ _ _ => rfl
theorem xF.tr {m m1 m2 : mM} (h1 : xF m m1) (h2 : xF m1 m2) : xF m m2 := fun a i x y z => (h2 a i x y z).trans (h1 a i x y z)
theorem XT.cg {aO aH aB aS aP aQ aW aU : Nat} {t : Nat → Nat} {m m' : mM} (h : XT aO aH aB aS aP aQ aW aU t m) (e : ∀ a i, (a = aO ∨ (aH ≤ a ∧ a < aH + 8) ∨ a = aB ∨ a = aS ∨ a = aP ∨ (aQ ≤ a ∧ a < aQ + 28) ∨ (aW ≤ a ∧ a < aW + 6) ∨ a = aU) → m' a i = m a i) : XT aO aH aB aS aP aQ aW aU t m' := by
  obtain ⟨h1, h2, h3, h4, h5, h6, h7, h8, h9, h10, h11, h12⟩ := h
  refine ⟨?_, ?_, ?_, ?_, ?_, fun p k hp hk => ?_, fun p hp => ?_, fun x hx => ?_, fun x i hx hi => ?_, fun w k hw hk => ?_, fun k hk => ?_, fun p hp => ?_⟩
  · rw [e _ _ (by omega)]; exact h1
  · rw [e _ _ (by omega)]; exact h2
  · rw [e _ _ (by omega)]; exact h3
  · rw [e _ _ (by omega)]; exact h4
  · rw [e _ _ (by omega)]; exact h5
  · rw [e _ _ (by omega)]; exact h6 p k hp hk
  · rw [e _ _ (by omega)]; exact h7 p hp
  · rw [e _ _ (by omega)]; exact h8 x hx
  · rw [e _ _ (by omega)]; exact h9 x i hx hi
  · rw [e _ _ (by omega)]; exact h10 w k hw hk
  · rw [e _ _ (by omega)]; exact h11 k hk
  · rw [e _ _ (by omega)]; exact h12 p hp
theorem xF.xs {t : Nat → Nat} {m m' : mM} (h : xF m m') (hX : XS t m) : XS t m' := hX.cg (fun a i q => h a i (by omega) (by omega) (by omega))
theorem xF.u155 (m : mM) (k : Nat) (v : Int32) : xF m (m_up m 155 k v) := fun a i x y z => by
  unfold m_up
  rw [if_neg (fun q => x q.1)]
theorem xF.u156 (m : mM) (k : Nat) (v : Int32) : xF m (m_up m 156 k v) := fun a i x y z => by
  unfold m_up
  rw [if_neg (fun q => y q.1)]
theorem xF.u3 (m : mM) (v : Int32) : xF m (m_up m 154 3 v) := fun a i x y z => by
  unfold m_up
  rw [if_neg (fun q => z ⟨q.1, Or.inl q.2⟩)]
theorem xF.u4 (m : mM) (v : Int32) : xF m (m_up m 154 4 v) := fun a i x y z => by
  unfold m_up
  rw [if_neg (fun q => z ⟨q.1, Or.inr q.2⟩)]
/-- costs of hours stand in their row, up to BY -/
def oH (t : Nat → Nat) (w : Nat) (m : mM) : Prop := ∀ h, h ≤ (t (153 + 6 * w + 3)) → m 155 h = oc (hC t 999 w h)
/-- a sum that is none is far, another is itself -/
theorem osum_far {f : Nat → Option Nat} : ∀ (k i : Nat), (match osumF f i k with | none => 100000 ≤ sumF (fun h => (f h).getD 100000) i k | some v => sumF (fun h => (f h).getD 100000) i k = v) := by
  intro k
  induction k with
  | zero => intro i; rfl
  | succ k ih =>
    intro i
    have := ih (i + 1)
    simp only [osumF, sumF]
    cases h1 : f i with
    | none => simp only [Option.getD]; omega
    | some a =>
      cases h2 : osumF f (i + 1) k with
      | none => rw [h2] at this; simp only [Option.getD] at this ⊢; omega
      | some b => rw [h2] at this; simp only [Option.getD] at this ⊢; omega
section XRun
variable {t : Nat → Nat}
theorem X_runL {w : Nat} {m : mM} (hW : WB t) (hw : w < t 1) (hO : oH t w m) {x L : Nat} (hL : 1 ≤ L) (hx : x + L ≤ (t (153 + 6 * w + 3)) + 1) : ∀ (k n i v : Nat), i + k = x + L → k < n → f_X0_runCost_L5 (nI x) (nI L) m n (nI v) (nI i) = some (match osumF (hC t 999 w) i k with | none => .inl (-nI 9) | some z => .inr (nI (v + z))) := by
  obtain ⟨d1, d2, d3, d4, d5, d6⟩ := hW.wk hw
  intro k
  induction k with
  | zero =>
    intro n i v hi hn
    obtain ⟨n, rfl⟩ : ∃ z, n = z + 1 := ⟨n - 1, by omega⟩
    rw [f_X0_runCost_L5, nI_add]
    exact if_pos (nI_le (by omega) (by omega))
  | succ k ih =>
    intro n i v hi hn
    obtain ⟨n, rfl⟩ : ∃ z, n = z + 1 := ⟨n - 1, by omega⟩
    have hv := hO i (by omega)
    rw [f_X0_runCost_L5, nI_add]
    refine (if_neg (nI_ge (by omega) (by omega))).trans ?_
    refine (if_neg (nI_ge (b := 28) (by omega) (by decide))).trans ?_
    refine (bnd_of (rdX (k := i) rfl (by omega) (by decide) hv)).trans ?_
    simp only [osumF]
    cases e : hC t 999 w i with
    | none => exact (if_pos rfl).trans rfl
    | some y =>
      have hy := hC_le hW hw (by omega) e
      refine (if_neg (n9 (show y < 2 ^ 31 by omega))).trans ?_
      rw [e] at hv
      refine (bnd_of (rdX (k := i) rfl (by omega) (by decide) hv)).trans ?_
      show f_X0_runCost_L5 (nI x) (nI L) m n (nI v + nI y) (nI i + 1) = _
      rw [nI_add, nI_1, ih n (i + 1) (v + y) (by omega) (by omega)]
      cases osumF (hC t 999 w) (i + 1) k with
      | none => rfl
      | some z => simp only [Nat.add_assoc]
theorem X_runCost {w : Nat} {m : mM} (hW : WB t) (hw : w < t 1) (hO : oH t w m) {x L : Nat} (hL : 1 ≤ L) (hL6 : L ≤ 6) (hx : x + L ≤ (t (153 + 6 * w + 3)) + 1) : f_X0_runCost (nI x) (nI L) m = some (oc (osumF (hC t 999 w) x L)) := by
  unfold f_X0_runCost
  refine (bnd_of (X_runL hW hw hO hL hx L fU x 0 (by omega) (by show _ < 300; omega))).trans ?_
  cases osumF (hC t 999 w) x L with
  | none => rfl
  | some z => simp only [Nat.zero_add]; rfl
theorem bitsR_mono {n x : Nat} (hn : 1 ≤ n) : bitsR n x < bitsR n (x + 1) := by
  unfold bitsR
  rw [Nat.pow_succ]
  have h1 : 2 ^ 1 ≤ 2 ^ n := Nat.pow_le_pow_right (by decide) hn
  have h2 := Nat.two_pow_pos x
  have h3 : 0 < (2 ^ n - 1) * 2 ^ x := Nat.mul_pos (by omega) h2
  rw [← Nat.mul_assoc]
  omega
/-- the class's way of weighing is the reference's, for the hours come in order -/
def xB (b : Option (Nat × Nat)) (m : mM) : Prop := m 154 4 = bcost b ∧ m 154 3 = bbits b
theorem X_cRunL (hW : WB t) {w : Nat} (hw : w < t 1) : ∀ (k n x : Nat) (b : Option (Nat × Nat)) (m : mM), x + k = (t (153 + 6 * w + 3)) + 2 - (t (153 + 6 * w + 2)) → k < n → oH t w m → xB b m → bOK b → (∀ c z, b = some (c, z) → z < bitsR (t (153 + 6 * w + 2)) x) → ∃ m', f_X0_chooseRun_L2 (nI (t (153 + 6 * w + 2))) (nI (t (153 + 6 * w + 3))) n (nI x) m = some m' ∧ xB (bestR t 999 w k x b) m' ∧ oH t w m' ∧ xF m m' := by
  obtain ⟨d1, d2, d3, d4, d5, d6⟩ := hW.wk hw
  intro k
  induction k with
  | zero =>
    intro n x b m hx hn hO hB hk hz
    obtain ⟨n, rfl⟩ : ∃ z, n = z + 1 := ⟨n - 1, by omega⟩
    refine ⟨m, ?_, hB, hO, xF.rf m⟩
    have e : nI x + nI (t (153 + 6 * w + 2)) - 1 = nI (x + (t (153 + 6 * w + 2)) - 1) := by rw [nI_add]; exact pk_sub (b := 1) (by omega)
    rw [f_X0_chooseRun_L2, e]
    exact if_pos (nI_lt (by omega) (by omega))
  | succ k ih =>
    intro n x b m hx hn hO hB hk hz
    obtain ⟨n, rfl⟩ : ∃ z, n = z + 1 := ⟨n - 1, by omega⟩
    have e : nI x + nI (t (153 + 6 * w + 2)) - 1 = nI (x + (t (153 + 6 * w + 2)) - 1) := by rw [nI_add]; exact pk_sub (b := 1) (by omega)
    have hbl := bitsR_lt (n := (t (153 + 6 * w + 2))) (x := x) (by omega)
    have hbm := bitsR_mono (n := (t (153 + 6 * w + 2))) (x := x) d3.1
    have hfar := osum_far (f := hC t 999 w) (t (153 + 6 * w + 2)) x
    have hrF : rF t 999 w x (t (153 + 6 * w + 2)) = sumF (fun h => (hC t 999 w h).getD 100000) x (t (153 + 6 * w + 2)) := rfl
    have keep : wg b (bitsR (t (153 + 6 * w + 2)) x) (rF t 999 w x (t (153 + 6 * w + 2))) = b → f_X0_chooseRun_L2 (nI (t (153 + 6 * w + 2))) (nI (t (153 + 6 * w + 3))) (n + 1) (nI x) m = f_X0_chooseRun_L2 (nI (t (153 + 6 * w + 2))) (nI (t (153 + 6 * w + 3))) n (nI x + 1) m → ∃ m', f_X0_chooseRun_L2 (nI (t (153 + 6 * w + 2))) (nI (t (153 + 6 * w + 3))) (n + 1) (nI x) m = some m' ∧ xB (bestR t 999 w (k + 1) x b) m' ∧ oH t w m' ∧ xF m m' := by
      intro e1 e2
      obtain ⟨m', i1, i2, i3, i4⟩ := ih n (x + 1) b m (by omega) (by omega) hO hB hk (fun c z q => Nat.lt_trans (hz c z q) hbm)
      refine ⟨m', by rw [e2, nI_1]; exact i1, ?_, i3, i4⟩
      simp only [bestR, e1]
      exact i2
    have take : ∀ c, c < 100000 → wg b (bitsR (t (153 + 6 * w + 2)) x) (rF t 999 w x (t (153 + 6 * w + 2))) = some (c, bitsR (t (153 + 6 * w + 2)) x) → f_X0_chooseRun_L2 (nI (t (153 + 6 * w + 2))) (nI (t (153 + 6 * w + 3))) (n + 1) (nI x) m = f_X0_chooseRun_L2 (nI (t (153 + 6 * w + 2))) (nI (t (153 + 6 * w + 3))) n (nI x + 1) (m_up (m_up m 154 4 (nI c)) 154 3 (nI (bitsR (t (153 + 6 * w + 2)) x))) → ∃ m', f_X0_chooseRun_L2 (nI (t (153 + 6 * w + 2))) (nI (t (153 + 6 * w + 3))) (n + 1) (nI x) m = some m' ∧ xB (bestR t 999 w (k + 1) x b) m' ∧ oH t w m' ∧ xF m m' := by
      intro c hc e1 e2
      have u := (xF.u4 m (nI c)).tr (xF.u3 (m_up m 154 4 (nI c)) (nI (bitsR (t (153 + 6 * w + 2)) x)))
      obtain ⟨m', i1, i2, i3, i4⟩ := ih n (x + 1) (some (c, bitsR (t (153 + 6 * w + 2)) x)) (m_up (m_up m 154 4 (nI c)) 154 3 (nI (bitsR (t (153 + 6 * w + 2)) x))) (by omega) (by omega) (fun h hh => by rw [← hO h hh]; simp [m_up]) ⟨by simp [m_up, bcost], by simp [m_up, bbits]⟩ (fun y q => by cases q; exact ⟨hc, by show bitsR _ _ < _; omega⟩) (fun c' z q => by cases q; exact hbm)
      refine ⟨m', by rw [e2, nI_1]; exact i1, ?_, i3, u.tr i4⟩
      simp only [bestR, e1]
      exact i2
    cases er : osumF (hC t 999 w) x (t (153 + 6 * w + 2)) with
    | none =>
      rw [er] at hfar
      refine keep ?_ ?_
      · unfold wg; rw [hrF, if_pos hfar]
      · rw [f_X0_chooseRun_L2, e]
        refine (if_neg (nI_nlt (by omega) (by omega))).trans ?_
        refine (bnd_of (X_runCost hW hw hO d3.1 d3.2 (by omega))).trans ?_
        rw [er]
        exact (if_pos rfl)
    | some r =>
      rw [er] at hfar
      have hr := osumF_le (B := 81) (t (153 + 6 * w + 2)) x r (fun j y q1 q2 q3 => hC_le hW hw (by omega) q3) er
      have hr2 : (t (153 + 6 * w + 2)) * 81 ≤ 6 * 81 := Nat.mul_le_mul_right _ d3.2
      have hgo : f_X0_chooseRun_L2 (nI (t (153 + 6 * w + 2))) (nI (t (153 + 6 * w + 3))) (n + 1) (nI x) m = (if (m 154 4) = (-9 : Int32) then f_X0_chooseRun_L2 (nI (t (153 + 6 * w + 2))) (nI (t (153 + 6 * w + 3))) n (nI x + 1) (m_up (m_up m 154 4 (nI r)) 154 3 (nI (bitsR (t (153 + 6 * w + 2)) x))) else if (m 154 4) ≤ nI r then f_X0_chooseRun_L2 (nI (t (153 + 6 * w + 2))) (nI (t (153 + 6 * w + 3))) n (nI x + 1) m else f_X0_chooseRun_L2 (nI (t (153 + 6 * w + 2))) (nI (t (153 + 6 * w + 3))) n (nI x + 1) (m_up (m_up m 154 4 (nI r)) 154 3 (nI (bitsR (t (153 + 6 * w + 2)) x)))) := by
        rw [f_X0_chooseRun_L2, e]
        refine (if_neg (nI_nlt (by omega) (by omega))).trans ?_
        refine (bnd_of (X_runCost hW hw hO d3.1 d3.2 (by omega))).trans ?_
        rw [er]
        refine (if_neg (n9 (show r < 2 ^ 31 by omega))).trans ?_
        show (if (m 154 4) = (-9 : Int32) then bnd (some (m_up m 154 4 (nI r))) (fun m3 => bnd (f_X0_runBits (nI x) (nI (t (153 + 6 * w + 2))) m3) fun q5 => bnd (some (m_up m3 154 3 q5)) fun m7 => f_X0_chooseRun_L2 (nI (t (153 + 6 * w + 2))) (nI (t (153 + 6 * w + 3))) n (nI x + 1) m7) else (if (m 154 4) ≤ nI r then f_X0_chooseRun_L2 (nI (t (153 + 6 * w + 2))) (nI (t (153 + 6 * w + 3))) n (nI x + 1) m else bnd (some (m_up m 154 4 (nI r))) (fun m9 => bnd (f_X0_runBits (nI x) (nI (t (153 + 6 * w + 2))) m9) fun q11 => bnd (some (m_up m9 154 3 q11)) fun m13 => f_X0_chooseRun_L2 (nI (t (153 + 6 * w + 2))) (nI (t (153 + 6 * w + 3))) n (nI x + 1) m13))) = _
        unfold f_X0_runBits
        rw [bitsR_i d3.2 (by omega)]
        rfl
      cases b with
      | none =>
        refine take r (by omega) ?_ ?_
        · unfold wg; rw [hrF, hfar, if_neg (by omega)]
        · rw [hgo]
          exact if_pos (by rw [hB.1]; rfl)
      | some y =>
        obtain ⟨c, z⟩ := y
        have hzz := hz c z rfl
        have hc := (hk (c, z) rfl).1
        have hc : c < 100000 := hc
        have b4 : m 154 4 = nI c := hB.1
        by_cases q : c ≤ r
        · refine keep ?_ ?_
          · unfold wg
            rw [hrF, hfar, if_neg (by omega)]
            simp only
            by_cases q2 : c < r
            · rw [if_pos q2]
            · rw [if_neg q2, if_pos (by omega), if_neg (by omega)]
          · rw [hgo, if_neg (by rw [b4]; exact n9 (by omega))]
            exact if_pos (by rw [b4]; exact nI_le q (by omega))
        · refine take r (by omega) ?_ ?_
          · unfold wg
            rw [hrF, hfar, if_neg (by omega)]
            simp only
            rw [if_neg (by omega), if_neg (by omega)]
          · rw [hgo, if_neg (by rw [b4]; exact n9 (by omega))]
            exact if_neg (by rw [b4]; exact nI_ge (by omega) (by omega))
theorem X_cHours {w : Nat} (hW : WB t) (hw : w < t 1) : ∀ (k n x : Nat) (m : mM), x + k = (t (153 + 6 * w + 3)) + 1 → k < n → XS t m → (∀ h, h < x → m 155 h = oc (hC t 999 w h)) → ∃ m', f_X0_choose_L12 (nI w) w n (nI x) m = some m' ∧ oH t w m' ∧ xF m m' := by
  have h1 := hW.w0
  obtain ⟨d1, d2, d3, d4, d5, d6⟩ := hW.wk hw
  intro k
  induction k with
  | zero =>
    intro n x m hx hn hX ho
    obtain ⟨n, rfl⟩ : ∃ z, n = z + 1 := ⟨n - 1, by omega⟩
    have c3 : m (44 + w) 3 = nI (t (153 + 6 * w + 3)) := (hX.w (k := 3) (by omega) (by omega)).trans (dcN (by omega))
    refine ⟨m, ?_, fun h hh => ho h (by omega), xF.rf m⟩
    rw [f_X0_choose_L12]
    refine (bnd_of (rdX (k := 3) rfl (by decide) (by decide) c3)).trans ?_
    exact if_pos (nI_lt (by omega) (by omega))
  | succ k ih =>
    intro n x m hx hn hX ho
    obtain ⟨n, rfl⟩ : ∃ z, n = z + 1 := ⟨n - 1, by omega⟩
    have c3 : m (44 + w) 3 = nI (t (153 + 6 * w + 3)) := (hX.w (k := 3) (by omega) (by omega)).trans (dcN (by omega))
    have u := xF.u155 m x (oc (hC t 999 w x))
    obtain ⟨m', i1, i2, i3⟩ := ih n (x + 1) (m_up m 155 x (oc (hC t 999 w x))) (by omega) (by omega) (u.xs hX) (fun h hh => by
      by_cases e : h = x
      · subst e; simp [m_up]
      · rw [m_up_ni e]; exact ho h (by omega))
    refine ⟨m', ?_, i2, u.tr i3⟩
    rw [f_X0_choose_L12]
    refine (bnd_of (rdX (k := 3) rfl (by decide) (by decide) c3)).trans ?_
    refine (if_neg (nI_nlt (by omega) (by omega))).trans ?_
    refine (bnd_of (X_hourCost hX hW hw (by omega))).trans ?_
    refine (bnd_of (wrN (show x < 28 by omega) (by decide))).trans ?_
    rw [nI_1]
    exact i1
end XRun
