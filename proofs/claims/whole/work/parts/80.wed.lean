/-! ONE of two towns is the same where its hours cost the same; wed -/
section OneCg
variable {t t' : Nat → Nat}
theorem bestR_cg {lt lt' w : Nat} (h2 : (t' (153 + 6 * w + 2)) = (t (153 + 6 * w + 2))) (B : Nat) (hc : ∀ h, h < B → hC t' lt' w h = hC t lt w h) : ∀ (k x : Nat) (b : Option (Nat × Nat)), x + k + (t (153 + 6 * w + 2)) ≤ B + 1 → bestR t' lt' w k x b = bestR t lt w k x b := by
  intro k
  induction k with
  | zero => intro x b _; rfl
  | succ k ih =>
    intro x b hx
    simp only [bestR]
    have e : rF t' lt' w x (t' (153 + 6 * w + 2)) = rF t lt w x (t (153 + 6 * w + 2)) := by
      unfold rF
      rw [h2]
      exact sumF_congr _ _ (fun j q1 q2 => by unfold hF; rw [hc j (by omega)])
    rw [e, h2]
    exact ih (x + 1) _ (by omega)
theorem dB_cg {lt lt' w : Nat} (hc : ∀ h, h < 28 → hC t' lt' w h = hC t lt w h) : ∀ (k h : Nat) (b : Nat × Nat), h + k ≤ 28 → dB t' lt' w k h b = dB t lt w k h b := by
  intro k
  induction k with
  | zero => intro h b _; rfl
  | succ k ih =>
    intro h b hh
    simp only [dB]
    have e : hF t' lt' w h = hF t lt w h := by unfold hF; rw [hc h (by omega)]
    rw [e]
    exact ih (h + 1) _ (by omega)
theorem dR_cg {lt lt' w : Nat} (h3 : (t' (153 + 6 * w + 3)) = (t (153 + 6 * w + 3))) (hc : ∀ h, h < 28 → hC t' lt' w h = hC t lt w h) (d : Nat) (hd : d < 7) : dR t' lt' w d = dR t lt w d := by
  unfold dR
  have e : cntD t' w d = cntD t w d := by unfold cntD; rw [h3]
  rw [e]
  exact dB_cg hc _ _ _ (by unfold cntD; omega)
theorem sA_cg {lt lt' w D : Nat} (hd : ∀ d, d < 7 → dR t' lt' w d = dR t lt w d) : ∀ (k d : Nat) (b : Nat × Nat × Nat), d + k ≤ 7 → sA t' lt' w D k d b = sA t lt w D k d b := by
  intro k
  induction k with
  | zero => intro d b _; rfl
  | succ k ih =>
    intro d b h
    simp only [sA]
    rw [hd d (by omega)]
    exact ih (d + 1) _ (by omega)
theorem bestD_cg {lt lt' w : Nat} (h2 : (t' (153 + 6 * w + 2)) = (t (153 + 6 * w + 2))) (hd : ∀ d, d < 7 → dR t' lt' w d = dR t lt w d) : ∀ (k D : Nat) (b : Option (Nat × Nat)), bestD t' lt' w k D b = bestD t lt w k D b := by
  intro k
  induction k with
  | zero => intro D b; rfl
  | succ k ih =>
    intro D b
    simp only [bestD]
    rw [sA_cg hd 7 0 _ (by omega), h2]
    exact ih (D + 1) _
theorem one_cg (hW : WB t) {lt lt' w : Nat} (hw : w < t 1) (h1 : (t' (153 + 6 * w + 1)) = (t (153 + 6 * w + 1))) (h2 : (t' (153 + 6 * w + 2)) = (t (153 + 6 * w + 2))) (h3 : (t' (153 + 6 * w + 3)) = (t (153 + 6 * w + 3))) (hc : ∀ h, h < 28 → hC t' lt' w h = hC t lt w h) : one t' lt' w = one t lt w := by
  obtain ⟨d1, d2, d3, d4, d5, d6⟩ := hW.wk hw
  unfold one
  rw [h1, h2, h3]
  rw [bestD_cg h2 (fun d hd => dR_cg h3 hc d hd)]
  by_cases q : (t (153 + 6 * w + 2)) ≤ (t (153 + 6 * w + 3)) + 1
  · rw [bestR_cg h2 28 hc _ _ _ (by omega)]
  · rw [show (t (153 + 6 * w + 3)) + 2 - (t (153 + 6 * w + 2)) = 0 by omega]; rfl
theorem one_bok (hW : WB t) {lt w : Nat} (hw : w < t 1) : bOK (one t lt w) := by
  obtain ⟨d1, d2, d3, d4, d5, d6⟩ := hW.wk hw
  have n0 : bOK none := fun x h => by cases h
  unfold one
  split
  · have : ∀ (k x : Nat) (b : Option (Nat × Nat)), x + k + (t (153 + 6 * w + 2)) ≤ (t (153 + 6 * w + 3)) + 2 → bOK b → bOK (bestR t lt w k x b) := by
      intro k
      induction k with
      | zero => intro x b _ h; exact h
      | succ k ih =>
        intro x b hx h
        simp only [bestR]
        have hbl := bitsR_lt (n := (t (153 + 6 * w + 2))) (x := x) (by omega)
        exact ih (x + 1) _ (by omega) (bOK_wg h (by omega))
    by_cases q : (t (153 + 6 * w + 2)) ≤ (t (153 + 6 * w + 3)) + 1
    · exact this _ _ _ (by omega) n0
    · rw [show (t (153 + 6 * w + 3)) + 2 - (t (153 + 6 * w + 2)) = 0 by omega]; exact n0
  · have : ∀ (k D : Nat) (b : Option (Nat × Nat)), bOK b → bOK (bestD t lt w k D b) := by
      intro k
      induction k with
      | zero => intro D b h; exact h
      | succ k ih =>
        intro D b h
        simp only [bestD]
        refine ih (D + 1) _ ?_
        obtain ⟨a1, a2, a3⟩ := sA_ok (lt := lt) (D := D) hW hw 7 0 (0, 0, 0) rfl (Nat.le_refl _) (by decide) (by decide)
        split
        · exact bOK_wg h (by omega)
        · exact h
    exact this _ _ _ n0
theorem osumF_cg2 {f g : Nat → Option Nat} (k : Nat) (h : ∀ j, j < k → f j = g j) : osumF f 0 k = osumF g 0 k := osumF_congr k 0 (fun j _ q => h j (by omega))
/-- towns that differ in weds only, but not in the doer's -/
theorem hC_cgS (hW : WB t) {lt w h : Nat} (hw : w < t 1) (hh : h < 28) (e : ∀ i, i < 189 → (i < 121 ∨ 153 ≤ i ∨ i % 4 ≠ 0 ∨ i = 121 + 4 * (t (153 + 6 * w)) + 3) → t' i = t i) : hC t' lt w h = hC t lt w h := by
  have h0 := hW.h0
  have w0 := hW.w0
  obtain ⟨d1, d2, d3, d4, d5, d6⟩ := hW.wk hw
  have ec : ∀ x, x < 28 → (t' (9 + 4 * x)) = (t (9 + 4 * x)) := fun x hx => e _ (by omega) (by omega)
  have ep : ∀ x i, x < 28 → i < (t (9 + 4 * x)) → (t' (9 + 4 * x + 1 + i)) = (t (9 + 4 * x + 1 + i)) := fun x i hx hi => by
    have := hW.pa hx
    exact e _ (by omega) (by omega)
  unfold hC
  rw [ec h hh]
  refine osumF_cg2 _ (fun i hi => ?_)
  rw [ep h i hh hi]
  have hp := hW.pp hh hi
  generalize (t (9 + 4 * h + 1 + i)) = p at hp
  have ed : dayH t' (t (153 + 6 * w)) h = dayH t (t (153 + 6 * w)) h := by
    unfold dayH
    exact anyF_congr _ _ (fun x q1 q2 => hasP_cg (ec x (by omega)) (fun i hi => ep x i (by omega) hi))
  unfold pC
  rw [e (153 + 6 * w) (by omega) (by omega), e 3 (by omega) (by omega), e (153 + 6 * w + 5) (by omega) (by omega), e 4 (by omega) (by omega), e (121 + 4 * (t (153 + 6 * w)) + 3) (by omega) (by omega), e 2 (by omega) (by omega), e (121 + 4 * p) (by omega) (by omega), e (121 + 4 * p + 1) (by omega) (by omega), e (121 + 4 * p + 2) (by omega) (by omega), e (153 + 6 * w + 2) (by omega) (by omega), ed, ec h hh]
end OneCg
def ocst (b : Option (Nat × Nat)) : Nat := match b with
  | none => 100
  | some x => x.1
def wcV (t : Nat → Nat) (p w : Nat) : Nat := if (t (153 + 6 * w)) = p then ocst (one t 999 w) else 0
def wcst (t : Nat → Nat) (p : Nat) : Nat := sumF (wcV t p) 0 (t 1)
theorem wcV_le {t : Nat → Nat} (hW : WB t) {p w : Nat} (hw : w < t 1) : wcV t p w ≤ 100000 := by
  unfold wcV
  split
  · have := one_bok (lt := 999) hW hw
    cases e : one t 999 w with
    | none => show 100 ≤ 100000; decide
    | some x => exact Nat.le_of_lt (this x e).1
  · omega
theorem wcst_le {t : Nat → Nat} (hW : WB t) (p : Nat) : wcst t p ≤ 600000 := by
  have w0 := hW.w0
  have := sumF_le (f := wcV t p) (B := 100000) (t 1) 0 (fun j _ q => wcV_le hW (by omega))
  have : t 1 * 100000 ≤ 6 * 100000 := Nat.mul_le_mul_right _ w0
  unfold wcst
  omega
theorem X_cowL {t : Nat → Nat} (hW : WB t) {p : Nat} (hp : p < 8) : ∀ (k n w b : Nat) (m : mM), w + k = t 1 → k < n → XS t m → ∃ m', f_X2_costOfWorksOf_L4 (nI p) n (nI b) (nI w) m = some (nI (b + sumF (wcV t p) w k), m') ∧ xF m m' := by
  have w0 := hW.w0
  have h0 := hW.h0
  intro k
  induction k with
  | zero =>
    intro n w b m hw hn hX
    obtain ⟨n, rfl⟩ : ∃ z, n = z + 1 := ⟨n - 1, by omega⟩
    refine ⟨m, ?_, fun _ _ _ _ _ => rfl⟩
    rw [f_X2_costOfWorksOf_L4]
    exact if_pos (by rw [hX.2.1]; exact nI_le (by omega) (by omega))
  | succ k ih =>
    intro n w b m hw hn hX
    obtain ⟨n, rfl⟩ : ∃ z, n = z + 1 := ⟨n - 1, by omega⟩
    have hw1 : w < t 1 := by omega
    obtain ⟨d1, d2, d3, d4, d5, d6⟩ := hW.wk hw1
    have c0 : m (44 + w) 0 = nI (t (153 + 6 * w)) := (hX.w (k := 0) (by omega) (by omega)).trans (dcN (show (t (153 + 6 * w)) < 999 by omega))
    have hh : ∀ m', (f_X2_costOfWorksOf_L4 (nI p) (n + 1) (nI b) (nI w) m = m') = ((if nI (t (153 + 6 * w)) = nI p then (bnd (f_X0_choose (nI w) m) fun q5 => if (q5 154 4) = (-9 : Int32) then f_X2_costOfWorksOf_L4 (nI p) n (nI b + 100) (nI w + 1) q5 else f_X2_costOfWorksOf_L4 (nI p) n (nI b + (q5 154 4)) (nI w + 1) q5) else f_X2_costOfWorksOf_L4 (nI p) n (nI b) (nI w + 1) m) = m') := fun m' => by
      rw [f_X2_costOfWorksOf_L4]
      refine congrArg (· = m') ?_
      refine (if_neg (by rw [hX.2.1]; exact nI_ge (by omega) (by omega))).trans ?_
      refine (bnd_of (ckN (show w < 6 by omega) (by decide))).trans ?_
      exact bnd_of (rdX (k := 0) rfl (by decide) (by decide) c0)
    simp only [sumF, hh]
    by_cases e : (t (153 + 6 * w)) = p
    · obtain ⟨m1, j1, j2, j3, j4⟩ := X_choose hW hw1 hX
      have hX1 : XS t m1 := hX.cg (fun a i q => j4 a i (by omega) (by omega) (by omega))
      obtain ⟨m', i1, i2⟩ := ih n (w + 1) (b + ocst (one t 999 w)) m1 (by omega) (by omega) hX1
      refine ⟨m', ?_, j4.tr i2⟩
      rw [if_pos (nIq e)]
      refine (bnd_of j1).trans ?_
      have ev : wcV t p w = ocst (one t 999 w) := if_pos e
      rw [ev, ← Nat.add_assoc, ← i1]
      have ok := one_bok (lt := 999) hW hw1
      have j2 := j2.1
      cases eo : one t 999 w with
      | none =>
        rw [eo] at j2
        refine (if_pos (j2.trans rfl)).trans ?_
        rw [nI_1]
        exact congrArg (fun x => f_X2_costOfWorksOf_L4 (nI p) n x (nI (w + 1)) m1) (nI_add b 100)
      | some x =>
        rw [eo] at j2
        have hx := (ok x eo).1
        have j2 : m1 154 4 = nI x.1 := j2
        refine (if_neg (by rw [j2]; exact n9 (by omega))).trans ?_
        rw [nI_1, j2, nI_add]
        rfl
    · obtain ⟨m', i1, i2⟩ := ih n (w + 1) b m (by omega) (by omega) hX
      refine ⟨m', ?_, i2⟩
      rw [if_neg (nIn (by omega) (by omega) e), nI_1]
      rw [show wcV t p w = 0 from if_neg e, Nat.zero_add]
      exact i1
theorem X_cow {t : Nat → Nat} {m : mM} (hW : WB t) (hX : XS t m) {p : Nat} (hp : p < 8) : ∃ m', f_X2_costOfWorksOf (nI p) m = some (nI (wcst t p), m') ∧ xF m m' := by
  have w0 := hW.w0
  obtain ⟨m', i1, i2⟩ := X_cowL hW hp (t 1) fU 0 0 m (by omega) (by show _ < 300; omega) hX
  rw [Nat.zero_add] at i1
  refine ⟨m', ?_, i2⟩
  unfold f_X2_costOfWorksOf
  exact (bnd_of i1).trans rfl
theorem M_coL {s : aSt} (hS : SI s) {p : Nat} (hp : p < 8) : ∀ (k n w b : Nat) (m : mM), w + k = s.1 1 → k < n → MI s m → ∃ m', f_X9_costsOf_L4 (nI p) n (nI b) (nI w) m = some (nI (b + sumF (wcV s.1 p) w k), m') ∧ mF m m' := by
  have w0 := hS.w.w0
  have h0 := hS.w.h0
  intro k
  induction k with
  | zero =>
    intro n w b m hw hn hM
    obtain ⟨n, rfl⟩ : ∃ z, n = z + 1 := ⟨n - 1, by omega⟩
    refine ⟨m, ?_, mF.rf m⟩
    rw [f_X9_costsOf_L4]
    refine (bnd_of (rdX (k := 1) rfl (by decide) (by decide) (hM.c1 hS))).trans ?_
    exact if_pos (nI_le (by omega) (by omega))
  | succ k ih =>
    intro n w b m hw hn hM
    obtain ⟨n, rfl⟩ : ∃ z, n = z + 1 := ⟨n - 1, by omega⟩
    have hw1 : w < s.1 1 := by omega
    obtain ⟨d1, d2, d3, d4, d5, d6⟩ := hS.w.wk hw1
    have hh : f_X9_costsOf_L4 (nI p) (n + 1) (nI b) (nI w) m = (if nI (s.1 (153 + 6 * w)) = nI p then (bnd (f_X9_costOf (nI w) m) fun q5 => if 0 ≤ q5.1 then f_X9_costsOf_L4 (nI p) n (nI b + q5.1) (nI w + 1) q5.2 else f_X9_costsOf_L4 (nI p) n (nI b + 100) (nI w + 1) q5.2) else f_X9_costsOf_L4 (nI p) n (nI b) (nI w + 1) m) := by
      rw [f_X9_costsOf_L4]
      refine (bnd_of (rdX (k := 1) rfl (by decide) (by decide) (hM.c1 hS))).trans ?_
      refine (if_neg (nI_ge (by omega) (by omega))).trans ?_
      exact bnd_of ((M_of (k := 0) hM.s (by omega) (by omega)).trans (congrArg some (dcN (show (s.1 (153 + 6 * w)) < 999 by omega))))
    simp only [sumF]
    rw [hh]
    by_cases e : (s.1 (153 + 6 * w)) = p
    · obtain ⟨m1, j1, j2, j4⟩ := M_costOf hS hM hw1
      obtain ⟨m', i1, i2⟩ := ih n (w + 1) (b + ocst (one s.1 999 w)) m1 (by omega) (by omega) (hM.n j4.n)
      refine ⟨m', ?_, j4.tr i2⟩
      rw [if_pos (nIq e)]
      refine (bnd_of j1).trans ?_
      have ev : wcV s.1 p w = ocst (one s.1 999 w) := if_pos e
      rw [ev, ← Nat.add_assoc, ← i1]
      have ok := one_bok (lt := 999) hS.w.b hw1
      cases eo : one s.1 999 w with
      | none =>
        refine (if_neg (show ¬ (0 : Int32) ≤ -nI 9 by decide)).trans ?_
        rw [nI_1]
        exact congrArg (fun x => f_X9_costsOf_L4 (nI p) n x (nI (w + 1)) m1) (nI_add b 100)
      | some x =>
        have hx := (ok x eo).1
        refine (if_pos (show (0 : Int32) ≤ nI x.1 from nI_pos' (by omega))).trans ?_
        rw [nI_1]
        exact congrArg (fun z => f_X9_costsOf_L4 (nI p) n z (nI (w + 1)) m1) (nI_add b x.1)
    · obtain ⟨m', i1, i2⟩ := ih n (w + 1) b m (by omega) (by omega) hM
      refine ⟨m', ?_, i2⟩
      rw [if_neg (nIn (by omega) (by omega) e), nI_1]
      rw [show wcV s.1 p w = 0 from if_neg e, Nat.zero_add]
      exact i1
theorem M_co {s : aSt} {m : mM} (hS : SI s) (hM : MI s m) {p : Nat} (hp : p < 8) : ∃ m', f_X9_costsOf (nI p) m = some (nI (wcst s.1 p), m') ∧ mF m m' := by
  have w0 := hS.w.w0
  obtain ⟨m', i1, i2⟩ := M_coL hS hp (s.1 1) fU 0 0 m (by omega) (by show _ < 300; omega) hM
  rw [Nat.zero_add] at i1
  refine ⟨m', ?_, i2⟩
  unfold f_X9_costsOf
  exact (bnd_of i1).trans rfl
/-- a holder's spouse set on one side only -/
theorem WB.spt {t : Nat → Nat} (hW : WB t) {p v : Nat} (hp : p < 8) (hv : v < 1000) : WB (tset t (121 + 4 * p + 3) v) := by
  have h0 := hW.h0
  have w0 := hW.w0
  have e : ∀ i, (i < 121 ∨ 153 ≤ i ∨ i % 4 ≠ 0) → tset t (121 + 4 * p + 3) v i = t i := fun i hi => tset_ne (by omega)
  have ec : ∀ h, h < 28 → tset t (121 + 4 * p + 3) v (9 + 4 * h) = t (9 + 4 * h) := fun h hh => e _ (by omega)
  refine ⟨by rw [e 0 (by omega)]; exact h0, by rw [e 1 (by omega)]; exact w0, by rw [e 2 (by omega), e 0 (by omega)]; exact hW.st, by rw [e 3 (by omega)]; exact hW.be, by rw [e 4 (by omega)]; exact hW.bs, fun k hk => by rw [e _ (by omega)]; exact hW.se hk, fun h hh => by rw [ec h hh]; exact hW.pa hh, fun h i hh hi => ?_, fun x hx => ?_, fun w hw => ?_, fun i hi => ?_⟩
  · rw [ec h hh] at hi
    have := hW.pa hh
    rw [e _ (by omega), e 0 (by omega)]; exact hW.pp hh hi
  · rw [e 0 (by omega)] at hx
    rw [e (121 + 4 * x) (by omega), e (121 + 4 * x + 1) (by omega), e (121 + 4 * x + 2) (by omega)]
    exact hW.ho hx
  · rw [e 1 (by omega)] at hw
    rw [e (153 + 6 * w) (by omega), e (153 + 6 * w + 1) (by omega), e (153 + 6 * w + 2) (by omega), e (153 + 6 * w + 3) (by omega), e (153 + 6 * w + 4) (by omega), e (153 + 6 * w + 5) (by omega), e 0 (by omega)]
    exact hW.wk hw
  · unfold tset
    split
    · exact hv
    · exact hW.lt hi
theorem XS.spt {t : Nat → Nat} {m m' : mM} (hX : XS t m) (hW : WB t) {p v : Nat} (hp : p < 8) (f : ∀ a i, a < 51 → ¬ (a = 12 ∧ i = p) → m' a i = m a i) (c : m' 12 p = dc v) : XS (tset t (121 + 4 * p + 3) v) m' := by
  have e : ∀ i, (i < 121 ∨ 153 ≤ i ∨ i % 4 ≠ 0) → tset t (121 + 4 * p + 3) v i = t i := fun i hi => tset_ne (by omega)
  refine ⟨?_, ?_, ?_, ?_, ?_, fun x k hx hk => ?_, fun x hx => ?_, fun h hh => ?_, fun h i hh hi => ?_, fun w k hw hk => ?_, fun k hk => ?_, fun x hx => ?_⟩
  · rw [f 1 0 (by omega) (by omega), e 0 (by omega)]; exact hX.1
  · rw [f 1 1 (by omega) (by omega), e 1 (by omega)]; exact hX.2.1
  · rw [f 1 2 (by omega) (by omega), e 2 (by omega)]; exact hX.2.2.1
  · rw [f 1 3 (by omega) (by omega), e 3 (by omega)]; exact hX.2.2.2.1
  · rw [f 1 4 (by omega) (by omega), e 4 (by omega)]; exact hX.2.2.2.2.1
  · rw [f (3 + x) k (by omega) (by omega), e (121 + 4 * x + k) (by omega)]; exact hX.h hx hk
  · by_cases z : x = p
    · subst z; rw [tset_eq]; exact c
    · rw [f 12 x (by omega) (by omega), tset_ne (by omega)]; exact hX.s hx
  · rw [f 13 h (by omega) (by omega), e _ (by omega)]; exact hX.p hh
  · rw [e _ (by omega)] at hi
    have := hW.pa hh
    rw [f (15 + h) i (by omega) (by omega), e _ (by omega)]; exact hX.q hh hi
  · rw [f (44 + w) k (by omega) (by omega), e _ (by omega)]; exact hX.w hw hk
  · rw [f 50 k (by omega) (by omega), e _ (by omega)]; exact hX.u hk
  · rw [f 11 x (by omega) (by omega), hMk_cg (t := t) (fun h hh => e _ (by omega)) (fun h i hh hi => e _ (by have := hW.pa hh; omega))]; exact hX.b hx
theorem wcst_wed {t : Nat → Nat} (hW : WT t) {p q : Nat} (hp : p < t 0) (hq : q < t 0) (hpq : p ≠ q) : wcst (tset t (121 + 4 * p + 3) q) p = wcst (wedT t p q) p := by
  have h0 := hW.h0
  have w0 := hW.w0
  unfold wcst
  have e : ∀ i, (i < 121 ∨ 153 ≤ i ∨ i % 4 ≠ 0 ∨ i = 121 + 4 * p + 3) → tset t (121 + 4 * p + 3) q i = wedT t p q i := fun i hi => by
    by_cases z : i = 121 + 4 * p + 3
    · subst z; rw [tset_eq, wedT_s hp]; unfold wdV; rw [if_pos rfl]
    · rw [tset_ne z, wedT_n (by omega)]
  have e1 : wedT t p q 1 = t 1 := wedT_n (by omega)
  rw [e 1 (by omega)]
  refine sumF_congr _ _ (fun w q1 q2 => ?_)
  unfold wcV
  have hw6 : w < 6 := by omega
  rw [e (153 + 6 * w) (by omega)]
  by_cases z : wedT t p q (153 + 6 * w) = p
  · rw [if_pos z, if_pos z]
    have hb := (hW.wed hp hq hpq).b
    rw [one_cg (lt := 999) (lt' := 999) hb (show w < wedT t p q 1 by omega) (e _ (by omega)) (e _ (by omega)) (e _ (by omega)) (fun h hh => hC_cgS hb (by omega) hh (fun i hi c => e i (by rw [z] at c; omega)))]
  · rw [if_neg z, if_neg z]
def wdB (t : Nat → Nat) (p : Nat) : Nat → Nat → Nat × Nat → Nat × Nat
  | 0, _, b => b
  | k + 1, x, b => wdB t p k (x + 1) (if x = p then b else if wcst (wedT t p x) p < b.2 then (x, wcst (wedT t p x) p) else b)
theorem X_bsL {s : aSt} (hS : SI s) {p : Nat} (hp : p < s.1 0) {m0 : mM} (hX : XI s m0) : ∀ (k n x : Nat) (b : Nat × Nat) (m : mM), x + k = s.1 0 → k < n → b.2 ≤ wcst s.1 p → (∀ a i, ¬ (a = 12 ∧ i = p) → a ≠ 154 → a ≠ 155 → a ≠ 156 → m a i = m0 a i) → ∃ m', f_X2_bestSpouse_L23 (nI p) (dc (s.1 (121 + 4 * p + 3))) n (nI b.2) (dc b.1) (nI x) m = some (dc (wdB s.1 p k x b).1, m') ∧ ∀ a i, ¬ (a = 12 ∧ i = p) → a ≠ 154 → a ≠ 155 → a ≠ 156 → m' a i = m0 a i := by
  have h0 := hS.w.h0
  have hc0 := wcst_le hS.w.b p
  intro k
  induction k with
  | zero =>
    intro n x b m hx hn hb hm
    obtain ⟨n, rfl⟩ : ∃ z, n = z + 1 := ⟨n - 1, by omega⟩
    refine ⟨m, ?_, hm⟩
    rw [f_X2_bestSpouse_L23]
    exact if_pos (by rw [hm 1 0 (by omega) (by omega) (by omega) (by omega), hX.o0]; exact nI_le (by omega) (by omega))
  | succ k ih =>
    intro n x b m hx hn hb hm
    obtain ⟨n, rfl⟩ : ∃ z, n = z + 1 := ⟨n - 1, by omega⟩
    have hx0 : x < s.1 0 := by omega
    have c0 : ¬ m 1 0 ≤ nI x := by rw [hm 1 0 (by omega) (by omega) (by omega) (by omega), hX.o0]; exact nI_ge (by omega) (by omega)
    have go : ∀ v, v < 1000 → ∃ m1, f_X2_costOfWorksOf (nI p) (m_up m 12 p (dc v)) = some (nI (wcst (tset s.1 (121 + 4 * p + 3) v) p), m1) ∧ ∀ a i, ¬ (a = 12 ∧ i = p) → a ≠ 154 → a ≠ 155 → a ≠ 156 → m1 a i = m0 a i := fun v hv => by
      have hX1 : XS (tset s.1 (121 + 4 * p + 3) v) (m_up m 12 p (dc v)) := hX.x.spt hS.w.b (show p < 8 by omega) (fun a i q1 q2 => by
        have : m_up m 12 p (dc v) a i = m a i := if_neg q2
        rw [this]; exact hm a i q2 (by omega) (by omega) (by omega)) (m_up_eq _ _ _ _)
      obtain ⟨m1, j1, j2⟩ := X_cow (hS.w.b.spt (p := p) (by omega) hv) hX1 (p := p) (by omega)
      refine ⟨m1, j1, fun a i q1 q2 q3 q4 => ?_⟩
      rw [j2 a i q3 q4 (by omega)]
      have : m_up m 12 p (dc v) a i = m a i := if_neg q1
      rw [this]; exact hm a i q1 q2 q3 q4
    simp only [wdB]
    by_cases e : x = p
    · subst e
      obtain ⟨m1, j1, j2⟩ := go _ (hS.w.sp1000 (show x < 8 by omega))
      rw [tset_id] at j1
      obtain ⟨m', i1, i2⟩ := ih n (x + 1) b m1 (by omega) (by omega) hb j2
      refine ⟨m', ?_, i2⟩
      rw [f_X2_bestSpouse_L23]
      refine (if_neg c0).trans ?_
      refine (if_pos rfl).trans ?_
      refine (bnd_of (wrN (show x < 8 by omega) (by decide))).trans ?_
      refine (bnd_of j1).trans ?_
      refine (if_pos (nI_le hb (by omega))).trans ?_
      rw [nI_1, if_pos rfl]; exact i1
    · obtain ⟨m1, j1, j2⟩ := go x (by omega)
      rw [wcst_wed hS.w hp hx0 (Ne.symm e), dcN (show x < 999 by omega)] at j1
      have hcl := wcst_le (hS.w.wed hp hx0 (Ne.symm e)).b p
      have st : f_X2_bestSpouse_L23 (nI p) (dc (s.1 (121 + 4 * p + 3))) (n + 1) (nI b.2) (dc b.1) (nI x) m = (if nI b.2 ≤ nI (wcst (wedT s.1 p x) p) then f_X2_bestSpouse_L23 (nI p) (dc (s.1 (121 + 4 * p + 3))) n (nI b.2) (dc b.1) (nI x + 1) m1 else f_X2_bestSpouse_L23 (nI p) (dc (s.1 (121 + 4 * p + 3))) n (nI (wcst (wedT s.1 p x) p)) (nI x) (nI x + 1) m1) := by
        rw [f_X2_bestSpouse_L23]
        refine (if_neg c0).trans ?_
        refine (if_neg (nIn (by omega) (by omega) e)).trans ?_
        refine (bnd_of (wrN (show p < 8 by omega) (by decide))).trans ?_
        exact bnd_of j1
      rw [if_neg e]
      by_cases z : wcst (wedT s.1 p x) p < b.2
      · obtain ⟨m', i1, i2⟩ := ih n (x + 1) (x, wcst (wedT s.1 p x) p) m1 (by omega) (by omega) (by show wcst (wedT s.1 p x) p ≤ _; omega) j2
        refine ⟨m', ?_, i2⟩
        refine st.trans ?_
        refine (if_neg (nI_ge z (by omega))).trans ?_
        rw [nI_1, if_pos z]
        rw [dcN (show x < 999 by omega)] at i1
        exact i1
      · obtain ⟨m', i1, i2⟩ := ih n (x + 1) b m1 (by omega) (by omega) hb j2
        refine ⟨m', ?_, i2⟩
        refine st.trans ?_
        refine (if_pos (nI_le (by omega) (by omega))).trans ?_
        rw [nI_1, if_neg z]
        exact i1
def k192 (s : aSt) (m : mM) : Prop := ∀ i, i < 189 → m 192 i = dc (s.1 i)
theorem MI.back {s : aSt} {m : mM} {t' : Nat → Nat} (hM : MI (t', s.2) m) (hk : k192 s m) : ∃ m', f_X9_copies_192_189 m = some m' ∧ MI s m' ∧ k192 s m' ∧ hiF m m' := by
  obtain ⟨m', i1, i2, i3⟩ := cm_192_189 m
  refine ⟨m', i1, ?_, fun i hi => (i3 192 i (by decide)).trans (hk i hi), fun a i q => i3 a i (by omega)⟩
  exact hM.town (s := (t', s.2)) (t' := s.1) (fun i hi => (i2 i hi).trans (hk i hi)) (fun a i q => i3 a i (by omega))
theorem MI.keep {s : aSt} {m : mM} (hM : MI s m) : ∃ m', f_X9_copies_189_192 m = some m' ∧ MI s m' ∧ k192 s m' ∧ hiF m m' := by
  obtain ⟨m', i1, i2, i3⟩ := cm_189_192 m
  exact ⟨m', i1, hM.cg (fun a i q => i3 a i (by omega)), fun i hi => (i2 i hi).trans (hM.s i hi), fun a i q => i3 a i (by omega)⟩
theorem M_wdL {s : aSt} (hS : SI s) {p : Nat} (hp : p < s.1 0) : ∀ (k n x : Nat) (b : Nat × Nat) (m : mM), x + k = s.1 0 → k < n → b.2 ≤ 600000 → MI s m → k192 s m → ∃ m', f_X9_wed_L37 (nI p) n (dc b.1) (nI b.2) (nI x) m = some (dc (wdB s.1 p k x b).1, m') ∧ MI s m' ∧ hiF m m' := by
  have h0 := hS.w.h0
  intro k
  induction k with
  | zero =>
    intro n x b m hx hn hb hM hk
    obtain ⟨n, rfl⟩ : ∃ z, n = z + 1 := ⟨n - 1, by omega⟩
    refine ⟨m, ?_, hM, hiF.rf m⟩
    rw [f_X9_wed_L37]
    refine (bnd_of (rdX (k := 0) rfl (by decide) (by decide) (hM.c0 hS))).trans ?_
    exact if_pos (nI_le (by omega) (by omega))
  | succ k ih =>
    intro n x b m hx hn hb hM hk
    obtain ⟨n, rfl⟩ : ∃ z, n = z + 1 := ⟨n - 1, by omega⟩
    have hx0 : x < s.1 0 := by omega
    simp only [wdB]
    by_cases e : x = p
    · obtain ⟨m', i1, i2, i3⟩ := ih n (x + 1) b m (by omega) (by omega) hb hM hk
      refine ⟨m', ?_, i2, i3⟩
      rw [f_X9_wed_L37]
      refine (bnd_of (rdX (k := 0) rfl (by decide) (by decide) (hM.c0 hS))).trans ?_
      refine (if_neg (nI_ge (by omega) (by omega))).trans ?_
      refine (if_pos (nIq e)).trans ?_
      rw [nI_1, if_pos e]; exact i1
    · obtain ⟨m1, j1, j2, j3⟩ := M_weds hS hM hp hx0 (Ne.symm e)
      have hS1 := hS.town (hS.w.wed hp hx0 (Ne.symm e))
      obtain ⟨m2, l1, l2⟩ := M_co hS1 j2 (p := p) (by omega)
      have l1 : f_X9_costsOf (nI p) m1 = some (nI (wcst (wedT s.1 p x) p), m2) := l1
      obtain ⟨m3, r1, r2, r3, r4⟩ := MI.back (s := s) (j2.n l2.n) (fun i hi => (l2 192 i (by decide) (by decide) (by omega)).trans ((j3 192 i (by decide)).trans (hk i hi)))
      have hcl := wcst_le hS1.w.b p
      have hcl : wcst (wedT s.1 p x) p ≤ 600000 := hcl
      have f3 : hiF m m3 := fun a i q => (r4 a i q).trans ((l2.n.hi a i q).trans (j3 a i (by omega)))
      have st : f_X9_wed_L37 (nI p) (n + 1) (dc b.1) (nI b.2) (nI x) m = (if nI (wcst (wedT s.1 p x) p) < nI b.2 then f_X9_wed_L37 (nI p) n (nI x) (nI (wcst (wedT s.1 p x) p)) (nI x + 1) m3 else f_X9_wed_L37 (nI p) n (dc b.1) (nI b.2) (nI x + 1) m3) := by
        rw [f_X9_wed_L37]
        refine (bnd_of (rdX (k := 0) rfl (by decide) (by decide) (hM.c0 hS))).trans ?_
        refine (if_neg (nI_ge (by omega) (by omega))).trans ?_
        refine (if_neg (nIn (by omega) (by omega) e)).trans ?_
        refine (bnd_of j1).trans ?_
        refine (bnd_of l1).trans ?_
        exact bnd_of r1
      rw [if_neg e, st]
      by_cases z : wcst (wedT s.1 p x) p < b.2
      · obtain ⟨m', i1, i2, i3⟩ := ih n (x + 1) (x, wcst (wedT s.1 p x) p) m3 (by omega) (by omega) hcl r2 r3
        refine ⟨m', ?_, i2, f3.tr i3⟩
        refine (if_pos (nI_lt z (by omega))).trans ?_
        rw [nI_1, if_pos z]
        rw [dcN (show x < 999 by omega)] at i1
        exact i1
      · obtain ⟨m', i1, i2, i3⟩ := ih n (x + 1) b m3 (by omega) (by omega) hb r2 r3
        refine ⟨m', ?_, i2, f3.tr i3⟩
        refine (if_neg (nI_nlt (by omega) (by omega))).trans ?_
        rw [nI_1, if_neg z]
        exact i1
theorem op_wed (a1 : Int32) : Op (f_X8_wed a1) (f_X9_wed a1) := by
  intro s hS
  have h0 := hS.w.h0
  rcases io a1 (n := s.1 0) (by omega) with q | ⟨p, hp, rfl⟩
  · refine both_ref (k := 1) hS (by decide) (by decide) (fun m hX => ?_) (fun m hM => ?_)
    · unfold f_X8_wed; exact (bnd_of (X_hol0 hX q)).trans (if_pos rfl)
    · unfold f_X9_wed; exact (bnd_of (M_hol0 hS hM q)).trans (if_pos rfl)
  have hc0 := wcst_le hS.w.b p
  refine ⟨dc (wdB s.1 p (s.1 0) 0 (999, wcst s.1 p)).1, s, hS, fun m hX => ?_, fun m hM => ?_⟩
  · obtain ⟨m1, j1, j2⟩ := X_cow hS.w.b hX.x (p := p) (by omega)
    obtain ⟨m2, i1, i2⟩ := X_bsL hS hp hX (s.1 0) fU 0 (999, wcst s.1 p) m1 (by omega) (by show _ < 300; omega) (Nat.le_refl _) (fun a i q1 q2 q3 q4 => j2 a i q3 q4 (by omega))
    have f : ∀ a i, a ≠ 154 → a ≠ 155 → a ≠ 156 → m_up m2 12 p (dc (s.1 (121 + 4 * p + 3))) a i = m a i := fun a i q2 q3 q4 => by
      by_cases z : a = 12 ∧ i = p
      · obtain ⟨rfl, rfl⟩ := z
        rw [m_up_eq]; exact (hX.x.s (by omega)).symm
      · have : m_up m2 12 p (dc (s.1 (121 + 4 * p + 3))) a i = m2 a i := if_neg z
        rw [this]; exact i2 a i z q2 q3 q4
    refine ⟨m_up m2 12 p (dc (s.1 (121 + 4 * p + 3))), ?_, hX.cg (fun a i q => f a i (by omega) (by omega) (by omega)), fun a i q => f a i (by omega) (by omega) (by omega)⟩
    unfold f_X8_wed
    refine (bnd_of (X_hol1 hS hX hp)).trans ?_
    refine (if_neg (by decide)).trans ?_
    have e : f_X2_bestSpouse (nI p) m = some (dc (wdB s.1 p (s.1 0) 0 (999, wcst s.1 p)).1, m_up m2 12 p (dc (s.1 (121 + 4 * p + 3)))) := by
      unfold f_X2_bestSpouse
      refine (bnd_of (rdX rfl (show p < 8 by omega) (by decide) (hX.x.s (by omega)))).trans ?_
      refine (bnd_of j1).trans ?_
      refine (bnd_of i1).trans ?_
      exact (bnd_of (wrN (show p < 8 by omega) (by decide))).trans rfl
    exact (bnd_of e).trans rfl
  · obtain ⟨m1, j1, j2⟩ := M_co hS hM (p := p) (by omega)
    obtain ⟨m2, r1, r2, r3, r4⟩ := (hM.n j2.n).keep
    obtain ⟨m3, i1, i2, i3⟩ := M_wdL hS hp (s.1 0) fU 0 (999, wcst s.1 p) m2 (by omega) (by show _ < 300; omega) hc0 r2 r3
    refine ⟨m3, ?_, i2, j2.n.hi.tr (r4.tr i3)⟩
    unfold f_X9_wed
    refine (bnd_of (M_hol1 hS hM hp)).trans ?_
    refine (if_neg (by decide)).trans ?_
    refine (bnd_of j1).trans ?_
    refine (bnd_of r1).trans ?_
    exact (bnd_of i1).trans rfl
