/-! canBe -/
section CanX
variable {t : Nat → Nat}
theorem mkB_stop {f : Nat → Bool} {n : Nat} (h : ∀ x, n ≤ x → f x = false) : ∀ k, mkB f (n + k) = mkB f n := by
  intro k
  induction k with
  | zero => rfl
  | succ k ih => rw [← Nat.add_assoc]; simp only [mkB]; rw [h (n + k) (by omega), ih]; rfl
/-- the open hours of a work -/
def oHr (T : Nat → Nat) (lt w h : Nat) : Bool := decide (h ≤ (T (153 + 6 * w + 3))) && (hC T lt w h).isSome
def oMk (T : Nat → Nat) (lt w : Nat) : Nat := mkB (oHr T lt w) 28
theorem X_cbL (hW : WB t) {w S L lt : Nat} {m : mM} (hw : w < t 1) (hX : XS t m) (hk : lkd t w m) (hS : S < 2 ^ 8) (hL : L < 2 ^ 8) (hl : ∀ j, j < 8 → (L.testBit j = true ↔ j = lt)) : ∀ (k n h : Nat), h + k = (t (153 + 6 * w + 3)) + 1 → k < n → f_X5_canBe_L17 (nI w) (nI S) (nI L) w m n (nI (mkB (oHr (tset t 2 S) lt w) h)) (nI h) = some (nI (oMk (tset t 2 S) lt w)) := by
  have w0 := hW.w0
  obtain ⟨d1, d2, d3, d4, d5, d6⟩ := hW.wk hw
  have eby : tset t 2 S (153 + 6 * w + 3) = t (153 + 6 * w + 3) := tset_ne (by omega)
  have c3 : m (44 + w) 3 = nI (t (153 + 6 * w + 3)) := (hX.w (k := 3) (by omega) (by omega)).trans (dcN (by omega))
  intro k
  induction k with
  | zero =>
    intro n h hh hn
    obtain ⟨n, rfl⟩ : ∃ z, n = z + 1 := ⟨n - 1, by omega⟩
    rw [f_X5_canBe_L17]
    refine (bnd_of (rdX (k := 3) rfl (by decide) (by decide) c3)).trans ?_
    refine (if_pos (nI_lt (by omega) (by omega))).trans ?_
    unfold oMk
    have := mkB_stop (f := oHr (tset t 2 S) lt w) (n := h) (fun x hx => by
      unfold oHr
      rw [eby, decide_eq_false (by omega)]; rfl) (28 - h)
    rw [show h + (28 - h) = 28 by omega] at this
    rw [this]
  | succ k ih =>
    intro n h hh hn
    obtain ⟨n, rfl⟩ : ∃ z, n = z + 1 := ⟨n - 1, by omega⟩
    have h28 : h < 28 := by omega
    have i1 := ih n (h + 1) (by omega) (by omega)
    have hb := mkB_lt (oHr (tset t 2 S) lt w) h
    have hc := cnd hW hw h28 hS hL hl
    rw [f_X5_canBe_L17]
    refine (bnd_of (rdX (k := 3) rfl (by decide) (by decide) c3)).trans ?_
    refine (if_neg (nI_nlt (by omega) (by omega))).trans ?_
    refine (bnd_of (ckN (show w < 6 by omega) (by decide))).trans ?_
    refine (bnd_of (rdX rfl h28 (by decide) (hk h h28).2)).trans ?_
    refine (bnd_of (ckN (show w < 6 by omega) (by decide))).trans ?_
    refine (bnd_of (rdX rfl h28 (by decide) (hk h h28).1)).trans ?_
    simp only [mkB] at i1
    have eo : oHr (tset t 2 S) lt w h = (hC (tset t 2 S) lt w h).isSome := by
      unfold oHr
      rw [eby, decide_eq_true (by omega)]; rfl
    rw [eo] at i1
    by_cases e : hC (tset t 2 S) lt w h = none
    · refine (if_neg (fun z => hc.mp z e)).trans ?_
      rw [e] at i1
      have e0 : nI (mkB (oHr (tset t 2 S) lt w) h) ||| (0 : Int32) = nI (mkB (oHr (tset t 2 S) lt w) h + 0) := by
        show _ ||| nI 0 = _
        rw [orN, Nat.or_zero]; rfl
      rw [e0, nI_1]
      exact i1
    · refine (if_pos (hc.mpr e)).trans ?_
      rw [show (hC (tset t 2 S) lt w h).isSome = true by cases z : hC (tset t 2 S) lt w h; exact absurd z e; rfl] at i1
      have e0 : mkB (oHr (tset t 2 S) lt w) h / 2 ^ h % 2 = 0 := by rw [Nat.div_eq_of_lt hb]
      rw [bit_i (by omega), orN, or_free e0, nI_1]
      exact i1
theorem X_odL {MK : Nat} {m : mM} (hM : MK < 2 ^ 28) : ∀ (k n d b : Nat), d + k = 7 → k < n → f_X5_openDays_L4 (nI MK) m n (nI b) (nI d) = some (nI (b + sumF (fun d => b2n (decide (MK / 2 ^ (4 * d) % 16 ≠ 0))) d k)) := by
  intro k
  induction k with
  | zero =>
    intro n d b hd hn
    obtain ⟨n, rfl⟩ : ∃ z, n = z + 1 := ⟨n - 1, by omega⟩
    rw [f_X5_openDays_L4]
    exact if_pos (nI_le (a := 7) (by omega) (by omega))
  | succ k ih =>
    intro n d b hd hn
    obtain ⟨n, rfl⟩ : ∃ z, n = z + 1 := ⟨n - 1, by omega⟩
    have ebit : (nI MK >>> ((nI d * (4 : Int32)) &&& 31)) &&& 15 = nI (MK / 2 ^ (4 * d) % 16) := by
      rw [show nI d * (4 : Int32) = nI (4 * d) by rw [Nat.mul_comm]; exact pk_mul d 4]
      show (nI MK >>> (nI (4 * d) &&& nI 31)) &&& nI 15 = _
      rw [shN (by omega) (by omega), anN]
      refine congrArg nI ?_
      exact Nat.and_two_pow_sub_one_eq_mod _ 4
    rw [f_X5_openDays_L4]
    refine (if_neg (nI_ge (b := 7) (by omega) (by decide))).trans ?_
    rw [ebit]
    simp only [sumF]
    by_cases e : MK / 2 ^ (4 * d) % 16 = 0
    · refine (if_pos (nIq e)).trans ?_
      rw [show decide (MK / 2 ^ (4 * d) % 16 ≠ 0) = false by simpa using e, nI_1]
      rw [show nI b + (0 : Int32) = nI b from iz _]
      rw [ih n (d + 1) b (by omega) (by omega)]
      show some (nI (b + _)) = some (nI (b + (0 + _)))
      rw [Nat.zero_add]
    · refine (if_neg (nIn (b := 0) (by omega) (by omega) e)).trans ?_
      rw [show decide (MK / 2 ^ (4 * d) % 16 ≠ 0) = true by simpa using e, nI_1, nI_1]
      rw [ih n (d + 1) (b + 1) (by omega) (by omega)]
      show some (nI (b + 1 + _)) = some (nI (b + (1 + _)))
      rw [Nat.add_assoc]
def runs (F : Nat → Bool) (x L : Nat) : Prop := ∀ h, x ≤ h → h < x + L → F h = true
theorem X_lrL {F : Nat → Bool} {m : mM} : ∀ (k n h best cur : Nat), h + k = 28 → k < n → cur ≤ h → best ≤ h → runs F (h - cur) cur → (∀ c, c ≤ h → runs F (h - c) c → c ≤ cur) → (∃ x, x + best ≤ h ∧ runs F x best) → (∀ x L, x + L ≤ h → runs F x L → L ≤ best) → ∃ r, f_X5_longestRun_L6 (nI (mkB F 28)) m n (nI best) (nI cur) (nI h) = some (nI r) ∧ r ≤ 28 ∧ (∃ x, x + r ≤ 28 ∧ runs F x r) ∧ ∀ x L, x + L ≤ 28 → runs F x L → L ≤ r := by
  have hM := mkB_lt F 28
  intro k
  induction k with
  | zero =>
    intro n h best cur hh hn h1 h2 h3 h4 h5 h6
    obtain ⟨n, rfl⟩ : ∃ z, n = z + 1 := ⟨n - 1, by omega⟩
    have : h = 28 := by omega
    subst this
    refine ⟨best, ?_, h2, h5, h6⟩
    rw [f_X5_longestRun_L6]
    exact if_pos (nI_le (a := 28) (by omega) (by omega))
  | succ k ih =>
    intro n h best cur hh hn h1 h2 h3 h4 h5 h6
    obtain ⟨n, rfl⟩ : ∃ z, n = z + 1 := ⟨n - 1, by omega⟩
    have hb : mkB F 28 / 2 ^ h % 2 = b2n (F h) := mkB_bit F 28 h (by omega)
    have hin := X_isIn (m := m) (a := mkB F 28) (k := h) (by omega) (by omega)
    rw [hb] at hin
    cases e : F h with
    | false =>
      rw [e] at hin
      obtain ⟨r, i1, i2⟩ := ih n (h + 1) best 0 (by omega) (by omega) (by omega) (by omega) (fun x a b => by omega) (fun c c1 c2 => by
        by_cases z : c = 0
        · omega
        · have := c2 h (by omega) (by omega)
          rw [e] at this; cases this) (by obtain ⟨x, x1, x2⟩ := h5; exact ⟨x, by omega, x2⟩) (fun x L q1 q2 => by
        by_cases z : x + L ≤ h
        · exact h6 x L z q2
        · by_cases y : L = 0
          · omega
          · have := q2 h (by omega) (by omega)
            rw [e] at this; cases this)
      refine ⟨r, ?_, i2⟩
      rw [f_X5_longestRun_L6]
      refine (if_neg (nI_ge (b := 28) (by omega) (by decide))).trans ?_
      refine (bnd_of hin).trans ?_
      refine (if_pos rfl).trans ?_
      rw [show (if nI best < (0 : Int32) then (0 : Int32) else nI best) = nI best from if_neg (nI_pos (by omega)), nI_1]
      exact i1
    | true =>
      rw [e] at hin
      have mx : ∃ b', b' = (if best < cur + 1 then cur + 1 else best) := ⟨_, rfl⟩
      obtain ⟨b', eb⟩ := mx
      have eb2 : (best < cur + 1 ∧ b' = cur + 1) ∨ (cur + 1 ≤ best ∧ b' = best) := by
        by_cases z : best < cur + 1
        · rw [if_pos z] at eb; exact Or.inl ⟨z, eb⟩
        · rw [if_neg z] at eb; exact Or.inr ⟨by omega, eb⟩
      have r1 : runs F (h + 1 - (cur + 1)) (cur + 1) := fun x a b => by
        by_cases z : x = h
        · rw [z]; exact e
        · exact h3 x (by omega) (by omega)
      have r2 : ∀ c, c ≤ h + 1 → runs F (h + 1 - c) c → c ≤ cur + 1 := fun c c1 c2 => by
        by_cases z : c = 0
        · omega
        · have := h4 (c - 1) (by omega) (fun x a b => c2 x (by omega) (by omega))
          omega
      obtain ⟨r, i1, i2⟩ := ih n (h + 1) b' (cur + 1) (by omega) (by omega) (by omega) (by omega) r1 r2 (by
        rcases eb2 with ⟨q1, q2⟩ | ⟨q1, q2⟩
        · exact ⟨h + 1 - (cur + 1), by omega, by rw [q2]; exact r1⟩
        · obtain ⟨x, x1, x2⟩ := h5
          exact ⟨x, by omega, by rw [q2]; exact x2⟩) (fun x L q1 q2 => by
        by_cases z : x + L ≤ h
        · have := h6 x L z q2; omega
        · have := r2 L (by omega) (by rw [show h + 1 - L = x by omega]; exact q2)
          omega)
      refine ⟨r, ?_, i2⟩
      rw [f_X5_longestRun_L6]
      refine (if_neg (nI_ge (b := 28) (by omega) (by decide))).trans ?_
      refine (bnd_of hin).trans ?_
      refine (if_neg (show ¬ nI (b2n true) = 0 by decide)).trans ?_
      have em : (if nI best < nI cur + (1 : Int32) then nI cur + (1 : Int32) else nI best) = nI b' := by
        rw [nI_1]
        rcases eb2 with ⟨q1, q2⟩ | ⟨q1, q2⟩
        · rw [if_pos (nI_lt q1 (by omega)), q2]
        · rw [if_neg (nI_nlt (by omega) (by omega)), q2]
      rw [em, nI_1, nI_1]
      exact i1
theorem WB.st2 (hW : WB t) {S : Nat} (hS : S < 2 ^ t 0) : WB (tset t 2 S) := by
  have h0 := hW.h0
  have w0 := hW.w0
  have e : ∀ i, i ≠ 2 → tset t 2 S i = t i := fun i hi => tset_ne hi
  have p8 : 2 ^ t 0 ≤ 2 ^ 8 := Nat.pow_le_pow_right (by decide) h0
  refine ⟨by rw [e 0 (by omega)]; exact h0, by rw [e 1 (by omega)]; exact w0, by rw [tset_eq, e 0 (by omega)]; exact hS, by rw [e 3 (by omega)]; exact hW.be, by rw [e 4 (by omega)]; exact hW.bs, fun k hk => by rw [e _ (by omega)]; exact hW.se hk, fun h hh => by rw [e _ (by omega)]; exact hW.pa hh, fun h i hh hi => ?_, fun x hx => ?_, fun w hw => ?_, fun i hi => ?_⟩
  · rw [e _ (by omega)] at hi
    rw [e _ (by omega), e 0 (by omega)]; exact hW.pp hh hi
  · rw [e 0 (by omega)] at hx
    rw [e _ (by omega), e _ (by omega), e _ (by omega)]
    exact hW.ho hx
  · rw [e 1 (by omega)] at hw
    rw [e 0 (by omega), e _ (by omega), e _ (by omega), e _ (by omega), e _ (by omega), e _ (by omega), e _ (by omega)]
    exact hW.wk hw
  · unfold tset
    split
    · omega
    · exact hW.lt hi
theorem oMk_day (hW : WB t) {lt w d : Nat} (hw : w < t 1) (hd : d < 7) : oMk t lt w / 2 ^ (4 * d) % 16 = 0 ↔ dh t lt w d = 999 := by
  obtain ⟨d1, d2, d3, d4, d5, d6⟩ := hW.wk hw
  unfold oMk
  rw [mkB_day _ hd, dh_none hW hw hd]
  constructor
  · intro z x q1 q2 q3
    refine Classical.byContradiction (fun n => ?_)
    have : anyF (oHr t lt w) (4 * d) 4 = true := (anyF_iff _ _ _).mpr ⟨x, q1, q2, by
      unfold oHr
      rw [decide_eq_true q3]
      cases y : hC t lt w x
      · exact absurd y n
      · rfl⟩
    rw [z] at this; cases this
  · intro z
    cases e : anyF (oHr t lt w) (4 * d) 4 with
    | false => rfl
    | true =>
      obtain ⟨x, q1, q2, q3⟩ := (anyF_iff _ _ _).mp e
      unfold oHr at q3
      rw [Bool.and_eq_true, decide_eq_true_eq] at q3
      rw [z x q1 q2 q3.1] at q3
      cases q3.2
theorem X_canBe (hW : WB t) {w S L lt : Nat} {m : mM} (hw : w < t 1) (hX : XS t m) (hk : lkd t w m) (hS : S < 2 ^ t 0) (hL : L < 2 ^ 8) (hl : ∀ j, j < 8 → (L.testBit j = true ↔ j = lt)) : f_X5_canBe (nI w) (nI S) (nI L) m = some (nI (b2n (can (tset t 2 S) lt w))) := by
  have w0 := hW.w0
  have h0 := hW.h0
  obtain ⟨d1, d2, d3, d4, d5, d6⟩ := hW.wk hw
  have p8 : 2 ^ t 0 ≤ 2 ^ 8 := Nat.pow_le_pow_right (by decide) h0
  have hW2 := hW.st2 hS
  have hM : oMk (tset t 2 S) lt w < 2 ^ 28 := mkB_lt _ _
  have e1 : tset t 2 S 1 = t 1 := tset_ne (by omega)
  have hw2 : w < tset t 2 S 1 := by rw [e1]; exact hw
  have esd : tset t 2 S (153 + 6 * w + 1) = t (153 + 6 * w + 1) := tset_ne (by omega)
  have eln : tset t 2 S (153 + 6 * w + 2) = t (153 + 6 * w + 2) := tset_ne (by omega)
  have eby : tset t 2 S (153 + 6 * w + 3) = t (153 + 6 * w + 3) := tset_ne (by omega)
  have c1 : m (44 + w) 1 = nI (t (153 + 6 * w + 1)) := (hX.w (k := 1) (by omega) (by omega)).trans (dcN (by omega))
  have c2 : m (44 + w) 2 = nI (t (153 + 6 * w + 2)) := (hX.w (k := 2) (by omega) (by omega)).trans (dcN (by omega))
  have l17 := X_cbL (S := S) (L := L) (lt := lt) hW hw hX hk (by omega) hL hl ((t (153 + 6 * w + 3)) + 1) fU 0 (by omega) (by show _ < 300; omega)
  unfold f_X5_canBe
  refine (bnd_of (ckN (show w < 6 by omega) (by decide))).trans ?_
  refine (bnd_of l17).trans ?_
  refine (bnd_of (rdX (k := 1) rfl (by decide) (by decide) c1)).trans ?_
  by_cases e : (t (153 + 6 * w + 1)) = 1
  · refine (if_pos (nIq e)).trans ?_
    have od : f_X5_openDays (nI (oMk (tset t 2 S) lt w)) m = some (nI (cnD (oD (tset t 2 S) lt w))) := by
      unfold f_X5_openDays
      refine (bnd_of (X_odL hM 7 fU 0 0 rfl (by decide))).trans ?_
      rw [Nat.zero_add]
      refine congrArg some (congrArg nI (sumF_congr _ _ (fun d _ hd => ?_)))
      rw [oD_b (by omega)]
      have := oMk_day (lt := lt) hW2 hw2 (show d < 7 by omega)
      refine congrArg b2n ?_
      exact decide_eq_decide.mpr (not_congr this)
    have hcn : cnD (oD (tset t 2 S) lt w) ≤ 7 * 1 := sumF_le 7 0 (fun d _ _ => bt1_le _ _)
    refine (bnd_of od).trans ?_
    refine (bnd_of (rdX (k := 2) rfl (by decide) (by decide) c2)).trans ?_
    have hc := can_1 (lt := lt) hW2 hw2 (by rw [esd]; omega)
    rw [eln] at hc
    by_cases q : cnD (oD (tset t 2 S) lt w) < (t (153 + 6 * w + 2))
    · refine (if_pos (nI_lt q (by omega))).trans ?_
      rw [show can (tset t 2 S) lt w = false by
        cases z : can (tset t 2 S) lt w
        · rfl
        · have := hc.mp z; omega]
      rfl
    · refine (if_neg (nI_nlt (by omega) (by omega))).trans ?_
      rw [hc.mpr (by omega)]
      rfl
  · refine (if_neg (nIn (b := 1) (by omega) (by omega) e)).trans ?_
    obtain ⟨r, r1, r2, r3, r4⟩ := X_lrL (F := oHr (tset t 2 S) lt w) (m := m) 28 fU 0 0 0 rfl (by decide) (Nat.le_refl _) (Nat.le_refl _) (fun x a b => by omega) (fun c c1 _ => by omega) ⟨0, by omega, fun x a b => by omega⟩ (fun x L q1 _ => by omega)
    have lr : f_X5_longestRun (nI (oMk (tset t 2 S) lt w)) m = some (nI r) := by
      unfold f_X5_longestRun
      exact (bnd_of r1).trans rfl
    refine (bnd_of lr).trans ?_
    refine (bnd_of (rdX (k := 2) rfl (by decide) (by decide) c2)).trans ?_
    have hc := can_0 (lt := lt) hW2 hw2 (by rw [esd]; omega)
    rw [eln, eby] at hc
    have rn : ∀ x L, 0 < L → runs (oHr (tset t 2 S) lt w) x L → x + L ≤ (t (153 + 6 * w + 3)) + 1 ∧ ∀ h, x ≤ h → h < x + L → hC (tset t 2 S) lt w h ≠ none := fun x L hL hr => by
      have kk : ∀ h, x ≤ h → h < x + L → h ≤ (t (153 + 6 * w + 3)) ∧ hC (tset t 2 S) lt w h ≠ none := fun h a b => by
        have := hr h a b
        unfold oHr at this
        rw [Bool.and_eq_true, decide_eq_true_eq, eby] at this
        refine ⟨this.1, fun z => ?_⟩
        rw [z] at this
        cases this.2
      have := kk (x + L - 1) (by omega) (by omega)
      exact ⟨by omega, fun h a b => (kk h a b).2⟩
    by_cases q : r < (t (153 + 6 * w + 2))
    · refine (if_pos (nI_lt q (by omega))).trans ?_
      rw [show can (tset t 2 S) lt w = false by
        cases z : can (tset t 2 S) lt w
        · rfl
        · obtain ⟨x, x1, x2⟩ := hc.mp z
          have := r4 x (t (153 + 6 * w + 2)) (by omega) (fun h a b => by
            unfold oHr
            rw [eby, decide_eq_true (by omega)]
            cases y : hC (tset t 2 S) lt w h
            · exact absurd y (x2 h a b)
            · rfl)
          omega]
      rfl
    · refine (if_neg (nI_nlt (by omega) (by omega))).trans ?_
      obtain ⟨x, x1, x2⟩ := r3
      have := rn x (t (153 + 6 * w + 2)) (by omega) (fun h a b => x2 h a (by omega))
      rw [hc.mpr ⟨x, this.1, this.2⟩]
      rfl
end CanX
