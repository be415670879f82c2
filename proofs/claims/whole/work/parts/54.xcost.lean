/-! the class's side: its towns, costs of parts and hours -/
def mkB (f : Nat → Bool) : Nat → Nat
  | 0 => 0
  | n + 1 => mkB f n + (if f n then 2 ^ n else 0)
theorem mkB_lt (f : Nat → Bool) : ∀ n, mkB f n < 2 ^ n := by
  intro n
  induction n with
  | zero => exact Nat.zero_lt_one
  | succ n ih => simp only [mkB, Nat.pow_succ]; split <;> omega
theorem mkB_bit (f : Nat → Bool) : ∀ n h, h < n → mkB f n / 2 ^ h % 2 = b2n (f h) := by
  intro n
  induction n with
  | zero => intro h q; omega
  | succ n ih =>
    intro h q
    have hl := mkB_lt f n
    simp only [mkB]
    by_cases e : h = n
    · subst e
      have hp := Nat.two_pow_pos h
      cases hf : f h
      · simp only [b2n]
        rw [if_neg (by decide), Nat.add_zero, Nat.div_eq_of_lt hl]
        rfl
      · simp only [if_true, b2n]
        rw [Nat.add_div_right _ hp, Nat.div_eq_of_lt hl]
    · have hh : h < n := by omega
      split
      · have e2 : 2 ^ n = 2 ^ h * (2 * 2 ^ (n - h - 1)) := by
          rw [← Nat.mul_assoc, ← Nat.pow_succ, ← Nat.pow_add]
          congr 1
          omega
        rw [e2, Nat.add_mul_div_left _ _ (Nat.two_pow_pos h), Nat.add_mul_mod_self_left]
        exact ih h hh
      · rw [Nat.add_zero]
        exact ih h hh
theorem mkB_congr {f g : Nat → Bool} : ∀ n, (∀ h, h < n → f h = g h) → mkB f n = mkB g n := by
  intro n
  induction n with
  | zero => intro _; rfl
  | succ n ih => intro h; simp only [mkB]; rw [ih (fun x q => h x (by omega)), h n (by omega)]
theorem bits16 (x : Nat) : x % 16 = 0 ↔ x % 2 = 0 ∧ x / 2 % 2 = 0 ∧ x / 4 % 2 = 0 ∧ x / 8 % 2 = 0 := by omega
theorem mkB_day (f : Nat → Bool) {q : Nat} (hq : q < 7) : mkB f 28 / 2 ^ (4 * q) % 16 = 0 ↔ anyF f (4 * q) 4 = false := by
  have b : ∀ j, j < 4 → mkB f 28 / 2 ^ (4 * q) / 2 ^ j % 2 = b2n (f (4 * q + j)) := fun j hj => by
    rw [Nat.div_div_eq_div_mul, ← Nat.pow_add]
    exact mkB_bit f 28 _ (by omega)
  have b0 := b 0 (by omega)
  have b1 := b 1 (by omega)
  have b2 := b 2 (by omega)
  have b3 := b 3 (by omega)
  simp only [Nat.pow_zero, Nat.div_one, Nat.add_zero, Nat.reducePow] at b0 b1 b2 b3
  rw [bits16, b0, b1, b2, b3]
  simp only [anyF, Bool.or_eq_false_iff, Nat.add_assoc, Nat.reduceAdd]
  cases f (4 * q) <;> cases f (4 * q + 1) <;> cases f (4 * q + 2) <;> cases f (4 * q + 3) <;> decide
/-- the hours of a holder -/
def hMk (t : Nat → Nat) (p : Nat) : Nat := mkB (fun h => hasP t h p) 28
theorem hMk_lt (t : Nat → Nat) (p : Nat) : hMk t p < 2 ^ 28 := mkB_lt _ _
/-- a town's cells: object, holders' rows, hours, wed, parts, parts' rows, works' rows, seasons -/
def XT (aO aH aB aS aP aQ aW aU : Nat) (t : Nat → Nat) (m : mM) : Prop :=
  m aO 0 = nI (t 0) ∧ m aO 1 = nI (t 1) ∧ m aO 2 = nI (t 2) ∧ m aO 3 = dc (t 3) ∧ m aO 4 = nI (t 4) ∧ (∀ p k, p < 8 → k < 3 → m (aH + p) k = dc (t (121 + 4 * p + k))) ∧ (∀ p, p < 8 → m aS p = dc (t (121 + 4 * p + 3))) ∧ (∀ h, h < 28 → m aP h = nI (t (9 + 4 * h))) ∧
  (∀ h i, h < 28 → i < (t (9 + 4 * h)) → m (aQ + h) i = nI (t (9 + 4 * h + 1 + i))) ∧ (∀ w k, w < 6 → k < 6 → m (aW + w) k = dc (t (153 + 6 * w + k))) ∧ (∀ k, k < 4 → m aU k = nI (t (5 + k))) ∧ ∀ p, p < 8 → m aB p = nI (hMk t p)
abbrev XS (t : Nat → Nat) (m : mM) : Prop := XT 1 3 11 12 13 15 44 50 t m
section XCost
variable {t : Nat → Nat} {m : mM}
theorem XS.h (hX : XS t m) {p k : Nat} (hp : p < 8) (hk : k < 3) : m (3 + p) k = dc (t (121 + 4 * p + k)) := hX.2.2.2.2.2.1 p k hp hk
theorem XS.s (hX : XS t m) {p : Nat} (hp : p < 8) : m 12 p = dc (t (121 + 4 * p + 3)) := hX.2.2.2.2.2.2.1 p hp
theorem XS.p (hX : XS t m) {h : Nat} (hh : h < 28) : m 13 h = nI (t (9 + 4 * h)) := hX.2.2.2.2.2.2.2.1 h hh
theorem XS.q (hX : XS t m) {h i : Nat} (hh : h < 28) (hi : i < (t (9 + 4 * h))) : m (15 + h) i = nI (t (9 + 4 * h + 1 + i)) := hX.2.2.2.2.2.2.2.2.1 h i hh hi
theorem XS.w (hX : XS t m) {w k : Nat} (hw : w < 6) (hk : k < 6) : m (44 + w) k = dc (t (153 + 6 * w + k)) := hX.2.2.2.2.2.2.2.2.2.1 w k hw hk
theorem XS.u (hX : XS t m) {k : Nat} (hk : k < 4) : m 50 k = nI (t (5 + k)) := hX.2.2.2.2.2.2.2.2.2.2.1 k hk
theorem XS.b (hX : XS t m) {p : Nat} (hp : p < 8) : m 11 p = nI (hMk t p) := hX.2.2.2.2.2.2.2.2.2.2.2 p hp
def fr (t : Nat → Nat) (w p h : Nat) : Bool := decide (p = (t (153 + 6 * w)) ∨ (h = t 3 ∧ (t (153 + 6 * w + 5)) = t 4) ∨ (t (121 + 4 * (t (153 + 6 * w)) + 3)) = p)
def kl (t : Nat → Nat) (w p : Nat) : Bool := decide (¬ (t (121 + 4 * p)) = 6 ∧ (¬ (t (121 + 4 * p)) = 4 ∨ (t (153 + 6 * w + 5)) = (t (121 + 4 * p + 2))))
theorem X_isFree (hX : XS t m) (hW : WB t) {w p h : Nat} (hw : w < t 1) (hp : p < t 0) (hh : h < 28) : f_X7_isFree (nI w) (nI p) (nI h) m = some (nI (b2n (fr t w p h))) := by
  have h0 := hW.h0
  have h1 := hW.w0
  obtain ⟨d1, d2, d3, d4, d5, d6⟩ := hW.wk hw
  have hb := hW.b1000
  have hbs := hW.bs
  have hs := hW.sp1000 (p := (t (153 + 6 * w))) (by omega)
  have c0 : m (44 + w) 0 = nI (t (153 + 6 * w)) := (hX.w (k := 0) (by omega) (by omega)).trans (dcN (show (t (153 + 6 * w)) < 999 by omega))
  have c5 : m (44 + w) 5 = nI (t (153 + 6 * w + 5)) := (hX.w (k := 5) (by omega) (by omega)).trans (dcN (by omega))
  have ck : ckR 6 (nI w) = some w := ckN (by omega) (by decide)
  unfold f_X7_isFree fr
  refine (bnd_of ck).trans ?_
  refine (bnd_of (rdX (k := 0) rfl (by decide) (by decide) c0)).trans ?_
  by_cases e1 : p = (t (153 + 6 * w))
  · refine (if_pos (nIq e1)).trans ?_
    rw [decide_eq_true (Or.inl e1)]; rfl
  · refine (if_neg (nIn (by omega) (by omega) e1)).trans ?_
    refine (bnd_of (rdX (k := (t (153 + 6 * w))) rfl (by omega) (by decide) (hX.s (by omega)))).trans ?_
    by_cases e2 : (t (121 + 4 * (t (153 + 6 * w)) + 3)) = p
    · refine (if_pos ((dcn hs (by omega)).mpr e2)).trans ?_
      rw [decide_eq_true (Or.inr (Or.inr e2))]; rfl
    · refine (if_neg (fun q => e2 ((dcn hs (by omega)).mp q))).trans ?_
      rw [hX.2.2.2.1, hX.2.2.2.2.1]
      by_cases e3 : h = t 3
      · refine (if_pos ((ndc (by omega) hb).mpr e3)).trans ?_
        refine (bnd_of ck).trans ?_
        refine (bnd_of (rdX (k := 5) rfl (by decide) (by decide) c5)).trans ?_
        by_cases e4 : (t (153 + 6 * w + 5)) = t 4
        · refine (if_pos (nIq e4)).trans ?_
          rw [decide_eq_true (Or.inr (Or.inl ⟨e3, e4⟩))]; rfl
        · refine (if_neg (nIn (by omega) (by omega) e4)).trans ?_
          rw [decide_eq_false (fun q => q.elim e1 (fun z => z.elim (fun y => e4 y.2) e2))]; rfl
      · refine (if_neg (fun q => e3 ((ndc (by omega) hb).mp q))).trans ?_
        rw [decide_eq_false (fun q => q.elim e1 (fun z => z.elim (fun y => e3 y.1) e2))]; rfl
theorem X_kindLets (hX : XS t m) (hW : WB t) {w p : Nat} (hw : w < t 1) (hp : p < t 0) : f_X7_kindLets (nI w) (nI p) m = some (nI (b2n (kl t w p))) := by
  have h0 := hW.h0
  have h1 := hW.w0
  obtain ⟨d1, d2, d3, d4, d5, d6⟩ := hW.wk hw
  obtain ⟨k1, k2, k3⟩ := hW.ho hp
  have c5 : m (44 + w) 5 = nI (t (153 + 6 * w + 5)) := (hX.w (k := 5) (by omega) (by omega)).trans (dcN (by omega))
  have g0 : m (3 + p) 0 = nI (t (121 + 4 * p)) := (hX.h (k := 0) (by omega) (by omega)).trans (dcN (show (t (121 + 4 * p)) < 999 by omega))
  have g2 : m (3 + p) 2 = nI (t (121 + 4 * p + 2)) := (hX.h (k := 2) (by omega) (by omega)).trans (dcN (by omega))
  have ck : ckR 6 (nI w) = some w := ckN (by omega) (by decide)
  have ch : ckR 8 (nI p) = some p := ckN (by omega) (by decide)
  unfold f_X7_kindLets kl
  refine (bnd_of ch).trans ?_
  refine (bnd_of (rdX (k := 0) rfl (by decide) (by decide) g0)).trans ?_
  by_cases e1 : (t (121 + 4 * p)) = 6
  · refine (if_pos (nIq e1)).trans ?_
    rw [decide_eq_false (fun q => q.1 e1)]; rfl
  · refine (if_neg (nIn (b := 6) (by omega) (by omega) e1)).trans ?_
    by_cases e2 : (t (121 + 4 * p)) = 4
    · refine (if_pos (nIq e2)).trans ?_
      refine (bnd_of ch).trans ?_
      refine (bnd_of (rdX (k := 2) rfl (by decide) (by decide) g2)).trans ?_
      refine (bnd_of ck).trans ?_
      refine (bnd_of (rdX (k := 5) rfl (by decide) (by decide) c5)).trans ?_
      by_cases e3 : (t (121 + 4 * p + 2)) = (t (153 + 6 * w + 5))
      · refine (if_pos (nIq e3)).trans ?_
        rw [decide_eq_true ⟨e1, Or.inr e3.symm⟩]; rfl
      · refine (if_neg (nIn (by omega) (by omega) e3)).trans ?_
        rw [decide_eq_false (fun q => q.2.elim (fun z => z e2) (fun z => e3 z.symm))]; rfl
    · refine (if_neg (nIn (b := 4) (by omega) (by omega) e2)).trans ?_
      rw [decide_eq_true ⟨e1, Or.inl e2⟩]; rfl
theorem X_isIn {a k : Nat} (ha : a < 2 ^ 31) (hk : k < 32) : f_X8_isIn (nI a) (nI k) m = some (nI (a / 2 ^ k % 2)) := by
  have ebit : (nI a >>> (nI k &&& 31)) &&& 1 = nI (a / 2 ^ k % 2) := by
    show (nI a >>> (nI k &&& nI 31)) &&& nI 1 = _
    rw [shN ha hk, an1]
  unfold f_X8_isIn
  rw [ebit]
  have : a / 2 ^ k % 2 < 2 := Nat.mod_lt _ (by decide)
  by_cases e : a / 2 ^ k % 2 = 1
  · refine (if_pos (nIq e)).trans ?_
    rw [e]; rfl
  · refine (if_neg (nIn (b := 1) (by omega) (by omega) e)).trans ?_
    rw [show a / 2 ^ k % 2 = 0 by omega]; rfl
theorem X_partCost (hX : XS t m) (hW : WB t) {w p h : Nat} (hw : w < t 1) (hp : p < t 0) (hh : h < 28) : f_X0_partCost (nI w) (nI p) (nI h) m = some (oc (pC t 999 w p h)) := by
  have h0 := hW.h0
  have h1 := hW.w0
  obtain ⟨d1, d2, d3, d4, d5, d6⟩ := hW.wk hw
  obtain ⟨k1, k2, k3⟩ := hW.ho hp
  have hst := hW.s256
  have h3 := hW.pa hh
  have g0 : m (3 + p) 0 = nI (t (121 + 4 * p)) := (hX.h (k := 0) (by omega) (by omega)).trans (dcN (show (t (121 + 4 * p)) < 999 by omega))
  have g1 : m (3 + p) 1 = nI (t (121 + 4 * p + 1)) := (hX.h (k := 1) (by omega) (by omega)).trans (dcN (by omega))
  have c0 : m (44 + w) 0 = nI (t (153 + 6 * w)) := (hX.w (k := 0) (by omega) (by omega)).trans (dcN (show (t (153 + 6 * w)) < 999 by omega))
  have c2 : m (44 + w) 2 = nI (t (153 + 6 * w + 2)) := (hX.w (k := 2) (by omega) (by omega)).trans (dcN (by omega))
  have ck : ckR 6 (nI w) = some w := ckN (by omega) (by decide)
  have ch : ckR 8 (nI p) = some p := ckN (by omega) (by decide)
  have hmul : (t (121 + 4 * p + 1)) * (t (9 + 4 * h)) ≤ 9 * 3 := Nat.mul_le_mul k2 h3
  have er : nI h - nI h / 4 * 4 = nI (h % 4) := pk_rem (d := 4) (by omega) (by decide) (by decide)
  unfold f_X0_partCost pC
  refine (bnd_of (X_isFree hX hW hw hp hh)).trans ?_
  by_cases e1 : p = (t (153 + 6 * w)) ∨ (h = t 3 ∧ (t (153 + 6 * w + 5)) = t 4) ∨ (t (121 + 4 * (t (153 + 6 * w)) + 3)) = p
  · refine (if_neg (fun q => ?_)).trans ?_
    · have := b2n_0.mp q
      unfold fr at this
      rw [decide_eq_true e1] at this
      cases this
    · rw [if_pos e1]; rfl
  · refine (if_pos (b2n_0.mpr (by unfold fr; rw [decide_eq_false e1]))).trans ?_
    rw [if_neg e1, if_neg (show ¬ p = 999 by omega), hX.2.2.1]
    refine (bnd_of (X_isIn (by omega) (by omega))).trans ?_
    by_cases e2 : t 2 / 2 ^ p % 2 = 1
    · refine (if_neg (nIn (b := 0) (by omega) (by omega) (by omega))).trans ?_
      rw [if_pos e2]; rfl
    · have e20 : t 2 / 2 ^ p % 2 = 0 := by omega
      refine (if_pos (nIq e20)).trans ?_
      rw [if_neg e2]
      refine (bnd_of (X_kindLets hX hW hw hp)).trans ?_
      by_cases e3 : ¬ (t (121 + 4 * p)) = 6 ∧ (¬ (t (121 + 4 * p)) = 4 ∨ (t (153 + 6 * w + 5)) = (t (121 + 4 * p + 2)))
      · refine (if_neg (fun q => ?_)).trans ?_
        · have := b2n_0.mp q
          unfold kl at this
          rw [decide_eq_true e3] at this
          cases this
        refine (bnd_of ck).trans ?_
        refine (bnd_of ch).trans ?_
        refine (bnd_of (rdX (k := 1) rfl (by decide) (by decide) g1)).trans ?_
        refine (bnd_of (rdX (k := 2) rfl (by decide) (by decide) c2)).trans ?_
        refine (bnd_of ch).trans ?_
        refine (bnd_of (rdX (k := 0) rfl (by decide) (by decide) g0)).trans ?_
        have emx : (if (1 : Int32) < nI (t (153 + 6 * w + 2)) then nI (t (153 + 6 * w + 2)) else 1) = nI (t (153 + 6 * w + 2)) := by
          by_cases q : 1 < (t (153 + 6 * w + 2))
          · exact if_pos (nI_lt (a := 1) q (by omega))
          · rw [if_neg (nI_nlt (b := 1) (a := (t (153 + 6 * w + 2))) (by omega) (by omega) |> fun z => by rw [show (t (153 + 6 * w + 2)) = 1 by omega]; decide), show (t (153 + 6 * w + 2)) = 1 by omega]; rfl
        rw [emx]
        by_cases f1 : (t (121 + 4 * p)) = 1
        · refine (if_pos (nIq f1)).trans ?_
          rw [if_pos f1]
          refine (bnd_of (a := nI ((2 * (t (121 + 4 * p + 1)) + (t (153 + 6 * w + 2)) - 1) / (t (153 + 6 * w + 2)))) ?_).trans rfl
          simp (disch := omega) only [lit, pk_mul, nI_add, pk_sub, dvN]
        refine (if_neg (nIn (b := 1) (by omega) (by omega) f1)).trans ?_
        rw [if_neg f1]
        by_cases f2 : (t (121 + 4 * p)) = 2
        · refine (if_pos (nIq f2)).trans ?_
          rw [if_pos f2]
          refine (bnd_of (rdX (k := 0) rfl (by decide) (by decide) c0)).trans ?_
          refine (bnd_of (rdX (k := (t (153 + 6 * w))) rfl (by omega) (by decide) (hX.b (by omega)))).trans ?_
          have hl := hMk_lt t (t (153 + 6 * w))
          have ed : (nI (hMk t (t (153 + 6 * w))) >>> ((nI h - (nI h - nI h / 4 * 4)) &&& 31)) &&& 15 = nI (hMk t (t (153 + 6 * w)) / 2 ^ (4 * (h / 4)) % 16) := by
            rw [er, pk_sub (by omega), show h - h % 4 = 4 * (h / 4) by omega]
            show (nI _ >>> (nI _ &&& nI 31)) &&& nI 15 = _
            rw [shN (by omega) (by omega), anN]
            congr 1
            exact Nat.and_two_pow_sub_one_eq_mod _ 4
          rw [ed]
          have key := mkB_day (fun x => hasP t x (t (153 + 6 * w))) (q := h / 4) (by omega)
          have hd : dayH t (t (153 + 6 * w)) h = anyF (fun x => hasP t x (t (153 + 6 * w))) (4 * (h / 4)) 4 := by unfold dayH; rw [Nat.mul_comm (h / 4) 4]
          by_cases g : dayH t (t (153 + 6 * w)) h = false
          · refine (if_pos (nIq (key.mpr (by rw [← hd]; exact g)))).trans ?_
            simp only [g, lit, pk_mul]
            rfl
          · refine (if_neg (nIn (b := 0) (by omega) (by omega) (fun z => g (by rw [hd]; exact key.mp z)))).trans ?_
            simp at g
            simp only [g]
            rfl
        refine (if_neg (nIn (b := 2) (by omega) (by omega) f2)).trans ?_
        rw [if_neg f2]
        by_cases f3 : (t (121 + 4 * p)) = 3
        · refine (if_pos (nIq f3)).trans ?_
          rw [if_pos f3]
          refine (bnd_of (rdX (k := h) rfl (by omega) (by decide) (hX.p hh))).trans ?_
          rw [pk_mul]; rfl
        refine (if_neg (nIn (b := 3) (by omega) (by omega) f3)).trans ?_
        rw [if_neg f3]
        by_cases f4 : (t (121 + 4 * p)) = 4
        · refine (if_pos (nIq f4)).trans ?_
          rw [if_pos f4, if_pos (e3.2.resolve_left (fun z => z f4))]; rfl
        refine (if_neg (nIn (b := 4) (by omega) (by omega) f4)).trans ?_
        rw [if_neg f4]
        by_cases f5 : (t (121 + 4 * p)) = 5
        · refine (if_pos (nIq f5)).trans ?_
          rw [if_pos f5, er]
          by_cases g : h % 4 = 3
          · refine (if_pos (nIq g)).trans ?_
            rw [if_pos g]; rfl
          · refine (if_neg (nIn (b := 3) (by omega) (by omega) g)).trans ?_
            rw [if_neg g]; rfl
        refine (if_neg (nIn (b := 5) (by omega) (by omega) f5)).trans ?_
        rw [if_neg f5, if_neg e3.1]; rfl
      · refine (if_pos (b2n_0.mpr (by unfold kl; rw [decide_eq_false e3]))).trans ?_
        by_cases f6 : (t (121 + 4 * p)) = 6
        · rw [if_neg (by omega), if_neg (by omega), if_neg (by omega), if_neg (by omega), if_neg (by omega), if_pos f6]; rfl
        · have f4 : (t (121 + 4 * p)) = 4 := by
            by_cases z : (t (121 + 4 * p)) = 4
            · exact z
            · exact absurd ⟨f6, Or.inl z⟩ e3
          have ns : ¬ (t (153 + 6 * w + 5)) = (t (121 + 4 * p + 2)) := fun z => e3 ⟨f6, Or.inr z⟩
          rw [if_neg (by omega), if_neg (by omega), if_neg (by omega), if_pos f4, if_neg ns]; rfl
theorem X_hourL (hX : XS t m) (hW : WB t) {w h : Nat} (hw : w < t 1) (hh : h < 28) : ∀ (k n i v : Nat), i + k = (t (9 + 4 * h)) → k < n → v ≤ 27 * i → f_X0_hourCost_L5 (nI w) (nI h) m n (nI v) (nI i) = some (match osumF (fun i => pC t 999 w (t (9 + 4 * h + 1 + i)) h) i k with | none => .inl (-nI 9) | some x => .inr (nI (v + x))) := by
  have h3 := hW.pa hh
  intro k
  induction k with
  | zero =>
    intro n i v hi hn hv
    obtain ⟨n, rfl⟩ : ∃ z, n = z + 1 := ⟨n - 1, by omega⟩
    rw [f_X0_hourCost_L5]
    refine (bnd_of (rdX (k := h) rfl (by omega) (by decide) (hX.p hh))).trans ?_
    exact if_pos (nI_le (by omega) (by omega))
  | succ k ih =>
    intro n i v hi hn hv
    obtain ⟨n, rfl⟩ : ∃ z, n = z + 1 := ⟨n - 1, by omega⟩
    have h0 := hW.h0
    have hq := hW.pp (i := i) hh (by omega)
    rw [f_X0_hourCost_L5]
    refine (bnd_of (rdX (k := h) rfl (by omega) (by decide) (hX.p hh))).trans ?_
    refine (if_neg (nI_ge (by omega) (by omega))).trans ?_
    refine (bnd_of (ckN hh (by decide))).trans ?_
    refine (bnd_of (rdX (k := i) rfl (by omega) (by decide) (hX.q hh (by omega)))).trans ?_
    refine (bnd_of (X_partCost hX hW hw hq hh)).trans ?_
    simp only [osumF]
    cases e : pC t 999 w (t (9 + 4 * h + 1 + i)) h with
    | none => exact (if_pos rfl).trans rfl
    | some x =>
      have hx := pC_le hW hw hq hh e
      refine (if_neg (n9 (show x < 2 ^ 31 by omega))).trans ?_
      show f_X0_hourCost_L5 (nI w) (nI h) m n (nI v + nI x) (nI i + 1) = _
      rw [nI_add, nI_1, ih n (i + 1) (v + x) (by omega) (by omega) (by omega)]
      cases osumF (fun i => pC t 999 w (t (9 + 4 * h + 1 + i)) h) (i + 1) k with
      | none => rfl
      | some y => simp only [Nat.add_assoc]
theorem X_hourCost (hX : XS t m) (hW : WB t) {w h : Nat} (hw : w < t 1) (hh : h < 28) : f_X0_hourCost (nI w) (nI h) m = some (oc (hC t 999 w h)) := by
  have h3 := hW.pa hh
  unfold f_X0_hourCost
  refine (bnd_of (X_hourL hX hW hw hh (t (9 + 4 * h)) fU 0 0 (by omega) (by show _ < 300; omega) (by omega))).trans ?_
  unfold hC
  cases osumF (fun i => pC t 999 w (t (9 + 4 * h + 1 + i)) h) 0 (t (9 + 4 * h)) with
  | none => rfl
  | some x => simp only [Nat.zero_add]; rfl
end XCost
