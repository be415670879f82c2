/-! the class's looks at strikes -/
def orA (f : Nat → Nat) : Nat → Nat → Nat → Nat
  | 0, _, b => b
  | k + 1, i, b => orA f k (i + 1) (b ||| f i)
theorem orA_b (f : Nat → Nat) (j : Nat) : ∀ (k i b : Nat), (orA f k i b).testBit j = true ↔ b.testBit j = true ∨ ∃ x, i ≤ x ∧ x < i + k ∧ (f x).testBit j = true := by
  intro k
  induction k with
  | zero => intro i b; simp only [orA]; exact ⟨Or.inl, fun z => z.elim id (fun ⟨x, h1, h2, _⟩ => by omega)⟩
  | succ k ih =>
    intro i b
    simp only [orA]
    rw [ih, Nat.testBit_or, Bool.or_eq_true]
    constructor
    · rintro ((h | h) | ⟨x, h1, h2, h3⟩)
      · exact Or.inl h
      · exact Or.inr ⟨i, Nat.le_refl _, by omega, h⟩
      · exact Or.inr ⟨x, by omega, by omega, h3⟩
    · rintro (h | ⟨x, h1, h2, h3⟩)
      · exact Or.inl (Or.inl h)
      · by_cases e : x = i
        · subst e; exact Or.inl (Or.inr h3)
        · exact Or.inr ⟨x, by omega, by omega, h3⟩
theorem orA_lt {f : Nat → Nat} : ∀ (k i b : Nat), b < 2 ^ 8 → (∀ x, i ≤ x → x < i + k → f x < 2 ^ 8) → orA f k i b < 2 ^ 8 := by
  intro k
  induction k with
  | zero => intro i b h _; exact h
  | succ k ih =>
    intro i b h hf
    exact ih (i + 1) _ (Nat.or_lt_two_pow h (hf i (Nat.le_refl _) (by omega))) (fun x h1 h2 => hf x (by omega) (by omega))
def aB (t : Nat → Nat) (w h i : Nat) : Nat := if fr t w (t (9 + 4 * h + 1 + i)) h = true then 0 else 2 ^ (t (9 + 4 * h + 1 + i))
def nB (t : Nat → Nat) (w h i : Nat) : Nat := if fr t w (t (9 + 4 * h + 1 + i)) h = true then 0 else if kl t w (t (9 + 4 * h + 1 + i)) = true then 0 else 2 ^ (t (9 + 4 * h + 1 + i))
def AM (t : Nat → Nat) (w h : Nat) : Nat := orA (aB t w h) (t (9 + 4 * h)) 0 0
def NM (t : Nat → Nat) (w h : Nat) : Nat := orA (nB t w h) (t (9 + 4 * h)) 0 0
section Look
variable {t : Nat → Nat}
theorem aB_lt (hW : WB t) {w h i : Nat} (hh : h < 28) (hi : i < (t (9 + 4 * h))) : aB t w h i < 2 ^ 8 := by
  have h0 := hW.h0
  have hp := hW.pp hh hi
  unfold aB
  split
  · decide
  · exact Nat.pow_lt_pow_right (by decide) (by omega)
theorem nB_lt (hW : WB t) {w h i : Nat} (hh : h < 28) (hi : i < (t (9 + 4 * h))) : nB t w h i < 2 ^ 8 := by
  have h0 := hW.h0
  have hp := hW.pp hh hi
  unfold nB
  split
  · decide
  · split
    · decide
    · exact Nat.pow_lt_pow_right (by decide) (by omega)
theorem AM_lt (hW : WB t) {w h : Nat} (hh : h < 28) : AM t w h < 2 ^ 8 := orA_lt _ _ _ (by decide) (fun x _ h2 => aB_lt hW hh (by omega))
theorem NM_lt (hW : WB t) {w h : Nat} (hh : h < 28) : NM t w h < 2 ^ 8 := orA_lt _ _ _ (by decide) (fun x _ h2 => nB_lt hW hh (by omega))
theorem X_lk28 (hW : WB t) {w h : Nat} (hw : w < t 1) (hh : h < 28) : ∀ (k n i A N : Nat) (m : mM), i + k = (t (9 + 4 * h)) → k < n → XS t m → m (169 + w) h = nI A → m (176 + w) h = nI N → ∃ m', f_X5_look_L28 (nI w) (nI h) n (nI i) m = some m' ∧ m' (169 + w) h = nI (orA (aB t w h) k i A) ∧ m' (176 + w) h = nI (orA (nB t w h) k i N) ∧ ∀ a x, ¬ ((a = 169 + w ∨ a = 176 + w) ∧ x = h) → m' a x = m a x := by
  have w0 := hW.w0
  have h0 := hW.h0
  have h3 := hW.pa hh
  intro k
  induction k with
  | zero =>
    intro n i A N m hi hn hX hA hN
    obtain ⟨n, rfl⟩ : ∃ z, n = z + 1 := ⟨n - 1, by omega⟩
    refine ⟨m, ?_, hA, hN, fun _ _ _ => rfl⟩
    rw [f_X5_look_L28]
    refine (bnd_of (rdX rfl hh (by decide) (hX.p hh))).trans ?_
    exact if_pos (nI_le (by omega) (by omega))
  | succ k ih =>
    intro n i A N m hi hn hX hA hN
    obtain ⟨n, rfl⟩ : ∃ z, n = z + 1 := ⟨n - 1, by omega⟩
    have hp := hW.pp hh (show i < (t (9 + 4 * h)) by omega)
    have q := hX.q hh (show i < (t (9 + 4 * h)) by omega)
    simp only [orA]
    have st : ∀ r, f_X5_look_L28 (nI w) (nI h) (n + 1) (nI i) m = r ↔ (bnd (f_X7_isFree (nI w) (nI (t (9 + 4 * h + 1 + i))) (nI h) m) fun q15 => if q15 = 0 then (bnd (ckR 6 (nI w)) fun j17 => bnd (rdA (169 + j17) 28 (nI h) m) fun v19 => bnd (wrA (169 + j17) 28 (nI h) (v19 ||| ((1 : Int32) <<< (nI (t (9 + 4 * h + 1 + i)) &&& 31))) m) fun m21 => bnd (ckR 6 (nI w)) fun j23 => bnd (rdA (176 + j23) 28 (nI h) m21) fun v25 => bnd (f_X7_kindLets (nI w) (nI (t (9 + 4 * h + 1 + i))) m21) fun q27 => if q27 = 0 then (bnd (wrA (176 + j23) 28 (nI h) (v25 ||| ((1 : Int32) <<< (nI (t (9 + 4 * h + 1 + i)) &&& 31))) m21) fun m29 => f_X5_look_L28 (nI w) (nI h) n (nI i + (1 : Int32)) m29) else (bnd (wrA (176 + j23) 28 (nI h) (v25 ||| (0 : Int32)) m21) fun m31 => f_X5_look_L28 (nI w) (nI h) n (nI i + (1 : Int32)) m31)) else f_X5_look_L28 (nI w) (nI h) n (nI i + (1 : Int32)) m) = r := fun r => by
      rw [f_X5_look_L28]
      rw [bnd_of (rdX rfl hh (by decide) (hX.p hh)), if_neg (nI_ge (show i < (t (9 + 4 * h)) by omega) (by omega)), bnd_of (ckN hh (by decide)), bnd_of (rdX rfl (show i < 3 by omega) (by decide) q)]
    by_cases e : fr t w (t (9 + 4 * h + 1 + i)) h = true
    · obtain ⟨m', i1, i2, i3, i4⟩ := ih n (i + 1) A N m (by omega) (by omega) hX hA hN
      have z1 : aB t w h i = 0 := if_pos e
      have z2 : nB t w h i = 0 := if_pos e
      rw [z1, z2, Nat.or_zero, Nat.or_zero]
      refine ⟨m', ?_, i2, i3, i4⟩
      refine (st _).mpr ?_
      refine (bnd_of (X_isFree hX hW hw hp hh)).trans ?_
      rw [e]
      refine (if_neg (by decide)).trans ?_
      rw [nI_1]; exact i1
    · have e' : fr t w (t (9 + 4 * h + 1 + i)) h = false := by simpa using e
      have z1 : aB t w h i = 2 ^ (t (9 + 4 * h + 1 + i)) := if_neg e
      have hX1 : XS t (m_up m (169 + w) h (nI (A ||| aB t w h i))) := hX.cg (fun a x q => m_up_na (by omega))
      have hA1 : m_up m (169 + w) h (nI (A ||| aB t w h i)) (169 + w) h = nI (A ||| aB t w h i) := m_up_eq _ _ _ _
      have hN1 : m_up m (169 + w) h (nI (A ||| aB t w h i)) (176 + w) h = nI N := (m_up_na (by omega)).trans hN
      have hX2 : XS t (m_up (m_up m (169 + w) h (nI (A ||| aB t w h i))) (176 + w) h (nI (N ||| nB t w h i))) := hX1.cg (fun a x q => m_up_na (by omega))
      obtain ⟨m', i1, i2, i3, i4⟩ := ih n (i + 1) (A ||| aB t w h i) (N ||| nB t w h i) (m_up (m_up m (169 + w) h (nI (A ||| aB t w h i))) (176 + w) h (nI (N ||| nB t w h i))) (by omega) (by omega) hX2 ((m_up_na (by omega)).trans hA1) (m_up_eq _ _ _ _)
      refine ⟨m', ?_, i2, i3, fun a x q => ?_⟩
      · refine (st _).mpr ?_
        refine (bnd_of (X_isFree hX hW hw hp hh)).trans ?_
        rw [e']
        refine (if_pos rfl).trans ?_
        refine (bnd_of (ckN (show w < 6 by omega) (by decide))).trans ?_
        refine (bnd_of (rdX rfl hh (by decide) hA)).trans ?_
        rw [bit_i (by omega), orN, ← z1]
        refine (bnd_of (wrN hh (by decide))).trans ?_
        refine (bnd_of (ckN (show w < 6 by omega) (by decide))).trans ?_
        refine (bnd_of (rdX rfl hh (by decide) hN1)).trans ?_
        refine (bnd_of (X_kindLets hX1 hW hw hp)).trans ?_
        by_cases e2 : kl t w (t (9 + 4 * h + 1 + i)) = true
        · have z2 : nB t w h i = 0 := (if_neg e).trans (if_pos e2)
          rw [e2]
          refine (if_neg (by decide)).trans ?_
          rw [show nI N ||| (0 : Int32) = nI (N ||| nB t w h i) by rw [z2]; exact orN N 0]
          refine (bnd_of (wrN hh (by decide))).trans ?_
          rw [nI_1]; exact i1
        · have z2 : nB t w h i = 2 ^ (t (9 + 4 * h + 1 + i)) := (if_neg e).trans (if_neg e2)
          rw [show kl t w (t (9 + 4 * h + 1 + i)) = false by simpa using e2]
          refine (if_pos rfl).trans ?_
          rw [show nI N ||| nI (aB t w h i) = nI (N ||| nB t w h i) by rw [z1.trans z2.symm, orN]]
          refine (bnd_of (wrN hh (by decide))).trans ?_
          rw [nI_1]
          exact i1
      · rw [i4 a x q]
        unfold m_up
        rw [if_neg (fun y => q ⟨Or.inr y.1, y.2⟩), if_neg (fun y => q ⟨Or.inl y.1, y.2⟩)]
def lkd (t : Nat → Nat) (w : Nat) (m : mM) : Prop := ∀ h, h < 28 → m (169 + w) h = nI (AM t w h) ∧ m (176 + w) h = nI (NM t w h)
def lkF (w : Nat) (m m' : mM) : Prop := ∀ a x, a ≠ 169 + w → a ≠ 176 + w → m' a x = m a x
theorem X_lk2 (hW : WB t) {w : Nat} (hw : w < t 1) : ∀ (k n h : Nat) (m : mM), h + k = 28 → k < n → XS t m → (∀ x, x < h → m (169 + w) x = nI (AM t w x) ∧ m (176 + w) x = nI (NM t w x)) → ∃ m', f_X5_look_L2 (nI w) n (nI h) m = some m' ∧ lkd t w m' ∧ lkF w m m' := by
  have w0 := hW.w0
  intro k
  induction k with
  | zero =>
    intro n h m hh hn hX hl
    obtain ⟨n, rfl⟩ : ∃ z, n = z + 1 := ⟨n - 1, by omega⟩
    refine ⟨m, ?_, fun x hx => hl x (by omega), fun _ _ _ _ => rfl⟩
    rw [f_X5_look_L2]
    exact if_pos (nI_le (a := 28) (by omega) (by omega))
  | succ k ih =>
    intro n h m hh hn hX hl
    obtain ⟨n, rfl⟩ : ∃ z, n = z + 1 := ⟨n - 1, by omega⟩
    have h28 : h < 28 := by omega
    have h3 := hW.pa h28
    have f0 : ∀ a x, ¬ ((a = 169 + w ∨ a = 176 + w) ∧ x = h) → m_up (m_up m (169 + w) h 0) (176 + w) h 0 a x = m a x := fun a x q => by
      unfold m_up
      rw [if_neg (fun y => q ⟨Or.inr y.1, y.2⟩), if_neg (fun y => q ⟨Or.inl y.1, y.2⟩)]
    obtain ⟨m1, j1, j2, j3, j4⟩ := X_lk28 hW hw h28 (t (9 + 4 * h)) fU 0 0 0 (m_up (m_up m (169 + w) h 0) (176 + w) h 0) (by omega) (by show _ < 300; omega) (hX.cg (fun a x q => f0 a x (by omega))) ((m_up_na (by omega)).trans (m_up_eq _ _ _ _)) (m_up_eq _ _ _ _)
    have f1 : ∀ a x, ¬ ((a = 169 + w ∨ a = 176 + w) ∧ x = h) → m1 a x = m a x := fun a x q => (j4 a x q).trans (f0 a x q)
    obtain ⟨m', i1, i2, i3⟩ := ih n (h + 1) m1 (by omega) (by omega) (hX.cg (fun a x q => f1 a x (by omega))) (fun x hx => by
      by_cases e : x = h
      · subst e; exact ⟨j2, j3⟩
      · rw [f1 _ _ (by omega), f1 _ _ (by omega)]; exact hl x (by omega))
    refine ⟨m', ?_, i2, fun a x q1 q2 => (i3 a x q1 q2).trans (f1 a x (by omega))⟩
    rw [f_X5_look_L2]
    refine (if_neg (nI_ge (b := 28) (by omega) (by decide))).trans ?_
    refine (bnd_of (ckN (show w < 6 by omega) (by decide))).trans ?_
    refine (bnd_of (wrN h28 (by decide))).trans ?_
    refine (bnd_of (ckN (show w < 6 by omega) (by decide))).trans ?_
    refine (bnd_of (wrN h28 (by decide))).trans ?_
    refine (bnd_of j1).trans ?_
    rw [nI_1]; exact i1
theorem X_look (hW : WB t) {w : Nat} {m : mM} (hw : w < t 1) (hX : XS t m) : ∃ m', f_X5_look (nI w) m = some m' ∧ lkd t w m' ∧ lkF w m m' := by
  obtain ⟨m', i1, i2, i3⟩ := X_lk2 hW hw 28 fU 0 m rfl (by decide) hX (fun x hx => absurd hx (Nat.not_lt_zero _))
  refine ⟨m', ?_, i2, i3⟩
  unfold f_X5_look
  exact (bnd_of i1).trans rfl
theorem fr_2 {S w p h : Nat} (hw : w < 6) (hd : (t (153 + 6 * w)) < 8) : fr (tset t 2 S) w p h = fr t w p h := by
  unfold fr
  rw [tset_ne (show 153 + 6 * w ≠ 2 by omega), tset_ne (show 3 ≠ 2 by omega), tset_ne (show 4 ≠ 2 by omega), tset_ne (show 153 + 6 * w + 5 ≠ 2 by omega), tset_ne (show 121 + 4 * (t (153 + 6 * w)) + 3 ≠ 2 by omega)]
theorem kl_2 {S w p : Nat} : kl (tset t 2 S) w p = kl t w p := by
  unfold kl
  rw [tset_ne (show 121 + 4 * p ≠ 2 by omega), tset_ne (show 121 + 4 * p + 2 ≠ 2 by omega), tset_ne (show 153 + 6 * w + 5 ≠ 2 by omega)]
theorem and_sub {Z L : Nat} : Z &&& L = Z ↔ ∀ j, Z.testBit j = true → L.testBit j = true := by
  constructor
  · intro h j hj
    have := congrArg (fun x => x.testBit j) h
    simp only [Nat.testBit_and, hj, Bool.true_and] at this
    exact this
  · intro h
    apply Nat.eq_of_testBit_eq
    intro j
    rw [Nat.testBit_and]
    cases e : Z.testBit j with
    | false => rfl
    | true => rw [h j e]; rfl
theorem cnd (hW : WB t) {w h S L lt : Nat} (hw : w < t 1) (hh : h < 28) (hS : S < 2 ^ 8) (hL : L < 2 ^ 8) (hl : ∀ j, j < 8 → (L.testBit j = true ↔ j = lt)) : (((nI (NM t w h) ||| (nI (AM t w h) &&& nI S)) &&& (nI L ^^^ (-1 : Int32))) = 0) ↔ hC (tset t 2 S) lt w h ≠ none := by
  have w0 := hW.w0
  have h0 := hW.h0
  obtain ⟨d1, d2, d3, d4, d5, d6⟩ := hW.wk hw
  have h3 := hW.pa hh
  have ha := AM_lt (w := w) hW hh
  have hn := NM_lt (w := w) hW hh
  have hz : NM t w h ||| (AM t w h &&& S) < 2 ^ 8 := Nat.or_lt_two_pow hn (Nat.and_lt_two_pow _ hS)
  have hzl : (NM t w h ||| (AM t w h &&& S)) &&& L < 2 ^ 8 := Nat.and_lt_two_pow _ hL
  rw [and_not, anN, orN, anN, nI_eq (by omega) (by omega), and_sub]
  have eA : ∀ j, (AM t w h).testBit j = true ↔ ∃ i, i < (t (9 + 4 * h)) ∧ fr t w (t (9 + 4 * h + 1 + i)) h = false ∧ (t (9 + 4 * h + 1 + i)) = j := fun j => by
    unfold AM
    rw [orA_b]
    constructor
    · rintro (z | ⟨i, -, h2, h3⟩)
      · rw [Nat.zero_testBit] at z; cases z
      · unfold aB at h3
        by_cases e : fr t w (t (9 + 4 * h + 1 + i)) h = true
        · rw [if_pos e, Nat.zero_testBit] at h3; cases h3
        · rw [if_neg e, Nat.testBit_two_pow] at h3
          exact ⟨i, by omega, by simpa using e, by simpa using h3⟩
    · rintro ⟨i, h1, h2, h3⟩
      refine Or.inr ⟨i, Nat.zero_le _, by omega, ?_⟩
      unfold aB
      rw [if_neg (by rw [h2]; decide), h3, Nat.testBit_two_pow_self]
  have eN : ∀ j, (NM t w h).testBit j = true ↔ ∃ i, i < (t (9 + 4 * h)) ∧ fr t w (t (9 + 4 * h + 1 + i)) h = false ∧ kl t w (t (9 + 4 * h + 1 + i)) = false ∧ (t (9 + 4 * h + 1 + i)) = j := fun j => by
    unfold NM
    rw [orA_b]
    constructor
    · rintro (z | ⟨i, -, h2, h3⟩)
      · rw [Nat.zero_testBit] at z; cases z
      · unfold nB at h3
        by_cases e : fr t w (t (9 + 4 * h + 1 + i)) h = true
        · rw [if_pos e, Nat.zero_testBit] at h3; cases h3
        · rw [if_neg e] at h3
          by_cases e2 : kl t w (t (9 + 4 * h + 1 + i)) = true
          · rw [if_pos e2, Nat.zero_testBit] at h3; cases h3
          · rw [if_neg e2, Nat.testBit_two_pow] at h3
            exact ⟨i, by omega, by simpa using e, by simpa using e2, by simpa using h3⟩
    · rintro ⟨i, h1, h2, h4, h3⟩
      refine Or.inr ⟨i, Nat.zero_le _, by omega, ?_⟩
      unfold nB
      rw [if_neg (by rw [h2]; decide), if_neg (by rw [h4]; decide), h3, Nat.testBit_two_pow_self]
  have eC : hC (tset t 2 S) lt w h = none ↔ ∃ i, i < (t (9 + 4 * h)) ∧ fr t w (t (9 + 4 * h + 1 + i)) h = false ∧ (t (9 + 4 * h + 1 + i)) ≠ lt ∧ (S / 2 ^ (t (9 + 4 * h + 1 + i)) % 2 = 1 ∨ kl t w (t (9 + 4 * h + 1 + i)) = false) := by
    unfold hC
    rw [osum_all, tset_ne (show 9 + 4 * h ≠ 2 by omega)]
    constructor
    · rintro ⟨i, -, h2, h3⟩
      rw [tset_ne (show 9 + 4 * h + 1 + i ≠ 2 by omega), pC_open, fr_2 (by omega) (by omega), kl_2, tset_eq] at h3
      exact ⟨i, by omega, h3⟩
    · rintro ⟨i, h2, h3⟩
      refine ⟨i, Nat.zero_le _, by omega, ?_⟩
      rw [tset_ne (show 9 + 4 * h + 1 + i ≠ 2 by omega), pC_open, fr_2 (by omega) (by omega), kl_2, tset_eq]
      exact h3
  rw [Ne, eC]
  have sb : ∀ p, S / 2 ^ p % 2 = 1 ↔ S.testBit p = true := fun p => by
    rw [Nat.testBit_eq_decide_div_mod_eq, decide_eq_true_eq]
  constructor
  · rintro H ⟨i, h1, h2, h4, h5⟩
    have hp := hW.pp hh h1
    have := H (t (9 + 4 * h + 1 + i)) (by
      rw [Nat.testBit_or, Nat.testBit_and, Bool.or_eq_true, Bool.and_eq_true]
      rcases h5 with h5 | h5
      · exact Or.inr ⟨(eA _).mpr ⟨i, h1, h2, rfl⟩, (sb _).mp h5⟩
      · exact Or.inl ((eN _).mpr ⟨i, h1, h2, h5, rfl⟩))
    exact h4 ((hl _ (by omega)).mp this)
  · intro H j hj
    rw [Nat.testBit_or, Nat.testBit_and, Bool.or_eq_true, Bool.and_eq_true] at hj
    rcases hj with hj | ⟨hj, hs⟩
    · obtain ⟨i, h1, h2, h4, rfl⟩ := (eN j).mp hj
      have hp := hW.pp hh h1
      refine (hl _ (by omega)).mpr (Classical.byContradiction (fun n => H ⟨i, h1, h2, n, Or.inr h4⟩))
    · obtain ⟨i, h1, h2, rfl⟩ := (eA j).mp hj
      have hp := hW.pp hh h1
      refine (hl _ (by omega)).mpr (Classical.byContradiction (fun n => H ⟨i, h1, h2, n, Or.inl ((sb _).mpr hs)⟩))
end Look
