/-! town: what a statement does, the class's side -/
abbrev XD (T : Nat → Nat) (m : mM) : Prop := XT 51 53 61 62 63 65 94 100 T m
def dF (m m' : mM) : Prop := ∀ a i, (a < 51 ∨ 100 < a) → m' a i = m a i
theorem dF.rf (m : mM) : dF m m := fun _ _ _ => rfl
theorem dF.tr {m m1 m2 : mM} (h1 : dF m m1) (h2 : dF m1 m2) : dF m m2 := fun a i q => (h2 a i q).trans (h1 a i q)
def tR (o : Option (Nat → Nat)) (b : Int32) (P : (Nat → Nat) → Prop) : Prop := match o with
  | none => b = 0
  | some T' => b = 1 ∧ P T'
section TellX
variable {T g : Nat → Nat} {m : mM}
theorem XD.h (hX : XD T m) {p k : Nat} (hp : p < 8) (hk : k < 3) : m (53 + p) k = dc (T (121 + 4 * p + k)) := hX.2.2.2.2.2.1 p k hp hk
theorem XD.s (hX : XD T m) {p : Nat} (hp : p < 8) : m 62 p = dc (T (121 + 4 * p + 3)) := hX.2.2.2.2.2.2.1 p hp
theorem XD.p (hX : XD T m) {h : Nat} (hh : h < 28) : m 63 h = nI (T (9 + 4 * h)) := hX.2.2.2.2.2.2.2.1 h hh
theorem XD.q (hX : XD T m) {h i : Nat} (hh : h < 28) (hi : i < (T (9 + 4 * h))) : m (65 + h) i = nI (T (9 + 4 * h + 1 + i)) := hX.2.2.2.2.2.2.2.2.1 h i hh hi
theorem XD.w (hX : XD T m) {w k : Nat} (hw : w < 6) (hk : k < 6) : m (94 + w) k = dc (T (153 + 6 * w + k)) := hX.2.2.2.2.2.2.2.2.2.1 w k hw hk
theorem XD.u (hX : XD T m) {k : Nat} (hk : k < 4) : m 100 k = nI (T (5 + k)) := hX.2.2.2.2.2.2.2.2.2.2.1 k hk
theorem XD.b (hX : XD T m) {p : Nat} (hp : p < 8) : m 61 p = nI (hMk T p) := hX.2.2.2.2.2.2.2.2.2.2.2 p hp
theorem X_addHolder (hX : XD T m) (hW : WT T) (h8 : T 0 < 8) (gt : ∀ y, y < 3 → m 153 y = nI (g y)) (g9 : ∀ y, y < 3 → g y ≤ 9) : ∃ m', f_X7_addHolder m = some (1, m') ∧ XD (hoT T g) m' ∧ dF m m' := by
  have e : ∀ i, i ≠ 0 → (i < 121 ∨ 153 ≤ i) → hoT T g i = T i := fun i h1 h2 => hoT_n h1 (by omega)
  have f0 : ∀ a i, ¬ (a = 51 ∧ i = 0) → a ≠ 53 + T 0 → m_up (m_cpy m 153 (53 + T 0) 3) 51 0 (nI (T 0 + 1)) a i = m a i := fun a i q1 q2 => by
    have : m_up (m_cpy m 153 (53 + T 0) 3) 51 0 (nI (T 0 + 1)) a i = m_cpy m 153 (53 + T 0) 3 a i := if_neg q1
    rw [this]
    exact if_neg (fun z => q2 z.1)
  refine ⟨m_up (m_cpy m 153 (53 + T 0) 3) 51 0 (nI (T 0 + 1)), ?_, ?_, fun a i q => f0 a i (by omega) (by omega)⟩
  · unfold f_X7_addHolder
    rw [hX.1]
    refine (if_pos (nI_lt (b := 8) h8 (by decide))).trans ?_
    refine (bnd_of (ckN h8 (by decide))).trans ?_
    refine (bnd_of rfl).trans ?_
    refine (bnd_of rfl).trans ?_
    rw [show m_cpy m 153 (53 + T 0) 3 51 0 = m 51 0 from if_neg (by omega), hX.1, nI_1]
  · refine ⟨?_, ?_, ?_, ?_, ?_, fun x k hx hk => ?_, fun x hx => ?_, fun h hh => ?_, fun h i hh hi => ?_, fun w k hw hk => ?_, fun k hk => ?_, fun x hx => ?_⟩
    · rw [m_up_eq, hoT_0]
    · rw [f0 51 1 (by omega) (by omega), e 1 (by omega) (by omega)]; exact hX.2.1
    · rw [f0 51 2 (by omega) (by omega), e 2 (by omega) (by omega)]; exact hX.2.2.1
    · rw [f0 51 3 (by omega) (by omega), e 3 (by omega) (by omega)]; exact hX.2.2.2.1
    · rw [f0 51 4 (by omega) (by omega), e 4 (by omega) (by omega)]; exact hX.2.2.2.2.1
    · by_cases z : x = T 0
      · subst z
        rw [hoT_k hk, m_up_na (by omega), show m_cpy m 153 (53 + T 0) 3 (53 + T 0) k = m 153 k from if_pos ⟨rfl, hk⟩, gt k hk, dcN (by have := g9 k hk; omega)]
      · rw [f0 _ _ (by omega) (by omega), hoT_n (by omega) (by omega)]; exact hX.h hx hk
    · rw [f0 _ _ (by omega) (by omega), hX.s hx]
      by_cases z : x = T 0
      · subst z; rw [hoT_3, hW.sz (Nat.le_refl _) hx]
      · rw [hoT_n (by omega) (by omega)]
    · rw [f0 _ _ (by omega) (by omega), e _ (by omega) (by omega)]; exact hX.p hh
    · rw [e _ (by omega) (by omega)] at hi
      have := hW.pa hh
      rw [f0 _ _ (by omega) (by omega), e _ (by omega) (by omega)]; exact hX.q hh hi
    · rw [f0 _ _ (by omega) (by omega), e _ (by omega) (by omega)]; exact hX.w hw hk
    · rw [f0 _ _ (by omega) (by omega), e _ (by omega) (by omega)]; exact hX.u hk
    · rw [f0 _ _ (by omega) (by omega), hX.b hx]
      exact congrArg nI (hMk_cg (t := T) (fun h hh => e _ (by omega) (by omega)) (fun h i hh hi => e _ (by omega) (by have := hW.pa hh; omega))).symm
theorem X_addWk (hX : XD T m) (hW : WT T) (h6 : T 1 < 6) (gt : ∀ y, y < 6 → m 153 y = nI (g y)) (g9 : ∀ y, y < 6 → g y ≤ 99) : XD (woT T g) (m_up (m_cpy m 153 (94 + T 1) 6) 51 1 (nI (T 1 + 1))) ∧ dF m (m_up (m_cpy m 153 (94 + T 1) 6) 51 1 (nI (T 1 + 1))) := by
  have e : ∀ i, i ≠ 1 → i < 153 → woT T g i = T i := fun i h1 h2 => woT_n h1 (by omega)
  have f0 : ∀ a i, ¬ (a = 51 ∧ i = 1) → a ≠ 94 + T 1 → m_up (m_cpy m 153 (94 + T 1) 6) 51 1 (nI (T 1 + 1)) a i = m a i := fun a i q1 q2 => by
    have : m_up (m_cpy m 153 (94 + T 1) 6) 51 1 (nI (T 1 + 1)) a i = m_cpy m 153 (94 + T 1) 6 a i := if_neg q1
    rw [this]
    exact if_neg (fun z => q2 z.1)
  refine ⟨⟨?_, ?_, ?_, ?_, ?_, fun x k hx hk => ?_, fun x hx => ?_, fun h hh => ?_, fun h i hh hi => ?_, fun w k hw hk => ?_, fun k hk => ?_, fun x hx => ?_⟩, fun a i q => f0 a i (by omega) (by omega)⟩
  · rw [f0 51 0 (by omega) (by omega), e 0 (by omega) (by omega)]; exact hX.1
  · rw [m_up_eq, woT_1]
  · rw [f0 51 2 (by omega) (by omega), e 2 (by omega) (by omega)]; exact hX.2.2.1
  · rw [f0 51 3 (by omega) (by omega), e 3 (by omega) (by omega)]; exact hX.2.2.2.1
  · rw [f0 51 4 (by omega) (by omega), e 4 (by omega) (by omega)]; exact hX.2.2.2.2.1
  · rw [f0 _ _ (by omega) (by omega), e _ (by omega) (by omega)]; exact hX.h hx hk
  · rw [f0 _ _ (by omega) (by omega), e _ (by omega) (by omega)]; exact hX.s hx
  · rw [f0 _ _ (by omega) (by omega), e _ (by omega) (by omega)]; exact hX.p hh
  · rw [e _ (by omega) (by omega)] at hi
    have := hW.pa hh
    rw [f0 _ _ (by omega) (by omega), e _ (by omega) (by omega)]; exact hX.q hh hi
  · by_cases z : w = T 1
    · subst z
      rw [woT_k hk, m_up_na (by omega), show m_cpy m 153 (94 + T 1) 6 (94 + T 1) k = m 153 k from if_pos ⟨rfl, hk⟩, gt k hk, dcN (by have := g9 k hk; omega)]
    · rw [f0 _ _ (by omega) (by omega), woT_n (by omega) (by omega)]; exact hX.w hw hk
  · rw [f0 _ _ (by omega) (by omega), e _ (by omega) (by omega)]; exact hX.u hk
  · rw [f0 _ _ (by omega) (by omega), hX.b hx]
    exact congrArg nI (hMk_cg (t := T) (fun h hh => e _ (by omega) (by omega)) (fun h i hh hi => e _ (by omega) (by have := hW.pa hh; omega))).symm
theorem X_ad51 (hX : XD T m) (hW : WT T) {p h : Nat} (hh : h < 28) (hp : p < 8) (h3 : (T (9 + 4 * h)) < 3) (hn : hasP T h p = false) : ∃ m', f_X7_addPart_51 (nI p) (nI h) m = some m' ∧ XD (adT T p h) m' ∧ dF m m' := by
  have hp28 : 2 ^ h < 2 ^ 28 := Nat.pow_lt_pow_right (by decide) hh
  obtain ⟨g1, g2⟩ := hMk_gv (T := T) (T' := adT T p h) (p := p) hh hn (by rw [adT_has hW hh h3 hh]; simp) (fun x hx hne => by
    rw [adT_has hW hh h3 hx, decide_eq_false hne]; rfl)
  have r1 := hX.p hh
  have r2 := hX.b hp
  have f0 : ∀ a i, ¬ (a = 65 + h ∧ i = (T (9 + 4 * h))) → ¬ (a = 63 ∧ i = h) → ¬ (a = 61 ∧ i = p) → m_up (m_up (m_up m (65 + h) (T (9 + 4 * h)) (nI p)) 63 h (nI ((T (9 + 4 * h)) + 1))) 61 p (nI (hMk (adT T p h) p)) a i = m a i := fun a i q1 q2 q3 => by
    unfold m_up
    rw [if_neg q3, if_neg q2, if_neg q1]
  refine ⟨m_up (m_up (m_up m (65 + h) (T (9 + 4 * h)) (nI p)) 63 h (nI ((T (9 + 4 * h)) + 1))) 61 p (nI (hMk (adT T p h) p)), ?_, ?_, fun a i q => f0 a i (by omega) (by omega) (by omega)⟩
  · unfold f_X7_addPart_51
    refine (bnd_of (ckN hh (by decide))).trans ?_
    refine (bnd_of (rdX rfl hh (by decide) r1)).trans ?_
    refine (bnd_of (wrN h3 (by decide))).trans ?_
    refine (bnd_of (rdX rfl hh (by decide) ((m_up_na (by omega)).trans r1))).trans ?_
    refine (bnd_of (wrN hh (by decide))).trans ?_
    refine (bnd_of (rdX rfl hp (by decide) ((m_up_na (by omega)).trans ((m_up_na (by omega)).trans r2)))).trans ?_
    refine (bnd_of (wrN hp (by decide))).trans ?_
    rw [bit_i (by omega), orN, or_free (x := hMk T p) (h := h) g2, ← g1, nI_1]
  · refine ⟨?_, ?_, ?_, ?_, ?_, fun x k hx hk => ?_, fun x hx => ?_, fun x hx => ?_, fun x i hx hi => ?_, fun w k hw hk => ?_, fun k hk => ?_, fun x hx => ?_⟩
    · rw [f0 51 0 (by omega) (by omega) (by omega), adT_n (by omega) (by omega)]; exact hX.1
    · rw [f0 51 1 (by omega) (by omega) (by omega), adT_n (by omega) (by omega)]; exact hX.2.1
    · rw [f0 51 2 (by omega) (by omega) (by omega), adT_n (by omega) (by omega)]; exact hX.2.2.1
    · rw [f0 51 3 (by omega) (by omega) (by omega), adT_n (by omega) (by omega)]; exact hX.2.2.2.1
    · rw [f0 51 4 (by omega) (by omega) (by omega), adT_n (by omega) (by omega)]; exact hX.2.2.2.2.1
    · rw [f0 _ _ (by omega) (by omega) (by omega), adT_n (by omega) (by omega)]; exact hX.h hx hk
    · rw [f0 _ _ (by omega) (by omega) (by omega), adT_n (by omega) (by omega)]; exact hX.s hx
    · by_cases z : x = h
      · subst z; rw [adT_c, m_up_na (by omega), m_up_eq]
      · rw [f0 _ _ (by omega) (by omega) (by omega), adT_n (by omega) (by omega)]; exact hX.p hx
    · have hxa := hW.pa hx
      by_cases z : x = h
      · subst z
        rw [adT_c] at hi
        by_cases y : i = (T (9 + 4 * x))
        · rw [y, adT_p, m_up_na (by omega), m_up_na (by omega), m_up_eq]
        · rw [f0 _ _ (by omega) (by omega) (by omega), adT_n (by omega) (by omega)]; exact hX.q hx (by omega)
      · rw [adT_n (i := 9 + 4 * x) (by omega) (by omega)] at hi
        rw [f0 _ _ (by omega) (by omega) (by omega), adT_n (by omega) (by omega)]; exact hX.q hx hi
    · rw [f0 _ _ (by omega) (by omega) (by omega), adT_n (by omega) (by omega)]; exact hX.w hw hk
    · rw [f0 _ _ (by omega) (by omega) (by omega), adT_n (by omega) (by omega)]; exact hX.u hk
    · by_cases z : x = p
      · subst z; rw [m_up_eq]
      · rw [f0 _ _ (by omega) (by omega) (by omega), hX.b hx]
        exact congrArg nI (mkB_congr 28 (fun y hy => by
          rw [adT_has hW hh h3 hy, decide_eq_false (show ¬ x = p from z), Bool.and_false, Bool.false_or]))
def lR (c : Bool) (m' : mM) : (Int32 × mM) ⊕ mM := if c = true then .inr m' else .inl (0, m')
theorem X_adL {p e : Nat} (he : e < 28) : ∀ (k n h : Nat) (T : Nat → Nat) (m : mM), h + k = e + 1 → k < n → XD T m → WT T → p < T 0 → ∃ m', f_X7_addParts_L32 (nI p) (nI e) n (nI h) m = some (lR (hrK T p k h) m') ∧ (hrK T p k h = true → XD (adR p k h T) m') ∧ dF m m' := by
  intro k
  induction k with
  | zero =>
    intro n h T m hh hn hX hW hp
    obtain ⟨n, rfl⟩ : ∃ z, n = z + 1 := ⟨n - 1, by omega⟩
    refine ⟨m, ?_, fun _ => hX, dF.rf m⟩
    rw [f_X7_addParts_L32]
    exact if_pos (nI_lt (by omega) (by omega))
  | succ k ih =>
    intro n h T m hh hn hX hW hp
    obtain ⟨n, rfl⟩ : ∃ z, n = z + 1 := ⟨n - 1, by omega⟩
    have h0 := hW.h0
    have h28 : h < 28 := by omega
    have h3 := hW.pa h28
    have hl := hMk_lt T p
    have hold : f_X7_holds_51 (nI p) (nI h) m = some (nI (b2n (hasP T h p))) := by
      unfold f_X7_holds_51
      refine (bnd_of (rdX rfl (show p < 8 by omega) (by decide) (hX.b (by omega)))).trans ?_
      refine (bnd_of (X_isIn (by omega) (by omega))).trans ?_
      have e : hMk T p / 2 ^ h % 2 = b2n (hasP T h p) := mkB_bit _ 28 h h28
      rw [e]
      cases hasP T h p <;> rfl
    simp only [hrK]
    by_cases e1 : (T (9 + 4 * h)) < 3
    · by_cases e2 : hasP T h p = false
      · obtain ⟨m1, j1, j2, j3⟩ := X_ad51 hX hW h28 (show p < 8 by omega) e1 e2
        have e0 : adT T p h 0 = T 0 := adT_n (by omega) (by omega)
        obtain ⟨m', i1, i2, i3⟩ := ih n (h + 1) (adT T p h) m1 (by omega) (by omega) j2 (hW.ad h28 hp e1 e2) (by rw [e0]; exact hp)
        rw [hrK_ad hW h28 e1 k (h + 1) (by omega) (by omega)] at i1 i2
        rw [decide_eq_true e1, e2]
        refine ⟨m', ?_, fun z => i2 z, j3.tr i3⟩
        rw [f_X7_addParts_L32]
        refine (if_neg (nI_nlt (by omega) (by omega))).trans ?_
        refine (bnd_of (rdX rfl h28 (by decide) (hX.p h28))).trans ?_
        refine (if_neg (nI_ge (b := 3) e1 (by decide))).trans ?_
        refine (bnd_of hold).trans ?_
        rw [e2]
        refine (if_pos (by rfl)).trans ?_
        refine (bnd_of j1).trans ?_
        rw [nI_1]; exact i1
      · have e2' : hasP T h p = true := by simpa using e2
        rw [e2']
        refine ⟨m, ?_, fun z => by simp at z, dF.rf m⟩
        rw [show (decide ((T (9 + 4 * h)) < 3) && !true && hrK T p k (h + 1)) = false by simp]
        rw [f_X7_addParts_L32]
        refine (if_neg (nI_nlt (by omega) (by omega))).trans ?_
        refine (bnd_of (rdX rfl h28 (by decide) (hX.p h28))).trans ?_
        refine (if_neg (nI_ge (b := 3) e1 (by decide))).trans ?_
        refine (bnd_of hold).trans ?_
        rw [e2']
        exact (if_neg (by decide)).trans rfl
    · refine ⟨m, ?_, fun z => by rw [decide_eq_false e1] at z; simp at z, dF.rf m⟩
      rw [show (decide ((T (9 + 4 * h)) < 3) && !(hasP T h p) && hrK T p k (h + 1)) = false by rw [decide_eq_false e1]; simp]
      rw [f_X7_addParts_L32]
      refine (if_neg (nI_nlt (by omega) (by omega))).trans ?_
      refine (bnd_of (rdX rfl h28 (by decide) (hX.p h28))).trans ?_
      exact (if_pos (nI_le (a := 3) (by omega) (by omega))).trans rfl
theorem X_has51 (hX : XD T m) (hW : WT T) {a : Nat} (ha : a < 1000) : f_X7_hasHolder_51 (nI a) m = some (nI (b2n (decide (a < T 0)))) := by
  have h0 := hW.h0
  unfold f_X7_hasHolder_51
  refine (if_neg (nI_pos (by omega))).trans ?_
  rw [hX.1]
  by_cases e : a < T 0
  · rw [decide_eq_true e]; exact if_neg (nI_ge e (by omega))
  · rw [decide_eq_false e]; exact if_pos (nI_le (by omega) (by omega))
theorem X_hrb {a : Nat} (ha : a < 1000) : f_X8_isHour (nI a) m = some (nI (b2n (decide (a < 28)))) := by
  by_cases e : a < 28
  · rw [decide_eq_true e]; exact X_hr1 e
  · rw [decide_eq_false e]; exact X_hr0 (Or.inr (nI_le (by omega) (by omega)))
theorem X_tell (hX : XD T m) (hW : WT T) {v : Nat} (hv : v = 112 ∨ v = 104 ∨ v = 119) (gt : ∀ y, y < (if v = 119 then 6 else 3) → m 153 y = nI (g y)) (g9 : ∀ y, y < 6 → g y ≤ 99) (gp : v = 112 → ∀ y, y < 3 → g y ≤ 9) : ∃ b m', f_X6_tellOne (nI v) m = some (b, m') ∧ dF m m' ∧ tR (tl v g T) b (fun T' => XD T' m') := by
  have h0 := hW.h0
  have w0 := hW.w0
  rcases hv with q | q | q
  · subst q
    rw [show tl 112 g T = (if T 0 = 8 then none else some (hoT T g)) from rfl]
    by_cases e : T 0 = 8
    · rw [if_pos e]
      refine ⟨0, m, ?_, dF.rf m, rfl⟩
      unfold f_X6_tellOne
      refine (if_pos (by rfl)).trans ?_
      have : f_X7_addHolder m = some (0, m) := by
        unfold f_X7_addHolder
        exact if_neg (by rw [hX.1, e]; decide)
      refine (bnd_of this).trans ?_
      exact (bnd_of nzB0).trans rfl
    · rw [if_neg e]
      obtain ⟨m', i1, i2, i3⟩ := X_addHolder (g := g) hX hW (by omega) (fun y hy => gt y (by rw [if_neg (by decide)]; exact hy)) (gp rfl)
      refine ⟨1, m', ?_, i3, rfl, i2⟩
      unfold f_X6_tellOne
      refine (if_pos (by rfl)).trans ?_
      refine (bnd_of i1).trans ?_
      exact (bnd_of nzB1).trans rfl
  · subst q
    rw [show tl 104 g T = (if g 0 < T 0 ∧ g 1 < 28 ∧ g 2 < 28 ∧ g 1 ≤ g 2 ∧ hrK T (g 0) (g 2 + 1 - g 1) (g 1) = true then some (adR (g 0) (g 2 + 1 - g 1) (g 1) T) else none) from rfl]
    have gt3 : ∀ y, y < 3 → m 153 y = nI (g y) := fun y hy => gt y (by rw [if_neg (by decide)]; exact hy)
    have b0 := g9 0 (by decide)
    have b1 := g9 1 (by decide)
    have b2 := g9 2 (by decide)
    have hh : ∀ b m', f_X7_addParts (nI (g 0)) (nI (g 1)) (nI (g 2)) m = some (b, m') → (b = 0 ∨ b = 1) → f_X6_tellOne (nI 104) m = some (b, m') := fun b m' hr hb => by
      unfold f_X6_tellOne
      refine (if_neg (by decide)).trans ?_
      refine (if_pos (by rfl)).trans ?_
      refine (bnd_of (rdX (k := 0) rfl (by decide) (by decide) (gt3 0 (by decide)))).trans ?_
      refine (bnd_of (rdX (k := 1) rfl (by decide) (by decide) (gt3 1 (by decide)))).trans ?_
      refine (bnd_of (rdX (k := 2) rfl (by decide) (by decide) (gt3 2 (by decide)))).trans ?_
      refine (bnd_of hr).trans ?_
      rcases hb with z | z <;> subst z <;> rfl
    have no : ¬ (g 0 < T 0 ∧ g 1 < 28 ∧ g 2 < 28 ∧ g 1 ≤ g 2) → f_X7_addParts (nI (g 0)) (nI (g 1)) (nI (g 2)) m = some (0, m) := fun hn => by
      unfold f_X7_addParts
      refine (bnd_of (X_has51 hX hW (by omega))).trans ?_
      by_cases c0 : g 0 < T 0
      · rw [decide_eq_true c0]
        refine (if_neg (by decide)).trans ?_
        refine (bnd_of (X_hrb (by omega))).trans ?_
        by_cases c1 : g 1 < 28
        · rw [decide_eq_true c1]
          refine (if_neg (by decide)).trans ?_
          refine (bnd_of (X_hrb (by omega))).trans ?_
          by_cases c2 : g 2 < 28
          · rw [decide_eq_true c2]
            refine (if_neg (by decide)).trans ?_
            exact if_neg (nI_ge (show g 2 < g 1 by omega) (by omega))
          · rw [decide_eq_false c2]; exact if_pos (by rfl)
        · rw [decide_eq_false c1]; exact if_pos (by rfl)
      · rw [decide_eq_false c0]; exact if_pos (by rfl)
    by_cases c : g 0 < T 0 ∧ g 1 < 28 ∧ g 2 < 28 ∧ g 1 ≤ g 2
    · obtain ⟨c0, c1, c2, c3⟩ := c
      obtain ⟨m', i1, i2, i3⟩ := X_adL (p := g 0) (e := g 2) c2 (g 2 + 1 - g 1) fU (g 1) T m (by omega) (by show _ < 300; omega) hX hW c0
      have ap : f_X7_addParts (nI (g 0)) (nI (g 1)) (nI (g 2)) m = (ora (lR (hrK T (g 0) (g 2 + 1 - g 1) (g 1)) m') (fun zq => some zq) fun x17 => some ((1 : Int32), x17)) := by
        unfold f_X7_addParts
        refine (bnd_of (X_has51 hX hW (by omega))).trans ?_
        rw [decide_eq_true c0]
        refine (if_neg (by decide)).trans ?_
        refine (bnd_of (X_hrb (by omega))).trans ?_
        rw [decide_eq_true c1]
        refine (if_neg (by decide)).trans ?_
        refine (bnd_of (X_hrb (by omega))).trans ?_
        rw [decide_eq_true c2]
        refine (if_neg (by decide)).trans ?_
        refine (if_pos (nI_le c3 (by omega))).trans ?_
        exact bnd_of i1
      by_cases z : hrK T (g 0) (g 2 + 1 - g 1) (g 1) = true
      · rw [if_pos ⟨c0, c1, c2, c3, z⟩]
        rw [z] at ap
        exact ⟨1, m', hh 1 m' ap (Or.inr rfl), i3, rfl, i2 z⟩
      · rw [if_neg (fun y => z y.2.2.2.2)]
        rw [show hrK T (g 0) (g 2 + 1 - g 1) (g 1) = false by simpa using z] at ap
        exact ⟨0, m', hh 0 m' ap (Or.inl rfl), i3, rfl⟩
    · rw [if_neg (fun y => c ⟨y.1, y.2.1, y.2.2.1, y.2.2.2.1⟩)]
      exact ⟨0, m, hh 0 m (no c) (Or.inl rfl), dF.rf m, rfl⟩
  · subst q
    rw [show tl 119 g T = (if T 1 < 6 ∧ g 0 < T 0 ∧ g 3 < 28 ∧ 1 ≤ g 2 ∧ g 2 ≤ 6 then some (woT T g) else none) from rfl]
    have gt6 : ∀ y, y < 6 → m 153 y = nI (g y) := fun y hy => gt y (by rw [if_pos rfl]; exact hy)
    have b0 := g9 0 (by decide)
    have b2 := g9 2 (by decide)
    have b3 := g9 3 (by decide)
    have hh : ∀ b m', f_X7_addWork m = some (b, m') → (b = 0 ∨ b = 1) → f_X6_tellOne (nI 119) m = some (b, m') := fun b m' hr hb => by
      unfold f_X6_tellOne
      refine (if_neg (by decide)).trans ?_
      refine (if_neg (by decide)).trans ?_
      refine (bnd_of hr).trans ?_
      rcases hb with z | z <;> subst z <;> rfl
    by_cases c1 : T 1 < 6
    · have p1 : ¬ (6 : Int32) ≤ m 51 1 := by rw [hX.2.1]; exact nI_ge (b := 6) c1 (by decide)
      by_cases c0 : g 0 < T 0
      · by_cases c3 : g 3 < 28
        · have pre : ∀ r, (if nI (g 2) < (1 : Int32) then some ((0 : Int32), m) else (bnd (rdA 153 6 (2 : Int32) m) fun v11 => if v11 ≤ (6 : Int32) then (bnd (ckR 6 (m 51 1)) fun j13 => bnd (some (m_cpy m 153 (94 + j13) 6)) fun m15 => bnd (some (m_up m15 51 1 ((m15 51 1) + (1 : Int32)))) fun m17 => some ((1 : Int32), m17)) else some ((0 : Int32), m))) = r → f_X7_addWork m = r := fun r hr => by
            unfold f_X7_addWork
            refine (if_neg p1).trans ?_
            refine (bnd_of (rdX (k := 0) rfl (by decide) (by decide) (gt6 0 (by decide)))).trans ?_
            refine (bnd_of (X_has51 hX hW (by omega))).trans ?_
            rw [decide_eq_true c0]
            refine (if_neg (by decide)).trans ?_
            refine (bnd_of (rdX (k := 3) rfl (by decide) (by decide) (gt6 3 (by decide)))).trans ?_
            refine (bnd_of (X_hrb (by omega))).trans ?_
            rw [decide_eq_true c3]
            refine (if_neg (by decide)).trans ?_
            exact (bnd_of (rdX (k := 2) rfl (by decide) (by decide) (gt6 2 (by decide)))).trans hr
          by_cases c2 : 1 ≤ g 2
          · by_cases c4 : g 2 ≤ 6
            · rw [if_pos ⟨c1, c0, c3, c2, c4⟩]
              obtain ⟨k1, k2⟩ := X_addWk (g := g) hX hW c1 gt6 g9
              refine ⟨1, _, hh 1 _ (pre _ ?_) (Or.inr rfl), k2, rfl, k1⟩
              refine (if_neg (nI_nlt (b := 1) c2 (by omega))).trans ?_
              refine (bnd_of (rdX (k := 2) rfl (by decide) (by decide) (gt6 2 (by decide)))).trans ?_
              refine (if_pos (nI_le (b := 6) c4 (by decide))).trans ?_
              rw [hX.2.1]
              refine (bnd_of (ckN c1 (by decide))).trans ?_
              refine (bnd_of rfl).trans ?_
              refine (bnd_of rfl).trans ?_
              rw [show m_cpy m 153 (94 + T 1) 6 51 1 = m 51 1 from if_neg (by omega), hX.2.1, nI_1]
            · rw [if_neg (fun y => c4 y.2.2.2.2)]
              refine ⟨0, m, hh 0 m (pre _ ?_) (Or.inl rfl), dF.rf m, rfl⟩
              refine (if_neg (nI_nlt (b := 1) c2 (by omega))).trans ?_
              refine (bnd_of (rdX (k := 2) rfl (by decide) (by decide) (gt6 2 (by decide)))).trans ?_
              exact if_neg (nI_ge (a := 6) (by omega) (by omega))
          · rw [if_neg (fun y => c2 y.2.2.2.1)]
            exact ⟨0, m, hh 0 m (pre _ (if_pos (nI_lt (b := 1) (by omega) (by decide)))) (Or.inl rfl), dF.rf m, rfl⟩
        · rw [if_neg (fun y => c3 y.2.2.1)]
          refine ⟨0, m, hh 0 m ?_ (Or.inl rfl), dF.rf m, rfl⟩
          unfold f_X7_addWork
          refine (if_neg p1).trans ?_
          refine (bnd_of (rdX (k := 0) rfl (by decide) (by decide) (gt6 0 (by decide)))).trans ?_
          refine (bnd_of (X_has51 hX hW (by omega))).trans ?_
          rw [decide_eq_true c0]
          refine (if_neg (by decide)).trans ?_
          refine (bnd_of (rdX (k := 3) rfl (by decide) (by decide) (gt6 3 (by decide)))).trans ?_
          refine (bnd_of (X_hrb (by omega))).trans ?_
          rw [decide_eq_false c3]
          exact if_pos (by rfl)
      · rw [if_neg (fun y => c0 y.2.1)]
        refine ⟨0, m, hh 0 m ?_ (Or.inl rfl), dF.rf m, rfl⟩
        unfold f_X7_addWork
        refine (if_neg p1).trans ?_
        refine (bnd_of (rdX (k := 0) rfl (by decide) (by decide) (gt6 0 (by decide)))).trans ?_
        refine (bnd_of (X_has51 hX hW (by omega))).trans ?_
        rw [decide_eq_false c0]
        exact if_pos (by rfl)
    · rw [if_neg (fun y => c1 y.1)]
      refine ⟨0, m, hh 0 m ?_ (Or.inl rfl), dF.rf m, rfl⟩
      unfold f_X7_addWork
      exact if_pos (by rw [hX.2.1]; exact nI_le (a := 6) (by omega) (by omega))
end TellX
