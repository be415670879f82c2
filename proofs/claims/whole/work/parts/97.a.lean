/-! town: what a statement does to a town -/
def hoT (T : Nat → Nat) (g : Nat → Nat) : Nat → Nat := fun i => if i = 0 then T 0 + 1 else if i = 121 + 4 * T 0 then g 0 else if i = 121 + 4 * T 0 + 1 then g 1 else if i = 121 + 4 * T 0 + 2 then g 2 else if i = 121 + 4 * T 0 + 3 then 999 else T i
def woT (T : Nat → Nat) (g : Nat → Nat) : Nat → Nat := fun i => if i = 1 then T 1 + 1 else if 153 + 6 * T 1 ≤ i ∧ i < 153 + 6 * T 1 + 6 then g (i - (153 + 6 * T 1)) else T i
def adT (T : Nat → Nat) (p h : Nat) : Nat → Nat := fun i => if i = 9 + 4 * h then (T (9 + 4 * h)) + 1 else if i = 9 + 4 * h + 1 + (T (9 + 4 * h)) then p else T i
section Tell
variable {T : Nat → Nat} {g : Nat → Nat}
theorem hoT_n {i : Nat} (h : i ≠ 0) (h2 : ¬ (121 + 4 * T 0 ≤ i ∧ i ≤ 121 + 4 * T 0 + 3)) : hoT T g i = T i := by
  unfold hoT
  rw [if_neg h, if_neg (by omega), if_neg (by omega), if_neg (by omega), if_neg (by omega)]
theorem hoT_0 : hoT T g 0 = T 0 + 1 := if_pos rfl
theorem hoT_k {k : Nat} (hk : k < 3) : hoT T g (121 + 4 * T 0 + k) = g k := by
  unfold hoT
  rw [if_neg (by omega)]
  by_cases e0 : k = 0
  · subst e0; exact if_pos rfl
  · rw [if_neg (by omega)]
    by_cases e1 : k = 1
    · subst e1; exact if_pos rfl
    · rw [if_neg (by omega)]
      have : k = 2 := by omega
      subst this; exact if_pos rfl
theorem hoT_3 : hoT T g (121 + 4 * T 0 + 3) = 999 := by
  unfold hoT
  rw [if_neg (by omega), if_neg (by omega), if_neg (by omega), if_neg (by omega), if_pos rfl]
theorem WT.ho' (hW : WT T) (h8 : T 0 < 8) (g0 : g 0 ≤ 6) (g1 : g 1 ≤ 9) (g2 : g 2 ≤ 9) : WT (hoT T g) := by
  have w0 := hW.w0
  have e : ∀ i, i ≠ 0 → (i < 121 ∨ 153 ≤ i) → hoT T g i = T i := fun i h1 h2 => hoT_n h1 (by omega)
  have hp : 2 ^ T 0 ≤ 2 ^ (T 0 + 1) := Nat.pow_le_pow_right (by decide) (by omega)
  have st := hW.st
  refine ⟨⟨by rw [hoT_0]; omega, by rw [e 1 (by omega) (by omega)]; exact w0, by rw [hoT_0, e 2 (by omega) (by omega)]; omega, by rw [e 3 (by omega) (by omega)]; exact hW.be, by rw [e 4 (by omega) (by omega)]; exact hW.bs, fun k hk => by rw [e _ (by omega) (by omega)]; exact hW.se hk, fun h hh => by rw [e _ (by omega) (by omega)]; exact hW.pa hh, fun h i hh hi => ?_, fun x hx => ?_, fun w hw => ?_, fun i hi => ?_⟩, fun h i l hh hi hj => ?_, fun x hx => ?_, fun x hx h8' => ?_⟩
  · rw [e _ (by omega) (by omega)] at hi
    have := hW.pa hh
    have := hW.pp hh hi
    rw [e _ (by omega) (by omega), hoT_0]; omega
  · rw [hoT_0] at hx
    by_cases z : x = T 0
    · subst z
      rw [hoT_k (k := 1) (by omega), hoT_k (k := 2) (by omega), show hoT T g (121 + 4 * T 0) = g 0 from hoT_k (k := 0) (by omega)]
      exact ⟨g0, g1, g2⟩
    · rw [hoT_n (by omega) (by omega), hoT_n (by omega) (by omega), hoT_n (by omega) (by omega)]
      exact hW.ho (by omega)
  · rw [e 1 (by omega) (by omega)] at hw
    rw [e (153 + 6 * w) (by omega) (by omega), e (153 + 6 * w + 1) (by omega) (by omega), e (153 + 6 * w + 2) (by omega) (by omega), e (153 + 6 * w + 3) (by omega) (by omega), e (153 + 6 * w + 4) (by omega) (by omega), e (153 + 6 * w + 5) (by omega) (by omega), hoT_0]
    obtain ⟨q1, q2⟩ := hW.wk hw
    exact ⟨by omega, q2⟩
  · have := hW.lt hi
    unfold hoT
    repeat' split
    all_goals omega
  · rw [e _ (by omega) (by omega)] at hj
    have := hW.pa hh
    rw [e _ (by omega) (by omega), e _ (by omega) (by omega)]
    exact hW.di hh hi hj
  · rw [hoT_0] at hx ⊢
    by_cases z : x = T 0
    · subst z; exact Or.inl hoT_3
    · rw [hoT_n (i := 121 + 4 * x + 3) (by omega) (by omega)]
      rcases hW.spo (show x < T 0 by omega) with q | ⟨q1, q2, q3⟩
      · exact Or.inl q
      · exact Or.inr ⟨by omega, q2, by rw [hoT_n (by omega) (by omega)]; exact q3⟩
  · rw [hoT_0] at hx
    rw [hoT_n (by omega) (by omega)]; exact hW.sz (by omega) h8'
theorem woT_n {i : Nat} (h : i ≠ 1) (h2 : ¬ (153 + 6 * T 1 ≤ i ∧ i < 153 + 6 * T 1 + 6)) : woT T g i = T i := by
  unfold woT
  rw [if_neg h, if_neg h2]
theorem woT_1 : woT T g 1 = T 1 + 1 := if_pos rfl
theorem woT_k {k : Nat} (hk : k < 6) : woT T g (153 + 6 * T 1 + k) = g k := by
  unfold woT
  rw [if_neg (by omega), if_pos (by omega)]
  exact congrArg g (by omega)
theorem WT.wo' (hW : WT T) (h6 : T 1 < 6) (g0 : g 0 < T 0) (g1 : g 1 ≤ 1) (g2 : 1 ≤ g 2 ∧ g 2 ≤ 6) (g3 : g 3 ≤ 27) (g4 : g 4 ≤ 99) (g5 : g 5 ≤ 9) : WT (woT T g) := by
  have h0 := hW.h0
  have e : ∀ i, i ≠ 1 → i < 153 → woT T g i = T i := fun i h1 h2 => woT_n h1 (by omega)
  refine ⟨⟨by rw [e 0 (by omega) (by omega)]; exact h0, by rw [woT_1]; omega, by rw [e 0 (by omega) (by omega), e 2 (by omega) (by omega)]; exact hW.st, by rw [e 3 (by omega) (by omega)]; exact hW.be, by rw [e 4 (by omega) (by omega)]; exact hW.bs, fun k hk => by rw [e _ (by omega) (by omega)]; exact hW.se hk, fun h hh => by rw [e _ (by omega) (by omega)]; exact hW.pa hh, fun h i hh hi => ?_, fun x hx => ?_, fun w hw => ?_, fun i hi => ?_⟩, fun h i l hh hi hj => ?_, fun x hx => ?_, fun x hx h8' => ?_⟩
  · rw [e _ (by omega) (by omega)] at hi
    have := hW.pa hh
    rw [e _ (by omega) (by omega), e 0 (by omega) (by omega)]; exact hW.pp hh hi
  · rw [e 0 (by omega) (by omega)] at hx
    rw [e _ (by omega) (by omega), e _ (by omega) (by omega), e _ (by omega) (by omega)]
    exact hW.ho hx
  · rw [woT_1] at hw
    rw [e 0 (by omega) (by omega)]
    by_cases z : w = T 1
    · subst z
      rw [woT_k (k := 1) (by omega), woT_k (k := 2) (by omega), woT_k (k := 3) (by omega), woT_k (k := 4) (by omega), woT_k (k := 5) (by omega), show woT T g (153 + 6 * T 1) = g 0 from woT_k (k := 0) (by omega)]
      exact ⟨g0, g1, g2, g3, g4, g5⟩
    · rw [woT_n (i := 153 + 6 * w) (by omega) (by omega), woT_n (i := 153 + 6 * w + 1) (by omega) (by omega), woT_n (i := 153 + 6 * w + 2) (by omega) (by omega), woT_n (i := 153 + 6 * w + 3) (by omega) (by omega), woT_n (i := 153 + 6 * w + 4) (by omega) (by omega), woT_n (i := 153 + 6 * w + 5) (by omega) (by omega)]
      exact hW.wk (by omega)
  · by_cases z : i = 1
    · subst z; rw [woT_1]; omega
    · by_cases y : 153 + 6 * T 1 ≤ i ∧ i < 153 + 6 * T 1 + 6
      · obtain ⟨k, rfl⟩ : ∃ k, i = 153 + 6 * T 1 + k := ⟨i - (153 + 6 * T 1), by omega⟩
        rw [woT_k (by omega)]
        have hk : k = 0 ∨ k = 1 ∨ k = 2 ∨ k = 3 ∨ k = 4 ∨ k = 5 := by omega
        rcases hk with q | q | q | q | q | q <;> subst q <;> omega
      · rw [woT_n z y]; exact hW.lt hi
  · rw [e _ (by omega) (by omega)] at hj
    have := hW.pa hh
    rw [e _ (by omega) (by omega), e _ (by omega) (by omega)]
    exact hW.di hh hi hj
  · rw [e 0 (by omega) (by omega)] at hx ⊢
    rw [e (121 + 4 * x + 3) (by omega) (by omega)]
    rcases hW.spo hx with q | ⟨q1, q2, q3⟩
    · exact Or.inl q
    · exact Or.inr ⟨q1, q2, by rw [e _ (by omega) (by omega)]; exact q3⟩
  · rw [e 0 (by omega) (by omega)] at hx
    rw [e _ (by omega) (by omega)]; exact hW.sz hx h8'
theorem adT_n {p h i : Nat} (h1 : i ≠ 9 + 4 * h) (h2 : i ≠ 9 + 4 * h + 1 + (T (9 + 4 * h))) : adT T p h i = T i := by
  unfold adT
  rw [if_neg h1, if_neg h2]
theorem adT_c {p h : Nat} : ((adT T p h) (9 + 4 * h)) = (T (9 + 4 * h)) + 1 := if_pos rfl
theorem adT_p {p h : Nat} : ((adT T p h) (9 + 4 * h + 1 + (T (9 + 4 * h)))) = p := by
  unfold adT
  rw [if_neg (by omega), if_pos rfl]
theorem adT_has (hW : WT T) {p h x y : Nat} (hh : h < 28) (hp3 : (T (9 + 4 * h)) < 3) (hx : x < 28) : hasP (adT T p h) x y = ((decide (x = h) && decide (y = p)) || hasP T x y) := by
  rw [Bool.eq_iff_iff, Bool.or_eq_true, Bool.and_eq_true, decide_eq_true_eq, decide_eq_true_eq, hasP_iff, hasP_iff]
  have hxa := hW.pa hx
  by_cases z : x = h
  · subst z
    rw [adT_c]
    constructor
    · rintro ⟨i, h1, h2⟩
      by_cases q : i = (T (9 + 4 * x))
      · rw [q, adT_p] at h2; exact Or.inl ⟨rfl, h2.symm⟩
      · rw [adT_n (by omega) (by omega)] at h2; exact Or.inr ⟨i, by omega, h2⟩
    · rintro (⟨-, h2⟩ | ⟨i, h1, h2⟩)
      · exact ⟨(T (9 + 4 * x)), by omega, by rw [adT_p, h2]⟩
      · exact ⟨i, by omega, by rw [adT_n (by omega) (by omega)]; exact h2⟩
  · rw [adT_n (i := 9 + 4 * x) (by omega) (by omega)]
    constructor
    · rintro ⟨i, h1, h2⟩
      rw [adT_n (by omega) (by omega)] at h2; exact Or.inr ⟨i, h1, h2⟩
    · rintro (⟨h1, -⟩ | ⟨i, h1, h2⟩)
      · exact absurd h1 z
      · exact ⟨i, h1, by rw [adT_n (by omega) (by omega)]; exact h2⟩
theorem WT.ad (hW : WT T) {p h : Nat} (hh : h < 28) (hp : p < T 0) (h3 : (T (9 + 4 * h)) < 3) (hn : hasP T h p = false) : WT (adT T p h) := by
  have h0 := hW.h0
  have w0 := hW.w0
  have e : ∀ i, (i < 9 ∨ 121 ≤ i) → adT T p h i = T i := fun i hi => adT_n (by omega) (by omega)
  have hno : ∀ i, i < (T (9 + 4 * h)) → (T (9 + 4 * h + 1 + i)) ≠ p := fun i hi q => by
    rw [hasP_iff.mpr ⟨i, hi, q⟩] at hn; cases hn
  refine ⟨⟨by rw [e 0 (by omega)]; exact h0, by rw [e 1 (by omega)]; exact w0, by rw [e 2 (by omega), e 0 (by omega)]; exact hW.st, by rw [e 3 (by omega)]; exact hW.be, by rw [e 4 (by omega)]; exact hW.bs, fun k hk => by rw [e _ (by omega)]; exact hW.se hk, fun x hx => ?_, fun x i hx hi => ?_, fun x hx => ?_, fun w hw => ?_, fun i hi => ?_⟩, fun x i l hx hi hj => ?_, fun x hx => ?_, fun x hx h8 => ?_⟩
  · by_cases z : x = h
    · subst z; rw [adT_c]; omega
    · rw [adT_n (by omega) (by omega)]; exact hW.pa hx
  · rw [e 0 (by omega)]
    have hxa := hW.pa hx
    by_cases z : x = h
    · subst z
      rw [adT_c] at hi
      by_cases q : i = (T (9 + 4 * x))
      · rw [q, adT_p]; exact hp
      · rw [adT_n (by omega) (by omega)]; exact hW.pp hx (by omega)
    · rw [adT_n (i := 9 + 4 * x) (by omega) (by omega)] at hi
      rw [adT_n (by omega) (by omega)]; exact hW.pp hx hi
  · rw [e 0 (by omega)] at hx
    rw [e (121 + 4 * x) (by omega), e (121 + 4 * x + 1) (by omega), e (121 + 4 * x + 2) (by omega)]
    exact hW.ho hx
  · rw [e 1 (by omega)] at hw
    rw [e (153 + 6 * w) (by omega), e (153 + 6 * w + 1) (by omega), e (153 + 6 * w + 2) (by omega), e (153 + 6 * w + 3) (by omega), e (153 + 6 * w + 4) (by omega), e (153 + 6 * w + 5) (by omega), e 0 (by omega)]
    exact hW.wk hw
  · have := hW.lt hi
    unfold adT
    repeat' split
    all_goals omega
  · have hxa := hW.pa hx
    by_cases z : x = h
    · subst z
      rw [adT_c] at hj
      rw [adT_n (i := 9 + 4 * x + 1 + i) (by omega) (by omega)]
      by_cases q : l = (T (9 + 4 * x))
      · rw [q, adT_p]; exact hno i (by omega)
      · rw [adT_n (by omega) (by omega)]; exact hW.di hx hi (by omega)
    · rw [adT_n (i := 9 + 4 * x) (by omega) (by omega)] at hj
      rw [adT_n (by omega) (by omega), adT_n (by omega) (by omega)]; exact hW.di hx hi hj
  · rw [e 0 (by omega)] at hx ⊢
    rw [e (121 + 4 * x + 3) (by omega)]
    rcases hW.spo hx with q | ⟨q1, q2, q3⟩
    · exact Or.inl q
    · exact Or.inr ⟨q1, q2, by rw [e _ (by omega)]; exact q3⟩
  · rw [e 0 (by omega)] at hx
    rw [e _ (by omega)]; exact hW.sz hx h8
end Tell
/-- hours from h on can take p -/
def hrK (T : Nat → Nat) (p : Nat) : Nat → Nat → Bool
  | 0, _ => true
  | k + 1, h => (decide ((T (9 + 4 * h)) < 3) && !(hasP T h p)) && hrK T p k (h + 1)
def adR (p : Nat) : Nat → Nat → (Nat → Nat) → Nat → Nat
  | 0, _, T => T
  | k + 1, h, T => adR p k (h + 1) (adT T p h)
def tl (v : Nat) (g T : Nat → Nat) : Option (Nat → Nat) :=
  if v = 112 then (if T 0 = 8 then none else some (hoT T g))
  else if v = 104 then (if g 0 < T 0 ∧ g 1 < 28 ∧ g 2 < 28 ∧ g 1 ≤ g 2 ∧ hrK T (g 0) (g 2 + 1 - g 1) (g 1) = true then some (adR (g 0) (g 2 + 1 - g 1) (g 1) T) else none)
  else (if T 1 < 6 ∧ g 0 < T 0 ∧ g 3 < 28 ∧ 1 ≤ g 2 ∧ g 2 ≤ 6 then some (woT T g) else none)
theorem hrK_ad {T : Nat → Nat} (hW : WT T) {p x : Nat} (hx : x < 28) (h3 : (T (9 + 4 * x)) < 3) : ∀ (k h : Nat), x < h → h + k ≤ 28 → hrK (adT T p x) p k h = hrK T p k h := by
  intro k
  induction k with
  | zero => intro h _ _; rfl
  | succ k ih =>
    intro h hh hk
    simp only [hrK]
    rw [ih (h + 1) (by omega) (by omega), adT_has hW hx h3 (show h < 28 by omega), adT_n (i := 9 + 4 * h) (by omega) (by omega), decide_eq_false (show ¬ h = x by omega), Bool.false_and, Bool.false_or]
theorem WT.adRg {p : Nat} : ∀ (k h : Nat) {T : Nat → Nat}, WT T → h + k ≤ 28 → p < T 0 → hrK T p k h = true → WT (adR p k h T) ∧ adR p k h T 0 = T 0 := by
  intro k
  induction k with
  | zero => intro h T hW _ _ _; exact ⟨hW, rfl⟩
  | succ k ih =>
    intro h T hW hk hp ho
    simp only [hrK, Bool.and_eq_true, decide_eq_true_eq, Bool.not_eq_true'] at ho
    obtain ⟨⟨h1, h2⟩, h3⟩ := ho
    have hW1 := hW.ad (show h < 28 by omega) hp h1 h2
    have e0 : adT T p h 0 = T 0 := adT_n (by omega) (by omega)
    obtain ⟨a, b⟩ := ih (h + 1) hW1 (by omega) (by rw [e0]; exact hp) (by rw [hrK_ad hW (by omega) h1 k (h + 1) (by omega) (by omega)]; exact h3)
    exact ⟨a, b.trans e0⟩
