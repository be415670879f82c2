/-! ONE of a spread work: the class takes the cheapest days, the reference looks at all sets of days; both find the same -/
theorem sumF_last (f : Nat → Nat) : ∀ (k i : Nat), sumF f i (k + 1) = sumF f i k + f (i + k) := by
  intro k
  induction k with
  | zero => intro i; simp [sumF]
  | succ k ih =>
    intro i
    have e := ih (i + 1)
    rw [show i + 1 + k = i + (k + 1) by omega] at e
    show f i + sumF f (i + 1) (k + 1) = f i + sumF f (i + 1) k + f (i + (k + 1))
    omega
theorem sumF_split (f : Nat → Nat) : ∀ (a b i : Nat), sumF f i (a + b) = sumF f i a + sumF f (i + a) b := by
  intro a
  induction a with
  | zero => intro b i; simp [sumF]
  | succ a ih =>
    intro b i
    have e := ih b (i + 1)
    rw [show i + 1 + a = i + (a + 1) by omega] at e
    rw [show a + 1 + b = (a + b) + 1 by omega]
    show f i + sumF f (i + 1) (a + b) = f i + sumF f (i + 1) a + sumF f (i + (a + 1)) b
    omega
theorem sumF_add (f g : Nat → Nat) : ∀ (k i : Nat), sumF (fun d => f d + g d) i k = sumF f i k + sumF g i k := by
  intro k
  induction k with
  | zero => intro i; rfl
  | succ k ih => intro i; simp only [sumF, ih (i + 1)]; omega
theorem sumF_mul (f : Nat → Nat) (C : Nat) : ∀ (k i : Nat), sumF (fun d => f d * C) i k = sumF f i k * C := by
  intro k
  induction k with
  | zero => intro i; simp [sumF]
  | succ k ih => intro i; simp only [sumF, ih (i + 1), Nat.add_mul]
theorem sumF_mono {f g : Nat → Nat} : ∀ (k i : Nat), (∀ d, i ≤ d → d < i + k → f d ≤ g d) → sumF f i k ≤ sumF g i k := by
  intro k
  induction k with
  | zero => intro i _; exact Nat.le_refl _
  | succ k ih =>
    intro i h
    have := h i (Nat.le_refl _) (by omega)
    have := ih (i + 1) (fun d a b => h d (by omega) (by omega))
    simp only [sumF]
    omega
theorem sumF_one {f g : Nat → Nat} {e δ : Nat} (he : f e + δ ≤ g e) : ∀ (k i : Nat), i ≤ e → e < i + k → (∀ d, i ≤ d → d < i + k → f d ≤ g d) → sumF f i k + δ ≤ sumF g i k := by
  intro k
  induction k with
  | zero => intro i h1 h2 _; omega
  | succ k ih =>
    intro i h1 h2 h
    simp only [sumF]
    by_cases q : i = e
    · subst q
      have := sumF_mono k (i + 1) (fun d a b => h d (by omega) (by omega))
      omega
    · have := ih (i + 1) (by omega) (by omega) (fun d a b => h d (by omega) (by omega))
      have := h i (Nat.le_refl _) (by omega)
      omega
theorem sumF_eq {f g : Nat → Nat} {k i : Nat} (h : ∀ d, i ≤ d → d < i + k → f d ≤ g d) (e : sumF f i k = sumF g i k) : ∀ d, i ≤ d → d < i + k → f d = g d := by
  intro d a b
  by_cases q : f d = g d
  · exact q
  · have := h d a b
    have := sumF_one (e := d) (δ := 1) (show f d + 1 ≤ g d by omega) k i a b h
    omega
def bt1 (D d : Nat) : Nat := D / 2 ^ d % 2
theorem bt1_le (D d : Nat) : bt1 D d ≤ 1 := by unfold bt1; omega
theorem bt1_add {D r : Nat} (hr : bt1 D r = 0) (d : Nat) : bt1 (D + 2 ^ r) d = if d = r then 1 else bt1 D d := by
  unfold bt1 at hr ⊢
  by_cases e : d = r
  · subst e
    rw [if_pos rfl, Nat.add_div_right _ (Nat.two_pow_pos d)]
    omega
  · rw [if_neg e]
    have hD : D = D % 2 ^ r + 2 ^ r * (2 * (D / 2 ^ r / 2)) := by
      have h1 := Nat.mod_add_div D (2 ^ r)
      have h2 : D / 2 ^ r = 2 * (D / 2 ^ r / 2) := by omega
      rw [← h2]; exact h1.symm
    generalize hx : D % 2 ^ r = x at hD
    generalize D / 2 ^ r / 2 = y at hD
    have hxl : x < 2 ^ r := by rw [← hx]; exact Nat.mod_lt _ (Nat.two_pow_pos r)
    rw [hD]
    by_cases q : d < r
    · have e2 : 2 ^ r = 2 ^ d * (2 * 2 ^ (r - d - 1)) := by
        rw [← Nat.mul_assoc, ← Nat.pow_succ, ← Nat.pow_add]
        congr 1
        omega
      have l1 : x + 2 ^ r * (2 * y) + 2 ^ r = x + 2 ^ d * (2 * (2 ^ (r - d - 1) * (2 * y + 1))) := by rw [e2]; simp only [Nat.mul_add, Nat.mul_assoc, Nat.mul_one]; omega
      have l2 : x + 2 ^ r * (2 * y) = x + 2 ^ d * (2 * (2 ^ (r - d - 1) * (2 * y))) := by rw [e2]; simp only [Nat.mul_assoc]
      rw [l1, l2, Nat.add_mul_div_left _ _ (Nat.two_pow_pos d), Nat.add_mul_div_left _ _ (Nat.two_pow_pos d)]
      omega
    · have hd : d = r + 1 + (d - r - 1) := by omega
      have p1 : (x + 2 ^ r * (2 * y) + 2 ^ r) / 2 ^ (r + 1) = y := by
        rw [Nat.pow_succ, show x + 2 ^ r * (2 * y) + 2 ^ r = (x + 2 ^ r) + 2 ^ r * 2 * y by rw [Nat.mul_assoc]; omega, Nat.add_mul_div_left _ _ (by have := Nat.two_pow_pos r; omega), Nat.div_eq_of_lt (by omega)]
        omega
      have p2 : (x + 2 ^ r * (2 * y)) / 2 ^ (r + 1) = y := by
        rw [Nat.pow_succ, ← Nat.mul_assoc, Nat.add_mul_div_left _ _ (by have := Nat.two_pow_pos r; omega), Nat.div_eq_of_lt (by omega)]
        omega
      rw [hd, Nat.pow_add, ← Nat.div_div_eq_div_mul, ← Nat.div_div_eq_div_mul, p1, p2]
/-- hours and costs of days -/
def dOK2 (hh cc : Nat → Nat) : Prop := ∀ d, d < 7 → (hh d = 999 ∧ cc d = 100000) ∨ (4 * d ≤ hh d ∧ hh d < 4 * d + 4 ∧ cc d ≤ 81)
def hb (hh : Nat → Nat) (d : Nat) : Nat := if hh d = 999 then 0 else 2 ^ hh d
def cnD (D : Nat) : Nat := sumF (bt1 D) 0 7
def csD (cc : Nat → Nat) (D : Nat) : Nat := sumF (fun d => bt1 D d * cc d) 0 7
def bsD (hh : Nat → Nat) (D : Nat) : Nat := sumF (fun d => bt1 D d * hb hh d) 0 7
def lexle (x y : Nat × Nat) : Prop := x.1 < y.1 ∨ (x.1 = y.1 ∧ x.2 ≤ y.2)
theorem lex_anti {x y : Nat × Nat} (h1 : lexle x y) (h2 : lexle y x) : x = y := by
  obtain ⟨a, b⟩ := x
  obtain ⟨c, d⟩ := y
  simp only [lexle] at h1 h2
  have : a = c := by omega
  have : b = d := by omega
  subst_vars
  rfl
theorem low_lt {hh cc : Nat → Nat} (ok : dOK2 hh cc) (D : Nat) : ∀ k, k ≤ 7 → sumF (fun d => bt1 D d * hb hh d) 0 k < 2 ^ (4 * k) := by
  intro k
  induction k with
  | zero => intro _; exact Nat.zero_lt_one
  | succ k ih =>
    intro hk
    have h1 := ih (by omega)
    rw [sumF_last, Nat.zero_add]
    have h2 : bt1 D k * hb hh k ≤ 2 ^ (4 * k + 3) := by
      have : hb hh k ≤ 2 ^ (4 * k + 3) := by
        unfold hb
        rcases ok k (by omega) with q | q
        · rw [if_pos q.1]; exact Nat.zero_le _
        · rw [if_neg (by omega)]; exact Nat.pow_le_pow_right (by decide) (by omega)
      have := Nat.mul_le_mul (bt1_le D k) this
      omega
    have e1 : 2 ^ (4 * k + 3) = 2 ^ (4 * k) * 8 := by rw [Nat.pow_add]
    have e2 : 2 ^ (4 * (k + 1)) = 2 ^ (4 * k) * 16 := by rw [show 4 * (k + 1) = 4 * k + 4 by omega, Nat.pow_add]
    omega
theorem greedy_min {hh cc : Nat → Nat} (ok : dOK2 hh cc) {D E r : Nat} (hr : r < 7) (hn : cnD D = cnD E)
    (h1 : ∀ d, d < 7 → bt1 D d = 1 → hh d ≠ 999 ∧ (cc d < cc r ∨ (cc d = cc r ∧ d ≤ r))) (h2 : ∀ d, d < 7 → bt1 D d = 0 → hh d ≠ 999 → (cc r < cc d ∨ (cc d = cc r ∧ r < d))) (hE : ∀ d, d < 7 → bt1 E d = 1 → hh d ≠ 999) :
    lexle (csD cc D, bsD hh D) (csD cc E, bsD hh E) := by
  have pw : ∀ d, 0 ≤ d → d < 0 + 7 → bt1 D d * cc d + bt1 E d * cc r ≤ bt1 E d * cc d + bt1 D d * cc r := by
    intro d _ hd
    have a := bt1_le D d
    have b := bt1_le E d
    have c1 := h1 d (by omega)
    have c2 := h2 d (by omega)
    have c3 := hE d (by omega)
    rcases Nat.lt_or_ge (bt1 D d) 1 with x | x <;> rcases Nat.lt_or_ge (bt1 E d) 1 with y | y
    · rw [show bt1 D d = 0 by omega, show bt1 E d = 0 by omega]; omega
    · have x0 : bt1 D d = 0 := by omega
      have y1 : bt1 E d = 1 := by omega
      have := c2 x0 (c3 y1)
      rw [x0, y1]; omega
    · have x1 : bt1 D d = 1 := by omega
      have := c1 x1
      rw [x1, show bt1 E d = 0 by omega]; omega
    · rw [show bt1 D d = 1 by omega, show bt1 E d = 1 by omega]; omega
  have hs := sumF_mono 7 0 pw
  rw [sumF_add, sumF_add, sumF_mul, sumF_mul] at hs
  have hn' : sumF (bt1 D) 0 7 = sumF (bt1 E) 0 7 := hn
  have hle : csD cc D ≤ csD cc E := by unfold csD; rw [hn'] at hs; omega
  rcases Nat.lt_or_ge (csD cc D) (csD cc E) with q | q
  · exact Or.inl q
  · have heq : csD cc D = csD cc E := by omega
    refine Or.inr ⟨heq, ?_⟩
    have hs2 : sumF (fun d => bt1 D d * cc d + bt1 E d * cc r) 0 7 = sumF (fun d => bt1 E d * cc d + bt1 D d * cc r) 0 7 := by
      rw [sumF_add, sumF_add, sumF_mul, sumF_mul, hn']
      unfold csD at heq
      omega
    have pe := sumF_eq pw hs2
    have lo : ∀ d, d < 7 → d ≤ r → bt1 E d ≤ bt1 D d := by
      intro d hd hdr
      have a := bt1_le D d
      have b := bt1_le E d
      have p := pe d (Nat.zero_le _) (by omega)
      have c2 := h2 d hd
      have c3 := hE d hd
      rcases Nat.lt_or_ge (bt1 D d) 1 with x | x
      · rcases Nat.lt_or_ge (bt1 E d) 1 with y | y
        · omega
        · have x0 : bt1 D d = 0 := by omega
          have y1 : bt1 E d = 1 := by omega
          have := c2 x0 (c3 y1)
          rw [x0, y1] at p
          omega
      · omega
    have hi : ∀ d, d < 7 → r < d → bt1 D d ≤ bt1 E d := by
      intro d hd hdr
      have a := bt1_le D d
      have b := bt1_le E d
      have p := pe d (Nat.zero_le _) (by omega)
      have c1 := h1 d hd
      rcases Nat.lt_or_ge (bt1 D d) 1 with x | x
      · omega
      · rcases Nat.lt_or_ge (bt1 E d) 1 with y | y
        · have x1 : bt1 D d = 1 := by omega
          have := c1 x1
          rw [x1, show bt1 E d = 0 by omega] at p
          omega
        · omega
    show bsD hh D ≤ bsD hh E
    have spl : ∀ f, sumF f 0 7 = sumF f 0 (r + 1) + sumF f (r + 1) (7 - (r + 1)) := by
      intro f
      have e := sumF_split f (r + 1) (7 - (r + 1)) 0
      rw [show r + 1 + (7 - (r + 1)) = 7 by omega, Nat.zero_add] at e
      exact e
    unfold bsD
    rw [spl, spl]
    have hiS : sumF (fun d => bt1 D d * hb hh d) (r + 1) (7 - (r + 1)) ≤ sumF (fun d => bt1 E d * hb hh d) (r + 1) (7 - (r + 1)) := sumF_mono _ _ (fun d a b => Nat.mul_le_mul_right _ (hi d (by omega) (by omega)))
    by_cases ex : ∃ e, r < e ∧ e < 7 ∧ bt1 D e = 0 ∧ bt1 E e = 1
    · obtain ⟨e, e1, e2, e3, e4⟩ := ex
      have hl := low_lt ok D (r + 1) (by omega)
      have he := hE e e2 e4
      have hbe : 2 ^ (4 * (r + 1)) ≤ hb hh e := by
        unfold hb
        rw [if_neg he]
        rcases ok e e2 with q | q
        · exact absurd q.1 he
        · exact Nat.pow_le_pow_right (by decide) (by omega)
      have := sumF_one (f := fun d => bt1 D d * hb hh d) (g := fun d => bt1 E d * hb hh d) (e := e) (δ := hb hh e) (by simp only [e3, e4]; omega) (7 - (r + 1)) (r + 1) (by omega) (by omega) (fun d a b => Nat.mul_le_mul_right _ (hi d (by omega) (by omega)))
      omega
    · have same : ∀ d, d < 7 → r < d → bt1 D d = bt1 E d := by
        intro d hd hdr
        have a := bt1_le D d
        have b := bt1_le E d
        have c := hi d hd hdr
        by_cases z : bt1 D d = bt1 E d
        · exact z
        · exact absurd ⟨d, hdr, hd, by omega, by omega⟩ ex
      have hsum : sumF (bt1 E) 0 (r + 1) = sumF (bt1 D) 0 (r + 1) := by
        have h7 := hn'
        rw [spl, spl, sumF_congr (f := bt1 D) (g := bt1 E) (7 - (r + 1)) (r + 1) (fun d a b => same d (by omega) (by omega))] at h7
        omega
      have lowsame := sumF_eq (f := bt1 E) (g := bt1 D) (fun d a b => lo d (by omega) (by omega)) hsum
      rw [sumF_congr (f := fun d => bt1 D d * hb hh d) (g := fun d => bt1 E d * hb hh d) (r + 1) 0 (fun d a b => by rw [lowsame d a b])]
      omega
