/-! all, begin: the ways of the works in rows -/
def jI (z : Int) : Int32 := Int32.ofInt z
theorem jI_n (n : Nat) : jI (n : Int) = nI n := by
  apply Int32.toBitVec_inj.mp
  show BitVec.ofInt 32 (n : Int) = BitVec.ofNat 32 n
  exact BitVec.ofInt_natCast 32 n
theorem jI_add (a b : Int) : jI a + jI b = jI (a + b) := (Int32.ofInt_add a b).symm
theorem jI_sub (a b : Int) : jI a - jI b = jI (a - b) := (Int32.ofInt_sub a b).symm
theorem jI_t {a : Int} (h1 : -1000000 ≤ a) (h2 : a ≤ 1000000) : (jI a).toInt = a := Int32.toInt_ofInt_of_le (by omega) (by omega)
theorem jI_lt {a b : Int} (h1 : -1000000 ≤ a) (h2 : a ≤ 1000000) (h3 : -1000000 ≤ b) (h4 : b ≤ 1000000) : jI a < jI b ↔ a < b := by
  rw [Int32.lt_iff_toInt_lt, jI_t h1 h2, jI_t h3 h4]
theorem jI_le {a b : Int} (h1 : -1000000 ≤ a) (h2 : a ≤ 1000000) (h3 : -1000000 ≤ b) (h4 : b ≤ 1000000) : jI a ≤ jI b ↔ a ≤ b := by
  rw [Int32.le_iff_toInt_le, jI_t h1 h2, jI_t h3 h4]
abbrev wB : Type := Option (Int × (Nat → Nat))
/-- a row's begin that can be; what it is worth -/
def fe (t : Nat → Nat) (w h : Nat) : Bool := decide (h + (t (153 + 6 * w + 2)) ≤ (t (153 + 6 * w + 3)) + 1) && decide (rF t 999 w h (t (153 + 6 * w + 2)) < 100000)
def gn (t : Nat → Nat) (w h : Nat) : Int := if fe t w h = true then ((t (153 + 6 * w + 4)) : Int) - (rF t 999 w h (t (153 + 6 * w + 2)) : Int) else 0
def okW (pos : Bool) (t : Nat → Nat) (w tk h : Nat) : Bool := fe t w h && decide (bitsR (t (153 + 6 * w + 2)) h &&& tk = 0) && (!pos || decide (0 < gn t w h))
def wyL (G : Nat → Bool) (F : Nat → wB → wB) : Nat → Nat → wB → wB
  | 0, _, b => b
  | k + 1, h, b => wyL G F k (h + 1) (if G h = true then F h b else b)
def uB (cur : Nat → Nat) (w h : Nat) : Nat → Nat := fun j => if j = w then h else cur j
def lfW (sum : Int) (cur : Nat → Nat) (b : wB) : wB := match b with
  | none => some (sum, cur)
  | some x => if x.1 < sum then some (sum, cur) else some x
def wy (pos : Bool) (t : Nat → Nat) : Nat → Nat → Nat → Int → (Nat → Nat) → wB → wB
  | 0, _, _, sum, cur, b => lfW sum cur b
  | k + 1, w, tk, sum, cur, b =>
    if (t (153 + 6 * w + 1)) = 1 then wy pos t k (w + 1) tk sum cur b
    else wyL (okW pos t w tk) (fun h b => wy pos t k (w + 1) (tk ||| bitsR (t (153 + 6 * w + 2)) h) (sum + gn t w h) (uB cur w h) b) 28 0 (wy pos t k (w + 1) tk sum cur b)
/-- no way from here is worth more -/
def UB (t : Nat → Nat) : Nat → Nat → Nat → Int → Int → Prop
  | 0, _, _, sum, v => sum ≤ v
  | k + 1, w, tk, sum, v => UB t k (w + 1) tk sum v ∧ (¬ (t (153 + 6 * w + 1)) = 1 → ∀ h, h < 28 → okW false t w tk h = true → UB t k (w + 1) (tk ||| bitsR (t (153 + 6 * w + 2)) h) (sum + gn t w h) v)
section Ways
variable {t : Nat → Nat}
theorem UB_v : ∀ (k w tk : Nat) (sum v v' : Int), v ≤ v' → UB t k w tk sum v → UB t k w tk sum v' := by
  intro k
  induction k with
  | zero => intro w tk sum v v' h1 h2; exact Int.le_trans h2 h1
  | succ k ih => intro w tk sum v v' h1 h2; exact ⟨ih _ _ _ _ _ h1 h2.1, fun hs h hh ho => ih _ _ _ _ _ h1 (h2.2 hs h hh ho)⟩
theorem and_or_0 {x a b : Nat} (h : x &&& (a ||| b) = 0) : x &&& a = 0 := by
  apply Nat.eq_of_testBit_eq
  intro j
  have := congrArg (fun z => z.testBit j) h
  simp only [Nat.testBit_and, Nat.testBit_or, Nat.zero_testBit] at this ⊢
  revert this
  cases x.testBit j <;> cases a.testBit j <;> cases b.testBit j <;> decide
theorem UB_d : ∀ (k w tk e : Nat) (sum sum' v : Int), sum' ≤ sum → UB t k w tk sum v → UB t k w (tk ||| e) sum' v := by
  intro k
  induction k with
  | zero => intro w tk e sum sum' v h1 h2; exact Int.le_trans h1 h2
  | succ k ih =>
    intro w tk e sum sum' v h1 h2
    refine ⟨ih _ _ _ _ _ _ h1 h2.1, fun hs h hh ho => ?_⟩
    have ho' : okW false t w tk h = true := by
      unfold okW at ho ⊢
      simp only [Bool.and_eq_true, decide_eq_true_eq] at ho ⊢
      exact ⟨⟨ho.1.1, and_or_0 ho.1.2⟩, ho.2⟩
    have := ih (w + 1) (tk ||| bitsR (t (153 + 6 * w + 2)) h) e (sum + gn t w h) (sum' + gn t w h) v (Int.add_le_add_right h1 _) (h2.2 hs h hh ho')
    rw [show tk ||| e ||| bitsR (t (153 + 6 * w + 2)) h = tk ||| bitsR (t (153 + 6 * w + 2)) h ||| e by rw [Nat.or_assoc, Nat.or_comm e, ← Nat.or_assoc]]
    exact this
theorem wyL_same {G : Nat → Bool} {F : Nat → wB → wB} {b : wB} : ∀ (k h : Nat), (∀ x, h ≤ x → x < h + k → G x = true → F x b = b) → wyL G F k h b = b := by
  intro k
  induction k with
  | zero => intro h _; rfl
  | succ k ih =>
    intro h hf
    simp only [wyL]
    have : (if G h = true then F h b else b) = b := by
      by_cases e : G h = true
      · rw [if_pos e]; exact hf h (Nat.le_refl _) (by omega) e
      · rw [if_neg e]
    rw [this]
    exact ih (h + 1) (fun x h1 h2 => hf x (by omega) (by omega))
theorem wy_same : ∀ (k w tk : Nat) (sum v : Int) (cur : Nat → Nat) (x : Int × (Nat → Nat)), UB t k w tk sum v → v ≤ x.1 → wy false t k w tk sum cur (some x) = some x := by
  intro k
  induction k with
  | zero =>
    intro w tk sum v cur x h1 h2
    have h1 : sum ≤ v := h1
    show (if x.1 < sum then _ else _) = _
    exact if_neg (by omega)
  | succ k ih =>
    intro w tk sum v cur x h1 h2
    simp only [wy]
    rw [ih (w + 1) tk sum v cur x h1.1 h2]
    by_cases e : (t (153 + 6 * w + 1)) = 1
    · rw [if_pos e]
    · rw [if_neg e]
      exact wyL_same 28 0 (fun h _ hh ho => ih _ _ _ v _ x (h1.2 e h (by omega) ho) h2)
theorem wyL_grow {G : Nat → Bool} {F : Nat → wB → wB} {Q : Nat → Int → Prop} (qm : ∀ h v v', v ≤ v' → Q h v → Q h v') (hF : ∀ h b, G h = true → ∃ x', F h b = some x' ∧ Q h x'.1 ∧ ∀ x, b = some x → x.1 ≤ x'.1) : ∀ (k h : Nat) (x : Int × (Nat → Nat)), ∃ x', wyL G F k h (some x) = some x' ∧ x.1 ≤ x'.1 ∧ ∀ y, h ≤ y → y < h + k → G y = true → Q y x'.1 := by
  intro k
  induction k with
  | zero => intro h x; exact ⟨x, rfl, Int.le_refl _, fun y h1 h2 => by omega⟩
  | succ k ih =>
    intro h x
    simp only [wyL]
    by_cases e : G h = true
    · obtain ⟨x1, a1, a2, a3⟩ := hF h (some x) e
      obtain ⟨x2, b1, b2, b3⟩ := ih (h + 1) x1
      refine ⟨x2, by rw [if_pos e, a1]; exact b1, Int.le_trans (a3 x rfl) b2, fun y h1 h2 hg => ?_⟩
      by_cases z : y = h
      · subst z; exact qm _ _ _ b2 a2
      · exact b3 y (by omega) (by omega) hg
    · obtain ⟨x2, b1, b2, b3⟩ := ih (h + 1) x
      refine ⟨x2, by rw [if_neg e]; exact b1, b2, fun y h1 h2 hg => ?_⟩
      by_cases z : y = h
      · subst z; exact absurd hg e
      · exact b3 y (by omega) (by omega) hg
theorem wy_grow : ∀ (k w tk : Nat) (sum : Int) (cur : Nat → Nat) (b : wB), ∃ x', wy false t k w tk sum cur b = some x' ∧ UB t k w tk sum x'.1 ∧ ∀ x, b = some x → x.1 ≤ x'.1 := by
  intro k
  induction k with
  | zero =>
    intro w tk sum cur b
    cases b with
    | none => exact ⟨(sum, cur), rfl, Int.le_refl _, fun x h => by cases h⟩
    | some x =>
      by_cases e : x.1 < sum
      · exact ⟨(sum, cur), if_pos e, Int.le_refl _, fun y h => by cases h; exact Int.le_of_lt e⟩
      · exact ⟨x, if_neg e, by show sum ≤ x.1; omega, fun y h => by cases h; exact Int.le_refl _⟩
  | succ k ih =>
    intro w tk sum cur b
    obtain ⟨x1, a1, a2, a3⟩ := ih (w + 1) tk sum cur b
    simp only [wy]
    rw [a1]
    by_cases e : (t (153 + 6 * w + 1)) = 1
    · rw [if_pos e]
      exact ⟨x1, rfl, ⟨a2, fun n => absurd e n⟩, a3⟩
    · rw [if_neg e]
      obtain ⟨x2, b1, b2, b3⟩ := wyL_grow (G := okW false t w tk) (F := fun h b => wy false t k (w + 1) (tk ||| bitsR (t (153 + 6 * w + 2)) h) (sum + gn t w h) (uB cur w h) b) (Q := fun h v => UB t k (w + 1) (tk ||| bitsR (t (153 + 6 * w + 2)) h) (sum + gn t w h) v) (fun h v v' q1 q2 => UB_v _ _ _ _ _ _ q1 q2) (fun h b _ => ih _ _ _ _ b) 28 0 x1
      exact ⟨x2, b1, ⟨UB_v _ _ _ _ _ _ b2 a2, fun _ h hh ho => b3 h (Nat.zero_le _) (by omega) ho⟩, fun x hx => Int.le_trans (a3 x hx) b2⟩
theorem wyL_eq {k0 w tk : Nat} {sum : Int} {cur : Nat → Nat} (ih : ∀ (w tk : Nat) (sum : Int) (cur : Nat → Nat) (b : wB), wy false t k0 w tk sum cur b = wy true t k0 w tk sum cur b) : ∀ (k h : Nat) (x : Int × (Nat → Nat)), UB t k0 (w + 1) tk sum x.1 → wyL (okW false t w tk) (fun h b => wy false t k0 (w + 1) (tk ||| bitsR (t (153 + 6 * w + 2)) h) (sum + gn t w h) (uB cur w h) b) k h (some x) = wyL (okW true t w tk) (fun h b => wy true t k0 (w + 1) (tk ||| bitsR (t (153 + 6 * w + 2)) h) (sum + gn t w h) (uB cur w h) b) k h (some x) := by
  intro k
  induction k with
  | zero => intro h x _; rfl
  | succ k ihk =>
    intro h x hu
    simp only [wyL]
    by_cases e1 : okW false t w tk h = true
    · by_cases e2 : okW true t w tk h = true
      · rw [if_pos e1, if_pos e2, ← ih]
        obtain ⟨x2, a1, a2, a3⟩ := wy_grow (t := t) k0 (w + 1) (tk ||| bitsR (t (153 + 6 * w + 2)) h) (sum + gn t w h) (uB cur w h) (some x)
        rw [a1]
        exact ihk (h + 1) x2 (UB_v _ _ _ _ _ _ (a3 x rfl) hu)
      · rw [if_pos e1, if_neg e2]
        have hg : gn t w h ≤ 0 := by
          unfold okW at e1 e2
          simp only [Bool.and_eq_true, Bool.or_eq_true, decide_eq_true_eq, Bool.not_eq_true'] at e1 e2
          refine Classical.byContradiction (fun z => e2 ⟨e1.1, Or.inr (by omega)⟩)
        rw [wy_same k0 (w + 1) _ _ x.1 _ x (UB_d k0 (w + 1) tk _ sum _ x.1 (by omega) hu) (Int.le_refl _)]
        exact ihk (h + 1) x hu
    · have e2 : ¬ okW true t w tk h = true := fun z => e1 (by
        unfold okW at z ⊢
        simp only [Bool.and_eq_true] at z ⊢
        exact ⟨z.1, rfl⟩)
      rw [if_neg e1, if_neg e2]
      exact ihk (h + 1) x hu
theorem wy_eq : ∀ (k w tk : Nat) (sum : Int) (cur : Nat → Nat) (b : wB), wy false t k w tk sum cur b = wy true t k w tk sum cur b := by
  intro k
  induction k with
  | zero => intro w tk sum cur b; rfl
  | succ k ih =>
    intro w tk sum cur b
    obtain ⟨x1, a1, a2, a3⟩ := wy_grow (t := t) k (w + 1) tk sum cur b
    simp only [wy]
    rw [← ih, a1]
    by_cases e : (t (153 + 6 * w + 1)) = 1
    · rw [if_pos e, if_pos e]
    · rw [if_neg e, if_neg e]
      exact wyL_eq ih 28 0 x1 a2
theorem gn_b (hW : WB t) {w : Nat} (hw : w < t 1) (h : Nat) : -1000 ≤ gn t w h ∧ gn t w h ≤ 99 := by
  obtain ⟨d1, d2, d3, d4, d5, d6⟩ := hW.wk hw
  unfold gn
  split
  · rename_i e
    unfold fe at e
    simp only [Bool.and_eq_true, decide_eq_true_eq] at e
    have : rF t 999 w h (t (153 + 6 * w + 2)) ≤ (t (153 + 6 * w + 2)) * 81 := sumF_le _ _ (fun j q1 q2 => (hF_far hW hw (by omega)).2 (fun y => by
      have := sumF_at (f := hF t 999 w) q1 q2
      rw [(hF_far hW hw (by omega)).1 y] at this
      unfold rF at e
      omega))
    have : (t (153 + 6 * w + 2)) * 81 ≤ 6 * 81 := Nat.mul_le_mul_right _ d3.2
    omega
  · omega
end Ways
