/-! the class's greedy days find the reference's least set of days -/
section Greedy
variable {t : Nat → Nat}
def dh (t : Nat → Nat) (lt w d : Nat) : Nat := (dR t lt w d).1
def dv (t : Nat → Nat) (lt w d : Nat) : Nat := (dR t lt w d).2
def dG (t : Nat → Nat) (lt w d : Nat) (b : Nat × Nat) : Prop := (b.1 = 999 ∧ b.2 = 100000) ∨ (4 * d ≤ b.1 ∧ b.1 < 4 * d + 4 ∧ b.1 ≤ (t (153 + 6 * w + 3)) ∧ hC t lt w b.1 = some b.2 ∧ b.2 ≤ 81)
theorem dB_g (hW : WB t) {lt w d : Nat} (hw : w < t 1) : ∀ (k h : Nat) (b : Nat × Nat), 4 * d ≤ h → h + k ≤ 4 * d + 4 → (k = 0 ∨ h + k ≤ (t (153 + 6 * w + 3)) + 1) → dG t lt w d b → dG t lt w d (dB t lt w k h b) := by
  obtain ⟨d1, d2, d3, d4, d5, d6⟩ := hW.wk hw
  intro k
  induction k with
  | zero => intro h b _ _ _ hb; exact hb
  | succ k ih =>
    intro h b h1 h2 h3 hb
    refine ih (h + 1) _ (by omega) (by omega) (by omega) ?_
    split
    · rename_i q
      have hb2 : b.2 ≤ 100000 := by rcases hb with z | z <;> omega
      right
      rcases e : hC t lt w h with _ | v
      · simp only [hF, e, Option.getD_none] at q; omega
      · have := hC_le hW hw (show h < 28 by omega) e
        refine ⟨h1, by show h < _; omega, by show h ≤ _; omega, ?_, ?_⟩
        · show _ = some (hF t lt w h)
          unfold hF
          simp only [e]; rfl
        · show hF t lt w h ≤ 81
          rw [hF, e]; exact this
    · exact hb
theorem dR_g (hW : WB t) {lt w d : Nat} (hw : w < t 1) : dG t lt w d (dR t lt w d) := by
  have hc : cntD t w d ≤ 4 ∧ (cntD t w d = 0 ∨ 4 * d + cntD t w d ≤ (t (153 + 6 * w + 3)) + 1) := by unfold cntD; omega
  exact dB_g hW hw _ _ _ (Nat.le_refl _) (by omega) hc.2 (Or.inl ⟨rfl, rfl⟩)
theorem dR_2 (hW : WB t) {lt w : Nat} (hw : w < t 1) : dOK2 (dh t lt w) (dv t lt w) := by
  intro d hd
  rcases dR_g (lt := lt) (d := d) hW hw with q | q
  · exact Or.inl q
  · exact Or.inr ⟨q.1, q.2.1, q.2.2.2.2⟩
theorem sA_sum (hW : WB t) {lt w D : Nat} (hw : w < t 1) : ∀ (k d : Nat) (b : Nat × Nat × Nat), d + k = 7 → b.2.1 < 2 ^ (4 * d) → sA t lt w D k d b = (b.1 + sumF (bt1 D) d k, b.2.1 + sumF (fun d => bt1 D d * hb (dh t lt w) d) d k, b.2.2 + sumF (fun d => bt1 D d * dv t lt w d) d k) := by
  intro k
  induction k with
  | zero => intro d b _ _; rfl
  | succ k ih =>
    intro d b hd hbx
    have ok := dR_2 (lt := lt) hW hw d (by omega)
    have e0 : 2 ^ (4 * (d + 1)) = 2 ^ (4 * d) * 16 := by rw [show 4 * (d + 1) = 4 * d + 4 by omega, Nat.pow_add]
    simp only [sA, sumF]
    by_cases e : D / 2 ^ d % 2 = 0
    · rw [if_pos e, ih (d + 1) b (by omega) (by omega), show bt1 D d = 0 from e, Nat.zero_mul, Nat.zero_mul, Nat.zero_add, Nat.zero_add, Nat.zero_add]
    · have e1 : bt1 D d = 1 := by unfold bt1; omega
      rw [if_neg e]
      have hor : b.2.1 ||| (if (dR t lt w d).1 = 999 then 0 else 2 ^ (dR t lt w d).1) = b.2.1 + hb (dh t lt w) d ∧ b.2.1 + hb (dh t lt w) d < 2 ^ (4 * (d + 1)) := by
        rcases ok with q | q
        · have q1 : (dR t lt w d).1 = 999 := q.1
          unfold hb dh
          rw [if_pos q1]
          exact ⟨Nat.or_zero _, by omega⟩
        · have q1 : ¬ (dR t lt w d).1 = 999 := by have := q.2.1; unfold dh at this; omega
          have q2 : 4 * d ≤ (dR t lt w d).1 := q.1
          have q3 : (dR t lt w d).1 ≤ 4 * d + 3 := by have := q.2.1; unfold dh at this; omega
          unfold hb dh
          rw [if_neg q1]
          have p1 : 2 ^ (4 * d) ≤ 2 ^ (dR t lt w d).1 := Nat.pow_le_pow_right (by decide) q2
          have p2 : 2 ^ (dR t lt w d).1 ≤ 2 ^ (4 * d + 3) := Nat.pow_le_pow_right (by decide) q3
          have p3 : 2 ^ (4 * d + 3) = 2 ^ (4 * d) * 8 := by rw [Nat.pow_add]
          have p4 := Nat.two_pow_add_eq_or_of_lt (i := (dR t lt w d).1) (b := b.2.1) (by omega) 1
          rw [Nat.mul_one] at p4
          refine ⟨?_, by omega⟩
          rw [Nat.or_comm, ← p4]; omega
      rw [ih (d + 1) _ (by omega) (by show b.2.1 ||| _ < _; rw [hor.1]; exact hor.2)]
      simp only
      rw [hor.1, e1, Nat.one_mul, Nat.one_mul]
      show _ = (b.1 + (1 + _), b.2.1 + (hb (dh t lt w) d + _), b.2.2 + (dv t lt w d + _))
      rw [← Nat.add_assoc, ← Nat.add_assoc, ← Nat.add_assoc]
      rfl
theorem sA_all (hW : WB t) {lt w D : Nat} (hw : w < t 1) : sA t lt w D 7 0 (0, 0, 0) = (cnD D, bsD (dh t lt w) D, csD (dv t lt w) D) := by
  rw [sA_sum hW hw 7 0 (0, 0, 0) rfl (by decide)]
  simp only [Nat.zero_add]
  rfl
def bP (k n : Nat) (hh cc : Nat → Nat) (b : Option (Nat × Nat)) : Prop := match b with
  | none => ∀ E, E < k → cnD E = n → 100000 ≤ csD cc E
  | some x => (∃ E, E < k ∧ cnD E = n ∧ csD cc E < 100000 ∧ x = (csD cc E, bsD hh E)) ∧ ∀ E, E < k → cnD E = n → csD cc E < 100000 → lexle x (csD cc E, bsD hh E)
theorem bP_step {k n : Nat} {hh cc : Nat → Nat} {b : Option (Nat × Nat)} (h : bP k n hh cc b) : bP (k + 1) n hh cc (if cnD k = n then wg b (bsD hh k) (csD cc k) else b) := by
  by_cases e : cnD k = n
  · rw [if_pos e]
    unfold wg
    by_cases e1 : 100000 ≤ csD cc k
    · rw [if_pos e1]
      cases b with
      | none =>
        intro E hE hn
        by_cases z : E = k
        · subst z; exact e1
        · exact h E (by omega) hn
      | some x =>
        obtain ⟨⟨E, a1, a2, a3, a4⟩, a5⟩ := h
        refine ⟨⟨E, by omega, a2, a3, a4⟩, fun F hF hn hc => ?_⟩
        by_cases z : F = k
        · subst z; omega
        · exact a5 F (by omega) hn hc
    · rw [if_neg e1]
      cases b with
      | none =>
        refine ⟨⟨k, by omega, e, by omega, rfl⟩, fun F hF hn hc => ?_⟩
        by_cases z : F = k
        · subst z; exact Or.inr ⟨rfl, Nat.le_refl _⟩
        · have := h F (by omega) hn; omega
      | some x =>
        obtain ⟨c, y⟩ := x
        obtain ⟨⟨E, a1, a2, a3, a4⟩, a5⟩ := h
        have keep : lexle (c, y) (csD cc k, bsD hh k) → bP (k + 1) n hh cc (some (c, y)) := by
          intro hl
          refine ⟨⟨E, by omega, a2, a3, a4⟩, fun F hF hn hc => ?_⟩
          by_cases z : F = k
          · subst z; exact hl
          · exact a5 F (by omega) hn hc
        have take : lexle (csD cc k, bsD hh k) (c, y) → bP (k + 1) n hh cc (some (csD cc k, bsD hh k)) := by
          intro hl
          refine ⟨⟨k, by omega, e, by omega, rfl⟩, fun F hF hn hc => ?_⟩
          by_cases z : F = k
          · subst z; exact Or.inr ⟨rfl, Nat.le_refl _⟩
          · have := a5 F (by omega) hn hc
            simp only [lexle] at this hl ⊢
            omega
        simp only
        by_cases e2 : c < csD cc k
        · rw [if_pos e2]; exact keep (Or.inl e2)
        · rw [if_neg e2]
          by_cases e3 : csD cc k = c
          · rw [if_pos e3]
            by_cases e4 : bsD hh k < y
            · rw [if_pos e4]; exact take (Or.inr ⟨e3, Nat.le_of_lt e4⟩)
            · rw [if_neg e4]; exact keep (Or.inr ⟨e3.symm, by show y ≤ bsD hh k; omega⟩)
          · rw [if_neg e3]; exact take (Or.inl (by show csD cc k < c; omega))
  · rw [if_neg e]
    cases b with
    | none =>
      intro E hE hn
      by_cases z : E = k
      · subst z; exact absurd hn e
      · exact h E (by omega) hn
    | some x =>
      obtain ⟨⟨E, a1, a2, a3, a4⟩, a5⟩ := h
      refine ⟨⟨E, by omega, a2, a3, a4⟩, fun F hF hn hc => ?_⟩
      by_cases z : F = k
      · subst z; exact absurd hn e
      · exact a5 F (by omega) hn hc
theorem bestD_P (hW : WB t) {lt w : Nat} (hw : w < t 1) : ∀ (k D : Nat) (b : Option (Nat × Nat)), bP D (t (153 + 6 * w + 2)) (dh t lt w) (dv t lt w) b → bP (D + k) (t (153 + 6 * w + 2)) (dh t lt w) (dv t lt w) (bestD t lt w k D b) := by
  intro k
  induction k with
  | zero => intro D b h; exact h
  | succ k ih =>
    intro D b h
    simp only [bestD, sA_all hW hw]
    have := ih (D + 1) _ (bP_step h)
    rw [show D + 1 + k = D + (k + 1) by omega] at this
    exact this
theorem bestD_some (hW : WB t) {lt w D K : Nat} (hw : w < t 1) (h1 : D < K) (h2 : cnD D = (t (153 + 6 * w + 2))) (h3 : csD (dv t lt w) D < 100000) (h4 : ∀ E, E < K → cnD E = (t (153 + 6 * w + 2)) → csD (dv t lt w) E < 100000 → lexle (csD (dv t lt w) D, bsD (dh t lt w) D) (csD (dv t lt w) E, bsD (dh t lt w) E)) : bestD t lt w K 0 none = some (csD (dv t lt w) D, bsD (dh t lt w) D) := by
  have h0 : bP 0 (t (153 + 6 * w + 2)) (dh t lt w) (dv t lt w) none := fun E hE => absurd hE (Nat.not_lt_zero _)
  have h := bestD_P (lt := lt) hW hw K 0 none h0
  rw [Nat.zero_add] at h
  cases e : bestD t lt w K 0 none with
  | none => rw [e] at h; have := h D h1 h2; omega
  | some x =>
    rw [e] at h
    obtain ⟨⟨E, a1, a2, a3, a4⟩, a5⟩ := h
    rw [lex_anti (a5 D h1 h2 h3) (by rw [a4]; exact h4 E a1 a2 a3)]
theorem bestD_none (hW : WB t) {lt w K : Nat} (hw : w < t 1) (h4 : ∀ E, E < K → cnD E = (t (153 + 6 * w + 2)) → 100000 ≤ csD (dv t lt w) E) : bestD t lt w K 0 none = none := by
  have h0 : bP 0 (t (153 + 6 * w + 2)) (dh t lt w) (dv t lt w) none := fun E hE => absurd hE (Nat.not_lt_zero _)
  have h := bestD_P (lt := lt) hW hw K 0 none h0
  rw [Nat.zero_add] at h
  cases e : bestD t lt w K 0 none with
  | none => rfl
  | some x =>
    rw [e] at h
    obtain ⟨⟨E, a1, a2, a3, a4⟩, a5⟩ := h
    have := h4 E a1 a2; omega
/-- the days picked so far: each is before each that is left -/
def sel (hh cc : Nat → Nat) (D : Nat) : Prop := ∀ d e, d < 7 → e < 7 → bt1 D d = 1 → hh d ≠ 999 ∧ (bt1 D e = 0 → hh e ≠ 999 → cc d < cc e ∨ (cc d = cc e ∧ d < e))
theorem far_of {hh cc : Nat → Nat} (ok : dOK2 hh cc) {E d : Nat} (hd : d < 7) (h1 : bt1 E d = 1) (h2 : hh d = 999) : 100000 ≤ csD cc E := by
  have h3 : cc d = 100000 := by rcases ok d hd with q | q <;> omega
  have := sumF_one (f := fun _ => 0) (g := fun d => bt1 E d * cc d) (e := d) (δ := 100000) (by simp only [h1, h3]; omega) 7 0 (Nat.zero_le _) (by omega) (fun _ _ _ => Nat.zero_le _)
  unfold csD
  omega
theorem sel_best {hh cc : Nat → Nat} (ok : dOK2 hh cc) {D r : Nat} (hs : sel hh cc D) (hr : r < 7) (h1 : bt1 D r = 1) (h2 : ∀ d, d < 7 → bt1 D d = 1 → cc d < cc r ∨ (cc d = cc r ∧ d ≤ r)) : csD cc D < 100000 ∧ ∀ E, cnD E = cnD D → csD cc E < 100000 → lexle (csD cc D, bsD hh D) (csD cc E, bsD hh E) := by
  constructor
  · have := sumF_le (f := fun d => bt1 D d * cc d) (B := 81) 7 0 (fun d _ hd => by
      have a := bt1_le D d
      rcases Nat.lt_or_ge (bt1 D d) 1 with x | x
      · rw [show bt1 D d = 0 by omega]; omega
      · have x1 : bt1 D d = 1 := by omega
        have := (hs d r (by omega) hr x1).1
        rcases ok d (by omega) with q | q
        · omega
        · rw [x1]; omega)
    unfold csD
    omega
  · intro E hn hc
    refine greedy_min ok hr hn.symm (fun d hd x => ⟨(hs d r hd hr x).1, h2 d hd x⟩) (fun d hd x y => ?_) (fun d hd x y => ?_)
    · have := (hs r d hr hd h1).2 x y
      omega
    · have := far_of ok hd x y
      omega
theorem sel_none {hh cc : Nat → Nat} (ok : dOK2 hh cc) {D E : Nat} (h1 : ∀ d, d < 7 → bt1 D d = 0 → hh d = 999) (hn : cnD D < cnD E) : 100000 ≤ csD cc E := by
  by_cases ex : ∃ d, d < 7 ∧ bt1 E d = 1 ∧ bt1 D d = 0
  · obtain ⟨d, a, b, c⟩ := ex
    exact far_of ok a b (h1 d a c)
  · have := sumF_mono (f := bt1 E) (g := bt1 D) 7 0 (fun d _ hd => by
      have a := bt1_le D d
      have b := bt1_le E d
      by_cases z : bt1 E d ≤ bt1 D d
      · exact z
      · exact absurd ⟨d, by omega, by omega, by omega⟩ ex)
    unfold cnD at hn
    omega
theorem sum_pick (g : Nat → Nat) {D r : Nat} (hr : r < 7) (h0 : bt1 D r = 0) : sumF (fun d => bt1 (D + 2 ^ r) d * g d) 0 7 = sumF (fun d => bt1 D d * g d) 0 7 + g r := by
  rw [sumF_congr (g := fun d => bt1 D d * g d + (if d = r then g d else 0)) 7 0 (fun d _ _ => by
    rw [bt1_add h0]
    by_cases e : d = r
    · subst e; rw [if_pos rfl, if_pos rfl, h0]; omega
    · rw [if_neg e, if_neg e]; omega), sumF_add]
  congr 1
  have : r = 0 ∨ r = 1 ∨ r = 2 ∨ r = 3 ∨ r = 4 ∨ r = 5 ∨ r = 6 := by omega
  rcases this with rfl | rfl | rfl | rfl | rfl | rfl | rfl <;> simp [sumF]
theorem cnD_pick {D r : Nat} (hr : r < 7) (h0 : bt1 D r = 0) : cnD (D + 2 ^ r) = cnD D + 1 := by
  have := sum_pick (fun _ => 1) hr h0
  simp only [Nat.mul_one] at this
  exact this
theorem D_pick {D r : Nat} (hD : D < 128) (hr : r < 7) (h0 : bt1 D r = 0) : D + 2 ^ r < 128 := by
  unfold bt1 at h0
  have : r = 0 ∨ r = 1 ∨ r = 2 ∨ r = 3 ∨ r = 4 ∨ r = 5 ∨ r = 6 := by omega
  rcases this with rfl | rfl | rfl | rfl | rfl | rfl | rfl <;> simp only [Nat.reducePow] at h0 ⊢ <;> omega
theorem sel_pick {hh cc : Nat → Nat} {D r : Nat} (hs : sel hh cc D) (hr : r < 7) (h0 : bt1 D r = 0) (h9 : hh r ≠ 999) (hl : ∀ x, x < 7 → bt1 D x = 0 → hh x ≠ 999 → cc r < cc x ∨ (cc r = cc x ∧ r ≤ x)) : sel hh cc (D + 2 ^ r) ∧ bt1 (D + 2 ^ r) r = 1 ∧ ∀ d, d < 7 → bt1 (D + 2 ^ r) d = 1 → cc d < cc r ∨ (cc d = cc r ∧ d ≤ r) := by
  refine ⟨fun d e hd he h1 => ?_, ?_, fun d hd h1 => ?_⟩
  · rw [bt1_add h0] at h1 ⊢
    by_cases z : d = r
    · subst z
      refine ⟨h9, fun y1 y2 => ?_⟩
      by_cases z2 : e = d
      · rw [if_pos z2] at y1; omega
      · rw [if_neg z2] at y1
        have := hl e he y1 y2
        omega
    · rw [if_neg z] at h1
      refine ⟨(hs d e hd he h1).1, fun y1 y2 => ?_⟩
      by_cases z2 : e = r
      · rw [if_pos z2] at y1; omega
      · rw [if_neg z2] at y1
        exact (hs d e hd he h1).2 y1 y2
  · rw [bt1_add h0, if_pos rfl]
  · rw [bt1_add h0] at h1
    by_cases z : d = r
    · subst z; exact Or.inr ⟨rfl, Nat.le_refl _⟩
    · rw [if_neg z] at h1
      have := (hs d r hd hr h1).2 h0 h9
      omega
theorem or_free {x h : Nat} (h0 : bt1 x h = 0) : x ||| 2 ^ h = x + 2 ^ h := by
  apply Nat.eq_of_testBit_eq
  intro i
  have e : ∀ y, Nat.testBit y i = decide (bt1 y i = 1) := by
    intro y
    rw [Nat.testBit_eq_decide_div_mod_eq]
    rfl
  rw [Nat.testBit_or, Nat.testBit_two_pow, e, e, bt1_add h0]
  by_cases z : i = h
  · subst z; simp
  · rw [if_neg z]
    have : ¬ h = i := fun q => z q.symm
    simp [this]
theorem sumF_mulOf {f : Nat → Nat} {C : Nat} : ∀ (k i : Nat), (∀ d, i ≤ d → d < i + k → ∃ q, f d = C * q) → ∃ q, sumF f i k = C * q := by
  intro k
  induction k with
  | zero => intro i _; exact ⟨0, rfl⟩
  | succ k ih =>
    intro i h
    obtain ⟨a, ha⟩ := h i (Nat.le_refl _) (by omega)
    obtain ⟨b, hb⟩ := ih (i + 1) (fun d x y => h d (by omega) (by omega))
    exact ⟨a + b, by rw [sumF, ha, hb, Nat.mul_add]⟩
theorem bs_free {hh cc : Nat → Nat} (ok : dOK2 hh cc) {D r : Nat} (hr : r < 7) (h0 : bt1 D r = 0) (h9 : hh r ≠ 999) : bt1 (bsD hh D) (hh r) = 0 := by
  have okr : 4 * r ≤ hh r ∧ hh r < 4 * r + 4 := by rcases ok r hr with q | q <;> omega
  have hl := low_lt ok D r (by omega)
  obtain ⟨q, hq⟩ := sumF_mulOf (f := fun d => bt1 D d * hb hh d) (C := 2 ^ (4 * r + 4)) (7 - (r + 1)) (r + 1) (fun d a b => by
    unfold hb
    by_cases z : hh d = 999
    · exact ⟨0, by simp [z]⟩
    · rcases ok d (by omega) with y | y
      · exact absurd y.1 z
      · refine ⟨bt1 D d * 2 ^ (hh d - (4 * r + 4)), ?_⟩
        simp only [if_neg z]
        rw [Nat.mul_left_comm, ← Nat.pow_add, show 4 * r + 4 + (hh d - (4 * r + 4)) = hh d by omega])
  have e := sumF_split (fun d => bt1 D d * hb hh d) (r + 1) (7 - (r + 1)) 0
  rw [show r + 1 + (7 - (r + 1)) = 7 by omega, Nat.zero_add, sumF_last _ r, Nat.zero_add, h0, Nat.zero_mul, Nat.add_zero, hq] at e
  unfold bsD
  rw [e]
  have p1 : 2 ^ (4 * r) ≤ 2 ^ hh r := Nat.pow_le_pow_right (by decide) okr.1
  have p2 : 2 ^ (4 * r + 4) = 2 ^ hh r * (2 * 2 ^ (4 * r + 3 - hh r)) := by
    rw [← Nat.mul_assoc, ← Nat.pow_succ, ← Nat.pow_add]
    congr 1
    omega
  show (_ + _) / 2 ^ hh r % 2 = 0
  rw [p2, Nat.mul_assoc, Nat.add_mul_div_left _ _ (Nat.two_pow_pos _), Nat.div_eq_of_lt (by omega), Nat.mul_assoc]
  omega
theorem bsD_pick {hh cc : Nat → Nat} (ok : dOK2 hh cc) {D r : Nat} (hr : r < 7) (h0 : bt1 D r = 0) (h9 : hh r ≠ 999) : bsD hh D ||| 2 ^ hh r = bsD hh (D + 2 ^ r) := by
  rw [or_free (bs_free ok hr h0 h9)]
  unfold bsD
  rw [sum_pick _ hr h0]
  unfold hb
  rw [if_neg h9]
theorem csD_pick {cc : Nat → Nat} {D r : Nat} (hr : r < 7) (h0 : bt1 D r = 0) : csD cc D + cc r = csD cc (D + 2 ^ r) := (sum_pick cc hr h0).symm
end Greedy
