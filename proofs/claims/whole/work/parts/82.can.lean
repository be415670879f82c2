/-! when a work can be: its hours open under a strike -/
section Can
variable {t : Nat → Nat}
theorem pC_open {T : Nat → Nat} {lt w p h : Nat} : pC T lt w p h = none ↔ (fr T w p h = false ∧ p ≠ lt ∧ (T 2 / 2 ^ p % 2 = 1 ∨ kl T w p = false)) := by
  unfold pC fr kl
  by_cases e1 : p = (T (153 + 6 * w)) ∨ (h = T 3 ∧ (T (153 + 6 * w + 5)) = T 4) ∨ (T (121 + 4 * (T (153 + 6 * w)) + 3)) = p
  · rw [if_pos e1]
    refine ⟨fun z => (by cases z), fun z => ?_⟩
    have := z.1
    simp only [decide_eq_false_iff_not] at this
    exact absurd e1 this
  · rw [if_neg e1]
    by_cases e2 : p = lt
    · rw [if_pos e2]; exact ⟨fun z => (by cases z), fun z => absurd e2 z.2.1⟩
    · rw [if_neg e2]
      by_cases e3 : T 2 / 2 ^ p % 2 = 1
      · rw [if_pos e3]; exact ⟨fun _ => ⟨by simpa using e1, e2, Or.inl e3⟩, fun _ => rfl⟩
      · rw [if_neg e3]
        have hh : ∀ x : Option Nat, (x = none ↔ ((T (121 + 4 * p)) = 6 ∨ ((T (121 + 4 * p)) = 4 ∧ (T (153 + 6 * w + 5)) ≠ (T (121 + 4 * p + 2))))) → (x = none ↔ (decide (p = (T (153 + 6 * w)) ∨ (h = T 3 ∧ (T (153 + 6 * w + 5)) = T 4) ∨ (T (121 + 4 * (T (153 + 6 * w)) + 3)) = p) = false ∧ p ≠ lt ∧ (T 2 / 2 ^ p % 2 = 1 ∨ decide (¬ (T (121 + 4 * p)) = 6 ∧ (¬ (T (121 + 4 * p)) = 4 ∨ (T (153 + 6 * w + 5)) = (T (121 + 4 * p + 2)))) = false))) := fun x hx => by
          rw [hx]
          constructor
          · intro z; exact ⟨by simpa using e1, e2, Or.inr (decide_eq_false (by omega))⟩
          · rintro ⟨-, -, z | z⟩
            · exact absurd z e3
            · have z := of_decide_eq_false z
              omega
        refine hh _ ?_
        by_cases k1 : (T (121 + 4 * p)) = 1
        · rw [if_pos k1]; exact ⟨fun z => (by cases z), fun z => by omega⟩
        · rw [if_neg k1]
          by_cases k2 : (T (121 + 4 * p)) = 2
          · rw [if_pos k2]; exact ⟨fun z => (by cases z), fun z => by omega⟩
          · rw [if_neg k2]
            by_cases k3 : (T (121 + 4 * p)) = 3
            · rw [if_pos k3]; exact ⟨fun z => (by cases z), fun z => by omega⟩
            · rw [if_neg k3]
              by_cases k4 : (T (121 + 4 * p)) = 4
              · rw [if_pos k4]
                by_cases k5 : (T (153 + 6 * w + 5)) = (T (121 + 4 * p + 2))
                · rw [if_pos k5]; exact ⟨fun z => (by cases z), fun z => by omega⟩
                · rw [if_neg k5]; exact ⟨fun z => Or.inr ⟨k4, k5⟩, fun z => rfl⟩
              · rw [if_neg k4]
                by_cases k5 : (T (121 + 4 * p)) = 5
                · rw [if_pos k5]; exact ⟨fun z => (by cases z), fun z => by omega⟩
                · rw [if_neg k5]
                  by_cases k6 : (T (121 + 4 * p)) = 6
                  · rw [if_pos k6]; exact ⟨fun z => Or.inl k6, fun z => rfl⟩
                  · rw [if_neg k6]; exact ⟨fun z => (by cases z), fun z => by omega⟩
theorem osum_all {f : Nat → Option Nat} : ∀ (k i : Nat), osumF f i k = none ↔ ∃ j, i ≤ j ∧ j < i + k ∧ f j = none := by
  intro k
  induction k with
  | zero => intro i; exact ⟨fun z => (by cases z), fun ⟨j, h1, h2, _⟩ => by omega⟩
  | succ k ih =>
    intro i
    unfold osumF
    cases e1 : f i with
    | none => exact ⟨fun _ => ⟨i, Nat.le_refl _, by omega, e1⟩, fun _ => rfl⟩
    | some x =>
      cases e2 : osumF f (i + 1) k with
      | none =>
        obtain ⟨j, h1, h2, h3⟩ := (ih (i + 1)).mp e2
        exact ⟨fun _ => ⟨j, by omega, by omega, h3⟩, fun _ => rfl⟩
      | some y =>
        refine ⟨fun z => (by cases z), fun ⟨j, h1, h2, h3⟩ => ?_⟩
        by_cases z : j = i
        · subst z; rw [e1] at h3; cases h3
        · have := (ih (i + 1)).mpr ⟨j, by omega, by omega, h3⟩
          rw [e2] at this; cases this
theorem hF_far (hW : WB t) {lt w h : Nat} (hw : w < t 1) (hh : h < 28) : (hC t lt w h = none → hF t lt w h = 100000) ∧ (hC t lt w h ≠ none → hF t lt w h ≤ 81) := by
  unfold hF
  cases e : hC t lt w h with
  | none => exact ⟨fun _ => rfl, fun z => absurd rfl z⟩
  | some v => exact ⟨fun z => (by cases z), fun _ => hC_le hW hw hh e⟩
theorem wg_none {b : Option (Nat × Nat)} {bits cost : Nat} : wg b bits cost = none ↔ b = none ∧ 100000 ≤ cost := by
  unfold wg
  by_cases e : 100000 ≤ cost
  · rw [if_pos e]; exact ⟨fun z => ⟨z, e⟩, fun z => z.1⟩
  · rw [if_neg e]
    cases b with
    | none => exact ⟨fun z => (by cases z), fun z => absurd z.2 e⟩
    | some y =>
      obtain ⟨c, x⟩ := y
      refine ⟨fun z => ?_, fun z => (by cases z.1)⟩
      simp only at z
      split at z
      · cases z
      · split at z
        · split at z <;> cases z
        · cases z
theorem bestR_none (hW : WB t) {lt w : Nat} (hw : w < t 1) : ∀ (k x : Nat) (b : Option (Nat × Nat)), x + k + (t (153 + 6 * w + 2)) ≤ (t (153 + 6 * w + 3)) + 2 → (bestR t lt w k x b = none ↔ b = none ∧ ∀ y, x ≤ y → y < x + k → ∃ h, y ≤ h ∧ h < y + (t (153 + 6 * w + 2)) ∧ hC t lt w h = none) := by
  obtain ⟨d1, d2, d3, d4, d5, d6⟩ := hW.wk hw
  intro k
  induction k with
  | zero => intro x b _; exact ⟨fun z => ⟨z, fun y h1 h2 => by omega⟩, fun z => z.1⟩
  | succ k ih =>
    intro x b hx
    simp only [bestR]
    rw [ih (x + 1) _ (by omega), wg_none]
    have key : 100000 ≤ rF t lt w x (t (153 + 6 * w + 2)) ↔ ∃ h, x ≤ h ∧ h < x + (t (153 + 6 * w + 2)) ∧ hC t lt w h = none := by
      constructor
      · intro z
        refine Classical.byContradiction (fun n => ?_)
        have hle : rF t lt w x (t (153 + 6 * w + 2)) ≤ (t (153 + 6 * w + 2)) * 81 := sumF_le _ _ (fun j q1 q2 => (hF_far hW hw (by omega)).2 (fun y => n ⟨j, q1, q2, y⟩))
        have : (t (153 + 6 * w + 2)) * 81 ≤ 6 * 81 := Nat.mul_le_mul_right _ d3.2
        omega
      · rintro ⟨h, h1, h2, h3⟩
        have := sumF_at (f := hF t lt w) h1 h2
        rw [(hF_far hW hw (by omega)).1 h3] at this
        exact this
    rw [key]
    constructor
    · rintro ⟨⟨h1, h2⟩, h3⟩
      refine ⟨h1, fun y q1 q2 => ?_⟩
      by_cases e : y = x
      · subst e; exact h2
      · exact h3 y (by omega) (by omega)
    · rintro ⟨h1, h2⟩
      exact ⟨⟨h1, h2 x (Nat.le_refl _) (by omega)⟩, fun y q1 q2 => h2 y (by omega) (by omega)⟩
theorem dB_none (hW : WB t) {lt w : Nat} (hw : w < t 1) : ∀ (k h : Nat) (b : Nat × Nat), h + k ≤ 28 → (b.1 = 999 → b.2 = 100000) → ((dB t lt w k h b).1 = 999 ↔ b.1 = 999 ∧ ∀ x, h ≤ x → x < h + k → hC t lt w x = none) := by
  intro k
  induction k with
  | zero => intro h b _ _; exact ⟨fun z => ⟨z, fun y h1 h2 => by omega⟩, fun z => z.1⟩
  | succ k ih =>
    intro h b hh hb
    simp only [dB]
    obtain ⟨f1, f2⟩ := hF_far (lt := lt) hW hw (show h < 28 by omega)
    by_cases e : hF t lt w h < b.2
    · rw [if_pos e]
      have e0 : ¬ (h = 999) := by omega
      rw [ih (h + 1) (h, hF t lt w h) (by omega) (fun z => absurd z e0)]
      constructor
      · rintro ⟨z, -⟩; exact absurd z e0
      · rintro ⟨z, z2⟩
        have := f1 (z2 h (Nat.le_refl _) (by omega))
        have := hb z
        omega
    · rw [if_neg e, ih (h + 1) b (by omega) hb]
      constructor
      · rintro ⟨z, z2⟩
        refine ⟨z, fun x q1 q2 => ?_⟩
        by_cases y : x = h
        · subst y
          refine Classical.byContradiction (fun n => ?_)
          have := f2 n
          have := hb z
          omega
        · exact z2 x (by omega) (by omega)
      · rintro ⟨z, z2⟩
        exact ⟨z, fun x q1 q2 => z2 x (by omega) (by omega)⟩
theorem dh_none (hW : WB t) {lt w d : Nat} (hw : w < t 1) (hd : d < 7) : dh t lt w d = 999 ↔ ∀ x, 4 * d ≤ x → x < 4 * d + 4 → x ≤ (t (153 + 6 * w + 3)) → hC t lt w x = none := by
  unfold dh dR
  rw [dB_none hW hw _ _ _ (by unfold cntD; omega) (fun _ => rfl)]
  unfold cntD
  constructor
  · rintro ⟨-, z⟩ x q1 q2 q3; exact z x q1 (by omega)
  · intro z; exact ⟨rfl, fun x q1 q2 => z x q1 (by omega) (by omega)⟩
/-- the days with an open hour -/
def oD (t : Nat → Nat) (lt w : Nat) : Nat := mkB (fun d => decide (dh t lt w d ≠ 999)) 7
theorem oD_b {lt w d : Nat} (hd : d < 7) : bt1 (oD t lt w) d = b2n (decide (dh t lt w d ≠ 999)) := mkB_bit _ 7 d hd
theorem sub_days {D : Nat} : ∀ n, n ≤ cnD D → ∃ E, E < 128 ∧ cnD E = n ∧ ∀ d, d < 7 → bt1 E d = 1 → bt1 D d = 1 := by
  intro n
  induction n with
  | zero => intro _; exact ⟨0, by decide, by decide, fun d _ h => by unfold bt1 at h; rw [Nat.zero_div] at h; omega⟩
  | succ n ih =>
    intro hn
    obtain ⟨E, e1, e2, e3⟩ := ih (by omega)
    have : ∃ r, r < 7 ∧ bt1 D r = 1 ∧ bt1 E r = 0 := by
      refine Classical.byContradiction (fun z => ?_)
      have hle : cnD D ≤ cnD E := sumF_mono 7 0 (fun d _ hd => by
        have a1 := bt1_le D d
        have a2 := bt1_le E d
        by_cases q : bt1 D d = 1
        · by_cases q2 : bt1 E d = 0
          · exact absurd ⟨d, by omega, q, q2⟩ z
          · omega
        · omega)
      omega
    obtain ⟨r, r1, r2, r3⟩ := this
    refine ⟨E + 2 ^ r, D_pick e1 r1 r3, by rw [cnD_pick r1 r3, e2], fun d hd h => ?_⟩
    rw [bt1_add r3] at h
    by_cases q : d = r
    · subst q; exact r2
    · rw [if_neg q] at h; exact e3 d hd h
theorem bestD_can (hW : WB t) {lt w K : Nat} (hK : K = 128) (hw : w < t 1) : bestD t lt w K 0 none = none ↔ cnD (oD t lt w) < (t (153 + 6 * w + 2)) := by
  obtain ⟨d1, d2, d3, d4, d5, d6⟩ := hW.wk hw
  have ok := dR_2 (lt := lt) hW hw
  constructor
  · intro z
    refine Classical.byContradiction (fun n => ?_)
    obtain ⟨E, e1, e2, e3⟩ := sub_days (D := oD t lt w) (t (153 + 6 * w + 2)) (by omega)
    have hc : csD (dv t lt w) E ≤ 7 * 81 := sumF_le 7 0 (fun d _ hd => by
      have hd : d < 7 := by omega
      have a2 := bt1_le E d
      by_cases q : bt1 E d = 1
      · have := e3 d hd q
        rw [oD_b hd] at this
        rcases ok d hd with y | y
        · rw [show decide (dh t lt w d ≠ 999) = false by simpa using y.1] at this
          cases this
        · rw [q, Nat.one_mul]; exact y.2.2
      · rw [show bt1 E d = 0 by omega, Nat.zero_mul]; omega)
    have h0 : bP 0 (t (153 + 6 * w + 2)) (dh t lt w) (dv t lt w) none := fun E hE => absurd hE (Nat.not_lt_zero _)
    have h1 := bestD_P (lt := lt) hW hw K 0 none h0
    rw [z] at h1
    have := h1 E (by omega) e2
    omega
  · intro z
    refine bestD_none hW hw (fun E e1 e2 => ?_)
    refine sel_none ok (D := oD t lt w) (fun d hd h => ?_) (by omega)
    rw [oD_b hd] at h
    refine Classical.byContradiction (fun n => ?_)
    rw [show decide (dh t lt w d ≠ 999) = true by simpa using n] at h
    cases h
/-- when a work can be -/
def can (t : Nat → Nat) (lt w : Nat) : Bool := (one t lt w).isSome
theorem can_0 (hW : WB t) {lt w : Nat} (hw : w < t 1) (e : (t (153 + 6 * w + 1)) = 0) : can t lt w = true ↔ ∃ x, x + (t (153 + 6 * w + 2)) ≤ (t (153 + 6 * w + 3)) + 1 ∧ ∀ h, x ≤ h → h < x + (t (153 + 6 * w + 2)) → hC t lt w h ≠ none := by
  obtain ⟨d1, d2, d3, d4, d5, d6⟩ := hW.wk hw
  have key : can t lt w = true ↔ one t lt w ≠ none := by
    unfold can
    cases one t lt w <;> simp
  rw [key]
  unfold one
  rw [if_pos e]
  by_cases q : (t (153 + 6 * w + 2)) ≤ (t (153 + 6 * w + 3)) + 1
  · rw [Ne, bestR_none hW hw _ _ _ (by omega)]
    constructor
    · intro n
      refine Classical.byContradiction (fun z => n ⟨rfl, fun y q1 q2 => ?_⟩)
      refine Classical.byContradiction (fun z2 => z ⟨y, by omega, fun h a1 a2 a3 => z2 ⟨h, a1, a2, a3⟩⟩)
    · rintro ⟨x, h1, h2⟩ ⟨-, h3⟩
      obtain ⟨h, a1, a2, a3⟩ := h3 x (by omega) (by omega)
      exact h2 h a1 a2 a3
  · rw [show (t (153 + 6 * w + 3)) + 2 - (t (153 + 6 * w + 2)) = 0 by omega]
    exact ⟨fun z => absurd rfl z, fun ⟨x, h1, _⟩ => by omega⟩
theorem can_1 (hW : WB t) {lt w : Nat} (hw : w < t 1) (e : (t (153 + 6 * w + 1)) ≠ 0) : can t lt w = true ↔ (t (153 + 6 * w + 2)) ≤ cnD (oD t lt w) := by
  have key : can t lt w = true ↔ one t lt w ≠ none := by
    unfold can
    cases one t lt w <;> simp
  rw [key]
  unfold one
  rw [if_neg e, Ne, bestD_can hW rfl hw]
  omega
end Can
