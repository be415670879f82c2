/-! ONE's hours can all be had; so what a holder earns is a natural number -/
section Feas
variable {t : Nat → Nat}
def fsb (t : Nat → Nat) (lt w : Nat) (b : Option (Nat × Nat)) : Prop := ∀ x, b = some x → ∀ h, h < 28 → bt1 x.2 h = 1 → ∃ v, hC t lt w h = some v
theorem bt_R {n x h : Nat} (e : bt1 (bitsR n x) h = 1) : x ≤ h ∧ h < x + n := by
  unfold bt1 bitsR at e
  have hp := Nat.two_pow_pos n
  by_cases q : h < x
  · have e2 : 2 ^ x = 2 ^ h * (2 * 2 ^ (x - h - 1)) := by
      rw [← Nat.mul_assoc, ← Nat.pow_succ, ← Nat.pow_add]
      congr 1
      omega
    rw [e2, Nat.mul_left_comm, Nat.mul_div_cancel_left _ (Nat.two_pow_pos h), Nat.mul_left_comm, Nat.mul_mod_right] at e
    omega
  · refine ⟨by omega, ?_⟩
    by_cases z : h < x + n
    · exact z
    · have h1 : (2 ^ n - 1) * 2 ^ x < 2 ^ h := by
        have h2 : (2 ^ n - 1) * 2 ^ x < 2 ^ n * 2 ^ x := Nat.mul_lt_mul_of_pos_right (Nat.sub_lt hp (by decide)) (Nat.two_pow_pos x)
        rw [← Nat.pow_add] at h2
        exact Nat.lt_of_lt_of_le h2 (Nat.pow_le_pow_right (by decide) (by omega))
      rw [Nat.div_eq_of_lt h1] at e
      omega
theorem sumF_at {f : Nat → Nat} {i k j : Nat} (h1 : i ≤ j) (h2 : j < i + k) : f j ≤ sumF f i k := by
  have := sumF_one (f := fun _ => 0) (g := f) (e := j) (δ := f j) (by omega) k i h1 h2 (fun _ _ _ => Nat.zero_le _)
  omega
theorem fsb_wg {lt w : Nat} {b : Option (Nat × Nat)} {bits cost : Nat} (h : fsb t lt w b) (hc : cost < 100000 → ∀ h, h < 28 → bt1 bits h = 1 → ∃ v, hC t lt w h = some v) : fsb t lt w (wg b bits cost) := by
  unfold wg
  by_cases e : 100000 ≤ cost
  · rw [if_pos e]; exact h
  · rw [if_neg e]
    have hx := hc (by omega)
    cases b with
    | none => intro x ex; cases ex; exact hx
    | some y =>
      obtain ⟨c, z⟩ := y
      simp only
      by_cases e1 : c < cost
      · rw [if_pos e1]; exact h
      · rw [if_neg e1]
        by_cases e2 : cost = c
        · rw [if_pos e2]
          by_cases e3 : bits < z
          · rw [if_pos e3]; intro x ex; cases ex; exact hx
          · rw [if_neg e3]; exact h
        · rw [if_neg e2]; intro x ex; cases ex; exact hx
theorem hF_some {lt w h : Nat} (e : hF t lt w h < 100000) : ∃ v, hC t lt w h = some v := by
  unfold hF at e
  cases z : hC t lt w h with
  | none => rw [z] at e; exact absurd e (by decide)
  | some v => exact ⟨v, rfl⟩
theorem fsb_R {lt w : Nat} : ∀ (k x : Nat) (b : Option (Nat × Nat)), fsb t lt w b → fsb t lt w (bestR t lt w k x b) := by
  intro k
  induction k with
  | zero => intro x b h; exact h
  | succ k ih =>
    intro x b h
    simp only [bestR]
    refine ih (x + 1) _ (fsb_wg h (fun hc g hg hb => ?_))
    have hb2 := bt_R hb
    refine hF_some ?_
    have := sumF_at (f := fun g => hF t lt w g) hb2.1 hb2.2
    unfold rF at hc
    exact Nat.lt_of_le_of_lt this hc
theorem bt_D {hh cc : Nat → Nat} (ok : dOK2 hh cc) {D h : Nat} : ∀ k, k ≤ 7 → bt1 (sumF (fun d => bt1 D d * hb hh d) 0 k) h = 1 → ∃ d, d < k ∧ bt1 D d = 1 ∧ hh d = h := by
  intro k
  induction k with
  | zero => intro _ e; unfold bt1 sumF at e; rw [Nat.zero_div] at e; omega
  | succ k ih =>
    intro hk e
    rw [sumF_last, Nat.zero_add] at e
    have hl := low_lt ok D k (by omega)
    have hle := bt1_le D k
    have keep : bt1 (sumF (fun d => bt1 D d * hb hh d) 0 k) h = 1 → ∃ d, d < k + 1 ∧ bt1 D d = 1 ∧ hh d = h := fun z => by
      obtain ⟨d, d1, d2, d3⟩ := ih (by omega) z
      exact ⟨d, by omega, d2, d3⟩
    by_cases z : bt1 D k = 1
    · rw [z, Nat.one_mul] at e
      unfold hb at e
      rcases ok k (by omega) with q | q
      · rw [if_pos q.1, Nat.add_zero] at e
        exact keep e
      · rw [if_neg (by omega)] at e
        have p1 : 2 ^ (4 * k) ≤ 2 ^ hh k := Nat.pow_le_pow_right (by decide) q.1
        have b0 : bt1 (sumF (fun d => bt1 D d * (if hh d = 999 then 0 else 2 ^ hh d)) 0 k) (hh k) = 0 := by
          show _ / 2 ^ hh k % 2 = 0
          have hl2 : sumF (fun d => bt1 D d * (if hh d = 999 then 0 else 2 ^ hh d)) 0 k < 2 ^ (4 * k) := hl
          rw [Nat.div_eq_of_lt (by omega)]
        rw [bt1_add b0] at e
        by_cases y : h = hh k
        · exact ⟨k, by omega, z, y.symm⟩
        · rw [if_neg y] at e
          exact keep e
    · rw [show bt1 D k = 0 by omega, Nat.zero_mul, Nat.add_zero] at e
      exact keep e
theorem bestD_mem (hW : WB t) {lt w K : Nat} (hw : w < t 1) {x : Nat × Nat} (ex : bestD t lt w K 0 none = some x) : ∃ E, csD (dv t lt w) E < 100000 ∧ x = (csD (dv t lt w) E, bsD (dh t lt w) E) := by
  have h0 : bP 0 (t (153 + 6 * w + 2)) (dh t lt w) (dv t lt w) none := fun E hE => absurd hE (Nat.not_lt_zero _)
  have h1 := bestD_P (lt := lt) hW hw K 0 none h0
  rw [ex] at h1
  obtain ⟨⟨E, a1, a2, a3, a4⟩, -⟩ := h1
  exact ⟨E, a3, a4⟩
theorem one_feas (hW : WB t) {lt w : Nat} (hw : w < t 1) : fsb t lt w (one t lt w) := by
  unfold one
  by_cases e : (t (153 + 6 * w + 1)) = 0
  · rw [if_pos e]
    exact fsb_R _ _ _ (fun x q => by cases q)
  · rw [if_neg e]
    intro x ex h hh hb
    obtain ⟨E, a3, a4⟩ := bestD_mem hW hw ex
    rw [a4] at hb
    obtain ⟨d, d1, d2, d3⟩ := bt_D (dR_2 (lt := lt) hW hw) 7 (Nat.le_refl _) hb
    rcases dR_g (lt := lt) (d := d) hW hw with q | q
    · have := far_of (dR_2 (lt := lt) hW hw) d1 d2 q.1
      omega
    · have q4 := q.2.2.2.1
      have e3 : (dR t lt w d).1 = h := d3
      rw [e3] at q4
      exact ⟨_, q4⟩
theorem osum_some {f : Nat → Option Nat} : ∀ (k i v : Nat), osumF f i k = some v → ∀ j, i ≤ j → j < i + k → ∃ x, f j = some x := by
  intro k
  induction k with
  | zero => intro i v _ j h1 h2; omega
  | succ k ih =>
    intro i v e j h1 h2
    unfold osumF at e
    cases e1 : f i with
    | none => rw [e1] at e; simp at e
    | some x =>
      rw [e1] at e
      cases e2 : osumF f (i + 1) k with
      | none => rw [e2] at e; simp at e
      | some y =>
        by_cases z : j = i
        · subst z; exact ⟨x, e1⟩
        · exact ih (i + 1) y e2 j (by omega) (by omega)
theorem hC_part {lt w h p v : Nat} (e : hC t lt w h = some v) (hp : hasP t h p = true) : ∃ x, pC t lt w p h = some x := by
  obtain ⟨i, hi, rfl⟩ := hasP_iff.mp hp
  exact osum_some _ _ _ e i (Nat.zero_le _) (by omega)
def shV (t : Nat → Nat) (w p h : Nat) : Nat := if obits (one t 999 w) / 2 ^ h % 2 = 1 ∧ hasP t h p = true then (pC t 999 w p h).getD 0 else 0
theorem shF_N (hW : WB t) {w p h : Nat} (hw : w < t 1) (hp : p < t 0) (hh : h < 28) : shF t w p h = nI (shV t w p h) ∧ shV t w p h ≤ 27 := by
  unfold shF shV
  by_cases e : obits (one t 999 w) / 2 ^ h % 2 = 1 ∧ hasP t h p = true
  · rw [if_pos e, if_pos e]
    have hf := one_feas (lt := 999) hW hw
    cases eo : one t 999 w with
    | none => rw [eo] at e; exact absurd e.1 (by show ¬ (0 / 2 ^ h % 2 = 1); rw [Nat.zero_div]; decide)
    | some x =>
      rw [eo] at e
      obtain ⟨v, hv⟩ := hf x eo h hh e.1
      obtain ⟨y, hy⟩ := hC_part hv e.2
      have := pC_le hW hw hp hh hy
      rw [hy]
      exact ⟨rfl, this⟩
  · rw [if_neg e, if_neg e]
    exact ⟨rfl, by omega⟩
theorem iS_N (hW : WB t) {w p : Nat} (hw : w < t 1) (hp : p < t 0) : ∀ (k h b : Nat), h + k ≤ 28 → iS (shF t w p) k h (nI b) = nI (b + sumF (shV t w p) h k) := by
  intro k
  induction k with
  | zero => intro h b _; rfl
  | succ k ih =>
    intro h b hh
    simp only [iS]
    rw [(shF_N hW hw hp (by omega)).1, nI_add, ih (h + 1) _ (by omega)]
    simp only [sumF, Nat.add_assoc]
def wN (t : Nat → Nat) (p w : Nat) : Nat := if (t (153 + 6 * w)) = p ∨ ntO (one t 999 w) (t (153 + 6 * w + 4)) = 999 then 0 else sumF (shV t w p) 0 28
theorem wN_le (hW : WB t) {w p : Nat} (hw : w < t 1) (hp : p < t 0) : wN t p w ≤ 756 := by
  unfold wN
  split
  · omega
  · exact sumF_le (B := 27) 28 0 (fun h _ hh => (shF_N hW hw hp (by omega)).2)
theorem wS_N (hW : WB t) {p : Nat} (hp : p < t 0) : ∀ (k w b : Nat), w + k ≤ t 1 → wS t p k w (nI b) = nI (b + sumF (wN t p) w k) := by
  intro k
  induction k with
  | zero => intro w b _; rfl
  | succ k ih =>
    intro w b hw
    simp only [wS]
    have e : (if (t (153 + 6 * w)) = p ∨ ntO (one t 999 w) (t (153 + 6 * w + 4)) = 999 then nI b else iS (shF t w p) 28 0 (nI b)) = nI (b + wN t p w) := by
      unfold wN
      split
      · rw [Nat.add_zero]
      · exact iS_N hW (by omega) hp 28 0 b (by omega)
    rw [e, ih (w + 1) _ (by omega)]
    simp only [sumF, Nat.add_assoc]
/-- what a holder earns -/
def ern (t : Nat → Nat) (p : Nat) : Nat := sumF (wN t p) 0 (t 1)
theorem ern_lt (hW : WB t) {p : Nat} (hp : p < t 0) : ern t p ≤ 4536 := by
  have := hW.w0
  have h := sumF_le (f := wN t p) (B := 756) (t 1) 0 (fun w _ hw => wN_le hW (by omega) hp)
  have : t 1 * 756 ≤ 6 * 756 := Nat.mul_le_mul_right _ this
  unfold ern
  omega
theorem wS_e (hW : WB t) {p : Nat} (hp : p < t 0) : wS t p (t 1) 0 0 = nI (ern t p) := by
  have := wS_N hW hp (t 1) 0 0 (by omega)
  rw [Nat.zero_add] at this
  exact this
end Feas
