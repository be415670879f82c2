/-! the start -/
def tS : Nat → Nat := fun i => if i = 3 then 999 else if 5 ≤ i ∧ i ≤ 8 then 100 else if 121 ≤ i ∧ i < 153 ∧ i % 4 = 0 then 999 else 0
def sS : aSt := (tS, 0, fun _ => 0, 0, fun _ => 0, fun _ => 0, none)
set_option maxRecDepth 100000 in
theorem tS_ok : tS 0 = 0 ∧ tS 1 = 0 ∧ tS 2 = 0 ∧ tS 3 = 999 ∧ tS 4 = 0 ∧ (∀ k, k < 4 → tS (5 + k) = 100) ∧ (∀ h, h < 28 → tS (9 + 4 * h) = 0) ∧ (∀ p, p < 8 → tS (121 + 4 * p + 3) = 999) ∧ (∀ i, i < 189 → tS i < 1000) := by decide +kernel
theorem SI_start : SI sS := by
  obtain ⟨h0, h1, h2, h3, h4, h5, h6, h7, h8⟩ := tS_ok
  refine ⟨⟨⟨?_, ?_, ?_, Or.inr h3, ?_, fun k hk => ?_, fun h hh => ?_, fun h i hh hi => ?_, fun p hp => ?_, fun w hw => ?_, h8⟩, fun h i j hh hi hj => ?_, fun p hp => ?_, fun p _ hp => h7 p hp⟩, Nat.zero_le _, fun i hi => absurd hi (Nat.not_lt_zero _), Nat.zero_le _, fun i hi => absurd hi (Nat.not_lt_zero _), fun t e => by cases e⟩
  · show tS 0 ≤ 8; omega
  · show tS 1 ≤ 6; omega
  · show tS 2 < 2 ^ tS 0; rw [h0, h2]; decide
  · show tS 4 ≤ 9; omega
  · show tS (5 + k) ≤ 300; rw [h5 k hk]; decide
  · show tS (9 + 4 * h) ≤ 3; rw [h6 h hh]; decide
  · have hi : i < tS (9 + 4 * h) := hi
    rw [h6 h hh] at hi; omega
  · have hp : p < tS 0 := hp
    omega
  · have hw : w < tS 1 := hw
    omega
  · have hj : j < tS (9 + 4 * h) := hj
    rw [h6 h hh] at hj; omega
  · have hp : p < tS 0 := hp
    omega
set_option maxRecDepth 100000 in
theorem x_start : mStart 1 0 = nI (tS 0) ∧ mStart 1 1 = nI (tS 1) ∧ mStart 1 2 = nI (tS 2) ∧ mStart 1 3 = dc (tS 3) ∧ mStart 1 4 = nI (tS 4) ∧ (∀ p, p < 8 → ∀ k, k < 3 → mStart (3 + p) k = dc (tS (121 + 4 * p + k))) ∧ (∀ p, p < 8 → mStart 12 p = dc (tS (121 + 4 * p + 3))) ∧ (∀ h, h < 28 → mStart 13 h = nI (tS (9 + 4 * h))) ∧ (∀ w, w < 6 → ∀ k, k < 6 → mStart (44 + w) k = dc (tS (153 + 6 * w + k))) ∧ (∀ k, k < 4 → mStart 50 k = nI (tS (5 + k))) ∧ (∀ p, p < 8 → mStart 11 p = nI (hMk tS p)) ∧ mStart 151 0 = nI 0 ∧ mStart 184 3 = nI 0 ∧ (∀ k, k < 7 → mStart 186 k = 0) ∧ mStart 0 3 = 0 := by decide +kernel
set_option maxRecDepth 100000 in
theorem m_start : (∀ i, i < 189 → mStart 189 i = dc (tS i)) ∧ mStart 187 10 = dc 999 ∧ mStart 187 8 = nI 0 ∧ mStart 187 21 = nI 0 ∧ (∀ k, k < 7 → mStart 188 k = 0) ∧ mStart 187 5 = 0 := by decide +kernel
theorem XI_start : XI sS mStart := by
  obtain ⟨a1, a2, a3, a4, a5, a6, a7, a8, a9, a10, a11, a12, a13, a14, a15⟩ := x_start
  obtain ⟨h0, h1, h2, h3, h4, h5, h6, h7, h8⟩ := tS_ok
  refine ⟨⟨a1, a2, a3, a4, a5, fun p k hp hk => a6 p hp k hk, a7, a8, fun h i hh hi => ?_, fun w k hw hk => a9 w hw k hk, a10, a11⟩, ⟨a12, fun i hi => absurd hi (Nat.not_lt_zero _)⟩, ⟨a13, fun i hi => absurd hi (Nat.not_lt_zero _)⟩, fun k _ hk => a14 k (by omega), a15⟩
  have hi : i < tS (9 + 4 * h) := hi
  rw [h6 h hh] at hi; omega
theorem MI_start : MI sS mStart := by
  obtain ⟨a1, a2, a3, a4, a5, a6⟩ := m_start
  exact ⟨a1, a2, ⟨a3, fun i hi => absurd hi (Nat.not_lt_zero _)⟩, ⟨a4, fun i hi => absurd hi (Nat.not_lt_zero _)⟩, fun k _ hk => a5 k (by omega), a6⟩
theorem law_pure (V : eV) (hL : vN V ≤ 256) : ∃ q, f_L_law_L18 V fU 0 mStart = some (.inr q) := law_loop hL 64 fU 0 sS mStart (by omega) (by decide) (by decide) SI_start XI_start MI_start
