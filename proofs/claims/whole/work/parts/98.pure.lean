theorem law_pure (V : eV) (hL : vN V ≤ 256) : ∃ q, f_L_law_L18 V fU 0 mStart = some (.inr q) := sorry
