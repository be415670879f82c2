/-! town: both passes -/
def bdc (c : Nat) : Nat := if c = 75 then 6 else if c = 82 then 1 else if c = 78 then 99 else 9
section Town
variable {N : Nat} {f : Nat → Nat}
theorem vl_b {c v u : Nat} (e : vl c v = some u) (hc : c = 75 ∨ c = 82 ∨ c = 68) : u ≤ bdc c := by
  rcases hc with q | q | q
  · subst q
    have e : kdc v = some u := e
    unfold kdc at e
    repeat' split at e
    all_goals first | (cases e; decide) | cases e
  · subst q
    have e : (if v = 115 then some 1 else if v = 114 then some 0 else none) = some u := e
    repeat' split at e
    all_goals first | (cases e; decide) | cases e
  · have := vl_lt e
    subst q; exact this
theorem it_b {c i v i' : Nat} (e : it N f c i = some (v, i')) : i + 1 ≤ i' ∧ i' ≤ i + 2 ∧ v ≤ 99 ∧ (c = 75 ∨ c = 82 ∨ c = 68 → v ≤ bdc c) := by
  unfold it at e
  cases e1 : va N f c i with
  | none => rw [e1] at e; cases e
  | some u =>
    rw [e1] at e
    have hu := va_lt e1
    have hb : c = 75 ∨ c = 82 ∨ c = 68 → u ≤ bdc c := fun hc => by
      unfold va at e1
      cases z : sg N f i with
      | none => rw [z] at e1; cases e1
      | some x => rw [z] at e1; exact vl_b e1 hc
    have e : (if c = 78 then (match va N f 68 (i + 1) with | none => some (u, i + 1) | some u' => some (u * 10 + u', i + 1 + 1)) else some (u, i + 1)) = some (v, i') := e
    by_cases z : c = 78
    · rw [if_pos z] at e
      cases e2 : va N f 68 (i + 1) with
      | none => rw [e2] at e; cases e; exact ⟨by omega, by omega, by omega, fun hc => by omega⟩
      | some y =>
        rw [e2] at e
        have hy := va_lt e2
        cases e
        exact ⟨by omega, by omega, by omega, fun hc => by omega⟩
    · rw [if_neg z] at e; cases e; exact ⟨by omega, by omega, by omega, hb⟩
theorem prI_b {fi : Nat} : ∀ (k j i : Nat) (g : Nat → Nat) (i' : Nat) (g' : Nat → Nat), prI N f fi k j i g = .inr (i', g') → i + k ≤ i' ∧ i' ≤ i + 2 * k ∧ (∀ y, y < cn fi j → g' y = g y) ∧ ((∀ y, g y ≤ 99) → ∀ y, g' y ≤ 99) ∧ ∀ j', j ≤ j' → j' < j + k → (Fc fi j' = 75 ∨ Fc fi j' = 82 ∨ Fc fi j' = 68) → g' (cn fi j') ≤ bdc (Fc fi j') := by
  intro k
  induction k with
  | zero => intro j i g i' g' e; cases e; exact ⟨Nat.le_refl _, by omega, fun _ _ => rfl, fun h => h, fun j' h1 h2 => by omega⟩
  | succ k ih =>
    intro j i g i' g' e
    simp only [prI] at e
    cases e1 : it N f (Fc fi j) i with
    | none => rw [e1] at e; cases e
    | some x =>
      obtain ⟨v, i1⟩ := x
      rw [e1] at e
      obtain ⟨b1, b2, b3, b4⟩ := it_b e1
      obtain ⟨a1, a2, a3, a4, a5⟩ := ih (j + 1) i1 _ i' g' e
      have ec : cn fi (j + 1) = cn fi j + b2n (cap (Fc fi j)) := rfl
      refine ⟨by omega, by omega, fun y hy => ?_, fun hg => a4 (fun y => ?_), fun j' h1 h2 hc => ?_⟩
      · rw [a3 y (by omega)]
        split
        · unfold uG; rw [if_neg (by omega)]
        · rfl
      · split
        · unfold uG; split
          · exact b3
          · exact hg y
        · exact hg y
      · by_cases z : j' = j
        · subst z
          have hcap : cap (Fc fi j') = true := by rcases hc with q | q | q <;> rw [q] <;> rfl
          rw [hcap] at ec
          have ec : cn fi (j' + 1) = cn fi j' + 1 := ec
          rw [a3 (cn fi j') (by omega), if_pos hcap]
          unfold uG
          rw [if_pos rfl]
          exact b4 hc
        · exact a5 j' (by omega) (by omega) hc
theorem stm_ok {i i' : Nat} {g : Nat → Nat} (e : stm N f i = .inr (i', g)) : ∃ v, sg N f i = some v ∧ (v = 112 ∨ v = 104 ∨ v = 119) ∧ cn (fmI (sg N f i)) (Ln (fmI (sg N f i))) = (if v = 119 then 6 else 3) ∧ i + 5 ≤ i' ∧ i' ≤ i + 22 ∧ (∀ y, g y ≤ 99) ∧ (v = 112 → g 0 ≤ 6 ∧ g 1 ≤ 9 ∧ g 2 ≤ 9) ∧ (v = 119 → g 1 ≤ 1 ∧ g 5 ≤ 9) := by
  unfold stm at e
  cases z : sg N f i with
  | none =>
    rw [z] at e
    have hi : it N f 112 i = none := by unfold it va; rw [z]
    have e : prI N f 2 5 0 i (fun _ => 0) = .inr (i', g) := e
    simp only [prI] at e
    rw [show Fc 2 0 = 112 from rfl, hi] at e
    cases e
  | some v =>
    rw [z] at e
    by_cases e1 : v = 104
    · subst e1
      have e : prI N f 0 6 0 i (fun _ => 0) = .inr (i', g) := e
      obtain ⟨a1, a2, a3, a4, a5⟩ := prI_b 6 0 i _ i' g e
      exact ⟨104, rfl, Or.inr (Or.inl rfl), rfl, by omega, by omega, a4 (fun _ => by omega), fun h => by omega, fun h => by omega⟩
    · by_cases e2 : v = 119
      · subst e2
        have e : prI N f 1 11 0 i (fun _ => 0) = .inr (i', g) := e
        obtain ⟨a1, a2, a3, a4, a5⟩ := prI_b 11 0 i _ i' g e
        exact ⟨119, rfl, Or.inr (Or.inr rfl), rfl, by omega, by omega, a4 (fun _ => by omega), fun h => by omega, fun _ => ⟨a5 2 (by omega) (by omega) (Or.inr (Or.inl rfl)), a5 9 (by omega) (by omega) (Or.inr (Or.inr rfl))⟩⟩
      · have hf : fmI (some v) = 2 := by
          show (if v = 104 then 0 else if v = 119 then 1 else 2) = 2
          rw [if_neg e1, if_neg e2]
        rw [hf] at e ⊢
        have e : prI N f 2 5 0 i (fun _ => 0) = .inr (i', g) := e
        have e3 : v = 112 := by
          refine Classical.byContradiction (fun n => ?_)
          have hi : it N f 112 i = none := by
            unfold it va; rw [z]
            show (match vl 112 v with | none => none | some v => _) = _
            rw [show vl 112 v = if v = 112 then some 0 else none from rfl, if_neg n]
          simp only [prI] at e
          rw [show Fc 2 0 = 112 from rfl, hi] at e
          cases e
        subst e3
        obtain ⟨a1, a2, a3, a4, a5⟩ := prI_b 5 0 i _ i' g e
        exact ⟨112, rfl, Or.inl rfl, rfl, by omega, by omega, a4 (fun _ => by omega), fun _ => ⟨a5 1 (by omega) (by omega) (Or.inl rfl), a5 2 (by omega) (by omega) (Or.inr (Or.inr rfl)), a5 3 (by omega) (by omega) (Or.inr (Or.inr rfl))⟩, fun h => by omega⟩
def p1s (S : Nat ⊕ (Nat × (Nat → Nat))) (K : Nat × (Nat → Nat) → Nat ⊕ Nat) : Nat ⊕ Nat := match S with
  | .inl p => .inl p
  | .inr x => K x
def ps1 (N : Nat) (f : Nat → Nat) : Nat → Nat → Nat → Nat ⊕ Nat
  | 0, _, c => .inr c
  | k + 1, i, c => p1s (stm N f i) (fun x => if x.1 < N then ps1 N f k x.1 (c + 1) else .inr (c + 1))
def p2o (i : Nat) (o : Option (Nat → Nat)) (R : (Nat → Nat) → Nat ⊕ (Nat × (Nat → Nat))) : Nat ⊕ (Nat × (Nat → Nat)) := match o with
  | none => .inl i
  | some T' => R T'
def p2s (i : Nat) (S : Nat ⊕ (Nat × (Nat → Nat))) (K : Nat × (Nat → Nat) → Nat ⊕ (Nat × (Nat → Nat))) : Nat ⊕ (Nat × (Nat → Nat)) := match S with
  | .inl _ => .inl i
  | .inr x => K x
def ps2 (N : Nat) (f : Nat → Nat) : Nat → Nat → Nat → (Nat → Nat) → Nat ⊕ (Nat × (Nat → Nat))
  | 0, _, c, T => .inr (c, T)
  | k + 1, i, c, T => if N ≤ i then .inr (c, T) else p2s i (stm N f i) (fun x => p2o i (tl (f i) x.2 T) (fun T' => ps2 N f k x.1 (c + 1) T'))
theorem prI_l {fi : Nat} : ∀ (k j i : Nat) (g : Nat → Nat) (p : Nat), prI N f fi k j i g = .inl p → p ≤ i + 2 * k := by
  intro k
  induction k with
  | zero => intro j i g p e; cases e
  | succ k ih =>
    intro j i g p e
    simp only [prI] at e
    cases e1 : it N f (Fc fi j) i with
    | none => rw [e1] at e; cases e; omega
    | some x =>
      obtain ⟨v, i1⟩ := x
      rw [e1] at e
      obtain ⟨b1, b2, b3, b4⟩ := it_b e1
      have := ih (j + 1) i1 _ p e
      omega
theorem stm_l {i p : Nat} (e : stm N f i = .inl p) : p ≤ i + 22 := by
  have := prI_l _ _ _ _ _ e
  have := (form_l _ (fmI_lt (sg N f i))).2
  omega
theorem m1m {p : Nat} : (-1 : Int32) - ((-1 : Int32) - nI p) = nI p := by
  rw [← jI_n, show (-1 : Int32) = jI (-1) from rfl, jI_sub, jI_sub]
  exact congrArg jI (by omega)
theorem m1n {p : Nat} (hp : p < 1000) : ¬ (0 : Int32) ≤ (-1 : Int32) - nI p := by
  rw [← jI_n, show (-1 : Int32) = jI (-1) from rfl, jI_sub, show (0 : Int32) = jI 0 from rfl, jI_le (by omega) (by omega) (by omega) (by omega)]
  omega
def x1 (r : Nat ⊕ Nat) (m' : mM) : (Int32 × mM) ⊕ mM := match r with
  | .inl p => .inl ((-1000 : Int32) - nI p, m')
  | .inr _ => .inr m'
theorem X_ff (hN : TS N f) : ∀ (k n i c : Nat) (m : mM), N ≤ i + k → k < n → (i < N ∨ (c = 0 ∧ 0 < k)) → c ≤ i → i < 100 → TX N f m → ∃ m', f_X6_formFault_L4 n (nI i) (nI c) m = some (x1 (ps1 N f k i c) m') ∧ ∀ a x, a ≠ 153 → m' a x = m a x := by
  have h64 := hN.1
  intro k
  induction k with
  | zero => intro n i c m h1 h2 h3; omega
  | succ k ih =>
    intro n i c m h1 h2 h3 h4 h5 hT
    obtain ⟨n, rfl⟩ : ∃ z, n = z + 1 := ⟨n - 1, by omega⟩
    obtain ⟨m1, r1, r2, r3⟩ := X_read hN hT (show i < 800 by omega)
    have hT1 : TX N f m1 := ⟨(r3 151 0 (by decide)).trans hT.1, fun x hx => (r3 152 x (by decide)).trans (hT.2 x hx)⟩
    simp only [ps1]
    generalize hs : stm N f i = S at r1 r2 ⊢
    have st : ∀ r, (if 0 ≤ xs S then f_X6_formFault_L4 n (xs S) (nI c + (1 : Int32)) m1 else some (Sum.inl (((-1000 : Int32) - ((-1 : Int32) - xs S)), m1))) = r → f_X6_formFault_L4 (n + 1) (nI i) (nI c) m = r := fun r hr => by
      rw [f_X6_formFault_L4]
      refine (if_neg (nI_ge (b := 64) (by omega) (by decide))).trans ?_
      rw [hT.1]
      by_cases z : i < N
      · refine (if_pos (nI_lt z (by omega))).trans ?_
        refine (bnd_of r1).trans ?_
        exact hr
      · refine (if_neg (nI_nlt (by omega) (by omega))).trans ?_
        refine (if_pos (nIq (b := 0) (by omega))).trans ?_
        refine (bnd_of r1).trans ?_
        exact hr
    cases S with
    | inl p =>
      have hp := stm_l hs
      refine ⟨m1, st _ ?_, r3⟩
      refine (if_neg (m1n (p := p) (by omega))).trans ?_
      show some (Sum.inl ((-1000 : Int32) - ((-1 : Int32) - ((-1 : Int32) - nI p)), m1)) = _
      rw [m1m]; rfl
    | inr x =>
      obtain ⟨i1, g⟩ := x
      obtain ⟨v, q1, q2, q3, q4, q5, q6⟩ := stm_ok hs
      have pe : p1s (.inr (i1, g)) (fun x => if x.1 < N then ps1 N f k x.1 (c + 1) else .inr (c + 1)) = if i1 < N then ps1 N f k i1 (c + 1) else .inr (c + 1) := rfl
      rw [pe]
      by_cases z : i1 < N
      · rw [if_pos z]
        obtain ⟨m2, j1, j2⟩ := ih n i1 (c + 1) m1 (by omega) (by omega) (Or.inl z) (by omega) (by omega) hT1
        refine ⟨m2, st _ ?_, fun a x q => (j2 a x q).trans (r3 a x q)⟩
        refine (if_pos (show (0 : Int32) ≤ nI i1 from nI_pos' (by omega))).trans ?_
        rw [nI_1]; exact j1
      · rw [if_neg z]
        obtain ⟨n, rfl⟩ : ∃ z, n = z + 1 := ⟨n - 1, by omega⟩
        refine ⟨m1, st _ ?_, r3⟩
        refine (if_pos (show (0 : Int32) ≤ nI i1 from nI_pos' (by omega))).trans ?_
        show f_X6_formFault_L4 (n + 1) (nI i1) (nI c + 1) m1 = _
        rw [nI_1, f_X6_formFault_L4]
        by_cases y : 64 ≤ c + 1
        · exact (if_pos (nI_le (a := 64) y (by omega))).trans rfl
        · refine (if_neg (nI_ge (b := 64) (by omega) (by decide))).trans ?_
          rw [hT1.1]
          refine (if_neg (nI_nlt (by omega) (by omega))).trans ?_
          exact (if_neg (nIn (b := 0) (by omega) (by omega) (by omega))).trans rfl
def y1 (r : Nat ⊕ Nat) (m' : mM) : (Int32 × mM) ⊕ (Int32 × mM) := match r with
  | .inl p => .inl ((-1000 : Int32) - nI p, m')
  | .inr c => .inr (nI c, m')
theorem M_r7 (hN : TS N f) : ∀ (k n i c : Nat) (m : mM), N ≤ i + k → k < n → (i < N ∨ 0 < k) → i < 100 → MT N f i m → ∃ m', f_X9_reads_L7 n (nI c) m = some (y1 (ps1 N f k i c) m') ∧ tF m m' := by
  have h64 := hN.1
  intro k
  induction k with
  | zero => intro n i c m h1 h2 h3; omega
  | succ k ih =>
    intro n i c m h1 h2 h3 h5 hT
    obtain ⟨n, rfl⟩ : ∃ z, n = z + 1 := ⟨n - 1, by omega⟩
    obtain ⟨b, m1, r1, r2, r3⟩ := M_read hN hT (show i < 800 by omega)
    simp only [ps1]
    generalize hs : stm N f i = S at r3 ⊢
    cases S with
    | inl p =>
      obtain ⟨rfl, t1⟩ := r3
      refine ⟨m1, ?_, r2⟩
      rw [f_X9_reads_L7]
      refine (bnd_of r1).trans ?_
      refine (if_pos rfl).trans ?_
      show some (Sum.inl ((-1000 : Int32) - m1 187 9, m1)) = _
      rw [t1]; rfl
    | inr x =>
      obtain ⟨i1, g⟩ := x
      obtain ⟨rfl, t1, t2⟩ := r3
      have t1 : m1 187 9 = nI i1 := t1
      obtain ⟨v, q1, q2, q3, q4, q5, q6⟩ := stm_ok hs
      have hT1 := hT.tf r2 t1
      have pe : p1s (.inr (i1, g)) (fun x => if x.1 < N then ps1 N f k x.1 (c + 1) else .inr (c + 1)) = if i1 < N then ps1 N f k i1 (c + 1) else .inr (c + 1) := rfl
      rw [pe]
      have st : ∀ r, (if m1 187 9 < m1 187 8 then f_X9_reads_L7 n (nI c + (1 : Int32)) m1 else some (Sum.inr (nI c + (1 : Int32), m1))) = r → f_X9_reads_L7 (n + 1) (nI c) m = r := fun r hr => by
        rw [f_X9_reads_L7]
        refine (bnd_of r1).trans ?_
        exact (if_neg (show ¬ (1 : Int32) = 0 by decide)).trans hr
      by_cases z : i1 < N
      · rw [if_pos z]
        obtain ⟨m2, j1, j2⟩ := ih n i1 (c + 1) m1 (by omega) (by omega) (Or.inl z) (by omega) hT1
        refine ⟨m2, st _ ?_, r2.tr j2⟩
        rw [hT1.1.1, t1]
        refine (if_pos (nI_lt z (by omega))).trans ?_
        rw [nI_1]; exact j1
      · rw [if_neg z]
        refine ⟨m1, st _ ?_, r2⟩
        rw [hT1.1.1, t1]
        refine (if_neg (nI_nlt (by omega) (by omega))).trans ?_
        rw [nI_1]; rfl
theorem tl_ok {T T' g : Nat → Nat} (hW : WT T) {v : Nat} (hv : v = 112 ∨ v = 104 ∨ v = 119) (g9 : ∀ y, g y ≤ 99) (g1 : v = 112 → g 0 ≤ 6 ∧ g 1 ≤ 9 ∧ g 2 ≤ 9) (g2 : v = 119 → g 1 ≤ 1 ∧ g 5 ≤ 9) (e : tl v g T = some T') : WT T' := by
  have h0 := hW.h0
  rcases hv with q | q | q
  · subst q
    have e : (if T 0 = 8 then none else some (hoT T g)) = some T' := e
    by_cases z : T 0 = 8
    · rw [if_pos z] at e; cases e
    · rw [if_neg z] at e; cases e
      obtain ⟨a, b, c⟩ := g1 rfl
      exact hW.ho' (by omega) a b c
  · subst q
    have e : (if g 0 < T 0 ∧ g 1 < 28 ∧ g 2 < 28 ∧ g 1 ≤ g 2 ∧ hrK T (g 0) (g 2 + 1 - g 1) (g 1) = true then some (adR (g 0) (g 2 + 1 - g 1) (g 1) T) else none) = some T' := e
    by_cases z : g 0 < T 0 ∧ g 1 < 28 ∧ g 2 < 28 ∧ g 1 ≤ g 2 ∧ hrK T (g 0) (g 2 + 1 - g 1) (g 1) = true
    · rw [if_pos z] at e; cases e
      exact (WT.adRg (g 2 + 1 - g 1) (g 1) hW (by omega) z.1 z.2.2.2.2).1
    · rw [if_neg z] at e; cases e
  · subst q
    have e : (if T 1 < 6 ∧ g 0 < T 0 ∧ g 3 < 28 ∧ 1 ≤ g 2 ∧ g 2 ≤ 6 then some (woT T g) else none) = some T' := e
    by_cases z : T 1 < 6 ∧ g 0 < T 0 ∧ g 3 < 28 ∧ 1 ≤ g 2 ∧ g 2 ≤ 6
    · rw [if_pos z] at e; cases e
      obtain ⟨a, b⟩ := g2 rfl
      exact hW.wo' z.1 z.2.1 a ⟨z.2.2.2.1, z.2.2.2.2⟩ (by omega) (g9 4) b
    · rw [if_neg z] at e; cases e
def x2 (r : Nat ⊕ (Nat × (Nat → Nat))) (m' : mM) : (Int32 × mM) ⊕ (Int32 × mM) := match r with
  | .inl p => .inl ((-2000 : Int32) - nI p, m')
  | .inr x => .inr (nI x.1, m')
def x2p (r : Nat ⊕ (Nat × (Nat → Nat))) (m' : mM) : Prop := match r with
  | .inl p => p < 100
  | .inr x => XD x.2 m' ∧ WT x.2
def y2 (r : Nat ⊕ (Nat × (Nat → Nat))) (m' : mM) : (Int32 × mM) ⊕ mM := match r with
  | .inl p => .inl ((-2000 : Int32) - nI p, m')
  | .inr _ => .inr m'
def y2p (r : Nat ⊕ (Nat × (Nat → Nat))) (m' : mM) : Prop := match r with
  | .inl _ => True
  | .inr x => MRr x.2 m'
def uF (m m' : mM) : Prop := ∀ a i, ¬ ((51 ≤ a ∧ a ≤ 100) ∨ a = 153) → m' a i = m a i
theorem uF.rf (m : mM) : uF m m := fun _ _ _ => rfl
theorem uF.tr {m m1 m2 : mM} (h1 : uF m m1) (h2 : uF m1 m2) : uF m m2 := fun a i q => (h2 a i q).trans (h1 a i q)
theorem X_tt (hN : TS N f) : ∀ (k n i c : Nat) (T : Nat → Nat) (m : mM), N ≤ i + k → k < n → c ≤ i → i < 100 → TX N f m → XD T m → WT T → ∃ m', f_X6_tellTo_L4 n (nI i) (nI c) m = some (x2 (ps2 N f k i c T) m') ∧ x2p (ps2 N f k i c T) m' ∧ uF m m' := by
  have h64 := hN.1
  intro k
  induction k with
  | zero =>
    intro n i c T m h1 h2 h3 h4 hT hX hW
    obtain ⟨n, rfl⟩ : ∃ z, n = z + 1 := ⟨n - 1, by omega⟩
    refine ⟨m, ?_, ⟨hX, hW⟩, uF.rf m⟩
    rw [f_X6_tellTo_L4, hT.1]
    exact (if_pos (nI_le (by omega) (by omega))).trans rfl
  | succ k ih =>
    intro n i c T m h1 h2 h3 h4 hT hX hW
    obtain ⟨n, rfl⟩ : ∃ z, n = z + 1 := ⟨n - 1, by omega⟩
    simp only [ps2]
    by_cases z : N ≤ i
    · rw [if_pos z]
      refine ⟨m, ?_, ⟨hX, hW⟩, uF.rf m⟩
      rw [f_X6_tellTo_L4, hT.1]
      exact (if_pos (nI_le (by omega) (by omega))).trans rfl
    · rw [if_neg z]
      obtain ⟨m1, r1, r2, r3⟩ := X_read hN hT (show i < 800 by omega)
      have f1 : uF m m1 := fun a x q => r3 a x (by omega)
      have hT1 : TX N f m1 := ⟨(r3 151 0 (by decide)).trans hT.1, fun x hx => (r3 152 x (by decide)).trans (hT.2 x hx)⟩
      have hX1 : XD T m1 := hX.cg (fun a x q => r3 a x (by omega))
      generalize hs : stm N f i = S at r1 r2 ⊢
      have st : ∀ r, (if xs S < 0 then some (Sum.inl (((-2000 : Int32) - nI i), m1)) else (bnd (rdA 152 64 (nI i) m1) fun v3 => bnd (f_X6_tellOne v3 m1) fun q5 => if q5.1 = 0 then some (Sum.inl (((-2000 : Int32) - nI i), q5.2)) else f_X6_tellTo_L4 n (xs S) (nI c + (1 : Int32)) q5.2)) = r → f_X6_tellTo_L4 (n + 1) (nI i) (nI c) m = r := fun r hr => by
        rw [f_X6_tellTo_L4, hT.1]
        refine (if_neg (nI_ge (by omega) (by omega))).trans ?_
        refine (if_neg (nI_ge (b := 64) (by omega) (by decide))).trans ?_
        refine (bnd_of r1).trans ?_
        exact hr
      cases S with
      | inl p =>
        have hp := stm_l hs
        refine ⟨m1, st _ ?_, h4, f1⟩
        refine (if_pos ?_).trans rfl
        show (-1 : Int32) - nI p < 0
        rw [← jI_n, show (-1 : Int32) = jI (-1) from rfl, jI_sub, show (0 : Int32) = jI 0 from rfl, jI_lt (by omega) (by omega) (by omega) (by omega)]
        omega
      | inr x =>
        obtain ⟨i1, g⟩ := x
        obtain ⟨v, q1, q2, q3, q4, q5, q6, q7, q8⟩ := stm_ok hs
        have hv : f i = v := by
          unfold sg at q1
          rw [if_pos (show i < N by omega)] at q1
          cases q1; rfl
        rw [q3] at r2
        have r2 : ∀ y, y < (if v = 119 then 6 else 3) → m1 153 y = nI (g y) := r2
        obtain ⟨b, m2, j1, j2, j3⟩ := X_tell hX1 hW q2 r2 (fun y _ => q6 y) (fun hv y hy => by
          obtain ⟨a1, a2, a3⟩ := q7 hv
          have : y = 0 ∨ y = 1 ∨ y = 2 := by omega
          rcases this with w | w | w <;> subst w <;> omega)
        have f2 : uF m m2 := f1.tr (fun a x q => j2 a x (by omega))
        have c152 : m1 152 i = nI v := by rw [hT1.2 i (by omega), hv]
        have pe : p2s i (.inr (i1, g)) (fun x => p2o i (tl (f i) x.2 T) (fun T' => ps2 N f k x.1 (c + 1) T')) = p2o i (tl v g T) (fun T' => ps2 N f k i1 (c + 1) T') := by rw [← hv]; rfl
        rw [pe]
        have st2 : ∀ r, (if b = 0 then some (Sum.inl (((-2000 : Int32) - nI i), m2)) else f_X6_tellTo_L4 n (nI i1) (nI c + (1 : Int32)) m2) = r → f_X6_tellTo_L4 (n + 1) (nI i) (nI c) m = r := fun r hr => st r (by
          refine (if_neg (show ¬ nI i1 < 0 from nI_pos (by omega))).trans ?_
          refine (bnd_of (rdX rfl (show i < 64 by omega) (by decide) c152)).trans ?_
          exact (bnd_of j1).trans hr)
        cases e2 : tl v g T with
        | none =>
          rw [e2] at j3
          have j3 : b = 0 := j3
          subst j3
          exact ⟨m2, st2 _ ((if_pos rfl).trans rfl), h4, f2⟩
        | some T' =>
          rw [e2] at j3
          obtain ⟨j3, j4⟩ := j3
          subst j3
          have hT2 : TX N f m2 := ⟨(j2 151 0 (by omega)).trans hT1.1, fun x hx => (j2 152 x (by omega)).trans (hT1.2 x hx)⟩
          obtain ⟨m3, k1, k2, k3⟩ := ih n i1 (c + 1) T' m2 (by omega) (by omega) (by omega) (by omega) hT2 j4 (tl_ok hW q2 q6 q7 q8 e2)
          refine ⟨m3, st2 _ ?_, k2, f2.tr k3⟩
          refine (if_neg (show ¬ (1 : Int32) = 0 by decide)).trans ?_
          rw [nI_1]; exact k1
def vvF (m m' : mM) : Prop := ∀ a i, a ≠ 191 → a ≠ 194 → ¬ (a = 187 ∧ i = 9) → m' a i = m a i
theorem vvF.rf (m : mM) : vvF m m := fun _ _ _ _ _ => rfl
theorem vvF.tr {m m1 m2 : mM} (h1 : vvF m m1) (h2 : vvF m1 m2) : vvF m m2 := fun a i x y z => (h2 a i x y z).trans (h1 a i x y z)
theorem tF.v {m m' : mM} (h : tF m m') : vvF m m' := fun a i _ y z => h a i y z
theorem eF.v {m m' : mM} (h : eF m m') : vvF m m' := fun a i x _ _ => h a i x
theorem M_r53 (hN : TS N f) {z0 : Int32} {C : Nat} : ∀ (k n i c : Nat) (T : Nat → Nat) (m : mM), N ≤ i + k → k < n → i < 100 → (i < N → ps1 N f k i c = .inr C) → MT N f i m → MRr T m → WT T → ∃ m', f_X9_reads_L53 z0 n m = some (y2 (ps2 N f k i c T) m') ∧ y2p (ps2 N f k i c T) m' ∧ vvF m m' := by
  have h64 := hN.1
  intro k
  induction k with
  | zero =>
    intro n i c T m h1 h2 h4 hok hT hM hW
    obtain ⟨n, rfl⟩ : ∃ z, n = z + 1 := ⟨n - 1, by omega⟩
    refine ⟨m, ?_, hM, vvF.rf m⟩
    rw [f_X9_reads_L53, hT.1.1, hT.2]
    exact (if_pos (nI_le (by omega) (by omega))).trans rfl
  | succ k ih =>
    intro n i c T m h1 h2 h4 hok hT hM hW
    obtain ⟨n, rfl⟩ : ∃ z, n = z + 1 := ⟨n - 1, by omega⟩
    simp only [ps2]
    by_cases z : N ≤ i
    · rw [if_pos z]
      refine ⟨m, ?_, hM, vvF.rf m⟩
      rw [f_X9_reads_L53, hT.1.1, hT.2]
      exact (if_pos (nI_le (by omega) (by omega))).trans rfl
    · rw [if_neg z]
      obtain ⟨b, m1, r1, r2, r3⟩ := M_read hN hT (show i < 800 by omega)
      have hs := M_sign hT hN (show i < 1000 by omega)
      have hk := hok (by omega)
      simp only [ps1] at hk
      generalize hS : stm N f i = S at r3 hk ⊢
      cases S with
      | inl p => cases hk
      | inr x =>
        obtain ⟨i1, g⟩ := x
        have hk : (if i1 < N then ps1 N f k i1 (c + 1) else .inr (c + 1)) = (.inr C : Nat ⊕ Nat) := hk
        obtain ⟨v, q1, q2, q3, q4, q5, q6, q7, q8⟩ := stm_ok hS
        have hv : f i = v := by
          unfold sg at q1
          rw [if_pos (show i < N by omega)] at q1
          cases q1; rfl
        rw [q3] at r3
        obtain ⟨rfl, t1, t2⟩ := r3
        have t1 : m1 187 9 = nI i1 := t1
        have t2 : ∀ y, y < (if v = 119 then 6 else 3) → m1 194 y = nI (g y) := t2
        have hM1 : MRr T m1 := fun i hi => (r2 191 i (by decide) (by omega)).trans (hM i hi)
        obtain ⟨b, m2, j1, j2, j3⟩ := M_tell hM1 hW q2 t2 (fun y _ => q6 y)
        rw [q1] at hs
        have st : ∀ r, (if b = 0 then some (Sum.inl (((-2000 : Int32) - nI i), m2)) else f_X9_reads_L53 z0 n m2) = r → f_X9_reads_L53 z0 (n + 1) m = r := fun r hr => by
          rw [f_X9_reads_L53, hT.1.1, hT.2]
          refine (if_neg (nI_ge (by omega) (by omega))).trans ?_
          refine (bnd_of hs).trans ?_
          refine (bnd_of r1).trans ?_
          exact (bnd_of j1).trans hr
        have pe : p2s i (.inr (i1, g)) (fun x => p2o i (tl (f i) x.2 T) (fun T' => ps2 N f k x.1 (c + 1) T')) = p2o i (tl v g T) (fun T' => ps2 N f k i1 (c + 1) T') := by rw [← hv]; rfl
        rw [pe]
        have f2 : vvF m m2 := r2.v.tr j2.v
        cases e2 : tl v g T with
        | none =>
          rw [e2] at j3
          have j3 : b = 0 := j3
          subst j3
          exact ⟨m2, st _ ((if_pos rfl).trans rfl), trivial, f2⟩
        | some T' =>
          rw [e2] at j3
          obtain ⟨j3, j4⟩ := j3
          subst j3
          have hT1 := hT.tf r2 t1
          have hT2 : MT N f i1 m2 := ⟨⟨(j2 187 8 (by decide)).trans hT1.1.1, fun x hx => (j2 193 x (by decide)).trans (hT1.1.2 x hx)⟩, (j2 187 9 (by decide)).trans t1⟩
          obtain ⟨m3, k1, k2, k3⟩ := ih n i1 (c + 1) T' m2 (by omega) (by omega) (by omega) (fun y => by rw [if_pos y] at hk; exact hk) hT2 j4 (tl_ok hW q2 q6 q7 q8 e2)
          exact ⟨m3, st _ ((if_neg (by decide)).trans k1), k2, f2.tr k3⟩
theorem ps12 {C : Nat} : ∀ (k i c : Nat) (T : Nat → Nat) (x : Nat × (Nat → Nat)), i < N → ps1 N f k i c = .inr C → N ≤ i + k → ps2 N f k i c T = .inr x → x.1 = C ∧ c + 1 ≤ C ∧ C ≤ c + k := by
  intro k
  induction k with
  | zero => intro i c T x hi _ hn; omega
  | succ k ih =>
    intro i c T x hi h1 hn h2
    simp only [ps1] at h1
    simp only [ps2] at h2
    rw [if_neg (by omega)] at h2
    generalize hS : stm N f i = S at h1 h2
    cases S with
    | inl p => cases h1
    | inr y =>
      obtain ⟨i1, g⟩ := y
      obtain ⟨v, q1, q2, q3, q4, q5, q6, q7, q8⟩ := stm_ok hS
      have h1 : (if i1 < N then ps1 N f k i1 (c + 1) else .inr (c + 1)) = (.inr C : Nat ⊕ Nat) := h1
      have h2 : p2o i (tl (f i) g T) (fun T' => ps2 N f k i1 (c + 1) T') = (.inr x : Nat ⊕ (Nat × (Nat → Nat))) := h2
      cases e2 : tl (f i) g T with
      | none => rw [e2] at h2; cases h2
      | some T' =>
        rw [e2] at h2
        have h2 : ps2 N f k i1 (c + 1) T' = .inr x := h2
        by_cases z : i1 < N
        · rw [if_pos z] at h1
          obtain ⟨a, b, d⟩ := ih i1 (c + 1) T' x z h1 (by omega) h2
          exact ⟨a, by omega, by omega⟩
        · rw [if_neg z] at h1
          cases h1
          have : ps2 N f k i1 (c + 1) T' = .inr (c + 1, T') := by
            cases k with
            | zero => rfl
            | succ k => simp only [ps2]; rw [if_pos (by omega)]
          rw [this] at h2
          cases h2
          exact ⟨rfl, by omega, by omega⟩
end Town
