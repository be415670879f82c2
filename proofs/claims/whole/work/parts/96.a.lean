/-! town: a statement read, the class's side -/
def sg (N : Nat) (f : Nat → Nat) (i : Nat) : Option Nat := if i < N then some (f i) else none
def kdc (v : Nat) : Option Nat := if v = 111 then some 0 else if v = 121 then some 1 else if v = 115 then some 2 else if v = 106 then some 3 else if v = 107 then some 4 else if v = 110 then some 5 else if v = 116 then some 6 else none
def vl (c v : Nat) : Option Nat := if c = 68 ∨ c = 78 then (if 48 ≤ v ∧ v ≤ 57 then some (v - 48) else none) else if c = 75 then kdc v else if c = 82 then (if v = 115 then some 1 else if v = 114 then some 0 else none) else if v = c then some 0 else none
def va (N : Nat) (f : Nat → Nat) (c i : Nat) : Option Nat := match sg N f i with
  | none => none
  | some v => vl c v
def it (N : Nat) (f : Nat → Nat) (c i : Nat) : Option (Nat × Nat) := match va N f c i with
  | none => none
  | some v => if c = 78 then (match va N f 68 (i + 1) with
    | none => some (v, i + 1)
    | some u => some (v * 10 + u, i + 1 + 1)) else some (v, i + 1)
def Fl (fi : Nat) : List Nat := if fi = 0 then [104, 68, 78, 45, 78, 59] else if fi = 1 then [119, 68, 82, 68, 44, 78, 44, 78, 44, 68, 59] else [112, 75, 68, 68, 59]
def Fc (fi j : Nat) : Nat := (Fl fi).getD j 0
def Ln (fi : Nat) : Nat := (Fl fi).length
def cap (c : Nat) : Bool := decide (65 ≤ c) && decide (c ≤ 90)
def cn (fi : Nat) : Nat → Nat
  | 0 => 0
  | j + 1 => cn fi j + b2n (cap (Fc fi j))
def uG (g : Nat → Nat) (j v : Nat) : Nat → Nat := fun x => if x = j then v else g x
def prI (N : Nat) (f : Nat → Nat) (fi : Nat) : Nat → Nat → Nat → (Nat → Nat) → Nat ⊕ (Nat × (Nat → Nat))
  | 0, _, i, g => .inr (i, g)
  | k + 1, j, i, g => match it N f (Fc fi j) i with
    | none => .inl i
    | some (v, i') => prI N f fi k (j + 1) i' (if cap (Fc fi j) = true then uG g (cn fi j) v else g)
def fmI (o : Option Nat) : Nat := match o with
  | none => 2
  | some v => if v = 104 then 0 else if v = 119 then 1 else 2
def stm (N : Nat) (f : Nat → Nat) (i : Nat) : Nat ⊕ (Nat × (Nat → Nat)) := prI N f (fmI (sg N f i)) (Ln (fmI (sg N f i))) 0 i (fun _ => 0)
def sgI (o : Option Nat) : Int32 := match o with
  | none => -1
  | some v => nI v
theorem kd_x : ∀ v, v < 256 → ixK (((nI v).toUInt32 % 65536).toInt32) = sgI (kdc v) := by
  set_option maxRecDepth 100000 in
  decide
section TapeX
variable {N : Nat} {f : Nat → Nat} {m : mM}
/-- the tape -/
def TX (N : Nat) (f : Nat → Nat) (m : mM) : Prop := m 151 0 = nI N ∧ ∀ x, x < N → m 152 x = nI (f x)
def TS (N : Nat) (f : Nat → Nat) : Prop := N ≤ 64 ∧ ∀ x, x < N → f x < 256
theorem X_sign (hT : TX N f m) (hN : TS N f) {i : Nat} (hi : i < 1000) : f_X6_signAt (nI i) m = some (sgI (sg N f i)) := by
  have h64 := hN.1
  unfold f_X6_signAt sg
  refine (if_neg (nI_pos (by omega))).trans ?_
  rw [hT.1]
  by_cases e : i < N
  · refine (if_neg (nI_ge e (by omega))).trans ?_
    rw [if_pos e]
    exact (bnd_of (rdX rfl (show i < 64 by omega) (by decide) (hT.2 i e))).trans rfl
  · refine (if_pos (nI_le (by omega) (by omega))).trans ?_
    rw [if_neg e]; rfl
theorem sg_lt (hN : TS N f) {i v : Nat} (e : sg N f i = some v) : v < 256 := by
  unfold sg at e
  split at e
  · cases e; rename_i h; exact hN.2 _ h
  · cases e
theorem X_form (hT : TX N f m) (hN : TS N f) {i : Nat} (hi : i < 1000) : f_X6_formAt (nI i) m = some (fmI (sg N f i)) := by
  unfold f_X6_formAt
  refine (bnd_of (X_sign hT hN hi)).trans ?_
  cases e : sg N f i with
  | none => exact (if_neg (by decide)).trans (if_neg (by decide))
  | some v =>
    have hv := sg_lt hN e
    show (if nI v = 104 then _ else _) = some (if v = 104 then 0 else if v = 119 then 1 else 2)
    by_cases e1 : v = 104
    · rw [if_pos e1]; exact if_pos (nIq (b := 104) e1)
    · rw [if_neg e1]
      refine (if_neg (nIn (b := 104) (by omega) (by omega) e1)).trans ?_
      by_cases e2 : v = 119
      · rw [if_pos e2]; exact if_pos (nIq (b := 119) e2)
      · rw [if_neg e2]; exact if_neg (nIn (b := 119) (by omega) (by omega) e2)
theorem X_digit {v : Nat} (hv : v < 256) : (if nI v < (48 : Int32) then some (-1 : Int32) else if (57 : Int32) < nI v then some (-1 : Int32) else some (nI v - 48)) = some (sgI (if 48 ≤ v ∧ v ≤ 57 then some (v - 48) else none)) := by
  by_cases e1 : v < 48
  · rw [if_neg (show ¬ (48 ≤ v ∧ v ≤ 57) by omega)]
    exact if_pos (nI_lt (b := 48) e1 (by decide))
  · refine (if_neg (nI_nlt (b := 48) (by omega) (by omega))).trans ?_
    by_cases e2 : 57 < v
    · rw [if_neg (show ¬ (48 ≤ v ∧ v ≤ 57) by omega)]
      exact if_pos (nI_lt (a := 57) e2 (by omega))
    · rw [if_pos (show 48 ≤ v ∧ v ≤ 57 by omega)]
      refine (if_neg (nI_nlt (a := 57) (by omega) (by decide))).trans ?_
      exact congrArg some (pk_sub (b := 48) (by omega))
theorem X_val (hT : TX N f m) (hN : TS N f) {i c : Nat} (hi : i < 1000) (hc : c < 256) : f_X6_valueAt (nI i) (nI c) m = some (sgI (va N f c i)) := by
  unfold f_X6_valueAt va
  refine (bnd_of (X_sign hT hN hi)).trans ?_
  cases e : sg N f i with
  | none => exact if_neg (by decide)
  | some v =>
    have hv := sg_lt hN e
    refine (if_pos (show (0 : Int32) ≤ nI v from nI_pos' (by omega))).trans ?_
    show _ = some (sgI (vl c v))
    unfold vl
    by_cases c1 : c = 68
    · rw [if_pos (Or.inl c1)]
      exact (if_pos (nIq (b := 68) c1)).trans (X_digit hv)
    · refine (if_neg (nIn (b := 68) (by omega) (by omega) c1)).trans ?_
      by_cases c2 : c = 75
      · rw [if_neg (show ¬ (c = 68 ∨ c = 78) by omega), if_pos c2]
        refine (if_pos (nIq (b := 75) c2)).trans ?_
        exact congrArg some (kd_x v hv)
      · refine (if_neg (nIn (b := 75) (by omega) (by omega) c2)).trans ?_
        by_cases c3 : c = 78
        · rw [if_pos (Or.inr c3)]
          exact (if_pos (nIq (b := 78) c3)).trans (X_digit hv)
        · refine (if_neg (nIn (b := 78) (by omega) (by omega) c3)).trans ?_
          rw [if_neg (show ¬ (c = 68 ∨ c = 78) by omega), if_neg c2]
          by_cases c4 : c = 82
          · rw [if_pos c4]
            refine (if_pos (nIq (b := 82) c4)).trans ?_
            by_cases e1 : v = 115
            · rw [if_pos e1]; exact if_pos (nIq (b := 115) e1)
            · rw [if_neg e1]
              refine (if_neg (nIn (b := 115) (by omega) (by omega) e1)).trans ?_
              by_cases e2 : v = 114
              · rw [if_pos e2]; exact if_pos (nIq (b := 114) e2)
              · rw [if_neg e2]; exact if_neg (nIn (b := 114) (by omega) (by omega) e2)
          · rw [if_neg c4]
            refine (if_neg (nIn (b := 82) (by omega) (by omega) c4)).trans ?_
            by_cases e1 : v = c
            · rw [if_pos e1]; exact if_pos (nIq e1)
            · rw [if_neg e1]; exact if_neg (nIn (by omega) (by omega) e1)
theorem vl_lt {c v u : Nat} (e : vl c v = some u) : u ≤ 9 := by
  unfold vl kdc at e
  split at e
  · split at e
    · cases e; omega
    · cases e
  · split at e
    · repeat' split at e
      all_goals first | (cases e; omega) | cases e
    · split at e
      · repeat' split at e
        all_goals first | (cases e; omega) | cases e
      · split at e
        · cases e; omega
        · cases e
theorem va_lt {c i u : Nat} (e : va N f c i = some u) : u ≤ 9 := by
  unfold va at e
  split at e
  · cases e
  · exact vl_lt e
theorem form_l : ∀ fi, fi < 3 → stL fi = some (nI (Ln fi)) ∧ Ln fi ≤ 11 := by decide
theorem form_c : ∀ fi, fi < 3 → ∀ j, j < 11 → j < Ln fi → stC fi (nI j) = some (nI (Fc fi j)) ∧ Fc fi j < 128 ∧ (cap (Fc fi j) = true → cn fi j < 6) ∧ cn fi j ≤ 6 := by decide
def xr (r : Nat ⊕ (Nat × (Nat → Nat))) (m' : mM) : (Int32 × mM) ⊕ (Int32 × mM) := match r with
  | .inl p => .inl ((-1 : Int32) - nI p, m')
  | .inr x => .inr (nI x.1, m')
def xg (r : Nat ⊕ (Nat × (Nat → Nat))) (c : Nat) (m' : mM) : Prop := match r with
  | .inl _ => True
  | .inr x => ∀ y, y < c → m' 153 y = nI (x.2 y)
theorem cap_i {c : Nat} (hc : c < 128) {α : Type} {a b : α} : (if nI c < (65 : Int32) then a else if (90 : Int32) < nI c then a else b) = if cap c = true then b else a := by
  unfold cap
  by_cases e1 : c < 65
  · rw [decide_eq_false (show ¬ 65 ≤ c by omega)]
    exact if_pos (nI_lt (b := 65) e1 (by decide))
  · refine (if_neg (nI_nlt (b := 65) (by omega) (by omega))).trans ?_
    rw [decide_eq_true (show 65 ≤ c by omega)]
    by_cases e2 : 90 < c
    · rw [decide_eq_false (show ¬ c ≤ 90 by omega)]
      exact if_pos (nI_lt (a := 90) e2 (by omega))
    · rw [decide_eq_true (show c ≤ 90 by omega)]
      exact if_neg (nI_nlt (a := 90) (by omega) (by decide))
theorem X_rs14 (hN : TS N f) {fi : Nat} (hf : fi < 3) : ∀ (k n j i : Nat) (g : Nat → Nat) (m : mM), j + k = Ln fi → k < n → i + 2 * k < 900 → TX N f m → (∀ x, x < cn fi j → m 153 x = nI (g x)) → ∃ m', f_X6_readStatement_L14 fi n (nI i) (nI (cn fi j)) (nI j) m = some (xr (prI N f fi k j i g) m') ∧ xg (prI N f fi k j i g) (cn fi (Ln fi)) m' ∧ ∀ a x, a ≠ 153 → m' a x = m a x := by
  obtain ⟨l1, l2⟩ := form_l fi hf
  intro k
  induction k with
  | zero =>
    intro n j i g m hj hn hi hT hg
    obtain ⟨n, rfl⟩ : ∃ z, n = z + 1 := ⟨n - 1, by omega⟩
    have : j = Ln fi := by omega
    subst this
    refine ⟨m, ?_, hg, fun _ _ _ => rfl⟩
    rw [f_X6_readStatement_L14]
    refine (bnd_of l1).trans ?_
    exact if_pos (nI_le (Nat.le_refl _) (by omega))
  | succ k ih =>
    intro n j i g m hj hn hi hT hg
    obtain ⟨n, rfl⟩ : ∃ z, n = z + 1 := ⟨n - 1, by omega⟩
    obtain ⟨c1, c2, c3, c4⟩ := form_c fi hf j (by omega) (by omega)
    have hv := X_val hT hN (i := i) (c := Fc fi j) (by omega) (by omega)
    have hd := X_val hT hN (i := i + 1) (c := 68) (by omega) (by omega)
    simp only [prI]
    have step : ∀ (i' v : Nat), it N f (Fc fi j) i = some (v, i') → i' ≤ i + 2 → f_X6_readStatement_L14 fi (n + 1) (nI i) (nI (cn fi j)) (nI j) m = (if cap (Fc fi j) = true then (bnd (wrA 153 6 (nI (cn fi j)) (nI v) m) fun m11 => f_X6_readStatement_L14 fi n (nI i') (nI (cn fi j) + (1 : Int32)) (nI j + (1 : Int32)) m11) else f_X6_readStatement_L14 fi n (nI i') (nI (cn fi j)) (nI j + (1 : Int32)) m) → ∃ m', f_X6_readStatement_L14 fi (n + 1) (nI i) (nI (cn fi j)) (nI j) m = some (xr (prI N f fi k (j + 1) i' (if cap (Fc fi j) = true then uG g (cn fi j) v else g)) m') ∧ xg (prI N f fi k (j + 1) i' (if cap (Fc fi j) = true then uG g (cn fi j) v else g)) (cn fi (Ln fi)) m' ∧ ∀ a x, a ≠ 153 → m' a x = m a x := fun i' v _ hi' st => by
      by_cases e : cap (Fc fi j) = true
      · have hc6 := c3 e
        have ec : cn fi (j + 1) = cn fi j + 1 := by show cn fi j + b2n (cap (Fc fi j)) = _; rw [e]; rfl
        obtain ⟨m', i1, i2, i3⟩ := ih n (j + 1) i' (uG g (cn fi j) v) (m_up m 153 (cn fi j) (nI v)) (by omega) (by omega) (by omega) ⟨(m_up_na (by decide)).trans hT.1, fun x hx => (m_up_na (by decide)).trans (hT.2 x hx)⟩ (fun x hx => by
          unfold uG
          by_cases z : x = cn fi j
          · rw [z, m_up_eq, if_pos rfl]
          · rw [m_up_ni z, if_neg z]; exact hg x (by omega))
        rw [if_pos e]
        refine ⟨m', ?_, i2, fun a x q => (i3 a x q).trans (m_up_na q)⟩
        rw [st, if_pos e]
        refine (bnd_of (wrN hc6 (by decide))).trans ?_
        rw [nI_1, nI_1, ← ec]
        exact i1
      · have ec : cn fi (j + 1) = cn fi j := by show cn fi j + b2n (cap (Fc fi j)) = _; rw [show cap (Fc fi j) = false by simpa using e]; rfl
        obtain ⟨m', i1, i2, i3⟩ := ih n (j + 1) i' g m (by omega) (by omega) (by omega) hT (fun x hx => hg x (by omega))
        rw [if_neg e]
        refine ⟨m', ?_, i2, i3⟩
        rw [st, if_neg e, nI_1]
        rw [ec] at i1
        exact i1
    have pre : ∀ r, (bnd (f_X6_valueAt (nI i) (nI (Fc fi j)) m) fun q7 => if 0 ≤ q7 then (if nI (Fc fi j) = (78 : Int32) then (bnd (f_X6_valueAt (nI i + (1 : Int32)) (68 : Int32) m) fun q9 => if q9 < 0 then (if nI (Fc fi j) < (65 : Int32) then f_X6_readStatement_L14 fi n (nI i + (1 : Int32)) (nI (cn fi j)) (nI j + (1 : Int32)) m else if (90 : Int32) < nI (Fc fi j) then f_X6_readStatement_L14 fi n (nI i + (1 : Int32)) (nI (cn fi j)) (nI j + (1 : Int32)) m else if (6 : Int32) ≤ nI (cn fi j) then f_X6_readStatement_L14 fi n (nI i + (1 : Int32)) (nI (cn fi j)) (nI j + (1 : Int32)) m else (bnd (wrA 153 6 (nI (cn fi j)) q7 m) fun m11 => f_X6_readStatement_L14 fi n (nI i + (1 : Int32)) (nI (cn fi j) + (1 : Int32)) (nI j + (1 : Int32)) m11)) else (bnd (f_X6_valueAt (nI i + (1 : Int32)) (68 : Int32) m) fun q16 => if nI (Fc fi j) < (65 : Int32) then f_X6_readStatement_L14 fi n ((nI i + (1 : Int32)) + (1 : Int32)) (nI (cn fi j)) (nI j + (1 : Int32)) m else if (90 : Int32) < nI (Fc fi j) then f_X6_readStatement_L14 fi n ((nI i + (1 : Int32)) + (1 : Int32)) (nI (cn fi j)) (nI j + (1 : Int32)) m else if (6 : Int32) ≤ nI (cn fi j) then f_X6_readStatement_L14 fi n ((nI i + (1 : Int32)) + (1 : Int32)) (nI (cn fi j)) (nI j + (1 : Int32)) m else (bnd (wrA 153 6 (nI (cn fi j)) ((q7 * (10 : Int32)) + q16) m) fun m18 => f_X6_readStatement_L14 fi n ((nI i + (1 : Int32)) + (1 : Int32)) (nI (cn fi j) + (1 : Int32)) (nI j + (1 : Int32)) m18))) else (if nI (Fc fi j) < (65 : Int32) then f_X6_readStatement_L14 fi n (nI i + (1 : Int32)) (nI (cn fi j)) (nI j + (1 : Int32)) m else if (90 : Int32) < nI (Fc fi j) then f_X6_readStatement_L14 fi n (nI i + (1 : Int32)) (nI (cn fi j)) (nI j + (1 : Int32)) m else if (6 : Int32) ≤ nI (cn fi j) then f_X6_readStatement_L14 fi n (nI i + (1 : Int32)) (nI (cn fi j)) (nI j + (1 : Int32)) m else (bnd (wrA 153 6 (nI (cn fi j)) q7 m) fun m24 => f_X6_readStatement_L14 fi n (nI i + (1 : Int32)) (nI (cn fi j) + (1 : Int32)) (nI j + (1 : Int32)) m24))) else some (.inl (((-1 : Int32) - nI i), m))) = r → f_X6_readStatement_L14 fi (n + 1) (nI i) (nI (cn fi j)) (nI j) m = r := fun r hr => by
      rw [f_X6_readStatement_L14]
      refine (bnd_of l1).trans ?_
      refine (if_neg (nI_ge (by omega) (by omega))).trans ?_
      exact (bnd_of c1).trans hr
    have c6 : ∀ {α : Type} {a b : α}, cap (Fc fi j) = true → (if (6 : Int32) ≤ nI (cn fi j) then a else b) = b := fun {α} {a b} e => if_neg (nI_ge (b := 6) (c3 e) (by decide))
    have fin : ∀ {α : Type} {a b : α}, (if nI (Fc fi j) < (65 : Int32) then a else if (90 : Int32) < nI (Fc fi j) then a else if (6 : Int32) ≤ nI (cn fi j) then a else b) = if cap (Fc fi j) = true then b else a := fun {α} {a b} => by
      rw [cap_i c2]
      by_cases e : cap (Fc fi j) = true
      · rw [if_pos e, if_pos e, c6 e]
      · rw [if_neg e, if_neg e]
    cases e : va N f (Fc fi j) i with
    | none =>
      rw [e] at hv
      have ei : it N f (Fc fi j) i = none := by unfold it; rw [e]
      rw [ei]
      refine ⟨m, pre _ ?_, trivial, fun _ _ _ => rfl⟩
      refine (bnd_of hv).trans ?_
      exact (if_neg (by decide)).trans rfl
    | some v =>
      rw [e] at hv
      have hv9 := va_lt e
      by_cases z : Fc fi j = 78
      · cases e2 : va N f 68 (i + 1) with
        | none =>
          rw [e2] at hd
          have ei : it N f (Fc fi j) i = some (v, i + 1) := by
            unfold it; rw [e]
            show (if Fc fi j = 78 then _ else _) = _
            rw [if_pos z, e2]
          rw [ei]
          refine step (i + 1) v ei (by omega) (pre _ ?_)
          refine (bnd_of hv).trans ?_
          refine (if_pos (show (0 : Int32) ≤ nI v from nI_pos' (by omega))).trans ?_
          refine (if_pos (nIq (b := 78) z)).trans ?_
          rw [nI_1]
          refine (bnd_of hd).trans ?_
          exact (if_pos (by decide)).trans fin
        | some u =>
          rw [e2] at hd
          have hu9 := va_lt e2
          have ei : it N f (Fc fi j) i = some (v * 10 + u, i + 1 + 1) := by
            unfold it; rw [e]
            show (if Fc fi j = 78 then _ else _) = _
            rw [if_pos z, e2]
          rw [ei]
          refine step (i + 1 + 1) (v * 10 + u) ei (by omega) (pre _ ?_)
          refine (bnd_of hv).trans ?_
          refine (if_pos (show (0 : Int32) ≤ nI v from nI_pos' (by omega))).trans ?_
          refine (if_pos (nIq (b := 78) z)).trans ?_
          rw [nI_1]
          refine (bnd_of hd).trans ?_
          refine (if_neg (show ¬ nI u < 0 from nI_pos (by omega))).trans ?_
          refine (bnd_of hd).trans ?_
          rw [nI_1]
          have em : nI v * (10 : Int32) + nI u = nI (v * 10 + u) := by
            rw [show nI v * (10 : Int32) = nI (v * 10) from pk_mul v 10, nI_add]
          show (if nI (Fc fi j) < (65 : Int32) then _ else if (90 : Int32) < nI (Fc fi j) then _ else if (6 : Int32) ≤ nI (cn fi j) then _ else (bnd (wrA 153 6 (nI (cn fi j)) (nI v * (10 : Int32) + nI u) m) fun m18 => _)) = _
          rw [em]
          exact fin
      · have ei : it N f (Fc fi j) i = some (v, i + 1) := by
          unfold it; rw [e]
          show (if Fc fi j = 78 then _ else _) = _
          rw [if_neg z]
        rw [ei]
        refine step (i + 1) v ei (by omega) (pre _ ?_)
        refine (bnd_of hv).trans ?_
        refine (if_pos (show (0 : Int32) ≤ nI v from nI_pos' (by omega))).trans ?_
        refine (if_neg (nIn (b := 78) (by omega) (by omega) z)).trans ?_
        rw [nI_1]
        exact fin
def xs (r : Nat ⊕ (Nat × (Nat → Nat))) : Int32 := match r with
  | .inl p => (-1 : Int32) - nI p
  | .inr x => nI x.1
theorem fmI_lt (o : Option Nat) : fmI o < 3 := by
  unfold fmI
  split
  · decide
  · split
    · decide
    · split <;> decide
theorem X_read (hN : TS N f) (hT : TX N f m) {i : Nat} (hi : i < 800) : ∃ m', f_X6_readStatement (nI i) m = some (xs (stm N f i), m') ∧ xg (stm N f i) (cn (fmI (sg N f i)) (Ln (fmI (sg N f i)))) m' ∧ ∀ a x, a ≠ 153 → m' a x = m a x := by
  have hfi := fmI_lt (sg N f i)
  obtain ⟨l1, l2⟩ := form_l _ hfi
  obtain ⟨m', i1, i2, i3⟩ := X_rs14 hN hfi (Ln (fmI (sg N f i))) fU 0 i (fun _ => 0) m (by omega) (by show _ < 300; omega) (by omega) hT (fun x hx => absurd hx (Nat.not_lt_zero _))
  refine ⟨m', ?_, i2, i3⟩
  unfold f_X6_readStatement
  refine (bnd_of (X_form hT hN (by omega))).trans ?_
  refine (bnd_of i1).trans ?_
  unfold stm
  cases prI N f (fmI (sg N f i)) (Ln (fmI (sg N f i))) 0 i (fun _ => 0) with
  | inl p => rfl
  | inr x => rfl
end TapeX
