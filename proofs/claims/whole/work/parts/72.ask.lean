/-! ask: the price at which a holder earns most -/
theorem tset_tset (t : Nat → Nat) (k v u : Nat) : tset (tset t k v) k u = tset t k u := by
  funext i
  unfold tset
  by_cases e : i = k
  · rw [if_pos e, if_pos e]
  · rw [if_neg e, if_neg e, if_neg e]
theorem tset_id (t : Nat → Nat) (k : Nat) : tset t k (t k) = t := by
  funext i
  unfold tset
  by_cases e : i = k
  · rw [if_pos e, e]
  · rw [if_neg e]
def sP (s : aSt) (p v : Nat) : aSt := (tset s.1 (121 + 4 * p + 1) v, s.2)
theorem sP_0 (s : aSt) (p v : Nat) : (sP s p v).1 0 = s.1 0 := by
  unfold sP
  show tset s.1 (121 + 4 * p + 1) v 0 = s.1 0
  exact tset_ne (by omega)
theorem fx_price (t : Nat → Nat) {p : Nat} (hp : p < 8) (v : Nat) : ∀ i, fx i → tset t (121 + 4 * p + 1) v i = t i := fun i hi => tset_ne (by unfold fx at hi; omega)
theorem SI.price {s : aSt} (hS : SI s) {p v : Nat} (hp : p < s.1 0) (hv : v ≤ 9) : SI (sP s p v) := by
  have h0 := hS.w.h0
  exact hS.town (hS.w.set (fx_price s.1 (show p < 8 by omega) v) (by rw [tset_ne (by omega)]; exact hS.w.st) (by rw [tset_ne (by omega)]; exact hS.w.be) (by rw [tset_ne (by omega)]; exact hS.w.bs) (fun k hk => by rw [tset_ne (by omega)]; exact hS.w.se hk) (fun j hj => by
      unfold tset; split
      · omega
      · have := hS.w.lt (i := 121 + 4 * j + 1) (by omega); omega) (fun j hj => by
      unfold tset; split
      · exact hv
      · exact (hS.w.ho hj).2.1))
theorem XI.price {s : aSt} {m : mM} (hS : SI s) (hX : XI s m) {p v : Nat} (hp : p < 8) (hv : v ≤ 9) : XI (sP s p v) (m_up m (3 + p) 1 (nI v)) := by
  refine hX.town (hX.x.set hS.w (fx_price s.1 hp v) (fun a i z1 z2 z3 z4 => ?_) ?_ ?_ ?_ (fun k hk => ?_) (fun j hj => ?_)) (fun a i z => m_up_na (by omega))
  · unfold m_up; rw [if_neg (by omega)]
  · rw [m_up_na (by omega), tset_ne (by omega)]; exact hX.o2
  · rw [m_up_na (by omega), tset_ne (by omega)]; exact hX.o3
  · rw [m_up_na (by omega), tset_ne (by omega)]; exact hX.o4
  · rw [m_up_na (by omega), tset_ne (by omega)]; exact hX.x.u hk
  · by_cases z : j = p
    · subst z; rw [m_up_eq, tset_eq, dcN (by omega)]
    · rw [m_up_na (by omega), tset_ne (by omega)]; exact hX.x.h hj (by decide)
theorem MI.price {s : aSt} {m : mM} (hM : MI s m) {p v : Nat} (hv : v ≤ 9) : MI (sP s p v) (m_up m 189 (121 + 4 * p + 1) (nI v)) := by
  refine hM.town ?_ mu9
  have := hM.s.set (k := 121 + 4 * p + 1) (v := v)
  rw [dcN (show v < 999 by omega)] at this
  exact this
theorem sP_sP (s : aSt) (p v u : Nat) : sP (sP s p v) p u = sP s p u := by
  unfold sP
  simp only [tset_tset]
theorem sP_id (s : aSt) (p : Nat) : sP s p (s.1 (121 + 4 * p + 1)) = s := by
  unfold sP
  rw [tset_id]
def amS (e : Nat → Nat) (v : Nat) (b : Option (Nat × Nat)) : Option (Nat × Nat) := match b with
  | none => some (v, e v)
  | some y => if y.2 < e v then some (v, e v) else some y
def am (e : Nat → Nat) : Nat → Nat → Option (Nat × Nat) → Option (Nat × Nat)
  | 0, _, b => b
  | k + 1, v, b => am e k (v + 1) (amS e v b)
def amX (b : Option (Nat × Nat)) : Int32 × Int32 := match b with
  | none => (0, -1)
  | some (c, x) => (nI c, nI x)
def amM (b : Option (Nat × Nat)) : Int32 × Int32 := match b with
  | none => (-9, 0)
  | some (c, x) => (nI c, nI x)
def amOK (b : Option (Nat × Nat)) : Prop := ∀ x, b = some x → x.1 ≤ 9 ∧ x.2 ≤ 4536
theorem am_ok {e : Nat → Nat} (he : ∀ v, v ≤ 9 → e v ≤ 4536) : ∀ (k v : Nat) (b : Option (Nat × Nat)), v + k = 10 → amOK b → amOK (am e k v b) := by
  intro k
  induction k with
  | zero => intro v b _ h; exact h
  | succ k ih =>
    intro v b hv h
    refine ih (v + 1) _ (by omega) ?_
    have hev := he v (by omega)
    cases b with
    | none => intro x q; cases q; exact ⟨by show v ≤ 9; omega, hev⟩
    | some y =>
      show amOK (if y.2 < e v then some (v, e v) else some y)
      split
      · intro x q; cases q; exact ⟨by show v ≤ 9; omega, hev⟩
      · exact h
theorem am_some {e : Nat → Nat} : ∀ (k v : Nat) (y : Nat × Nat), ∃ z, am e k v (some y) = some z := by
  intro k
  induction k with
  | zero => intro v y; exact ⟨y, rfl⟩
  | succ k ih =>
    intro v y
    simp only [am]
    show ∃ z, am e k (v + 1) (if y.2 < e v then some (v, e v) else some y) = some z
    split
    · exact ih _ _
    · exact ih _ _
/-- what a holder earns at a price -/
def eP (t : Nat → Nat) (p v : Nat) : Nat := ern (tset t (121 + 4 * p + 1) v) p
def askB (t : Nat → Nat) (p : Nat) : Option (Nat × Nat) := am (eP t p) 10 0 none
def askV (t : Nat → Nat) (p : Nat) : Nat := match askB t p with
  | none => 0
  | some x => x.1
theorem eP_le {s : aSt} (hS : SI s) {p : Nat} (hp : p < s.1 0) : ∀ v, v ≤ 9 → eP s.1 p v ≤ 4536 := fun v hv => by
  have h := (hS.price hp hv).w
  have e0 : (sP s p v).1 0 = s.1 0 := sP_0 s p v
  exact ern_lt h.b (by rw [e0]; exact hp)
theorem askB_some (t : Nat → Nat) (p : Nat) : ∃ z, askB t p = some z := by
  unfold askB
  rw [show (10 : Nat) = 9 + 1 from rfl, am]
  exact am_some 9 1 _
theorem askV_le {s : aSt} (hS : SI s) {p : Nat} (hp : p < s.1 0) : askV s.1 p ≤ 9 := by
  have h := am_ok (eP_le hS hp) 10 0 none rfl (fun x q => by cases q)
  unfold askV
  cases e : askB s.1 p with
  | none => exact Nat.zero_le _
  | some x => exact (h x e).1
theorem X_earned {s : aSt} {m : mM} (hS : SI s) (hX : XI s m) {p : Nat} (hp : p < s.1 0) : ∃ m', f_X1_earned (nI p) m = some (nI (ern s.1 p), m') ∧ xF m m' := by
  have w0 := hS.w.w0
  obtain ⟨m', i1, i2⟩ := X_earnL hS hp (s.1 1) fU 0 0 m (by omega) (by show _ < 300; omega) hX
  rw [wS_e hS.w.b hp] at i1
  refine ⟨m', ?_, i2⟩
  unfold f_X1_earned
  exact (bnd_of i1).trans rfl
theorem M_income {s : aSt} {m : mM} (hS : SI s) (hM : MI s m) {p : Nat} (hp : p < s.1 0) : ∃ m', f_X9_incomeOf (nI p) m = some (nI (ern s.1 p), m') ∧ mF m m' := by
  have w0 := hS.w.w0
  obtain ⟨m', i1, i2⟩ := M_incW hS hp (s.1 1) fU 0 0 m (by omega) (by show _ < 300; omega) hM
  rw [wS_e hS.w.b hp] at i1
  refine ⟨m', ?_, i2⟩
  unfold f_X9_incomeOf
  exact (bnd_of i1).trans rfl
/-- but for a holder's price and the scratch of ONE -/
def bF (p : Nat) (m m' : mM) : Prop := ∀ a i, a ≠ 3 + p → a ≠ 154 → a ≠ 155 → a ≠ 156 → m' a i = m a i
def cF (m m' : mM) : Prop := ∀ a i, a ≠ 189 → a ≠ 187 → a ≠ 195 → a ≠ 196 → m' a i = m a i
theorem bF.lo {p : Nat} (hp : p < 8) {m m' : mM} (h : bF p m m') : loF m m' := fun a i q => h a i (by omega) (by omega) (by omega) (by omega)
theorem cF.hi {m m' : mM} (h : cF m m') : hiF m m' := fun a i q => h a i (by omega) (by omega) (by omega) (by omega)
theorem X_bpL {s : aSt} (hS : SI s) {p : Nat} (hp : p < s.1 0) {z : Int32} : ∀ (k n v u : Nat) (b : Option (Nat × Nat)) (m : mM), v + k = 10 → k < n → u ≤ 9 → amOK b → XI (sP s p u) m → ∃ m' u', f_X1_bestPrice_L37 (nI p) p z n (amX b).1 (amX b).2 (nI v) m = some ((amX (am (eP s.1 p) k v b)).1, m') ∧ u' ≤ 9 ∧ XI (sP s p u') m' ∧ bF p m m' := by
  have h0 := hS.w.h0
  intro k
  induction k with
  | zero =>
    intro n v u b m hv hn hu hb hX
    obtain ⟨n, rfl⟩ : ∃ z, n = z + 1 := ⟨n - 1, by omega⟩
    refine ⟨m, u, ?_, hu, hX, fun _ _ _ _ _ _ => rfl⟩
    rw [f_X1_bestPrice_L37]
    exact if_pos (nI_lt (a := 9) (by omega) (by omega))
  | succ k ih =>
    intro n v u b m hv hn hu hb hX
    obtain ⟨n, rfl⟩ : ∃ z, n = z + 1 := ⟨n - 1, by omega⟩
    have hX1 := hX.price (hS.price hp hu) (p := p) (v := v) (by omega) (by omega)
    rw [sP_sP] at hX1
    have hS1 := hS.price (v := v) hp (by omega)
    have e0 : (sP s p v).1 0 = s.1 0 := sP_0 s p v
    have he := eP_le hS hp v (by omega)
    obtain ⟨m1, j1, j2⟩ := X_earned hS1 hX1 (p := p) (by rw [e0]; exact hp)
    have j1' : f_X1_earned (nI p) (m_up m (3 + p) 1 (nI v)) = some (nI (eP s.1 p v), m1) := j1
    have hX2 := hX1.n j2.n
    have lo : bF p m m1 := fun a i q1 q2 q3 q4 => (j2 a i q3 q4 (by omega)).trans (m_up_na q1)
    have go : ∀ b', amOK b' → amS (eP s.1 p) v b = b' → (if nI (eP s.1 p v) ≤ (amX b).2 then f_X1_bestPrice_L37 (nI p) p z n (amX b).1 (amX b).2 (nI v + 1) m1 else f_X1_bestPrice_L37 (nI p) p z n (nI v) (nI (eP s.1 p v)) (nI v + 1) m1) = f_X1_bestPrice_L37 (nI p) p z n (amX b').1 (amX b').2 (nI v + 1) m1 → ∃ m' u', f_X1_bestPrice_L37 (nI p) p z (n + 1) (amX b).1 (amX b).2 (nI v) m = some ((amX (am (eP s.1 p) (k + 1) v b)).1, m') ∧ u' ≤ 9 ∧ XI (sP s p u') m' ∧ bF p m m' := by
      intro b' hb' eb st
      obtain ⟨m', u', i1, i2, i3, i4⟩ := ih n (v + 1) v b' m1 (by omega) (by omega) (by omega) hb' hX2
      refine ⟨m', u', ?_, i2, i3, fun a i q1 q2 q3 q4 => (i4 a i q1 q2 q3 q4).trans (lo a i q1 q2 q3 q4)⟩
      rw [f_X1_bestPrice_L37]
      refine (if_neg (nI_nlt (a := 9) (by omega) (by decide))).trans ?_
      refine (bnd_of (wrN (k := 1) (by decide) (by decide))).trans ?_
      refine (bnd_of j1').trans ?_
      refine st.trans ?_
      simp only [am]
      rw [eb, nI_1]
      exact i1
    cases b with
    | none => exact go (some (v, eP s.1 p v)) (fun x q => by cases q; exact ⟨by show v ≤ 9; omega, he⟩) rfl (if_neg (by
        show ¬ nI (eP s.1 p v) ≤ (-nI 1)
        rw [ng_nle (by omega) (by decide) (by decide)]; exact id))
    | some y =>
      obtain ⟨c, x⟩ := y
      have hx := (hb (c, x) rfl).2
      have hx : x ≤ 4536 := hx
      by_cases e : x < eP s.1 p v
      · exact go (some (v, eP s.1 p v)) (fun x q => by cases q; exact ⟨by show v ≤ 9; omega, he⟩) (if_pos e) (if_neg (nI_ge e (by omega)))
      · exact go (some (c, x)) hb (if_neg e) (if_pos (nI_le (by omega) (by omega)))
theorem M_apL {s : aSt} (hS : SI s) {p : Nat} (hp : p < s.1 0) {z : Int32} : ∀ (k n v u : Nat) (b : Option (Nat × Nat)) (m : mM), v + k = 10 → k < n → u ≤ 9 → amOK b → MI (sP s p u) m → ∃ m' u', f_X9_askOf_L26 (nI p) (nI (121 + 4 * p + 1)) z n (amM b).1 (amM b).2 (nI v) m = some ((amM (am (eP s.1 p) k v b)).1, m') ∧ u' ≤ 9 ∧ MI (sP s p u') m' ∧ cF m m' := by
  have h0 := hS.w.h0
  intro k
  induction k with
  | zero =>
    intro n v u b m hv hn hu hb hX
    obtain ⟨n, rfl⟩ : ∃ z, n = z + 1 := ⟨n - 1, by omega⟩
    refine ⟨m, u, ?_, hu, hX, fun _ _ _ _ _ _ => rfl⟩
    rw [f_X9_askOf_L26]
    exact if_pos (nI_le (a := 10) (by omega) (by omega))
  | succ k ih =>
    intro n v u b m hv hn hu hb hM
    obtain ⟨n, rfl⟩ : ∃ z, n = z + 1 := ⟨n - 1, by omega⟩
    have hM1 := hM.price (p := p) (v := v) (by omega)
    rw [sP_sP] at hM1
    have hS1 := hS.price (v := v) hp (by omega)
    have e0 : (sP s p v).1 0 = s.1 0 := sP_0 s p v
    have he := eP_le hS hp v (by omega)
    obtain ⟨m1, j1, j2⟩ := M_income hS1 hM1 (p := p) (by rw [e0]; exact hp)
    have j1' : f_X9_incomeOf (nI p) (m_up m 189 (121 + 4 * p + 1) (nI v)) = some (nI (eP s.1 p v), m1) := j1
    have hM2 := hM1.n j2.n
    have lo : cF m m1 := fun a i q1 q2 q3 q4 => (j2 a i q3 q4 (by omega)).trans (m_up_na q1)
    have go : ∀ b', amOK b' → amS (eP s.1 p) v b = b' → (if (amM b).1 < 0 then f_X9_askOf_L26 (nI p) (nI (121 + 4 * p + 1)) z n (nI v) (nI (eP s.1 p v)) (nI v + 1) m1 else if (amM b).2 < nI (eP s.1 p v) then f_X9_askOf_L26 (nI p) (nI (121 + 4 * p + 1)) z n (nI v) (nI (eP s.1 p v)) (nI v + 1) m1 else f_X9_askOf_L26 (nI p) (nI (121 + 4 * p + 1)) z n (amM b).1 (amM b).2 (nI v + 1) m1) = f_X9_askOf_L26 (nI p) (nI (121 + 4 * p + 1)) z n (amM b').1 (amM b').2 (nI v + 1) m1 → ∃ m' u', f_X9_askOf_L26 (nI p) (nI (121 + 4 * p + 1)) z (n + 1) (amM b).1 (amM b).2 (nI v) m = some ((amM (am (eP s.1 p) (k + 1) v b)).1, m') ∧ u' ≤ 9 ∧ MI (sP s p u') m' ∧ cF m m' := by
      intro b' hb' eb st
      obtain ⟨m', u', i1, i2, i3, i4⟩ := ih n (v + 1) v b' m1 (by omega) (by omega) (by omega) hb' hM2
      refine ⟨m', u', ?_, i2, i3, fun a i q1 q2 q3 q4 => (i4 a i q1 q2 q3 q4).trans (lo a i q1 q2 q3 q4)⟩
      rw [f_X9_askOf_L26]
      refine (if_neg (nI_ge (b := 10) (by omega) (by decide))).trans ?_
      refine (bnd_of (wrN (show 121 + 4 * p + 1 < 189 by omega) (by decide))).trans ?_
      refine (bnd_of j1').trans ?_
      refine st.trans ?_
      simp only [am]
      rw [eb, nI_1]
      exact i1
    cases b with
    | none => exact go (some (v, eP s.1 p v)) (fun x q => by cases q; exact ⟨by show v ≤ 9; omega, he⟩) rfl (if_pos (show (-9 : Int32) < 0 by decide))
    | some y =>
      obtain ⟨c, x⟩ := y
      have hx := (hb (c, x) rfl).2
      have hx : x ≤ 4536 := hx
      have hc := (hb (c, x) rfl).1
      have hc : c ≤ 9 := hc
      have nc : ¬ (amM (some (c, x))).1 < 0 := nI_pos (by omega)
      by_cases e : x < eP s.1 p v
      · exact go (some (v, eP s.1 p v)) (fun x q => by cases q; exact ⟨by show v ≤ 9; omega, he⟩) (if_pos e) ((if_neg nc).trans (if_pos (nI_lt e (by omega))))
      · exact go (some (c, x)) hb (if_neg e) ((if_neg nc).trans (if_neg (nI_nlt (by omega) (by omega))))
theorem amX_v {t : Nat → Nat} {p : Nat} : (amX (askB t p)).1 = nI (askV t p) := by
  obtain ⟨z, e⟩ := askB_some t p
  unfold askV
  rw [e]
  rfl
theorem amM_v {t : Nat → Nat} {p : Nat} : (amM (askB t p)).1 = nI (askV t p) := by
  obtain ⟨z, e⟩ := askB_some t p
  unfold askV
  rw [e]
  rfl
theorem hasP_set (t : Nat → Nat) {p v h q : Nat} (hh : h < 28) (h3 : (t (9 + 4 * h)) ≤ 3) : hasP (tset t (121 + 4 * p + 1) v) h q = hasP t h q := hasP_cg (tset_ne (by omega)) (fun i hi => tset_ne (by omega))
theorem ask_none {s : aSt} (hS : SI s) {p : Nat} (hz : hMk s.1 p = 0) : askV s.1 p = 0 := by
  have hn : ∀ h, h < 28 → hasP s.1 h p = false := fun h hh => by
    cases e : hasP s.1 h p with
    | false => rfl
    | true =>
      have := (hMk_b hh).mpr e
      rw [hz, Nat.zero_div] at this
      omega
  have e0 : ∀ v, eP s.1 p v = 0 := fun v => by
    have hw : ∀ w, wN (tset s.1 (121 + 4 * p + 1) v) p w = 0 := fun w => by
      unfold wN
      split
      · rfl
      · rw [sumF_congr (g := fun _ => 0) 28 0 (fun h _ hh => by
          unfold shV
          refine if_neg (fun z => ?_)
          have hh : h < 28 := by omega
          rw [hasP_set s.1 hh (hS.w.pa hh), hn h hh] at z
          exact absurd z.2 (by decide)), sumF_0]
    show sumF (wN (tset s.1 (121 + 4 * p + 1) v) p) 0 _ = 0
    rw [sumF_congr (g := fun _ => 0) _ 0 (fun w _ _ => hw w), sumF_0]
  have ha : ∀ k v, am (eP s.1 p) k v (some (0, 0)) = some (0, 0) := by
    intro k
    induction k with
    | zero => intro v; rfl
    | succ k ih =>
      intro v
      have es : amS (eP s.1 p) v (some (0, 0)) = some (0, 0) := if_neg (by rw [e0]; exact Nat.lt_irrefl 0)
      simp only [am]
      rw [es]; exact ih _
  have hB : askB s.1 p = some (0, 0) := by
    unfold askB
    rw [show (10 : Nat) = 9 + 1 from rfl, am]
    show am (eP s.1 p) 9 1 (some (0, eP s.1 p 0)) = _
    rw [e0]; exact ha 9 1
  unfold askV
  rw [hB]
theorem X_bestPrice {s : aSt} {m : mM} (hS : SI s) (hX : XI s m) {p : Nat} (hp : p < s.1 0) : ∃ m', f_X1_bestPrice (nI p) m = some (nI (askV s.1 p), m') ∧ XI s m' ∧ bF p m m' := by
  have h0 := hS.w.h0
  have hl := hMk_lt s.1 p
  have hb := (hS.w.ho hp).2.1
  unfold f_X1_bestPrice
  by_cases e : hMk s.1 p = 0
  · refine ⟨m, ?_, hX, fun _ _ _ _ _ _ => rfl⟩
    refine (bnd_of (rdX rfl (show p < 8 by omega) (by decide) (hX.x.b (by omega)))).trans ?_
    rw [ask_none hS e]
    exact if_pos (nIq (b := 0) e)
  · have hXi : XI (sP s p (s.1 (121 + 4 * p + 1))) m := by rw [sP_id]; exact hX
    have c1 : m (3 + p) 1 = nI (s.1 (121 + 4 * p + 1)) := (hX.x.h (k := 1) (by omega) (by decide)).trans (dcN (by omega))
    obtain ⟨m1, u1, i1, i2, i3, i4⟩ := X_bpL (z := nI (s.1 (121 + 4 * p + 1))) hS hp 10 fU 0 (s.1 (121 + 4 * p + 1)) none m rfl (by decide) hb (fun x q => by cases q) hXi
    have hX2 := i3.price (hS.price hp i2) (p := p) (v := (s.1 (121 + 4 * p + 1))) (by omega) hb
    rw [sP_sP, sP_id] at hX2
    refine ⟨m_up m1 (3 + p) 1 (nI (s.1 (121 + 4 * p + 1))), ?_, hX2, fun a i q1 q2 q3 q4 => (m_up_na q1).trans (i4 a i q1 q2 q3 q4)⟩
    refine (bnd_of (rdX rfl (show p < 8 by omega) (by decide) (hX.x.b (by omega)))).trans ?_
    refine (if_neg (nIn (b := 0) (by omega) (by decide) e)).trans ?_
    refine (bnd_of (ckN (show p < 8 by omega) (by decide))).trans ?_
    refine (bnd_of (rdX (k := 1) rfl (by decide) (by decide) c1)).trans ?_
    refine (bnd_of i1).trans ?_
    refine (bnd_of (wrN (k := 1) (by decide) (by decide))).trans ?_
    rw [← amX_v]
    rfl
theorem M_askOf {s : aSt} {m : mM} (hS : SI s) (hM : MI s m) {p : Nat} (hp : p < s.1 0) : ∃ m', f_X9_askOf (nI p) m = some (nI (askV s.1 p), m') ∧ MI s m' ∧ cF m m' := by
  have h0 := hS.w.h0
  have hb := (hS.w.ho hp).2.1
  have hMi : MI (sP s p (s.1 (121 + 4 * p + 1))) m := by rw [sP_id]; exact hM
  have e1 : ((121 : Int32) + 4 * nI p) + 1 = nI (121 + 4 * p + 1) := by simp only [lit, pk_mul, nI_add]
  obtain ⟨m1, u1, i1, i2, i3, i4⟩ := M_apL (z := nI (s.1 (121 + 4 * p + 1))) hS hp 10 fU 0 (s.1 (121 + 4 * p + 1)) none m rfl (by decide) hb (fun x q => by cases q) hMi
  have hM2 := i3.price (p := p) (v := (s.1 (121 + 4 * p + 1))) hb
  rw [sP_sP, sP_id] at hM2
  refine ⟨m_up m1 189 (121 + 4 * p + 1) (nI (s.1 (121 + 4 * p + 1))), ?_, hM2, fun a i q1 q2 q3 q4 => (m_up_na q1).trans (i4 a i q1 q2 q3 q4)⟩
  unfold f_X9_askOf
  rw [e1]
  refine (bnd_of (rdX rfl (by omega) (by decide) (hM.s.n (by omega) (by omega)))).trans ?_
  refine (bnd_of i1).trans ?_
  refine (bnd_of (wrN (show 121 + 4 * p + 1 < 189 by omega) (by decide))).trans ?_
  rw [← amM_v]
  rfl
theorem op_ask (a1 : Int32) : Op (f_X8_ask a1) (f_X9_ask a1) := by
  intro s hS
  have h0 := hS.w.h0
  rcases io a1 (n := s.1 0) (by omega) with q | ⟨p, hp, rfl⟩
  · refine both_ref (k := 1) hS (by decide) (by decide) (fun m hX => ?_) (fun m hM => ?_)
    · unfold f_X8_ask; exact (bnd_of (X_hol0 hX q)).trans (if_pos rfl)
    · unfold f_X9_ask; exact (bnd_of (M_hol0 hS hM q)).trans (if_pos rfl)
  refine ⟨nI (askV s.1 p), s, hS, fun m hX => ?_, fun m hM => ?_⟩
  · obtain ⟨m', i1, i2, i3⟩ := X_bestPrice hS hX hp
    refine ⟨m', ?_, i2, i3.lo (by omega)⟩
    unfold f_X8_ask
    refine (bnd_of (X_hol1 hS hX hp)).trans ?_
    refine (if_neg (by decide)).trans ?_
    exact (bnd_of i1).trans rfl
  · obtain ⟨m', i1, i2, i3⟩ := M_askOf hS hM hp
    refine ⟨m', ?_, i2, i3.hi⟩
    unfold f_X9_ask
    refine (bnd_of (M_hol1 hS hM hp)).trans ?_
    refine (if_neg (by decide)).trans ?_
    exact (bnd_of i1).trans rfl
