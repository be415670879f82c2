/-! stop, stopAll -/
theorem SI.st2 {s : aSt} (hS : SI s) {v : Nat} (hv : v < 2 ^ s.1 0) : SI (tset s.1 2 v, s.2) := by
  have h0 := hS.w.h0
  exact hS.town (hS.w.set (fun i hi => tset_ne (by unfold fx at hi; omega)) (by rw [tset_eq]; exact hv) (by rw [tset_ne (by omega)]; exact hS.w.be) (by rw [tset_ne (by omega)]; exact hS.w.bs) (fun k hk => by rw [tset_ne (by omega)]; exact hS.w.se hk) (fun j hj => by
      rw [tset_ne (by omega)]
      have := hS.w.lt (i := 121 + 4 * j + 1) (by omega); omega) (fun j hj => by
      rw [tset_ne (by omega)]; exact (hS.w.ho hj).2.1))
theorem MI.st2 {s : aSt} {m : mM} {u : Nat} (hM : MI (tset s.1 2 u, s.2) m) {v : Nat} (hv : v < 999) : MI (tset s.1 2 v, s.2) (m_up m 189 2 (nI v)) := by
  refine MI.town (s := (tset s.1 2 u, s.2)) hM ?_ mu9
  have := hM.s.set (k := 2) (v := v)
  rw [dcN hv] at this
  have e : tset (tset s.1 2 u) 2 v = tset s.1 2 v := tset_tset _ _ _ _
  have this : MS (tset (tset s.1 2 u) 2 v) (m_up m 189 2 (nI v)) := this
  rw [e] at this
  exact this
theorem pop_le8 {x : Nat} (hx : x < 2 ^ 8) : pop x ≤ 8 := by
  unfold pop
  rw [show (28 : Nat) = 8 + 20 from rfl, sumF_split]
  have h1 : sumF (fun d => x / 2 ^ d % 2) 0 8 ≤ 8 * 1 := sumF_le 8 0 (fun d _ _ => by show x / 2 ^ d % 2 ≤ 1; omega)
  have h2 : sumF (fun d => x / 2 ^ d % 2) (0 + 8) 20 ≤ 20 * 0 := sumF_le 20 _ (fun d hd _ => by
    show x / 2 ^ d % 2 ≤ 0
    have : 2 ^ 8 ≤ 2 ^ d := Nat.pow_le_pow_right (by decide) (by omega)
    rw [Nat.div_eq_of_lt (by omega)]
    exact Nat.le_refl _)
  omega
def fewer (x : Nat) (b : Option Nat) : Bool := match b with
  | none => true
  | some y => decide (pop x < pop y)
theorem few_t {x y : Nat} (h : pop x < pop y) : fewer x (some y) = true := by
  unfold fewer
  exact decide_eq_true h
theorem few_f {x y : Nat} (h : ¬ pop x < pop y) : fewer x (some y) = false := by
  unfold fewer
  exact decide_eq_false h
/-- the fewest that keep a rule -/
def fwL (P : Nat → Bool) : Nat → Nat → Option Nat → Option Nat
  | 0, _, b => b
  | k + 1, x, b => fwL P k (x + 1) (if (fewer x b && P x) = true then some x else b)
def fwX (z : Int32) (b : Option Nat) : Int32 × Int32 := match b with
  | none => (z, 9)
  | some y => (nI y, nI (pop y))
def fwM (b : Option Nat) : Int32 := match b with
  | none => -9
  | some y => nI y
def fwOK (b : Option Nat) : Prop := ∀ y, b = some y → y < 2 ^ 8
theorem few_X {z : Int32} {b : Option Nat} (hb : fwOK b) {x : Nat} (hx : x < 2 ^ 8) : ((fwX z b).2 ≤ bitC (nI x)) ↔ fewer x b = false := by
  have hp := pop_le8 hx
  rw [bitC_n (by omega)]
  cases b with
  | none =>
    refine ⟨fun q => absurd q ?_, fun q => by cases q⟩
    exact nI_ge (b := 9) (by omega) (by decide)
  | some y =>
    have hy := pop_le8 (hb y rfl)
    show nI (pop y) ≤ nI (pop x) ↔ decide (pop x < pop y) = false
    rw [decide_eq_false_iff_not]
    constructor
    · intro q h; exact absurd q (nI_ge h (by omega))
    · intro q; exact nI_le (by omega) (by omega)
def spR (t : Nat → Nat) (w x : Nat) : Bool := decide (x / 2 ^ (t (153 + 6 * w)) % 2 = 0) && !(can (tset t 2 (t 2 ||| x)) 999 w)
section Stop
variable {s : aSt}
theorem or_st (hS : SI s) {x : Nat} (hx : x < 2 ^ s.1 0) : s.1 2 ||| x < 2 ^ s.1 0 := Nat.or_lt_two_pow hS.w.st hx
theorem X_ev (hS : SI s) {m : mM} (hX : XI s m) : f_X7_everyone m = some (nI (2 ^ s.1 0 - 1)) := by
  unfold f_X7_everyone
  rw [hX.o0, msk hS.w.h0]
theorem X_fsL (hS : SI s) {m : mM} (hX : XI s m) {w : Nat} (hw : w < s.1 1) (hk : lkd s.1 w m) : ∀ (k n x : Nat) (b : Option Nat), x + k = 2 ^ s.1 0 → k < n → fwOK b → f_X5_fewestToStop_L27 (nI w) (nI (s.1 (153 + 6 * w))) m n (fwX (-9) b).1 (fwX (-9) b).2 (nI x) = some (fwX (-9) (fwL (spR s.1 w) k x b)).1 := by
  have h0 := hS.w.h0
  have p8 : 2 ^ s.1 0 ≤ 2 ^ 8 := Nat.pow_le_pow_right (by decide) h0
  have p0 := Nat.two_pow_pos (s.1 0)
  obtain ⟨d1, d2, d3, d4, d5, d6⟩ := hS.w.wk hw
  intro k
  induction k with
  | zero =>
    intro n x b hx hn hb
    obtain ⟨n, rfl⟩ : ∃ z, n = z + 1 := ⟨n - 1, by omega⟩
    rw [f_X5_fewestToStop_L27]
    refine (bnd_of (X_ev hS hX)).trans ?_
    exact if_pos (nI_lt (by omega) (by omega))
  | succ k ih =>
    intro n x b hx hn hb
    obtain ⟨n, rfl⟩ : ∃ z, n = z + 1 := ⟨n - 1, by omega⟩
    have hx0 : x < 2 ^ s.1 0 := by omega
    rw [f_X5_fewestToStop_L27]
    refine (bnd_of (X_ev hS hX)).trans ?_
    refine (if_neg (nI_nlt (by omega) (by omega))).trans ?_
    simp only [fwL]
    by_cases e1 : fewer x b = true
    · refine (if_neg (fun z => by rw [(few_X hb (by omega)).mp z] at e1; cases e1)).trans ?_
      refine (bnd_of (X_isIn (a := x) (k := (s.1 (153 + 6 * w))) (by omega) (by omega))).trans ?_
      by_cases e2 : x / 2 ^ (s.1 (153 + 6 * w)) % 2 = 0
      · refine (if_pos (nIq e2)).trans ?_
        rw [hX.o2, orN]
        refine (bnd_of (X_canBe hS.w.b hw hX.x hk (L := 0) (lt := 999) (or_st hS hx0) (by decide) z_bit)).trans ?_
        by_cases e3 : can (tset s.1 2 (s.1 2 ||| x)) 999 w = true
        · rw [e3]
          refine (if_neg (by decide)).trans ?_
          have ef : (fewer x b && spR s.1 w x) = false := by
            unfold spR; rw [e3]; simp
          rw [if_neg (by rw [ef]; decide), nI_1]
          exact ih n (x + 1) b (by omega) (by omega) hb
        · have e3' : can (tset s.1 2 (s.1 2 ||| x)) 999 w = false := by simpa using e3
          rw [e3']
          refine (if_pos (by decide)).trans ?_
          have ef : (fewer x b && spR s.1 w x) = true := by
            unfold spR; rw [e1, e3', decide_eq_true e2]; rfl
          rw [if_pos ef, nI_1, bitC_n (by omega)]
          exact ih n (x + 1) (some x) (by omega) (by omega) (fun y hy => by cases hy; omega)
      · refine (if_neg (nIn (b := 0) (by omega) (by omega) e2)).trans ?_
        have ef : (fewer x b && spR s.1 w x) = false := by
          unfold spR; rw [decide_eq_false e2]; simp
        rw [if_neg (by rw [ef]; decide), nI_1]
        exact ih n (x + 1) b (by omega) (by omega) hb
    · have e1' : fewer x b = false := by simpa using e1
      refine (if_pos ((few_X hb (by omega)).mpr e1')).trans ?_
      rw [if_neg (by rw [e1']; simp), nI_1]
      exact ih n (x + 1) b (by omega) (by omega) hb
/-- the reference's test of a set of strikers -/
def sF (m m' : mM) : Prop := ∀ a i, a ≠ 195 → a ≠ 196 → ¬ (a = 187 ∧ (i = 11 ∨ i = 12)) → ¬ (a = 189 ∧ i = 2) → m' a i = m a i
theorem sF.tr {m m1 m2 : mM} (h1 : sF m m1) (h2 : sF m1 m2) : sF m m2 := fun a i x y z v => (h2 a i x y z v).trans (h1 a i x y z v)
theorem mF.sf {m m' : mM} (h : mF m m') : sF m m' := fun a i x y z _ => h a i x y z
theorem sF.u (m : mM) (v : Int32) : sF m (m_up m 189 2 v) := fun a i _ _ _ z => if_neg z
theorem M_test (hS : SI s) {w u v : Nat} {m : mM} (hw : w < s.1 1) (hv : v < 2 ^ s.1 0) (hM : MI (tset s.1 2 u, s.2) m) : ∃ m1, f_X9_costOf (nI w) (m_up m 189 2 (nI v)) = some (bcost (one (tset s.1 2 v) 999 w), m1) ∧ MI (tset s.1 2 v, s.2) m1 ∧ sF m m1 := by
  have p8 : 2 ^ s.1 0 ≤ 2 ^ 8 := Nat.pow_le_pow_right (by decide) hS.w.h0
  have hM1 := hM.st2 (v := v) (by omega)
  have e1 : tset s.1 2 v 1 = s.1 1 := tset_ne (by omega)
  obtain ⟨m1, j1, j2, j3⟩ := M_costOf (hS.st2 hv) hM1 (w := w) (by show w < tset s.1 2 v 1; rw [e1]; exact hw)
  exact ⟨m1, j1, hM1.n j3.n, (sF.u m _).tr j3.sf⟩
theorem MI.u0 (hS : SI s) {u : Nat} {m : mM} (hM : MI (tset s.1 2 u, s.2) m) : m 189 0 = nI (s.1 0) := by
  have h0 := hS.w.h0
  have := hM.s 0 (by decide)
  rw [this]
  show dc (tset s.1 2 u 0) = _
  rw [tset_ne (by omega), dcN (by omega)]
theorem MI.u1 (hS : SI s) {u : Nat} {m : mM} (hM : MI (tset s.1 2 u, s.2) m) : m 189 1 = nI (s.1 1) := by
  have h0 := hS.w.w0
  have := hM.s 1 (by decide)
  rw [this]
  show dc (tset s.1 2 u 1) = _
  rw [tset_ne (by omega), dcN (by omega)]
theorem MI.ud (hS : SI s) {u w : Nat} {m : mM} (hw : w < s.1 1) (hM : MI (tset s.1 2 u, s.2) m) : f_X9_of (nI w) 0 m = some (nI (s.1 (153 + 6 * w))) := by
  have h0 := hS.w.w0
  have h1 := hS.w.h0
  obtain ⟨d1, d2, d3, d4, d5, d6⟩ := hS.w.wk hw
  refine (M_of (k := 0) hM.s (by omega) (by omega)).trans (congrArg some ?_)
  show dc (tset s.1 2 u (153 + 6 * w)) = _
  rw [tset_ne (by omega), dcN (by omega)]
theorem M_stL (hS : SI s) {w : Nat} (hw : w < s.1 1) : ∀ (k n x u : Nat) (b : Option Nat) (m : mM), x + k = 2 ^ s.1 0 → k < n → fwOK b → MI (tset s.1 2 u, s.2) m → ∃ m' u', f_X9_stop_L27 (nI w) (nI (s.1 2)) n (fwM b) (nI x) m = some (fwM (fwL (spR s.1 w) k x b), m') ∧ MI (tset s.1 2 u', s.2) m' ∧ sF m m' := by
  have h0 := hS.w.h0
  have p8 : 2 ^ s.1 0 ≤ 2 ^ 8 := Nat.pow_le_pow_right (by decide) h0
  have p0 := Nat.two_pow_pos (s.1 0)
  obtain ⟨d1, d2, d3, d4, d5, d6⟩ := hS.w.wk hw
  have esh : (1 : Int32) <<< (nI (s.1 0) &&& 31) = nI (2 ^ s.1 0) := bit_i (by omega)
  intro k
  induction k with
  | zero =>
    intro n x u b m hx hn hb hM
    obtain ⟨n, rfl⟩ : ∃ z, n = z + 1 := ⟨n - 1, by omega⟩
    refine ⟨m, u, ?_, hM, fun _ _ _ _ _ _ => rfl⟩
    rw [f_X9_stop_L27]
    refine (bnd_of (rdX (k := 0) rfl (by decide) (by decide) (hM.u0 hS))).trans ?_
    rw [esh]
    exact if_pos (nI_le (by omega) (by omega))
  | succ k ih =>
    intro n x u b m hx hn hb hM
    obtain ⟨n, rfl⟩ : ∃ z, n = z + 1 := ⟨n - 1, by omega⟩
    have hx0 : x < 2 ^ s.1 0 := by omega
    have hv := or_st hS hx0
    have ebit : (nI x >>> (nI (s.1 (153 + 6 * w)) &&& 31)) &&& 1 = nI (x / 2 ^ (s.1 (153 + 6 * w)) % 2) := by
      show (nI x >>> (nI (s.1 (153 + 6 * w)) &&& nI 31)) &&& nI 1 = _
      rw [shN (by omega) (by omega), an1]
    have st : f_X9_stop_L27 (nI w) (nI (s.1 2)) (n + 1) (fwM b) (nI x) m = (if nI (x / 2 ^ (s.1 (153 + 6 * w)) % 2) = (1 : Int32) then f_X9_stop_L27 (nI w) (nI (s.1 2)) n (fwM b) (nI x + 1) m else if fwM b < 0 then (bnd (wrA 189 189 (2 : Int32) (nI (s.1 2) ||| nI x) m) fun m11 => bnd (f_X9_costOf (nI w) m11) fun q13 => if 0 ≤ q13.1 then f_X9_stop_L27 (nI w) (nI (s.1 2)) n (fwM b) (nI x + 1) q13.2 else f_X9_stop_L27 (nI w) (nI (s.1 2)) n (nI x) (nI x + 1) q13.2) else (bnd (f_X9_bits (nI x) m) fun q16 => bnd (f_X9_bits (fwM b) m) fun q18 => if q16 < q18 then (bnd (wrA 189 189 (2 : Int32) (nI (s.1 2) ||| nI x) m) fun m20 => bnd (f_X9_costOf (nI w) m20) fun q22 => if 0 ≤ q22.1 then f_X9_stop_L27 (nI w) (nI (s.1 2)) n (fwM b) (nI x + 1) q22.2 else f_X9_stop_L27 (nI w) (nI (s.1 2)) n (nI x) (nI x + 1) q22.2) else f_X9_stop_L27 (nI w) (nI (s.1 2)) n (fwM b) (nI x + 1) m)) := by
      rw [f_X9_stop_L27]
      refine (bnd_of (rdX (k := 0) rfl (by decide) (by decide) (hM.u0 hS))).trans ?_
      rw [esh]
      refine (if_neg (nI_ge (by omega) (by omega))).trans ?_
      refine (bnd_of (hM.ud hS hw)).trans ?_
      rw [ebit]
    have keep : ∀ (m1 : mM) (u1 : Nat), MI (tset s.1 2 u1, s.2) m1 → sF m m1 → (fewer x b && spR s.1 w x) = false → ∃ m' u', f_X9_stop_L27 (nI w) (nI (s.1 2)) n (fwM b) (nI x + 1) m1 = some (fwM (fwL (spR s.1 w) (k + 1) x b), m') ∧ MI (tset s.1 2 u', s.2) m' ∧ sF m m' := fun m1 u1 a1 a2 a3 => by
      obtain ⟨m', u', i1, i2, i3⟩ := ih n (x + 1) u1 b m1 (by omega) (by omega) hb a1
      refine ⟨m', u', ?_, i2, a2.tr i3⟩
      simp only [fwL]
      rw [if_neg (by rw [a3]; decide), nI_1]; exact i1
    have test : fewer x b = true → x / 2 ^ (s.1 (153 + 6 * w)) % 2 = 0 → ∃ m' u', (bnd (wrA 189 189 (2 : Int32) (nI (s.1 2) ||| nI x) m) fun m11 => bnd (f_X9_costOf (nI w) m11) fun q13 => if 0 ≤ q13.1 then f_X9_stop_L27 (nI w) (nI (s.1 2)) n (fwM b) (nI x + 1) q13.2 else f_X9_stop_L27 (nI w) (nI (s.1 2)) n (nI x) (nI x + 1) q13.2) = some (fwM (fwL (spR s.1 w) (k + 1) x b), m') ∧ MI (tset s.1 2 u', s.2) m' ∧ sF m m' := fun e1 e2 => by
      obtain ⟨m1, j1, j2, j3⟩ := M_test hS hw hv hM
      have ok := one_bok (lt := 999) (hS.st2 hv).w.b (w := w) (by show w < tset s.1 2 (s.1 2 ||| x) 1; rw [tset_ne (by omega)]; exact hw)
      have ok : bOK (one (tset s.1 2 (s.1 2 ||| x)) 999 w) := ok
      have pre : ∀ r, (if 0 ≤ bcost (one (tset s.1 2 (s.1 2 ||| x)) 999 w) then f_X9_stop_L27 (nI w) (nI (s.1 2)) n (fwM b) (nI x + 1) m1 else f_X9_stop_L27 (nI w) (nI (s.1 2)) n (nI x) (nI x + 1) m1) = r → (bnd (wrA 189 189 (2 : Int32) (nI (s.1 2) ||| nI x) m) fun m11 => bnd (f_X9_costOf (nI w) m11) fun q13 => if 0 ≤ q13.1 then f_X9_stop_L27 (nI w) (nI (s.1 2)) n (fwM b) (nI x + 1) q13.2 else f_X9_stop_L27 (nI w) (nI (s.1 2)) n (nI x) (nI x + 1) q13.2) = r := fun r hr => by
        rw [orN]
        refine (bnd_of (wrN (k := 2) (by decide) (by decide))).trans ?_
        exact (bnd_of j1).trans hr
      by_cases e3 : can (tset s.1 2 (s.1 2 ||| x)) 999 w = true
      · obtain ⟨m', u', i1, i2, i3⟩ := keep m1 _ j2 j3 (by unfold spR; rw [e3]; simp)
        exact ⟨m', u', pre _ ((if_pos ((bc_pos ok).mpr e3)).trans i1), i2, i3⟩
      · have e3' : can (tset s.1 2 (s.1 2 ||| x)) 999 w = false := by simpa using e3
        have ef : (fewer x b && spR s.1 w x) = true := by
          unfold spR; rw [e1, e3', decide_eq_true e2]; rfl
        obtain ⟨m', u', i1, i2, i3⟩ := ih n (x + 1) _ (some x) m1 (by omega) (by omega) (fun y hy => by cases hy; omega) j2
        refine ⟨m', u', pre _ ((if_neg (fun z => e3 ((bc_pos ok).mp z))).trans ?_), i2, j3.tr i3⟩
        simp only [fwL]
        rw [if_pos ef, nI_1]; exact i1
    rw [st]
    by_cases e2 : x / 2 ^ (s.1 (153 + 6 * w)) % 2 = 0
    · rw [if_neg (show ¬ nI (x / 2 ^ (s.1 (153 + 6 * w)) % 2) = (1 : Int32) from nIn (b := 1) (by omega) (by omega) (by omega))]
      cases b with
      | none =>
        rw [if_pos (show fwM none < 0 by decide)]
        exact test rfl e2
      | some y =>
        have hy := hb y rfl
        rw [if_neg (show ¬ fwM (some y) < 0 from nI_pos (by omega))]
        rw [bnd_of (M_bits (show x < 2 ^ 28 by omega))]
        have by' : f_X9_bits (fwM (some y)) m = some (nI (pop y)) := M_bits (by omega)
        rw [bnd_of by']
        have q1 := pop_le8 (show x < 2 ^ 8 by omega)
        have q2 := pop_le8 hy
        by_cases e1 : pop x < pop y
        · rw [if_pos (nI_lt e1 (by omega))]
          exact test (few_t e1) e2
        · rw [if_neg (nI_nlt (by omega) (by omega))]
          exact keep m u hM (fun _ _ _ _ _ _ => rfl) (by rw [few_f e1]; rfl)
    · rw [if_pos (show nI (x / 2 ^ (s.1 (153 + 6 * w)) % 2) = (1 : Int32) from nIq (b := 1) (by omega))]
      exact keep m u hM (fun _ _ _ _ _ _ => rfl) (by unfold spR; rw [decide_eq_false e2]; simp)
theorem fwL_ok {P : Nat → Bool} : ∀ (k x : Nat) (b : Option Nat), x + k ≤ 2 ^ 8 → fwOK b → fwOK (fwL P k x b) := by
  intro k
  induction k with
  | zero => intro x b _ h; exact h
  | succ k ih =>
    intro x b hx h
    simp only [fwL]
    refine ih (x + 1) _ (by omega) ?_
    split
    · intro y hy; cases hy; omega
    · exact h
theorem MI.st0 {u : Nat} {m : mM} (hS : SI s) (hM : MI (tset s.1 2 u, s.2) m) : MI s (m_up m 189 2 (nI (s.1 2))) := by
  have p8 : 2 ^ s.1 0 ≤ 2 ^ 8 := Nat.pow_le_pow_right (by decide) hS.w.h0
  have hst := hS.w.st
  have := hM.st2 (v := s.1 2) (by omega)
  rw [tset_id] at this
  exact this
theorem MI.un {m : mM} (hM : MI s m) : MI (tset s.1 2 (s.1 2), s.2) m := by rw [tset_id]; exact hM
end Stop
theorem op_stop (a1 : Int32) : Op (f_X8_stop a1) (f_X9_stop a1) := by
  intro s hS
  have w0 := hS.w.w0
  have h0 := hS.w.h0
  have p8 : 2 ^ s.1 0 ≤ 2 ^ 8 := Nat.pow_le_pow_right (by decide) h0
  rcases io a1 (n := s.1 1) (by omega) with q | ⟨w, hw, rfl⟩
  · refine both_ref (k := 1) hS (by decide) (by decide) (fun m hX => ?_) (fun m hM => ?_)
    · unfold f_X8_stop; exact (bnd_of (X_wrk0 hX q)).trans (if_pos rfl)
    · unfold f_X9_stop; exact (bnd_of (M_wrk0 hS hM q)).trans (if_pos rfl)
  obtain ⟨d1, d2, d3, d4, d5, d6⟩ := hS.w.wk hw
  have n0 : fwOK none := fun y h => by cases h
  have ev : ∀ b, (fwX (-9) b).1 = fwM b := fun b => by cases b <;> rfl
  refine ⟨fwM (fwL (spR s.1 w) (2 ^ s.1 0) 0 none), s, hS, fun m hX => ?_, fun m hM => ?_⟩
  · obtain ⟨m1, i1, i2, i3⟩ := X_look hS.w.b hw hX.x
    have hX1 := hX.lk (show w < 6 by omega) i3
    refine ⟨m1, ?_, hX1, fun a i q => i3 a i (by omega) (by omega)⟩
    have c0 : m1 (44 + w) 0 = nI (s.1 (153 + 6 * w)) := (hX1.x.w (k := 0) (by omega) (by omega)).trans (dcN (show (s.1 (153 + 6 * w)) < 999 by omega))
    have lp := X_fsL hS hX1 hw i2 (2 ^ s.1 0) fU 0 none (by omega) (by show _ < 300; omega) n0
    rw [ev (fwL (spR s.1 w) (2 ^ s.1 0) 0 none)] at lp
    unfold f_X8_stop
    refine (bnd_of (X_wrk1 hS hX hw)).trans ?_
    refine (if_neg (by decide)).trans ?_
    have eb : f_X5_fewestToStop (nI w) m = some (fwM (fwL (spR s.1 w) (2 ^ s.1 0) 0 none), m1) := by
      unfold f_X5_fewestToStop
      refine (bnd_of i1).trans ?_
      refine (bnd_of (ckN (show w < 6 by omega) (by decide))).trans ?_
      refine (bnd_of (rdX (k := 0) rfl (by decide) (by decide) c0)).trans ?_
      exact (bnd_of lp).trans rfl
    exact (bnd_of eb).trans rfl
  · obtain ⟨m1, u, i1, i2, i3⟩ := M_stL hS hw (2 ^ s.1 0) fU 0 (s.1 2) none m (by omega) (by show _ < 300; omega) n0 hM.un
    refine ⟨m_up m1 189 2 (nI (s.1 2)), ?_, i2.st0 hS, fun a i q => by rw [m_up_na (by omega)]; exact i3 a i (by omega) (by omega) (by omega) (by omega)⟩
    have c2 : m 189 2 = nI (s.1 2) := hM.s.n (by decide) (by have := hS.w.s256; omega)
    unfold f_X9_stop
    refine (bnd_of (M_wrk1 hS hM hw)).trans ?_
    refine (if_neg (by decide)).trans ?_
    refine (bnd_of (rdX (k := 2) rfl (by decide) (by decide) c2)).trans ?_
    refine (bnd_of i1).trans ?_
    exact (bnd_of (wrN (k := 2) (by decide) (by decide))).trans rfl
