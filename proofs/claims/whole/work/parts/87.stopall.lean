/-! stopAll -/
def stW (t : Nat → Nat) (x w : Nat) : Bool := decide (x / 2 ^ (t (153 + 6 * w)) % 2 = 0) && can (tset t 2 (t 2 ||| x)) 999 w
def saR (t : Nat → Nat) (x : Nat) : Bool := !(anyF (stW t x) 0 (t 1))
theorem anyS (f : Nat → Bool) (i k : Nat) : anyF f i (k + 1) = (f i || anyF f (i + 1) k) := rfl
section StopAll
variable {s : aSt}
theorem X_soL (hS : SI s) {m : mM} (hX : XI s m) (hk : ∀ w, w < s.1 1 → lkd s.1 w m) {x : Nat} (hx : x < 2 ^ s.1 0) : ∀ (k n w : Nat), w + k = s.1 1 → k < n → f_X5_stopsOthers_L2 (nI x) m n (nI w) = some (if anyF (stW s.1 x) w k = true then .inl (0 : Int32) else .inr ()) := by
  have h0 := hS.w.h0
  have w0 := hS.w.w0
  have p8 : 2 ^ s.1 0 ≤ 2 ^ 8 := Nat.pow_le_pow_right (by decide) h0
  intro k
  induction k with
  | zero =>
    intro n w hw hn
    obtain ⟨n, rfl⟩ : ∃ z, n = z + 1 := ⟨n - 1, by omega⟩
    rw [f_X5_stopsOthers_L2]
    exact if_pos (by rw [hX.o1]; exact nI_le (by omega) (by omega))
  | succ k ih =>
    intro n w hw hn
    obtain ⟨n, rfl⟩ : ∃ z, n = z + 1 := ⟨n - 1, by omega⟩
    have hw1 : w < s.1 1 := by omega
    obtain ⟨d1, d2, d3, d4, d5, d6⟩ := hS.w.wk hw1
    have c0 : m (44 + w) 0 = nI (s.1 (153 + 6 * w)) := (hX.x.w (k := 0) (by omega) (by omega)).trans (dcN (show (s.1 (153 + 6 * w)) < 999 by omega))
    have i1 := ih n (w + 1) (by omega) (by omega)
    rw [f_X5_stopsOthers_L2]
    refine (if_neg (by rw [hX.o1]; exact nI_ge (by omega) (by omega))).trans ?_
    refine (bnd_of (ckN (show w < 6 by omega) (by decide))).trans ?_
    refine (bnd_of (rdX (k := 0) rfl (by decide) (by decide) c0)).trans ?_
    refine (bnd_of (X_isIn (a := x) (k := (s.1 (153 + 6 * w))) (by omega) (by omega))).trans ?_
    by_cases e2 : x / 2 ^ (s.1 (153 + 6 * w)) % 2 = 0
    · refine (if_pos (nIq e2)).trans ?_
      rw [hX.o2, orN]
      refine (bnd_of (X_canBe hS.w.b hw1 hX.x (hk w hw1) (L := 0) (lt := 999) (or_st hS hx) (by decide) z_bit)).trans ?_
      by_cases e3 : can (tset s.1 2 (s.1 2 ||| x)) 999 w = true
      · rw [e3]
        refine (if_neg (by decide)).trans ?_
        have : stW s.1 x w = true := by unfold stW; rw [e3, decide_eq_true e2]; rfl
        rw [anyS, this, Bool.true_or, if_pos rfl]
      · have e3' : can (tset s.1 2 (s.1 2 ||| x)) 999 w = false := by simpa using e3
        rw [e3']
        refine (if_pos (by decide)).trans ?_
        have : stW s.1 x w = false := by unfold stW; rw [e3']; simp
        rw [anyS, this, Bool.false_or, nI_1]; exact i1
    · refine (if_neg (nIn (b := 0) (by omega) (by omega) e2)).trans ?_
      have : stW s.1 x w = false := by unfold stW; rw [decide_eq_false e2]; rfl
      rw [anyS, this, Bool.false_or, nI_1]; exact i1
theorem X_so (hS : SI s) {m : mM} (hX : XI s m) (hk : ∀ w, w < s.1 1 → lkd s.1 w m) {x : Nat} (hx : x < 2 ^ s.1 0) : f_X5_stopsOthers (nI x) m = some (nI (b2n (saR s.1 x))) := by
  have w0 := hS.w.w0
  unfold f_X5_stopsOthers saR
  refine (bnd_of (X_soL hS hX hk hx (s.1 1) fU 0 (by omega) (by show _ < 300; omega))).trans ?_
  cases anyF (stW s.1 x) 0 (s.1 1) <;> rfl
theorem X_faL (hS : SI s) {m : mM} (hX : XI s m) (hk : ∀ w, w < s.1 1 → lkd s.1 w m) : ∀ (k n x : Nat) (b : Option Nat), x + k = 2 ^ s.1 0 → k < n → fwOK b → f_X5_fewestToStopEach_L31 m n (fwX 0 b).1 (fwX 0 b).2 (nI x) = some (fwX 0 (fwL (saR s.1) k x b)).1 := by
  have h0 := hS.w.h0
  have p8 : 2 ^ s.1 0 ≤ 2 ^ 8 := Nat.pow_le_pow_right (by decide) h0
  have p0 := Nat.two_pow_pos (s.1 0)
  intro k
  induction k with
  | zero =>
    intro n x b hx hn hb
    obtain ⟨n, rfl⟩ : ∃ z, n = z + 1 := ⟨n - 1, by omega⟩
    rw [f_X5_fewestToStopEach_L31]
    refine (bnd_of (X_ev hS hX)).trans ?_
    exact if_pos (nI_lt (by omega) (by omega))
  | succ k ih =>
    intro n x b hx hn hb
    obtain ⟨n, rfl⟩ : ∃ z, n = z + 1 := ⟨n - 1, by omega⟩
    have hx0 : x < 2 ^ s.1 0 := by omega
    rw [f_X5_fewestToStopEach_L31]
    refine (bnd_of (X_ev hS hX)).trans ?_
    refine (if_neg (nI_nlt (by omega) (by omega))).trans ?_
    simp only [fwL]
    by_cases e1 : fewer x b = true
    · refine (if_neg (fun z => by rw [(few_X hb (by omega)).mp z] at e1; cases e1)).trans ?_
      refine (bnd_of (X_so hS hX hk hx0)).trans ?_
      by_cases e3 : saR s.1 x = true
      · rw [e3]
        refine (if_neg (by decide)).trans ?_
        rw [e1, if_pos (by rfl), nI_1, bitC_n (by omega)]
        exact ih n (x + 1) (some x) (by omega) (by omega) (fun y hy => by cases hy; omega)
      · have e3' : saR s.1 x = false := by simpa using e3
        rw [e3']
        refine (if_pos (by decide)).trans ?_
        rw [if_neg (by simp), nI_1]
        exact ih n (x + 1) b (by omega) (by omega) hb
    · have e1' : fewer x b = false := by simpa using e1
      refine (if_pos ((few_X hb (by omega)).mpr e1')).trans ?_
      rw [if_neg (by rw [e1']; simp), nI_1]
      exact ih n (x + 1) b (by omega) (by omega) hb
theorem X_loL (hS : SI s) : ∀ (k n w : Nat) (m : mM), w + k = s.1 1 → k < n → XI s m → (∀ x, x < w → lkd s.1 x m) → ∃ m', f_X5_fewestToStopEach_L2 n (nI w) m = some m' ∧ XI s m' ∧ (∀ x, x < s.1 1 → lkd s.1 x m') ∧ loF m m' := by
  have w0 := hS.w.w0
  intro k
  induction k with
  | zero =>
    intro n w m hw hn hX hk
    obtain ⟨n, rfl⟩ : ∃ z, n = z + 1 := ⟨n - 1, by omega⟩
    refine ⟨m, ?_, hX, fun x hx => hk x (by omega), loF.rf m⟩
    rw [f_X5_fewestToStopEach_L2]
    exact if_pos (by rw [hX.o1]; exact nI_le (by omega) (by omega))
  | succ k ih =>
    intro n w m hw hn hX hk
    obtain ⟨n, rfl⟩ : ∃ z, n = z + 1 := ⟨n - 1, by omega⟩
    have hw1 : w < s.1 1 := by omega
    obtain ⟨m1, j1, j2, j3⟩ := X_look hS.w.b hw1 hX.x
    have hX1 := hX.lk (show w < 6 by omega) j3
    obtain ⟨m', i1, i2, i3, i4⟩ := ih n (w + 1) m1 (by omega) (by omega) hX1 (fun x hx h hh => by
      by_cases e : x = w
      · subst e; exact j2 h hh
      · rw [j3 _ _ (by omega) (by omega), j3 _ _ (by omega) (by omega)]
        exact hk x (by omega) h hh)
    refine ⟨m', ?_, i2, i3, fun a i q => (i4 a i q).trans (j3 a i (by omega) (by omega))⟩
    rw [f_X5_fewestToStopEach_L2]
    refine (if_neg (by rw [hX.o1]; exact nI_ge (by omega) (by omega))).trans ?_
    refine (bnd_of j1).trans ?_
    rw [nI_1]; exact i1
theorem M_asL (hS : SI s) {x : Nat} (hx : x < 2 ^ s.1 0) : ∀ (k n w : Nat) (m : mM), w + k = s.1 1 → k < n → MI (tset s.1 2 (s.1 2 ||| x), s.2) m → ∃ m', f_X9_areStopped_L2 (nI x) n (nI w) m = some (if anyF (stW s.1 x) w k = true then .inl ((0 : Int32), m') else .inr m') ∧ MI (tset s.1 2 (s.1 2 ||| x), s.2) m' ∧ mF m m' := by
  have h0 := hS.w.h0
  have w0 := hS.w.w0
  have p8 : 2 ^ s.1 0 ≤ 2 ^ 8 := Nat.pow_le_pow_right (by decide) h0
  have hv := or_st hS hx
  have hS2 := hS.st2 hv
  intro k
  induction k with
  | zero =>
    intro n w m hw hn hM
    obtain ⟨n, rfl⟩ : ∃ z, n = z + 1 := ⟨n - 1, by omega⟩
    refine ⟨m, ?_, hM, mF.rf m⟩
    rw [f_X9_areStopped_L2]
    refine (bnd_of (rdX (k := 1) rfl (by decide) (by decide) (hM.u1 hS))).trans ?_
    exact if_pos (nI_le (by omega) (by omega))
  | succ k ih =>
    intro n w m hw hn hM
    obtain ⟨n, rfl⟩ : ∃ z, n = z + 1 := ⟨n - 1, by omega⟩
    have hw1 : w < s.1 1 := by omega
    obtain ⟨d1, d2, d3, d4, d5, d6⟩ := hS.w.wk hw1
    have ebit : (nI x >>> (nI (s.1 (153 + 6 * w)) &&& 31)) &&& 1 = nI (x / 2 ^ (s.1 (153 + 6 * w)) % 2) := by
      show (nI x >>> (nI (s.1 (153 + 6 * w)) &&& nI 31)) &&& nI 1 = _
      rw [shN (by omega) (by omega), an1]
    have st : f_X9_areStopped_L2 (nI x) (n + 1) (nI w) m = (if nI (x / 2 ^ (s.1 (153 + 6 * w)) % 2) = (0 : Int32) then (bnd (f_X9_costOf (nI w) m) fun q5 => if q5.1 < 0 then f_X9_areStopped_L2 (nI x) n (nI w + 1) q5.2 else some (.inl ((0 : Int32), q5.2))) else f_X9_areStopped_L2 (nI x) n (nI w + 1) m) := by
      rw [f_X9_areStopped_L2]
      refine (bnd_of (rdX (k := 1) rfl (by decide) (by decide) (hM.u1 hS))).trans ?_
      refine (if_neg (nI_ge (by omega) (by omega))).trans ?_
      refine (bnd_of (hM.ud hS hw1)).trans ?_
      rw [ebit]
    by_cases e2 : x / 2 ^ (s.1 (153 + 6 * w)) % 2 = 0
    · have hw2 : w < tset s.1 2 (s.1 2 ||| x) 1 := by rw [tset_ne (by omega)]; exact hw1
      obtain ⟨m1, j1, -, j2⟩ := M_costOf hS2 hM (w := w) hw2
      have ok : bOK (one (tset s.1 2 (s.1 2 ||| x)) 999 w) := one_bok (lt := 999) hS2.w.b hw2
      by_cases e3 : can (tset s.1 2 (s.1 2 ||| x)) 999 w = true
      · have : stW s.1 x w = true := by unfold stW; rw [e3, decide_eq_true e2]; rfl
        refine ⟨m1, ?_, hM.n j2.n, j2⟩
        rw [anyS, this, Bool.true_or, if_pos rfl, st]
        refine (if_pos (nIq e2)).trans ?_
        refine (bnd_of j1).trans ?_
        refine (if_neg (fun z => ?_))
        have := (bc_neg ok).mp z
        unfold can at e3
        rw [this] at e3; cases e3
      · have e3' : can (tset s.1 2 (s.1 2 ||| x)) 999 w = false := by simpa using e3
        have : stW s.1 x w = false := by unfold stW; rw [e3']; simp
        obtain ⟨m', i1, i2, i3⟩ := ih n (w + 1) m1 (by omega) (by omega) (hM.n j2.n)
        refine ⟨m', ?_, i2, j2.tr i3⟩
        rw [anyS, this, Bool.false_or, st]
        refine (if_pos (nIq e2)).trans ?_
        refine (bnd_of j1).trans ?_
        refine (if_pos ((bc_neg ok).mpr e3')).trans ?_
        rw [nI_1]; exact i1
    · have : stW s.1 x w = false := by unfold stW; rw [decide_eq_false e2]; rfl
      obtain ⟨m', i1, i2, i3⟩ := ih n (w + 1) m (by omega) (by omega) hM
      refine ⟨m', ?_, i2, i3⟩
      rw [anyS, this, Bool.false_or, st]
      refine (if_neg (nIn (b := 0) (by omega) (by omega) e2)).trans ?_
      rw [nI_1]; exact i1
theorem M_as (hS : SI s) {x : Nat} {m : mM} (hx : x < 2 ^ s.1 0) (hM : MI (tset s.1 2 (s.1 2 ||| x), s.2) m) : ∃ m', f_X9_areStopped (nI x) m = some (nI (b2n (saR s.1 x)), m') ∧ MI (tset s.1 2 (s.1 2 ||| x), s.2) m' ∧ mF m m' := by
  have w0 := hS.w.w0
  obtain ⟨m', i1, i2, i3⟩ := M_asL hS hx (s.1 1) fU 0 m (by omega) (by show _ < 300; omega) hM
  refine ⟨m', ?_, i2, i3⟩
  unfold f_X9_areStopped saR
  refine (bnd_of i1).trans ?_
  cases anyF (stW s.1 x) 0 (s.1 1) <;> rfl
theorem M_saL (hS : SI s) : ∀ (k n x u : Nat) (b : Option Nat) (m : mM), x + k = 2 ^ s.1 0 → k < n → fwOK b → MI (tset s.1 2 u, s.2) m → ∃ m' u', f_X9_stopAll_L12 (nI (s.1 2)) n (fwM b) (nI x) m = some (fwM (fwL (saR s.1) k x b), m') ∧ MI (tset s.1 2 u', s.2) m' ∧ sF m m' := by
  have h0 := hS.w.h0
  have p8 : 2 ^ s.1 0 ≤ 2 ^ 8 := Nat.pow_le_pow_right (by decide) h0
  have p0 := Nat.two_pow_pos (s.1 0)
  have esh : (1 : Int32) <<< (nI (s.1 0) &&& 31) = nI (2 ^ s.1 0) := bit_i (by omega)
  intro k
  induction k with
  | zero =>
    intro n x u b m hx hn hb hM
    obtain ⟨n, rfl⟩ : ∃ z, n = z + 1 := ⟨n - 1, by omega⟩
    refine ⟨m, u, ?_, hM, fun _ _ _ _ _ _ => rfl⟩
    rw [f_X9_stopAll_L12]
    refine (bnd_of (rdX (k := 0) rfl (by decide) (by decide) (hM.u0 hS))).trans ?_
    rw [esh]
    exact if_pos (nI_le (by omega) (by omega))
  | succ k ih =>
    intro n x u b m hx hn hb hM
    obtain ⟨n, rfl⟩ : ∃ z, n = z + 1 := ⟨n - 1, by omega⟩
    have hx0 : x < 2 ^ s.1 0 := by omega
    have hv := or_st hS hx0
    have st : f_X9_stopAll_L12 (nI (s.1 2)) (n + 1) (fwM b) (nI x) m = (if fwM b < 0 then (bnd (wrA 189 189 (2 : Int32) (nI (s.1 2) ||| nI x) m) fun m5 => bnd (f_X9_areStopped (nI x) m5) fun q7 => if q7.1 = 0 then f_X9_stopAll_L12 (nI (s.1 2)) n (fwM b) (nI x + 1) q7.2 else f_X9_stopAll_L12 (nI (s.1 2)) n (nI x) (nI x + 1) q7.2) else (bnd (f_X9_bits (nI x) m) fun q10 => bnd (f_X9_bits (fwM b) m) fun q12 => if q10 < q12 then (bnd (wrA 189 189 (2 : Int32) (nI (s.1 2) ||| nI x) m) fun m14 => bnd (f_X9_areStopped (nI x) m14) fun q16 => if q16.1 = 0 then f_X9_stopAll_L12 (nI (s.1 2)) n (fwM b) (nI x + 1) q16.2 else f_X9_stopAll_L12 (nI (s.1 2)) n (nI x) (nI x + 1) q16.2) else f_X9_stopAll_L12 (nI (s.1 2)) n (fwM b) (nI x + 1) m)) := by
      rw [f_X9_stopAll_L12]
      refine (bnd_of (rdX (k := 0) rfl (by decide) (by decide) (hM.u0 hS))).trans ?_
      rw [esh]
      exact if_neg (nI_ge (by omega) (by omega))
    have keep : ∀ (m1 : mM) (u1 : Nat), MI (tset s.1 2 u1, s.2) m1 → sF m m1 → (fewer x b && saR s.1 x) = false → ∃ m' u', f_X9_stopAll_L12 (nI (s.1 2)) n (fwM b) (nI x + 1) m1 = some (fwM (fwL (saR s.1) (k + 1) x b), m') ∧ MI (tset s.1 2 u', s.2) m' ∧ sF m m' := fun m1 u1 a1 a2 a3 => by
      obtain ⟨m', u', i1, i2, i3⟩ := ih n (x + 1) u1 b m1 (by omega) (by omega) hb a1
      refine ⟨m', u', ?_, i2, a2.tr i3⟩
      simp only [fwL]
      rw [if_neg (by rw [a3]; decide), nI_1]; exact i1
    have test : fewer x b = true → ∃ m' u', (bnd (wrA 189 189 (2 : Int32) (nI (s.1 2) ||| nI x) m) fun m5 => bnd (f_X9_areStopped (nI x) m5) fun q7 => if q7.1 = 0 then f_X9_stopAll_L12 (nI (s.1 2)) n (fwM b) (nI x + 1) q7.2 else f_X9_stopAll_L12 (nI (s.1 2)) n (nI x) (nI x + 1) q7.2) = some (fwM (fwL (saR s.1) (k + 1) x b), m') ∧ MI (tset s.1 2 u', s.2) m' ∧ sF m m' := fun e1 => by
      have hM1 := hM.st2 (v := s.1 2 ||| x) (by omega)
      obtain ⟨m1, j1, j2, j3⟩ := M_as hS hx0 hM1
      have f1 : sF m m1 := (sF.u m _).tr j3.sf
      have pre : ∀ r, (if nI (b2n (saR s.1 x)) = 0 then f_X9_stopAll_L12 (nI (s.1 2)) n (fwM b) (nI x + 1) m1 else f_X9_stopAll_L12 (nI (s.1 2)) n (nI x) (nI x + 1) m1) = r → (bnd (wrA 189 189 (2 : Int32) (nI (s.1 2) ||| nI x) m) fun m5 => bnd (f_X9_areStopped (nI x) m5) fun q7 => if q7.1 = 0 then f_X9_stopAll_L12 (nI (s.1 2)) n (fwM b) (nI x + 1) q7.2 else f_X9_stopAll_L12 (nI (s.1 2)) n (nI x) (nI x + 1) q7.2) = r := fun r hr => by
        rw [orN]
        refine (bnd_of (wrN (k := 2) (by decide) (by decide))).trans ?_
        exact (bnd_of j1).trans hr
      by_cases e3 : saR s.1 x = true
      · obtain ⟨m', u', i1, i2, i3⟩ := ih n (x + 1) _ (some x) m1 (by omega) (by omega) (fun y hy => by cases hy; omega) j2
        refine ⟨m', u', pre _ ?_, i2, f1.tr i3⟩
        rw [e3]
        refine (if_neg (by decide)).trans ?_
        simp only [fwL]
        rw [e1, e3, if_pos (by rfl), nI_1]; exact i1
      · have e3' : saR s.1 x = false := by simpa using e3
        obtain ⟨m', u', i1, i2, i3⟩ := keep m1 _ j2 f1 (by rw [e3']; simp)
        refine ⟨m', u', pre _ ?_, i2, i3⟩
        rw [e3']
        exact (if_pos (by decide)).trans i1
    rw [st]
    cases b with
    | none =>
      rw [if_pos (show fwM none < 0 by decide)]
      exact test rfl
    | some y =>
      have hy := hb y rfl
      rw [if_neg (show ¬ fwM (some y) < 0 from nI_pos (by omega))]
      rw [bnd_of (M_bits (show x < 2 ^ 28 by omega))]
      have by' : f_X9_bits (fwM (some y)) m = some (nI (pop y)) := M_bits (by omega)
      rw [bnd_of by']
      have q1 := pop_le8 (show x < 2 ^ 8 by omega)
      have q2 := pop_le8 hy
      by_cases e1 : pop x < pop y
      · rw [if_pos (nI_lt e1 (by omega))]
        exact test (few_t e1)
      · rw [if_neg (nI_nlt (by omega) (by omega))]
        exact keep m u hM (fun _ _ _ _ _ _ => rfl) (by rw [few_f e1]; rfl)
theorem all_b {n d : Nat} (hd : d < n) : (2 ^ n - 1) / 2 ^ d % 2 = 1 := by
  have h : (2 ^ n - 1).testBit d = true := by rw [Nat.testBit_two_pow_sub_one]; exact decide_eq_true hd
  rw [Nat.testBit_eq_decide_div_mod_eq, decide_eq_true_eq] at h
  exact h
theorem saR_all (hS : SI s) : saR s.1 (2 ^ s.1 0 - 1) = true := by
  unfold saR
  have : anyF (stW s.1 (2 ^ s.1 0 - 1)) 0 (s.1 1) = false := by
    cases e : anyF (stW s.1 (2 ^ s.1 0 - 1)) 0 (s.1 1) with
    | false => rfl
    | true =>
      obtain ⟨w, -, h2, h3⟩ := (anyF_iff _ _ _).mp e
      have hd := (hS.w.wk (show w < s.1 1 by omega)).1
      unfold stW at h3
      rw [all_b hd] at h3
      cases h3
  rw [this]; rfl
theorem fwL_some {P : Nat → Bool} {N : Nat} (h : P (N - 1) = true) : ∀ (k x : Nat) (b : Option Nat), x + k = N → (0 < k ∨ b ≠ none) → fwL P k x b ≠ none := by
  intro k
  induction k with
  | zero => intro x b _ hb; exact hb.resolve_left (by omega)
  | succ k ih =>
    intro x b hx hb
    simp only [fwL]
    refine ih (x + 1) _ (by omega) ?_
    by_cases e : 0 < k
    · exact Or.inl e
    · refine Or.inr ?_
      have : x = N - 1 := by omega
      subst this
      rw [h]
      cases b with
      | none => rw [if_pos (by rfl)]; intro z; cases z
      | some y => split <;> (intro z; cases z)
end StopAll
theorem op_stopAll : Op f_X8_stopAll f_X9_stopAll := by
  intro s hS
  have w0 := hS.w.w0
  have h0 := hS.w.h0
  have p8 : 2 ^ s.1 0 ≤ 2 ^ 8 := Nat.pow_le_pow_right (by decide) h0
  have p0 := Nat.two_pow_pos (s.1 0)
  have n0 : fwOK none := fun y h => by cases h
  have ns := fwL_some (P := saR s.1) (N := 2 ^ s.1 0) (saR_all hS) (2 ^ s.1 0) 0 none (by omega) (Or.inl p0)
  have ev : ∀ b, b ≠ none → (fwX 0 b).1 = fwM b := fun b hb => by
    cases b
    · exact absurd rfl hb
    · rfl
  refine ⟨fwM (fwL (saR s.1) (2 ^ s.1 0) 0 none), s, hS, fun m hX => ?_, fun m hM => ?_⟩
  · obtain ⟨m1, i1, i2, i3, i4⟩ := X_loL hS (s.1 1) fU 0 m (by omega) (by show _ < 300; omega) hX (fun x hx => absurd hx (Nat.not_lt_zero _))
    refine ⟨m1, ?_, i2, i4⟩
    have lp := X_faL hS i2 i3 (2 ^ s.1 0) fU 0 none (by omega) (by show _ < 300; omega) n0
    rw [ev (fwL (saR s.1) (2 ^ s.1 0) 0 none) ns] at lp
    have eb : f_X5_fewestToStopEach m = some (fwM (fwL (saR s.1) (2 ^ s.1 0) 0 none), m1) := by
      unfold f_X5_fewestToStopEach
      refine (bnd_of i1).trans ?_
      exact (bnd_of lp).trans rfl
    unfold f_X8_stopAll
    exact (bnd_of eb).trans rfl
  · obtain ⟨m1, u, i1, i2, i3⟩ := M_saL hS (2 ^ s.1 0) fU 0 (s.1 2) none m (by omega) (by show _ < 300; omega) n0 hM.un
    refine ⟨m_up m1 189 2 (nI (s.1 2)), ?_, i2.st0 hS, fun a i q => by rw [m_up_na (by omega)]; exact i3 a i (by omega) (by omega) (by omega) (by omega)⟩
    have c2 : m 189 2 = nI (s.1 2) := hM.s.n (by decide) (by have := hS.w.s256; omega)
    unfold f_X9_stopAll
    refine (bnd_of (rdX (k := 2) rfl (by decide) (by decide) c2)).trans ?_
    refine (bnd_of i1).trans ?_
    exact (bnd_of (wrN (k := 2) (by decide) (by decide))).trans rfl
