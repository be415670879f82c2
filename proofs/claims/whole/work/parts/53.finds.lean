/-! the reference's ONE -/
def wg (b : Option (Nat × Nat)) (bits cost : Nat) : Option (Nat × Nat) :=
  if 100000 ≤ cost then b else match b with
    | none => some (cost, bits)
    | some (c, x) => if c < cost then some (c, x) else if cost = c then (if bits < x then some (cost, bits) else some (c, x)) else some (cost, bits)
def bcost (b : Option (Nat × Nat)) : Int32 := match b with
  | none => -nI 9
  | some x => nI x.1
def bbits (b : Option (Nat × Nat)) : Int32 := match b with
  | none => nI 0
  | some x => nI x.2
def bOK (b : Option (Nat × Nat)) : Prop := ∀ x, b = some x → x.1 < 100000 ∧ x.2 < 2 ^ 31
theorem bOK_wg {b : Option (Nat × Nat)} {bits cost : Nat} (h : bOK b) (hb : bits < 2 ^ 31) : bOK (wg b bits cost) := by
  unfold wg
  intro x
  split
  · exact h x
  · cases b with
    | none => intro e; cases e; exact ⟨by show cost < _; omega, hb⟩
    | some y =>
      obtain ⟨c, z⟩ := y
      have := h (c, z) rfl
      simp only
      split
      · intro e; cases e; exact this
      · split
        · split
          · intro e; cases e; exact ⟨by show cost < _; omega, hb⟩
          · intro e; cases e; exact this
        · intro e; cases e; exact ⟨by show cost < _; omega, hb⟩
/-- all but ONE's own cells is as it was -/
def mF (m m' : mM) : Prop := ∀ a i, a ≠ 195 → a ≠ 196 → ¬ (a = 187 ∧ (i = 11 ∨ i = 12)) → m' a i = m a i
theorem mF.rf (m : mM) : mF m m := fun _ _ _ _ _ => rfl
theorem mF.tr {m m1 m2 : mM} (h1 : mF m m1) (h2 : mF m1 m2) : mF m m2 := fun a i x y z => (h2 a i x y z).trans (h1 a i x y z)
theorem mF.ms {t : Nat → Nat} {m m' : mM} (h : mF m m') (hM : MS t m) : MS t m' := fun i hi => (h 189 i (by decide) (by decide) (by omega)).trans (hM i hi)
theorem mF.lt {m m' : mM} {v : Int32} (h : mF m m') (hl : m 187 10 = v) : m' 187 10 = v := (h 187 10 (by decide) (by decide) (by omega)).trans hl
theorem mF.u12 (m : mM) (v : Int32) : mF m (m_up m 187 12 v) := fun a i x y z => by
  unfold m_up
  rw [if_neg (fun q => z ⟨q.1, Or.inr q.2⟩)]
theorem mF.u11 (m : mM) (v : Int32) : mF m (m_up m 187 11 v) := fun a i x y z => by
  unfold m_up
  rw [if_neg (fun q => z ⟨q.1, Or.inl q.2⟩)]
theorem mF.u195 (m : mM) (k : Nat) (v : Int32) : mF m (m_up m 195 k v) := fun a i x y z => by
  unfold m_up
  rw [if_neg (fun q => x q.1)]
theorem mF.u196 (m : mM) (k : Nat) (v : Int32) : mF m (m_up m 196 k v) := fun a i x y z => by
  unfold m_up
  rw [if_neg (fun q => y q.1)]
/-- ONE so far -/
def bS (b : Option (Nat × Nat)) (m : mM) : Prop := m 187 12 = bcost b ∧ m 187 11 = bbits b
/-- the rows of days are as they were -/
def dS (m m' : mM) : Prop := m' 195 = m 195 ∧ m' 196 = m 196
theorem set_b (m : mM) (c x : Nat) : bS (some (c, x)) (m_up (m_up m 187 12 (nI c)) 187 11 (nI x)) := ⟨by simp [m_up, bcost], by simp [m_up, bbits]⟩
theorem set_d (m : mM) (c x : Int32) : dS m (m_up (m_up m 187 12 c) 187 11 x) := ⟨by funext j; simp [m_up], by funext j; simp [m_up]⟩
theorem set_f (m : mM) (c x : Int32) : mF m (m_up (m_up m 187 12 c) 187 11 x) := (mF.u12 m c).tr (mF.u11 _ x)
theorem M_weighs {b : Option (Nat × Nat)} {m : mM} {bits cost : Nat} (hB : bS b m) (hk : bOK b) (hb : bits < 2 ^ 31) (hc : cost < 2 ^ 31) : ∃ m', f_X9_weighs (nI bits) (nI cost) m = some m' ∧ bS (wg b bits cost) m' ∧ mF m m' ∧ dS m m' := by
  unfold f_X9_weighs wg
  by_cases e1 : 100000 ≤ cost
  · refine ⟨m, (if_pos (nI_le e1 hc)).trans rfl, ?_, mF.rf m, rfl, rfl⟩
    rw [if_pos e1]; exact hB
  · have q1 : ¬ (100000 : Int32) ≤ nI cost := nI_ge (b := 100000) (by omega) (by decide)
    rw [if_neg q1, if_neg e1]
    cases b with
    | none =>
      have q2 : m 187 12 < 0 := by rw [hB.1]; decide
      refine ⟨_, (if_pos q2).trans rfl, set_b m cost bits, set_f _ _ _, set_d _ _ _⟩
    | some y =>
      obtain ⟨c, x⟩ := y
      obtain ⟨k1, k2⟩ := hk (c, x) rfl
      have k1 : c < 100000 := k1
      have k2 : x < 2 ^ 31 := k2
      have z1 : m 187 12 = nI c := hB.1
      have z2 : m 187 11 = nI x := hB.2
      have q2 : ¬ m 187 12 < 0 := by rw [z1]; exact nI_pos (by omega)
      rw [if_neg q2]
      simp only
      by_cases e2 : c < cost
      · refine ⟨m, (if_pos (by rw [z1]; exact nI_lt e2 hc)).trans rfl, ?_, mF.rf m, rfl, rfl⟩
        rw [if_pos e2]; exact hB
      · have q3 : ¬ m 187 12 < nI cost := by rw [z1]; exact nI_nlt (by omega) (by omega)
        rw [if_neg q3, if_neg e2]
        by_cases e3 : cost = c
        · have q4 : nI cost = m 187 12 := by rw [z1]; exact nIq e3
          rw [if_pos q4, if_pos e3]
          by_cases e4 : bits < x
          · refine ⟨_, (if_pos (by rw [z2]; exact nI_lt e4 k2)).trans rfl, ?_, set_f _ _ _, set_d _ _ _⟩
            rw [if_pos e4]; exact set_b m cost bits
          · refine ⟨m, (if_neg (by rw [z2]; exact nI_nlt (by omega) hb)).trans rfl, ?_, mF.rf m, rfl, rfl⟩
            rw [if_neg e4]; exact hB
        · have q4 : ¬ nI cost = m 187 12 := by rw [z1]; exact nIn hc (by omega) e3
          rw [if_neg q4, if_neg e3]
          exact ⟨_, rfl, set_b m cost bits, set_f _ _ _, set_d _ _ _⟩
def bitsR (n x : Nat) : Nat := (2 ^ n - 1) * 2 ^ x
theorem bitsR_lt {n x : Nat} (h : n + x ≤ 28) : bitsR n x < 2 ^ 28 := by
  unfold bitsR
  have h1 : (2 ^ n - 1) * 2 ^ x < 2 ^ n * 2 ^ x := Nat.mul_lt_mul_of_pos_right (Nat.sub_lt (Nat.two_pow_pos n) (by decide)) (Nat.two_pow_pos x)
  rw [← Nat.pow_add] at h1
  exact Nat.lt_of_lt_of_le h1 (Nat.pow_le_pow_right (by decide) h)
theorem bitsR_i {n x : Nat} (hn : n ≤ 6) (h : n + x ≤ 28) : ((((1 : Int32) <<< (nI n &&& 31)) - 1) <<< (nI x &&& 31)) = nI (bitsR n x) := by
  have p : 2 ^ n ≤ 2 ^ 6 := Nat.pow_le_pow_right (by decide) hn
  have p0 := Nat.two_pow_pos n
  show (((nI 1) <<< (nI n &&& nI 31)) - nI 1) <<< (nI x &&& nI 31) = _
  rw [slN (by omega) (by omega), Nat.one_mul, pk_sub (by omega), slN (by omega) (Nat.lt_trans (bitsR_lt h) (by decide))]
  rfl
def bestR (t : Nat → Nat) (lt w : Nat) : Nat → Nat → Option (Nat × Nat) → Option (Nat × Nat)
  | 0, _, b => b
  | k + 1, x, b => bestR t lt w k (x + 1) (wg b (bitsR (t (153 + 6 * w + 2)) x) (rF t lt w x (t (153 + 6 * w + 2))))
section MFinds
variable {t : Nat → Nat}
theorem M_fL29 (hW : WT t) {lt w : Nat} (hlt : lt < 1000) (hw : w < t 1) : ∀ (k n x : Nat) (b : Option (Nat × Nat)) (m : mM), x + k = (t (153 + 6 * w + 3)) + 2 - (t (153 + 6 * w + 2)) → k < n → MS t m → m 187 10 = dc lt → bS b m → bOK b → ∃ m', f_X9_finds_L29 (nI w) (nI (t (153 + 6 * w + 2))) n (nI x) m = some m' ∧ bS (bestR t lt w k x b) m' ∧ bOK (bestR t lt w k x b) ∧ mF m m' := by
  have h1 := hW.w0
  obtain ⟨d1, d2, d3, d4, d5, d6⟩ := hW.wk hw
  intro k
  induction k with
  | zero =>
    intro n x b m hx hn hM hl hB hk
    obtain ⟨n, rfl⟩ : ∃ z, n = z + 1 := ⟨n - 1, by omega⟩
    have o3 : f_X9_of (nI w) 3 m = some (nI (t (153 + 6 * w + 3))) := (M_of (k := 3) hM (by omega) (by omega)).trans (congrArg some (dcN (by omega)))
    refine ⟨m, ?_, hB, hk, mF.rf m⟩
    rw [f_X9_finds_L29]
    refine (bnd_of o3).trans ?_
    have e : nI x + nI (t (153 + 6 * w + 2)) - 1 = nI (x + (t (153 + 6 * w + 2)) - 1) := by rw [nI_add]; exact pk_sub (b := 1) (by omega)
    rw [e]
    exact if_pos (nI_lt (by omega) (by omega))
  | succ k ih =>
    intro n x b m hx hn hM hl hB hk
    obtain ⟨n, rfl⟩ : ∃ z, n = z + 1 := ⟨n - 1, by omega⟩
    have o3 : f_X9_of (nI w) 3 m = some (nI (t (153 + 6 * w + 3))) := (M_of (k := 3) hM (by omega) (by omega)).trans (congrArg some (dcN (by omega)))
    have hr := rF_le (lt := lt) hW.b hw (show x + (t (153 + 6 * w + 2)) ≤ 28 by omega)
    have hr2 : (t (153 + 6 * w + 2)) * 100000 ≤ 6 * 100000 := Nat.mul_le_mul_right _ d3.2
    have hbl := bitsR_lt (n := (t (153 + 6 * w + 2))) (x := x) (by omega)
    obtain ⟨m1, g1, g2, g3, g4⟩ := M_weighs (bits := bitsR (t (153 + 6 * w + 2)) x) (cost := rF t lt w x (t (153 + 6 * w + 2))) hB hk (by omega) (by omega)
    obtain ⟨m2, i1, i2, i3, i4⟩ := ih n (x + 1) _ m1 (by omega) (by omega) (g3.ms hM) (g3.lt hl) g2 (bOK_wg hk (by omega))
    refine ⟨m2, ?_, i2, i3, g3.tr i4⟩
    rw [f_X9_finds_L29]
    refine (bnd_of o3).trans ?_
    have e : nI x + nI (t (153 + 6 * w + 2)) - 1 = nI (x + (t (153 + 6 * w + 2)) - 1) := by rw [nI_add]; exact pk_sub (b := 1) (by omega)
    rw [e]
    refine (if_neg (nI_nlt (by omega) (by omega))).trans ?_
    refine (bnd_of (M_rowOf hM hW hl hlt hw (by omega))).trans ?_
    rw [bitsR_i d3.2 (by omega)]
    refine (bnd_of g1).trans ?_
    rw [nI_1]
    exact i1
/-- the cheapest hour of a day -/
def dB (t : Nat → Nat) (lt w : Nat) : Nat → Nat → Nat × Nat → Nat × Nat
  | 0, _, b => b
  | k + 1, h, b => dB t lt w k (h + 1) (if hF t lt w h < b.2 then (h, hF t lt w h) else b)
def cntD (t : Nat → Nat) (w d : Nat) : Nat := min 4 ((t (153 + 6 * w + 3)) + 1 - 4 * d)
def dR (t : Nat → Nat) (lt w d : Nat) : Nat × Nat := dB t lt w (cntD t w d) (4 * d) (999, 100000)
def dOK (b : Nat × Nat) : Prop := (b.1 < 28 ∨ b.1 = 999) ∧ b.2 ≤ 100000
theorem dB_ok (hW : WB t) {lt w : Nat} (hw : w < t 1) : ∀ (k h : Nat) (b : Nat × Nat), h + k ≤ 28 → dOK b → dOK (dB t lt w k h b) := by
  intro k
  induction k with
  | zero => intro h b _ hb; exact hb
  | succ k ih =>
    intro h b hh hb
    refine ih (h + 1) _ (by omega) ?_
    split
    · exact ⟨Or.inl (show h < 28 by omega), hF_le hW hw (by omega)⟩
    · exact hb
theorem dR_ok (hW : WB t) {lt w d : Nat} (hw : w < t 1) (hd : d < 7) : dOK (dR t lt w d) := dB_ok hW hw _ _ _ (by unfold cntD; omega) ⟨Or.inr rfl, Nat.le_refl _⟩
/-- but for a day's places -/
def mD (d : Nat) (m m' : mM) : Prop := ∀ a i, ¬ ((a = 195 ∨ a = 196) ∧ i = d) → m' a i = m a i
theorem mD.f {d : Nat} {m m' : mM} (h : mD d m m') : mF m m' := fun a i x y _ => h a i (fun q => q.1.elim x y)
theorem M_fL96 (hW : WT t) {lt w d : Nat} (hlt : lt < 1000) (hw : w < t 1) (hd : d < 7) : ∀ (k n h : Nat) (b : Nat × Nat) (m : mM), 4 * d ≤ h → h + k = 4 * d + cntD t w d → k < n → MS t m → m 187 10 = dc lt → m 195 d = dc b.1 → m 196 d = nI b.2 → dOK b → ∃ m', f_X9_finds_L96 (nI w) (nI (t (153 + 6 * w + 2))) (nI d) n (nI h) m = some m' ∧ m' 195 d = dc (dB t lt w k h b).1 ∧ m' 196 d = nI (dB t lt w k h b).2 ∧ mD d m m' := by
  have h1 := hW.w0
  obtain ⟨d1, d2, d3, d4, d5, d6⟩ := hW.wk hw
  have hc : cntD t w d ≤ 4 ∧ (cntD t w d = 4 ∨ (t (153 + 6 * w + 3)) < 4 * d + cntD t w d) ∧ (0 < cntD t w d → 4 * d + cntD t w d ≤ (t (153 + 6 * w + 3)) + 1) := by unfold cntD; omega
  have e4 : (4 : Int32) * nI d + 4 = nI (4 * d + 4) := by simp only [lit, pk_mul, nI_add]
  intro k
  induction k with
  | zero =>
    intro n h b m h4 hh hn hM hl h5 h6 hb
    obtain ⟨n, rfl⟩ : ∃ z, n = z + 1 := ⟨n - 1, by omega⟩
    have o3 : f_X9_of (nI w) 3 m = some (nI (t (153 + 6 * w + 3))) := (M_of (k := 3) hM (by omega) (by omega)).trans (congrArg some (dcN (by omega)))
    refine ⟨m, ?_, h5, h6, fun _ _ _ => rfl⟩
    rw [f_X9_finds_L96, e4]
    by_cases q : 4 * d + 4 ≤ h
    · exact if_pos (nI_le q (by omega))
    · refine (if_neg (nI_ge (by omega) (by omega))).trans ?_
      refine (bnd_of o3).trans ?_
      exact if_pos (nI_lt (by omega) (by omega))
  | succ k ih =>
    intro n h b m h4 hh hn hM hl h5 h6 hb
    obtain ⟨n, rfl⟩ : ∃ z, n = z + 1 := ⟨n - 1, by omega⟩
    have o3 : f_X9_of (nI w) 3 m = some (nI (t (153 + 6 * w + 3))) := (M_of (k := 3) hM (by omega) (by omega)).trans (congrArg some (dcN (by omega)))
    have hf := hF_le (lt := lt) hW.b hw (show h < 28 by omega)
    have hb2 := hb.2
    rw [f_X9_finds_L96, e4]
    have st : ∀ m', f_X9_finds_L96 (nI w) (nI (t (153 + 6 * w + 2))) (nI d) (n + 1) (nI h) m = some m' → True := fun _ _ => trivial
    by_cases q : hF t lt w h < b.2
    · have hM2 : MS t (m_up m 195 d (nI h)) := (mF.u195 m d (nI h)).ms hM
      have hl2 : (m_up m 195 d (nI h)) 187 10 = dc lt := (mF.u195 m d (nI h)).lt hl
      have hM3 : MS t (m_up (m_up m 195 d (nI h)) 196 d (nI (hF t lt w h))) := (mF.u196 _ d _).ms hM2
      have hl3 : (m_up (m_up m 195 d (nI h)) 196 d (nI (hF t lt w h))) 187 10 = dc lt := (mF.u196 _ d _).lt hl2
      obtain ⟨m', i1, i2, i3, i4⟩ := ih n (h + 1) (h, hF t lt w h) (m_up (m_up m 195 d (nI h)) 196 d (nI (hF t lt w h))) (by omega) (by omega) (by omega) hM3 hl3 (by rw [dcN (show h < 999 by omega)]; simp [m_up]) (by simp [m_up]) ⟨Or.inl (show h < 28 by omega), hf⟩
      refine ⟨m', ?_, ?_, ?_, fun a i z => ?_⟩
      · refine (if_neg (nI_ge (by omega) (by omega))).trans ?_
        refine (bnd_of o3).trans ?_
        refine (if_neg (nI_nlt (by omega) (by omega))).trans ?_
        refine (bnd_of (M_hourOf hM hW hl hlt hw (by omega))).trans ?_
        refine (bnd_of (rdX (k := d) rfl hd (by decide) h6)).trans ?_
        refine (if_pos (nI_lt q (by omega))).trans ?_
        refine (bnd_of (wrN hd (by decide))).trans ?_
        refine (bnd_of (M_hourOf hM2 hW hl2 hlt hw (by omega))).trans ?_
        refine (bnd_of (wrN hd (by decide))).trans ?_
        rw [nI_1]
        exact i1
      · simp only [dB]; rw [if_pos q]; exact i2
      · simp only [dB]; rw [if_pos q]; exact i3
      · rw [i4 a i z]
        unfold m_up
        rw [if_neg (fun y => z ⟨Or.inr y.1, y.2⟩), if_neg (fun y => z ⟨Or.inl y.1, y.2⟩)]
    · obtain ⟨m', i1, i2, i3, i4⟩ := ih n (h + 1) b m (by omega) (by omega) (by omega) hM hl h5 h6 hb
      refine ⟨m', ?_, ?_, ?_, i4⟩
      · refine (if_neg (nI_ge (by omega) (by omega))).trans ?_
        refine (bnd_of o3).trans ?_
        refine (if_neg (nI_nlt (by omega) (by omega))).trans ?_
        refine (bnd_of (M_hourOf hM hW hl hlt hw (by omega))).trans ?_
        refine (bnd_of (rdX (k := d) rfl hd (by decide) h6)).trans ?_
        refine (if_neg (nI_nlt (by omega) (by omega))).trans ?_
        rw [nI_1]
        exact i1
      · simp only [dB]; rw [if_neg q]; exact i2
      · simp only [dB]; rw [if_neg q]; exact i3
/-- the days' rows from some day on -/
def mDs (d : Nat) (m m' : mM) : Prop := ∀ a i, ¬ ((a = 195 ∨ a = 196) ∧ d ≤ i) → m' a i = m a i
theorem M_fL69 (hW : WT t) {lt w : Nat} (hlt : lt < 1000) (hw : w < t 1) : ∀ (k n d : Nat) (m : mM), d + k = 7 → k < n → MS t m → m 187 10 = dc lt → ∃ m', f_X9_finds_L69 (nI w) (nI (t (153 + 6 * w + 2))) n (nI d) m = some m' ∧ (∀ x, d ≤ x → x < 7 → m' 195 x = dc (dR t lt w x).1 ∧ m' 196 x = nI (dR t lt w x).2) ∧ mDs d m m' := by
  intro k
  induction k with
  | zero =>
    intro n d m hd hn hM hl
    obtain ⟨n, rfl⟩ : ∃ z, n = z + 1 := ⟨n - 1, by omega⟩
    refine ⟨m, ?_, fun x h1 h2 => absurd h1 (by omega), fun _ _ _ => rfl⟩
    rw [f_X9_finds_L69]
    exact if_pos (nI_le (a := 7) (by omega) (by omega))
  | succ k ih =>
    intro n d m hd hn hM hl
    obtain ⟨n, rfl⟩ : ∃ z, n = z + 1 := ⟨n - 1, by omega⟩
    have u1 := mF.u195 m d (-9)
    have u2 := mF.u196 (m_up m 195 d (-9)) d 100000
    obtain ⟨m1, g1, g2, g3, g4⟩ := M_fL96 hW hlt hw (show d < 7 by omega) (cntD t w d) fU (4 * d) (999, 100000) (m_up (m_up m 195 d (-9)) 196 d 100000) (Nat.le_refl _) rfl (by unfold cntD; show _ < 300; omega) ((u1.tr u2).ms hM) ((u1.tr u2).lt hl) (by simp [m_up]; rfl) (by simp [m_up]; rfl) ⟨Or.inr rfl, Nat.le_refl _⟩
    obtain ⟨m2, i1, i2, i3⟩ := ih n (d + 1) m1 (by omega) (by omega) ((u1.tr (u2.tr g4.f)).ms hM) ((u1.tr (u2.tr g4.f)).lt hl)
    refine ⟨m2, ?_, fun x h1 h2 => ?_, fun a i z => ?_⟩
    · rw [f_X9_finds_L69]
      refine (if_neg (nI_ge (b := 7) (by omega) (by decide))).trans ?_
      refine (bnd_of (wrN (show d < 7 by omega) (by decide))).trans ?_
      refine (bnd_of (wrN (show d < 7 by omega) (by decide))).trans ?_
      rw [show (4 : Int32) * nI d = nI (4 * d) by simp only [lit, pk_mul]]
      refine (bnd_of g1).trans ?_
      rw [nI_1]
      exact i1
    · by_cases e : x = d
      · subst e
        rw [i3 195 x (by omega), i3 196 x (by omega)]
        exact ⟨g2, g3⟩
      · exact i2 x (by omega) h2
    · rw [i3 a i (fun q => z ⟨q.1, by omega⟩), g4 a i (fun q => z ⟨q.1, by omega⟩)]
      unfold m_up
      rw [if_neg (fun y => z ⟨Or.inr y.1, by omega⟩), if_neg (fun y => z ⟨Or.inl y.1, by omega⟩)]
/-- of a set of days: how many, their hours, their costs -/
def sA (t : Nat → Nat) (lt w D : Nat) : Nat → Nat → Nat × Nat × Nat → Nat × Nat × Nat
  | 0, _, b => b
  | k + 1, d, b => sA t lt w D k (d + 1) (if D / 2 ^ d % 2 = 0 then b else (b.1 + 1, b.2.1 ||| (if (dR t lt w d).1 = 999 then 0 else 2 ^ (dR t lt w d).1), b.2.2 + (dR t lt w d).2))
theorem M_fL190 (hW : WT t) {lt w D : Nat} (hw : w < t 1) (hD : D < 128) {m : mM} (hd : ∀ x, x < 7 → m 195 x = dc (dR t lt w x).1 ∧ m 196 x = nI (dR t lt w x).2) {z : Int32} : ∀ (k n d : Nat) (b : Nat × Nat × Nat), d + k = 7 → k < n → f_X9_finds_L190 z (nI D) m n (nI b.1) (nI b.2.1) (nI b.2.2) (nI d) = some (nI (sA t lt w D k d b).1, nI (sA t lt w D k d b).2.1, nI (sA t lt w D k d b).2.2) := by
  intro k
  induction k with
  | zero =>
    intro n d b hk hn
    obtain ⟨n, rfl⟩ : ∃ z, n = z + 1 := ⟨n - 1, by omega⟩
    rw [f_X9_finds_L190]
    exact if_pos (nI_le (a := 7) (by omega) (by omega))
  | succ k ih =>
    intro n d b hk hn
    obtain ⟨n, rfl⟩ : ∃ z, n = z + 1 := ⟨n - 1, by omega⟩
    obtain ⟨h5, h6⟩ := hd d (by omega)
    have ok := dR_ok (lt := lt) (d := d) hW.b hw (by omega)
    have ebit : (nI D >>> (nI d &&& 31)) &&& 1 = nI (D / 2 ^ d % 2) := by
      show (nI D >>> (nI d &&& nI 31)) &&& nI 1 = _
      rw [shN (by omega) (by omega), an1]
    rw [f_X9_finds_L190]
    refine (if_neg (nI_ge (b := 7) (by omega) (by decide))).trans ?_
    rw [ebit]
    simp only [sA]
    by_cases e : D / 2 ^ d % 2 = 0
    · refine (if_pos (nIq e)).trans ?_
      rw [if_pos e, nI_1]
      exact ih n (d + 1) b (by omega) (by omega)
    · refine (if_neg (nIn (b := 0) (by omega) (by omega) e)).trans ?_
      rw [if_neg e]
      refine (bnd_of (rdX (k := d) rfl (by omega) (by decide) h6)).trans ?_
      refine (bnd_of (rdX (k := d) rfl (by omega) (by decide) h5)).trans ?_
      by_cases e2 : (dR t lt w d).1 = 999
      · refine (if_neg ?_).trans ?_
        · rw [e2, dc9]; decide
        · rw [if_pos e2, nI_1, nI_1, nI_add]
          have := ih n (d + 1) (b.1 + 1, b.2.1 ||| 0, b.2.2 + (dR t lt w d).2) (by omega) (by omega)
          rw [← orN] at this
          exact this
      · have h28 : (dR t lt w d).1 < 28 := ok.1.resolve_right e2
        refine (if_pos ?_).trans ?_
        · rw [dcN (by omega)]; exact nI_pos' (by omega)
        · refine (bnd_of (rdX (k := d) rfl (by omega) (by decide) h5)).trans ?_
          rw [if_neg e2, dcN (by omega), nI_1, nI_1, nI_add]
          have p28 : 2 ^ (dR t lt w d).1 < 2 ^ 28 := Nat.pow_lt_pow_right (by decide) h28
          have es : (1 : Int32) <<< (nI (dR t lt w d).1 &&& 31) = nI (2 ^ (dR t lt w d).1) := by
            show nI 1 <<< (nI _ &&& nI 31) = _
            rw [slN (by omega) (by omega), Nat.one_mul]
          rw [es, orN]
          exact ih n (d + 1) (b.1 + 1, b.2.1 ||| 2 ^ (dR t lt w d).1, b.2.2 + (dR t lt w d).2) (by omega) (by omega)
def bestD (t : Nat → Nat) (lt w : Nat) : Nat → Nat → Option (Nat × Nat) → Option (Nat × Nat)
  | 0, _, b => b
  | k + 1, D, b => bestD t lt w k (D + 1) (if (sA t lt w D 7 0 (0, 0, 0)).1 = (t (153 + 6 * w + 2)) then wg b (sA t lt w D 7 0 (0, 0, 0)).2.1 (sA t lt w D 7 0 (0, 0, 0)).2.2 else b)
theorem sA_ok (hW : WB t) {lt w D : Nat} (hw : w < t 1) : ∀ (k d : Nat) (b : Nat × Nat × Nat), d + k = 7 → b.1 ≤ d → b.2.1 < 2 ^ 28 → b.2.2 ≤ d * 100000 → (sA t lt w D k d b).1 ≤ 7 ∧ (sA t lt w D k d b).2.1 < 2 ^ 28 ∧ (sA t lt w D k d b).2.2 ≤ 700000 := by
  intro k
  induction k with
  | zero => intro d b h1 h2 h3 h4; have : d = 7 := by omega
            subst this; exact ⟨h2, h3, by simp only [sA]; omega⟩
  | succ k ih =>
    intro d b h1 h2 h3 h4
    have ok := dR_ok (lt := lt) (d := d) hW hw (by omega)
    have ok2 := ok.2
    simp only [sA]
    refine ih (d + 1) _ (by omega) ?_ ?_ ?_
    · split
      · omega
      · show b.1 + 1 ≤ d + 1; omega
    · split
      · exact h3
      · show b.2.1 ||| _ < 2 ^ 28
        refine Nat.or_lt_two_pow h3 ?_
        split
        · decide
        · exact Nat.pow_lt_pow_right (by decide) (ok.1.resolve_right (by assumption))
    · split
      · exact Nat.le_trans h4 (Nat.mul_le_mul_right _ (Nat.le_succ d))
      · exact Nat.le_trans (Nat.add_le_add h4 ok2) (Nat.le_of_eq (Nat.succ_mul d 100000).symm)
theorem M_fL171 (hW : WT t) {lt w : Nat} (hw : w < t 1) : ∀ (k n D : Nat) (b : Option (Nat × Nat)) (m : mM), D + k = 128 → k < n → (∀ x, x < 7 → m 195 x = dc (dR t lt w x).1 ∧ m 196 x = nI (dR t lt w x).2) → bS b m → bOK b → ∃ m', f_X9_finds_L171 (nI (t (153 + 6 * w + 2))) n (nI D) m = some m' ∧ bS (bestD t lt w k D b) m' ∧ bOK (bestD t lt w k D b) ∧ mF m m' := by
  obtain ⟨d1, d2, d3, d4, d5, d6⟩ := hW.wk hw
  intro k
  induction k with
  | zero =>
    intro n D b m hD hn hd hB hk
    obtain ⟨n, rfl⟩ : ∃ z, n = z + 1 := ⟨n - 1, by omega⟩
    refine ⟨m, ?_, hB, hk, mF.rf m⟩
    rw [f_X9_finds_L171]
    exact if_pos (nI_le (a := 128) (by omega) (by omega))
  | succ k ih =>
    intro n D b m hD hn hd hB hk
    obtain ⟨n, rfl⟩ : ∃ z, n = z + 1 := ⟨n - 1, by omega⟩
    have hs := M_fL190 (z := nI (t (153 + 6 * w + 2))) hW hw (show D < 128 by omega) hd 7 fU 0 (0, 0, 0) (by omega) (by decide)
    obtain ⟨a1, a2, a3⟩ := sA_ok (lt := lt) (D := D) hW.b hw 7 0 (0, 0, 0) rfl (Nat.le_refl _) (by decide) (by decide)
    generalize hz : sA t lt w D 7 0 (0, 0, 0) = z at hs a1 a2 a3
    rw [f_X9_finds_L171]
    simp only [bestD, hz]
    by_cases e : z.1 = (t (153 + 6 * w + 2))
    · obtain ⟨m1, g1, g2, g3, g4⟩ := M_weighs (bits := z.2.1) (cost := z.2.2) hB hk (by omega) (by omega)
      obtain ⟨m2, i1, i2, i3, i4⟩ := ih n (D + 1) _ m1 (by omega) (by omega) (by rw [g4.1, g4.2]; exact hd) g2 (bOK_wg hk (by omega))
      refine ⟨m2, ?_, ?_, ?_, g3.tr i4⟩
      · refine (if_neg (nI_ge (b := 128) (by omega) (by decide))).trans ?_
        refine (bnd_of hs).trans ?_
        refine (if_pos (nIq e)).trans ?_
        refine (bnd_of g1).trans ?_
        rw [nI_1]
        exact i1
      · rw [if_pos e]; exact i2
      · rw [if_pos e]; exact i3
    · obtain ⟨m2, i1, i2, i3, i4⟩ := ih n (D + 1) b m (by omega) (by omega) hd hB hk
      refine ⟨m2, ?_, ?_, ?_, i4⟩
      · refine (if_neg (nI_ge (b := 128) (by omega) (by decide))).trans ?_
        refine (bnd_of hs).trans ?_
        refine (if_neg (nIn (by omega) (by omega) e)).trans ?_
        rw [nI_1]
        exact i1
      · rw [if_neg e]; exact i2
      · rw [if_neg e]; exact i3
/-- ONE: its cost and its hours -/
def one (t : Nat → Nat) (lt w : Nat) : Option (Nat × Nat) := if (t (153 + 6 * w + 1)) = 0 then bestR t lt w ((t (153 + 6 * w + 3)) + 2 - (t (153 + 6 * w + 2))) 0 none else bestD t lt w 128 0 none
theorem M_finds (hW : WT t) {lt w : Nat} {m : mM} (hM : MS t m) (hl : m 187 10 = dc lt) (hlt : lt < 1000) (hw : w < t 1) : ∃ m', f_X9_finds (nI w) m = some m' ∧ bS (one t lt w) m' ∧ bOK (one t lt w) ∧ mF m m' := by
  have h1 := hW.w0
  obtain ⟨d1, d2, d3, d4, d5, d6⟩ := hW.wk hw
  have u := set_f m (-9) 0
  have hb0 : bS none (m_up (m_up m 187 12 (-9)) 187 11 0) := ⟨by simp [m_up, bcost]; rfl, by simp [m_up, bbits]; rfl⟩
  have hM' := u.ms hM
  have hl' := u.lt hl
  have o2 : f_X9_of (nI w) 2 (m_up (m_up m 187 12 (-9)) 187 11 0) = some (nI (t (153 + 6 * w + 2))) := (M_of (k := 2) hM' (by omega) (by omega)).trans (congrArg some (dcN (by omega)))
  have o1 : f_X9_of (nI w) 1 (m_up (m_up m 187 12 (-9)) 187 11 0) = some (nI (t (153 + 6 * w + 1))) := (M_of (k := 1) hM' (by omega) (by omega)).trans (congrArg some (dcN (by omega)))
  have n0 : bOK none := fun x h => by cases h
  unfold f_X9_finds one
  by_cases e : (t (153 + 6 * w + 1)) = 0
  · obtain ⟨m1, g1, g2, g3, g4⟩ := M_fL29 hW hlt hw ((t (153 + 6 * w + 3)) + 2 - (t (153 + 6 * w + 2))) fU 0 none _ (by omega) (by show _ < 300; omega) hM' hl' hb0 n0
    refine ⟨m1, ?_, ?_, ?_, u.tr g4⟩
    · refine (bnd_of rfl).trans ?_
      refine (bnd_of rfl).trans ?_
      refine (bnd_of o2).trans ?_
      refine (bnd_of o1).trans ?_
      refine (if_pos (nIq e)).trans ?_
      exact (bnd_of g1).trans rfl
    · rw [if_pos e]; exact g2
    · rw [if_pos e]; exact g3
  · obtain ⟨m1, g1, g2, g3⟩ := M_fL69 hW hlt hw 7 fU 0 _ rfl (by decide) hM' hl'
    have hb1 : bS none m1 := ⟨by rw [g3 187 12 (by omega)]; exact hb0.1, by rw [g3 187 11 (by omega)]; exact hb0.2⟩
    obtain ⟨m2, i1, i2, i3, i4⟩ := M_fL171 hW hw 128 fU 0 none m1 rfl (by decide) (fun x hx => g2 x (Nat.zero_le _) hx) hb1 n0
    have f1 : mF (m_up (m_up m 187 12 (-9)) 187 11 0) m1 := fun a i x y _ => g3 a i (fun q => q.1.elim x y)
    refine ⟨m2, ?_, ?_, ?_, u.tr (f1.tr i4)⟩
    · refine (bnd_of rfl).trans ?_
      refine (bnd_of rfl).trans ?_
      refine (bnd_of o2).trans ?_
      refine (bnd_of o1).trans ?_
      refine (if_neg (nIn (b := 0) (by omega) (by omega) e)).trans ?_
      refine (bnd_of g1).trans ?_
      exact (bnd_of i1).trans rfl
    · rw [if_neg e]; exact i2
    · rw [if_neg e]; exact i3
end MFinds
