/-! costs of parts, hours, rows of hours: the reference's side -/
def dayH (t : Nat → Nat) (p h : Nat) : Bool := anyF (fun x => hasP t x p) (h / 4 * 4) 4
def pC (t : Nat → Nat) (lt w p h : Nat) : Option Nat :=
  if p = (t (153 + 6 * w)) ∨ (h = t 3 ∧ (t (153 + 6 * w + 5)) = t 4) ∨ (t (121 + 4 * (t (153 + 6 * w)) + 3)) = p then some 0
  else if p = lt then some 0
  else if t 2 / 2 ^ p % 2 = 1 then none
  else if (t (121 + 4 * p)) = 1 then some ((2 * (t (121 + 4 * p + 1)) + (t (153 + 6 * w + 2)) - 1) / (t (153 + 6 * w + 2)))
  else if (t (121 + 4 * p)) = 2 then some (if dayH t (t (153 + 6 * w)) h then 0 else 2 * (t (121 + 4 * p + 1)))
  else if (t (121 + 4 * p)) = 3 then some ((t (121 + 4 * p + 1)) * (t (9 + 4 * h)))
  else if (t (121 + 4 * p)) = 4 then (if (t (153 + 6 * w + 5)) = (t (121 + 4 * p + 2)) then some (t (121 + 4 * p + 1)) else none)
  else if (t (121 + 4 * p)) = 5 then some (if h % 4 = 3 then 0 else (t (121 + 4 * p + 1)))
  else if (t (121 + 4 * p)) = 6 then none
  else some (t (121 + 4 * p + 1))
def oc (o : Option Nat) : Int32 := match o with
  | none => -nI 9
  | some v => nI v
theorem pC_le {t : Nat → Nat} (hW : WB t) {lt w p h v : Nat} (hw : w < t 1) (hp : p < t 0) (hh : h < 28) (e : pC t lt w p h = some v) : v ≤ 27 := by
  have h1 := hW.ho hp
  have h2 := hW.wk hw
  have h3 := hW.pa hh
  have hd : (2 * (t (121 + 4 * p + 1)) + (t (153 + 6 * w + 2)) - 1) / (t (153 + 6 * w + 2)) ≤ 24 := Nat.le_trans (Nat.div_le_self _ _) (by omega)
  have hm : (t (121 + 4 * p + 1)) * (t (9 + 4 * h)) ≤ 9 * 3 := Nat.mul_le_mul h1.2.1 h3
  unfold pC at e
  split at e
  · cases e; omega
  split at e
  · cases e; omega
  split at e
  · cases e
  split at e
  · cases e; omega
  split at e
  · cases e; split <;> omega
  split at e
  · cases e; omega
  split at e
  · split at e
    · cases e; omega
    · cases e
  split at e
  · cases e; split <;> omega
  split at e
  · cases e
  · cases e; omega
theorem sp_sym {t : Nat → Nat} (hW : WT t) {p d : Nat} (hp : p < t 0) (hd : d < t 0) : (t (121 + 4 * p + 3)) = d ↔ (t (121 + 4 * d + 3)) = p := by
  have h1 := hW.spo hp
  have h2 := hW.spo hd
  have h0 := hW.h0
  constructor
  · intro e
    rcases h1 with q | ⟨q1, q2, q3⟩
    · omega
    · rw [e] at q3; exact q3
  · intro e
    rcases h2 with q | ⟨q1, q2, q3⟩
    · omega
    · rw [e] at q3; exact q3
def hC (t : Nat → Nat) (lt w h : Nat) : Option Nat := osumF (fun i => pC t lt w (t (9 + 4 * h + 1 + i)) h) 0 (t (9 + 4 * h))
theorem osumF_le {f : Nat → Option Nat} {B : Nat} : ∀ (k i v : Nat), (∀ j x, i ≤ j → j < i + k → f j = some x → x ≤ B) → osumF f i k = some v → v ≤ k * B := by
  intro k
  induction k with
  | zero => intro i v _ e; cases e; omega
  | succ k ih =>
    intro i v h e
    simp only [osumF] at e
    cases h1 : f i with
    | none => rw [h1] at e; cases e
    | some a =>
      cases h2 : osumF f (i + 1) k with
      | none => rw [h1, h2] at e; cases e
      | some b =>
        rw [h1, h2] at e
        cases e
        have := h i a (Nat.le_refl _) (by omega) h1
        have := ih (i + 1) b (fun j x q1 q2 q3 => h j x (by omega) (by omega) q3) h2
        simp only [Nat.succ_mul]
        omega
theorem hC_le {t : Nat → Nat} (hW : WB t) {lt w h v : Nat} (hw : w < t 1) (hh : h < 28) (e : hC t lt w h = some v) : v ≤ 81 := by
  have h3 := hW.pa hh
  have := osumF_le (B := 27) (t (9 + 4 * h)) 0 v (fun j x q1 q2 q3 => pC_le hW hw (hW.pp hh (by omega)) hh q3) e
  have : (t (9 + 4 * h)) * 27 ≤ 3 * 27 := Nat.mul_le_mul_right 27 h3
  omega
/-- the reference's word of an hour: far if it is not to be had -/
def hF (t : Nat → Nat) (lt w h : Nat) : Nat := (hC t lt w h).getD 100000
theorem hF_le {t : Nat → Nat} (hW : WB t) {lt w h : Nat} (hw : w < t 1) (hh : h < 28) : hF t lt w h ≤ 100000 := by
  unfold hF
  cases e : hC t lt w h with
  | none => simp
  | some v => have := hC_le hW hw hh e; simp; omega
section MCost
variable {t : Nat → Nat} {m : mM}
theorem b2n_le (b : Bool) : b2n b ≤ 1 := by cases b <;> decide
theorem b2n_0 {b : Bool} : nI (b2n b) = 0 ↔ b = false := by cases b <;> decide
theorem M_dayL (hM : MS t m) (hW : WT t) {p h : Nat} (hh : h < 28) (hp : p < 999) : ∀ (k n i : Nat), i + k = h / 4 * 4 + 4 → k < n → f_X9_hasThatDay_L6 (nI p) (nI h) m n (nI i) = some (if anyF (fun x => hasP t x p) i k then .inl (nI 1) else .inr ()) := by
  intro k
  have hd : nI h / 4 * 4 + 4 = nI (h / 4 * 4 + 4) := by simp (disch := omega) only [lit, pk_div, pk_mul, nI_add]
  induction k with
  | zero =>
    intro n i hi hn
    obtain ⟨n, rfl⟩ : ∃ z, n = z + 1 := ⟨n - 1, by omega⟩
    rw [f_X9_hasThatDay_L6, hd]
    exact if_pos (nI_le (by omega) (by omega))
  | succ k ih =>
    intro n i hi hn
    obtain ⟨n, rfl⟩ : ∃ z, n = z + 1 := ⟨n - 1, by omega⟩
    rw [f_X9_hasThatDay_L6, hd]
    refine (if_neg (nI_ge (by omega) (by omega))).trans ?_
    refine (bnd_of (M_hasPart hM hW (by omega) hp)).trans ?_
    by_cases e : hasP t i p = false
    · refine (if_pos (b2n_0.mpr e)).trans ?_
      rw [nI_1, ih n (i + 1) (by omega) (by omega)]
      simp [anyF, e]
    · refine (if_neg (fun q => e (b2n_0.mp q))).trans ?_
      have e' : hasP t i p = true := by simpa using e
      simp only [anyF, e', Bool.true_or, if_true]
      rfl
theorem M_day (hM : MS t m) (hW : WT t) {p h : Nat} (hh : h < 28) (hp : p < 999) : f_X9_hasThatDay (nI p) (nI h) m = some (nI (b2n (dayH t p h))) := by
  unfold f_X9_hasThatDay
  have hd : nI h / 4 * 4 = nI (h / 4 * 4) := by simp (disch := omega) only [lit, pk_div, pk_mul]
  rw [hd]
  refine (bnd_of (M_dayL hM hW hh hp 4 fU (h / 4 * 4) (by omega) (by decide))).trans ?_
  unfold dayH b2n
  cases anyF (fun x => hasP t x p) (h / 4 * 4) 4 <;> rfl
theorem M_partOf (hM : MS t m) (hW : WT t) {lt w p h : Nat} (hl : m 187 10 = dc lt) (hlt : lt < 1000) (hw : w < t 1) (hp : p < t 0) (hh : h < 28) : f_X9_partOf (nI w) (nI p) (nI h) m = some (oc (pC t lt w p h)) := by
  have h0 := hW.h0
  have h1 := hW.w0
  obtain ⟨k1, k2, k3⟩ := hW.ho hp
  obtain ⟨d1, d2, d3, d4, d5, d6⟩ := hW.wk hw
  have h3 := hW.pa hh
  have hst := hW.s256
  have hb := hW.b1000
  have hbs := hW.bs
  have hs1 := hW.sp1000 (p := p) (by omega)
  have hsy := sp_sym hW hp d1
  have c2 : m 189 2 = nI (t 2) := hM.n (by omega) (by omega)
  have c3 : m 189 3 = dc (t 3) := hM 3 (by omega)
  have c4 : m 189 4 = nI (t 4) := hM.n (by omega) (by omega)
  have c9 : m 189 (9 + 4 * h) = nI (t (9 + 4 * h)) := hM.n (by omega) (by omega)
  have hmul : (t (121 + 4 * p + 1)) * (t (9 + 4 * h)) ≤ 9 * 3 := Nat.mul_le_mul k2 h3
  have g0 : f_X9_get (nI p) 0 m = some (nI (t (121 + 4 * p))) := (M_get (k := 0) hM (by omega) (by omega)).trans (congrArg some (dcN (show (t (121 + 4 * p)) < 999 by omega)))
  have g1 : f_X9_get (nI p) 1 m = some (nI (t (121 + 4 * p + 1))) := (M_get (k := 1) hM (by omega) (by omega)).trans (congrArg some (dcN (by omega)))
  have g2 : f_X9_get (nI p) 2 m = some (nI (t (121 + 4 * p + 2))) := (M_get (k := 2) hM (by omega) (by omega)).trans (congrArg some (dcN (by omega)))
  have g3 : f_X9_get (nI p) 3 m = some (dc (t (121 + 4 * p + 3))) := M_get (k := 3) hM (by omega) (by omega)
  have o0 : f_X9_of (nI w) 0 m = some (nI (t (153 + 6 * w))) := (M_of (k := 0) hM (by omega) (by omega)).trans (congrArg some (dcN (show (t (153 + 6 * w)) < 999 by omega)))
  have o2 : f_X9_of (nI w) 2 m = some (nI (t (153 + 6 * w + 2))) := (M_of (k := 2) hM (by omega) (by omega)).trans (congrArg some (dcN (by omega)))
  have o5 : f_X9_of (nI w) 5 m = some (nI (t (153 + 6 * w + 5))) := (M_of (k := 5) hM (by omega) (by omega)).trans (congrArg some (dcN (by omega)))
  have hJ : f_X9_partOf_J39 (nI w) (nI p) (nI h) (nI (t (153 + 6 * w))) m = some (oc (if (t (121 + 4 * (t (153 + 6 * w)) + 3)) = p then some 0 else if p = lt then some 0
      else if t 2 / 2 ^ p % 2 = 1 then none
      else if (t (121 + 4 * p)) = 1 then some ((2 * (t (121 + 4 * p + 1)) + (t (153 + 6 * w + 2)) - 1) / (t (153 + 6 * w + 2)))
      else if (t (121 + 4 * p)) = 2 then some (if dayH t (t (153 + 6 * w)) h then 0 else 2 * (t (121 + 4 * p + 1)))
      else if (t (121 + 4 * p)) = 3 then some ((t (121 + 4 * p + 1)) * (t (9 + 4 * h)))
      else if (t (121 + 4 * p)) = 4 then (if (t (153 + 6 * w + 5)) = (t (121 + 4 * p + 2)) then some (t (121 + 4 * p + 1)) else none)
      else if (t (121 + 4 * p)) = 5 then some (if h % 4 = 3 then 0 else (t (121 + 4 * p + 1)))
      else if (t (121 + 4 * p)) = 6 then none
      else some (t (121 + 4 * p + 1)))) := by
    unfold f_X9_partOf_J39
    refine (bnd_of g3).trans ?_
    by_cases e1 : (t (121 + 4 * p + 3)) = (t (153 + 6 * w))
    · refine (if_pos ((dcn hs1 (by omega)).mpr e1)).trans ?_
      rw [if_pos (hsy.mp e1)]; rfl
    · refine (if_neg (fun q => e1 ((dcn hs1 (by omega)).mp q))).trans ?_
      rw [if_neg (fun q => e1 (hsy.mpr q)), hl]
      by_cases e2 : p = lt
      · refine (if_pos ((ndc (by omega) hlt).mpr e2)).trans ?_
        rw [if_pos e2]; rfl
      · refine (if_neg (fun q => e2 ((ndc (by omega) hlt).mp q))).trans ?_
        rw [if_neg e2]
        refine (bnd_of (rdX (k := 2) rfl (by decide) (by decide) c2)).trans ?_
        have ebit : (nI (t 2) >>> (nI p &&& 31)) &&& 1 = nI (t 2 / 2 ^ p % 2) := by
          show (nI (t 2) >>> (nI p &&& nI 31)) &&& nI 1 = _
          rw [shN (by omega) (by omega), an1]
        rw [ebit]
        by_cases e3 : t 2 / 2 ^ p % 2 = 1
        · refine (if_pos (nIq e3)).trans ?_
          rw [if_pos e3]; rfl
        · refine (if_neg (nIn (b := 1) (by omega) (by omega) e3)).trans ?_
          rw [if_neg e3]
          refine (bnd_of g1).trans ?_
          refine (bnd_of g0).trans ?_
          by_cases f1 : (t (121 + 4 * p)) = 1
          · refine (if_pos (nIq f1)).trans ?_
            rw [if_pos f1]
            refine (bnd_of o2).trans ?_
            refine (bnd_of o2).trans ?_
            refine (bnd_of (a := nI ((2 * (t (121 + 4 * p + 1)) + (t (153 + 6 * w + 2)) - 1) / (t (153 + 6 * w + 2)))) ?_).trans rfl
            simp (disch := omega) only [lit, pk_mul, nI_add, pk_sub, dvN]
          refine (if_neg (nIn (b := 1) (by omega) (by omega) f1)).trans ?_
          rw [if_neg f1]
          by_cases f2 : (t (121 + 4 * p)) = 2
          · refine (if_pos (nIq f2)).trans ?_
            rw [if_pos f2]
            refine (bnd_of (M_day hM hW hh (by omega))).trans ?_
            by_cases g : dayH t (t (153 + 6 * w)) h = false
            · refine (if_pos (b2n_0.mpr g)).trans ?_
              simp only [g]
              simp only [lit, pk_mul]
              rfl
            · refine (if_neg (fun q => g (b2n_0.mp q))).trans ?_
              simp at g
              simp only [g]
              rfl
          refine (if_neg (nIn (b := 2) (by omega) (by omega) f2)).trans ?_
          rw [if_neg f2]
          by_cases f3 : (t (121 + 4 * p)) = 3
          · refine (if_pos (nIq f3)).trans ?_
            rw [if_pos f3]
            refine (bnd_of (rdX (k := 9 + 4 * h) (by simp only [lit, pk_mul, nI_add]) (by omega) (by decide) c9)).trans ?_
            rw [pk_mul]; rfl
          refine (if_neg (nIn (b := 3) (by omega) (by omega) f3)).trans ?_
          rw [if_neg f3]
          by_cases f4 : (t (121 + 4 * p)) = 4
          · refine (if_pos (nIq f4)).trans ?_
            rw [if_pos f4]
            refine (bnd_of o5).trans ?_
            refine (bnd_of g2).trans ?_
            by_cases g : (t (153 + 6 * w + 5)) = (t (121 + 4 * p + 2))
            · refine (if_pos (nIq g)).trans ?_
              rw [if_pos g]; rfl
            · refine (if_neg (nIn (by omega) (by omega) g)).trans ?_
              rw [if_neg g]; rfl
          refine (if_neg (nIn (b := 4) (by omega) (by omega) f4)).trans ?_
          rw [if_neg f4]
          by_cases f5 : (t (121 + 4 * p)) = 5
          · refine (if_pos (nIq f5)).trans ?_
            rw [if_pos f5]
            have er : nI h - nI h / 4 * 4 = nI (h % 4) := pk_rem (d := 4) (by omega) (by decide) (by decide)
            rw [er]
            by_cases g : h % 4 = 3
            · refine (if_pos (nIq g)).trans ?_
              rw [if_pos g]; rfl
            · refine (if_neg (nIn (b := 3) (by omega) (by omega) g)).trans ?_
              rw [if_neg g]; rfl
          refine (if_neg (nIn (b := 5) (by omega) (by omega) f5)).trans ?_
          rw [if_neg f5]
          by_cases f6 : (t (121 + 4 * p)) = 6
          · refine (if_pos (nIq f6)).trans ?_
            rw [if_pos f6]; rfl
          refine (if_neg (nIn (b := 6) (by omega) (by omega) f6)).trans ?_
          rw [if_neg f6]; rfl
  unfold f_X9_partOf
  refine (bnd_of o0).trans ?_
  unfold pC
  by_cases e1 : p = (t (153 + 6 * w))
  · refine (if_pos (nIq e1)).trans ?_
    rw [if_pos (Or.inl e1)]; rfl
  · refine (if_neg (nIn (by omega) (by omega) e1)).trans ?_
    refine (bnd_of (rdX (k := 3) rfl (by decide) (by decide) c3)).trans ?_
    have tl : f_X9_partOf_J39 (nI w) (nI p) (nI h) (nI (t (153 + 6 * w))) m = some (oc (if p = (t (153 + 6 * w)) ∨ (t (121 + 4 * (t (153 + 6 * w)) + 3)) = p then some 0 else if p = lt then some 0
      else if t 2 / 2 ^ p % 2 = 1 then none
      else if (t (121 + 4 * p)) = 1 then some ((2 * (t (121 + 4 * p + 1)) + (t (153 + 6 * w + 2)) - 1) / (t (153 + 6 * w + 2)))
      else if (t (121 + 4 * p)) = 2 then some (if dayH t (t (153 + 6 * w)) h then 0 else 2 * (t (121 + 4 * p + 1)))
      else if (t (121 + 4 * p)) = 3 then some ((t (121 + 4 * p + 1)) * (t (9 + 4 * h)))
      else if (t (121 + 4 * p)) = 4 then (if (t (153 + 6 * w + 5)) = (t (121 + 4 * p + 2)) then some (t (121 + 4 * p + 1)) else none)
      else if (t (121 + 4 * p)) = 5 then some (if h % 4 = 3 then 0 else (t (121 + 4 * p + 1)))
      else if (t (121 + 4 * p)) = 6 then none
      else some (t (121 + 4 * p + 1)))) := by
      rw [hJ]
      refine congrArg (fun z => some (oc z)) (i_if ?_)
      exact ⟨Or.inr, fun q => q.resolve_left e1⟩
    by_cases e2 : h = t 3
    · refine (if_pos ((ndc (by omega) hb).mpr e2)).trans ?_
      refine (bnd_of o5).trans ?_
      refine (bnd_of (rdX (k := 4) rfl (by decide) (by decide) c4)).trans ?_
      by_cases e3 : (t (153 + 6 * w + 5)) = t 4
      · refine (if_pos (nIq e3)).trans ?_
        rw [if_pos (Or.inr (Or.inl ⟨e2, e3⟩))]; rfl
      · refine (if_neg (nIn (by omega) (by omega) e3)).trans ?_
        rw [tl]
        refine congrArg (fun z => some (oc z)) (i_if ?_)
        exact ⟨fun q => q.imp id Or.inr, fun q => q.imp id (fun z => z.resolve_left (fun y => e3 y.2))⟩
    · refine (if_neg (fun q => e2 ((ndc (by omega) hb).mp q))).trans ?_
      rw [tl]
      refine congrArg (fun z => some (oc z)) (i_if ?_)
      exact ⟨fun q => q.imp id Or.inr, fun q => q.imp id (fun z => z.resolve_left (fun y => e2 y.1))⟩
theorem M_hourL (hM : MS t m) (hW : WT t) {lt w h : Nat} (hl : m 187 10 = dc lt) (hlt : lt < 1000) (hw : w < t 1) (hh : h < 28) : ∀ (k n i v : Nat), i + k = (t (9 + 4 * h)) → k < n → v ≤ 27 * i → f_X9_hourOf_L5 (nI w) (nI h) m n (nI v) (nI i) = some (match osumF (fun i => pC t lt w (t (9 + 4 * h + 1 + i)) h) i k with | none => .inl (nI 100000) | some x => .inr (nI (v + x))) := by
  have h3 := hW.pa hh
  have c9 : m 189 (9 + 4 * h) = nI (t (9 + 4 * h)) := hM.n (by omega) (by omega)
  intro k
  induction k with
  | zero =>
    intro n i v hi hn hv
    obtain ⟨n, rfl⟩ : ∃ z, n = z + 1 := ⟨n - 1, by omega⟩
    rw [f_X9_hourOf_L5]
    refine (bnd_of (rdX (k := 9 + 4 * h) (by simp only [lit, pk_mul, nI_add]) (by omega) (by decide) c9)).trans ?_
    exact if_pos (nI_le (by omega) (by omega))
  | succ k ih =>
    intro n i v hi hn hv
    obtain ⟨n, rfl⟩ : ∃ z, n = z + 1 := ⟨n - 1, by omega⟩
    have h0 := hW.h0
    have hq := hW.pp (i := i) hh (by omega)
    have cq : m 189 (9 + 4 * h + 1 + i) = nI (t (9 + 4 * h + 1 + i)) := hM.n (by omega) (by omega)
    rw [f_X9_hourOf_L5]
    refine (bnd_of (rdX (k := 9 + 4 * h) (by simp only [lit, pk_mul, nI_add]) (by omega) (by decide) c9)).trans ?_
    refine (if_neg (nI_ge (by omega) (by omega))).trans ?_
    refine (bnd_of (rdX (k := 9 + 4 * h + 1 + i) (by simp only [lit, pk_mul, nI_add]) (by omega) (by decide) cq)).trans ?_
    refine (bnd_of (M_partOf hM hW hl hlt hw hq hh)).trans ?_
    simp only [osumF]
    cases e : pC t lt w (t (9 + 4 * h + 1 + i)) h with
    | none =>
      refine (if_neg ?_).trans rfl
      show ¬ (0 : Int32) ≤ -nI 9
      decide
    | some x =>
      have hx := pC_le hW.b hw hq hh e
      refine (if_pos ?_).trans ?_
      · show (0 : Int32) ≤ nI x
        exact nI_pos' (by omega)
      show f_X9_hourOf_L5 (nI w) (nI h) m n (nI v + nI x) (nI i + 1) = _
      rw [nI_add, nI_1, ih n (i + 1) (v + x) (by omega) (by omega) (by omega)]
      cases osumF (fun i => pC t lt w (t (9 + 4 * h + 1 + i)) h) (i + 1) k with
      | none => rfl
      | some y => simp only [Nat.add_assoc]
theorem M_hourOf (hM : MS t m) (hW : WT t) {lt w h : Nat} (hl : m 187 10 = dc lt) (hlt : lt < 1000) (hw : w < t 1) (hh : h < 28) : f_X9_hourOf (nI w) (nI h) m = some (nI (hF t lt w h)) := by
  have h3 := hW.pa hh
  unfold f_X9_hourOf
  refine (bnd_of (M_hourL hM hW hl hlt hw hh (t (9 + 4 * h)) fU 0 0 (by omega) (by show _ < 300; omega) (by omega))).trans ?_
  unfold hF hC
  cases osumF (fun i => pC t lt w (t (9 + 4 * h + 1 + i)) h) 0 (t (9 + 4 * h)) with
  | none => rfl
  | some x => simp only [Nat.zero_add]; rfl
def rF (t : Nat → Nat) (lt w x k : Nat) : Nat := sumF (hF t lt w) x k
theorem rF_le (hW : WB t) {lt w x k : Nat} (hw : w < t 1) (hk : x + k ≤ 28) : rF t lt w x k ≤ k * 100000 := sumF_le k x (fun j a b => hF_le hW hw (by omega))
theorem M_rowL (hM : MS t m) (hW : WT t) {lt w x : Nat} (hl : m 187 10 = dc lt) (hlt : lt < 1000) (hw : w < t 1) (hx : x + (t (153 + 6 * w + 2)) ≤ 28) : ∀ (k n i v : Nat), i + k = x + (t (153 + 6 * w + 2)) → k < n → f_X9_rowOf_L5 (nI w) (nI x) m n (nI v) (nI i) = some (nI (v + rF t lt w i k)) := by
  have h1 := hW.w0
  obtain ⟨d1, d2, d3, d4, d5, d6⟩ := hW.wk hw
  have o2 : f_X9_of (nI w) 2 m = some (nI (t (153 + 6 * w + 2))) := (M_of (k := 2) hM (by omega) (by omega)).trans (congrArg some (dcN (by omega)))
  intro k
  induction k with
  | zero =>
    intro n i v hi hn
    obtain ⟨n, rfl⟩ : ∃ z, n = z + 1 := ⟨n - 1, by omega⟩
    rw [f_X9_rowOf_L5]
    refine (bnd_of o2).trans ?_
    rw [nI_add]
    exact (if_pos (nI_le (by omega) (by omega))).trans rfl
  | succ k ih =>
    intro n i v hi hn
    obtain ⟨n, rfl⟩ : ∃ z, n = z + 1 := ⟨n - 1, by omega⟩
    rw [f_X9_rowOf_L5]
    refine (bnd_of o2).trans ?_
    rw [nI_add]
    refine (if_neg (nI_ge (by omega) (by omega))).trans ?_
    refine (bnd_of (M_hourOf hM hW hl hlt hw (by omega))).trans ?_
    rw [nI_add, nI_1, ih n (i + 1) (v + hF t lt w i) (by omega) (by omega)]
    simp only [rF, sumF, Nat.add_assoc]
theorem M_rowOf (hM : MS t m) (hW : WT t) {lt w x : Nat} (hl : m 187 10 = dc lt) (hlt : lt < 1000) (hw : w < t 1) (hx : x + (t (153 + 6 * w + 2)) ≤ 28) : f_X9_rowOf (nI w) (nI x) m = some (nI (rF t lt w x (t (153 + 6 * w + 2)))) := by
  obtain ⟨d1, d2, d3, d4, d5, d6⟩ := hW.wk hw
  unfold f_X9_rowOf
  refine (bnd_of (M_rowL hM hW hl hlt hw hx (t (153 + 6 * w + 2)) fU x 0 (by omega) (by show _ < 300; omega))).trans ?_
  rw [Nat.zero_add]
end MCost
