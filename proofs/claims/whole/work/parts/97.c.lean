/-! town: what a statement does, the reference's side -/
def MRr (T : Nat → Nat) (m : mM) : Prop := ∀ i, i < 189 → m 191 i = dc (T i)
def eF (m m' : mM) : Prop := ∀ a i, a ≠ 191 → m' a i = m a i
theorem eF.rf (m : mM) : eF m m := fun _ _ _ => rfl
theorem eF.tr {m m1 m2 : mM} (h1 : eF m m1) (h2 : eF m1 m2) : eF m m2 := fun a i q => (h2 a i q).trans (h1 a i q)
section TellM
variable {T g : Nat → Nat}
theorem MRr.n {m : mM} (h : MRr T m) {i : Nat} (hi : i < 189) (hb : T i < 999) : m 191 i = nI (T i) := by rw [h i hi, dcN hb]
theorem M_has191L {m : mM} (hM : MRr T m) (hW : WT T) {h p : Nat} (hh : h < 28) (hp : p < 999) : ∀ (k n i : Nat), i + k = (T (9 + 4 * h)) → k < n → f_X9_hasPart_191_L10 (nI p) (nI (9 + 4 * h)) m n (nI i) = some (if anyF (fun j => (T (9 + 4 * h + 1 + j)) == p) i k then .inl (nI 1) else .inr ()) := by
  have h3 := hW.pa hh
  have hc : m 191 (9 + 4 * h) = nI ((T (9 + 4 * h))) := hM.n (by omega) (by omega)
  intro k
  induction k with
  | zero =>
    intro n i hi hn
    obtain ⟨n, rfl⟩ : ∃ z, n = z + 1 := ⟨n - 1, by omega⟩
    rw [f_X9_hasPart_191_L10]
    simp (disch := omega) only [lit, nI_add, pk_mul, pk_sub, pk_div, pk_rem, nI_leI, nI_ltI, nI_eq, rdN, wrN, ckN, dvN, rmN, fcN, bnd_s, ora_il, ora_ir, Nat.add_zero, Nat.zero_add, hc]
    rw [if_pos (by omega)]
    rfl
  | succ k ih =>
    intro n i hi hn
    obtain ⟨n, rfl⟩ : ∃ z, n = z + 1 := ⟨n - 1, by omega⟩
    rw [f_X9_hasPart_191_L10]
    have hq := hW.pp (i := i) hh (by omega)
    have h0 := hW.h0
    have hv : m 191 (9 + 4 * h + 1 + i) = nI ((T (9 + 4 * h + 1 + i))) := hM.n (by omega) (by omega)
    simp (disch := omega) only [lit, nI_add, pk_mul, pk_sub, pk_div, pk_rem, nI_leI, nI_ltI, nI_eq, rdN, wrN, ckN, dvN, rmN, fcN, bnd_s, ora_il, ora_ir, Nat.add_zero, Nat.zero_add, hc, hv]
    rw [if_neg (by omega)]
    by_cases e : (T (9 + 4 * h + 1 + i)) = p
    · rw [if_pos e]
      simp [anyF, e]
    · rw [if_neg e, ih n (i + 1) (by omega) (by omega)]
      simp [anyF, e]
theorem M_has191 {m : mM} (hM : MRr T m) (hW : WT T) {h p : Nat} (hh : h < 28) (hp : p < 999) : f_X9_hasPart_191 (nI h) (nI p) m = some (nI (b2n (hasP T h p))) := by
  have h3 := hW.pa hh
  unfold f_X9_hasPart_191
  rw [show (9 : Int32) + 4 * nI h = nI (9 + 4 * h) by simp only [lit, pk_mul, nI_add]]
  refine (bnd_of (M_has191L hM hW hh hp (T (9 + 4 * h)) fU 0 (by omega) (by show _ < 300; omega))).trans ?_
  unfold hasP b2n
  cases anyF (fun j => (T (9 + 4 * h + 1 + j)) == p) 0 ((T (9 + 4 * h))) <;> rfl
theorem M_ad191 {m : mM} (hM : MRr T m) (hW : WT T) {p h : Nat} (hh : h < 28) (hp : p < 999) (h3 : (T (9 + 4 * h)) < 3) : ∃ m', f_X9_adds_191 (nI h) (nI p) m = some m' ∧ MRr (adT T p h) m' ∧ eF m m' := by
  have r1 : m 191 (9 + 4 * h) = nI (T (9 + 4 * h)) := hM.n (by omega) (by omega)
  have ea : (9 : Int32) + 4 * nI h = nI (9 + 4 * h) := by simp only [lit, pk_mul, nI_add]
  refine ⟨m_up (m_up m 191 (9 + 4 * h + 1 + (T (9 + 4 * h))) (nI p)) 191 (9 + 4 * h) (nI ((T (9 + 4 * h)) + 1)), ?_, fun i hi => ?_, fun a i q => by rw [m_up_na q, m_up_na q]⟩
  · unfold f_X9_adds_191
    rw [ea]
    refine (bnd_of (rdX rfl (show 9 + 4 * h < 189 by omega) (by decide) r1)).trans ?_
    rw [show nI (9 + 4 * h) + 1 + nI (T (9 + 4 * h)) = nI (9 + 4 * h + 1 + (T (9 + 4 * h))) by simp only [lit, nI_add]]
    refine (bnd_of (wrN (show 9 + 4 * h + 1 + (T (9 + 4 * h)) < 189 by omega) (by decide))).trans ?_
    refine (bnd_of (rdX rfl (show 9 + 4 * h < 189 by omega) (by decide) ((m_up_ni (by omega)).trans r1))).trans ?_
    rw [nI_1]
    exact (bnd_of (wrN (show 9 + 4 * h < 189 by omega) (by decide))).trans rfl
  · by_cases z : i = 9 + 4 * h
    · subst z; rw [m_up_eq, adT_c, dcN (by omega)]
    · rw [m_up_ni z]
      by_cases z2 : i = 9 + 4 * h + 1 + (T (9 + 4 * h))
      · subst z2; rw [m_up_eq, adT_p, dcN hp]
      · rw [m_up_ni z2, adT_n z z2]; exact hM i hi
def hR (c : Bool) (m : mM) : (Int32 × mM) ⊕ Unit := if c = true then .inr () else .inl (0, m)
theorem M_c32 {m : mM} (hM : MRr T m) (hW : WT T) {p e : Nat} {z : Int32} (hp : p < 999) (he : e < 28) : ∀ (k n h : Nat), h + k = e + 1 → k < n → f_X9_comesHours_L32 (nI p) z (nI e) m n (nI h) = some (hR (hrK T p k h) m) := by
  intro k
  induction k with
  | zero =>
    intro n h hh hn
    obtain ⟨n, rfl⟩ : ∃ z, n = z + 1 := ⟨n - 1, by omega⟩
    rw [f_X9_comesHours_L32]
    exact if_pos (nI_lt (by omega) (by omega))
  | succ k ih =>
    intro n h hh hn
    obtain ⟨n, rfl⟩ : ∃ z, n = z + 1 := ⟨n - 1, by omega⟩
    have h28 : h < 28 := by omega
    have h3 := hW.pa h28
    have r1 : m 191 (9 + 4 * h) = nI (T (9 + 4 * h)) := hM.n (by omega) (by omega)
    rw [f_X9_comesHours_L32]
    refine (if_neg (nI_nlt (by omega) (by omega))).trans ?_
    refine (bnd_of (M_has191 hM hW h28 hp)).trans ?_
    simp only [hrK]
    by_cases e2 : hasP T h p = true
    · rw [e2]
      refine (if_neg (by decide)).trans ?_
      rw [show (decide ((T (9 + 4 * h)) < 3) && !true && hrK T p k (h + 1)) = false by simp]
      rfl
    · rw [show hasP T h p = false by simpa using e2]
      refine (if_pos (by rfl)).trans ?_
      rw [show (9 : Int32) + 4 * nI h = nI (9 + 4 * h) by simp only [lit, pk_mul, nI_add]]
      refine (bnd_of (rdX rfl (show 9 + 4 * h < 189 by omega) (by decide) r1)).trans ?_
      by_cases e1 : (T (9 + 4 * h)) = 3
      · refine (if_pos (nIq (b := 3) e1)).trans ?_
        rw [decide_eq_false (show ¬ (T (9 + 4 * h)) < 3 by omega)]
        rfl
      · refine (if_neg (nIn (b := 3) (by omega) (by omega) e1)).trans ?_
        rw [decide_eq_true (show (T (9 + 4 * h)) < 3 by omega), nI_1]
        exact ih n (h + 1) (by omega) (by omega)
theorem M_c78 {p e : Nat} (hp : p < 999) (he : e < 28) : ∀ (k n h : Nat) (T : Nat → Nat) (m : mM), h + k = e + 1 → k < n → MRr T m → WT T → p < T 0 → hrK T p k h = true → ∃ m', f_X9_comesHours_L78 (nI p) (nI e) n (nI h) m = some m' ∧ MRr (adR p k h T) m' ∧ eF m m' := by
  intro k
  induction k with
  | zero =>
    intro n h T m hh hn hM hW hp0 ho
    obtain ⟨n, rfl⟩ : ∃ z, n = z + 1 := ⟨n - 1, by omega⟩
    refine ⟨m, ?_, hM, eF.rf m⟩
    rw [f_X9_comesHours_L78]
    exact if_pos (nI_lt (by omega) (by omega))
  | succ k ih =>
    intro n h T m hh hn hM hW hp0 ho
    obtain ⟨n, rfl⟩ : ∃ z, n = z + 1 := ⟨n - 1, by omega⟩
    simp only [hrK, Bool.and_eq_true, decide_eq_true_eq, Bool.not_eq_true'] at ho
    obtain ⟨⟨h1, h2⟩, h3⟩ := ho
    obtain ⟨m1, j1, j2, j3⟩ := M_ad191 hM hW (show h < 28 by omega) hp h1
    have e0 : adT T p h 0 = T 0 := adT_n (by omega) (by omega)
    obtain ⟨m', i1, i2, i3⟩ := ih n (h + 1) (adT T p h) m1 (by omega) (by omega) j2 (hW.ad (by omega) hp0 h1 h2) (by rw [e0]; exact hp0) (by rw [hrK_ad hW (by omega) h1 k (h + 1) (by omega) (by omega)]; exact h3)
    refine ⟨m', ?_, i2, j3.tr i3⟩
    rw [f_X9_comesHours_L78]
    refine (if_neg (nI_nlt (by omega) (by omega))).trans ?_
    refine (bnd_of j1).trans ?_
    rw [nI_1]; exact i1
theorem M_c55 {B : Nat} (hB : B + 3 ≤ 189) : ∀ (k n b : Nat) (m : mM), b + k = 3 → k < n → ∃ m', f_X9_comes_L55 (nI B) n (nI b) m = some m' ∧ (∀ y, b ≤ y → y < 3 → m' 191 (B + y) = m 194 y) ∧ ∀ a i, ¬ (a = 191 ∧ B + b ≤ i ∧ i < B + 3) → m' a i = m a i := by
  intro k
  induction k with
  | zero =>
    intro n b m hb hn
    obtain ⟨n, rfl⟩ : ∃ z, n = z + 1 := ⟨n - 1, by omega⟩
    refine ⟨m, ?_, fun y h1 h2 => by omega, fun _ _ _ => rfl⟩
    rw [f_X9_comes_L55]
    exact if_pos (nI_le (a := 3) (by omega) (by omega))
  | succ k ih =>
    intro n b m hb hn
    obtain ⟨n, rfl⟩ : ∃ z, n = z + 1 := ⟨n - 1, by omega⟩
    obtain ⟨m', i1, i2, i3⟩ := ih n (b + 1) (m_up m 191 (B + b) (m 194 b)) (by omega) (by omega)
    refine ⟨m', ?_, fun y h1 h2 => ?_, fun a i q => ?_⟩
    · rw [f_X9_comes_L55]
      refine (if_neg (nI_ge (b := 3) (by omega) (by decide))).trans ?_
      refine (bnd_of (rdX rfl (show b < 6 by omega) (by decide) rfl)).trans ?_
      rw [nI_add]
      refine (bnd_of (wrN (show B + b < 189 by omega) (by decide))).trans ?_
      rw [nI_1]; exact i1
    · by_cases z : y = b
      · subst z; rw [i3 191 _ (by omega), m_up_eq]
      · rw [i2 y (by omega) h2, m_up_na (by decide)]
    · rw [i3 a i (by omega)]
      exact if_neg (by omega)
theorem M_c187 {B : Nat} (hB : B < 6) : ∀ (k n b : Nat) (m : mM), b + k = 6 → k < n → m 191 1 = nI B → ∃ m', f_X9_comes_L187 n (nI b) m = some m' ∧ (∀ y, b ≤ y → y < 6 → m' 191 (153 + 6 * B + y) = m 194 y) ∧ ∀ a i, ¬ (a = 191 ∧ 153 + 6 * B + b ≤ i ∧ i < 153 + 6 * B + 6) → m' a i = m a i := by
  intro k
  induction k with
  | zero =>
    intro n b m hb hn h1
    obtain ⟨n, rfl⟩ : ∃ z, n = z + 1 := ⟨n - 1, by omega⟩
    refine ⟨m, ?_, fun y h1 h2 => by omega, fun _ _ _ => rfl⟩
    rw [f_X9_comes_L187]
    exact if_pos (nI_le (a := 6) (by omega) (by omega))
  | succ k ih =>
    intro n b m hb hn h1
    obtain ⟨n, rfl⟩ : ∃ z, n = z + 1 := ⟨n - 1, by omega⟩
    obtain ⟨m', i1, i2, i3⟩ := ih n (b + 1) (m_up m 191 (153 + 6 * B + b) (m 194 b)) (by omega) (by omega) ((m_up_ni (by omega)).trans h1)
    refine ⟨m', ?_, fun y h1 h2 => ?_, fun a i q => ?_⟩
    · rw [f_X9_comes_L187]
      refine (if_neg (nI_ge (b := 6) (by omega) (by decide))).trans ?_
      refine (bnd_of (rdX (k := 1) rfl (by decide) (by decide) h1)).trans ?_
      refine (bnd_of (rdX rfl (show b < 6 by omega) (by decide) rfl)).trans ?_
      rw [show ((153 : Int32) + 6 * nI B) + nI b = nI (153 + 6 * B + b) by simp only [lit, pk_mul, nI_add]]
      refine (bnd_of (wrN (show 153 + 6 * B + b < 189 by omega) (by decide))).trans ?_
      rw [nI_1]; exact i1
    · by_cases z : y = b
      · subst z; rw [i3 191 _ (by omega), m_up_eq]
      · rw [i2 y (by omega) h2, m_up_na (by decide)]
    · rw [i3 a i (by omega)]
      exact if_neg (by omega)
theorem M_tell {m : mM} (hM : MRr T m) (hW : WT T) {v : Nat} (hv : v = 112 ∨ v = 104 ∨ v = 119) (gt : ∀ y, y < (if v = 119 then 6 else 3) → m 194 y = nI (g y)) (g9 : ∀ y, y < 6 → g y ≤ 99) : ∃ b m', f_X9_comes (nI v) m = some (b, m') ∧ eF m m' ∧ tR (tl v g T) b (fun T' => MRr T' m') := by
  have h0 := hW.h0
  have w0 := hW.w0
  have c0 : m 191 0 = nI (T 0) := hM.n (by decide) (by omega)
  have c1 : m 191 1 = nI (T 1) := hM.n (by decide) (by omega)
  rcases hv with q | q | q
  · subst q
    rw [show tl 112 g T = (if T 0 = 8 then none else some (hoT T g)) from rfl]
    by_cases e : T 0 = 8
    · rw [if_pos e]
      refine ⟨0, m, ?_, eF.rf m, rfl⟩
      unfold f_X9_comes
      refine (if_neg (by decide)).trans ?_
      refine (if_pos (by rfl)).trans ?_
      refine (bnd_of (rdX (k := 0) rfl (by decide) (by decide) c0)).trans ?_
      exact if_pos (nIq (b := 8) e)
    · rw [if_neg e]
      obtain ⟨m1, i1, i2, i3⟩ := M_c55 (B := 121 + 4 * T 0) (by omega) 3 fU 0 m rfl (by decide)
      have d0 : m_up m1 191 (121 + 4 * T 0 + 3) (-9) 191 0 = nI (T 0) := (m_up_ni (by omega)).trans ((i3 191 0 (by omega)).trans c0)
      refine ⟨1, m_up (m_up m1 191 (121 + 4 * T 0 + 3) (-9)) 191 0 (nI (T 0 + 1)), ?_, fun a i q => by rw [m_up_na q, m_up_na q, i3 a i (by omega)], rfl, fun i hi => ?_⟩
      · unfold f_X9_comes
        refine (if_neg (by decide)).trans ?_
        refine (if_pos (by rfl)).trans ?_
        refine (bnd_of (rdX (k := 0) rfl (by decide) (by decide) c0)).trans ?_
        refine (if_neg (nIn (b := 8) (by omega) (by omega) e)).trans ?_
        refine (bnd_of (rdX (k := 0) rfl (by decide) (by decide) c0)).trans ?_
        rw [show (121 : Int32) + 4 * nI (T 0) = nI (121 + 4 * T 0) by simp only [lit, pk_mul, nI_add]]
        refine (bnd_of i1).trans ?_
        rw [show nI (121 + 4 * T 0) + (3 : Int32) = nI (121 + 4 * T 0 + 3) from nI_add _ 3]
        refine (bnd_of (wrN (show 121 + 4 * T 0 + 3 < 189 by omega) (by decide))).trans ?_
        refine (bnd_of (rdX (k := 0) rfl (by decide) (by decide) d0)).trans ?_
        rw [nI_1]
        exact (bnd_of (wrN (k := 0) (by decide) (by decide))).trans rfl
      · by_cases z : i = 0
        · subst z; rw [m_up_eq, hoT_0, dcN (by omega)]
        · rw [m_up_ni z]
          by_cases z3 : i = 121 + 4 * T 0 + 3
          · subst z3; rw [m_up_eq, hoT_3]; rfl
          · rw [m_up_ni z3]
            by_cases z2 : 121 + 4 * T 0 ≤ i ∧ i < 121 + 4 * T 0 + 3
            · obtain ⟨y, rfl⟩ : ∃ y, i = 121 + 4 * T 0 + y := ⟨i - (121 + 4 * T 0), by omega⟩
              have hy : y < 3 := by omega
              rw [i2 y (by omega) hy, hoT_k hy, gt y (by rw [if_neg (by decide)]; exact hy), dcN (by have := g9 y (by omega); omega)]
            · rw [i3 191 i (by omega), hoT_n z (by omega)]; exact hM i hi
  · subst q
    rw [show tl 104 g T = (if g 0 < T 0 ∧ g 1 < 28 ∧ g 2 < 28 ∧ g 1 ≤ g 2 ∧ hrK T (g 0) (g 2 + 1 - g 1) (g 1) = true then some (adR (g 0) (g 2 + 1 - g 1) (g 1) T) else none) from rfl]
    have gt3 : ∀ y, y < 3 → m 194 y = nI (g y) := fun y hy => gt y (by rw [if_neg (by decide)]; exact hy)
    have b0 := g9 0 (by decide)
    have b1 := g9 1 (by decide)
    have b2 := g9 2 (by decide)
    have hh : ∀ b m', f_X9_comesHours (nI (g 0)) (nI (g 1)) (nI (g 2)) m = some (b, m') → (b = 0 ∨ b = 1) → f_X9_comes (nI 104) m = some (b, m') := fun b m' hr hb => by
      unfold f_X9_comes
      refine (if_pos (by rfl)).trans ?_
      refine (bnd_of (rdX (k := 0) rfl (by decide) (by decide) (gt3 0 (by decide)))).trans ?_
      refine (bnd_of (rdX (k := 1) rfl (by decide) (by decide) (gt3 1 (by decide)))).trans ?_
      refine (bnd_of (rdX (k := 2) rfl (by decide) (by decide) (gt3 2 (by decide)))).trans ?_
      refine (bnd_of hr).trans ?_
      rcases hb with z | z <;> subst z <;> rfl
    have no : ¬ (g 0 < T 0 ∧ g 1 < 28 ∧ g 2 < 28 ∧ g 1 ≤ g 2) → f_X9_comesHours (nI (g 0)) (nI (g 1)) (nI (g 2)) m = some (0, m) := fun hn => by
      unfold f_X9_comesHours
      refine (bnd_of (rdX (k := 0) rfl (by decide) (by decide) c0)).trans ?_
      by_cases c0 : g 0 < T 0
      · refine (if_neg (nI_ge c0 (by omega))).trans ?_
        by_cases c1 : g 1 < 28
        · refine (if_neg (nI_ge (b := 28) c1 (by decide))).trans ?_
          by_cases c2 : g 2 < 28
          · refine (if_neg (nI_ge (b := 28) c2 (by decide))).trans ?_
            exact if_neg (nI_ge (show g 2 < g 1 by omega) (by omega))
          · exact if_pos (nI_le (a := 28) (by omega) (by omega))
        · exact if_pos (nI_le (a := 28) (by omega) (by omega))
      · exact if_pos (nI_le (by omega) (by omega))
    by_cases c : g 0 < T 0 ∧ g 1 < 28 ∧ g 2 < 28 ∧ g 1 ≤ g 2
    · obtain ⟨k0, k1, k2, k3⟩ := c
      have l32 := M_c32 (z := nI (g 1)) hM hW (p := g 0) (e := g 2) (by omega) k2 (g 2 + 1 - g 1) fU (g 1) (by omega) (by show _ < 300; omega)
      have ap : ∀ r, (ora (hR (hrK T (g 0) (g 2 + 1 - g 1) (g 1)) m) (fun zq => some zq) fun x11 => bnd (f_X9_comesHours_L78 (nI (g 0)) (nI (g 2)) fU (nI (g 1)) m) fun o16 => some ((1 : Int32), o16)) = r → f_X9_comesHours (nI (g 0)) (nI (g 1)) (nI (g 2)) m = r := fun r hr => by
        unfold f_X9_comesHours
        refine (bnd_of (rdX (k := 0) rfl (by decide) (by decide) c0)).trans ?_
        refine (if_neg (nI_ge k0 (by omega))).trans ?_
        refine (if_neg (nI_ge (b := 28) k1 (by decide))).trans ?_
        refine (if_neg (nI_ge (b := 28) k2 (by decide))).trans ?_
        refine (if_pos (nI_le k3 (by omega))).trans ?_
        exact (bnd_of l32).trans hr
      by_cases z : hrK T (g 0) (g 2 + 1 - g 1) (g 1) = true
      · rw [if_pos ⟨k0, k1, k2, k3, z⟩]
        obtain ⟨m', i1, i2, i3⟩ := M_c78 (p := g 0) (e := g 2) (by omega) k2 (g 2 + 1 - g 1) fU (g 1) T m (by omega) (by show _ < 300; omega) hM hW k0 z
        refine ⟨1, m', hh 1 m' (ap _ ?_) (Or.inr rfl), i3, rfl, i2⟩
        rw [z]
        exact (bnd_of i1).trans rfl
      · rw [if_neg (fun y => z y.2.2.2.2)]
        refine ⟨0, m, hh 0 m (ap _ ?_) (Or.inl rfl), eF.rf m, rfl⟩
        rw [show hrK T (g 0) (g 2 + 1 - g 1) (g 1) = false by simpa using z]
        rfl
    · rw [if_neg (fun y => c ⟨y.1, y.2.1, y.2.2.1, y.2.2.2.1⟩)]
      exact ⟨0, m, hh 0 m (no c) (Or.inl rfl), eF.rf m, rfl⟩
  · subst q
    rw [show tl 119 g T = (if T 1 < 6 ∧ g 0 < T 0 ∧ g 3 < 28 ∧ 1 ≤ g 2 ∧ g 2 ≤ 6 then some (woT T g) else none) from rfl]
    have gt6 : ∀ y, y < 6 → m 194 y = nI (g y) := fun y hy => gt y (by rw [if_pos rfl]; exact hy)
    have b0 := g9 0 (by decide)
    have b2 := g9 2 (by decide)
    have b3 := g9 3 (by decide)
    have st : f_X9_comes (nI 119) m = (if nI (T 0) ≤ nI (g 0) then some ((0 : Int32), m) else if nI (g 2) < (1 : Int32) then some ((0 : Int32), m) else if (6 : Int32) < nI (g 2) then some ((0 : Int32), m) else if (28 : Int32) ≤ nI (g 3) then some ((0 : Int32), m) else if nI (T 1) = (6 : Int32) then some ((0 : Int32), m) else (bnd (f_X9_comes_L187 fU (0 : Int32) m) fun o50 => bnd (rdA 191 189 (1 : Int32) o50) fun v52 => bnd (wrA 191 189 (1 : Int32) (v52 + (1 : Int32)) o50) fun m54 => some ((1 : Int32), m54))) := by
      have r0 : rdA 194 6 (0 : Int32) m = some (nI (g 0)) := rdX (k := 0) rfl (by decide) (by decide) (gt6 0 (by decide))
      have r2 : rdA 194 6 (2 : Int32) m = some (nI (g 2)) := rdX (k := 2) rfl (by decide) (by decide) (gt6 2 (by decide))
      have r3 : rdA 194 6 (3 : Int32) m = some (nI (g 3)) := rdX (k := 3) rfl (by decide) (by decide) (gt6 3 (by decide))
      have s0 : rdA 191 189 (0 : Int32) m = some (nI (T 0)) := rdX (k := 0) rfl (by decide) (by decide) c0
      have s1 : rdA 191 189 (1 : Int32) m = some (nI (T 1)) := rdX (k := 1) rfl (by decide) (by decide) c1
      unfold f_X9_comes
      refine (if_neg (by decide)).trans ?_
      refine (if_neg (by decide)).trans ?_
      rw [bnd_of r0, bnd_of s0, bnd_of r2, bnd_of r2, bnd_of r3, bnd_of s1]
    rw [st]
    by_cases k0 : g 0 < T 0
    · by_cases k2 : 1 ≤ g 2
      · by_cases k4 : g 2 ≤ 6
        · by_cases k3 : g 3 < 28
          · by_cases k1 : T 1 < 6
            · obtain ⟨m1, i1, i2, i3⟩ := M_c187 (B := T 1) k1 6 fU 0 m rfl (by decide) c1
              have d1 : m1 191 1 = nI (T 1) := (i3 191 1 (by omega)).trans c1
              refine ⟨1, m_up m1 191 1 (nI (T 1 + 1)), ?_, fun a i q => by rw [m_up_na q, i3 a i (by omega)], ?_⟩
              · refine (if_neg (nI_ge k0 (by omega))).trans ?_
                refine (if_neg (nI_nlt (b := 1) k2 (by omega))).trans ?_
                refine (if_neg (nI_nlt (a := 6) k4 (by decide))).trans ?_
                refine (if_neg (nI_ge (b := 28) k3 (by decide))).trans ?_
                refine (if_neg (nIn (b := 6) (by omega) (by omega) (by omega))).trans ?_
                refine (bnd_of i1).trans ?_
                refine (bnd_of (rdX (k := 1) rfl (by decide) (by decide) d1)).trans ?_
                rw [nI_1]
                exact (bnd_of (wrN (k := 1) (by decide) (by decide))).trans rfl
              · rw [if_pos ⟨k1, k0, k3, k2, k4⟩]
                refine ⟨rfl, fun i hi => ?_⟩
                by_cases z : i = 1
                · subst z; rw [m_up_eq, woT_1, dcN (by omega)]
                · rw [m_up_ni z]
                  by_cases z2 : 153 + 6 * T 1 ≤ i ∧ i < 153 + 6 * T 1 + 6
                  · obtain ⟨y, rfl⟩ : ∃ y, i = 153 + 6 * T 1 + y := ⟨i - (153 + 6 * T 1), by omega⟩
                    have hy : y < 6 := by omega
                    rw [i2 y (by omega) hy, woT_k hy, gt6 y hy, dcN (by have := g9 y hy; omega)]
                  · rw [i3 191 i (by omega), woT_n z z2]; exact hM i hi
            · refine ⟨0, m, ?_, eF.rf m, by rw [if_neg (fun y => k1 y.1)]; rfl⟩
              refine (if_neg (nI_ge k0 (by omega))).trans ?_
              refine (if_neg (nI_nlt (b := 1) k2 (by omega))).trans ?_
              refine (if_neg (nI_nlt (a := 6) k4 (by decide))).trans ?_
              refine (if_neg (nI_ge (b := 28) k3 (by decide))).trans ?_
              exact if_pos (nIq (b := 6) (by omega))
          · refine ⟨0, m, ?_, eF.rf m, by rw [if_neg (fun y => k3 y.2.2.1)]; rfl⟩
            refine (if_neg (nI_ge k0 (by omega))).trans ?_
            refine (if_neg (nI_nlt (b := 1) k2 (by omega))).trans ?_
            refine (if_neg (nI_nlt (a := 6) k4 (by decide))).trans ?_
            exact if_pos (nI_le (a := 28) (by omega) (by omega))
        · refine ⟨0, m, ?_, eF.rf m, by rw [if_neg (fun y => k4 y.2.2.2.2)]; rfl⟩
          refine (if_neg (nI_ge k0 (by omega))).trans ?_
          refine (if_neg (nI_nlt (b := 1) k2 (by omega))).trans ?_
          exact if_pos (nI_lt (a := 6) (by omega) (by omega))
      · refine ⟨0, m, ?_, eF.rf m, by rw [if_neg (fun y => k2 y.2.2.2.1)]; rfl⟩
        refine (if_neg (nI_ge k0 (by omega))).trans ?_
        exact if_pos (nI_lt (b := 1) (by omega) (by decide))
    · exact ⟨0, m, if_pos (nI_le (by omega) (by omega)), eF.rf m, by rw [if_neg (fun y => k0 y.2.1)]; rfl⟩
end TellM
