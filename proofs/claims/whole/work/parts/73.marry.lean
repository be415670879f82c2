/-! marry -/
def wdV (t : Nat → Nat) (p q x : Nat) : Nat := if x = p then q else if x = q then p else if (t (121 + 4 * x + 3)) = p ∨ (t (121 + 4 * x + 3)) = q then 999 else (t (121 + 4 * x + 3))
def wedT (t : Nat → Nat) (p q : Nat) : Nat → Nat := fun i => if 121 ≤ i ∧ i < 121 + 4 * t 0 ∧ i % 4 = 0 then wdV t p q ((i - 121) / 4) else t i
theorem wedT_s {t : Nat → Nat} {p q x : Nat} (hx : x < t 0) : ((wedT t p q) (121 + 4 * x + 3)) = wdV t p q x := by
  unfold wedT
  rw [if_pos (by omega), show (121 + 4 * x + 3 - 121) / 4 = x by omega]
theorem wedT_n {t : Nat → Nat} {p q i : Nat} (h : ¬ (121 ≤ i ∧ i < 121 + 4 * t 0 ∧ i % 4 = 0)) : wedT t p q i = t i := if_neg h
theorem WT.wed {t : Nat → Nat} (hW : WT t) {p q : Nat} (hp : p < t 0) (hq : q < t 0) (hpq : p ≠ q) : WT (wedT t p q) := by
  have q0 := hW.h0
  have w0 := hW.w0
  have e : ∀ i, (i < 121 ∨ 153 ≤ i ∨ i % 4 ≠ 0) → wedT t p q i = t i := fun i hi => wedT_n (by omega)
  have e0 : wedT t p q 0 = t 0 := e 0 (by omega)
  have e1 : wedT t p q 1 = t 1 := e 1 (by omega)
  have e2 : wedT t p q 2 = t 2 := e 2 (by omega)
  have e3 : wedT t p q 3 = t 3 := e 3 (by omega)
  have e4 : wedT t p q 4 = t 4 := e 4 (by omega)
  have ec : ∀ h, h < 28 → ((wedT t p q) (9 + 4 * h)) = (t (9 + 4 * h)) := fun h hh => e _ (by omega)
  have ep : ∀ h i, h < 28 → i < 3 → ((wedT t p q) (9 + 4 * h + 1 + i)) = (t (9 + 4 * h + 1 + i)) := fun h i hh hi => e _ (by omega)
  refine ⟨⟨by rw [e0]; exact q0, by rw [e1]; exact w0, by rw [e0, e2]; exact hW.st, by rw [e3]; exact hW.be, by rw [e4]; exact hW.bs, fun k hk => by rw [e _ (by omega)]; exact hW.se hk, fun h hh => by rw [ec h hh]; exact hW.pa hh, fun h i hh hi => ?_, fun x hx => ?_, fun w hw => ?_, fun i hi => ?_⟩, fun h i j hh hi hj => ?_, fun x hx => ?_, fun x hx h8 => ?_⟩
  · rw [ec h hh] at hi
    have := hW.pa hh
    rw [ep h i hh (by omega), e0]; exact hW.pp hh hi
  · rw [e0] at hx
    rw [e (121 + 4 * x) (by omega), e (121 + 4 * x + 1) (by omega), e (121 + 4 * x + 2) (by omega)]
    exact hW.ho hx
  · rw [e1] at hw
    have hk : ∀ k, wedT t p q (153 + 6 * w + k) = t (153 + 6 * w + k) := fun k => e _ (by omega)
    have hk0 : wedT t p q (153 + 6 * w) = t (153 + 6 * w) := hk 0
    rw [hk0, hk, hk, hk, hk, hk, e0]
    exact hW.wk hw
  · by_cases z : 121 ≤ i ∧ i < 121 + 4 * t 0 ∧ i % 4 = 0
    · obtain ⟨x, rfl⟩ : ∃ x, i = 121 + 4 * x + 3 := ⟨(i - 121) / 4, by omega⟩
      have hx : x < t 0 := by omega
      rw [wedT_s hx]
      unfold wdV
      have := hW.lt (i := 121 + 4 * x + 3) hi
      split
      · omega
      · split
        · omega
        · split <;> omega
    · rw [wedT_n z]; exact hW.lt hi
  · rw [ec h hh] at hj
    have := hW.pa hh
    rw [ep h i hh (by omega), ep h j hh (by omega)]
    exact hW.di hh hi hj
  · rw [e0] at hx ⊢
    rw [wedT_s hx]
    unfold wdV
    by_cases z1 : x = p
    · subst z1
      rw [if_pos rfl]
      refine Or.inr ⟨hq, Ne.symm hpq, ?_⟩
      rw [wedT_s hq]
      unfold wdV
      rw [if_neg (Ne.symm hpq), if_pos rfl]
    · rw [if_neg z1]
      by_cases z2 : x = q
      · subst z2
        rw [if_pos rfl]
        refine Or.inr ⟨hp, hpq, ?_⟩
        rw [wedT_s hp]
        unfold wdV
        rw [if_pos rfl]
      · rw [if_neg z2]
        by_cases z3 : (t (121 + 4 * x + 3)) = p ∨ (t (121 + 4 * x + 3)) = q
        · rw [if_pos z3]; exact Or.inl rfl
        · rw [if_neg z3]
          rcases hW.spo hx with y | ⟨y1, y2, y3⟩
          · exact Or.inl y
          · refine Or.inr ⟨y1, y2, ?_⟩
            rw [wedT_s y1]
            unfold wdV
            rw [if_neg (fun w => z3 (Or.inl w)), if_neg (fun w => z3 (Or.inr w)), y3, if_neg (fun w => w.elim z1 z2)]
  · rw [e0] at hx
    rw [wedT_n (by omega)]; exact hW.sz hx h8
theorem hMk_wed {t : Nat → Nat} (hW : WT t) {p q x : Nat} : hMk (wedT t p q) x = hMk t x := hMk_cg (fun h hh => wedT_n (by omega)) (fun h i hh hi => by
  have := hW.pa hh
  exact wedT_n (by omega))
theorem XS.wed {t : Nat → Nat} {m m' : mM} (hX : XS t m) (hW : WT t) {p q : Nat} (f : ∀ a i, a ≠ 12 → a < 51 → m' a i = m a i) (c : ∀ x, x < 8 → m' 12 x = dc ((wedT t p q) (121 + 4 * x + 3))) : XS (wedT t p q) m' := by
  have q0 := hW.h0
  have e : ∀ i, (i < 121 ∨ 153 ≤ i ∨ i % 4 ≠ 0) → wedT t p q i = t i := fun i hi => wedT_n (by omega)
  refine ⟨?_, ?_, ?_, ?_, ?_, fun x k hx hk => ?_, c, fun h hh => ?_, fun h i hh hi => ?_, fun w k hw hk => ?_, fun k hk => ?_, fun x hx => ?_⟩
  · rw [f 1 0 (by omega) (by omega), e 0 (by omega)]; exact hX.1
  · rw [f 1 1 (by omega) (by omega), e 1 (by omega)]; exact hX.2.1
  · rw [f 1 2 (by omega) (by omega), e 2 (by omega)]; exact hX.2.2.1
  · rw [f 1 3 (by omega) (by omega), e 3 (by omega)]; exact hX.2.2.2.1
  · rw [f 1 4 (by omega) (by omega), e 4 (by omega)]; exact hX.2.2.2.2.1
  · rw [f (3 + x) k (by omega) (by omega), e (121 + 4 * x + k) (by omega)]; exact hX.h hx hk
  · rw [f 13 h (by omega) (by omega), e _ (by omega)]; exact hX.p hh
  · rw [e _ (by omega)] at hi
    have := hW.pa hh
    rw [f (15 + h) i (by omega) (by omega), e _ (by omega)]; exact hX.q hh hi
  · rw [f (44 + w) k (by omega) (by omega), e _ (by omega)]; exact hX.w hw hk
  · rw [f 50 k (by omega) (by omega), e _ (by omega)]; exact hX.u hk
  · rw [f 11 x (by omega) (by omega), hMk_wed hW]; exact hX.b hx
def uwd (f : Nat → Nat) (p x : Nat) : Nat := if x = p ∨ (f p ≠ 999 ∧ x = f p) then 999 else f x
theorem uwd_9 {f : Nat → Nat} {p x : Nat} (h : f x = 999) : uwd f p x = 999 := by
  unfold uwd
  split
  · rfl
  · exact h
theorem X_unwed {m : mM} {f : Nat → Nat} {p : Nat} (hp : p < 8) (hf : f p = 999 ∨ f p < 8) (hm : ∀ x, x < 8 → m 12 x = dc (f x)) : ∃ m', f_X7_unwed (nI p) m = some m' ∧ (∀ x, x < 8 → m' 12 x = dc (uwd f p x)) ∧ ∀ a i, a ≠ 12 → m' a i = m a i := by
  unfold f_X7_unwed uwd
  by_cases e : f p = 999
  · refine ⟨m_up m 12 p (-9), ?_, fun x hx => ?_, fun a i h => m_up_na h⟩
    · refine (bnd_of (rdX rfl hp (by decide) (hm p hp))).trans ?_
      refine (if_pos (by rw [e]; decide)).trans ?_
      exact (bnd_of (wrN hp (by decide))).trans rfl
    · by_cases z : x = p
      · subst z; rw [m_up_eq, if_pos (Or.inl rfl)]; rfl
      · rw [m_up_ni z, if_neg (by omega)]; exact hm x hx
  · have h8 : f p < 8 := hf.resolve_left e
    refine ⟨m_up (m_up m 12 (f p) (-9)) 12 p (-9), ?_, fun x hx => ?_, fun a i h => (m_up_na h).trans (m_up_na h)⟩
    · refine (bnd_of (rdX rfl hp (by decide) ((hm p hp).trans (dcN (by omega))))).trans ?_
      refine (if_neg (nI_pos (by omega))).trans ?_
      refine (bnd_of (wrN h8 (by decide))).trans ?_
      exact (bnd_of (wrN hp (by decide))).trans rfl
    · by_cases z : x = p
      · subst z; rw [m_up_eq, if_pos (Or.inl rfl)]; rfl
      · rw [m_up_ni z]
        by_cases z2 : x = f p
        · rw [z2, m_up_eq, if_pos (Or.inr ⟨e, rfl⟩)]; rfl
        · rw [m_up_ni z2, if_neg (by omega)]; exact hm x hx
theorem wd_eq {t : Nat → Nat} (hW : WT t) {p q x : Nat} (hp : p < t 0) (hq : q < t 0) (hpq : p ≠ q) (hx : x < t 0) (x1 : x ≠ p) (x2 : x ≠ q) : uwd (uwd (fun y => (t (121 + 4 * y + 3))) p) q x = wdV t p q x := by
  have q0 := hW.h0
  have sx := hW.spo hx
  have sy := hW.spo hp
  have sz := hW.spo hq
  have a1 : (t (121 + 4 * p + 3)) ≠ 999 → x = (t (121 + 4 * p + 3)) → (t (121 + 4 * x + 3)) = p := fun a b => by
    rcases sy with y | y
    · exact absurd y a
    · rw [b]; exact y.2.2
  have a2 : (t (121 + 4 * x + 3)) = p → (t (121 + 4 * p + 3)) = x := fun a => by
    rcases sx with y | y
    · omega
    · rw [← a]; exact y.2.2
  have b1 : (t (121 + 4 * q + 3)) ≠ 999 → x = (t (121 + 4 * q + 3)) → (t (121 + 4 * x + 3)) = q := fun a b => by
    rcases sz with y | y
    · exact absurd y a
    · rw [b]; exact y.2.2
  have b2 : (t (121 + 4 * x + 3)) = q → (t (121 + 4 * q + 3)) = x := fun a => by
    rcases sx with y | y
    · omega
    · rw [← a]; exact y.2.2
  unfold uwd wdV
  simp only
  rw [if_neg x1, if_neg x2]
  by_cases c1 : q = p ∨ ((t (121 + 4 * p + 3)) ≠ 999 ∧ q = (t (121 + 4 * p + 3)))
  · rw [if_pos c1, if_neg (by omega)]
    by_cases c2 : x = p ∨ ((t (121 + 4 * p + 3)) ≠ 999 ∧ x = (t (121 + 4 * p + 3)))
    · omega
    · rw [if_neg c2]
      have n1 : ¬ (t (121 + 4 * x + 3)) = p := fun z => by have := a2 z; omega
      have n2 : ¬ (t (121 + 4 * x + 3)) = q := fun z => by
        have h1 := b2 z
        have h2 : (t (121 + 4 * (t (121 + 4 * p + 3)) + 3)) = p := (sy.resolve_left (by omega)).2.2
        have h3 : (t (121 + 4 * p + 3)) = q := by omega
        rw [h3] at h2
        omega
      rw [if_neg (fun z => z.elim n1 n2)]
  · rw [if_neg c1]
    by_cases c3 : x = q ∨ ((t (121 + 4 * q + 3)) ≠ 999 ∧ x = (t (121 + 4 * q + 3)))
    · rw [if_pos c3]
      have := b1
      rw [if_pos (Or.inr (by rcases c3 with c | c; exact absurd c x2; exact b1 c.1 c.2))]
    · rw [if_neg c3]
      by_cases c2 : x = p ∨ ((t (121 + 4 * p + 3)) ≠ 999 ∧ x = (t (121 + 4 * p + 3)))
      · rw [if_pos c2, if_pos (Or.inl (by rcases c2 with c | c; exact absurd c x1; exact a1 c.1 c.2))]
      · rw [if_neg c2]
        have n1 : ¬ (t (121 + 4 * x + 3)) = p := fun z => by have := a2 z; omega
        have n2 : ¬ (t (121 + 4 * x + 3)) = q := fun z => by have := b2 z; omega
        rw [if_neg (fun z => z.elim n1 n2)]
theorem M_weL {s : aSt} (hS : SI s) {p q : Nat} (hp : p < s.1 0) (hq : q < s.1 0) : ∀ (k n x : Nat) (m : mM), x + k = s.1 0 → k < n → m 189 0 = nI (s.1 0) → (∀ y, x ≤ y → y < s.1 0 → m 189 (121 + 4 * y + 3) = dc (s.1 (121 + 4 * y + 3))) → ∃ m', f_X9_weds_L2 (nI p) (nI q) n (nI x) m = some m' ∧ (∀ y, x ≤ y → y < s.1 0 → m' 189 (121 + 4 * y + 3) = dc (if (s.1 (121 + 4 * y + 3)) = p ∨ (s.1 (121 + 4 * y + 3)) = q then 999 else (s.1 (121 + 4 * y + 3)))) ∧ ∀ a i, ¬ (a = 189 ∧ ∃ y, x ≤ y ∧ y < s.1 0 ∧ i = 121 + 4 * y + 3) → m' a i = m a i := by
  have h0 := hS.w.h0
  intro k
  induction k with
  | zero =>
    intro n x m hx hn c0 hm
    obtain ⟨n, rfl⟩ : ∃ z, n = z + 1 := ⟨n - 1, by omega⟩
    refine ⟨m, ?_, fun y h1 h2 => by omega, fun _ _ _ => rfl⟩
    rw [f_X9_weds_L2]
    refine (bnd_of (rdX (k := 0) rfl (by decide) (by decide) c0)).trans ?_
    exact if_pos (nI_le (by omega) (by omega))
  | succ k ih =>
    intro n x m hx hn c0 hm
    obtain ⟨n, rfl⟩ : ∃ z, n = z + 1 := ⟨n - 1, by omega⟩
    have hsx := hS.w.sp1000 (show x < 8 by omega)
    have e1 : ((121 : Int32) + 4 * nI x) + 3 = nI (121 + 4 * x + 3) := by simp only [lit, pk_mul, nI_add]
    have hg : ∀ mm : mM, mm 189 (121 + 4 * x + 3) = dc (s.1 (121 + 4 * x + 3)) → f_X9_get (nI x) 3 mm = some (dc (s.1 (121 + 4 * x + 3))) := fun mm hmm => by
      unfold f_X9_get
      rw [e1]
      exact (bnd_of (rdX rfl (by omega) (by decide) hmm)).trans rfl
    have gx := hg m (hm x (by omega) (by omega))
    by_cases e : (s.1 (121 + 4 * x + 3)) = p ∨ (s.1 (121 + 4 * x + 3)) = q
    · obtain ⟨m', i1, i2, i3⟩ := ih n (x + 1) (m_up m 189 (121 + 4 * x + 3) (-9)) (by omega) (by omega) (by rw [m_up_ni (by omega)]; exact c0) (fun y h1 h2 => by rw [m_up_ni (by omega)]; exact hm y (by omega) h2)
      refine ⟨m', ?_, fun y h1 h2 => ?_, fun a i h => ?_⟩
      · rw [f_X9_weds_L2]
        refine (bnd_of (rdX (k := 0) rfl (by decide) (by decide) c0)).trans ?_
        refine (if_neg (nI_ge (by omega) (by omega))).trans ?_
        refine (bnd_of gx).trans ?_
        rw [e1]
        by_cases e2 : (s.1 (121 + 4 * x + 3)) = p
        · refine (if_pos ((dcn hsx (by omega)).mpr e2)).trans ?_
          refine (bnd_of (wrN (show 121 + 4 * x + 3 < 189 by omega) (by decide))).trans ?_
          rw [nI_1]; exact i1
        · refine (if_neg (fun z => e2 ((dcn hsx (by omega)).mp z))).trans ?_
          refine (bnd_of gx).trans ?_
          refine (if_pos ((dcn hsx (by omega)).mpr (e.resolve_left e2))).trans ?_
          refine (bnd_of (wrN (show 121 + 4 * x + 3 < 189 by omega) (by decide))).trans ?_
          rw [nI_1]; exact i1
      · by_cases z : y = x
        · subst z
          rw [i3 _ _ (fun w => by obtain ⟨-, v, v1, v2, v3⟩ := w; omega), m_up_eq, if_pos e]; rfl
        · exact i2 y (by omega) h2
      · rw [i3 a i (fun w => h ⟨w.1, by obtain ⟨-, v, v1, v2, v3⟩ := w; exact ⟨v, by omega, v2, v3⟩⟩)]
        unfold m_up
        rw [if_neg (fun w => h ⟨w.1, x, Nat.le_refl _, by omega, w.2⟩)]
    · obtain ⟨m', i1, i2, i3⟩ := ih n (x + 1) m (by omega) (by omega) c0 (fun y h1 h2 => hm y (by omega) h2)
      refine ⟨m', ?_, fun y h1 h2 => ?_, fun a i h => ?_⟩
      · rw [f_X9_weds_L2]
        refine (bnd_of (rdX (k := 0) rfl (by decide) (by decide) c0)).trans ?_
        refine (if_neg (nI_ge (by omega) (by omega))).trans ?_
        refine (bnd_of gx).trans ?_
        refine (if_neg (fun z => e (Or.inl ((dcn hsx (by omega)).mp z)))).trans ?_
        refine (bnd_of gx).trans ?_
        refine (if_neg (fun z => e (Or.inr ((dcn hsx (by omega)).mp z)))).trans ?_
        rw [nI_1]; exact i1
      · by_cases z : y = x
        · subst z
          rw [i3 _ _ (fun w => by obtain ⟨-, v, v1, v2, v3⟩ := w; omega), if_neg e]; exact hm y (by omega) h2
        · exact i2 y (by omega) h2
      · exact i3 a i (fun w => h ⟨w.1, by obtain ⟨-, v, v1, v2, v3⟩ := w; exact ⟨v, by omega, v2, v3⟩⟩)
theorem M_weds {s : aSt} {m : mM} (hS : SI s) (hM : MI s m) {p q : Nat} (hp : p < s.1 0) (hq : q < s.1 0) (hpq : p ≠ q) : ∃ m', f_X9_weds (nI p) (nI q) m = some m' ∧ MI (wedT s.1 p q, s.2) m' ∧ ∀ a i, a ≠ 189 → m' a i = m a i := by
  have h0 := hS.w.h0
  obtain ⟨m1, i1, i2, i3⟩ := M_weL hS hp hq (s.1 0) fU 0 m (by omega) (by show _ < 300; omega) (hM.c0 hS) (fun y _ hy => hM.s _ (by omega))
  have e1 : ∀ x, ((121 : Int32) + 4 * nI x) + 3 = nI (121 + 4 * x + 3) := fun x => by simp only [lit, pk_mul, nI_add]
  refine ⟨m_up (m_up m1 189 (121 + 4 * p + 3) (nI q)) 189 (121 + 4 * q + 3) (nI p), ?_, ?_, fun a i h => ?_⟩
  · unfold f_X9_weds
    rw [e1, e1]
    refine (bnd_of i1).trans ?_
    refine (bnd_of (wrN (show 121 + 4 * p + 3 < 189 by omega) (by decide))).trans ?_
    exact (bnd_of (wrN (show 121 + 4 * q + 3 < 189 by omega) (by decide))).trans rfl
  · refine hM.town (fun i hi => ?_) (fun a i z => ?_)
    · by_cases z : 121 ≤ i ∧ i < 121 + 4 * s.1 0 ∧ i % 4 = 0
      · obtain ⟨x, rfl⟩ : ∃ x, i = 121 + 4 * x + 3 := ⟨(i - 121) / 4, by omega⟩
        have hx : x < s.1 0 := by omega
        rw [wedT_s hx]
        unfold wdV
        by_cases x2 : x = q
        · subst x2
          rw [m_up_eq, if_neg (Ne.symm hpq), if_pos rfl, dcN (by omega)]
        · rw [m_up_ni (by omega)]
          by_cases x1 : x = p
          · subst x1
            rw [m_up_eq, if_pos rfl, dcN (by omega)]
          · rw [m_up_ni (by omega), if_neg x1, if_neg x2]
            exact i2 x (by omega) hx
      · rw [wedT_n z, m_up_ni (by omega), m_up_ni (by omega), i3 189 i (fun w => by obtain ⟨-, v, v1, v2, v3⟩ := w; omega)]
        exact hM.s i hi
    · rw [m_up_na (by omega), m_up_na (by omega)]
      exact i3 a i (by omega)
  · rw [m_up_na h, m_up_na h]
    exact i3 a i (fun w => h w.1)
theorem op_marry (a1 a2 : Int32) : Op (f_X8_marry a1 a2) (f_X9_marry a1 a2) := by
  intro s hS
  have h0 := hS.w.h0
  rcases io a1 (n := s.1 0) (by omega) with q | ⟨p, hp, rfl⟩
  · refine both_ref (k := 1) hS (by decide) (by decide) (fun m hX => ?_) (fun m hM => ?_)
    · unfold f_X8_marry; exact (bnd_of (X_hol0 hX q)).trans (if_pos rfl)
    · unfold f_X9_marry; exact (bnd_of (M_hol0 hS hM q)).trans (if_pos rfl)
  rcases io a2 (n := s.1 0) (by omega) with q | ⟨q, hq, rfl⟩
  · refine both_ref (k := 1) hS (by decide) (by decide) (fun m hX => ?_) (fun m hM => ?_)
    · unfold f_X8_marry
      refine (bnd_of (X_hol1 hS hX hp)).trans ?_
      refine (if_neg (by decide)).trans ?_
      exact (bnd_of (X_hol0 hX q)).trans (if_pos rfl)
    · unfold f_X9_marry
      refine (bnd_of (M_hol1 hS hM hp)).trans ?_
      refine (if_neg (by decide)).trans ?_
      exact (bnd_of (M_hol0 hS hM q)).trans (if_pos rfl)
  by_cases e : p = q
  · subst e
    refine both_ref (k := 1) hS (by decide) (by decide) (fun m hX => ?_) (fun m hM => ?_)
    · unfold f_X8_marry
      refine (bnd_of (X_hol1 hS hX hp)).trans ?_
      refine (if_neg (by decide)).trans ?_
      refine (bnd_of (X_hol1 hS hX hp)).trans ?_
      refine (if_neg (by decide)).trans ?_
      exact if_pos rfl
    · unfold f_X9_marry
      refine (bnd_of (M_hol1 hS hM hp)).trans ?_
      refine (if_neg (by decide)).trans ?_
      refine (bnd_of (M_hol1 hS hM hp)).trans ?_
      refine (if_neg (by decide)).trans ?_
      exact if_pos rfl
  refine ⟨1, (wedT s.1 p q, s.2), hS.town (hS.w.wed hp hq e), fun m hX => ?_, fun m hM => ?_⟩
  · have sp := hS.w.spo hp
    have sq := hS.w.spo hq
    obtain ⟨m1, i1, i2, i3⟩ := X_unwed (f := fun y => (s.1 (121 + 4 * y + 3))) (show p < 8 by omega) (by show s.1 (121 + 4 * p + 3) = 999 ∨ s.1 (121 + 4 * p + 3) < 8; omega) (fun x hx => hX.x.s hx)
    obtain ⟨m2, j1, j2, j3⟩ := X_unwed (show q < 8 by omega) (by
      unfold uwd
      split
      · exact Or.inl rfl
      · show s.1 (121 + 4 * q + 3) = 999 ∨ s.1 (121 + 4 * q + 3) < 8; omega) i2
    refine ⟨m_up (m_up m2 12 p (nI q)) 12 q (nI p), ?_, ?_, fun a i z => ?_⟩
    · unfold f_X8_marry
      refine (bnd_of (X_hol1 hS hX hp)).trans ?_
      refine (if_neg (by decide)).trans ?_
      refine (bnd_of (X_hol1 hS hX hq)).trans ?_
      refine (if_neg (by decide)).trans ?_
      refine (if_neg (nIn (by omega) (by omega) e)).trans ?_
      refine (bnd_of i1).trans ?_
      refine (bnd_of j1).trans ?_
      refine (bnd_of (wrN (show p < 8 by omega) (by decide))).trans ?_
      exact (bnd_of (wrN (show q < 8 by omega) (by decide))).trans rfl
    · refine hX.town (hX.x.wed hS.w (fun a i z _ => ?_) (fun x hx => ?_)) (fun a i z => ?_)
      · rw [m_up_na z, m_up_na z, j3 a i z, i3 a i z]
      · by_cases hx0 : x < s.1 0
        · rw [wedT_s hx0]
          by_cases x2 : x = q
          · subst x2
            rw [m_up_eq]
            unfold wdV
            rw [if_neg (Ne.symm e), if_pos rfl, dcN (by omega)]
          · rw [m_up_ni x2]
            by_cases x1 : x = p
            · subst x1
              rw [m_up_eq]
              unfold wdV
              rw [if_pos rfl, dcN (by omega)]
            · rw [m_up_ni x1, j2 x hx, wd_eq hS.w hp hq e hx0 x1 x2]
        · have z := hS.w.sz (p := x) (by omega) hx
          rw [wedT_n (by omega), z, m_up_ni (by omega), m_up_ni (by omega), j2 x hx]
          rw [uwd_9 (uwd_9 (f := fun y => (s.1 (121 + 4 * y + 3))) z)]
      · rw [m_up_na (by omega), m_up_na (by omega), j3 a i (by omega), i3 a i (by omega)]
    · rw [m_up_na (by omega), m_up_na (by omega), j3 a i (by omega), i3 a i (by omega)]
  · obtain ⟨m1, i1, i2, i3⟩ := M_weds hS hM hp hq e
    refine ⟨m1, ?_, i2, fun a i z => i3 a i (by omega)⟩
    unfold f_X9_marry
    refine (bnd_of (M_hol1 hS hM hp)).trans ?_
    refine (if_neg (by decide)).trans ?_
    refine (bnd_of (M_hol1 hS hM hq)).trans ?_
    refine (if_neg (by decide)).trans ?_
    refine (if_neg (nIn (by omega) (by omega) e)).trans ?_
    exact (bnd_of i1).trans rfl
