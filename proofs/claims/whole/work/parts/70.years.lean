/-! year, years -/
def nz (x : Nat) : Nat := if x = 999 then 0 else x
def fc (t : Nat → Nat) (m : mM) : Prop := ∀ w, w < t 1 → m 183 w = bcost (one t 999 w)
theorem X_fcL {s : aSt} (hS : SI s) : ∀ (k n w : Nat) (m : mM), w + k = s.1 1 → k < n → XI s m → (∀ x, x < w → m 183 x = bcost (one s.1 999 x)) → ∃ m', f_X2_findCosts_L2 n (nI w) m = some m' ∧ fc s.1 m' ∧ xN m m' := by
  have w0 := hS.w.w0
  intro k
  induction k with
  | zero =>
    intro n w m hw hn hX hc
    obtain ⟨n, rfl⟩ : ∃ z, n = z + 1 := ⟨n - 1, by omega⟩
    refine ⟨m, ?_, fun x hx => hc x (by omega), xN.rf m⟩
    rw [f_X2_findCosts_L2]
    exact if_pos (by rw [hX.o1]; exact nI_le (by omega) (by omega))
  | succ k ih =>
    intro n w m hw hn hX hc
    obtain ⟨n, rfl⟩ : ∃ z, n = z + 1 := ⟨n - 1, by omega⟩
    obtain ⟨m1, j1, j2, j3, j4⟩ := X_choose hS.w.b (show w < s.1 1 by omega) hX.x
    have u : xN m (m_up m1 183 w (bcost (one s.1 999 w))) := fun a i q => (m_up_na (by omega)).trans (j4.n a i q)
    obtain ⟨m', i1, i2, i3⟩ := ih n (w + 1) (m_up m1 183 w (bcost (one s.1 999 w))) (by omega) (by omega) (hX.n u) (fun x hx => by
      by_cases z : x = w
      · subst z; rw [m_up_eq]
      · rw [m_up_ni z, j4 183 x (by decide) (by decide) (by omega)]; exact hc x (by omega))
    refine ⟨m', ?_, i2, u.tr i3⟩
    rw [f_X2_findCosts_L2]
    refine (if_neg (by rw [hX.o1]; exact nI_ge (by omega) (by omega))).trans ?_
    refine (bnd_of j1).trans ?_
    rw [j2.1]
    refine (bnd_of (wrN (show w < 6 by omega) (by decide))).trans ?_
    rw [nI_1]; exact i1
theorem X_findCosts {s : aSt} {m : mM} (hS : SI s) (hX : XI s m) : ∃ m', f_X2_findCosts m = some m' ∧ fc s.1 m' ∧ xN m m' := by
  have w0 := hS.w.w0
  obtain ⟨m', i1, i2, i3⟩ := X_fcL hS (s.1 1) fU 0 m (by omega) (by show _ < 300; omega) hX (fun x hx => absurd hx (Nat.not_lt_zero _))
  refine ⟨m', ?_, i2, i3⟩
  unfold f_X2_findCosts
  exact (bnd_of i1).trans rfl
theorem nz_x {x g : Nat} (h : x = 999 ∨ x ≤ g) (hg : g < 999) : (if (0 : Int32) < dc x then dc x else 0) = nI (nz x) := by
  unfold nz
  rcases h with rfl | h
  · rw [if_pos rfl]; exact if_neg (by decide)
  · have e9 : (if x = 999 then 0 else x) = x := if_neg (by omega)
    rw [e9, dcN (by omega)]
    by_cases e : x = 0
    · subst e; exact if_neg (by decide)
    · exact if_pos (nI_lt (a := 0) (by omega) (by omega))
theorem X_doneNet {s : aSt} {m : mM} (hS : SI s) (hf : fc s.1 m) {w g : Nat} (hw : w < s.1 1) (hg : g < 999) : f_X2_doneNet (nI w) (nI g) m = some (nI (nz (ntO (one s.1 999 w) g))) := by
  have w0 := hS.w.w0
  unfold f_X2_doneNet
  refine (bnd_of (rdX rfl (show w < 6 by omega) (by decide) (hf w hw))).trans ?_
  refine (bnd_of (X_netOf (one_ok hS hw) hg)).trans ?_
  rw [nz_x (ntO_le hg) hg]
/-- the reference adds what is left -/
theorem M_adds {s : aSt} {m : mM} (hS : SI s) (hM : MI s m) {w g b : Nat} (hw : w < s.1 1) (hg : g < 999) {F : Int32 → mM → Option (Int32 × mM)} : ∃ m', (bnd (f_X9_netBy (nI w) (nI g) m) fun q5 => if (0 : Int32) ≤ q5.1 then F (nI b + q5.1) q5.2 else F (nI b + (0 : Int32)) q5.2) = F (nI (b + nz (ntO (one s.1 999 w) g))) m' ∧ mN m m' := by
  obtain ⟨m', i1, i2, i3⟩ := M_netBy hS hM hw hg
  refine ⟨m', ?_, i3.n⟩
  refine (bnd_of i1).trans ?_
  have := ntO_le (b := one s.1 999 w) hg
  unfold nz
  by_cases e : ntO (one s.1 999 w) g = 999
  · refine (if_neg (by show ¬ (0 : Int32) ≤ dc _; rw [e]; decide)).trans ?_
    rw [iz, if_pos e, Nat.add_zero]
  · refine (if_pos (by show (0 : Int32) ≤ dc _; rw [dcN (by omega)]; exact nI_pos' (by omega))).trans ?_
    rw [if_neg e, ← nI_add, ← dcN (show ntO (one s.1 999 w) g < 999 by omega)]
def yv (t : Nat → Nat) (c w : Nat) : Nat := nz (ntO (one t 999 w) ((t (153 + 6 * w + 4)) * c / 100))
theorem X_seL {s : aSt} {m : mM} (hS : SI s) (hX : XI s m) (hf : fc s.1 m) {c : Nat} (hc : c < 4) : ∀ (k n w b : Nat), w + k = s.1 1 → k < n → f_X2_ofSeasons_L15 (nI c) m n (nI b) (nI w) = some (nI (b + sumF (yv s.1 (s.1 (5 + c))) w k)) := by
  have w0 := hS.w.w0
  have hse := hS.w.se hc
  intro k
  induction k with
  | zero =>
    intro n w b hw hn
    obtain ⟨n, rfl⟩ : ∃ z, n = z + 1 := ⟨n - 1, by omega⟩
    rw [f_X2_ofSeasons_L15]
    exact if_pos (by rw [hX.o1]; exact nI_le (by omega) (by omega))
  | succ k ih =>
    intro n w b hw hn
    obtain ⟨n, rfl⟩ : ∃ z, n = z + 1 := ⟨n - 1, by omega⟩
    obtain ⟨d1, d2, d3, d4, d5, d6⟩ := hS.w.wk (show w < s.1 1 by omega)
    have c4 : m (44 + w) 4 = nI (s.1 (153 + 6 * w + 4)) := (hX.x.w (k := 4) (by omega) (by omega)).trans (dcN (by omega))
    have hm : (s.1 (153 + 6 * w + 4)) * s.1 (5 + c) ≤ 99 * 300 := Nat.mul_le_mul d5 hse
    rw [f_X2_ofSeasons_L15]
    refine (if_neg (by rw [hX.o1]; exact nI_ge (by omega) (by omega))).trans ?_
    refine (bnd_of (ckN (show w < 6 by omega) (by decide))).trans ?_
    refine (bnd_of (rdX (k := 4) rfl (by decide) (by decide) c4)).trans ?_
    refine (bnd_of (rdX rfl hc (by decide) (hX.x.u hc))).trans ?_
    rw [show nI (s.1 (153 + 6 * w + 4)) * nI (s.1 (5 + c)) / 100 = nI ((s.1 (153 + 6 * w + 4)) * s.1 (5 + c) / 100) by rw [pk_mul]; exact pk_div (d := 100) (by omega) (by decide) (by decide)]
    refine (bnd_of (X_doneNet hS hf (show w < s.1 1 by omega) (by omega))).trans ?_
    rw [nI_add, nI_1, ih n (w + 1) _ (by omega) (by omega)]
    simp only [sumF, Nat.add_assoc]
    rfl
theorem X_seL8 {s : aSt} {m : mM} (hS : SI s) (hX : XI s m) (hf : fc s.1 m) : ∀ (k n c b : Nat), c + k = 4 → k < n → f_X2_ofSeasons_L8 m n (nI b) (nI c) = some (nI (b + sumF (fun c => sumF (yv s.1 (s.1 (5 + c))) 0 (s.1 1)) c k)) := by
  have w0 := hS.w.w0
  intro k
  induction k with
  | zero =>
    intro n c b hc hn
    obtain ⟨n, rfl⟩ : ∃ z, n = z + 1 := ⟨n - 1, by omega⟩
    rw [f_X2_ofSeasons_L8]
    exact if_pos (nI_le (a := 4) (by omega) (by omega))
  | succ k ih =>
    intro n c b hc hn
    obtain ⟨n, rfl⟩ : ∃ z, n = z + 1 := ⟨n - 1, by omega⟩
    rw [f_X2_ofSeasons_L8]
    refine (if_neg (nI_ge (b := 4) (by omega) (by decide))).trans ?_
    refine (bnd_of (X_seL hS hX hf (show c < 4 by omega) (s.1 1) fU 0 b (by omega) (by show _ < 300; omega))).trans ?_
    rw [nI_1, ih n (c + 1) _ (by omega) (by omega)]
    simp only [sumF, Nat.add_assoc]
theorem M_nbL {s : aSt} (hS : SI s) {c : Nat} (hc : c ≤ 300) : ∀ (k n w b : Nat) (m : mM), w + k = s.1 1 → k < n → MI s m → ∃ m', f_X9_netsBy_L4 (nI c) n (nI b) (nI w) m = some (nI (b + sumF (yv s.1 c) w k), m') ∧ mN m m' := by
  have w0 := hS.w.w0
  intro k
  induction k with
  | zero =>
    intro n w b m hw hn hM
    obtain ⟨n, rfl⟩ : ∃ z, n = z + 1 := ⟨n - 1, by omega⟩
    refine ⟨m, ?_, mN.rf m⟩
    rw [f_X9_netsBy_L4]
    refine (bnd_of (rdX (k := 1) rfl (by decide) (by decide) (hM.c1 hS))).trans ?_
    exact if_pos (nI_le (by omega) (by omega))
  | succ k ih =>
    intro n w b m hw hn hM
    obtain ⟨n, rfl⟩ : ∃ z, n = z + 1 := ⟨n - 1, by omega⟩
    have hw1 : w < s.1 1 := by omega
    obtain ⟨d1, d2, d3, d4, d5, d6⟩ := hS.w.wk hw1
    have hm : (s.1 (153 + 6 * w + 4)) * c ≤ 99 * 300 := Nat.mul_le_mul d5 hc
    obtain ⟨m1, j1, j2⟩ := M_adds hS hM (b := b) hw1 (show (s.1 (153 + 6 * w + 4)) * c / 100 < 999 by omega) (F := fun x mm => f_X9_netsBy_L4 (nI c) n x (nI w + 1) mm)
    obtain ⟨m', i1, i2⟩ := ih n (w + 1) (b + yv s.1 c w) m1 (by omega) (by omega) (hM.n j2)
    refine ⟨m', ?_, j2.tr i2⟩
    rw [f_X9_netsBy_L4]
    refine (bnd_of (rdX (k := 1) rfl (by decide) (by decide) (hM.c1 hS))).trans ?_
    refine (if_neg (nI_ge (by omega) (by omega))).trans ?_
    refine (bnd_of ((M_of (k := 4) hM.s (by omega) (by omega)).trans (congrArg some (dcN (by omega))))).trans ?_
    rw [show nI (s.1 (153 + 6 * w + 4)) * nI c / 100 = nI ((s.1 (153 + 6 * w + 4)) * c / 100) by rw [pk_mul]; exact pk_div (d := 100) (by omega) (by decide) (by decide)]
    refine j1.trans ?_
    rw [nI_1]
    simp only [sumF]
    rw [← Nat.add_assoc]
    exact i1
theorem M_netsBy {s : aSt} {m : mM} (hS : SI s) (hM : MI s m) {c : Nat} (hc : c ≤ 300) : ∃ m', f_X9_netsBy (nI c) m = some (nI (sumF (yv s.1 c) 0 (s.1 1)), m') ∧ mN m m' := by
  have w0 := hS.w.w0
  obtain ⟨m', i1, i2⟩ := M_nbL hS hc (s.1 1) fU 0 0 m (by omega) (by show _ < 300; omega) hM
  rw [Nat.zero_add] at i1
  refine ⟨m', ?_, i2⟩
  unfold f_X9_netsBy
  exact (bnd_of i1).trans rfl
theorem M_yL {s : aSt} (hS : SI s) : ∀ (k n c b : Nat) (m : mM), c + k = 4 → k < n → MI s m → ∃ m', f_X9_year_L4 n (nI b) (nI c) m = some (nI (b + sumF (fun c => sumF (yv s.1 (s.1 (5 + c))) 0 (s.1 1)) c k), m') ∧ mN m m' := by
  intro k
  induction k with
  | zero =>
    intro n c b m hc hn hM
    obtain ⟨n, rfl⟩ : ∃ z, n = z + 1 := ⟨n - 1, by omega⟩
    refine ⟨m, ?_, mN.rf m⟩
    rw [f_X9_year_L4]
    exact if_pos (nI_le (a := 4) (by omega) (by omega))
  | succ k ih =>
    intro n c b m hc hn hM
    obtain ⟨n, rfl⟩ : ∃ z, n = z + 1 := ⟨n - 1, by omega⟩
    have hse := hS.w.se (show c < 4 by omega)
    obtain ⟨m1, j1, j2⟩ := M_netsBy hS hM hse
    obtain ⟨m', i1, i2⟩ := ih n (c + 1) (b + sumF (yv s.1 (s.1 (5 + c))) 0 (s.1 1)) m1 (by omega) (by omega) (hM.n j2)
    refine ⟨m', ?_, j2.tr i2⟩
    rw [f_X9_year_L4]
    refine (if_neg (nI_ge (b := 4) (by omega) (by decide))).trans ?_
    refine (bnd_of (rdX (k := 5 + c) (by simp only [lit, nI_add]) (by omega) (by decide) (hM.s.n (by omega) (by omega)))).trans ?_
    refine (bnd_of j1).trans ?_
    rw [nI_add, nI_1]
    simp only [sumF]
    rw [← Nat.add_assoc]
    exact i1
theorem op_year : Op f_X8_year f_X9_year := by
  intro s hS
  refine ⟨nI (sumF (fun c => sumF (yv s.1 (s.1 (5 + c))) 0 (s.1 1)) 0 4), s, hS, XO.same (fun m hX => ?_), MO.same (fun m hM => ?_)⟩
  · obtain ⟨m', i1, i2, i3⟩ := X_findCosts hS hX
    refine ⟨m', ?_, i3⟩
    have h := X_seL8 hS (hX.n i3) i2 4 fU 0 0 rfl (by decide)
    rw [Nat.zero_add] at h
    unfold f_X8_year f_X2_ofSeasons
    exact (bnd_of ((bnd_of i1).trans ((bnd_of h).trans rfl))).trans rfl
  · obtain ⟨m', i1, i2⟩ := M_yL hS 4 fU 0 0 m rfl (by decide) hM
    rw [Nat.zero_add] at i1
    refine ⟨m', ?_, i2⟩
    unfold f_X9_year
    exact (bnd_of i1).trans rfl
/-- one draw -/
theorem drw (x : Int32) {g : Nat} (hg : g ≤ 99) : ∃ v, v < 999 ∧ rmI ((x &&& (2147483647 : Int32)) / (256 : Int32)) (nI (2 * g + 1)) = some (nI v) := by
  obtain ⟨j, hj, ej⟩ := pk_andE x (m := (2147483647 : Int32)) 31 (by decide)
  have e1 : nI j / (256 : Int32) = nI (j / 256) := pk_div (d := 256) hj (by decide) (by decide)
  refine ⟨j / 256 % (2 * g + 1), ?_, ?_⟩
  · have := Nat.mod_lt (j / 256) (show 2 * g + 1 > 0 by omega); omega
  · rw [ej, e1, rmN (by omega) (by omega) (by omega)]
theorem draws_L {s : aSt} (hS : SI s) (a b6 : Int32) : ∀ (k n w b : Nat) (x : Int32), w + k = s.1 1 → k < n → ∃ b' x', (∀ m, XI s m → fc s.1 m → f_X2_ofDraws_L21 a b6 m n (nI b) x (nI w) = some (nI b', x')) ∧ ∀ m, MI s m → ∃ m', f_X9_years_L36 a b6 n x (nI b) (nI w) m = some (x', nI b', m') ∧ mN m m' := by
  have w0 := hS.w.w0
  intro k
  induction k with
  | zero =>
    intro n w b x hw hn
    obtain ⟨n, rfl⟩ : ∃ z, n = z + 1 := ⟨n - 1, by omega⟩
    refine ⟨b, x, fun m hX hf => ?_, fun m hM => ⟨m, ?_, mN.rf m⟩⟩
    · rw [f_X2_ofDraws_L21]
      exact if_pos (by rw [hX.o1]; exact nI_le (by omega) (by omega))
    · rw [f_X9_years_L36]
      refine (bnd_of (rdX (k := 1) rfl (by decide) (by decide) (hM.c1 hS))).trans ?_
      exact if_pos (nI_le (by omega) (by omega))
  | succ k ih =>
    intro n w b x hw hn
    obtain ⟨n, rfl⟩ : ∃ z, n = z + 1 := ⟨n - 1, by omega⟩
    have hw1 : w < s.1 1 := by omega
    obtain ⟨d1, d2, d3, d4, d5, d6⟩ := hS.w.wk hw1
    obtain ⟨v, hv, ev⟩ := drw (x * 1664525 + 1013904223) d5
    obtain ⟨b', x', i1, i2⟩ := ih n (w + 1) (b + nz (ntO (one s.1 999 w) v)) (x * 1664525 + 1013904223) (by omega) (by omega)
    have e2 : (2 : Int32) * nI (s.1 (153 + 6 * w + 4)) + 1 = nI (2 * (s.1 (153 + 6 * w + 4)) + 1) := by simp only [lit, pk_mul, nI_add]
    refine ⟨b', x', fun m hX hf => ?_, fun m hM => ?_⟩
    · have c4 : m (44 + w) 4 = nI (s.1 (153 + 6 * w + 4)) := (hX.x.w (k := 4) (by omega) (by omega)).trans (dcN (by omega))
      rw [f_X2_ofDraws_L21]
      refine (if_neg (by rw [hX.o1]; exact nI_ge (by omega) (by omega))).trans ?_
      refine (bnd_of (ckN (show w < 6 by omega) (by decide))).trans ?_
      refine (bnd_of (rdX (k := 4) rfl (by decide) (by decide) c4)).trans ?_
      have e3 : (if (1 : Int32) < (2 : Int32) * nI (s.1 (153 + 6 * w + 4)) + 1 then (2 : Int32) * nI (s.1 (153 + 6 * w + 4)) + 1 else 1) = nI (2 * (s.1 (153 + 6 * w + 4)) + 1) := by
        rw [e2]
        by_cases z : (s.1 (153 + 6 * w + 4)) = 0
        · rw [z]; rfl
        · exact if_pos (nI_lt (a := 1) (by omega) (by omega))
      rw [e3]
      refine (bnd_of ev).trans ?_
      refine (bnd_of (X_doneNet hS hf hw1 hv)).trans ?_
      rw [nI_add, nI_1]
      exact i1 m hX hf
    · obtain ⟨m1, j1, j2, j3⟩ := M_netBy hS hM hw1 hv
      have hM1 := hM.n j3.n
      obtain ⟨m', g1, g2⟩ := i2 m1 hM1
      refine ⟨m', ?_, j3.n.tr g2⟩
      rw [f_X9_years_L36]
      refine (bnd_of (rdX (k := 1) rfl (by decide) (by decide) (hM.c1 hS))).trans ?_
      refine (if_neg (nI_ge (by omega) (by omega))).trans ?_
      refine (bnd_of ((M_of (k := 4) hM.s (by omega) (by omega)).trans (congrArg some (dcN (by omega))))).trans ?_
      rw [e2]
      refine (bnd_of ev).trans ?_
      refine (bnd_of j1).trans ?_
      have nl := ntO_le (b := one s.1 999 w) hv
      unfold nz at g1
      by_cases e : ntO (one s.1 999 w) v = 999
      · refine (if_neg (by show ¬ (0 : Int32) ≤ dc _; rw [e]; decide)).trans ?_
        rw [if_pos e, Nat.add_zero] at g1
        rw [iz, nI_1]; exact g1
      · refine (if_pos (by show (0 : Int32) ≤ dc _; rw [dcN (by omega)]; exact nI_pos' (by omega))).trans ?_
        rw [if_neg e, ← nI_add, ← dcN (show ntO (one s.1 999 w) v < 999 by omega)] at g1
        rw [nI_1]; exact g1
theorem years_L {s : aSt} (hS : SI s) {N : Nat} (hN : N ≤ 10) : ∀ (k n y b : Nat) (x : Int32), y + k = N → k < n → ∃ b', (∀ m, XI s m → fc s.1 m → f_X2_ofDraws_L12 (nI N) m n (nI b) x (nI y) = some (nI b')) ∧ ∀ m, MI s m → ∃ m', f_X9_years_L27 (nI N) n x (nI b) (nI y) m = some (nI b', m') ∧ mN m m' := by
  have w0 := hS.w.w0
  intro k
  induction k with
  | zero =>
    intro n y b x hy hn
    obtain ⟨n, rfl⟩ : ∃ z, n = z + 1 := ⟨n - 1, by omega⟩
    refine ⟨b, fun m hX hf => ?_, fun m hM => ⟨m, ?_, mN.rf m⟩⟩
    · rw [f_X2_ofDraws_L12]
      exact if_pos (nI_le (by omega) (by omega))
    · rw [f_X9_years_L27]
      exact if_pos (nI_le (by omega) (by omega))
  | succ k ih =>
    intro n y b x hy hn
    obtain ⟨n, rfl⟩ : ∃ z, n = z + 1 := ⟨n - 1, by omega⟩
    obtain ⟨b1, x1, j1, j2⟩ := draws_L hS (nI N) (nI y) (s.1 1) fU 0 b x (by omega) (by show _ < 300; omega)
    obtain ⟨b', i1, i2⟩ := ih n (y + 1) b1 x1 (by omega) (by omega)
    refine ⟨b', fun m hX hf => ?_, fun m hM => ?_⟩
    · rw [f_X2_ofDraws_L12]
      refine (if_neg (nI_ge (by omega) (by omega))).trans ?_
      refine (bnd_of (j1 m hX hf)).trans ?_
      rw [nI_1]; exact i1 m hX hf
    · obtain ⟨m1, g1, g2⟩ := j2 m hM
      obtain ⟨m', g3, g4⟩ := i2 m1 (hM.n g2)
      refine ⟨m', ?_, g2.tr g4⟩
      rw [f_X9_years_L27]
      refine (if_neg (nI_ge (by omega) (by omega))).trans ?_
      refine (bnd_of g1).trans ?_
      rw [nI_1]; exact g3
theorem op_years (a1 a2 : Int32) : Op (f_X8_years a1 a2) (f_X9_years a1 a2) := by
  intro s hS
  by_cases e1 : (1 : Int32) ≤ a1
  · by_cases e2 : a1 ≤ (10 : Int32)
    · have hn : ¬ a1 < 0 := fun z => by
        have h1 := Int32.lt_iff_toInt_lt.mp z
        have h2 := Int32.le_iff_toInt_le.mp e1
        have h3 : (1 : Int32).toInt = 1 := by decide
        have h4 : (0 : Int32).toInt = 0 := by decide
        omega
      obtain ⟨N, hN, rfl⟩ := neg_nI hn
      have hN10 : N ≤ 10 := by
        by_cases z : N ≤ 10
        · exact z
        · exact absurd e2 (nI_ge (a := 10) (by omega) hN)
      obtain ⟨b', i1, i2⟩ := years_L hS hN10 N fU 0 0 a2 (by omega) (by show _ < 300; omega)
      refine ⟨nI b', s, hS, XO.same (fun m hX => ?_), MO.same (fun m hM => ?_)⟩
      · obtain ⟨m', j1, j2, j3⟩ := X_findCosts hS hX
        refine ⟨m', ?_, j3⟩
        unfold f_X8_years f_X2_ofDraws
        refine (if_pos e1).trans ((if_pos e2).trans ?_)
        exact (bnd_of ((bnd_of j1).trans ((bnd_of (i1 m' (hX.n j3) j2)).trans rfl))).trans rfl
      · obtain ⟨m', j1, j2⟩ := i2 m hM
        refine ⟨m', ?_, j2⟩
        have ew : f_X9_within (nI N) (1 : Int32) (10 : Int32) m = some 0 := (if_pos e1).trans (if_pos e2)
        unfold f_X9_years
        refine (bnd_of ew).trans ?_
        refine (if_pos rfl).trans ?_
        exact (bnd_of j1).trans rfl
    · refine both_ref (k := 6) hS (by decide) (by decide) (fun m hX => ?_) (fun m hM => ?_)
      · unfold f_X8_years; exact (if_pos e1).trans (if_neg e2)
      · have ew : f_X9_within a1 (1 : Int32) (10 : Int32) m = some (-nI 6) := (if_pos e1).trans (if_neg e2)
        unfold f_X9_years
        exact (bnd_of ew).trans (if_neg (by decide))
  · refine both_ref (k := 4) hS (by decide) (by decide) (fun m hX => ?_) (fun m hM => ?_)
    · unfold f_X8_years; exact if_neg e1
    · have ew : f_X9_within a1 (1 : Int32) (10 : Int32) m = some (-nI 4) := if_neg e1
      unfold f_X9_years
      exact (bnd_of ew).trans (if_neg (by decide))
