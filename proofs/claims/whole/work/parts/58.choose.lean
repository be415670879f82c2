/-! ONE of the class: Costs.choose -/
section XChoose
variable {t : Nat → Nat}
theorem X_chL12 (hW : WB t) {w d : Nat} (hw : w < t 1) (hd : d < 7) {m : mM} (hO : oH t w m) : ∀ (k n h : Nat) (b : Nat × Nat), 4 * d ≤ h → h + k = 4 * d + cntD t w d → k < n → dG t 999 w d b → f_X0_cheapestOf_L12 (nI (t (153 + 6 * w + 3))) (nI (4 * d)) m n (dc b.1) (nI h) = some (dc (dB t 999 w k h b).1) := by
  obtain ⟨d1, d2, d3, d4, d5, d6⟩ := hW.wk hw
  have hc : cntD t w d ≤ 4 ∧ (cntD t w d = 4 ∨ (t (153 + 6 * w + 3)) < 4 * d + cntD t w d) ∧ (0 < cntD t w d → 4 * d + cntD t w d ≤ (t (153 + 6 * w + 3)) + 1) := by unfold cntD; omega
  have e4 : nI (4 * d) + 4 = nI (4 * d + 4) := by simp only [lit, nI_add]
  intro k
  induction k with
  | zero =>
    intro n h b h4 hh hn hb
    obtain ⟨n, rfl⟩ : ∃ z, n = z + 1 := ⟨n - 1, by omega⟩
    rw [f_X0_cheapestOf_L12, e4]
    by_cases q : 4 * d + 4 ≤ h
    · exact if_pos (nI_le q (by omega))
    · refine (if_neg (nI_ge (by omega) (by omega))).trans ?_
      exact if_pos (nI_lt (by omega) (by omega))
  | succ k ih =>
    intro n h b h4 hh hn hb
    obtain ⟨n, rfl⟩ : ∃ z, n = z + 1 := ⟨n - 1, by omega⟩
    have hr := hO h (by omega)
    have hb' := dB_g (lt := 999) hW hw 1 h b h4 (by omega) (by omega) hb
    rw [f_X0_cheapestOf_L12, e4]
    refine (if_neg (nI_ge (by omega) (by omega))).trans ?_
    refine (if_neg (nI_nlt (by omega) (by omega))).trans ?_
    refine (bnd_of (rdX (k := h) rfl (by omega) (by decide) hr)).trans ?_
    have go := ih n (h + 1) _ (by omega) (by omega) (by omega) hb'
    simp only [dB] at go
    simp only [dB]
    cases e : hC t 999 w h with
    | none =>
      have ef : hF t 999 w h = 100000 := by rw [hF, e]; rfl
      have hb2 : b.2 ≤ 100000 := by rcases hb with z | z <;> omega
      refine (if_pos rfl).trans ?_
      rw [ef, if_neg (by omega)] at go ⊢
      rw [nI_1]
      exact go
    | some v =>
      have hv := hC_le hW hw (show h < 28 by omega) e
      have ef : hF t 999 w h = v := by rw [hF, e]; rfl
      rw [ef] at go ⊢
      refine (if_neg (n9 (show v < 2 ^ 31 by omega))).trans ?_
      rcases hb with z | ⟨z1, z2, z3, z4, z5⟩
      · have es : (if v < b.2 then (h, v) else b) = (h, v) := if_pos (by omega)
        rw [es] at go ⊢
        refine (if_pos (by rw [z.1]; rfl)).trans ?_
        rw [nI_1, ← dcN (show h < 999 by omega)]
        exact go
      · have eb : m 155 b.1 = nI b.2 := by rw [hO b.1 z3, z4]; rfl
        refine (if_neg (by rw [dcN (show b.1 < 999 by omega)]; exact n9 (by omega))).trans ?_
        refine (bnd_of (rdX (v := nI v) (k := h) rfl (by omega) (by decide) (hr.trans (congrArg oc e)))).trans ?_
        refine (bnd_of (rdX (k := b.1) (dcN (by omega)) (by omega) (by decide) eb)).trans ?_
        by_cases q : b.2 ≤ v
        · have es : (if v < b.2 then (h, v) else b) = b := if_neg (by omega)
          rw [es] at go ⊢
          refine (if_pos (nI_le q (by omega))).trans ?_
          rw [nI_1]
          exact go
        · have es : (if v < b.2 then (h, v) else b) = (h, v) := if_pos (by omega)
          rw [es] at go ⊢
          refine (if_neg (nI_ge (by omega) (by omega))).trans ?_
          rw [nI_1, ← dcN (show h < 999 by omega)]
          exact go
theorem X_cheapestOf (hW : WB t) {w d : Nat} (hw : w < t 1) (hd : d < 7) {m : mM} (hO : oH t w m) : f_X0_cheapestOf (nI d) (nI (t (153 + 6 * w + 3))) m = some (dc (dh t 999 w d)) := by
  have h := X_chL12 hW hw hd hO (cntD t w d) fU (4 * d) (999, 100000) (Nat.le_refl _) rfl (by unfold cntD; show _ < 300; omega) (Or.inl ⟨rfl, rfl⟩)
  unfold f_X0_cheapestOf
  rw [show nI d * 4 = nI (4 * d) by simp only [lit, pk_mul, Nat.mul_comm], show (-9 : Int32) = dc 999 from rfl]
  exact (bnd_of h).trans rfl
theorem X_cdL2 (hW : WB t) {w : Nat} (hw : w < t 1) {z : Int32} : ∀ (k n d : Nat) (m : mM), d + k = 7 → k < n → oH t w m → (∀ x, x < d → m 156 x = dc (dh t 999 w x)) → ∃ m', f_X0_chooseDays_L2 z (nI (t (153 + 6 * w + 3))) n (nI d) m = some m' ∧ (∀ x, x < 7 → m' 156 x = dc (dh t 999 w x)) ∧ (∀ a, a ≠ 156 → m' a = m a) := by
  intro k
  induction k with
  | zero =>
    intro n d m hd hn hO ho
    obtain ⟨n, rfl⟩ : ∃ z, n = z + 1 := ⟨n - 1, by omega⟩
    refine ⟨m, ?_, fun x hx => ho x (by omega), fun _ _ => rfl⟩
    rw [f_X0_chooseDays_L2]
    exact if_pos (nI_le (a := 7) (by omega) (by omega))
  | succ k ih =>
    intro n d m hd hn hO ho
    obtain ⟨n, rfl⟩ : ∃ z, n = z + 1 := ⟨n - 1, by omega⟩
    obtain ⟨m', i1, i2, i3⟩ := ih n (d + 1) (m_up m 156 d (dc (dh t 999 w d))) (by omega) (by omega) (fun h hh => by rw [← hO h hh]; simp [m_up]) (fun x hx => by
      by_cases e : x = d
      · subst e; simp [m_up]
      · rw [m_up_ni e]; exact ho x (by omega))
    refine ⟨m', ?_, i2, fun a ha => by rw [i3 a ha]; funext i; simp [m_up, ha]⟩
    rw [f_X0_chooseDays_L2]
    refine (if_neg (nI_ge (b := 7) (by omega) (by decide))).trans ?_
    refine (bnd_of (X_cheapestOf hW hw (by omega) hO)).trans ?_
    refine (bnd_of (wrN (show d < 7 by omega) (by decide))).trans ?_
    rw [nI_1]
    exact i1
/-- the row of days when D is picked -/
def gS (t : Nat → Nat) (w D : Nat) (m : mM) : Prop := ∀ x, x < 7 → m 156 x = if bt1 D x = 1 then dc 999 else dc (dh t 999 w x)
def opn (t : Nat → Nat) (w D x : Nat) : Prop := bt1 D x = 0 ∧ dh t 999 w x ≠ 999
def cP (t : Nat → Nat) (w D d b : Nat) : Prop := (b = 999 ∧ ∀ x, x < d → ¬ opn t w D x) ∨ (b < d ∧ opn t w D b ∧ ∀ x, x < d → opn t w D x → dv t 999 w b < dv t 999 w x ∨ (dv t 999 w b = dv t 999 w x ∧ b ≤ x))
theorem gS_o {w D x : Nat} {m : mM} (hG : gS t w D m) (hx : x < 7) (ho : opn t w D x) : m 156 x = dc (dh t 999 w x) := by
  rw [hG x hx, if_neg (by have := ho.1; omega)]
theorem gS_n {w D x : Nat} {m : mM} (hG : gS t w D m) (hx : x < 7) (ho : ¬ opn t w D x) : m 156 x = -9 := by
  rw [hG x hx]
  by_cases e : bt1 D x = 1
  · rw [if_pos e]; rfl
  · rw [if_neg e]
    have := bt1_le D x
    by_cases e2 : dh t 999 w x = 999
    · rw [e2]; rfl
    · exact absurd ⟨by omega, e2⟩ ho
theorem dR_at (hW : WB t) {w d : Nat} (hw : w < t 1) {m : mM} (hO : oH t w m) (h : dh t 999 w d ≠ 999) : dh t 999 w d < 28 ∧ dv t 999 w d ≤ 81 ∧ m 155 (dh t 999 w d) = nI (dv t 999 w d) := by
  obtain ⟨d1, d2, d3, d4, d5, d6⟩ := hW.wk hw
  rcases dR_g (lt := 999) (d := d) hW hw with q | ⟨q1, q2, q3, q4, q5⟩
  · exact absurd q.1 h
  · have e1 : dh t 999 w d ≤ (t (153 + 6 * w + 3)) := q3
    refine ⟨by omega, q5, ?_⟩
    rw [hO _ e1]
    show oc (hC t 999 w (dR t 999 w d).1) = _
    rw [q4]; rfl
theorem X_cdL5 (hW : WB t) {w D : Nat} (hw : w < t 1) {m : mM} (hO : oH t w m) (hG : gS t w D m) : ∀ (k n d b : Nat), d + k = 7 → k < n → cP t w D d b → ∃ b', f_X0_cheapestDay_L5 m n (dc b) (nI d) = some (dc b') ∧ cP t w D 7 b' := by
  intro k
  induction k with
  | zero =>
    intro n d b hd hn hc
    obtain ⟨n, rfl⟩ : ∃ z, n = z + 1 := ⟨n - 1, by omega⟩
    have : d = 7 := by omega
    subst this
    refine ⟨b, ?_, hc⟩
    rw [f_X0_cheapestDay_L5]
    exact if_pos (nI_le (a := 7) (by omega) (by omega))
  | succ k ih =>
    intro n d b hd hn hc
    obtain ⟨n, rfl⟩ : ∃ z, n = z + 1 := ⟨n - 1, by omega⟩
    rw [f_X0_cheapestDay_L5]
    by_cases ho : opn t w D d
    · obtain ⟨g1, g2, g3⟩ := dR_at hW hw hO ho.2
      have r1 := gS_o hG (by omega) ho
      rw [dcN (by omega)] at r1
      have take : cP t w D (d + 1) d → ∃ b', f_X0_cheapestDay_L5 m n (nI d) (nI d + 1) = some (dc b') ∧ cP t w D 7 b' := by
        intro hc2
        obtain ⟨b', i1, i2⟩ := ih n (d + 1) d (by omega) (by omega) hc2
        rw [dcN (show d < 999 by omega)] at i1
        exact ⟨b', by rw [nI_1]; exact i1, i2⟩
      rcases hc with ⟨c1, c2⟩ | ⟨c1, c2, c3⟩
      · obtain ⟨b', i1, i2⟩ := take (Or.inr ⟨by omega, ho, fun x hx hx2 => by
          by_cases z : x = d
          · subst z; exact Or.inr ⟨rfl, Nat.le_refl _⟩
          · exact absurd hx2 (c2 x (by omega))⟩)
        refine ⟨b', ?_, i2⟩
        refine (if_neg (nI_ge (b := 7) (by omega) (by decide))).trans ?_
        refine (bnd_of (rdX (k := d) rfl (by omega) (by decide) r1)).trans ?_
        refine (if_neg (n9 (by omega))).trans ?_
        refine (if_pos (by rw [c1]; rfl)).trans ?_
        exact i1
      · obtain ⟨k1, k2, k3⟩ := dR_at hW hw hO c2.2
        have r2 := gS_o hG (show b < 7 by omega) c2
        rw [dcN (by omega)] at r2
        have go : f_X0_cheapestDay_L5 m (n + 1) (dc b) (nI d) = if nI (dv t 999 w b) ≤ nI (dv t 999 w d) then f_X0_cheapestDay_L5 m n (dc b) (nI d + 1) else f_X0_cheapestDay_L5 m n (nI d) (nI d + 1) := by
          rw [f_X0_cheapestDay_L5]
          refine (if_neg (nI_ge (b := 7) (by omega) (by decide))).trans ?_
          refine (bnd_of (rdX (k := d) rfl (by omega) (by decide) r1)).trans ?_
          refine (if_neg (n9 (by omega))).trans ?_
          refine (if_neg (by rw [dcN (by omega)]; exact n9 (by omega))).trans ?_
          refine (bnd_of (rdX rfl g1 (by decide) g3)).trans ?_
          refine (bnd_of (rdX (k := b) (dcN (by omega)) (by omega) (by decide) r2)).trans ?_
          exact (bnd_of (rdX rfl k1 (by decide) k3))
        rw [f_X0_cheapestDay_L5] at go
        rw [go]
        by_cases q : dv t 999 w b ≤ dv t 999 w d
        · obtain ⟨b', i1, i2⟩ := ih n (d + 1) b (by omega) (by omega) (Or.inr ⟨by omega, c2, fun x hx hx2 => by
            by_cases z : x = d
            · subst z; omega
            · exact c3 x (by omega) hx2⟩)
          refine ⟨b', ?_, i2⟩
          refine (if_pos (nI_le q (by omega))).trans ?_
          rw [nI_1]; exact i1
        · obtain ⟨b', i1, i2⟩ := take (Or.inr ⟨by omega, ho, fun x hx hx2 => by
            by_cases z : x = d
            · subst z; exact Or.inr ⟨rfl, Nat.le_refl _⟩
            · have := c3 x (by omega) hx2
              omega⟩)
          refine ⟨b', ?_, i2⟩
          exact (if_neg (nI_ge (by omega) (by omega))).trans i1
    · have r1 := gS_n hG (show d < 7 by omega) ho
      obtain ⟨b', i1, i2⟩ := ih n (d + 1) b (by omega) (by omega) (by
        rcases hc with ⟨c1, c2⟩ | ⟨c1, c2, c3⟩
        · refine Or.inl ⟨c1, fun x hx hx2 => ?_⟩
          by_cases z : x = d
          · subst z; exact ho hx2
          · exact c2 x (by omega) hx2
        · refine Or.inr ⟨by omega, c2, fun x hx hx2 => ?_⟩
          by_cases z : x = d
          · subst z; exact absurd hx2 ho
          · exact c3 x (by omega) hx2)
      refine ⟨b', ?_, i2⟩
      refine (if_neg (nI_ge (b := 7) (by omega) (by decide))).trans ?_
      refine (bnd_of (rdX (k := d) rfl (by omega) (by decide) r1)).trans ?_
      refine (if_pos rfl).trans ?_
      rw [nI_1]
      exact i1
theorem X_cdL34 (hW : WB t) {w : Nat} (hw : w < t 1) : ∀ (k n j D : Nat) (m : mM), j + k = (t (153 + 6 * w + 2)) → k < n → D < 128 → cnD D = j → oH t w m → gS t w D m → sel (dh t 999 w) (dv t 999 w) D → (0 < j → ∃ r, r < 7 ∧ bt1 D r = 1 ∧ ∀ d, d < 7 → bt1 D d = 1 → dv t 999 w d < dv t 999 w r ∨ (dv t 999 w d = dv t 999 w r ∧ d ≤ r)) → ∃ m', (∀ a, a ≠ 156 → m' a = m a) ∧ ((∃ c x, f_X0_chooseDays_L34 (nI (t (153 + 6 * w + 2))) n (nI (csD (dv t 999 w) D)) (nI (bsD (dh t 999 w) D)) (nI j) m = some (.inr (nI c, nI x, m')) ∧ bestD t 999 w 128 0 none = some (c, x)) ∨ (f_X0_chooseDays_L34 (nI (t (153 + 6 * w + 2))) n (nI (csD (dv t 999 w) D)) (nI (bsD (dh t 999 w) D)) (nI j) m = some (.inl m') ∧ bestD t 999 w 128 0 none = none)) := by
  obtain ⟨d1, d2, d3, d4, d5, d6⟩ := hW.wk hw
  have ok := dR_2 (lt := 999) hW hw
  intro k
  induction k with
  | zero =>
    intro n j D m hj hn hD hc hO hG hs hr
    obtain ⟨n, rfl⟩ : ∃ z, n = z + 1 := ⟨n - 1, by omega⟩
    obtain ⟨r, r1, r2, r3⟩ := hr (by omega)
    obtain ⟨s1, s2⟩ := sel_best ok hs r1 r2 r3
    refine ⟨m, fun _ _ => rfl, Or.inl ⟨csD (dv t 999 w) D, bsD (dh t 999 w) D, ?_, ?_⟩⟩
    · rw [f_X0_chooseDays_L34]
      exact if_pos (nI_le (by omega) (by omega))
    · exact bestD_some hW hw hD (by omega) s1 (fun E _ h2 h3 => s2 E (by omega) h3)
  | succ k ih =>
    intro n j D m hj hn hD hc hO hG hs hr
    obtain ⟨n, rfl⟩ : ∃ z, n = z + 1 := ⟨n - 1, by omega⟩
    obtain ⟨b, b1, b2⟩ := X_cdL5 hW hw hO hG 7 fU 0 999 rfl (by decide) (Or.inl ⟨rfl, fun x hx => absurd hx (Nat.not_lt_zero _)⟩)
    have bd : f_X0_cheapestDay m = some (dc b) := by
      unfold f_X0_cheapestDay
      exact (bnd_of b1).trans rfl
    rcases b2 with ⟨c1, c2⟩ | ⟨c1, c2, c3⟩
    · refine ⟨m, fun _ _ => rfl, Or.inr ⟨?_, ?_⟩⟩
      · rw [f_X0_chooseDays_L34]
        refine (if_neg (nI_ge (by omega) (by omega))).trans ?_
        refine (bnd_of bd).trans ?_
        exact if_pos (by rw [c1]; rfl)
      · refine bestD_none hW hw (fun E _ hE => ?_)
        refine sel_none ok (D := D) (fun d hd hd0 => ?_) (by omega)
        by_cases z : dh t 999 w d = 999
        · exact z
        · exact absurd ⟨hd0, z⟩ (c2 d hd)
    · obtain ⟨k1, k2, k3⟩ := dR_at hW hw hO c2.2
      have r1 := gS_o hG c1 c2
      rw [dcN (by omega)] at r1
      obtain ⟨p1, p2, p3⟩ := sel_pick hs c1 c2.1 c2.2 (fun x hx y1 y2 => c3 x hx ⟨y1, y2⟩)
      obtain ⟨m', i1, i2⟩ := ih n (j + 1) (D + 2 ^ b) (m_up m 156 b (-9)) (by omega) (by omega) (D_pick hD c1 c2.1) (by rw [cnD_pick c1 c2.1, hc]) (fun h hh => by rw [← hO h hh]; simp [m_up]) (fun x hx => by
        rw [bt1_add c2.1]
        by_cases e : x = b
        · subst e; rw [if_pos rfl, if_pos rfl]; simp [m_up]; rfl
        · rw [m_up_ni e, if_neg e]; exact hG x hx) p1 (fun _ => ⟨b, c1, p2, p3⟩)
      refine ⟨m', fun a ha => by rw [i1 a ha]; funext i; simp [m_up, ha], ?_⟩
      have p28 : 2 ^ dh t 999 w b < 2 ^ 28 := Nat.pow_lt_pow_right (by decide) k1
      have es : (1 : Int32) <<< (nI (dh t 999 w b) &&& 31) = nI (2 ^ dh t 999 w b) := by
        show nI 1 <<< (nI _ &&& nI 31) = _
        rw [slN (by omega) (by omega), Nat.one_mul]
      have go : f_X0_chooseDays_L34 (nI (t (153 + 6 * w + 2))) (n + 1) (nI (csD (dv t 999 w) D)) (nI (bsD (dh t 999 w) D)) (nI j) m = f_X0_chooseDays_L34 (nI (t (153 + 6 * w + 2))) n (nI (csD (dv t 999 w) (D + 2 ^ b))) (nI (bsD (dh t 999 w) (D + 2 ^ b))) (nI (j + 1)) (m_up m 156 b (-9)) := by
        rw [f_X0_chooseDays_L34]
        refine (if_neg (nI_ge (by omega) (by omega))).trans ?_
        refine (bnd_of bd).trans ?_
        rw [dcN (show b < 999 by omega)]
        refine (if_neg (n9 (by omega))).trans ?_
        refine (bnd_of (rdX (k := b) rfl (by omega) (by decide) r1)).trans ?_
        refine (bnd_of (rdX rfl k1 (by decide) k3)).trans ?_
        refine (bnd_of (rdX (k := b) rfl (by omega) (by decide) r1)).trans ?_
        refine (bnd_of (wrN (show b < 7 by omega) (by decide))).trans ?_
        rw [es, orN, bsD_pick ok c1 c2.1 c2.2, nI_add, csD_pick c1 c2.1, nI_1]
      rw [go]
      exact i2
theorem X_chooseDays (hW : WB t) {w : Nat} (hw : w < t 1) {m : mM} (hO : oH t w m) (hB : xB none m) : ∃ m', f_X0_chooseDays (nI (t (153 + 6 * w + 2))) (nI (t (153 + 6 * w + 3))) m = some m' ∧ xB (bestD t 999 w 128 0 none) m' ∧ oH t w m' ∧ xF m m' := by
  obtain ⟨d1, d2, d3, d4, d5, d6⟩ := hW.wk hw
  obtain ⟨m1, g1, g2, g3⟩ := X_cdL2 (z := nI (t (153 + 6 * w + 2))) hW hw 7 fU 0 m rfl (by decide) hO (fun x hx => absurd hx (Nat.not_lt_zero _))
  have hO1 : oH t w m1 := fun h hh => by rw [g3 155 (by decide)]; exact hO h hh
  have f1 : xF m m1 := fun a i _ y _ => by rw [g3 a y]
  have z0 : ∀ d, bt1 0 d = 0 := fun d => by unfold bt1; rw [Nat.zero_div]
  obtain ⟨m2, i1, i2⟩ := X_cdL34 hW hw (t (153 + 6 * w + 2)) fU 0 0 m1 (by omega) (by show _ < 300; omega) (by decide) (by decide) hO1 (fun x hx => by rw [z0, if_neg (by decide)]; exact g2 x hx) (fun d e _ _ h => by rw [z0] at h; omega) (fun h => absurd h (Nat.not_lt_zero _))
  have c0 : ∀ cc, csD cc 0 = 0 := fun cc => by simp only [csD, z0, Nat.zero_mul]; rfl
  have b0 : ∀ hh, bsD hh 0 = 0 := fun hh => by simp only [bsD, z0, Nat.zero_mul]; rfl
  rw [c0, b0] at i2
  have f2 : xF m1 m2 := fun a i _ y _ => by rw [i1 a y]
  have hO2 : oH t w m2 := fun h hh => by rw [i1 155 (by decide)]; exact hO1 h hh
  unfold f_X0_chooseDays
  rcases i2 with ⟨c, x, i2, i3⟩ | ⟨i2, i3⟩
  · refine ⟨m_up (m_up m2 154 4 (nI c)) 154 3 (nI x), ?_, ?_, ?_, f1.tr (f2.tr ((xF.u4 _ _).tr (xF.u3 _ _)))⟩
    · refine (bnd_of g1).trans ?_
      exact (bnd_of i2).trans rfl
    · rw [i3]; exact ⟨by simp [m_up, bcost], by simp [m_up, bbits]⟩
    · exact fun h hh => by rw [← hO2 h hh]; simp [m_up]
  · refine ⟨m2, ?_, ?_, hO2, f1.tr f2⟩
    · refine (bnd_of g1).trans ?_
      exact (bnd_of i2).trans rfl
    · rw [i3]
      exact ⟨by rw [i1 154 (by decide), g3 154 (by decide)]; exact hB.1, by rw [i1 154 (by decide), g3 154 (by decide)]; exact hB.2⟩
/-- Costs.choose finds ONE -/
theorem X_choose (hW : WB t) {w : Nat} (hw : w < t 1) {m : mM} (hX : XS t m) : ∃ m', f_X0_choose (nI w) m = some m' ∧ xB (one t 999 w) m' ∧ oH t w m' ∧ xF m m' := by
  have h1 := hW.w0
  obtain ⟨d1, d2, d3, d4, d5, d6⟩ := hW.wk hw
  obtain ⟨m1, g1, g2, g3⟩ := X_cHours hW hw ((t (153 + 6 * w + 3)) + 1) fU 0 m (by omega) (by show _ < 300; omega) hX (fun h hh => absurd hh (Nat.not_lt_zero _))
  have u := (xF.u3 m1 0).tr (xF.u4 (m_up m1 154 3 0) (-9))
  have hB : xB none (m_up (m_up m1 154 3 0) 154 4 (-9)) := ⟨by simp [m_up, bcost]; rfl, by simp [m_up, bbits]; rfl⟩
  have hO : oH t w (m_up (m_up m1 154 3 0) 154 4 (-9)) := fun h hh => by rw [← g2 h hh]; simp [m_up]
  have hX2 := (g3.tr u).xs hX
  have c1 : (m_up (m_up m1 154 3 0) 154 4 (-9)) (44 + w) 1 = nI (t (153 + 6 * w + 1)) := (hX2.w (k := 1) (by omega) (by omega)).trans (dcN (by omega))
  have c2 : (m_up (m_up m1 154 3 0) 154 4 (-9)) (44 + w) 2 = nI (t (153 + 6 * w + 2)) := (hX2.w (k := 2) (by omega) (by omega)).trans (dcN (by omega))
  have c3 : (m_up (m_up m1 154 3 0) 154 4 (-9)) (44 + w) 3 = nI (t (153 + 6 * w + 3)) := (hX2.w (k := 3) (by omega) (by omega)).trans (dcN (by omega))
  unfold f_X0_choose one
  by_cases e : (t (153 + 6 * w + 1)) = 0
  · obtain ⟨m2, i1, i2, i3, i4⟩ := X_cRunL hW hw ((t (153 + 6 * w + 3)) + 2 - (t (153 + 6 * w + 2))) fU 0 none _ (by omega) (by show _ < 300; omega) hO hB (fun x q => by cases q) (fun c z q => by cases q)
    refine ⟨m2, ?_, by rw [if_pos e]; exact i2, i3, g3.tr (u.tr i4)⟩
    refine (bnd_of (ckN (show w < 6 by omega) (by decide))).trans ?_
    refine (bnd_of g1).trans ?_
    refine (bnd_of rfl).trans ?_
    refine (bnd_of rfl).trans ?_
    refine (bnd_of (rdX (k := 1) rfl (by decide) (by decide) c1)).trans ?_
    refine (if_neg (nIn (b := 1) (by omega) (by decide) (by omega))).trans ?_
    refine (bnd_of (rdX (k := 2) rfl (by decide) (by decide) c2)).trans ?_
    refine (bnd_of (rdX (k := 3) rfl (by decide) (by decide) c3)).trans ?_
    unfold f_X0_chooseRun
    exact (bnd_of ((bnd_of i1).trans rfl)).trans rfl
  · obtain ⟨m2, i1, i2, i3, i4⟩ := X_chooseDays hW hw hO hB
    refine ⟨m2, ?_, by rw [if_neg e]; exact i2, i3, g3.tr (u.tr i4)⟩
    refine (bnd_of (ckN (show w < 6 by omega) (by decide))).trans ?_
    refine (bnd_of g1).trans ?_
    refine (bnd_of rfl).trans ?_
    refine (bnd_of rfl).trans ?_
    refine (bnd_of (rdX (k := 1) rfl (by decide) (by decide) c1)).trans ?_
    refine (if_pos (nIq (b := 1) (by omega))).trans ?_
    refine (bnd_of (rdX (k := 2) rfl (by decide) (by decide) c2)).trans ?_
    refine (bnd_of (rdX (k := 3) rfl (by decide) (by decide) c3)).trans ?_
    exact (bnd_of i1).trans rfl
end XChoose
