/-! town: whole statements, the reference's side -/
section StmM
variable {N : Nat} {f : Nat → Nat}
def kdI (o : Option Nat) : Int32 := match o with
  | none => -9
  | some k => nI k
theorem kd_m : ∀ v, v < 256 → f_X9_kindOf (nI v) (fun _ _ => 0) = some (kdI (kdc v)) := by
  set_option maxRecDepth 100000 in
  decide
def kdS (o : Option Nat) : Option Nat := match o with
  | none => none
  | some v => kdc v
theorem M_kind (hN : TS N f) {i : Nat} {m : mM} : f_X9_kindOf (sgI (sg N f i)) m = some (kdI (kdS (sg N f i))) := by
  have e0 : ∀ a, f_X9_kindOf a m = f_X9_kindOf a (fun _ _ => 0) := fun a => rfl
  rw [e0]
  cases e : sg N f i with
  | none => decide
  | some v => exact kd_m v (sg_lt hN e)
theorem GM_end {fi j i : Nat} {g : Nat → Nat} {R : Option (Int32 × mM)} {m : mM} (hQ : MZq N f fi j i g m) (hj : j = Ln fi) (hR : R = some (1, m)) : GM N f fi 0 j i g R m := by
  subst hj
  exact ⟨1, m, hR, tF.rf m, rfl, hQ.1.2, hQ.2.2.2⟩
theorem M_sK (hN : TS N f) {k i : Nat} {g : Nat → Nat} {m : mM} (hQ : MZq N f 2 1 i g m) {F : mM → Option (Int32 × mM)} (h1 : ∀ m1 i1 v, MZq N f 2 2 i1 (uG g 0 v) m1 → GM N f 2 k 2 i1 (uG g 0 v) (F m1) m1) : GM N f 2 (k + 1) 1 i g (bnd (f_X9_sign m) fun q5 => bnd (f_X9_kindOf q5 m) fun q7 => bnd (wrA 194 6 (0 : Int32) q7 m) fun m9 => bnd (rdA 194 6 (0 : Int32) m9) fun v11 => if 0 ≤ v11 then (bnd (some (m_up m9 187 9 ((m9 187 9) + (1 : Int32)))) F) else some ((0 : Int32), m9)) m := by
  have hi : i < 900 := by have := hQ.2.1; omega
  have ev : va N f 75 i = kdS (sg N f i) := by
    unfold va kdS
    cases sg N f i <;> rfl
  have w0 : wrA 194 6 (0 : Int32) (kdI (kdS (sg N f i))) m = some (m_up m 194 0 (kdI (kdS (sg N f i)))) := wrN (k := 0) (by decide) (by decide)
  have r0 : rdA 194 6 (0 : Int32) (m_up m 194 0 (kdI (kdS (sg N f i)))) = some (kdI (kdS (sg N f i))) := rdX (k := 0) rfl (by decide) (by decide) (m_up_eq _ _ _ _)
  rw [bnd_of (M_sign hQ.1 hN (by omega)), bnd_of (M_kind hN), bnd_of w0, bnd_of r0]
  have t0 := tF.u194 m 0 (kdI (kdS (sg N f i)))
  cases e : kdS (sg N f i) with
  | none =>
    rw [e] at ev t0
    have ei : it N f (Fc 2 1) i = none := by show it N f 75 i = none; unfold it; rw [ev]
    exact GM.none ei (if_neg (by decide)) t0 ((m_up_na (by decide)).trans hQ.1.2)
  | some v =>
    rw [e] at ev t0
    have hv9 := va_lt ev
    have ei : it N f (Fc 2 1) i = some (v, i + 1) := by show it N f 75 i = _; unfold it; rw [ev]; rfl
    have t1 := t0.tr (tF.u9 _ (nI (i + 1)))
    refine GM.some ei t1 ?_
    rw [if_pos (by rfl)]
    have ep : m_up m 194 0 (kdI (some v)) 187 9 + (1 : Int32) = nI (i + 1) := by rw [m_up_na (by decide), hQ.1.2, nI_1]
    rw [if_pos (show (0 : Int32) ≤ kdI (some v) from nI_pos' (by omega)), bnd_s, ep]
    exact h1 _ _ _ (hQ.next (by decide) (by omega) rfl t1 (m_up_eq _ _ _ _) ((m_up_na (by decide)).trans (m_up_eq _ _ _ _)) (fun y hy => absurd hy (Nat.not_lt_zero _)))
theorem M_sW (hN : TS N f) {i : Nat} {g : Nat → Nat} {m : mM} (hQ : MZq N f 1 3 i g m) : GM N f 1 8 3 i g (bnd (f_X9_readsNumber (2 : Int32) (1 : Int32) m) fun q47 => if q47.1 = 0 then some ((0 : Int32), q47.2) else (bnd (f_X9_takes (44 : Int32) q47.2) fun q49 => if q49.1 = 0 then some ((0 : Int32), q49.2) else (bnd (f_X9_readsNumber (3 : Int32) (2 : Int32) q49.2) fun q51 => if q51.1 = 0 then some ((0 : Int32), q51.2) else (bnd (f_X9_takes (44 : Int32) q51.2) fun q53 => if q53.1 = 0 then some ((0 : Int32), q53.2) else (bnd (f_X9_readsNumber (4 : Int32) (2 : Int32) q53.2) fun q55 => if q55.1 = 0 then some ((0 : Int32), q55.2) else (bnd (f_X9_takes (44 : Int32) q55.2) fun q57 => if q57.1 = 0 then some ((0 : Int32), q57.2) else (bnd (f_X9_readsNumber (5 : Int32) (1 : Int32) q57.2) fun q59 => if q59.1 = 0 then some ((0 : Int32), q59.2) else (bnd (f_X9_takes (59 : Int32) q59.2) fun q61 => if q61.1 = 0 then some ((0 : Int32), q61.2) else some ((1 : Int32), q61.2))))))))) m := by
  have n1 : ¬ (1 : Int32) = 0 := by decide
  refine M_sN hN (mx := 1) (by decide) hQ (by decide) (Or.inl ⟨rfl, rfl⟩) rfl rfl (fun m1 => if_pos rfl) (fun m1 i1 v hQ => ?_)
  show GM N f 1 7 4 i1 _ (ite ((1 : Int32) = 0) _ _) m1
  rw [if_neg n1]
  refine M_sT hN (c := 44) (by decide) hQ (by decide) rfl (Or.inl rfl) rfl (fun m1 => if_pos rfl) (fun m1 hQ => ?_)
  show GM N f 1 6 5 _ _ (ite ((1 : Int32) = 0) _ _) m1
  rw [if_neg n1]
  refine M_sN hN (mx := 2) (by decide) hQ (by decide) (Or.inr ⟨rfl, rfl⟩) rfl rfl (fun m1 => if_pos rfl) (fun m1 i1 v hQ => ?_)
  show GM N f 1 5 6 i1 _ (ite ((1 : Int32) = 0) _ _) m1
  rw [if_neg n1]
  refine M_sT hN (c := 44) (by decide) hQ (by decide) rfl (Or.inl rfl) rfl (fun m1 => if_pos rfl) (fun m1 hQ => ?_)
  show GM N f 1 4 7 _ _ (ite ((1 : Int32) = 0) _ _) m1
  rw [if_neg n1]
  refine M_sN hN (mx := 2) (by decide) hQ (by decide) (Or.inr ⟨rfl, rfl⟩) rfl rfl (fun m1 => if_pos rfl) (fun m1 i1 v hQ => ?_)
  show GM N f 1 3 8 i1 _ (ite ((1 : Int32) = 0) _ _) m1
  rw [if_neg n1]
  refine M_sT hN (c := 44) (by decide) hQ (by decide) rfl (Or.inl rfl) rfl (fun m1 => if_pos rfl) (fun m1 hQ => ?_)
  show GM N f 1 2 9 _ _ (ite ((1 : Int32) = 0) _ _) m1
  rw [if_neg n1]
  refine M_sN hN (mx := 1) (by decide) hQ (by decide) (Or.inl ⟨rfl, rfl⟩) rfl rfl (fun m1 => if_pos rfl) (fun m1 i1 v hQ => ?_)
  show GM N f 1 1 10 i1 _ (ite ((1 : Int32) = 0) _ _) m1
  rw [if_neg n1]
  refine M_sT hN (c := 59) (by decide) hQ (by decide) rfl (Or.inr (Or.inr rfl)) rfl (fun m1 => if_pos rfl) (fun m1 hQ => ?_)
  exact GM_end hQ rfl (if_neg n1)
theorem M_sR (hN : TS N f) {i : Nat} {g : Nat → Nat} {m : mM} (hQ : MZq N f 1 2 i g m) : GM N f 1 9 2 i g (bnd (f_X9_sign m) fun q39 => if q39 = (114 : Int32) then f_X9_readsStatement_J187 m else (bnd (f_X9_sign m) fun q100 => if q100 = (115 : Int32) then f_X9_readsStatement_J187 m else some ((0 : Int32), m))) m := by
  have hi : i < 900 := by have := hQ.2.1; omega
  have hs := M_sign hQ.1 hN (show i < 1000 by omega)
  have evl : ∀ v, vl 82 v = if v = 115 then some 1 else if v = 114 then some 0 else none := fun v => rfl
  have hit : it N f (Fc 1 2) i = it N f 82 i := rfl
  rw [bnd_of hs, bnd_of hs]
  have go : ∀ v, v ≤ 1 → it N f 82 i = some (v, i + 1) → f_X9_readsStatement_J187 m = (bnd (f_X9_readsNumber (2 : Int32) (1 : Int32) (m_up (m_up m 194 1 (nI v)) 187 9 (nI (i + 1)))) fun q47 => if q47.1 = 0 then some ((0 : Int32), q47.2) else (bnd (f_X9_takes (44 : Int32) q47.2) fun q49 => if q49.1 = 0 then some ((0 : Int32), q49.2) else (bnd (f_X9_readsNumber (3 : Int32) (2 : Int32) q49.2) fun q51 => if q51.1 = 0 then some ((0 : Int32), q51.2) else (bnd (f_X9_takes (44 : Int32) q51.2) fun q53 => if q53.1 = 0 then some ((0 : Int32), q53.2) else (bnd (f_X9_readsNumber (4 : Int32) (2 : Int32) q53.2) fun q55 => if q55.1 = 0 then some ((0 : Int32), q55.2) else (bnd (f_X9_takes (44 : Int32) q55.2) fun q57 => if q57.1 = 0 then some ((0 : Int32), q57.2) else (bnd (f_X9_readsNumber (5 : Int32) (1 : Int32) q57.2) fun q59 => if q59.1 = 0 then some ((0 : Int32), q59.2) else (bnd (f_X9_takes (59 : Int32) q59.2) fun q61 => if q61.1 = 0 then some ((0 : Int32), q61.2) else some ((1 : Int32), q61.2))))))))) → GM N f 1 9 2 i g (f_X9_readsStatement_J187 m) m := fun v hv ei er => by
    have t1 := (tF.u194 m 1 (nI v)).tr (tF.u9 _ (nI (i + 1)))
    refine GM.some (hit.trans ei) t1 ?_
    rw [if_pos (by rfl), er]
    exact M_sW hN (hQ.next (by decide) (by omega) rfl t1 (m_up_eq _ _ _ _) ((m_up_na (by decide)).trans (m_up_eq _ _ _ _)) (fun y hy => by
      have hy : y < 1 := hy
      rw [m_up_na (by decide), m_up_ni (by omega)]))
  have ep : ∀ v : Int32, m_up m 194 1 v 187 9 + (1 : Int32) = nI (i + 1) := fun v => by rw [m_up_na (by decide), hQ.1.2, nI_1]
  cases e : sg N f i with
  | none =>
    have ei : it N f 82 i = none := by unfold it va; rw [e]
    refine GM.none (hit.trans ei) ?_ (tF.rf m) hQ.1.2
    exact (if_neg (by decide)).trans (if_neg (by decide))
  | some v =>
    have hv := sg_lt hN e
    rw [e] at hs
    have hs : f_X9_sign m = some (nI v) := hs
    by_cases e1 : v = 114
    · subst e1
      rw [if_pos (by rfl)]
      refine go 0 (by decide) (by unfold it va; rw [e]; rfl) ?_
      unfold f_X9_readsStatement_J187
      refine (bnd_of hs).trans ?_
      refine (if_neg (by decide)).trans ?_
      refine (bnd_of (wrN (k := 1) (by decide) (by decide))).trans ?_
      refine (bnd_of rfl).trans ?_
      rw [ep]; rfl
    · rw [if_neg (show ¬ sgI (some v) = (114 : Int32) from nIn (b := 114) (by omega) (by omega) e1)]
      by_cases e2 : v = 115
      · subst e2
        rw [if_pos (by rfl)]
        refine go 1 (by decide) (by unfold it va; rw [e]; rfl) ?_
        unfold f_X9_readsStatement_J187
        refine (bnd_of hs).trans ?_
        refine (if_pos (by rfl)).trans ?_
        refine (bnd_of (wrN (k := 1) (by decide) (by decide))).trans ?_
        refine (bnd_of rfl).trans ?_
        rw [ep]; rfl
      · rw [if_neg (show ¬ sgI (some v) = (115 : Int32) from nIn (b := 115) (by omega) (by omega) e2)]
        have ei : it N f 82 i = none := by
          unfold it va; rw [e]
          show (match vl 82 v with | none => none | some v => _) = _
          rw [evl, if_neg e2, if_neg e1]
        exact GM.none (hit.trans ei) rfl (tF.rf m) hQ.1.2
theorem M_sP (hN : TS N f) {i : Nat} {g : Nat → Nat} {m : mM} (hQ : MZq N f 2 1 i g m) : GM N f 2 4 1 i g (bnd (f_X9_sign m) fun q5 => bnd (f_X9_kindOf q5 m) fun q7 => bnd (wrA 194 6 (0 : Int32) q7 m) fun m9 => bnd (rdA 194 6 (0 : Int32) m9) fun v11 => if 0 ≤ v11 then (bnd (some (m_up m9 187 9 ((m9 187 9) + (1 : Int32)))) fun m13 => bnd (f_X9_readsNumber (1 : Int32) (1 : Int32) m13) fun q15 => if q15.1 = 0 then some ((0 : Int32), q15.2) else (bnd (f_X9_readsNumber (2 : Int32) (1 : Int32) q15.2) fun q17 => if q17.1 = 0 then some ((0 : Int32), q17.2) else (bnd (f_X9_takes (59 : Int32) q17.2) fun q19 => if q19.1 = 0 then some ((0 : Int32), q19.2) else some ((1 : Int32), q19.2)))) else some ((0 : Int32), m9)) m := by
  have n1 : ¬ (1 : Int32) = 0 := by decide
  refine M_sK hN (k := 3) hQ (fun m1 i1 v hQ => ?_)
  refine M_sN hN (mx := 1) (by decide) hQ (by decide) (Or.inl ⟨rfl, rfl⟩) rfl rfl (fun m1 => if_pos rfl) (fun m1 i1 v hQ => ?_)
  show GM N f 2 2 3 i1 _ (ite ((1 : Int32) = 0) _ _) m1
  rw [if_neg n1]
  refine M_sN hN (mx := 1) (by decide) hQ (by decide) (Or.inl ⟨rfl, rfl⟩) rfl rfl (fun m1 => if_pos rfl) (fun m1 i1 v hQ => ?_)
  show GM N f 2 1 4 i1 _ (ite ((1 : Int32) = 0) _ _) m1
  rw [if_neg n1]
  refine M_sT hN (c := 59) (by decide) hQ (by decide) rfl (Or.inr (Or.inr rfl)) rfl (fun m1 => if_pos rfl) (fun m1 hQ => ?_)
  exact GM_end hQ rfl (if_neg n1)
theorem M_sH (hN : TS N f) {i : Nat} {g : Nat → Nat} {m : mM} (hQ : MZq N f 0 2 i g m) : GM N f 0 4 2 i g (bnd (f_X9_readsNumber (1 : Int32) (2 : Int32) m) fun q27 => if q27.1 = 0 then some ((0 : Int32), q27.2) else (bnd (f_X9_takes (45 : Int32) q27.2) fun q29 => if q29.1 = 0 then some ((0 : Int32), q29.2) else (bnd (f_X9_readsNumber (2 : Int32) (2 : Int32) q29.2) fun q31 => if q31.1 = 0 then some ((0 : Int32), q31.2) else (bnd (f_X9_takes (59 : Int32) q31.2) fun q33 => if q33.1 = 0 then some ((0 : Int32), q33.2) else some ((1 : Int32), q33.2))))) m := by
  have n1 : ¬ (1 : Int32) = 0 := by decide
  refine M_sN hN (mx := 2) (by decide) hQ (by decide) (Or.inr ⟨rfl, rfl⟩) rfl rfl (fun m1 => if_pos rfl) (fun m1 i1 v hQ => ?_)
  show GM N f 0 3 3 i1 _ (ite ((1 : Int32) = 0) _ _) m1
  rw [if_neg n1]
  refine M_sT hN (c := 45) (by decide) hQ (by decide) rfl (Or.inr (Or.inl rfl)) rfl (fun m1 => if_pos rfl) (fun m1 hQ => ?_)
  show GM N f 0 2 4 _ _ (ite ((1 : Int32) = 0) _ _) m1
  rw [if_neg n1]
  refine M_sN hN (mx := 2) (by decide) hQ (by decide) (Or.inr ⟨rfl, rfl⟩) rfl rfl (fun m1 => if_pos rfl) (fun m1 i1 v hQ => ?_)
  show GM N f 0 1 5 i1 _ (ite ((1 : Int32) = 0) _ _) m1
  rw [if_neg n1]
  refine M_sT hN (c := 59) (by decide) hQ (by decide) rfl (Or.inr (Or.inr rfl)) rfl (fun m1 => if_pos rfl) (fun m1 hQ => ?_)
  exact GM_end hQ rfl (if_neg n1)
theorem M_read (hN : TS N f) {i : Nat} {m : mM} (hT : MT N f i m) (hi : i < 800) : ∃ b m', f_X9_readsStatement m = some (b, m') ∧ tF m m' ∧ mr (stm N f i) (cn (fmI (sg N f i)) (Ln (fmI (sg N f i)))) m' b := by
  have hs := M_sign hT hN (show i < 1000 by omega)
  have n1 : ¬ (1 : Int32) = 0 := by decide
  have t1 := tF.u9 m (nI (i + 1))
  have ep : m 187 9 + (1 : Int32) = nI (i + 1) := by rw [hT.2, nI_1]
  have q0 : ∀ fi, fi < 3 → MZq N f fi 0 i (fun _ => 0) m := fun fi hf => ⟨hT, by have := (form_l fi hf).2; omega, Nat.zero_le _, fun y hy => absurd hy (Nat.not_lt_zero _)⟩
  unfold stm
  have bad : ∀ v, sg N f i = v → v ≠ some 112 → v ≠ some 104 → v ≠ some 119 → ∃ b m', f_X9_readsStatement m = some (b, m') ∧ tF m m' ∧ mr (prI N f (fmI v) (Ln (fmI v)) 0 i (fun _ => 0)) (cn (fmI v) (Ln (fmI v))) m' b := fun v ev h1 h2 h3 => by
    have hsv : ∀ c, c = 112 ∨ c = 104 ∨ c = 119 → v ≠ some c → ¬ sgI v = nI c := fun c hc hne z => by
      cases v with
      | none => rcases hc with q | q | q <;> subst q <;> exact absurd z (by decide)
      | some u =>
        have hu := sg_lt hN ev
        exact hne (congrArg some ((nI_eq (by omega) (by omega)).mp z))
    have ef : fmI v = 2 := by
      cases v with
      | none => rfl
      | some u =>
        show (if u = 104 then 0 else if u = 119 then 1 else 2) = 2
        rw [if_neg (fun z => h2 (congrArg some z)), if_neg (fun z => h3 (congrArg some z))]
    rw [ef]
    have ei : it N f (Fc 2 0) i = none := by
      show it N f 112 i = none
      unfold it va
      rw [ev]
      cases v with
      | none => rfl
      | some u =>
        show (match vl 112 u with | none => none | some v => _) = _
        rw [show vl 112 u = if u = 112 then some 0 else none from rfl, if_neg (fun z => h1 (congrArg some z))]
    rw [ev] at hs
    refine GM.none (k := 4) (g := fun _ => 0) ei ?_ (tF.rf m) hT.2
    unfold f_X9_readsStatement
    refine (bnd_of hs).trans ?_
    refine (if_neg (hsv 112 (Or.inl rfl) h1)).trans ?_
    refine (if_neg (hsv 104 (Or.inr (Or.inl rfl)) h2)).trans ?_
    exact if_neg (hsv 119 (Or.inr (Or.inr rfl)) h3)
  cases e : sg N f i with
  | none => exact bad none e (by decide) (by decide) (by decide)
  | some v =>
    rw [e] at hs
    have hs : f_X9_sign m = some (nI v) := hs
    by_cases e1 : v = 112
    · subst e1
      have ei : it N f (Fc 2 0) i = some (0, i + 1) := by show it N f 112 i = _; unfold it va; rw [e]; rfl
      have hQ := (q0 2 (by decide)).nextL (by decide) rfl t1 (m_up_eq _ _ _ _) (fun y => m_up_na (by decide))
      refine GM.some (k := 4) ei t1 ?_
      rw [if_neg (by decide)]
      obtain ⟨b, m', r1, r2, r3⟩ := M_sP hN hQ
      refine ⟨b, m', ?_, r2, r3⟩
      unfold f_X9_readsStatement
      refine (bnd_of hs).trans ?_
      refine (if_pos (by rfl)).trans ?_
      unfold f_X9_readsStatement_J25
      refine (bnd_of rfl).trans ?_
      rw [ep]
      exact (if_pos (by rfl)).trans r1
    · have n112 : ¬ nI v = (112 : Int32) := nIn (b := 112) (by have := sg_lt hN e; omega) (by omega) e1
      by_cases e2 : v = 104
      · subst e2
        have ei : it N f (Fc 0 0) i = some (0, i + 1) := by show it N f 104 i = _; unfold it va; rw [e]; rfl
        have hQ := (q0 0 (by decide)).nextL (by decide) rfl t1 (m_up_eq _ _ _ _) (fun y => m_up_na (by decide))
        refine GM.some (fi := 0) (k := 5) ei t1 ?_
        rw [if_neg (by decide)]
        have gm : GM N f 0 5 1 (i + 1) (fun _ => 0) (bnd (f_X9_readsNumber (0 : Int32) (1 : Int32) (m_up m 187 9 (nI (i + 1)))) fun q25 => if q25.1 = 0 then some ((0 : Int32), q25.2) else (bnd (f_X9_readsNumber (1 : Int32) (2 : Int32) q25.2) fun q27 => if q27.1 = 0 then some ((0 : Int32), q27.2) else (bnd (f_X9_takes (45 : Int32) q27.2) fun q29 => if q29.1 = 0 then some ((0 : Int32), q29.2) else (bnd (f_X9_readsNumber (2 : Int32) (2 : Int32) q29.2) fun q31 => if q31.1 = 0 then some ((0 : Int32), q31.2) else (bnd (f_X9_takes (59 : Int32) q31.2) fun q33 => if q33.1 = 0 then some ((0 : Int32), q33.2) else some ((1 : Int32), q33.2)))))) (m_up m 187 9 (nI (i + 1))) := by
          refine M_sN hN (mx := 1) (by decide) hQ (by decide) (Or.inl ⟨rfl, rfl⟩) rfl rfl (fun m1 => if_pos rfl) (fun m1 i1 v hQ => ?_)
          show GM N f 0 4 2 i1 _ (ite ((1 : Int32) = 0) _ _) m1
          rw [if_neg n1]
          exact M_sH hN hQ
        obtain ⟨b, m', r1, r2, r3⟩ := gm
        refine ⟨b, m', ?_, r2, r3⟩
        unfold f_X9_readsStatement
        refine (bnd_of hs).trans ?_
        refine (if_neg (by decide)).trans ?_
        refine (if_pos (by rfl)).trans ?_
        unfold f_X9_readsStatement_J25
        refine (bnd_of rfl).trans ?_
        rw [ep]
        exact (if_neg (by decide)).trans r1
      · by_cases e3 : v = 119
        · subst e3
          have ei : it N f (Fc 1 0) i = some (0, i + 1) := by show it N f 119 i = _; unfold it va; rw [e]; rfl
          have hQ := (q0 1 (by decide)).nextL (by decide) rfl t1 (m_up_eq _ _ _ _) (fun y => m_up_na (by decide))
          refine GM.some (fi := 1) (k := 10) ei t1 ?_
          rw [if_neg (by decide)]
          have gm : GM N f 1 10 1 (i + 1) (fun _ => 0) (bnd (f_X9_readsNumber (0 : Int32) (1 : Int32) (m_up m 187 9 (nI (i + 1)))) fun q25 => if q25.1 = 0 then some ((0 : Int32), q25.2) else (bnd (f_X9_sign q25.2) fun q39 => if q39 = (114 : Int32) then f_X9_readsStatement_J187 q25.2 else (bnd (f_X9_sign q25.2) fun q100 => if q100 = (115 : Int32) then f_X9_readsStatement_J187 q25.2 else some ((0 : Int32), q25.2)))) (m_up m 187 9 (nI (i + 1))) := by
            refine M_sN hN (mx := 1) (by decide) hQ (by decide) (Or.inl ⟨rfl, rfl⟩) rfl rfl (fun m1 => if_pos rfl) (fun m1 i1 v hQ => ?_)
            show GM N f 1 9 2 i1 _ (ite ((1 : Int32) = 0) _ _) m1
            rw [if_neg n1]
            exact M_sR hN hQ
          obtain ⟨b, m', r1, r2, r3⟩ := gm
          refine ⟨b, m', ?_, r2, r3⟩
          unfold f_X9_readsStatement
          refine (bnd_of hs).trans ?_
          refine (if_neg (by decide)).trans ?_
          refine (if_neg (by decide)).trans ?_
          refine (if_pos (by rfl)).trans ?_
          unfold f_X9_readsStatement_J25
          refine (bnd_of rfl).trans ?_
          rw [ep]
          exact (if_neg (by decide)).trans r1
        · exact bad (some v) e (fun z => e1 (Option.some.inj z)) (fun z => e2 (Option.some.inj z)) (fun z => e3 (Option.some.inj z))
end StmM
