/-! town: a statement read, the reference's side -/
def MT (N : Nat) (f : Nat → Nat) (i : Nat) (m : mM) : Prop := (m 187 8 = nI N ∧ ∀ x, x < N → m 193 x = nI (f x)) ∧ m 187 9 = nI i
def tF (m m' : mM) : Prop := ∀ a x, a ≠ 194 → ¬ (a = 187 ∧ x = 9) → m' a x = m a x
theorem tF.rf (m : mM) : tF m m := fun _ _ _ _ => rfl
theorem tF.tr {m m1 m2 : mM} (h1 : tF m m1) (h2 : tF m1 m2) : tF m m2 := fun a i x y => (h2 a i x y).trans (h1 a i x y)
theorem MT.tf {N : Nat} {f : Nat → Nat} {i i' : Nat} {m m' : mM} (h : MT N f i m) (e : tF m m') (hp : m' 187 9 = nI i') : MT N f i' m' := ⟨⟨(e 187 8 (by decide) (by omega)).trans h.1.1, fun x hx => (e 193 x (by decide) (by omega)).trans (h.1.2 x hx)⟩, hp⟩
theorem tF.u194 (m : mM) (k : Nat) (v : Int32) : tF m (m_up m 194 k v) := fun a x q _ => m_up_na q
theorem tF.u9 (m : mM) (v : Int32) : tF m (m_up m 187 9 v) := fun a x _ q => if_neg q
section TapeM
variable {N : Nat} {f : Nat → Nat}
theorem M_sign {i : Nat} {m : mM} (hT : MT N f i m) (hN : TS N f) (hi : i < 1000) : f_X9_sign m = some (sgI (sg N f i)) := by
  have h64 := hN.1
  unfold f_X9_sign sg
  rw [hT.1.1, hT.2]
  by_cases e : i < N
  · refine (if_pos (nI_lt e (by omega))).trans ?_
    rw [if_pos e]
    exact (bnd_of (rdX rfl (show i < 64 by omega) (by decide) (hT.1.2 i e))).trans rfl
  · refine (if_neg (nI_nlt (by omega) (by omega))).trans ?_
    rw [if_neg e]; rfl
theorem va68 {i : Nat} (hN : TS N f) : (∃ s, sg N f i = some s ∧ 48 ≤ s ∧ s ≤ 57 ∧ va N f 68 i = some (s - 48)) ∨ (va N f 68 i = none ∧ (sgI (sg N f i) < (48 : Int32) ∨ (57 : Int32) < sgI (sg N f i))) := by
  unfold va
  cases e : sg N f i with
  | none => exact Or.inr ⟨rfl, Or.inl (by decide)⟩
  | some s =>
    have hs := sg_lt hN e
    show (∃ s', some s = some s' ∧ _) ∨ (vl 68 s = none ∧ _)
    have ev : vl 68 s = if 48 ≤ s ∧ s ≤ 57 then some (s - 48) else none := rfl
    by_cases q : 48 ≤ s ∧ s ≤ 57
    · exact Or.inl ⟨s, rfl, q.1, q.2, by show vl 68 s = _; rw [ev, if_pos q]⟩
    · refine Or.inr ⟨by rw [ev, if_neg q], ?_⟩
      by_cases q2 : s < 48
      · exact Or.inl (nI_lt (b := 48) q2 (by decide))
      · exact Or.inr (nI_lt (a := 57) (by omega) (by omega))
theorem M_n9a {k mx n b : Nat} {m : mM} (h : mx ≤ b) (hb : b < 10) : f_X9_readsNumber_L9 (nI k) (nI mx) (n + 1) (nI b) m = some (nI b, m) := by
  rw [f_X9_readsNumber_L9]
  exact if_pos (nI_le h (by omega))
theorem M_n9b {k mx n b i : Nat} {m : mM} (h : b < mx) (hm : mx < 10) (hT : MT N f i m) (hN : TS N f) (hi : i < 1000) (e : va N f 68 i = none) : f_X9_readsNumber_L9 (nI k) (nI mx) (n + 1) (nI b) m = some (nI b, m) := by
  have hs := M_sign hT hN hi
  rw [f_X9_readsNumber_L9]
  refine (if_neg (nI_ge h (by omega))).trans ?_
  refine (bnd_of hs).trans ?_
  rcases va68 (i := i) hN with ⟨s, q1, q2, q3, q4⟩ | ⟨q1, q2⟩
  · rw [q4] at e; cases e
  · by_cases z : sgI (sg N f i) < 48
    · exact if_pos z
    · refine (if_neg z).trans ?_
      refine (bnd_of hs).trans ?_
      exact if_pos (q2.resolve_left z)
theorem M_n9c {k mx n b i w v : Nat} {m : mM} (h : b < mx) (hm : mx < 10) (hk : k < 6) (hT : MT N f i m) (hN : TS N f) (hi : i < 1000) (e : va N f 68 i = some v) (hw : m 194 k = nI w) : f_X9_readsNumber_L9 (nI k) (nI mx) (n + 1) (nI b) m = f_X9_readsNumber_L9 (nI k) (nI mx) n (nI (b + 1)) (m_up (m_up m 194 k (nI (w * 10 + v))) 187 9 (nI (i + 1))) := by
  have hs := M_sign hT hN hi
  rw [f_X9_readsNumber_L9]
  refine (if_neg (nI_ge h (by omega))).trans ?_
  refine (bnd_of hs).trans ?_
  rcases va68 (i := i) hN with ⟨s, q1, q2, q3, q4⟩ | ⟨q1, q2⟩
  · rw [q4] at e
    have e : s - 48 = v := by cases e; rfl
    rw [q1] at hs ⊢
    have hs : f_X9_sign m = some (nI s) := hs
    refine (if_neg (show ¬ nI s < (48 : Int32) from nI_nlt (b := 48) q2 (by omega))).trans ?_
    refine (bnd_of hs).trans ?_
    refine (if_neg (show ¬ (57 : Int32) < nI s from nI_nlt (a := 57) q3 (by decide))).trans ?_
    refine (bnd_of (rdX rfl hk (by decide) hw)).trans ?_
    refine (bnd_of hs).trans ?_
    have ev : (((10 : Int32) * nI w) + nI s) - 48 = nI (w * 10 + v) := by
      rw [show (10 : Int32) * nI w = nI (w * 10) by rw [Nat.mul_comm]; exact pk_mul 10 w, nI_add]
      exact (pk_sub (b := 48) (by omega)).trans (congrArg nI (by omega))
    rw [ev]
    refine (bnd_of (wrN hk (by decide))).trans ?_
    refine (bnd_of rfl).trans ?_
    rw [m_up_na (by decide), hT.2, nI_1, nI_1]
  · rw [q1] at e; cases e
def mr (r : Nat ⊕ (Nat × (Nat → Nat))) (c : Nat) (m' : mM) (b : Int32) : Prop := match r with
  | .inl p => b = 0 ∧ m' 187 9 = nI p
  | .inr x => b = 1 ∧ m' 187 9 = nI x.1 ∧ ∀ y, y < c → m' 194 y = nI (x.2 y)
def MZq (N : Nat) (f : Nat → Nat) (fi j i : Nat) (g : Nat → Nat) (m : mM) : Prop := MT N f i m ∧ i + 2 * (Ln fi - j) < 900 ∧ j ≤ Ln fi ∧ ∀ y, y < cn fi j → m 194 y = nI (g y)
def GM (N : Nat) (f : Nat → Nat) (fi k j i : Nat) (g : Nat → Nat) (R : Option (Int32 × mM)) (m : mM) : Prop := ∃ b m', R = some (b, m') ∧ tF m m' ∧ mr (prI N f fi k j i g) (cn fi (Ln fi)) m' b
theorem GM.none {fi k j i : Nat} {g : Nat → Nat} {R : Option (Int32 × mM)} {m m' : mM} (e : it N f (Fc fi j) i = none) (hR : R = some (0, m')) (ht : tF m m') (hp : m' 187 9 = nI i) : GM N f fi (k + 1) j i g R m := by
  refine ⟨0, m', hR, ht, ?_⟩
  simp only [prI]
  rw [e]
  exact ⟨rfl, hp⟩
theorem GM.some {fi k j i i' v : Nat} {g : Nat → Nat} {R : Option (Int32 × mM)} {m m1 : mM} (e : it N f (Fc fi j) i = some (v, i')) (ht : tF m m1) (h : GM N f fi k (j + 1) i' (if cap (Fc fi j) = true then uG g (cn fi j) v else g) R m1) : GM N f fi (k + 1) j i g R m := by
  obtain ⟨b, m', h1, h2, h3⟩ := h
  refine ⟨b, m', h1, ht.tr h2, ?_⟩
  simp only [prI]
  rw [e]
  exact h3
theorem MZq.next {fi j i i' v : Nat} {g : Nat → Nat} {m m1 : mM} (hQ : MZq N f fi j i g m) (hj : j < Ln fi) (hi : i' ≤ i + 2) (hc : cap (Fc fi j) = true) (ht : tF m m1) (hp : m1 187 9 = nI i') (h1 : m1 194 (cn fi j) = nI v) (h2 : ∀ y, y < cn fi j → m1 194 y = m 194 y) : MZq N f fi (j + 1) i' (uG g (cn fi j) v) m1 := by
  refine ⟨hQ.1.tf ht hp, by have := hQ.2.1; omega, by omega, fun y hy => ?_⟩
  have ec : cn fi (j + 1) = cn fi j + 1 := by show cn fi j + b2n (cap (Fc fi j)) = _; rw [hc]; rfl
  unfold uG
  by_cases z : y = cn fi j
  · rw [z, if_pos rfl]; exact h1
  · rw [if_neg z, h2 y (by omega)]; exact hQ.2.2.2 y (by omega)
theorem MZq.nextL {fi j i : Nat} {g : Nat → Nat} {m m1 : mM} (hQ : MZq N f fi j i g m) (hj : j < Ln fi) (hc : cap (Fc fi j) = false) (ht : tF m m1) (hp : m1 187 9 = nI (i + 1)) (h2 : ∀ y, m1 194 y = m 194 y) : MZq N f fi (j + 1) (i + 1) g m1 := by
  refine ⟨hQ.1.tf ht hp, by have := hQ.2.1; omega, by omega, fun y hy => ?_⟩
  have ec : cn fi (j + 1) = cn fi j := by show cn fi j + b2n (cap (Fc fi j)) = _; rw [hc]; rfl
  rw [h2 y]; exact hQ.2.2.2 y (by omega)
/-- a number of at most mx digits -/
theorem M_sN (hN : TS N f) {fi k j i mx : Nat} {g : Nat → Nat} {m : mM} (hf : fi < 3) (hQ : MZq N f fi j i g m) (hj : j < Ln fi) (hc : (mx = 1 ∧ Fc fi j = 68) ∨ (mx = 2 ∧ Fc fi j = 78)) {a b : Int32} (ha : a = nI (cn fi j)) (hb : b = nI mx) {K : Int32 × mM → Option (Int32 × mM)} (h0 : ∀ m1, K (0, m1) = some (0, m1)) (h1 : ∀ m1 i1 v, MZq N f fi (j + 1) i1 (uG g (cn fi j) v) m1 → GM N f fi k (j + 1) i1 (uG g (cn fi j) v) (K (1, m1)) m1) : GM N f fi (k + 1) j i g (bnd (f_X9_readsNumber a b m) K) m := by
  subst ha hb
  obtain ⟨l1, l2⟩ := form_l fi hf
  obtain ⟨c1, c2, c3, c4⟩ := form_c fi hf j (by omega) hj
  have hcap : cap (Fc fi j) = true := by
    rcases hc with ⟨-, q⟩ | ⟨-, q⟩ <;> rw [q] <;> rfl
  have hk := c3 hcap
  have hi : i < 900 := by have := hQ.2.1; omega
  have t0 := tF.u194 m (cn fi j) (nI 0)
  have hT0 : MT N f i (m_up m 194 (cn fi j) (nI 0)) := hQ.1.tf t0 ((m_up_na (by decide)).trans hQ.1.2)
  have vv : va N f (Fc fi j) i = va N f 68 i := by
    rcases hc with ⟨-, q⟩ | ⟨-, q⟩
    · rw [q]
    · rw [q]; rfl
  have pre : ∀ r, (bnd (f_X9_readsNumber_L9 (nI (cn fi j)) (nI mx) fU (nI 0) (m_up m 194 (cn fi j) (nI 0))) fun o18 => if o18.1 ≤ 0 then some ((0 : Int32), o18.2) else some ((1 : Int32), o18.2)) = some r → bnd (f_X9_readsNumber (nI (cn fi j)) (nI mx) m) K = K r := fun r hr => by
    unfold f_X9_readsNumber
    refine bnd_of ?_
    refine (bnd_of (wrN hk (by decide))).trans ?_
    exact hr
  have fu : fU = 299 + 1 := rfl
  cases e : va N f 68 i with
  | none =>
    have ei : it N f (Fc fi j) i = none := by unfold it; rw [vv, e]
    refine GM.none ei (m' := m_up m 194 (cn fi j) (nI 0)) ?_ t0 hT0.2
    rw [pre (0, m_up m 194 (cn fi j) (nI 0)) (by
      rw [fu, bnd_of (M_n9b (by omega) (by omega) hT0 hN (by omega) e)]
      exact if_pos (show nI 0 ≤ 0 by decide))]
    exact h0 _
  | some v =>
    have hv9 := va_lt e
    have st1 := M_n9c (n := 299) (b := 0) (mx := mx) (by omega) (by omega) hk hT0 hN (by omega) e (w := 0) (m_up_eq _ _ _ _)
    rw [Nat.zero_mul, Nat.zero_add, Nat.zero_add] at st1
    have t1 : tF m (m_up (m_up (m_up m 194 (cn fi j) (nI 0)) 194 (cn fi j) (nI v)) 187 9 (nI (i + 1))) := (t0.tr (tF.u194 _ _ _)).tr (tF.u9 _ _)
    have hT1 : MT N f (i + 1) (m_up (m_up (m_up m 194 (cn fi j) (nI 0)) 194 (cn fi j) (nI v)) 187 9 (nI (i + 1))) := hQ.1.tf t1 (m_up_eq _ _ _ _)
    have w1 : m_up (m_up (m_up m 194 (cn fi j) (nI 0)) 194 (cn fi j) (nI v)) 187 9 (nI (i + 1)) 194 (cn fi j) = nI v := (m_up_na (by decide)).trans (m_up_eq _ _ _ _)
    have o1 : ∀ y, y < cn fi j → m_up (m_up (m_up m 194 (cn fi j) (nI 0)) 194 (cn fi j) (nI v)) 187 9 (nI (i + 1)) 194 y = m 194 y := fun y hy => by rw [m_up_na (by decide), m_up_ni (by omega), m_up_ni (by omega)]
    have fin1 : it N f (Fc fi j) i = some (v, i + 1) → f_X9_readsNumber_L9 (nI (cn fi j)) (nI mx) 299 (nI 1) (m_up (m_up (m_up m 194 (cn fi j) (nI 0)) 194 (cn fi j) (nI v)) 187 9 (nI (i + 1))) = some (nI 1, m_up (m_up (m_up m 194 (cn fi j) (nI 0)) 194 (cn fi j) (nI v)) 187 9 (nI (i + 1))) → GM N f fi (k + 1) j i g (bnd (f_X9_readsNumber (nI (cn fi j)) (nI mx) m) K) m := fun ei er => by
      refine GM.some ei t1 ?_
      rw [if_pos hcap, pre (1, m_up (m_up (m_up m 194 (cn fi j) (nI 0)) 194 (cn fi j) (nI v)) 187 9 (nI (i + 1))) (by rw [fu, st1, bnd_of er]; exact if_neg (show ¬ nI 1 ≤ 0 by decide))]
      exact h1 _ _ _ (hQ.next hj (by omega) hcap t1 (m_up_eq _ _ _ _) w1 o1)
    rcases hc with ⟨q1, q⟩ | ⟨q1, q⟩
    · subst q1
      exact fin1 (by unfold it; rw [vv, e]; show (if Fc fi j = 78 then _ else _) = _; rw [if_neg (by omega)]) (M_n9a (n := 298) (Nat.le_refl _) (by decide))
    · subst q1
      cases e2 : va N f 68 (i + 1) with
      | none => exact fin1 (by unfold it; rw [vv, e]; show (if Fc fi j = 78 then _ else _) = _; rw [if_pos q, e2]) (M_n9b (n := 298) (by decide) (by decide) hT1 hN (by omega) e2)
      | some u =>
        have hu9 := va_lt e2
        have ei : it N f (Fc fi j) i = some (v * 10 + u, i + 1 + 1) := by unfold it; rw [vv, e]; show (if Fc fi j = 78 then _ else _) = _; rw [if_pos q, e2]
        have st2 := M_n9c (n := 298) (b := 1) (mx := 2) (by decide) (by decide) hk hT1 hN (by omega) e2 w1
        refine GM.some ei (t1.tr ((tF.u194 _ (cn fi j) (nI (v * 10 + u))).tr (tF.u9 _ (nI (i + 1 + 1))))) ?_
        rw [if_pos hcap, pre (1, m_up (m_up (m_up (m_up (m_up m 194 (cn fi j) (nI 0)) 194 (cn fi j) (nI v)) 187 9 (nI (i + 1))) 194 (cn fi j) (nI (v * 10 + u))) 187 9 (nI (i + 1 + 1))) (by
          rw [fu, st1]
          show (bnd (f_X9_readsNumber_L9 (nI (cn fi j)) (nI 2) (298 + 1) (nI 1) _) _) = _
          rw [st2, bnd_of (M_n9a (n := 297) (Nat.le_refl _) (by decide))]
          exact if_neg (show ¬ nI 2 ≤ 0 by decide))]
        exact h1 _ _ _ (hQ.next hj (by omega) hcap (t1.tr ((tF.u194 _ (cn fi j) (nI (v * 10 + u))).tr (tF.u9 _ (nI (i + 1 + 1))))) (m_up_eq _ _ _ _) ((m_up_na (by decide)).trans (m_up_eq _ _ _ _)) (fun y hy => by rw [m_up_na (by decide), m_up_ni (by omega)]; exact o1 y hy))
/-- a sign -/
theorem M_sT (hN : TS N f) {fi k j i c : Nat} {g : Nat → Nat} {m : mM} (hf : fi < 3) (hQ : MZq N f fi j i g m) (hj : j < Ln fi) (hc : Fc fi j = c) (hc2 : c = 44 ∨ c = 45 ∨ c = 59) {a : Int32} (ha : a = nI c) {K : Int32 × mM → Option (Int32 × mM)} (h0 : ∀ m1, K (0, m1) = some (0, m1)) (h1 : ∀ m1, MZq N f fi (j + 1) (i + 1) g m1 → GM N f fi k (j + 1) (i + 1) g (K (1, m1)) m1) : GM N f fi (k + 1) j i g (bnd (f_X9_takes a m) K) m := by
  subst ha
  have hcap : cap (Fc fi j) = false := by rw [hc]; rcases hc2 with q | q | q <;> rw [q] <;> rfl
  have hi : i < 900 := by have := hQ.2.1; omega
  have hs := M_sign hQ.1 hN (by omega)
  have evl : ∀ v, vl c v = if v = c then some 0 else none := fun v => by rcases hc2 with q | q | q <;> rw [q] <;> rfl
  have n78 : ¬ c = 78 := by omega
  unfold f_X9_takes
  by_cases e : sg N f i = some c
  · have ei : it N f (Fc fi j) i = some (0, i + 1) := by
      unfold it va
      rw [hc, e]
      show (match vl c c with | none => none | some v => _) = _
      rw [evl, if_pos rfl]
      show (if c = 78 then _ else _) = _
      rw [if_neg n78]
    rw [e] at hs
    have ex : (bnd (f_X9_sign m) fun q1 => if q1 = nI c then (bnd (some (m_up m 187 9 ((m 187 9) + (1 : Int32)))) fun m3 => some ((1 : Int32), m3)) else some ((0 : Int32), m)) = some (1, m_up m 187 9 (nI (i + 1))) := by
      refine (bnd_of hs).trans ?_
      refine (if_pos rfl).trans ?_
      rw [hQ.1.2, nI_1]; rfl
    rw [bnd_of ex]
    refine GM.some ei (tF.u9 m (nI (i + 1))) ?_
    rw [if_neg (by rw [hcap]; decide)]
    exact h1 _ (hQ.nextL hj hcap (tF.u9 m _) (m_up_eq _ _ _ _) (fun y => m_up_na (by decide)))
  · have ei : it N f (Fc fi j) i = none := by
      unfold it va
      rw [hc]
      cases z : sg N f i with
      | none => rfl
      | some v =>
        show (match vl c v with | none => none | some v => _) = _
        rw [evl, if_neg (fun y => e (by rw [z, y]))]
    have ex : (bnd (f_X9_sign m) fun q1 => if q1 = nI c then (bnd (some (m_up m 187 9 ((m 187 9) + (1 : Int32)))) fun m3 => some ((1 : Int32), m3)) else some ((0 : Int32), m)) = some (0, m) := by
      refine (bnd_of hs).trans ?_
      refine if_neg ?_
      cases z : sg N f i with
      | none => rcases hc2 with q | q | q <;> rw [q] <;> decide
      | some v =>
        have hv := sg_lt hN z
        exact nIn (by omega) (by omega) (fun y => e (by rw [z, y]))
    rw [bnd_of ex]
    exact GM.none ei (h0 m) (tF.rf m) hQ.1.2
end TapeM
