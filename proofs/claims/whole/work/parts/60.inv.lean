/-! the abstract state: town, signs on the tape, the row told, refusals, the image; both sides hold it -/
abbrev aSt : Type := (Nat → Nat) × Nat × (Nat → Nat) × Nat × (Nat → Nat) × (Nat → Int32) × Option (Nat → Nat)
def iX (u : Option (Nat → Nat)) (m : mM) : Prop := match u with
  | none => m 0 3 = 0
  | some t => m 0 3 = 1 ∧ XT 101 103 111 112 113 115 144 150 t m
def iM (u : Option (Nat → Nat)) (m : mM) : Prop := match u with
  | none => m 187 5 = 0
  | some t => m 187 5 = 1 ∧ ∀ i, i < 189 → m 190 i = dc (t i)
def XI (s : aSt) (m : mM) : Prop := XS s.1 m ∧ (m 151 0 = nI s.2.1 ∧ ∀ i, i < s.2.1 → m 152 i = nI (s.2.2.1 i)) ∧ (m 184 3 = nI s.2.2.2.1 ∧ ∀ i, i < s.2.2.2.1 → m 185 i = nI (s.2.2.2.2.1 i)) ∧ (∀ k, 1 ≤ k → k ≤ 6 → m 186 k = s.2.2.2.2.2.1 k) ∧ iX s.2.2.2.2.2.2 m
def MI (s : aSt) (m : mM) : Prop := MS s.1 m ∧ m 187 10 = dc 999 ∧ (m 187 8 = nI s.2.1 ∧ ∀ i, i < s.2.1 → m 193 i = nI (s.2.2.1 i)) ∧ (m 187 21 = nI s.2.2.2.1 ∧ ∀ i, i < s.2.2.2.1 → m 199 i = nI (s.2.2.2.2.1 i)) ∧ (∀ k, 1 ≤ k → k ≤ 6 → m 188 k = s.2.2.2.2.2.1 k) ∧ iM s.2.2.2.2.2.2 m
def SI (s : aSt) : Prop := WT s.1 ∧ s.2.1 ≤ 64 ∧ (∀ i, i < s.2.1 → s.2.2.1 i < 256) ∧ s.2.2.2.1 ≤ 28 ∧ (∀ i, i < s.2.2.2.1 → s.2.2.2.2.1 i ≤ 9) ∧ ∀ t, s.2.2.2.2.2.2 = some t → WT t
def loF (m m' : mM) : Prop := ∀ a i, 187 ≤ a → m' a i = m a i
def hiF (m m' : mM) : Prop := ∀ a i, a < 187 → m' a i = m a i
theorem loF.rf (m : mM) : loF m m := fun _ _ _ => rfl
theorem hiF.rf (m : mM) : hiF m m := fun _ _ _ => rfl
theorem loF.tr {m m1 m2 : mM} (h1 : loF m m1) (h2 : loF m1 m2) : loF m m2 := fun a i q => (h2 a i q).trans (h1 a i q)
theorem hiF.tr {m m1 m2 : mM} (h1 : hiF m m1) (h2 : hiF m1 m2) : hiF m m2 := fun a i q => (h2 a i q).trans (h1 a i q)
/-- all that the class's state says of cells, but its scratch -/
def xN (m m' : mM) : Prop := ∀ a i, ¬ ((51 ≤ a ∧ a ≤ 100) ∨ (153 ≤ a ∧ a ≤ 183)) → m' a i = m a i
def mN (m m' : mM) : Prop := ∀ a i, (a < 187 ∨ a = 188 ∨ a = 189 ∨ a = 190 ∨ a = 193 ∨ a = 199 ∨ (a = 187 ∧ (i = 5 ∨ i = 8 ∨ i = 10 ∨ i = 21))) → m' a i = m a i
theorem xN.lo {m m' : mM} (h : xN m m') : loF m m' := fun a i q => h a i (by omega)
theorem mN.hi {m m' : mM} (h : mN m m') : hiF m m' := fun a i q => h a i (Or.inl q)
theorem xN.rf (m : mM) : xN m m := fun _ _ _ => rfl
theorem mN.rf (m : mM) : mN m m := fun _ _ _ => rfl
theorem xN.tr {m m1 m2 : mM} (h1 : xN m m1) (h2 : xN m1 m2) : xN m m2 := fun a i q => (h2 a i q).trans (h1 a i q)
theorem mN.tr {m m1 m2 : mM} (h1 : mN m m1) (h2 : mN m1 m2) : mN m m2 := fun a i q => (h2 a i q).trans (h1 a i q)
theorem xF.n {m m' : mM} (h : xF m m') : xN m m' := fun a i q => h a i (by omega) (by omega) (by omega)
theorem mF.n {m m' : mM} (h : mF m m') : mN m m' := fun a i q => h a i (by omega) (by omega) (by omega)
theorem iX_cg {u : Option (Nat → Nat)} {m m' : mM} (h : iX u m) (e : ∀ a i, (a = 0 ∨ (101 ≤ a ∧ a ≤ 150)) → m' a i = m a i) : iX u m' := by
  cases u with
  | none => exact (e 0 3 (by omega)).trans h
  | some t => exact ⟨(e 0 3 (by omega)).trans h.1, h.2.cg (fun a i q => e a i (by omega))⟩
theorem iM_cg {u : Option (Nat → Nat)} {m m' : mM} (h : iM u m) (e : ∀ a i, (a = 190 ∨ (a = 187 ∧ i = 5)) → m' a i = m a i) : iM u m' := by
  cases u with
  | none => exact (e 187 5 (by omega)).trans h
  | some t => exact ⟨(e 187 5 (by omega)).trans h.1, fun i hi => (e 190 i (by omega)).trans (h.2 i hi)⟩
theorem XI.cg {s : aSt} {m m' : mM} (h : XI s m) (e : ∀ a i, ((a ≤ 50 ∨ (101 ≤ a ∧ a ≤ 152)) ∨ (184 ≤ a ∧ a ≤ 186)) → m' a i = m a i) : XI s m' := by
  obtain ⟨h1, h2, h3, h4, h5⟩ := h
  refine ⟨h1.cg (fun a i q => e a i (by omega)), ⟨?_, fun i hi => ?_⟩, ⟨?_, fun i hi => ?_⟩, fun k q1 q2 => ?_, iX_cg h5 (fun a i q => e a i (by omega))⟩
  · rw [e _ _ (by omega)]; exact h2.1
  · rw [e _ _ (by omega)]; exact h2.2 i hi
  · rw [e _ _ (by omega)]; exact h3.1
  · rw [e _ _ (by omega)]; exact h3.2 i hi
  · rw [e _ _ (by omega)]; exact h4 k q1 q2
theorem MI.cg {s : aSt} {m m' : mM} (h : MI s m) (e : ∀ a i, (a = 188 ∨ a = 189 ∨ a = 190 ∨ a = 193 ∨ a = 199 ∨ (a = 187 ∧ (i = 5 ∨ i = 8 ∨ i = 10 ∨ i = 21))) → m' a i = m a i) : MI s m' := by
  obtain ⟨h1, h2, h3, h4, h5, h6⟩ := h
  refine ⟨fun i hi => ?_, ?_, ⟨?_, fun i hi => ?_⟩, ⟨?_, fun i hi => ?_⟩, fun k q1 q2 => ?_, iM_cg h6 (fun a i q => e a i (by omega))⟩
  · rw [e _ _ (by omega)]; exact h1 i hi
  · rw [e _ _ (by omega)]; exact h2
  · rw [e _ _ (by omega)]; exact h3.1
  · rw [e _ _ (by omega)]; exact h3.2 i hi
  · rw [e _ _ (by omega)]; exact h4.1
  · rw [e _ _ (by omega)]; exact h4.2 i hi
  · rw [e _ _ (by omega)]; exact h5 k q1 q2
theorem XI.n {s : aSt} {m m' : mM} (h : XI s m) (e : xN m m') : XI s m' := h.cg (fun a i q => e a i (by omega))
theorem MI.n {s : aSt} {m m' : mM} (h : MI s m) (e : mN m m') : MI s m' := h.cg (fun a i q => e a i (by omega))
theorem XI.hi {s : aSt} {m m' : mM} (h : XI s m) (e : hiF m m') : XI s m' := h.cg (fun a i q => e a i (by omega))
theorem MI.lo {s : aSt} {m m' : mM} (h : MI s m) (e : loF m m') : MI s m' := h.cg (fun a i q => e a i (by omega))
/-- what a side does: from a state, an answer and a state -/
def XO (s : aSt) (F : mM → Option (Int32 × mM)) (v : Int32) (s' : aSt) : Prop := ∀ m, XI s m → ∃ m1, F m = some (v, m1) ∧ XI s' m1 ∧ loF m m1
def MO (s : aSt) (F : mM → Option (Int32 × mM)) (v : Int32) (s' : aSt) : Prop := ∀ m, MI s m → ∃ m1, F m = some (v, m1) ∧ MI s' m1 ∧ hiF m m1
def Op (F G : mM → Option (Int32 × mM)) : Prop := ∀ s, SI s → ∃ v s', SI s' ∧ XO s F v s' ∧ MO s G v s'
theorem Op.go {F G : mM → Option (Int32 × mM)} (h : Op F G) {s : aSt} {m : mM} (hS : SI s) (hX : XI s m) (hM : MI s m) : ∃ v s' m1 m2, F m = some (v, m1) ∧ G m1 = some (v, m2) ∧ SI s' ∧ XI s' m2 ∧ MI s' m2 := by
  obtain ⟨v, s', h1, h2, h3⟩ := h s hS
  obtain ⟨m1, a1, a2, a3⟩ := h2 m hX
  obtain ⟨m2, b1, b2, b3⟩ := h3 m1 (hM.lo a3)
  exact ⟨v, s', m1, m2, a1, b1, h1, a2.hi b3, b2⟩
/-- the same state and an answer -/
theorem XO.same {s : aSt} {F : mM → Option (Int32 × mM)} {v : Int32} (h : ∀ m, XI s m → ∃ m1, F m = some (v, m1) ∧ xN m m1) : XO s F v s := fun m hX => by
  obtain ⟨m1, h1, h2⟩ := h m hX
  exact ⟨m1, h1, hX.n h2, h2.lo⟩
theorem MO.same {s : aSt} {F : mM → Option (Int32 × mM)} {v : Int32} (h : ∀ m, MI s m → ∃ m1, F m = some (v, m1) ∧ mN m m1) : MO s F v s := fun m hM => by
  obtain ⟨m1, h1, h2⟩ := h m hM
  exact ⟨m1, h1, hM.n h2, h2.hi⟩
def bump (s : aSt) (k : Nat) : aSt := (s.1, s.2.1, s.2.2.1, s.2.2.2.1, s.2.2.2.2.1, fun j => if j = k then s.2.2.2.2.2.1 k + 1 else s.2.2.2.2.2.1 j, s.2.2.2.2.2.2)
theorem SI.bump {s : aSt} (h : SI s) (k : Nat) : SI (bump s k) := h
theorem ng7 {k : Nat} (h1 : 1 ≤ k) (h2 : k ≤ 6) : - (-nI k) = nI k := by
  have : k = 1 ∨ k = 2 ∨ k = 3 ∨ k = 4 ∨ k = 5 ∨ k = 6 := by omega
  rcases this with rfl | rfl | rfl | rfl | rfl | rfl <;> decide
theorem X_ref {s : aSt} {k : Nat} (h1 : 1 ≤ k) (h2 : k ≤ 6) : XO s (fun m => bnd (f_X8_refuse (-nI k) m) fun q => some (q.1, q.2)) (-nI k) (bump s k) := fun m hX => by
  refine ⟨m_up m 186 k (m 186 k + 1), ?_, ?_, fun a i q => m_up_na (by omega)⟩
  · have e1 : ¬ (0 : Int32) ≤ -nI k := by
      have : k = 1 ∨ k = 2 ∨ k = 3 ∨ k = 4 ∨ k = 5 ∨ k = 6 := by omega
      rcases this with rfl | rfl | rfl | rfl | rfl | rfl <;> decide
    have e2 : ¬ -nI k < (-6 : Int32) := by
      have : k = 1 ∨ k = 2 ∨ k = 3 ∨ k = 4 ∨ k = 5 ∨ k = 6 := by omega
      rcases this with rfl | rfl | rfl | rfl | rfl | rfl <;> decide
    have e : f_X8_refuse (-nI k) m = some (-nI k, m_up m 186 k (m 186 k + 1)) := by
      unfold f_X8_refuse
      refine (if_neg e1).trans ?_
      refine (if_neg e2).trans ?_
      rw [ng7 h1 h2]
      refine (bnd_of (rdN (show k < 7 by omega) (by decide))).trans ?_
      exact (bnd_of (wrN (show k < 7 by omega) (by decide))).trans rfl
    exact (bnd_of e).trans rfl
  · have h := hX.cg (m' := m) (fun _ _ _ => rfl)
    obtain ⟨g1, g2, g3, g4, g5⟩ := hX
    refine ⟨g1.cg (fun a i q => m_up_na (by omega)), ⟨?_, fun i hi => ?_⟩, ⟨?_, fun i hi => ?_⟩, fun j q1 q2 => ?_, iX_cg g5 (fun a i q => m_up_na (by omega))⟩
    · exact (m_up_na (by decide)).trans g2.1
    · exact (m_up_na (by decide)).trans (g2.2 i hi)
    · exact (m_up_na (by decide)).trans g3.1
    · exact (m_up_na (by decide)).trans (g3.2 i hi)
    · show _ = if j = k then s.2.2.2.2.2.1 k + 1 else s.2.2.2.2.2.1 j
      by_cases e : j = k
      · subst e; rw [if_pos rfl, m_up_eq, g4 j h1 h2]
      · rw [if_neg e, m_up_ni e]; exact g4 j q1 q2
theorem M_ref {s : aSt} {k : Nat} (h1 : 1 ≤ k) (h2 : k ≤ 6) : MO s (fun m => bnd (f_X9_refuse (-nI k) m) fun q => some (q.1, q.2)) (-nI k) (bump s k) := fun m hM => by
  refine ⟨m_up m 188 k (m 188 k + 1), ?_, ?_, fun a i q => m_up_na (by omega)⟩
  · have e : f_X9_refuse (-nI k) m = some (-nI k, m_up m 188 k (m 188 k + 1)) := by
      unfold f_X9_refuse
      rw [ng7 h1 h2]
      refine (bnd_of (rdN (show k < 7 by omega) (by decide))).trans ?_
      exact (bnd_of (wrN (show k < 7 by omega) (by decide))).trans rfl
    exact (bnd_of e).trans rfl
  · obtain ⟨g1, g2, g3, g4, g5, g6⟩ := hM
    refine ⟨fun i hi => (m_up_na (by decide)).trans (g1 i hi), (m_up_na (by decide)).trans g2, ⟨?_, fun i hi => ?_⟩, ⟨?_, fun i hi => ?_⟩, fun j q1 q2 => ?_, iM_cg g6 (fun a i q => m_up_na (by omega))⟩
    · exact (m_up_na (by decide)).trans g3.1
    · exact (m_up_na (by decide)).trans (g3.2 i hi)
    · exact (m_up_na (by decide)).trans g4.1
    · exact (m_up_na (by decide)).trans (g4.2 i hi)
    · show _ = if j = k then s.2.2.2.2.2.1 k + 1 else s.2.2.2.2.2.1 j
      by_cases e : j = k
      · subst e; rw [if_pos rfl, m_up_eq, g5 j h1 h2]
      · rw [if_neg e, m_up_ni e]; exact g5 j q1 q2
/-- an operation that both refuse -/
theorem XO.at {s s' : aSt} {F G : mM → Option (Int32 × mM)} {v : Int32} (h : XO s G v s') (e : ∀ m, XI s m → F m = G m) : XO s F v s' := fun m hX => by
  rw [e m hX]; exact h m hX
theorem MO.at {s s' : aSt} {F G : mM → Option (Int32 × mM)} {v : Int32} (h : MO s G v s') (e : ∀ m, MI s m → F m = G m) : MO s F v s' := fun m hX => by
  rw [e m hX]; exact h m hX
theorem both_ref {s : aSt} {F G : mM → Option (Int32 × mM)} {k : Nat} (hS : SI s) (h1 : 1 ≤ k) (h2 : k ≤ 6) (hx : ∀ m, XI s m → F m = bnd (f_X8_refuse (-nI k) m) fun q => some (q.1, q.2)) (hm : ∀ m, MI s m → G m = bnd (f_X9_refuse (-nI k) m) fun q => some (q.1, q.2)) : ∃ v s', SI s' ∧ XO s F v s' ∧ MO s G v s' :=
  ⟨-nI k, bump s k, hS.bump k, (X_ref h1 h2).at hx, (M_ref h1 h2).at hm⟩
/-- the parts of the state, by name -/
theorem XI.x {s : aSt} {m : mM} (h : XI s m) : XS s.1 m := h.1
theorem XI.o0 {s : aSt} {m : mM} (h : XI s m) : m 1 0 = nI (s.1 0) := h.1.1
theorem XI.o1 {s : aSt} {m : mM} (h : XI s m) : m 1 1 = nI (s.1 1) := h.1.2.1
theorem XI.o2 {s : aSt} {m : mM} (h : XI s m) : m 1 2 = nI (s.1 2) := h.1.2.2.1
theorem XI.o3 {s : aSt} {m : mM} (h : XI s m) : m 1 3 = dc (s.1 3) := h.1.2.2.2.1
theorem XI.o4 {s : aSt} {m : mM} (h : XI s m) : m 1 4 = nI (s.1 4) := h.1.2.2.2.2.1
theorem MI.s {s : aSt} {m : mM} (h : MI s m) : MS s.1 m := h.1
theorem MI.l {s : aSt} {m : mM} (h : MI s m) : m 187 10 = dc 999 := h.2.1
theorem SI.w {s : aSt} (h : SI s) : WT s.1 := h.1
/-- holders, works, hours: who is and who isn't -/
def out (a : Int32) (n : Nat) : Prop := a < 0 ∨ nI n ≤ a
theorem io (a : Int32) {n : Nat} (hn : n < 2 ^ 31) : out a n ∨ ∃ j, j < n ∧ a = nI j := by
  rcases pk_ix a hn with q | q | q
  · exact Or.inl (Or.inl q)
  · exact Or.inl (Or.inr q)
  · exact Or.inr q
theorem X_hol0 {s : aSt} {m : mM} (hX : XI s m) {a : Int32} (h : out a (s.1 0)) : f_X7_hasHolder_1 a m = some 0 := by
  unfold f_X7_hasHolder_1
  by_cases e : a < 0
  · exact if_pos e
  · exact (if_neg e).trans (if_pos (by rw [hX.o0]; exact h.resolve_left e))
theorem X_hol1 {s : aSt} {m : mM} (hS : SI s) (hX : XI s m) {p : Nat} (h : p < s.1 0) : f_X7_hasHolder_1 (nI p) m = some 1 := by
  have := hS.w.h0
  unfold f_X7_hasHolder_1
  exact (if_neg (nI_pos (by omega))).trans (if_neg (by rw [hX.o0]; exact nI_ge h (by omega)))
theorem X_wrk0 {s : aSt} {m : mM} (hX : XI s m) {a : Int32} (h : out a (s.1 1)) : f_X7_hasWork_1 a m = some 0 := by
  unfold f_X7_hasWork_1
  by_cases e : a < 0
  · exact if_pos e
  · exact (if_neg e).trans (if_pos (by rw [hX.o1]; exact h.resolve_left e))
theorem X_wrk1 {s : aSt} {m : mM} (hS : SI s) (hX : XI s m) {p : Nat} (h : p < s.1 1) : f_X7_hasWork_1 (nI p) m = some 1 := by
  have := hS.w.w0
  unfold f_X7_hasWork_1
  exact (if_neg (nI_pos (by omega))).trans (if_neg (by rw [hX.o1]; exact nI_ge h (by omega)))
theorem X_hr0 {m : mM} {a : Int32} (h : out a 28) : f_X8_isHour a m = some 0 := by
  unfold f_X8_isHour
  by_cases e : a < 0
  · exact if_pos e
  · exact (if_neg e).trans (if_pos (h.resolve_left e))
theorem X_hr1 {m : mM} {p : Nat} (h : p < 28) : f_X8_isHour (nI p) m = some 1 := by
  unfold f_X8_isHour
  exact (if_neg (nI_pos (by omega))).trans (if_neg (nI_ge (b := 28) h (by decide)))
theorem M_in0 {m : mM} {a : Int32} {n : Nat} (h : out a n) : f_X9_isIn a (nI n) m = some 0 := by
  unfold f_X9_isIn
  by_cases e : a < 0
  · exact if_pos e
  · exact (if_neg e).trans (if_pos (h.resolve_left e))
theorem M_in1 {m : mM} {p n : Nat} (h : p < n) (hn : n < 2 ^ 31) : f_X9_isIn (nI p) (nI n) m = some 1 := by
  unfold f_X9_isIn
  exact (if_neg (nI_pos (by omega))).trans (if_neg (nI_ge h hn))
theorem MI.c0 {s : aSt} {m : mM} (hS : SI s) (h : MI s m) : m 189 0 = nI (s.1 0) := h.s.n (by decide) (by have := hS.w.h0; omega)
theorem MI.c1 {s : aSt} {m : mM} (hS : SI s) (h : MI s m) : m 189 1 = nI (s.1 1) := h.s.n (by decide) (by have := hS.w.w0; omega)
theorem M_hol0 {s : aSt} {m : mM} (hS : SI s) (hM : MI s m) {a : Int32} (h : out a (s.1 0)) : f_X9_isHolder a m = some 0 := by
  unfold f_X9_isHolder
  refine (bnd_of (rdX (k := 0) rfl (by decide) (by decide) (hM.c0 hS))).trans ?_
  exact (bnd_of (M_in0 h)).trans rfl
theorem M_hol1 {s : aSt} {m : mM} (hS : SI s) (hM : MI s m) {p : Nat} (h : p < s.1 0) : f_X9_isHolder (nI p) m = some 1 := by
  have := hS.w.h0
  unfold f_X9_isHolder
  refine (bnd_of (rdX (k := 0) rfl (by decide) (by decide) (hM.c0 hS))).trans ?_
  exact (bnd_of (M_in1 h (by omega))).trans rfl
theorem M_wrk0 {s : aSt} {m : mM} (hS : SI s) (hM : MI s m) {a : Int32} (h : out a (s.1 1)) : f_X9_isWork a m = some 0 := by
  unfold f_X9_isWork
  refine (bnd_of (rdX (k := 1) rfl (by decide) (by decide) (hM.c1 hS))).trans ?_
  exact (bnd_of (M_in0 h)).trans rfl
theorem M_wrk1 {s : aSt} {m : mM} (hS : SI s) (hM : MI s m) {p : Nat} (h : p < s.1 1) : f_X9_isWork (nI p) m = some 1 := by
  have := hS.w.w0
  unfold f_X9_isWork
  refine (bnd_of (rdX (k := 1) rfl (by decide) (by decide) (hM.c1 hS))).trans ?_
  exact (bnd_of (M_in1 h (by omega))).trans rfl
theorem M_hr0 {m : mM} {a : Int32} (h : out a 28) : f_X9_isHour a m = some 0 := by
  unfold f_X9_isHour
  exact (bnd_of (M_in0 (n := 28) h)).trans rfl
theorem M_hr1 {m : mM} {p : Nat} (h : p < 28) : f_X9_isHour (nI p) m = some 1 := by
  unfold f_X9_isHour
  exact (bnd_of (M_in1 (n := 28) h (by decide))).trans rfl
