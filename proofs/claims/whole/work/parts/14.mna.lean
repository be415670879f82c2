/-! new int[n][k]: the machine's step, by the state behind i rows -/
def mz_o (cJ : ClassId) (N b i : Nat) : Cell := arrV cJ N (fun j => if j < i then .ref (b + 1 + j) else .null)
def mz (T : State) (cJ cI : ClassId) (N M : Nat) : Nat → State
  | 0 => T.pushCell (mz_o cJ N T.heap.size 0)
  | i + 1 => ((mz T cJ cI N M i).pushCell (arrV cI M (fun _ => .int 0))).setCell T.heap.size (mz_o cJ N T.heap.size (i + 1))
theorem mz_o_set (cJ : ClassId) (N b i : Nat) : (mz_o cJ N b i).setSlot i (.ref (b + 1 + i)) = mz_o cJ N b (i + 1) := by
  unfold mz_o
  rw [arrV_store]
  congr 1
  funext j
  by_cases ej : j = i
  · subst ej; simp [updV]
  · by_cases hj : j < i
    · simp [updV, ej, hj, Nat.lt_succ_of_lt hj]
    · simp [updV, ej, hj, show ¬ j < i + 1 by omega]
theorem mz_is (T : State) (cJ cI : ClassId) (N M : Nat) : ∀ i, (mz T cJ cI N M i).heap.size = T.heap.size + 1 + i ∧ (mz T cJ cI N M i).heap[T.heap.size]? = some (mz_o cJ N T.heap.size i) ∧ (mz T cJ cI N M i).vm = T.vm ∧ (mz T cJ cI N M i).slotsUsed = T.slotsUsed + N + i * M ∧ (∀ a : Nat, a < T.heap.size → (mz T cJ cI N M i).heap[a]? = T.heap[a]?) ∧ ∀ j : Nat, j < i → (mz T cJ cI N M i).heap[T.heap.size + 1 + j]? = some (arrV cI M (fun _ => .int 0)) := by
  intro i
  induction i with
  | zero =>
    refine ⟨by simp [mz], by simp [mz], rfl, ?_, fun a ha => State.heap_pushCell_of_lt _ _ ha, fun j h => absurd h (Nat.not_lt_zero _)⟩
    have : (mz_o cJ N T.heap.size 0).slots.size = N := arrV_size _ _ _
    simp [mz, this]
  | succ i ih =>
    obtain ⟨a1, a2, a3, a4, a5, a6⟩ := ih
    have sM : (arrV cI M (fun _ => Value.int 0)).slots.size = M := arrV_size _ _ _
    have lt0 : T.heap.size < (mz T cJ cI N M i).heap.size := by omega
    have g0 : ((mz T cJ cI N M i).pushCell (arrV cI M (fun _ => .int 0))).heap[T.heap.size]? = some (mz_o cJ N T.heap.size i) := by rw [State.heap_pushCell_of_lt (h := lt0)]; exact a2
    have sz : ((mz T cJ cI N M i).pushCell (arrV cI M (fun _ => .int 0))).heap.size = T.heap.size + 1 + (i + 1) := by rw [size_pushCell, a1]; omega
    refine ⟨by show (State.setCell _ _ _).heap.size = _; rw [size_setCell, sz], ?_, a3, ?_, fun a ha => ?_, fun j hj => ?_⟩
    · show (State.setCell _ _ _).heap[_]? = _
      simp [State.setCell, Array.getElem?_setIfInBounds]
      omega
    · show (State.setCell _ _ _).slotsUsed = _
      have : ((mz T cJ cI N M i).pushCell (arrV cI M (fun _ => .int 0))).slotsUsed = T.slotsUsed + N + (i + 1) * M := by
        simp [sM, a4, Nat.succ_mul]; omega
      simpa using this
    · show (State.setCell _ _ _).heap[a]? = _
      rw [State.heap_setCell_other (Nat.ne_of_gt ha), State.heap_pushCell_of_lt (h := Nat.lt_trans ha lt0)]
      exact a5 a ha
    · show (State.setCell _ _ _).heap[T.heap.size + 1 + j]? = _
      rw [State.heap_setCell_other (show T.heap.size ≠ T.heap.size + 1 + j by omega)]
      by_cases e : j = i
      · subst e
        rw [← a1]
        exact State.heap_pushCell_size _ _
      · rw [State.heap_pushCell_of_lt (h := show T.heap.size + 1 + j < _ by omega)]
        exact a6 j (by omega)
theorem mz_top (T : State) (f : JFrame) (cJ cI : ClassId) (N M : Nat) : ∀ i, mz (T.setTop f) cJ cI N M i = (mz T cJ cI N M i).setTop f := by
  intro i
  induction i with
  | zero => rfl
  | succ i ih => simp only [mz, ih, State.heap_setTop, State.pushCell_setTop, State.setCell_setTop]
section Mna
variable {p : Program} {l : Launch} {e : Env} {R : Room} {s : State} {m : MethodId} {args : Array Value} {below : List Frame} {meth : Method} {c : Code} {T : State} {locs : List Loc} {cells slots : Nat}
theorem mz_stand (X : Stand p l e R s m args below meth c T locs cells slots) (cJ cI : ClassId) (N M : Nat) : ∀ i, Stand p l e R s m args below meth c (mz T cJ cI N M i) locs (cells + 1 + i) (slots + N + i * M) := by
  intro i
  induction i with
  | zero =>
    have h := X.pushed (mz_o cJ N T.heap.size 0)
    rw [show (mz_o cJ N T.heap.size 0).slots.size = N from arrV_size _ _ _] at h
    simpa [mz] using h
  | succ i ih =>
    obtain ⟨a1, a2, -⟩ := mz_is T cJ cI N M i
    have lt0 : T.heap.size < (mz T cJ cI N M i).heap.size := by omega
    have h := (ih.pushed (arrV cI M (fun _ => .int 0))).stored (a := T.heap.size) (cell := mz_o cJ N T.heap.size i) (by rw [State.heap_pushCell_of_lt (h := lt0)]; exact a2) i (.ref (T.heap.size + 1 + i))
    rw [mz_o_set, arrV_size] at h
    have h2 := Stand.forget h (fun y hy => by rw [List.mem_singleton.mp hy]; exact X.same.2.1)
    have e3 : slots + N + (i + 1) * M = slots + N + i * M + M := by rw [Nat.succ_mul]; omega
    rw [e3]
    exact h2
theorem mna_step (X : Stand p l e R s m args below meth c T locs cells slots) (hexec : p.tables.exec = Jvm.exec) {own : String} {index : Nat} {cJ cI cc : ClassId} {kJ kI : Class} (hown : s.vm.findClass own = some m.cls) (hclink : (Cond.classLink own index "[[I").before args s = true) (hfJ : s.vm.findClass "[[I" = some cJ) (hJ : s.vm.classes[cJ]? = some kJ) (hJk : kJ.kind = .array cI (.array .int)) (hI : s.vm.classes[cI]? = some kI) (hIk : kI.kind = .array cc .int)
    {g : JFrame} (hg : g.method = m) (hdg : decode c.code g.pc = .ok (.multianewarray index 2, 4)) {n k : Int32} {rest : List Value} (hstack : g.stack = .int k :: .int n :: rest) (hn : ¬ n < 0) (hk : ¬ k < 0) (hb1 : n.toNatClampNeg * 4 ≤ 536870912) (hb2 : k.toNatClampNeg * 4 ≤ 536870912)
    (hcells : cells + (1 + n.toNatClampNeg) ≤ R.cells) (hslots : slots + (n.toNatClampNeg + n.toNatClampNeg * k.toNatClampNeg) ≤ R.slots) :
    ∃ vm₁ : Vm, s.WarmedH vm₁ ∧ ∀ target, Steps p.tables e below ((mz (T.setVm vm₁) cJ cI n.toNatClampNeg k.toNatClampNeg n.toNatClampNeg).setTop { g with pc := g.pc + 4, stack := .ref T.heap.size :: rest }) target → Steps p.tables e below (T.setTop g) target := by
  subst hg
  have hpl : e.platform.magicAccessors = ({} : Platform).magicAccessors := by rw [X.admits.platform]
  obtain ⟨c0, hfc0, hcl⟩ := Cond.classLink_spec hown hclink e.platform hpl
  have ec : cJ = c0 := Option.some.inj (hfJ.symm.trans hfc0)
  subst ec
  obtain ⟨hg₁, hwarm₁, hready₁⟩ := State.classEntry (e := e) X.warmed hcl
  generalize T.vm.noted g.method.cls index (.cls cJ) = vm₁ at hg₁ hwarm₁ hready₁
  obtain ⟨kJ₁, hJ₁, eJ⟩ := hwarm₁.alike.2.2 _ _ hJ
  obtain ⟨kI₁, hI₁, eI⟩ := hwarm₁.alike.2.2 _ _ hI
  have hJk₁ : kJ₁.kind = .array cI (.array .int) := by rw [eJ]; exact hJk
  have hIk₁ : kI₁.kind = .array cc .int := by rw [eI]; exact hIk
  obtain ⟨hr1, hr2⟩ := X.roomAbove hcells hslots
  refine ⟨vm₁, hwarm₁, fun target hrest => ?_⟩
  have l1 : ¬ n.toNatClampNeg > e.platform.arrayLengthLimit := by rw [Launch.admits_arrayLengthLimit X.admits]; omega
  have l2 : ¬ n.toNatClampNeg * componentBytes (.array .int) > e.platform.maxHeapBytes := by rw [Launch.admits_maxHeapBytes X.admits]; show ¬ n.toNatClampNeg * 4 > 536870912; omega
  have l3 : ¬ k.toNatClampNeg > e.platform.arrayLengthLimit := by rw [Launch.admits_arrayLengthLimit X.admits]; omega
  have l4 : ¬ k.toNatClampNeg * componentBytes .int > e.platform.maxHeapBytes := by rw [Launch.admits_maxHeapBytes X.admits]; show ¬ k.toNatClampNeg * 4 > 536870912; omega
  have XF := mz_stand (X.noted hwarm₁) cJ cI n.toNatClampNeg k.toNatClampNeg n.toNatClampNeg
  have eS : ((T.setTop g).setVm vm₁).setTop { g with stack := rest } = (T.setVm vm₁).setTop { g with stack := rest } := by
    show ((T.setVm vm₁).setTop g).setTop _ = _
    rw [State.setTop_setTop]
  jvm_step X.here [hexec, hdg]
  simp only [multianewarray.sem, wp_bind', W.resolveClassAt_links (State.method?_setTop g X.here.top) hg₁]
  rw [W.popN, if_neg (by decide)]
  refine ⟨g, State.topJava?_setTop' (s := T.setVm vm₁) g X.here.top, [.int n, .int k], rest, rfl, hstack, ?_⟩
  simp only [List.mapM_cons, List.mapM_nil, wp_bind', wp_pure']
  rw [eS]
  generalize hU : (T.setVm vm₁).setTop { g with stack := rest } = U
  have hUh : U.heap = T.heap := by rw [← hU]; rfl
  have hUv : U.vm = vm₁ := by rw [← hU]; rfl
  have hUs : U.slotsUsed = T.slotsUsed := by rw [← hU]; rfl
  have hfind : ([k].find? (· < 0)) = none := by simp [hk]
  rw [multianewarray.make]
  simp only [wp_bind', W.ite, hn, if_false, wp_pure', W.theClass, hUv, hJ₁, hJk₁, Option.some.injEq, exists_eq_left']
  refine W.newArray_of (by rw [hUv]; exact hJ₁) hJk₁ l1 l2 (by rw [hUh]; omega) (by rw [hUs]; have := Nat.zero_le (n.toNatClampNeg * k.toNatClampNeg); omega) rfl (fun acts' => ?_)
  simp only [hfind]
  rw [ite_self, wp_bind', Std.Legacy.Range.forIn_eq_forIn_range']
  have hsz : ([:n.toNatClampNeg] : Std.Legacy.Range).size = n.toNatClampNeg := by simp [Std.Legacy.Range.size]
  rw [hsz]
  have hst0 : U.pushCell { cls := cJ, slots := Array.replicate n.toNatClampNeg .null } = mz U cJ cI n.toNatClampNeg k.toNatClampNeg 0 := by
    show _ = U.pushCell (mz_o cJ n.toNatClampNeg U.heap.size 0)
    congr 1
    unfold mz_o
    rw [arrV_new]
    congr 1
  rw [hst0]
  refine wp_forIn_inv (fun todo s' => ∃ i, i ≤ n.toNatClampNeg ∧ todo = List.range' i (n.toNatClampNeg - i) ∧ s' = mz U cJ cI n.toNatClampNeg k.toNatClampNeg i) _ _ ⟨0, Nat.zero_le _, rfl, rfl⟩ ?_ ?_
  · rintro x todo s' d' acts2 Q' ⟨i, hi, hl, rfl⟩ hnext
    have hlt : i < n.toNatClampNeg := by
      rcases Nat.lt_or_ge i n.toNatClampNeg with h | h
      · exact h
      · rw [show n.toNatClampNeg - i = 0 by omega] at hl; simp at hl
    obtain ⟨rfl, htodo⟩ : x = i ∧ todo = List.range' (i + 1) (n.toNatClampNeg - (i + 1)) := by
      rw [show n.toNatClampNeg - i = (n.toNatClampNeg - (i + 1)) + 1 by omega, List.range'_succ] at hl
      exact ⟨(List.cons.inj hl).1, (List.cons.inj hl).2⟩
    obtain ⟨f1, f2, f3, f4, -, -⟩ := mz_is U cJ cI n.toNatClampNeg k.toNatClampNeg x
    have hmul : x * k.toNatClampNeg + k.toNatClampNeg ≤ n.toNatClampNeg * k.toNatClampNeg := by
      have := Nat.mul_le_mul_right k.toNatClampNeg (show x + 1 ≤ n.toNatClampNeg from hlt)
      rw [Nat.succ_mul] at this; exact this
    have oS : (mz_o cJ n.toNatClampNeg U.heap.size x).slots.size = n.toNatClampNeg := arrV_size _ _ _
    rw [multianewarray.make]
    simp only [wp_bind', W.ite, hk, if_false, wp_pure', W.theClass, f3, hUv, hI₁, hIk₁, Option.some.injEq, exists_eq_left']
    refine W.newArray_of (by rw [f3, hUv]; exact hI₁) hIk₁ l3 l4 (by rw [f1, hUh]; omega) (by rw [f4, hUs]; omega) rfl (fun acts3 => ?_)
    have hlt0 : U.heap.size < (mz U cJ cI n.toNatClampNeg k.toNatClampNeg x).heap.size := by rw [f1]; omega
    simp only [wp_bind', W.writeLoc, wp_pure']
    refine ⟨mz_o cJ n.toNatClampNeg U.heap.size x, by rw [State.heap_pushCell_of_lt (h := hlt0)]; exact f2, fun h => (by cases h), by rw [oS]; exact hlt, ?_, hnext _ _ _ ⟨x + 1, hlt, htodo, ?_⟩⟩
    · simp [mz_o, arrV, State.fitsSlot, State.slotType?, f3, hUv, hJ₁, hJk₁, fits]
    · rw [f1, mz_o_set]
      show _ = ((mz U cJ cI n.toNatClampNeg k.toNatClampNeg x).pushCell (arrV cI k.toNatClampNeg (fun _ => .int 0))).setCell U.heap.size (mz_o cJ n.toNatClampNeg U.heap.size (x + 1))
      rw [← arrV_new]
      rfl
  · rintro s' d' acts2 ⟨i, hi, hl, rfl⟩
    have hiN : i = n.toNatClampNeg := by
      rcases Nat.lt_or_ge i n.toNatClampNeg with h | h
      · rw [show n.toNatClampNeg - i = (n.toNatClampNeg - (i + 1)) + 1 by omega, List.range'_succ] at hl; cases hl
      · omega
    subst hiN
    simp only [wp_pure']
    rw [← hU, mz_top]
    simp only [wp_bind', W.mark, W.pushRef, State.topJava?_setTop' _ XF.here.top, Option.some.injEq, exists_eq_left', State.setTop_setTop, State.heap_setTop]
    simp [jvm, XF.here.top]
    exact hrest
end Mna
theorem arrV_congr {c : ClassId} {N : Nat} {f g : Nat → Value} (h : ∀ j, j < N → f j = g j) : arrV c N f = arrV c N g := by
  unfold arrV
  have : (fun j : Fin N => f j.val) = (fun j : Fin N => g j.val) := by funext j; exact h j.val j.isLt
  rw [this]
theorem g_mna {V : eV} {K : kX} {pc ix : Nat} {ls : List (Nat × Value)} {st : List Value} {h h' : aH} {r : Option Value} {n k : Int32} {N M : Nat} (hcl : Cond.classLink K.2.1 ix "[[I" ∈ tB) (hd : decode K.1 pc = .ok (.multianewarray ix 2, 4)) (hn : ¬ n < 0) (hk : ¬ k < 0) (hN : n.toNatClampNeg = N) (hM : k.toNatClampNeg = M) (hb1 : N * 4 ≤ 536870912) (hb2 : M * 4 ≤ 536870912)
    (kk : gG V K (pc + 4) ls (.ref (vB V + h.1) :: st) (h.1 + 1 + N, h.2.1 + N + N * M, s_ups (s_up h.2.2.1 h.1 (.inr (.inl (N, h.1 + 1)))) (h.1 + 1) N (.inl M), m_clrs h.2.2.2 (h.1 + 1) N) r h') : gG V K pc ls (.int k :: .int n :: st) h r h' := by
  have c3 : h.1 + 1 + N ≤ h'.1 := kk.1.1
  have c4 : h.2.1 + N + N * M ≤ h'.2.1 := kk.1.2
  refine ⟨⟨by omega, by omega⟩, fun p e R s m args below meth c H locs lsA Q n0 u0 C0 a1 a2 a3 a4 hMT hS hL hkk => ?_⟩
  have hts := C0.2.2.2.2.2.2.2.1
  have hRA : s.vm.findClass "[[I" = some (vJ V) := (C0.2.2.2.2.2.2.2.2.1.1.2 1 _ rfl).2
  obtain ⟨kJ, hJ, hJk⟩ := C0.2.2.2.2.2.2.2.2.1.2.2.2.2.2.2.2.2.2.2
  obtain ⟨-, kI, hI, cc, hIk⟩ := (C0.2.2.2.2.2.2.2.2.1.1.2 0 _ rfl).1 0 (fun _ => .int 0)
  subst hN
  subst hM
  intro T hT Xs
  obtain ⟨vm₁, hW1, step⟩ := mna_step Xs C0.1 C0.2.2.2.2.2.2.1 (hts _ hcl) hRA hJ hJk hI hIk (g := F0 m pc lsA (.int k :: .int n :: st)) rfl (by rw [C0.2.1]; exact hd) rfl hn hk hb1 hb2 (by omega) (by omega)
  have X' := mz_stand (Xs.noted hW1) (vJ V) (vI V) n.toNatClampNeg k.toNatClampNeg n.toNatClampNeg
  obtain ⟨f1, f2, -, -, hold, hrow⟩ := mz_is (T.setVm vm₁) (vJ V) (vI V) n.toNatClampNeg k.toNatClampNeg n.toNatClampNeg
  generalize mz (T.setVm vm₁) (vJ V) (vI V) n.toNatClampNeg k.toNatClampNeg n.toNatClampNeg = F at X' step f1 f2 hold hrow
  have hTh : (T.setVm vm₁).heap = H := hT
  rw [hTh] at f1 f2 hold hrow
  have hz := hMT.1
  have g1 : h.1 - n0 + 1 + n.toNatClampNeg = h.1 + 1 + n.toNatClampNeg - n0 := by omega
  have g2 : h.2.1 - u0 + n.toNatClampNeg + n.toNatClampNeg * k.toNatClampNeg = h.2.1 + n.toNatClampNeg + n.toNatClampNeg * k.toNatClampNeg - u0 := by omega
  rw [g1, g2] at X'
  have hm2 : mT V (h.1 + 1 + n.toNatClampNeg, h.2.1 + n.toNatClampNeg + n.toNatClampNeg * k.toNatClampNeg, s_ups (s_up h.2.2.1 h.1 (.inr (.inl (n.toNatClampNeg, h.1 + 1)))) (h.1 + 1) n.toNatClampNeg (.inl k.toNatClampNeg), m_clrs h.2.2.2 (h.1 + 1) n.toNatClampNeg) F.heap := by
    obtain ⟨m1, m2, m3⟩ := hMT
    refine ⟨by rw [f1, m1]; show _ = _ + (h.1 + 1 + n.toNatClampNeg); omega, fun q hq => by rw [hold q (by omega)]; exact m2 q hq, fun b hb => ?_⟩
    have hb : b < h.1 + 1 + n.toNatClampNeg := hb
    unfold c_A
    by_cases e1 : h.1 + 1 ≤ b
    · simp only [s_ups, if_pos (show h.1 + 1 ≤ b ∧ b < h.1 + 1 + n.toNatClampNeg from ⟨e1, hb⟩), m_clrs]
      have := hrow (b - (h.1 + 1)) (by omega)
      rw [show H.size + 1 + (b - (h.1 + 1)) = vB V + b by omega] at this
      exact this
    · have ne : ¬ (h.1 + 1 ≤ b ∧ b < h.1 + 1 + n.toNatClampNeg) := fun q => e1 q.1
      by_cases e2 : b = h.1
      · subst e2
        simp only [s_ups, if_neg ne, s_up, if_true]
        rw [← m1, f2]
        unfold mz_o
        refine congrArg some (arrV_congr fun j hj => ?_)
        simp only [hj, if_true]
        show Value.ref (H.size + 1 + j) = Value.ref (vB V + (h.1 + 1 + j))
        have e9 : H.size + 1 + j = vB V + (h.1 + 1 + j) := by rw [hz]; omega
        rw [e9]
      · have hb2 : b < h.1 := by omega
        have h3 := m3 b hb2
        unfold c_A at h3
        simp only [s_ups, if_neg ne, s_up, if_neg e2]
        have hh := hold (vB V + b) (by omega)
        cases hsb : h.2.2.1 b with
        | inl w => rw [hsb] at h3; simp only at h3 ⊢; rw [hh, h3]; simp only [m_clrs, if_neg ne]
        | inr x =>
          cases x with
          | inl y => rw [hsb] at h3; simp only at h3 ⊢; rw [hh]; exact h3
          | inr y =>
            rw [hsb] at h3; simp only at h3 ⊢
            obtain ⟨q, q1, q2⟩ := h3
            refine ⟨q, q1, (q2.kept hh).to fun k9 _ => ?_⟩
            unfold f_v
            simp only [m_clrs, if_neg ne]
  obtain ⟨t, x1, x2⟩ := kk.2 p e R s m args below meth c F.heap locs lsA Q n0 u0 C0 (by show n0 ≤ h.1 + 1 + _; omega) (by show u0 ≤ h.2.1 + _ + _; omega) a3 a4 hm2 ⟨by rw [f1]; have := hS.1; omega, fun q q1 q2 => by rw [hold q (Nat.lt_of_lt_of_le q1 hS.1)]; exact hS.2.1 q q1 q2, hS.2.2⟩ hL hkk F rfl X'
  refine ⟨t, step t ?_, x2⟩
  rw [hT, hz]
  exact x1
