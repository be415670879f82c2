/-! calls -/
theorem g_blind {V : eV} {h : aH} {av : List Value} : FrameBlind (va_Pc av (fun U => wK V U ∧ mT V h U.heap)) := fun a U g mk q => by
  obtain ⟨q0, q1, q2⟩ := q
  exact ⟨q0, wK_same (s := U) (U := U.calling g mk a) rfl q1, q2⟩
theorem tB_ws {V : eV} {y : MethodName} {cc : ByteArray} {nL : Nat} {rt : Option FieldType} (h : Cond.code y cc nL rt ∈ tB) : GoodIn tB (.code y cc nL rt :: tB) := fun w hw => by
  rcases List.mem_cons.mp hw with e | e
  · rw [e]; exact ⟨h, tB_good h⟩
  · exact ⟨e, tB_good e⟩
theorem g_after {V : eV} {p : Program} {l : Launch} {e : Env} {R : Room} {s : State} {m : MethodId} {args : Array Value} {below : List Frame} {meth : Method} {c : Code} {H : Heap} {locs : List Loc} {cells slots mc ms pc : Nat} {Q : State → Prop} {lsA : Array Slot} {st0 rest : List Value} {r1 : Option Value} {h1 : aH}
    (hr : va_Run p l e R s m args below meth c H locs cells slots mc ms (F0 m pc lsA st0) rest (fun st o t => o = .returned r1 ∧ mT V h1 t.heap ∧ va_F (vA V) st t) (vA V)) (hS : va_S (vA V) s.heap H locs)
    (kk : ∀ (H1 : Heap) (locs1 : List Loc), mT V h1 H1 → va_S (vA V) s.heap H1 locs1 → W p l e R s m args below meth c H1 locs1 (cells + mc) (slots + ms) Q (F0 m (pc + 3) lsA (r1.toList ++ rest))) : W p l e R s m args below meth c H locs cells slots Q (F0 m pc lsA st0) := by
  intro T hT X
  obtain ⟨v, st₀, t, T', L, h0, X', hL, e1, e2, ⟨hv, hM1, hz, hk⟩, st⟩ := hr T hT X
  cases hv
  rw [h0] at hz hk
  obtain ⟨t2, b1, b2⟩ := kk T'.heap (locs ++ L) (by rw [e1]; exact hM1) ⟨Nat.le_trans hS.1 (by rw [e1]; exact hz), fun q h1 h2 => by rw [e1, hk q (Nat.lt_of_lt_of_le h1 hS.1) h2]; exact hS.2.1 q h1 h2, fun q hq => by
      rcases List.mem_append.mp hq with h | h
      · exact hS.2.2 q h
      · exact hL q h⟩ T' rfl X'
  exact ⟨t2, st t2 b1, b2⟩
/-- what the tables say of a call -/
def cW (own : String) (ix : Nat) (y : MethodName) (cc : ByteArray) (nL : Nat) (rt : Option FieldType) (n : Nat) : Prop :=
  Cond.methodLink own ix y ∈ tB ∧ Cond.code y cc nL rt ∈ tB ∧ Cond.initialized y.cls ∈ tB ∧ (y.cls ≠ "java/lang/invoke/MethodHandle" ∧ y.cls ≠ "java/lang/invoke/VarHandle" ∧ (parseMethodDescriptor y.desc).map (fun d => d.parameters.length) = some n) ∧ nL ≤ 45
def cWN (own : String) (ix : Nat) (y : MethodName) (host : String) (cc : ByteArray) (nL : Nat) (rt : Option FieldType) (n : Nat) : Prop :=
  Cond.methodLinkNest own ix y host ∈ nwl ∧ Cond.code y cc nL rt ∈ tB ∧ Cond.initialized y.cls ∈ tB ∧ (y.cls ≠ "java/lang/invoke/MethodHandle" ∧ y.cls ≠ "java/lang/invoke/VarHandle" ∧ (parseMethodDescriptor y.desc).map (fun d => d.parameters.length) = some n) ∧ nL ≤ 45
section Calls7
variable {V : eV} {K : kX} {pc d : Nat} {ls : List (Nat × Value)} {st rest As : List Value} {h h1 h' : aH} {r r1 : Option Value} {y : MethodName} {cc : ByteArray} {nL n ix : Nat} {rt : Option FieldType}
theorem g_callV {C : String} {a ci N : Nat} {fs : List Nat} {T : u_T} (hE : eE V d y cc nL rt (.ref (vB V + a) :: As) h r1 h1) (hw : cW K.2.1 ix y cc nL rt n) (hi : Cond.instanceMethod y ∈ tB) (hse : Cond.selects C y y ∈ tB) (ha : a < h.1) (hs : h.2.2.1 a = .inr (.inr (ci, fs))) (hc : vwCl[ci]? = some (C, T, N)) (hdp : d + 1 ≤ K.2.2.2.2.2) (hn : As.length = n) (hst : st = As.reverse ++ .ref (vB V + a) :: rest) (hca : (rest.map fun v => v.category).sum ≤ 8) (hd : decode K.1 pc = .ok (.invokevirtual ix, 3))
    (k : gG V K (pc + 3) ls (r1.toList ++ rest) h1 r h') : gG V K pc ls st h r h' := by
  refine ⟨⟨Nat.le_trans hE.1.1 k.1.1, Nat.le_trans hE.1.2 k.1.2⟩, fun p e R s m args below meth c H locs lsA Q n0 u0 C0 a1 a2 a3 a4 hM hS hL hk => ?_⟩
  obtain ⟨q, g1, cell, q1, q2, q3, q4⟩ := mT_obj hM ha hs
  have hr : q = (C, T, N) := Option.some.inj (g1.symm.trans hc)
  subst hr
  obtain ⟨-, hfc, -⟩ := C0.2.2.2.2.2.2.2.2.1.1.1 ci _ hc
  have hts := C0.2.2.2.2.2.2.2.1
  have hwk := C0.2.2.2.2.2.2.2.2.1
  have b1 := C0.2.2.2.2.2.2.2.2.2.1
  have b2 := C0.2.2.2.2.2.2.2.2.2.2.1
  have b3 := hw.2.2.2.2
  have c1 := hE.1.1
  have c2 := hE.1.2
  have c3 := k.1.1
  have c4 := k.1.2
  have hB := callB_of (R := R) (s := s) (args := args) (rm := { frames := d, cells := h1.1 - h.1, slots := h1.2.1 - h.2.1, locals := 64 * d }) (mc := h1.1 - h.1) (ms := h1.2.1 - h.2.1) n hts (tB_ws (V := V) hw.2.1) rfl rfl rfl (hts _ hw.2.2.1) (hts _ hw.1) hw.2.2.2.1 ⟨by show d + 1 ≤ R.frames; omega, by show 8 + (nL + 11) + 64 * d ≤ R.locals; omega⟩
  refine g_after (V := V) (va_runV (As := As) (rest := rest) ⟨C0.1, C0.2.1, C0.2.2.1, C0.2.2.2.2.2.2.1, hts⟩ hE.2 ⟨hB, hts _ hi, hts _ hse⟩ ⟨g_blind, ⟨cell, q1, by rw [q3]; rfl, by rw [q2]; exact hfc⟩, fun U hU hW => ⟨rfl, wK_warm hW hwk, by rw [hU]; exact hM⟩⟩ rfl hn hL.1 hst (lv_room hca) hd ⟨by omega, by omega⟩) hS (fun H1 locs1 hM1 hS1 => ?_)
  have e1 : h.1 - n0 + (h1.1 - h.1) = h1.1 - n0 := by omega
  have e2 : h.2.1 - u0 + (h1.2.1 - h.2.1) = h1.2.1 - u0 := by omega
  rw [e1, e2]
  exact k.2 p e R s m args below meth c H1 locs1 lsA Q n0 u0 C0 (by omega) (by omega) a3 a4 hM1 hS1 hL hk
theorem g_callS (hE : eE V d y cc nL rt As h r1 h1) (hw : cW K.2.1 ix y cc nL rt n) (hi : Cond.static y ∈ tB) (hdp : d + 1 ≤ K.2.2.2.2.2) (hn : As.length = n) (hst : st = As.reverse ++ rest) (hca : (rest.map fun v => v.category).sum ≤ 8) (hd : decode K.1 pc = .ok (.invokestatic ix, 3))
    (k : gG V K (pc + 3) ls (r1.toList ++ rest) h1 r h') : gG V K pc ls st h r h' := by
  refine ⟨⟨Nat.le_trans hE.1.1 k.1.1, Nat.le_trans hE.1.2 k.1.2⟩, fun p e R s m args below meth c H locs lsA Q n0 u0 C0 a1 a2 a3 a4 hM hS hL hk => ?_⟩
  have hts := C0.2.2.2.2.2.2.2.1
  have hwk := C0.2.2.2.2.2.2.2.2.1
  have b1 := C0.2.2.2.2.2.2.2.2.2.1
  have b2 := C0.2.2.2.2.2.2.2.2.2.2.1
  have b3 := hw.2.2.2.2
  have c1 := hE.1.1
  have c2 := hE.1.2
  have c3 := k.1.1
  have c4 := k.1.2
  have hB := callB_of (R := R) (s := s) (args := args) (rm := { frames := d, cells := h1.1 - h.1, slots := h1.2.1 - h.2.1, locals := 64 * d }) (mc := h1.1 - h.1) (ms := h1.2.1 - h.2.1) n hts (tB_ws (V := V) hw.2.1) rfl rfl rfl (hts _ hw.2.2.1) (hts _ hw.1) hw.2.2.2.1 ⟨by show d + 1 ≤ R.frames; omega, by show 8 + (nL + 11) + 64 * d ≤ R.locals; omega⟩
  refine g_after (V := V) (va_runS (As := As) (rest := rest) ⟨C0.1, C0.2.1, C0.2.2.1, C0.2.2.2.2.2.2.1, hts⟩ hE.2 ⟨hB, hts _ hi⟩ ⟨g_blind, fun U hU hW => ⟨rfl, wK_warm hW hwk, by rw [hU]; exact hM⟩⟩ rfl hn hL.1 hst (lv_room hca) hd ⟨by omega, by omega⟩) hS (fun H1 locs1 hM1 hS1 => ?_)
  have e1 : h.1 - n0 + (h1.1 - h.1) = h1.1 - n0 := by omega
  have e2 : h.2.1 - u0 + (h1.2.1 - h.2.1) = h1.2.1 - u0 := by omega
  rw [e1, e2]
  exact k.2 p e R s m args below meth c H1 locs1 lsA Q n0 u0 C0 (by omega) (by omega) a3 a4 hM1 hS1 hL hk
theorem g_callI {a : Nat} (hE : eE V d y cc nL none (.ref a :: As) h r1 h1) (hw : cW K.2.1 ix y cc nL none n) (hi : Cond.instanceMethod y ∈ tB) (hy : y.name = "<init>") (hdp : d + 1 ≤ K.2.2.2.2.2) (hn : As.length = n) (hst : st = As.reverse ++ .ref a :: rest) (hca : (rest.map fun v => v.category).sum ≤ 8) (hd : decode K.1 pc = .ok (.invokespecial ix, 3))
    (k : gG V K (pc + 3) ls (r1.toList ++ rest) h1 r h') : gG V K pc ls st h r h' := by
  refine ⟨⟨Nat.le_trans hE.1.1 k.1.1, Nat.le_trans hE.1.2 k.1.2⟩, fun p e R s m args below meth c H locs lsA Q n0 u0 C0 a1 a2 a3 a4 hM hS hL hk => ?_⟩
  have hts := C0.2.2.2.2.2.2.2.1
  have hwk := C0.2.2.2.2.2.2.2.2.1
  have b1 := C0.2.2.2.2.2.2.2.2.2.1
  have b2 := C0.2.2.2.2.2.2.2.2.2.2.1
  have b3 := hw.2.2.2.2
  have c1 := hE.1.1
  have c2 := hE.1.2
  have c3 := k.1.1
  have c4 := k.1.2
  have hB := callB_of (R := R) (s := s) (args := args) (rm := { frames := d, cells := h1.1 - h.1, slots := h1.2.1 - h.2.1, locals := 64 * d }) (mc := h1.1 - h.1) (ms := h1.2.1 - h.2.1) n hts (tB_ws (V := V) hw.2.1) rfl rfl rfl (hts _ hw.2.2.1) (hts _ hw.1) hw.2.2.2.1 ⟨by show d + 1 ≤ R.frames; omega, by show 8 + (nL + 11) + 64 * d ≤ R.locals; omega⟩
  refine g_after (V := V) (va_runI (b := a) (As := As) (rest := rest) ⟨C0.1, C0.2.1, C0.2.2.1, C0.2.2.2.2.2.2.1, hts⟩ hE.2 ⟨hB, hy, hts _ hi⟩ ⟨g_blind, fun U hU hW => ⟨rfl, wK_warm hW hwk, by rw [hU]; exact hM⟩⟩ rfl hn hL.1 hst (lv_room hca) hd ⟨by omega, by omega⟩) hS (fun H1 locs1 hM1 hS1 => ?_)
  have e1 : h.1 - n0 + (h1.1 - h.1) = h1.1 - n0 := by omega
  have e2 : h.2.1 - u0 + (h1.2.1 - h.2.1) = h1.2.1 - u0 := by omega
  rw [e1, e2]
  exact k.2 p e R s m args below meth c H1 locs1 lsA Q n0 u0 C0 (by omega) (by omega) a3 a4 hM1 hS1 hL hk
theorem g_callSN {host : String} (hE : eE V d y cc nL rt As h r1 h1) (hw : cWN K.2.1 ix y host cc nL rt n) (hi : Cond.static y ∈ tB) (hdp : d + 1 ≤ K.2.2.2.2.2) (hn : As.length = n) (hst : st = As.reverse ++ rest) (hca : (rest.map fun v => v.category).sum ≤ 8) (hd : decode K.1 pc = .ok (.invokestatic ix, 3))
    (k : gG V K (pc + 3) ls (r1.toList ++ rest) h1 r h') : gG V K pc ls st h r h' := by
  refine ⟨⟨Nat.le_trans hE.1.1 k.1.1, Nat.le_trans hE.1.2 k.1.2⟩, fun p e R s m args below meth c H locs lsA Q n0 u0 C0 a1 a2 a3 a4 hM hS hL hk => ?_⟩
  have hts := C0.2.2.2.2.2.2.2.1
  have hwk := C0.2.2.2.2.2.2.2.2.1
  have b1 := C0.2.2.2.2.2.2.2.2.2.1
  have b2 := C0.2.2.2.2.2.2.2.2.2.2.1
  have b3 := hw.2.2.2.2
  have c1 := hE.1.1
  have c2 := hE.1.2
  have c3 := k.1.1
  have c4 := k.1.2
  have hB := va_cnB (R := R) (s := s) (args := args) (rm := { frames := d, cells := h1.1 - h.1, slots := h1.2.1 - h.2.1, locals := 64 * d }) (mc := h1.1 - h.1) (ms := h1.2.1 - h.2.1) n hts (tB_ws (V := V) hw.2.1) rfl rfl rfl (hwk.2.1 _ hw.1) (hts _ hw.2.2.1) hw.2.2.2.1 ⟨by show d + 1 ≤ R.frames; omega, by show 8 + (nL + 11) + 64 * d ≤ R.locals; omega⟩
  refine g_after (V := V) (va_runSN (As := As) (rest := rest) ⟨C0.1, C0.2.1, C0.2.2.1, C0.2.2.2.2.2.2.1, hts⟩ hE.2 ⟨hB, hts _ hi, trivial⟩ ⟨g_blind, fun U hU hW => ⟨rfl, wK_warm hW hwk, by rw [hU]; exact hM⟩⟩ rfl hn hL.1 hst (lv_room hca) hd ⟨by omega, by omega⟩) hS (fun H1 locs1 hM1 hS1 => ?_)
  have e1 : h.1 - n0 + (h1.1 - h.1) = h1.1 - n0 := by omega
  have e2 : h.2.1 - u0 + (h1.2.1 - h.2.1) = h1.2.1 - u0 := by omega
  rw [e1, e2]
  exact k.2 p e R s m args below meth c H1 locs1 lsA Q n0 u0 C0 (by omega) (by omega) a3 a4 hM1 hS1 hL hk
theorem g_callIN {a : Nat} {host : String} (hE : eE V d y cc nL none (.ref a :: As) h r1 h1) (hw : cWN K.2.1 ix y host cc nL none n) (hi : Cond.instanceMethod y ∈ tB) (hy : y.name = "<init>") (hdp : d + 1 ≤ K.2.2.2.2.2) (hn : As.length = n) (hst : st = As.reverse ++ .ref a :: rest) (hca : (rest.map fun v => v.category).sum ≤ 8) (hd : decode K.1 pc = .ok (.invokespecial ix, 3))
    (k : gG V K (pc + 3) ls (r1.toList ++ rest) h1 r h') : gG V K pc ls st h r h' := by
  refine ⟨⟨Nat.le_trans hE.1.1 k.1.1, Nat.le_trans hE.1.2 k.1.2⟩, fun p e R s m args below meth c H locs lsA Q n0 u0 C0 a1 a2 a3 a4 hM hS hL hk => ?_⟩
  have hts := C0.2.2.2.2.2.2.2.1
  have hwk := C0.2.2.2.2.2.2.2.2.1
  have b1 := C0.2.2.2.2.2.2.2.2.2.1
  have b2 := C0.2.2.2.2.2.2.2.2.2.2.1
  have b3 := hw.2.2.2.2
  have c1 := hE.1.1
  have c2 := hE.1.2
  have c3 := k.1.1
  have c4 := k.1.2
  have hB := va_cnB (R := R) (s := s) (args := args) (rm := { frames := d, cells := h1.1 - h.1, slots := h1.2.1 - h.2.1, locals := 64 * d }) (mc := h1.1 - h.1) (ms := h1.2.1 - h.2.1) n hts (tB_ws (V := V) hw.2.1) rfl rfl rfl (hwk.2.1 _ hw.1) (hts _ hw.2.2.1) hw.2.2.2.1 ⟨by show d + 1 ≤ R.frames; omega, by show 8 + (nL + 11) + 64 * d ≤ R.locals; omega⟩
  refine g_after (V := V) (va_runIN (b := a) (As := As) (rest := rest) ⟨C0.1, C0.2.1, C0.2.2.1, C0.2.2.2.2.2.2.1, hts⟩ hE.2 ⟨hB, hy, hts _ hi⟩ ⟨g_blind, fun U hU hW => ⟨rfl, wK_warm hW hwk, by rw [hU]; exact hM⟩⟩ rfl hn hL.1 hst (lv_room hca) hd ⟨by omega, by omega⟩) hS (fun H1 locs1 hM1 hS1 => ?_)
  have e1 : h.1 - n0 + (h1.1 - h.1) = h1.1 - n0 := by omega
  have e2 : h.2.1 - u0 + (h1.2.1 - h.2.1) = h1.2.1 - u0 := by omega
  rw [e1, e2]
  exact k.2 p e R s m args below meth c H1 locs1 lsA Q n0 u0 C0 (by omega) (by omega) a3 a4 hM1 hS1 hL hk
/-- Object's own constructor -/
theorem g_objInit {a : Nat} (hl : Cond.methodLink K.2.1 ix Lib.objectInit ∈ tB) (hi : Cond.instanceMethod Lib.objectInit ∈ tB) (hcd : Cond.code Lib.objectInit ⟨#[0xb1]⟩ 1 none ∈ tB) (hdp : 1 ≤ K.2.2.2.2.2) (hca : (rest.map fun v => v.category).sum ≤ 8) (hd : decode K.1 pc = .ok (.invokespecial ix, 3)) (k : gG V K (pc + 3) ls rest h r h') : gG V K pc ls (.ref a :: rest) h r h' :=
  g_go (fun C0 hL k => by
    have hts := C0.2.2.2.2.2.2.2.1
    have b1 := C0.2.2.2.2.2.2.2.2.2.1
    have b2 := C0.2.2.2.2.2.2.2.2.2.2.1
    exact W.objInit C0.1 C0.2.1 C0.2.2.2.2.2.2.1 (hts _ hl) (hts _ hi) (hts _ hcd) rfl (hL.1.trans C0.2.2.1.symm) rfl hd (by omega) (by show 2 * 0 + _ + 12 ≤ _; omega) k) k
theorem g_max {x z : Int32} (hl : Cond.methodLink K.2.1 ix Lib.Math.max.name ∈ tB) (hi : Cond.static Lib.Math.max.name ∈ tB) (hini : Cond.initialized "java/lang/Math" ∈ tB) (hcd : Cond.code Lib.Math.max.name Lib.Math.max.code 2 (some .int) ∈ tB) (hdp : 1 ≤ K.2.2.2.2.2) (hca : (rest.map fun v => v.category).sum ≤ 8) (hd : decode K.1 pc = .ok (.invokestatic ix, 3)) (k : gG V K (pc + 3) ls (.int (if x < z then z else x) :: rest) h r h') : gG V K pc ls (.int z :: .int x :: rest) h r h' :=
  ⟨k.1, fun p e R s m args below meth c H locs lsA Q n0 u0 C0 a1 a2 a3 a4 hM hS hL hk => by
    have hts := C0.2.2.2.2.2.2.2.1
    have b1 := C0.2.2.2.2.2.2.2.2.2.1
    have b2 := C0.2.2.2.2.2.2.2.2.2.2.1
    have c3 := k.1.1
    have c4 := k.1.2
    exact va_mmax C0.1 C0.2.1 (C0.2.2.1.trans hL.1.symm) C0.2.2.2.2.2.2.1 (hts _ hl) (hts _ hi) (hts _ hini) (hts _ hcd) (by omega) (by omega) (by omega) (by omega) hd (k.2 p e R s m args below meth c H locs lsA Q n0 u0 C0 a1 a2 a3 a4 hM hS hL hk)⟩
theorem g_min {x z : Int32} (hl : Cond.methodLink K.2.1 ix Lib.Math.min.name ∈ tB) (hi : Cond.static Lib.Math.min.name ∈ tB) (hini : Cond.initialized "java/lang/Math" ∈ tB) (hcd : Cond.code Lib.Math.min.name Lib.Math.min.code 2 (some .int) ∈ tB) (hdp : 1 ≤ K.2.2.2.2.2) (hca : (rest.map fun v => v.category).sum ≤ 8) (hd : decode K.1 pc = .ok (.invokestatic ix, 3)) (k : gG V K (pc + 3) ls (.int (if z < x then z else x) :: rest) h r h') : gG V K pc ls (.int z :: .int x :: rest) h r h' :=
  ⟨k.1, fun p e R s m args below meth c H locs lsA Q n0 u0 C0 a1 a2 a3 a4 hM hS hL hk => by
    have hts := C0.2.2.2.2.2.2.2.1
    have b1 := C0.2.2.2.2.2.2.2.2.2.1
    have b2 := C0.2.2.2.2.2.2.2.2.2.2.1
    have c3 := k.1.1
    have c4 := k.1.2
    exact va_mmin C0.1 C0.2.1 (C0.2.2.1.trans hL.1.symm) C0.2.2.2.2.2.2.1 (hts _ hl) (hts _ hi) (hts _ hini) (hts _ hcd) (by omega) (by omega) (by omega) (by omega) hd (k.2 p e R s m args below meth c H locs lsA Q n0 u0 C0 a1 a2 a3 a4 hM hS hL hk)⟩
end Calls7
