/-! calls over the fixed shapes -/
def fU : Nat := 300
def fR : Nat := 12
section RowsC
variable {V : eV} {K : kX} {pc d : Nat} {ls : List (Nat × Value)} {st rest As : List Value} {m m2 : mM} {h' : aH} {r : Option Value} {y : MethodName} {cc : ByteArray} {nL n ix : Nat} {rt : Option FieldType}
theorem p_callV {C : String} {a ci N : Nat} {fs : List Nat} {T : u_T} {v : Int32} (hE : eE V d y cc nL rt (.ref (vB V + a) :: As) (hS m) (some (.int v)) (hS m2)) (hw : cW K.2.1 ix y cc nL rt n) (hi : Cond.instanceMethod y ∈ tB) (hse : Cond.selects C y y ∈ tB) (ho : oB a ci fs) (hc : vwCl[ci]? = some (C, T, N)) (hdp : d + 1 ≤ K.2.2.2.2.2) (hn : As.length = n) (hst : st = As.reverse ++ .ref (vB V + a) :: rest) (hca : (rest.map fun v => v.category).sum ≤ 8) (hd : decode K.1 pc = .ok (.invokevirtual ix, 3))
    (k : gG V K (pc + 3) ls (.int v :: rest) (hS m2) r h') : gG V K pc ls st (hS m) r h' := g_callV hE hw hi hse ho.2 ho.1 hc hdp hn hst hca hd k
theorem p_callVv {C : String} {a ci N : Nat} {fs : List Nat} {T : u_T} (hE : eE V d y cc nL rt (.ref (vB V + a) :: As) (hS m) none (hS m2)) (hw : cW K.2.1 ix y cc nL rt n) (hi : Cond.instanceMethod y ∈ tB) (hse : Cond.selects C y y ∈ tB) (ho : oB a ci fs) (hc : vwCl[ci]? = some (C, T, N)) (hdp : d + 1 ≤ K.2.2.2.2.2) (hn : As.length = n) (hst : st = As.reverse ++ .ref (vB V + a) :: rest) (hca : (rest.map fun v => v.category).sum ≤ 8) (hd : decode K.1 pc = .ok (.invokevirtual ix, 3))
    (k : gG V K (pc + 3) ls rest (hS m2) r h') : gG V K pc ls st (hS m) r h' := g_callV hE hw hi hse ho.2 ho.1 hc hdp hn hst hca hd k
theorem p_callVr {C : String} {a ci N x : Nat} {fs : List Nat} {T : u_T} (hE : eE V d y cc nL rt (.ref (vB V + a) :: As) (hS m) (some (.ref x)) (hS m2)) (hw : cW K.2.1 ix y cc nL rt n) (hi : Cond.instanceMethod y ∈ tB) (hse : Cond.selects C y y ∈ tB) (ho : oB a ci fs) (hc : vwCl[ci]? = some (C, T, N)) (hdp : d + 1 ≤ K.2.2.2.2.2) (hn : As.length = n) (hst : st = As.reverse ++ .ref (vB V + a) :: rest) (hca : (rest.map fun v => v.category).sum ≤ 8) (hd : decode K.1 pc = .ok (.invokevirtual ix, 3))
    (k : gG V K (pc + 3) ls (.ref x :: rest) (hS m2) r h') : gG V K pc ls st (hS m) r h' := g_callV hE hw hi hse ho.2 ho.1 hc hdp hn hst hca hd k
theorem p_callS {v : Int32} {h : aH} (hE : eE V d y cc nL rt As h (some (.int v)) (hS m2)) (hw : cW K.2.1 ix y cc nL rt n) (hi : Cond.static y ∈ tB) (hdp : d + 1 ≤ K.2.2.2.2.2) (hn : As.length = n) (hst : st = As.reverse ++ rest) (hca : (rest.map fun v => v.category).sum ≤ 8) (hd : decode K.1 pc = .ok (.invokestatic ix, 3))
    (k : gG V K (pc + 3) ls (.int v :: rest) (hS m2) r h') : gG V K pc ls st h r h' := g_callS hE hw hi hdp hn hst hca hd k
theorem p_callSv (hE : eE V d y cc nL rt As (hS m) none (hS m2)) (hw : cW K.2.1 ix y cc nL rt n) (hi : Cond.static y ∈ tB) (hdp : d + 1 ≤ K.2.2.2.2.2) (hn : As.length = n) (hst : st = As.reverse ++ rest) (hca : (rest.map fun v => v.category).sum ≤ 8) (hd : decode K.1 pc = .ok (.invokestatic ix, 3))
    (k : gG V K (pc + 3) ls rest (hS m2) r h') : gG V K pc ls st (hS m) r h' := g_callS hE hw hi hdp hn hst hca hd k
theorem p_callSN {v : Int32} {host : String} (hE : eE V d y cc nL rt As (hS m) (some (.int v)) (hS m2)) (hw : cWN K.2.1 ix y host cc nL rt n) (hi : Cond.static y ∈ tB) (hdp : d + 1 ≤ K.2.2.2.2.2) (hn : As.length = n) (hst : st = As.reverse ++ rest) (hca : (rest.map fun v => v.category).sum ≤ 8) (hd : decode K.1 pc = .ok (.invokestatic ix, 3))
    (k : gG V K (pc + 3) ls (.int v :: rest) (hS m2) r h') : gG V K pc ls st (hS m) r h' := g_callSN hE hw hi hdp hn hst hca hd k
theorem p_copy {a0 a n0' n1 : Nat} {n : Int32} {N : Nat} (hl : Cond.methodLink K.2.1 ix arraycopyName ∈ tB) (hnat : Cond.native arraycopyName ∈ tB) (hstat : Cond.static arraycopyName ∈ tB) (hini : Cond.initialized "java/lang/System" ∈ tB) (hd : decode K.1 pc = .ok (.invokestatic ix, 3)) (hdp : 1 ≤ K.2.2.2.2.2) (ha0 : aT a0 n0') (ha : aT a n1) (h3 : ¬ n < 0) (hN : n.toNatClampNeg = N) (h4 : N ≤ n0') (h5 : N ≤ n1) (hca : (st.map fun v => v.category).sum ≤ 8)
    (k : gG V K (pc + 3) ls st (hS (m_cpy m a0 a N)) r h') : gG V K pc ls (.int n :: .int 0 :: .ref (vB V + a) :: .int 0 :: .ref (vB V + a0) :: st) (hS m) r h' := g_copy hl hnat hstat hini hd hdp ha0.2 ha0.1 ha.2 ha.1 h3 hN h4 h5 hca k
theorem p_slen {i : Nat} {v : Int32} (e : stL i = some v) (hw : cW K.2.1 ix yJ0_length_8abf5 cJ0_length_8abf5 1 (some .int) 0) (hi : Cond.instanceMethod yJ0_length_8abf5 ∈ tB) (hse : Cond.selects "java/lang/String" yJ0_length_8abf5 yJ0_length_8abf5 ∈ tB) (hdp : 1 + 1 ≤ K.2.2.2.2.2) (hca : (rest.map fun v => v.category).sum ≤ 8) (hd : decode K.1 pc = .ok (.invokevirtual ix, 3))
    (k : gG V K (pc + 3) ls (.int v :: rest) (hS m) r h') : gG V K pc ls (.ref (vK V i) :: rest) (hS m) r h' := by
  unfold stL at e
  split at e
  · rename_i h4
    cases e
    exact g_callT (As := []) (rest := rest) h4 (j_length h4) hw hi hse hdp rfl rfl hca hd k
  · cases e
theorem p_schar {i : Nat} {x v : Int32} (e : stC i x = some v) (hw : cW K.2.1 ix yJ0_charAt_5068e cJ0_charAt_5068e 2 (some .char) 1) (hi : Cond.instanceMethod yJ0_charAt_5068e ∈ tB) (hse : Cond.selects "java/lang/String" yJ0_charAt_5068e yJ0_charAt_5068e ∈ tB) (hdp : 3 + 1 ≤ K.2.2.2.2.2) (hca : (rest.map fun v => v.category).sum ≤ 8) (hd : decode K.1 pc = .ok (.invokevirtual ix, 3))
    (k : gG V K (pc + 3) ls (.int v :: rest) (hS m) r h') : gG V K pc ls (.int x :: .ref (vK V i) :: rest) (hS m) r h' := by
  unfold stC at e
  split at e
  · rename_i h4
    cases e
    exact g_callT (As := [.int x]) (rest := rest) h4.1 (j_charAt h4.1 h4.2) hw hi hse hdp rfl rfl hca hd k
  · cases e
theorem p_sidx {x : Int32} (hw : cW K.2.1 ix yJ0_indexOf_0f7a4 cJ0_indexOf_0f7a4 2 (some .int) 1) (hi : Cond.instanceMethod yJ0_indexOf_0f7a4 ∈ tB) (hse : Cond.selects "java/lang/String" yJ0_indexOf_0f7a4 yJ0_indexOf_0f7a4 ∈ tB) (hdp : 3 + 1 ≤ K.2.2.2.2.2) (hca : (rest.map fun v => v.category).sum ≤ 8) (hd : decode K.1 pc = .ok (.invokevirtual ix, 3))
    (k : gG V K (pc + 3) ls (.int (ixK x) :: rest) (hS m) r h') : gG V K pc ls (.int x :: .ref (vK V 3) :: rest) (hS m) r h' :=
  g_callT (i := 3) (As := [.int x]) (rest := rest) (by decide) (j_indexOf x) hw hi hse hdp rfl rfl hca hd k
end RowsC
theorem sw_out {x : Int32} {lo hi : Int} (h : ∀ z : Int, lo ≤ z → z ≤ hi → ¬ x = Int32.ofInt z) : x.toInt < lo ∨ hi < x.toInt := by
  by_cases h1 : x.toInt < lo
  · exact Or.inl h1
  · by_cases h2 : hi < x.toInt
    · exact Or.inr h2
    · exact absurd (by rw [Int32.ofInt_toInt]) (h x.toInt (by omega) (by omega))
theorem ora_r {α β γ : Type} {g : α → Option γ} {f : β → Option γ} {b : β} {q : γ} (h : ora (.inr b) g f = some q) : f b = some q := h
theorem ora_l {α β γ : Type} {g : α → Option γ} {f : β → Option γ} {a : α} {q : γ} (h : ora (.inl a) g f = some q) : g a = some q := h
