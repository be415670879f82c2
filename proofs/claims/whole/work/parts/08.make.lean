/-! making cells; copying; what lies outside -/
def m_cpy (m : mM) (a0 a n : Nat) : mM := fun b j => if b = a ∧ j < n then m a0 j else m b j
section Rows8
variable {V : eV} {K : kX} {pc d : Nat} {ls : List (Nat × Value)} {st rest As : List Value} {h h1 h' : aH} {r r1 : Option Value} {ix : Nat}
theorem g_newa {n : Int32} {N : Nat} (harr : Cond.arrayClass .int ∈ tB) (hd : decode K.1 pc = .ok (.newarray .int, 2)) (hn : ¬ n < 0) (hN : n.toNatClampNeg = N) (hb : N * 4 ≤ 536870912)
    (k : gG V K (pc + 2) ls (.ref (vB V + h.1) :: st) (h.1 + 1, h.2.1 + N, s_up h.2.2.1 h.1 (.inl N), m_clr h.2.2.2 h.1) r h') : gG V K pc ls (.int n :: st) h r h' := by
  have c3 : h.1 + 1 ≤ h'.1 := k.1.1
  have c4 : h.2.1 + N ≤ h'.2.1 := k.1.2
  refine ⟨⟨by omega, by omega⟩, fun p e R s m args below meth c H locs lsA Q n0 u0 C0 a1 a2 a3 a4 hM hS hL hk => ?_⟩
  have hts := C0.2.2.2.2.2.2.2.1
  have hRA : s.vm.findClass ("[" ++ (FieldType.int).toString) = some (vI V) := (C0.2.2.2.2.2.2.2.2.1.1.2 0 _ rfl).2
  refine W.newa C0.1 C0.2.1 (atype := .int) (hts _ harr) rfl hd rfl hn (by rw [hN]; exact hb) (by omega) (by rw [hN]; omega) fun cA kA comp q1 q2 q3 => ?_
  have eA : cA = vI V := Option.some.inj (q1.symm.trans hRA)
  subst eA
  rw [hN, arrV_new]
  have e1 : h.1 - n0 + 1 = h.1 + 1 - n0 := by omega
  have e2 : h.2.1 - u0 + N = h.2.1 + N - u0 := by omega
  have hz := hM.1
  show W p (vL V) e R s m args below meth c _ locs _ _ Q (F0 m (pc + 2) lsA (.ref H.size :: st))
  rw [e1, e2, hz]
  refine k.2 p e R s m args below meth c _ locs lsA Q n0 u0 C0 (by show n0 ≤ h.1 + 1; omega) (by show u0 ≤ h.2.1 + N; omega) a3 a4 (mT_push hM (by simp) (fun q hq => by rw [Array.getElem?_push, if_neg (Nat.ne_of_lt hq)]) rfl (fun b hb => if_neg (by omega)) (fun b hb => by funext j; exact if_neg (by omega)) ?_) ⟨by simp; exact Nat.le_succ_of_le hS.1, fun q g1 g2 => ?_, hS.2.2⟩ hL hk
  · unfold c_A
    simp only [s_up, if_true]
    rw [← hz]
    simp [m_clr, defaultValue, newarray.typeOf]
  · rw [Array.getElem?_push, if_neg (Nat.ne_of_lt (Nat.lt_of_lt_of_le g1 hS.1))]
    exact hS.2.1 q g1 g2
theorem g_new {ci N : Nat} {C : String} {T : u_T} {ty0 : Nat → FieldType} {fs : List Nat} (hcl : Cond.classLink K.2.1 ix C ∈ tB) (hin : Cond.instantiable C N ∈ tB) (hini : Cond.initialized C ∈ tB) (hd : decode K.1 pc = .ok (.new ix, 3)) (hc : vwCl[ci]? = some (C, T, N)) (hws : ∀ w ∈ u_ws C T N, w ∈ tB) (hty : ∀ k, k < N → parseFieldDescriptor (T k).2.2.1 = some (ty0 k)) (hfs : ∀ j, j < N → defaultValue (ty0 j) = f_v 0 (fun _ _ => 0) 0 j (fs.getD j 0)) (hle : ∀ j, j < N → fs.getD j 0 ≤ 1)
    (k : gG V K (pc + 3) ls (.ref (vB V + h.1) :: st) (h.1 + 1, h.2.1 + N, s_up h.2.2.1 h.1 (.inr (.inr (ci, fs))), m_clr h.2.2.2 h.1) r h') : gG V K pc ls st h r h' := by
  have c3 : h.1 + 1 ≤ h'.1 := k.1.1
  have c4 : h.2.1 + N ≤ h'.2.1 := k.1.2
  refine ⟨⟨by omega, by omega⟩, fun p e R s m args below meth c H locs lsA Q n0 u0 C0 a1 a2 a3 a4 hM hS hL hk => ?_⟩
  have hts := C0.2.2.2.2.2.2.2.1
  have hK := C0.2.2.2.2.2.2.2.2.1.1
  have hKn := hK.1 ci _ hc
  have hz := hM.1
  refine W.newcK C0.1 C0.2.1 C0.2.2.2.2.2.2.1 (hts _ hcl) (hts _ hin) (hts _ hini) rfl hd (by omega) (by omega) hKn.2.1 hz fun H1 kC hkC e1 z1 o1 => ?_
  have g1 : h.1 - n0 + 1 = h.1 + 1 - n0 := by omega
  have g2 : h.2.1 - u0 + N = h.2.1 + N - u0 := by omega
  show W p (vL V) e R s m args below meth c _ locs _ _ Q (F0 m (pc + 3) lsA (.ref (vB V + h.1) :: st))
  rw [g1, g2]
  refine k.2 p e R s m args below meth c _ locs lsA Q n0 u0 C0 (by show n0 ≤ h.1 + 1; omega) (by show u0 ≤ h.2.1 + N; omega) a3 a4 (mT_push hM (by rw [z1, hz]) (fun q hq => o1 q (by rw [hz] at hq; exact hq)) rfl (fun b hb => if_neg (by omega)) (fun b hb => by funext j; exact if_neg (by omega)) ?_) ⟨by rw [z1]; have := hS.1; omega, fun q q1 q2 => ?_, hS.2.2⟩ hL hk
  · unfold c_A
    simp only [s_up, if_true]
    refine ⟨_, hc, ?_⟩
    have hob := u_born ty0 hts hws hKn hkC e1 hty
    refine hob.to fun j hj => ?_
    rw [hfs j hj]
    have := hle j hj
    generalize fs.getD j 0 = z at this
    match z, this with
    | 0, _ => simp [f_v, m_clr]
    | 1, _ => simp [f_v]
  · rw [o1 q (Nat.lt_of_lt_of_le q1 (by have := hS.1; omega))]
    exact hS.2.1 q q1 q2
/-- System.arraycopy of the first n places -/
theorem g_copy {a0 a n0' n1 : Nat} {n : Int32} {N : Nat} (hl : Cond.methodLink K.2.1 ix arraycopyName ∈ tB) (hnat : Cond.native arraycopyName ∈ tB) (hstat : Cond.static arraycopyName ∈ tB) (hini : Cond.initialized "java/lang/System" ∈ tB) (hd : decode K.1 pc = .ok (.invokestatic ix, 3)) (hdp : 1 ≤ K.2.2.2.2.2) (ha0 : a0 < h.1) (hs0 : h.2.2.1 a0 = .inl n0') (ha : a < h.1) (hs : h.2.2.1 a = .inl n1) (h3 : ¬ n < 0) (hN : n.toNatClampNeg = N) (h4 : N ≤ n0') (h5 : N ≤ n1) (hca : (st.map fun v => v.category).sum ≤ 8)
    (k : gG V K (pc + 3) ls st (h.1, h.2.1, h.2.2.1, m_cpy h.2.2.2 a0 a N) r h') : gG V K pc ls (.int n :: .int 0 :: .ref (vB V + a) :: .int 0 :: .ref (vB V + a0) :: st) h r h' := by
  refine ⟨k.1, fun p e R s m args below meth c H locs lsA Q n0 u0 C0 a1 a2 a3 a4 hM hS hL hk => ?_⟩
  have hts := C0.2.2.2.2.2.2.2.1
  have b1 := C0.2.2.2.2.2.2.2.2.2.1
  have b2 := C0.2.2.2.2.2.2.2.2.2.2.1
  have hK := C0.2.2.2.2.2.2.2.2.1.1
  subst hN
  have nn : ∀ z : Int32, ¬ z < 0 → z.toInt = (z.toNatClampNeg : Int) := by
    intro z hz
    have hz0 : (0 : Int) ≤ z.toInt := by
      have := Int32.not_lt.mp hz
      simpa using Int32.le_iff_toInt_le.mp this
    show z.toInt = ((z.toInt.toNat : Nat) : Int)
    omega
  have z0 : ((0 : Int32)).toNatClampNeg = 0 := rfl
  have nf : nativeFrameWords "java/lang/System" "arraycopy" 5 + 11 ≤ 50 := by decide
  intro T hT X
  have hc0 : H[vB V + a0]? = some (vp_cell (vI V) (n0', .inl (h.2.2.2 a0))) := mT_arr hM ha0 hs0
  have hc1 : H[vB V + a]? = some (vp_cell (vI V) (n1, .inl (h.2.2.2 a))) := mT_arr hM ha hs
  obtain ⟨-, k0, hk0, cm0, hkk0⟩ := (hK.2 0 _ rfl).1 n0' (fun j => .int (h.2.2.2 a0 j))
  obtain ⟨-, k1, hk1, cm1, hkk1⟩ := (hK.2 0 _ rfl).1 n1 (fun j => .int (h.2.2.2 a j))
  obtain ⟨vm', X', step⟩ := X.arraycopy C0.1 C0.2.2.2.2.2.2.1 (hts _ hl) (hts _ hnat) (hts _ hstat) (hts _ hini) (src := vB V + a0) (dst := vB V + a) (cs := vp_cell (vI V) (n0', .inl (h.2.2.2 a0))) (cd := vp_cell (vI V) (n1, .inl (h.2.2.2 a))) (srcPos := 0) (destPos := 0) (n := n) (by rw [hT]; exact hc0) (by rw [hT]; exact hc1)
    (fun _ h => by cases h) (fun _ h => by cases h) (fun h => by cases h) (fun h => by cases h) hk0 hk1 hkk0 hkk1 (by simp [refKind]) (by decide) (by decide) h3
    (by rw [nn n h3]; show ¬ _ > ((arrV (vI V) n0' (fun j => .int (h.2.2.2 a0 j))).slots.size : Int); rw [arrV_size]; show ¬ (0 : Int) + _ > _; omega)
    (by rw [nn n h3]; show ¬ _ > ((arrV (vI V) n1 (fun j => .int (h.2.2.2 a j))).slots.size : Int); rw [arrV_size]; show ¬ (0 : Int) + _ > _; omega)
    (fun vm₁ _ i hi => by
      have e : (vp_cell (vI V) (n0', .inl (h.2.2.2 a0))).slots.getD ((0 : Int32).toNatClampNeg + i) .null = .int (h.2.2.2 a0 ((0 : Int32).toNatClampNeg + i)) := by
        show (arrV (vI V) n0' (fun j => .int (h.2.2.2 a0 j))).slots.getD _ _ = _
        rw [Array.getD_eq_getD_getElem?, arrV_read _ _ (by rw [z0]; omega)]
        rfl
      refine ⟨?_, ?_⟩
      · rw [e]
        rfl
      · rw [e]
        exact trivial)
    (g := F0 m pc lsA (.int n :: .int 0 :: .ref (vB V + a) :: .int 0 :: .ref (vB V + a0) :: st)) rfl (by show lsA.size = _; rw [hL.1, C0.2.2.1]) (rest := st) rfl (by rw [C0.2.1]; exact hd) (by omega) (by show 2 * 0 + _ + (nativeFrameWords "java/lang/System" "arraycopy" 5 + 11) ≤ _; omega)
  have e1 : copied (vp_cell (vI V) (n0', .inl (h.2.2.2 a0))) (vp_cell (vI V) (n1, .inl (h.2.2.2 a))) 0 0 n = vp_cell (vI V) (n1, .inl (va_cpy (h.2.2.2 a0) (h.2.2.2 a) (0 : Int32).toNatClampNeg (0 : Int32).toNatClampNeg n.toNatClampNeg)) := va_copied (fun z => .int z) (vI V) (vI V) (h.2.2.2 a0) (h.2.2.2 a) (by rw [z0]; omega)
  rw [e1] at X' step
  have hl : vB V + a < H.size := (Array.getElem?_eq_some_iff.mp hc1).1
  generalize hG : vp_cell (vI V) (n1, .inl (va_cpy (h.2.2.2 a0) (h.2.2.2 a) (0 : Int32).toNatClampNeg (0 : Int32).toNatClampNeg n.toNatClampNeg)) = cl at X' step
  have hheap : ((T.setVm vm').setCell (vB V + a) cl).heap = H.setIfInBounds (vB V + a) cl := by rw [← hT]; rfl
  have oq : ∀ q : Nat, q ≠ vB V + a → (H.setIfInBounds (vB V + a) cl)[q]? = H[q]? := fun q hq => by simp [Array.getElem?_setIfInBounds, Ne.symm hq]
  obtain ⟨t, x1, x2⟩ := k.2 p e R s m args below meth c _ _ lsA Q n0 u0 C0 a1 a2 a3 a4 (mT_kept hM a (H1 := H.setIfInBounds (vB V + a) cl) (by simp) oq rfl (fun _ _ => rfl) (fun b hb => by funext j; exact if_neg (fun q => hb q.1)) (fun _ => by
      unfold c_A
      simp only [hs]
      rw [Array.getElem?_setIfInBounds]
      simp only [if_true, hl, ← hG]
      rw [vp_cell_i]
      congr 2
      funext j
      simp only [va_cpy, m_cpy, z0]
      by_cases hj : j < n.toNatClampNeg
      · simp [hj]
      · simp [hj])) ⟨by simp; exact hS.1, fun q g1 g2 => by
      rw [oq q (fun e => g2 (by rw [e]; show vB V ≤ vB V + a; omega))]
      exact hS.2.1 q g1 g2, fun q hq => by
      rcases List.mem_append.mp hq with h | h
      · exact hS.2.2 q h
      · obtain ⟨z, -, hz⟩ := List.mem_map.mp h
        rw [← hz]
        show vB V ≤ vB V + a
        omega⟩ hL hk _ hheap X'
  exact ⟨t, step t x1, x2⟩
end Rows8
