/-! rows over the abstract heap, the contract eE, calls -/
theorem mT_kept {V : eV} {h h2 : aH} {H H1 : Heap} (hM : mT V h H) (a : Nat) (hz : H1.size = H.size) (ho : ∀ q : Nat, q ≠ vB V + a → H1[q]? = H[q]?) (h1 : h2.1 = h.1) (hs : ∀ b, b ≠ a → h2.2.2.1 b = h.2.2.1 b) (hm : ∀ b, b ≠ a → h2.2.2.2 b = h.2.2.2 b) (hc : a < h.1 → c_A V h2 a H1) : mT V h2 H1 := by
  obtain ⟨m1, m2, m3⟩ := hM
  refine ⟨by rw [hz, h1]; exact m1, fun q hq => by rw [ho q (by omega)]; exact m2 q hq, fun b hb => ?_⟩
  rw [h1] at hb
  by_cases e : b = a
  · subst e; exact hc hb
  · have h3 := m3 b hb
    have ne : vB V + b ≠ vB V + a := by omega
    unfold c_A at h3 ⊢
    rw [hs b e]
    cases hsb : h.2.2.1 b with
    | inl n => rw [hsb] at h3; simp only at h3 ⊢; rw [ho _ ne, hm b e]; exact h3
    | inr x =>
      cases x with
      | inl y => rw [hsb] at h3; simp only at h3 ⊢; rw [ho _ ne]; exact h3
      | inr y =>
        rw [hsb] at h3; simp only at h3 ⊢
        obtain ⟨q, q1, q2⟩ := h3
        refine ⟨q, q1, (q2.kept (ho _ ne)).to fun k _ => ?_⟩
        unfold f_v
        rw [hm b e]
/-- a cell more -/
theorem mT_push {V : eV} {h h2 : aH} {H H1 : Heap} (hM : mT V h H) (hz : H1.size = H.size + 1) (ho : ∀ q : Nat, q < H.size → H1[q]? = H[q]?) (h1 : h2.1 = h.1 + 1) (hs : ∀ b, b < h.1 → h2.2.2.1 b = h.2.2.1 b) (hm : ∀ b, b < h.1 → h2.2.2.2 b = h.2.2.2 b) (hc : c_A V h2 h.1 H1) : mT V h2 H1 := by
  obtain ⟨m1, m2, m3⟩ := hM
  refine ⟨by rw [hz, h1, m1]; omega, fun q hq => by rw [ho q (by omega)]; exact m2 q hq, fun b hb => ?_⟩
  rw [h1] at hb
  by_cases e : b = h.1
  · subst e; exact hc
  · have hb2 : b < h.1 := by omega
    have h3 := m3 b hb2
    have ne : vB V + b < H.size := by omega
    unfold c_A at h3 ⊢
    rw [hs b hb2]
    cases hsb : h.2.2.1 b with
    | inl n => rw [hsb] at h3; simp only at h3 ⊢; rw [ho _ ne, hm b hb2]; exact h3
    | inr x =>
      cases x with
      | inl y => rw [hsb] at h3; simp only at h3 ⊢; rw [ho _ ne]; exact h3
      | inr y =>
        rw [hsb] at h3; simp only at h3 ⊢
        obtain ⟨q, q1, q2⟩ := h3
        refine ⟨q, q1, (q2.kept (ho _ ne)).to fun k _ => ?_⟩
        unfold f_v
        rw [hm b hb2]
theorem mT_arr {V : eV} {h : aH} {H : Heap} {a n : Nat} (hM : mT V h H) (ha : a < h.1) (hs : h.2.2.1 a = .inl n) : H[vB V + a]? = some (arrV (vI V) n (fun j => .int (h.2.2.2 a j))) := by
  have := hM.2.2 a ha
  unfold c_A at this
  rw [hs] at this
  exact this
theorem mT_rows {V : eV} {h : aH} {H : Heap} {a n r : Nat} (hM : mT V h H) (ha : a < h.1) (hs : h.2.2.1 a = .inr (.inl (n, r))) : H[vB V + a]? = some (arrV (vJ V) n (fun j => .ref (vB V + (r + j)))) := by
  have := hM.2.2 a ha
  unfold c_A at this
  rw [hs] at this
  exact this
theorem mT_obj {V : eV} {h : aH} {H : Heap} {a ci : Nat} {fs : List Nat} (hM : mT V h H) (ha : a < h.1) (hs : h.2.2.1 a = .inr (.inr (ci, fs))) : ∃ q : vw_C, vwCl[ci]? = some q ∧ t_OB (vB V + a) ((vD V).1 ci) q.2.2 ((vD V).2 ci) H (fun k => f_v (vB V) h.2.2.2 a k (fs.getD k 0)) := by
  have := hM.2.2 a ha
  unfold c_A at this
  rw [hs] at this
  exact this
theorem vA_S {V : eV} {H0 H H1 : Heap} {locs : List Loc} {a k : Nat} (hS : va_S (vA V) H0 H locs) (z : H1.size = H.size) (oq : ∀ q : Nat, q ≠ vB V + a → H1[q]? = H[q]?) : va_S (vA V) H0 H1 (locs ++ [⟨vB V + a, k⟩]) := hS.put z oq (show vB V ≤ vB V + a by omega)
section RowsH
variable {V : eV} {K : kX} {pc pc' : Nat} {ls ls' : List (Nat × Value)} {st st' : List Value} {h h1 h' : aH} {r : Option Value}
theorem g_iald {a n : Nat} {i : Int32} (hd : decode K.1 pc = .ok (.iaload, 1)) (ha : a < h.1) (hs : h.2.2.1 a = .inl n) (hi : vp_in i n) (k : gG V K (pc + 1) ls (.int (h.2.2.2 a i.toNatClampNeg) :: st) h r h') : gG V K pc ls (.int i :: .ref (vB V + a) :: st) h r h' :=
  ⟨k.1, fun p e R s m args below meth c H locs lsA Q n0 u0 C a1 a2 a3 a4 hM hS hl hk => by
    have hlt : i.toNatClampNeg < n := Nat.not_le.mp fun q => hi (Or.inr q)
    exact W.iald (v := .int (h.2.2.2 a i.toNatClampNeg)) C.1 C.2.1 (mT_arr hM ha hs) ((C.2.2.2.2.2.2.2.2.1.1.2 0 _ rfl).1 n _) (fun q => by cases q) (by rw [arrV_size]; exact hi) (by rw [arrV_read _ _ hlt]) rfl rfl hd (k.2 p e R s m args below meth c H locs lsA Q n0 u0 C a1 a2 a3 a4 hM hS hl hk)⟩
theorem g_alen {a n : Nat} {v : Int32} (hd : decode K.1 pc = .ok (.arraylength, 1)) (ha : a < h.1) (hs : h.2.2.1 a = .inl n) (hv : Int32.ofNat n = v) (k : gG V K (pc + 1) ls (.int v :: st) h r h') : gG V K pc ls (.ref (vB V + a) :: st) h r h' :=
  ⟨k.1, fun p e R s m args below meth c H locs lsA Q n0 u0 C a1 a2 a3 a4 hM hS hl hk => by
    refine W.alen (n := v) C.1 C.2.1 (mT_arr hM ha hs) ((C.2.2.2.2.2.2.2.2.1.1.2 0 _ rfl).1 n _) (by rw [arrV_size]; exact hv) rfl rfl hd (k.2 p e R s m args below meth c H locs lsA Q n0 u0 C a1 a2 a3 a4 hM hS hl hk)⟩
theorem g_aald {a n f : Nat} {i : Int32} (hd : decode K.1 pc = .ok (.aaload, 1)) (ha : a < h.1) (hs : h.2.2.1 a = .inr (.inl (n, f))) (hi : vp_in i n) (k : gG V K (pc + 1) ls (.ref (vB V + (f + i.toNatClampNeg)) :: st) h r h') : gG V K pc ls (.int i :: .ref (vB V + a) :: st) h r h' :=
  ⟨k.1, fun p e R s m args below meth c H locs lsA Q n0 u0 C a1 a2 a3 a4 hM hS hl hk => by
    have hlt : i.toNatClampNeg < n := Nat.not_le.mp fun q => hi (Or.inr q)
    exact W.aald (v := .ref (vB V + (f + i.toNatClampNeg))) (ty := .array .int) C.1 C.2.1 (mT_rows hM ha hs) ((C.2.2.2.2.2.2.2.2.1.1.2 1 _ rfl).1 n _) rfl (fun q => by cases q) (by rw [arrV_size]; exact hi) (by rw [arrV_read _ _ hlt]) rfl rfl hd (k.2 p e R s m args below meth c H locs lsA Q n0 u0 C a1 a2 a3 a4 hM hS hl hk)⟩
theorem g_iast {a n : Nat} {i x : Int32} (hd : decode K.1 pc = .ok (.iastore, 1)) (ha : a < h.1) (hs : h.2.2.1 a = .inl n) (hi : vp_in i n) (k : gG V K (pc + 1) ls st (h.1, h.2.1, h.2.2.1, m_up h.2.2.2 a i.toNatClampNeg x) r h') : gG V K pc ls (.int x :: .int i :: .ref (vB V + a) :: st) h r h' :=
  ⟨k.1, fun p e R s m args below meth c H locs lsA Q n0 u0 C a1 a2 a3 a4 hM hS hl hk => by
    refine W.iast C.1 C.2.1 (mT_arr hM ha hs) ((C.2.2.2.2.2.2.2.2.1.1.2 0 _ rfl).1 n _) (fun q => by cases q) (by rw [arrV_size]; exact hi) rfl rfl hd fun H1 e1 z oq => ?_
    refine k.2 p e R s m args below meth c H1 _ lsA Q n0 u0 C a1 a2 a3 a4 (mT_kept hM a z oq rfl (fun _ _ => rfl) (fun b hb => by funext j; exact m_up_na hb) (fun _ => ?_)) (vA_S hS z oq) hl hk
    unfold c_A
    simp only [hs]
    rw [e1, arrV_store]
    congr 2
    funext j
    by_cases hj : j = i.toNatClampNeg
    · subst hj; simp [updV, m_up]
    · simp [updV, m_up, hj]⟩
theorem g_get {a ci k : Nat} {fs : List Nat} {T : u_T} {N : Nat} {C : String} {ix : Nat} {v : Value} (hd : decode K.1 pc = .ok (.getfield ix, 3)) (ha : a < h.1) (hs : h.2.2.1 a = .inr (.inr (ci, fs))) (hc : vwCl[ci]? = some (C, T, N)) (hk : k < N) (hin : ∀ w ∈ u_ws C T N, w ∈ tB) (hl : Cond.fieldLink K.2.1 ix (T k).1 (T k).2.1 (T k).2.2.1 ∈ tB) (hv : f_v (vB V) h.2.2.2 a k (fs.getD k 0) = v)
    (kk : gG V K (pc + 3) ls (v :: st) h r h') : gG V K pc ls (.ref (vB V + a) :: st) h r h' :=
  ⟨kk.1, fun p e R s m args below meth c H locs lsA Q n0 u0 C0 a1 a2 a3 a4 hM hS hL hkk => by
    obtain ⟨q, h1, cell, q1, q2, q3, q4⟩ := mT_obj hM ha hs
    have hr : q = (C, T, N) := Option.some.inj (h1.symm.trans hc)
    subst hr
    have hts := C0.2.2.2.2.2.2.2.1
    obtain ⟨hSl, hfc, kC, hkC, hkind⟩ := C0.2.2.2.2.2.2.2.2.1.1.1 ci _ hc
    obtain ⟨cf, kf, fi, f, hi, hsl⟩ := hSl k hk
    refine W.getf C0.1 C0.2.1 C0.2.2.2.2.2.2.1 (hts _ hl) hi (u_facts hfc hkC (u_lays hts hin hk) hi).1 q1 (by rw [q3]; exact fun h => by cases h) (v := v) ?_ rfl rfl hd (kk.2 p e R s m args below meth c H locs lsA Q n0 u0 C0 a1 a2 a3 a4 hM hS hL hkk)
    rw [hsl, q4 k hk]
    exact congrArg some hv⟩
theorem fs_upd {fs : List Nat} {k z : Nat} (hk : k < fs.length) (j : Nat) : (fs.set k z).getD j 0 = if j = k then z else fs.getD j 0 := by
  simp only [List.getD_eq_getElem?_getD, List.getElem?_set]
  by_cases e : j = k
  · subst e; simp [hk]
  · simp [e, Ne.symm e]
/-- what a store into a field makes of the heap -/
def h_put (h : aH) (a ci k : Nat) (fs : List Nat) (v : Int32) : aH := (h.1, h.2.1, h.2.2.1, m_up h.2.2.2 a k v)
theorem g_putI {a ci k : Nat} {fs : List Nat} {T : u_T} {N : Nat} {C : String} {ix : Nat} {v : Int32} {ty : FieldType} (ty0 : Nat → FieldType) (hd : decode K.1 pc = .ok (.putfield ix, 3)) (ha : a < h.1) (hs : h.2.2.1 a = .inr (.inr (ci, fs))) (hc : vwCl[ci]? = some (C, T, N)) (hk : k < N) (hin : ∀ w ∈ u_ws C T N, w ∈ tB) (hty : ∀ k, k < N → parseFieldDescriptor (T k).2.2.1 = some (ty0 k)) (hnm : ∀ a, a < N → ∀ b, b < N → a ≠ b → (T a).2.1 ≠ (T b).2.1) (hl : Cond.fieldLink K.2.1 ix (T k).1 (T k).2.1 (T k).2.2.1 ∈ tB) (hfin : (T k).2.2.2 = false) (hz : fs.getD k 0 = 0) (hd2 : parseFieldDescriptor (T k).2.2.1 = some ty) (hn : narrow ty (.int v) = .int v) (hfit : fits ty (.int v) = true)
    (kk : gG V K (pc + 3) ls st (h.1, h.2.1, h.2.2.1, m_up h.2.2.2 a k v) r h') : gG V K pc ls (.int v :: .ref (vB V + a) :: st) h r h' :=
  ⟨kk.1, fun p e R s m args below meth c H locs lsA Q n0 u0 C0 a1 a2 a3 a4 hM hS hL hkk => by
    obtain ⟨q, h1, cell, q1, q2, q3, q4⟩ := mT_obj hM ha hs
    have hr : q = (C, T, N) := Option.some.inj (h1.symm.trans hc)
    subst hr
    have hts := C0.2.2.2.2.2.2.2.1
    have hap := va_apart (own := K.2.1) hts hin ty0 hty hnm C0.2.2.2.2.2.2.2.2.1.1 hc
    obtain ⟨hSl, hfc, kC, hkC, hkind⟩ := C0.2.2.2.2.2.2.2.2.1.1.1 ci _ hc
    obtain ⟨cf, kf, fi, f, hi, hsl⟩ := hSl k hk
    have hlay := hts _ (hin _ (u_in_lay hk))
    unfold u_lay at hlay
    rw [if_neg (by rw [hfin]; decide)] at hlay
    have hst := (u_facts hfc hkC (u_lays hts hin hk) hi).1
    have h6 := u_store hfc hkC hkind hlay hi hd2 hn hfit
    refine W.putK C0.1 C0.2.1 (f := f) ⟨C0.2.2.2.2.2.2.1, hts _ hl, ⟨_, _, _, hi⟩, hst⟩ (by rw [q2]; exact h6) q1 q3 (by rw [hsl]; exact k2_hasslot (q4 k hk)) rfl rfl hd fun H' e1 e2 e3 => ?_
    rw [hsl] at e1 ⊢
    refine kk.2 p e R s m args below meth c H' _ lsA Q n0 u0 C0 a1 a2 a3 a4 (mT_kept hM a e2 e3 rfl (fun _ _ => rfl) (fun b hb => by funext j; exact m_up_na hb) (fun _ => ?_)) (vA_S hS e2 e3) hL hkk
    unfold c_A
    simp only [hs]
    refine ⟨_, hc, t_OB.to (V := updV _ k (.int v)) ⟨_, e1, q2, q3, t_set q4 hap hk (.int v)⟩ (fun j _ => ?_)⟩
    by_cases ej : j = k
    · subst ej; simp only [updV, if_true, hz]; simp [f_v, m_up]
    · simp only [updV, if_neg ej]
      unfold f_v
      rw [m_up_ni ej]⟩
theorem g_putR {a ci k x : Nat} {fs : List Nat} {T : u_T} {N : Nat} {C : String} {ix : Nat} {ty : FieldType} (ty0 : Nat → FieldType) (hd : decode K.1 pc = .ok (.putfield ix, 3)) (ha : a < h.1) (hs : h.2.2.1 a = .inr (.inr (ci, fs))) (hc : vwCl[ci]? = some (C, T, N)) (hk : k < N) (hin : ∀ w ∈ u_ws C T N, w ∈ tB) (hty : ∀ k, k < N → parseFieldDescriptor (T k).2.2.1 = some (ty0 k)) (hnm : ∀ a, a < N → ∀ b, b < N → a ≠ b → (T a).2.1 ≠ (T b).2.1) (hl : Cond.fieldLink K.2.1 ix (T k).1 (T k).2.1 (T k).2.2.1 ∈ tB) (hfin : (T k).2.2.2 = true) (hnmK : K.2.2.1 = "<init>") (hdecl : (T k).1 = K.2.1) (hlen : k < fs.length) (hd2 : parseFieldDescriptor (T k).2.2.1 = some ty) (hn : narrow ty (.ref (vB V + x)) = .ref (vB V + x)) (hfit : fits ty (.ref (vB V + x)) = true)
    (kk : gG V K (pc + 3) ls st (h.1, h.2.1, s_up h.2.2.1 a (.inr (.inr (ci, fs.set k (x + 2)))), h.2.2.2) r h') : gG V K pc ls (.ref (vB V + x) :: .ref (vB V + a) :: st) h r h' :=
  ⟨kk.1, fun p e R s m args below meth c H locs lsA Q n0 u0 C0 a1 a2 a3 a4 hM hS hL hkk => by
    obtain ⟨q, h1, cell, q1, q2, q3, q4⟩ := mT_obj hM ha hs
    have hr : q = (C, T, N) := Option.some.inj (h1.symm.trans hc)
    subst hr
    have hts := C0.2.2.2.2.2.2.2.1
    have hap := va_apart (own := K.2.1) hts hin ty0 hty hnm C0.2.2.2.2.2.2.2.2.1.1 hc
    obtain ⟨hSl, hfc, kC, hkC, hkind⟩ := C0.2.2.2.2.2.2.2.2.1.1.1 ci _ hc
    obtain ⟨cf, kf, fi, f, hi, hsl⟩ := hSl k hk
    have hlay := hts _ (hin _ (u_in_lay hk))
    unfold u_lay at hlay
    rw [if_pos hfin] at hlay
    have hst := (u_facts hfc hkC (u_lays hts hin hk) hi).1
    have hcf : m.cls = cf := by
      obtain ⟨_, _, c', _, _, _, -, -, hf', -, -, -, hown2, -⟩ := Cond.laysFinal_spec hlay
      have e1 : c' = cf := by have := hi.symm.trans hf'; simp at this; exact this.1.symm
      rw [hdecl] at hown2
      rw [← e1]; exact Option.some.inj (C0.2.2.2.2.2.2.1.symm.trans hown2)
    have h6 := u_fits hfc hkC hkind (Or.inr hlay) hi hd2 hn hfit
    refine W.putFinK C0.1 C0.2.1 C0.2.2.2.2.2.2.1 (hts _ hl) hi hst hcf (C0.2.2.2.2.2.1.trans hnmK) (by rw [q2]; exact h6) q1 q3 (by rw [hsl]; exact k2_hasslot (q4 k hk)) rfl rfl hd fun H' e1 e2 e3 => ?_
    rw [hsl] at e1 ⊢
    refine kk.2 p e R s m args below meth c H' _ lsA Q n0 u0 C0 a1 a2 a3 a4 (mT_kept hM a e2 e3 rfl (fun b hb => if_neg hb) (fun b hb => rfl) (fun _ => ?_)) (vA_S hS e2 e3) hL hkk
    unfold c_A
    simp only [s_up, if_true]
    refine ⟨_, hc, t_OB.to (V := updV _ k (.ref (vB V + x))) ⟨_, e1, q2, q3, t_set q4 hap hk (.ref (vB V + x))⟩ (fun j _ => ?_)⟩
    rw [fs_upd hlen]
    by_cases ej : j = k
    · subst ej; simp only [updV, if_true]; simp [f_v]
    · simp only [updV, if_neg ej]⟩
/-- ends -/
theorem g_ret {pc : Nat} (hd : rT K pc r) (hst : st = r.toList) : gG V K pc ls st h r h := by
  subst hst
  exact ⟨⟨Nat.le_refl _, Nat.le_refl _⟩, fun p e R s m args below meth c H locs lsA Q n0 u0 C a1 a2 a3 a4 hM hS hl hk => hk H locs lsA pc hM hS hd⟩
theorem g_iret {v : Int32} (hd : decode K.1 pc = .ok (.ireturn, 1)) (ty : FieldType) (ht : K.2.2.2.1 = some ty) (hn : narrow ty (.int v) = .int v) : gG V K pc ls [.int v] h (some (.int v)) h := g_ret ⟨hd, ty, ht, hn⟩ rfl
theorem g_aret {a : Nat} (hd : decode K.1 pc = .ok (.areturn, 1)) (nm : String) (ht : K.2.2.2.1 = some (.object nm)) : gG V K pc ls [.ref a] h (some (.ref a)) h := g_ret ⟨hd, nm, ht⟩ rfl
theorem g_vret (hd : decode K.1 pc = .ok (.return_, 1)) (ht : K.2.2.2.1 = none) : gG V K pc ls [] h none h := g_ret ⟨hd, ht⟩ rfl
end RowsH
/-- THE CONTRACT: from the abstract heap h, with these arguments, the method answers r and leaves h' -/
def eE (V : eV) (d : Nat) (y : MethodName) (cc : ByteArray) (nL : Nat) (rt : Option FieldType) (av : List Value) (h : aH) (r : Option Value) (h' : aH) : Prop :=
  (h.1 ≤ h'.1 ∧ h.2.1 ≤ h'.2.1) ∧ Met (vL V) y (.code y cc nL rt :: tB) { frames := d, cells := h'.1 - h.1, slots := h'.2.1 - h.2.1, locals := 64 * d } (va_Pc av (fun U => wK V U ∧ mT V h U.heap)) (fun _ st o t => o = .returned r ∧ mT V h' t.heap ∧ va_F (vA V) st t) (h'.1 - h.1) (h'.2.1 - h.2.1) (vA V)
theorem eE_of {V : eV} {d : Nat} {y : MethodName} {cc : ByteArray} {nL : Nat} {rt : Option FieldType} {av : List Value} {h : aH} {r : Option Value} {h' : aH} (hy : plainName y.cls = true) (hn : (lg_sl av).length ≤ nL)
    (k : gG V (cc, y.cls, y.name, rt, nL, d) 0 (lv_args 0 av) [] h r h') : eE V d y cc nL rt av h r h' := by
  refine ⟨k.1, Met.ofW (cc := cc) (maxL := nL) (ret := rt) hy rfl ?_⟩
  intro p e s m args below meth c s₁ B hml hv
  obtain ⟨rfl, hwk, hM⟩ := hv
  have hts : ∀ w ∈ tB, w.before av.toArray s = true := fun w hw => atoms_spec (ws := .code y cc nL rt :: tB) B.pre w (List.mem_cons_of_mem _ hw)
  have hl := lv_entry av (n := nL) hn
  rw [lg_entry_eq]
  generalize (lg_sl av ++ List.replicate (nL - (lg_sl av).length) Slot.unset).toArray = lsA at hl ⊢
  have hlocks := B.notSynchronized
  have hC : cX V (cc, y.cls, y.name, rt, nL, d) p (headSpec (.code y cc nL rt :: tB) { frames := d, cells := h'.1 - h.1, slots := h'.2.1 - h.2.1, locals := 64 * d }).room s m av.toArray meth c :=
    ⟨B.exec, B.bytes, hml, B.returns, hlocks, (name_of_methodNamed B.named B.method).1, findClass_of_methodNamed B.named, hts, hwk, Nat.le_refl _, Nat.le_refl _, hM.2.1⟩
  have key := k.2 p e _ s m av.toArray below meth c s.heap [] lsA (MQ below (fun _ st o t => o = .returned r ∧ mT V h' t.heap ∧ va_F (vA V) st t) av.toArray s (h'.1 - h.1) (h'.2.1 - h.2.1) (vA V)) h.1 h.2.1 hC (Nat.le_refl _) (Nat.le_refl _) (Nat.le_refl _) (Nat.le_refl _) hM va_S.rf hl ?_
  · rw [Nat.sub_self, Nat.sub_self] at key
    exact key
  · intro H' locs' lsA' pc' hM' hS' hr
    have hr2 : meth.sig.returnType = rt := B.returns
    cases r with
    | none =>
      obtain ⟨hd, ht⟩ := hr
      exact W.vret B.exec B.bytes (hr2.trans ht) (fun t ht hW => ⟨rfl, by rw [ht]; exact hM', hS'.F ht⟩) hS'.2.2 hd
    | some v =>
      cases v with
      | int x =>
        obtain ⟨hd, ty, ht, hn⟩ := hr
        exact W.zret B.exec B.bytes (hr2.trans ht) hn (fun t ht hW => ⟨rfl, by rw [ht]; exact hM', hS'.F ht⟩) hS'.2.2 hd
      | ref x =>
        obtain ⟨hd, nm, ht⟩ := hr
        exact W.aret B.exec B.bytes (hr2.trans ht) (Or.inl ⟨nm, rfl⟩) (Or.inr ⟨x, rfl⟩) (fun t ht hW => ⟨rfl, by rw [ht]; exact hM', hS'.F ht⟩) hS'.2.2 hd
      | _ => exact hr.elim
