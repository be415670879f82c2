
/-! what lies outside: text constants, the static row; JDK methods -/
section Ext
variable {V : eV} {K : kX} {pc d : Nat} {ls : List (Nat × Value)} {st rest As : List Value} {h h1 h' : aH} {r r1 : Option Value} {ix : Nat}
theorem g_ldcw {i : Nat} {v : Int32} (hc : Cond.constant K.2.1 i v ∈ tB) (hd : decode K.1 pc = .ok (.ldc_w i, 3)) (k : gG V K (pc + 3) ls (.int v :: st) h r h') : gG V K pc ls st h r h' := g_go (fun C _ k => lv_ldcw C.1 C.2.1 C.2.2.2.2.2.2.1 (C.2.2.2.2.2.2.2.1 _ hc) hd k) k
theorem g_stat {C n dd : String} {v : Value} (hZ : ∀ U : State, wK V U → va_Z C n dd v (vA V) U (vH V)) (hl : Cond.fieldLink K.2.1 ix C n dd ∈ tB) (hd : decode K.1 pc = .ok (.getstatic ix, 3)) (k : gG V K (pc + 3) ls (v :: st) h r h') : gG V K pc ls st h r h' :=
  ⟨k.1, fun p e R s m args below meth c H locs lsA Q n0 u0 C0 a1 a2 a3 a4 hM hS hL hk => va_gets C0.1 C0.2.1 ((hZ s C0.2.2.2.2.2.2.2.2.1).kept (fun a ha _ => C0.2.2.2.2.2.2.2.2.2.2.2 a ha)) hS C0.2.2.2.2.2.2.1 (C0.2.2.2.2.2.2.2.1 _ hl) (fun _ q => q) hd (k.2 p e R s m args below meth c H locs lsA Q n0 u0 C0 a1 a2 a3 a4 hM hS hL hk)⟩
theorem g_fac (hl : Cond.fieldLink K.2.1 ix RX5 "FACTORIALS" "[I" ∈ tB) (hd : decode K.1 pc = .ok (.getstatic ix, 3)) (k : gG V K (pc + 3) ls (.ref (vF V) :: st) h r h') : gG V K pc ls st h r h' := g_stat (fun U hU => hU.2.2.2.2.1) hl hd k
theorem g_facld {i : Int32} (hd : decode K.1 pc = .ok (.iaload, 1)) (hi : vp_in i 6) (k : gG V K (pc + 1) ls (.int (fac6 i.toNatClampNeg) :: st) h r h') : gG V K pc ls (.int i :: .ref (vF V) :: st) h r h' :=
  ⟨k.1, fun p e R s m args below meth c H locs lsA Q n0 u0 C0 a1 a2 a3 a4 hM hS hL hk => va_ti C0.1 C0.2.1 (C0.2.2.2.2.2.2.2.2.1.2.2.2.2.2.1.kept (fun a ha _ => C0.2.2.2.2.2.2.2.2.2.2.2 a ha)) hS hi rfl hd (k.2 p e R s m args below meth c H locs lsA Q n0 u0 C0 a1 a2 a3 a4 hM hS hL hk)⟩
theorem g_ldcS {i : Nat} (hi : i < 4) (ho : K.2.1 = RX6) (hix : ix = (txK i).1) (hd : decode K.1 pc = .ok (.ldc ix, 2)) (k : gG V K (pc + 2) ls (.ref (vK V i) :: st) h r h') : gG V K pc ls st h r h' := by
  subst hix
  exact g_go (fun C0 _ k => va_ldcS C0.1 C0.2.1 (by rw [← ho]; exact C0.2.2.2.2.2.2.1) (C0.2.2.2.2.2.2.2.2.1.2.2.1 i hi) hd k) k
theorem vk_at {s : State} {i : Nat} (hw : wK V s) (hh : ∀ q : Nat, q < vB V → s.heap[q]? = (vH V)[q]?) (hi : i < 4) : va_OF "java/lang/String" "coder" "B" (.int 0) (vK V i) (vA V) s s.heap ∧ va_OF "java/lang/String" "value" "[B" (.ref (vV V i)) (vK V i) (vA V) s s.heap ∧ va_T .byte (vV V i) (txL.getD i 0) (fun j => .int ((txB.getD i []).getD j 0)) (vA V) s s.heap := by
  have hS := (hw.2.2.2.1.kept (fun a ha _ => hh a ha)).1 i hi
  exact ⟨hS.2.1, hS.2.2.1, hS.2.2.2⟩
theorem g_sval {i : Nat} (hi : i < 4) (hl : Cond.fieldLink K.2.1 ix "java/lang/String" "value" "[B" ∈ tB) (hd : decode K.1 pc = .ok (.getfield ix, 3)) (k : gG V K (pc + 3) ls (.ref (vV V i) :: st) h r h') : gG V K pc ls (.ref (vK V i) :: st) h r h' :=
  ⟨k.1, fun p e R s m args below meth c H locs lsA Q n0 u0 C0 a1 a2 a3 a4 hM hS hL hk => vk_getf C0.1 C0.2.1 (vk_at C0.2.2.2.2.2.2.2.2.1 C0.2.2.2.2.2.2.2.2.2.2.2 hi).2.1 hS C0.2.2.2.2.2.2.1 (C0.2.2.2.2.2.2.2.1 _ hl) (fun _ q => q) hd (k.2 p e R s m args below meth c H locs lsA Q n0 u0 C0 a1 a2 a3 a4 hM hS hL hk)⟩
theorem g_scod {i : Nat} (hi : i < 4) (hl : Cond.fieldLink K.2.1 ix "java/lang/String" "coder" "B" ∈ tB) (hd : decode K.1 pc = .ok (.getfield ix, 3)) (k : gG V K (pc + 3) ls (.int 0 :: st) h r h') : gG V K pc ls (.ref (vK V i) :: st) h r h' :=
  ⟨k.1, fun p e R s m args below meth c H locs lsA Q n0 u0 C0 a1 a2 a3 a4 hM hS hL hk => vk_getf C0.1 C0.2.1 (vk_at C0.2.2.2.2.2.2.2.2.1 C0.2.2.2.2.2.2.2.2.2.2.2 hi).1 hS C0.2.2.2.2.2.2.1 (C0.2.2.2.2.2.2.2.1 _ hl) (fun _ q => q) hd (k.2 p e R s m args below meth c H locs lsA Q n0 u0 C0 a1 a2 a3 a4 hM hS hL hk)⟩
theorem g_sbyt {i : Nat} {j : Int32} (hi : i < 4) (hd : decode K.1 pc = .ok (.baload, 1)) (hj : vp_in j (txL.getD i 0)) (k : gG V K (pc + 1) ls (.int ((txB.getD i []).getD j.toNatClampNeg 0) :: st) h r h') : gG V K pc ls (.int j :: .ref (vV V i) :: st) h r h' :=
  ⟨k.1, fun p e R s m args below meth c H locs lsA Q n0 u0 C0 a1 a2 a3 a4 hM hS hL hk => va_tb C0.1 C0.2.1 (vk_at C0.2.2.2.2.2.2.2.2.1 C0.2.2.2.2.2.2.2.2.2.2.2 hi).2.2 hS hj rfl hd (k.2 p e R s m args below meth c H locs lsA Q n0 u0 C0 a1 a2 a3 a4 hM hS hL hk)⟩
theorem g_slen {i : Nat} (hi : i < 4) (hd : decode K.1 pc = .ok (.arraylength, 1)) (k : gG V K (pc + 1) ls (.int (Int32.ofNat (txL.getD i 0)) :: st) h r h') : gG V K pc ls (.ref (vV V i) :: st) h r h' :=
  ⟨k.1, fun p e R s m args below meth c H locs lsA Q n0 u0 C0 a1 a2 a3 a4 hM hS hL hk => va_tlen C0.1 C0.2.1 (vk_at C0.2.2.2.2.2.2.2.2.1 C0.2.2.2.2.2.2.2.2.2.2.2 hi).2.2 hS rfl hd (k.2 p e R s m args below meth c H locs lsA Q n0 u0 C0 a1 a2 a3 a4 hM hS hL hk)⟩
theorem g_callT {y : MethodName} {cc : ByteArray} {nL n : Nat} {rt : Option FieldType} {i : Nat} (hi4 : i < 4) (hE : eE V d y cc nL rt (.ref (vK V i) :: As) h r1 h1) (hw : cW K.2.1 ix y cc nL rt n) (hi : Cond.instanceMethod y ∈ tB) (hse : Cond.selects "java/lang/String" y y ∈ tB) (hdp : d + 1 ≤ K.2.2.2.2.2) (hn : As.length = n) (hst : st = As.reverse ++ .ref (vK V i) :: rest) (hca : (rest.map fun v => v.category).sum ≤ 8) (hd : decode K.1 pc = .ok (.invokevirtual ix, 3))
    (k : gG V K (pc + 3) ls (r1.toList ++ rest) h1 r h') : gG V K pc ls st h r h' := by
  refine ⟨⟨Nat.le_trans hE.1.1 k.1.1, Nat.le_trans hE.1.2 k.1.2⟩, fun p e R s m args below meth c H locs lsA Q n0 u0 C0 a1 a2 a3 a4 hM hS hL hk => ?_⟩
  have hts := C0.2.2.2.2.2.2.2.1
  have hwk := C0.2.2.2.2.2.2.2.2.1
  have b1 := C0.2.2.2.2.2.2.2.2.2.1
  have b2 := C0.2.2.2.2.2.2.2.2.2.2.1
  have b3 := hw.2.2.2.2
  have c1 := hE.1.1
  have c2 := hE.1.2
  have c3 := k.1.1
  have c4 := k.1.2
  have hB := callB_of (R := R) (s := s) (args := args) (rm := { frames := d, cells := h1.1 - h.1, slots := h1.2.1 - h.2.1, locals := 64 * d }) (mc := h1.1 - h.1) (ms := h1.2.1 - h.2.1) n hts (tB_ws (V := V) hw.2.1) rfl rfl rfl (hts _ hw.2.2.1) (hts _ hw.1) hw.2.2.2.1 ⟨by show d + 1 ≤ R.frames; omega, by show 8 + (nL + 11) + 64 * d ≤ R.locals; omega⟩
  refine g_after (V := V) (va_runV (As := As) (rest := rest) ⟨C0.1, C0.2.1, C0.2.2.1, C0.2.2.2.2.2.2.1, hts⟩ hE.2 ⟨hB, hts _ hi, hts _ hse⟩ ⟨g_blind, vk_recv (hwk.2.2.2.1.kept (fun a ha _ => C0.2.2.2.2.2.2.2.2.2.2.2 a ha)) hi4 hS, fun U hU hW => ⟨rfl, wK_warm hW hwk, by rw [hU]; exact hM⟩⟩ rfl hn hL.1 hst (lv_room hca) hd ⟨by omega, by omega⟩) hS (fun H1 locs1 hM1 hS1 => ?_)
  have e1 : h.1 - n0 + (h1.1 - h.1) = h1.1 - n0 := by omega
  have e2 : h.2.1 - u0 + (h1.2.1 - h.2.1) = h1.2.1 - u0 := by omega
  rw [e1, e2]
  exact k.2 p e R s m args below meth c H1 locs1 lsA Q n0 u0 C0 (by omega) (by omega) a3 a4 hM1 hS1 hL hk
theorem g_xld {i : Int32} (hd : decode K.1 pc = .ok (.iaload, 1)) (hi : vp_in i (vN V)) (k : gG V K (pc + 1) ls (.int (vX V i.toNatClampNeg) :: st) h r h') : gG V K pc ls (.int i :: .ref (vS V) :: st) h r h' :=
  ⟨k.1, fun p e R s m args below meth c H locs lsA Q n0 u0 C0 a1 a2 a3 a4 hM hS hL hk => by
    obtain ⟨x1, x2, -⟩ := C0.2.2.2.2.2.2.2.2.1.2.2.2.2.2.2.2.2
    obtain ⟨scr, y1, y2, y3, y4, y5⟩ := x1
    have hlt : i.toNatClampNeg < vN V := Nat.not_le.mp fun q => hi (Or.inr q)
    exact W.iald (v := .int (vX V i.toNatClampNeg)) C0.1 C0.2.1 (by rw [hM.2.1 _ x2]; exact y1) y2 y3 (by rw [y4]; exact hi) (y5 _ hlt) rfl rfl hd (k.2 p e R s m args below meth c H locs lsA Q n0 u0 C0 a1 a2 a3 a4 hM hS hL hk)⟩
theorem g_xlen {v : Int32} (hd : decode K.1 pc = .ok (.arraylength, 1)) (hv : (vN V).toInt32 = v) (k : gG V K (pc + 1) ls (.int v :: st) h r h') : gG V K pc ls (.ref (vS V) :: st) h r h' :=
  ⟨k.1, fun p e R s m args below meth c H locs lsA Q n0 u0 C0 a1 a2 a3 a4 hM hS hL hk => by
    obtain ⟨x1, x2, -⟩ := C0.2.2.2.2.2.2.2.2.1.2.2.2.2.2.2.2.2
    obtain ⟨scr, y1, y2, y3, y4, y5⟩ := x1
    exact W.alen (n := v) C0.1 C0.2.1 (by rw [hM.2.1 _ x2]; exact y1) y2 (by rw [y4]; exact hv) rfl rfl hd (k.2 p e R s m args below meth c H locs lsA Q n0 u0 C0 a1 a2 a3 a4 hM hS hL hk)⟩
/-- a heap told by other words -/
theorem mT_congr {h2 : aH} {H : Heap} (e1 : h2.1 = h.1) (es : ∀ a, a < h.1 → h2.2.2.1 a = h.2.2.1 a) (em : h2.2.2.2 = h.2.2.2) (hM : mT V h H) : mT V h2 H := by
  obtain ⟨m1, m2, m3⟩ := hM
  refine ⟨by rw [e1]; exact m1, m2, fun a ha => ?_⟩
  rw [e1] at ha
  have h3 := m3 a ha
  unfold c_A at h3 ⊢
  rw [es a ha, em]
  exact h3
theorem g_congr {h2 : aH} (e1 : h2.1 = h.1) (e2 : h2.2.1 = h.2.1) (es : ∀ a, a < h.1 → h2.2.2.1 a = h.2.2.1 a) (em : h2.2.2.2 = h.2.2.2) (k : gG V K pc ls st h2 r h') : gG V K pc ls st h r h' := by
  refine ⟨by rw [← e1, ← e2]; exact k.1, fun p e R s m args below meth c H locs lsA Q n0 u0 C0 a1 a2 a3 a4 hM hS hL hk => ?_⟩
  have := k.2 p e R s m args below meth c H locs lsA Q n0 u0 C0 (by rw [e1]; exact a1) (by rw [e2]; exact a2) a3 a4 (mT_congr e1 es em hM) hS hL hk
  rw [e1, e2] at this
  exact this
end Ext

/-- Integer.bitCount -/
def u_sh (x y : Int32) : Int32 := (x.toUInt32 >>> (y.toUInt32 &&& Int32.toUInt32 31)).toInt32
def bcA (x : Int32) : Int32 := x - (u_sh x 1 &&& 1431655765)
def bcB (x : Int32) : Int32 := (bcA x &&& 858993459) + (u_sh (bcA x) 2 &&& 858993459)
def bcC (x : Int32) : Int32 := (bcB x + u_sh (bcB x) 4) &&& 252645135
def bcD (x : Int32) : Int32 := bcC x + u_sh (bcC x) 8
def bcE (x : Int32) : Int32 := bcD x + u_sh (bcD x) 16
def bitC (x : Int32) : Int32 := bcE x &&& 63
set_option maxRecDepth 100000 in
theorem j_bitCount {V : eV} {h : aH} (x : Int32) : eE V 0 yJ6_bitCount_0f7a4 cJ6_bitCount_0f7a4 1 (some .int) [.int x] h (some (.int (bitC x))) h := by
  refine eE_of (by decide) (Nat.le_of_ble_eq_true rfl) ?_
  show gG V (cJ6_bitCount_0f7a4, "java/lang/Integer", "bitCount", some .int, 1, 0) 0 [(0, .int x)] [] h _ h
  refine g_iload_n (x := x) 0 dJ6_bitCount_0f7a4_0 rfl rfl ?_
  refine g_iload_n (x := x) 0 dJ6_bitCount_0f7a4_1 rfl rfl ?_
  refine g_iconst (v := 1) dJ6_bitCount_0f7a4_2 rfl ?_
  refine g_iushr dJ6_bitCount_0f7a4_3 ?_
  refine g_ldcw w_553 dJ6_bitCount_0f7a4_4 ?_
  refine g_iand dJ6_bitCount_0f7a4_7 ?_
  refine g_isub dJ6_bitCount_0f7a4_8 ?_
  refine g_istore_n (x := bcA x) (ls' := [(0, .int (bcA x))]) dJ6_bitCount_0f7a4_9 rfl (by decide) rfl ?_
  refine g_iload_n (x := bcA x) 0 dJ6_bitCount_0f7a4_10 rfl rfl ?_
  refine g_ldcw w_554 dJ6_bitCount_0f7a4_11 ?_
  refine g_iand dJ6_bitCount_0f7a4_14 ?_
  refine g_iload_n (x := bcA x) 0 dJ6_bitCount_0f7a4_15 rfl rfl ?_
  refine g_iconst (v := 2) dJ6_bitCount_0f7a4_16 rfl ?_
  refine g_iushr dJ6_bitCount_0f7a4_17 ?_
  refine g_ldcw w_554 dJ6_bitCount_0f7a4_18 ?_
  refine g_iand dJ6_bitCount_0f7a4_21 ?_
  refine g_iadd dJ6_bitCount_0f7a4_22 ?_
  refine g_istore_n (x := bcB x) (ls' := [(0, .int (bcB x))]) dJ6_bitCount_0f7a4_23 rfl (by decide) rfl ?_
  refine g_iload_n (x := bcB x) 0 dJ6_bitCount_0f7a4_24 rfl rfl ?_
  refine g_iload_n (x := bcB x) 0 dJ6_bitCount_0f7a4_25 rfl rfl ?_
  refine g_iconst (v := 4) dJ6_bitCount_0f7a4_26 rfl ?_
  refine g_iushr dJ6_bitCount_0f7a4_27 ?_
  refine g_iadd dJ6_bitCount_0f7a4_28 ?_
  refine g_ldcw w_555 dJ6_bitCount_0f7a4_29 ?_
  refine g_iand dJ6_bitCount_0f7a4_32 ?_
  refine g_istore_n (x := bcC x) (ls' := [(0, .int (bcC x))]) dJ6_bitCount_0f7a4_33 rfl (by decide) rfl ?_
  refine g_iload_n (x := bcC x) 0 dJ6_bitCount_0f7a4_34 rfl rfl ?_
  refine g_iload_n (x := bcC x) 0 dJ6_bitCount_0f7a4_35 rfl rfl ?_
  refine g_bipush (v := 8) dJ6_bitCount_0f7a4_36 rfl ?_
  refine g_iushr dJ6_bitCount_0f7a4_38 ?_
  refine g_iadd dJ6_bitCount_0f7a4_39 ?_
  refine g_istore_n (x := bcD x) (ls' := [(0, .int (bcD x))]) dJ6_bitCount_0f7a4_40 rfl (by decide) rfl ?_
  refine g_iload_n (x := bcD x) 0 dJ6_bitCount_0f7a4_41 rfl rfl ?_
  refine g_iload_n (x := bcD x) 0 dJ6_bitCount_0f7a4_42 rfl rfl ?_
  refine g_bipush (v := 16) dJ6_bitCount_0f7a4_43 rfl ?_
  refine g_iushr dJ6_bitCount_0f7a4_45 ?_
  refine g_iadd dJ6_bitCount_0f7a4_46 ?_
  refine g_istore_n (x := bcE x) (ls' := [(0, .int (bcE x))]) dJ6_bitCount_0f7a4_47 rfl (by decide) rfl ?_
  refine g_iload_n (x := bcE x) 0 dJ6_bitCount_0f7a4_48 rfl rfl ?_
  refine g_bipush (v := 63) dJ6_bitCount_0f7a4_49 rfl ?_
  refine g_iand dJ6_bitCount_0f7a4_51 ?_
  exact g_iret dJ6_bitCount_0f7a4_52 .int rfl rfl
theorem j_coder {V : eV} {h : aH} {i : Nat} (hi : i < 4) : eE V 0 yJ0_coder_7d493 cJ0_coder_7d493 1 (some .byte) [.ref (vK V i)] h (some (.int 0)) h := by
  refine eE_of (by decide) (Nat.le_of_ble_eq_true rfl) ?_
  show gG V (cJ0_coder_7d493, "java/lang/String", "coder", some .byte, 1, 0) 0 [(0, .ref (vK V i))] [] h _ h
  refine g_stat (fun U hU => hU.2.2.2.2.2.2.1) w_395 dJ0_coder_7d493_0 ?_
  refine g_if_eq (tgt := 13) dJ0_coder_7d493_3 (by decide) (fun c => absurd c (by decide)) (fun _ => ?_)
  refine g_aload_n 0 dJ0_coder_7d493_6 rfl rfl ?_
  refine g_scod hi w_1303 dJ0_coder_7d493_7 ?_
  refine g_goto (tgt := 14) dJ0_coder_7d493_10 (by decide) ?_
  exact g_iret dJ0_coder_7d493_14 .byte rfl rfl
theorem j_isLatin1 {V : eV} {h : aH} {i : Nat} (hi : i < 4) : eE V 0 yJ0_isLatin1_aae02 cJ0_isLatin1_aae02 1 (some .boolean) [.ref (vK V i)] h (some (.int 1)) h := by
  refine eE_of (by decide) (Nat.le_of_ble_eq_true rfl) ?_
  show gG V (cJ0_isLatin1_aae02, "java/lang/String", "isLatin1", some .boolean, 1, 0) 0 [(0, .ref (vK V i))] [] h _ h
  refine g_stat (fun U hU => hU.2.2.2.2.2.2.1) w_395 dJ0_isLatin1_aae02_0 ?_
  refine g_if_eq (tgt := 17) dJ0_isLatin1_aae02_3 (by decide) (fun c => absurd c (by decide)) (fun _ => ?_)
  refine g_aload_n 0 dJ0_isLatin1_aae02_6 rfl rfl ?_
  refine g_scod hi w_1303 dJ0_isLatin1_aae02_7 ?_
  refine g_if_ne (tgt := 17) dJ0_isLatin1_aae02_10 (by decide) (fun c => absurd rfl c) (fun _ => ?_)
  refine g_iconst (v := 1) dJ0_isLatin1_aae02_13 rfl ?_
  refine g_goto (tgt := 18) dJ0_isLatin1_aae02_14 (by decide) ?_
  exact g_iret dJ0_isLatin1_aae02_18 .boolean rfl rfl
theorem tx_shr (i : Nat) (hi : i < 4) : (Int32.ofNat (txL.getD i 0)) >>> ((0 : Int32) &&& 31) = Int32.ofNat (txL.getD i 0) := by
  have : ∀ i : Fin 4, (Int32.ofNat (txL.getD i.val 0)) >>> ((0 : Int32) &&& 31) = Int32.ofNat (txL.getD i.val 0) := by decide
  exact this ⟨i, hi⟩
theorem j_length {V : eV} {h : aH} {i : Nat} (hi : i < 4) : eE V 1 yJ0_length_8abf5 cJ0_length_8abf5 1 (some .int) [.ref (vK V i)] h (some (.int (Int32.ofNat (txL.getD i 0)))) h := by
  refine eE_of (by decide) (Nat.le_of_ble_eq_true rfl) ?_
  show gG V (cJ0_length_8abf5, "java/lang/String", "length", some .int, 1, 1) 0 [(0, .ref (vK V i))] [] h _ h
  refine g_aload_n 0 dJ0_length_8abf5_0 rfl rfl ?_
  refine g_sval hi w_1302 dJ0_length_8abf5_1 ?_
  refine g_slen hi dJ0_length_8abf5_4 ?_
  refine g_aload_n 0 dJ0_length_8abf5_5 rfl rfl ?_
  refine g_callT (As := []) hi (j_coder hi) cw_391 w_392 w_393 (by decide) rfl rfl (Nat.le_of_ble_eq_true rfl) dJ0_length_8abf5_6 ?_
  show gG V _ 9 _ (.int 0 :: .int (Int32.ofNat (txL.getD i 0)) :: []) h _ h
  refine g_ishr dJ0_length_8abf5_9 ?_
  rw [tx_shr i hi]
  exact g_iret dJ0_length_8abf5_10 .int rfl rfl
theorem j_pcheck {V : eV} {h : aH} {x n : Int32} {v : Value} (hv : v.category = 1) (h1 : ¬ x < 0) (h2 : x < n) : eE V 0 yJ3_checkIndex_8e157 cJ3_checkIndex_8e157 3 (some .int) [.int x, .int n, v] h (some (.int x)) h := by
  have hA : lv_args 0 [.int x, .int n, v] = [(0, .int x), (1, .int n), (2, v)] := rfl
  refine eE_of (by decide) (by cases v <;> first | (simp [Value.category] at hv; done) | exact Nat.le_of_ble_eq_true rfl) ?_
  rw [hA]
  show gG V (cJ3_checkIndex_8e157, "jdk/internal/util/Preconditions", "checkIndex", some .int, 3, 0) 0 [(0, .int x), (1, .int n), (2, v)] [] h _ h
  refine g_iload_n 0 dJ3_checkIndex_8e157_0 rfl rfl ?_
  refine g_if_lt (tgt := 9) dJ3_checkIndex_8e157_1 (by decide) (fun c => absurd c h1) (fun _ => ?_)
  refine g_iload_n 0 dJ3_checkIndex_8e157_4 rfl rfl ?_
  refine g_iload_n 1 dJ3_checkIndex_8e157_5 rfl rfl ?_
  refine g_icmp_lt (tgt := 16) dJ3_checkIndex_8e157_6 (by decide) (fun _ => ?_) (fun c => absurd h2 c)
  refine g_iload_n 0 dJ3_checkIndex_8e157_16 rfl rfl ?_
  exact g_iret dJ3_checkIndex_8e157_17 .int rfl rfl
theorem g_statq {V : eV} {K : kX} {pc ix : Nat} {ls : List (Nat × Value)} {st : List Value} {h h' : aH} {r : Option Value} {C n dd : String} (hZ : ∀ U : State, wK V U → va_Zq C n dd (vA V) U (vH V)) (hl : Cond.fieldLink K.2.1 ix C n dd ∈ tB) (hd : decode K.1 pc = .ok (.getstatic ix, 3)) (k : ∀ v : Value, v.category = 1 → gG V K (pc + 3) ls (v :: st) h r h') : gG V K pc ls st h r h' :=
  ⟨(k .null rfl).1, fun p e R s m args below meth c H locs lsA Q n0 u0 C0 a1 a2 a3 a4 hM hS hL hk => by
    rcases (hZ s C0.2.2.2.2.2.2.2.2.1).kept (fun a ha _ => C0.2.2.2.2.2.2.2.2.2.2.2 a ha) with hz | ⟨t, hz⟩
    · exact va_gets C0.1 C0.2.1 hz hS C0.2.2.2.2.2.2.1 (C0.2.2.2.2.2.2.2.1 _ hl) (fun _ q => q) hd ((k _ rfl).2 p e R s m args below meth c H locs lsA Q n0 u0 C0 a1 a2 a3 a4 hM hS hL hk)
    · exact va_gets C0.1 C0.2.1 hz hS C0.2.2.2.2.2.2.1 (C0.2.2.2.2.2.2.2.1 _ hl) (fun _ q => q) hd ((k _ rfl).2 p e R s m args below meth c H locs lsA Q n0 u0 C0 a1 a2 a3 a4 hM hS hL hk)⟩
theorem j_check {V : eV} {h : aH} {x n : Int32} (h1 : ¬ x < 0) (h2 : x < n) : eE V 1 yJ0_checkIndex_df160 cJ0_checkIndex_df160 2 none [.int x, .int n] h none h := by
  refine eE_of (by decide) (Nat.le_of_ble_eq_true rfl) ?_
  show gG V (cJ0_checkIndex_df160, "java/lang/String", "checkIndex", none, 2, 1) 0 [(0, .int x), (1, .int n)] [] h _ h
  refine g_iload_n 0 dJ0_checkIndex_df160_0 rfl rfl ?_
  refine g_iload_n 1 dJ0_checkIndex_df160_1 rfl rfl ?_
  refine g_statq (fun U hU => hU.2.2.2.2.2.2.2.1) w_411 dJ0_checkIndex_df160_2 (fun v hv => ?_)
  refine g_callS (As := [.int x, .int n, v]) (rest := []) (j_pcheck hv h1 h2) cw_413 w_414 (by decide) rfl rfl (Nat.le_of_ble_eq_true rfl) dJ0_checkIndex_df160_5 ?_
  refine g_pop dJ0_checkIndex_df160_8 rfl ?_
  exact g_vret dJ0_checkIndex_df160_9 rfl
/-- the char at k of the text i -/
def chS (i : Nat) (k : Int32) : Int32 := (((txB.getD i []).getD k.toNatClampNeg 0 &&& 255).toUInt32 % 65536).toInt32
theorem tx_char (i k : Nat) (hi : i < 4) (hk : k < txL.getD i 0) : narrow .char (.int ((((txB.getD i []).getD k 0 &&& 255).toUInt32 % 65536).toInt32)) = .int ((((txB.getD i []).getD k 0 &&& 255).toUInt32 % 65536).toInt32) := by
  have : ∀ i : Fin 4, ∀ k : Fin 11, narrow .char (.int ((((txB.getD i.val []).getD k.val 0 &&& 255).toUInt32 % 65536).toInt32)) = .int ((((txB.getD i.val []).getD k.val 0 &&& 255).toUInt32 % 65536).toInt32) := by decide +kernel
  have h11 : ∀ i : Fin 4, txL.getD i.val 0 ≤ 11 := by decide
  exact this ⟨i, hi⟩ ⟨k, Nat.lt_of_lt_of_le hk (h11 ⟨i, hi⟩)⟩
theorem vp_lt {k : Int32} {n : Nat} (hn : n < 2 ^ 31) (h : vp_in k n) : ¬ k < 0 ∧ k < Int32.ofNat n := by
  have h1 : ¬ k < 0 := fun q => h (Or.inl q)
  have h2 : k.toNatClampNeg < n := Nat.not_le.mp fun q => h (Or.inr q)
  refine ⟨h1, ?_⟩
  have h3 : (0 : Int) ≤ k.toInt := by
    have := Int32.not_lt.mp h1
    simpa using Int32.le_iff_toInt_le.mp this
  have h4 : k.toInt.toNat < n := h2
  rw [Int32.lt_iff_toInt_lt, Int32.toInt_ofNat_of_lt hn]
  omega
theorem j_lcharAt {V : eV} {h : aH} {i : Nat} {k : Int32} (hi : i < 4) (hk : vp_in k (txL.getD i 0)) : eE V 2 yJ1_charAt_3b067 cJ1_charAt_3b067 2 (some .char) [.ref (vV V i), .int k] h (some (.int (chS i k))) h := by
  have hl : txL.getD i 0 < 2 ^ 31 := by
    have : ∀ i : Fin 4, txL.getD i.val 0 < 2 ^ 31 := by decide
    exact this ⟨i, hi⟩
  refine eE_of (by decide) (Nat.le_of_ble_eq_true rfl) ?_
  show gG V (cJ1_charAt_3b067, "java/lang/StringLatin1", "charAt", some .char, 2, 2) 0 [(0, .ref (vV V i)), (1, .int k)] [] h _ h
  refine g_iload_n 1 dJ1_charAt_3b067_0 rfl rfl ?_
  refine g_aload_n 0 dJ1_charAt_3b067_1 rfl rfl ?_
  refine g_slen hi dJ1_charAt_3b067_2 ?_
  refine g_callS (As := [.int k, .int (Int32.ofNat (txL.getD i 0))]) (rest := []) (j_check (vp_lt hl hk).1 (vp_lt hl hk).2) cw_408 w_409 (by decide) rfl rfl (Nat.le_of_ble_eq_true rfl) dJ1_charAt_3b067_3 ?_
  refine g_aload_n 0 dJ1_charAt_3b067_6 rfl rfl ?_
  refine g_iload_n 1 dJ1_charAt_3b067_7 rfl rfl ?_
  refine g_sbyt hi dJ1_charAt_3b067_8 hk ?_
  refine g_sipush (v := 255) dJ1_charAt_3b067_9 rfl ?_
  refine g_iand dJ1_charAt_3b067_12 ?_
  refine g_i2c dJ1_charAt_3b067_13 ?_
  exact g_iret dJ1_charAt_3b067_14 .char rfl (tx_char i k.toNatClampNeg hi (Nat.not_le.mp fun q => hk (Or.inr q)))
theorem j_charAt {V : eV} {h : aH} {i : Nat} {k : Int32} (hi : i < 4) (hk : vp_in k (txL.getD i 0)) : eE V 3 yJ0_charAt_5068e cJ0_charAt_5068e 2 (some .char) [.ref (vK V i), .int k] h (some (.int (chS i k))) h := by
  refine eE_of (by decide) (Nat.le_of_ble_eq_true rfl) ?_
  show gG V (cJ0_charAt_5068e, "java/lang/String", "charAt", some .char, 2, 3) 0 [(0, .ref (vK V i)), (1, .int k)] [] h _ h
  refine g_aload_n 0 dJ0_charAt_5068e_0 rfl rfl ?_
  refine g_callT (As := []) hi (j_isLatin1 hi) cw_401 w_402 w_403 (by decide) rfl rfl (Nat.le_of_ble_eq_true rfl) dJ0_charAt_5068e_1 ?_
  refine g_if_eq (tgt := 16) dJ0_charAt_5068e_4 (by decide) (fun c => absurd c (by decide)) (fun _ => ?_)
  refine g_aload_n 0 dJ0_charAt_5068e_7 rfl rfl ?_
  refine g_sval hi w_1302 dJ0_charAt_5068e_8 ?_
  refine g_iload_n 1 dJ0_charAt_5068e_11 rfl rfl ?_
  refine g_callS (As := [.ref (vV V i), .int k]) (rest := []) (j_lcharAt hi hk) cw_405 w_406 (by decide) rfl rfl (Nat.le_of_ble_eq_true rfl) dJ0_charAt_5068e_12 ?_
  exact g_iret dJ0_charAt_5068e_15 .char rfl (tx_char i k.toNatClampNeg hi (Nat.not_le.mp fun q => hk (Or.inr q)))
/-- KIND_LETTERS.indexOf(c) -/
def ixK (c : Int32) : Int32 := if c < 0 then -1 else if 255 < c then -1 else if 111 = c.toInt8.toInt32 then 0 else if 121 = c.toInt8.toInt32 then 1 else if 115 = c.toInt8.toInt32 then 2 else if 106 = c.toInt8.toInt32 then 3 else if 107 = c.toInt8.toInt32 then 4 else if 110 = c.toInt8.toInt32 then 5 else if 116 = c.toInt8.toInt32 then 6 else -1
theorem j_canEncode {V : eV} {h : aH} (c : Int32) : eE V 0 yJ1_canEncode_9a6ad cJ1_canEncode_9a6ad 1 (some .boolean) [.int c] h (some (.int (if c < 0 then 0 else if 255 < c then 0 else 1))) h := by
  refine eE_of (by decide) (Nat.le_of_ble_eq_true rfl) ?_
  show gG V (cJ1_canEncode_9a6ad, "java/lang/StringLatin1", "canEncode", some .boolean, 1, 0) 0 [(0, .int c)] [] h _ h
  refine g_iload_n 0 dJ1_canEncode_9a6ad_0 rfl rfl ?_
  refine g_if_lt (tgt := 15) dJ1_canEncode_9a6ad_1 (by decide) (fun c1 => ?_) (fun c1 => ?_)
  · rw [if_pos c1]
    refine g_iconst (v := 0) dJ1_canEncode_9a6ad_15 rfl ?_
    exact g_iret dJ1_canEncode_9a6ad_16 .boolean rfl rfl
  · rw [if_neg c1]
    refine g_iload_n 0 dJ1_canEncode_9a6ad_4 rfl rfl ?_
    refine g_sipush (v := 255) dJ1_canEncode_9a6ad_5 rfl ?_
    refine g_icmp_gt (tgt := 15) dJ1_canEncode_9a6ad_8 (by decide) (fun c2 => ?_) (fun c2 => ?_)
    · rw [if_pos c2]
      refine g_iconst (v := 0) dJ1_canEncode_9a6ad_15 rfl ?_
      exact g_iret dJ1_canEncode_9a6ad_16 .boolean rfl rfl
    · rw [if_neg c2]
      refine g_iconst (v := 1) dJ1_canEncode_9a6ad_11 rfl ?_
      refine g_goto (tgt := 16) dJ1_canEncode_9a6ad_12 (by decide) ?_
      exact g_iret dJ1_canEncode_9a6ad_16 .boolean rfl rfl
def ixL (c : Int32) : List Int32 → Int32 → Int32
  | [], _ => -1
  | b :: l, k => if b = c then k else ixL c l (k + 1)
theorem j_ixLoop {V : eV} {h : aH} (c0 c : Int32) : ∀ (n k : Nat), k + n = 7 → gG V (cJ1_indexOfChar_4cfef, "java/lang/StringLatin1", "indexOfChar", some .int, 6, 0) 7 [(5, .int (Int32.ofNat k)), (4, .int c), (0, .ref (vV V 3)), (1, .int c0), (2, .int 0), (3, .int 7)] [] h (some (.int (ixL c ((txB.getD 3 []).drop k) (Int32.ofNat k)))) h := by
  intro n
  induction n with
  | zero =>
    intro k hk
    have hk : k = 7 := by omega
    subst hk
    refine g_iload 0 dJ1_indexOfChar_4cfef_7 rfl ?_
    refine g_iload_n 5 dJ1_indexOfChar_4cfef_9 rfl rfl ?_
    refine g_icmp_ge (tgt := 31) dJ1_indexOfChar_4cfef_10 (by decide) (fun _ => ?_) (fun q => absurd (by decide) q)
    refine g_iconst (v := -1) dJ1_indexOfChar_4cfef_31 rfl ?_
    exact g_iret dJ1_indexOfChar_4cfef_32 .int rfl rfl
  | succ n ih =>
    intro k hk
    have hk7 : k < 7 := by omega
    have e1 : ¬ (7 : Int32) ≤ Int32.ofNat k := by
      have : ∀ j : Fin 7, ¬ (7 : Int32) ≤ Int32.ofNat j.val := by decide
      exact this ⟨k, hk7⟩
    have e2 : vp_in (Int32.ofNat k) (txL.getD 3 0) := by
      have : ∀ j : Fin 7, ¬ (Int32.ofNat j.val < 0 ∨ 7 ≤ (Int32.ofNat j.val).toNatClampNeg) := by decide
      exact this ⟨k, hk7⟩
    have e3 : (Int32.ofNat k).toNatClampNeg = k := by
      have : ∀ j : Fin 7, (Int32.ofNat j.val).toNatClampNeg = j.val := by decide
      exact this ⟨k, hk7⟩
    have e4 : (txB.getD 3 []).drop k = (txB.getD 3 []).getD k 0 :: (txB.getD 3 []).drop (k + 1) := by
      have : ∀ j : Fin 7, (txB.getD 3 []).drop j.val = (txB.getD 3 []).getD j.val 0 :: (txB.getD 3 []).drop (j.val + 1) := by decide
      exact this ⟨k, hk7⟩
    have e5 : Int32.ofNat k + Int32.ofInt 1 = Int32.ofNat (k + 1) := by
      have : ∀ j : Fin 7, Int32.ofNat j.val + Int32.ofInt 1 = Int32.ofNat (j.val + 1) := by decide
      exact this ⟨k, hk7⟩
    rw [e4]
    refine g_iload 0 dJ1_indexOfChar_4cfef_7 rfl ?_
    refine g_iload_n 5 dJ1_indexOfChar_4cfef_9 rfl rfl ?_
    refine g_icmp_ge (tgt := 31) dJ1_indexOfChar_4cfef_10 (by decide) (fun q => absurd q e1) (fun _ => ?_)
    refine g_aload_n 2 dJ1_indexOfChar_4cfef_13 rfl rfl ?_
    refine g_iload 0 dJ1_indexOfChar_4cfef_14 rfl ?_
    refine g_sbyt (i := 3) (by decide) dJ1_indexOfChar_4cfef_16 e2 ?_
    rw [e3]
    refine g_iload 1 dJ1_indexOfChar_4cfef_17 rfl ?_
    refine g_icmp_ne (tgt := 25) dJ1_indexOfChar_4cfef_19 (by decide) (fun q => ?_) (fun q => ?_)
    · rw [ixL, if_neg q]
      refine g_iinc (q := 0) (v := Int32.ofNat (k + 1)) dJ1_indexOfChar_4cfef_25 rfl e5 (by decide) rfl ?_
      refine g_goto (tgt := 7) dJ1_indexOfChar_4cfef_28 (by decide) ?_
      have := ih (k + 1) (by omega)
      rw [← e5] at this ⊢
      exact this
    · rw [ixL, if_pos q]
      refine g_iload 0 dJ1_indexOfChar_4cfef_22 rfl ?_
      exact g_iret dJ1_indexOfChar_4cfef_24 .int rfl rfl
theorem j_ixChar {V : eV} {h : aH} (c : Int32) : eE V 0 yJ1_indexOfChar_4cfef cJ1_indexOfChar_4cfef 6 (some .int) [.ref (vV V 3), .int c, .int 0, .int 7] h (some (.int (ixL c.toInt8.toInt32 (txB.getD 3 []) 0))) h := by
  refine eE_of (by decide) (Nat.le_of_ble_eq_true rfl) ?_
  show gG V (cJ1_indexOfChar_4cfef, "java/lang/StringLatin1", "indexOfChar", some .int, 6, 0) 0 [(0, .ref (vV V 3)), (1, .int c), (2, .int 0), (3, .int 7)] [] h _ h
  refine g_iload_n 1 dJ1_indexOfChar_4cfef_0 rfl rfl ?_
  refine g_i2b dJ1_indexOfChar_4cfef_1 ?_
  refine g_istore dJ1_indexOfChar_4cfef_2 (by decide) rfl ?_
  refine g_iload_n 3 dJ1_indexOfChar_4cfef_4 rfl rfl ?_
  refine g_istore dJ1_indexOfChar_4cfef_5 (by decide) rfl ?_
  exact j_ixLoop c _ 7 0 rfl
theorem ixL_k (c : Int32) (h1 : ¬ c < 0) (h2 : ¬ 255 < c) : ixL c.toInt8.toInt32 (txB.getD 3 []) 0 = ixK c := by
  unfold ixK
  rw [if_neg h1, if_neg h2]
  rfl
theorem j_lindexOf {V : eV} {h : aH} (c : Int32) : eE V 1 yJ1_indexOf_4cfef cJ1_indexOf_4cfef 4 (some .int) [.ref (vV V 3), .int c, .int 0, .int 7] h (some (.int (ixK c))) h := by
  refine eE_of (by decide) (Nat.le_of_ble_eq_true rfl) ?_
  show gG V (cJ1_indexOf_4cfef, "java/lang/StringLatin1", "indexOf", some .int, 4, 1) 0 [(0, .ref (vV V 3)), (1, .int c), (2, .int 0), (3, .int 7)] [] h _ h
  refine g_iload_n 1 dJ1_indexOf_4cfef_0 rfl rfl ?_
  refine g_callS (As := [.int c]) (rest := []) (j_canEncode c) cw_452 w_453 (by decide) rfl rfl (Nat.le_of_ble_eq_true rfl) dJ1_indexOf_4cfef_1 ?_
  by_cases c1 : c < 0
  · rw [if_pos c1]
    refine g_if_ne (tgt := 9) dJ1_indexOf_4cfef_4 (by decide) (fun q => absurd rfl q) (fun _ => ?_)
    refine g_iconst (v := -1) dJ1_indexOf_4cfef_7 rfl ?_
    unfold ixK
    rw [if_pos c1]
    exact g_iret dJ1_indexOf_4cfef_8 .int rfl rfl
  · rw [if_neg c1]
    by_cases c2 : 255 < c
    · rw [if_pos c2]
      refine g_if_ne (tgt := 9) dJ1_indexOf_4cfef_4 (by decide) (fun q => absurd rfl q) (fun _ => ?_)
      refine g_iconst (v := -1) dJ1_indexOf_4cfef_7 rfl ?_
      unfold ixK
      rw [if_neg c1, if_pos c2]
      exact g_iret dJ1_indexOf_4cfef_8 .int rfl rfl
    · rw [if_neg c2]
      refine g_if_ne (tgt := 9) dJ1_indexOf_4cfef_4 (by decide) (fun _ => ?_) (fun q => absurd q (by decide))
      refine g_iload_n 2 dJ1_indexOf_4cfef_9 rfl rfl ?_
      refine g_iconst (v := 0) dJ1_indexOf_4cfef_10 rfl ?_
      refine g_max w_455 w_456 w_71 w_457 (by decide) (Nat.le_of_ble_eq_true rfl) dJ1_indexOf_4cfef_11 ?_
      refine g_istore_n (x := 0) dJ1_indexOf_4cfef_14 rfl (by decide) rfl ?_
      refine g_iload_n 3 dJ1_indexOf_4cfef_15 rfl rfl ?_
      refine g_aload_n 1 dJ1_indexOf_4cfef_16 rfl rfl ?_
      refine g_slen (i := 3) (by decide) dJ1_indexOf_4cfef_17 ?_
      refine g_min w_458 w_459 w_71 w_460 (by decide) (Nat.le_of_ble_eq_true rfl) dJ1_indexOf_4cfef_18 ?_
      refine g_istore_n (x := 7) dJ1_indexOf_4cfef_21 rfl (by decide) rfl ?_
      refine g_iload_n 1 dJ1_indexOf_4cfef_22 rfl rfl ?_
      refine g_iload_n 0 dJ1_indexOf_4cfef_23 rfl rfl ?_
      refine g_icmp_lt (tgt := 29) dJ1_indexOf_4cfef_24 (by decide) (fun _ => ?_) (fun q => absurd (by decide) q)
      refine g_aload_n 2 dJ1_indexOf_4cfef_29 rfl rfl ?_
      refine g_iload_n 3 dJ1_indexOf_4cfef_30 rfl rfl ?_
      refine g_iload_n 1 dJ1_indexOf_4cfef_31 rfl rfl ?_
      refine g_iload_n 0 dJ1_indexOf_4cfef_32 rfl rfl ?_
      refine g_callS (As := [.ref (vV V 3), .int c, .int 0, .int 7]) (rest := []) (j_ixChar c) cw_461 w_462 (by decide) rfl rfl (Nat.le_of_ble_eq_true rfl) dJ1_indexOf_4cfef_33 ?_
      rw [ixL_k c c1 c2]
      exact g_iret dJ1_indexOf_4cfef_36 .int rfl rfl
theorem j_indexOf2 {V : eV} {h : aH} (c : Int32) : eE V 2 yJ0_indexOf_7cf53 cJ0_indexOf_7cf53 3 (some .int) [.ref (vK V 3), .int c, .int 0] h (some (.int (ixK c))) h := by
  refine eE_of (by decide) (Nat.le_of_ble_eq_true rfl) ?_
  show gG V (cJ0_indexOf_7cf53, "java/lang/String", "indexOf", some .int, 3, 2) 0 [(0, .ref (vK V 3)), (1, .int c), (2, .int 0)] [] h _ h
  refine g_aload_n 0 dJ0_indexOf_7cf53_0 rfl rfl ?_
  refine g_callT (i := 3) (As := []) (by decide) (j_isLatin1 (by decide)) cw_401 w_402 w_403 (by decide) rfl rfl (Nat.le_of_ble_eq_true rfl) dJ0_indexOf_7cf53_1 ?_
  refine g_if_eq (tgt := 23) dJ0_indexOf_7cf53_4 (by decide) (fun c => absurd c (by decide)) (fun _ => ?_)
  refine g_aload_n 0 dJ0_indexOf_7cf53_7 rfl rfl ?_
  refine g_sval (i := 3) (by decide) w_1302 dJ0_indexOf_7cf53_8 ?_
  refine g_iload_n 1 dJ0_indexOf_7cf53_11 rfl rfl ?_
  refine g_iload_n 2 dJ0_indexOf_7cf53_12 rfl rfl ?_
  refine g_aload_n 0 dJ0_indexOf_7cf53_13 rfl rfl ?_
  refine g_callT (i := 3) (As := []) (by decide) (j_length (by decide)) cw_448 w_388 w_389 (by decide) rfl rfl (Nat.le_of_ble_eq_true rfl) dJ0_indexOf_7cf53_14 ?_
  refine g_callS (As := [.ref (vV V 3), .int c, .int 0, .int 7]) (rest := []) (j_lindexOf c) cw_449 w_450 (by decide) rfl rfl (Nat.le_of_ble_eq_true rfl) dJ0_indexOf_7cf53_17 ?_
  refine g_goto (tgt := 36) dJ0_indexOf_7cf53_20 (by decide) ?_
  exact g_iret dJ0_indexOf_7cf53_36 .int rfl rfl
theorem j_indexOf {V : eV} {h : aH} (c : Int32) : eE V 3 yJ0_indexOf_0f7a4 cJ0_indexOf_0f7a4 2 (some .int) [.ref (vK V 3), .int c] h (some (.int (ixK c))) h := by
  refine eE_of (by decide) (Nat.le_of_ble_eq_true rfl) ?_
  show gG V (cJ0_indexOf_0f7a4, "java/lang/String", "indexOf", some .int, 2, 3) 0 [(0, .ref (vK V 3)), (1, .int c)] [] h _ h
  refine g_aload_n 0 dJ0_indexOf_0f7a4_0 rfl rfl ?_
  refine g_iload_n 1 dJ0_indexOf_0f7a4_1 rfl rfl ?_
  refine g_iconst (v := 0) dJ0_indexOf_0f7a4_2 rfl ?_
  refine g_callT (i := 3) (As := [.int c, .int 0]) (by decide) (j_indexOf2 c) cw_444 w_445 w_446 (by decide) rfl rfl (Nat.le_of_ble_eq_true rfl) dJ0_indexOf_0f7a4_3 ?_
  exact g_iret dJ0_indexOf_0f7a4_6 .int rfl rfl
