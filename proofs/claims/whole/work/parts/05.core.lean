/-! THE CORE: a light judgement G over the machine's W: an abstract heap (count of cells, count of slots, shapes, int contents), relative addresses -/
abbrev mM : Type := Nat → Nat → Int32
/-- a cell's shape: an int row of a length; a row of int rows (how many, the first one's address: they lie one behind the other); an object (number of its kind, its fields: 0 an int, 1 null, r + 2 the cell r) -/
abbrev hSh : Type := Nat ⊕ ((Nat × Nat) ⊕ (Nat × List Nat))
abbrev aH : Type := Nat × Nat × (Nat → hSh) × mM
/-- launch; heap at the law's entry; kinds' tables; classes of int[] and int[][]; places of text constants and of their bytes; place of the static row; the script's place, length, contents -/
abbrev eV : Type := Launch × Heap × va_G × ClassId × ClassId × (Nat → Nat) × (Nat → Nat) × Nat × Nat × Nat × (Nat → Int32)
abbrev vL (V : eV) : Launch := V.1
abbrev vH (V : eV) : Heap := V.2.1
abbrev vB (V : eV) : Nat := V.2.1.size
abbrev vD (V : eV) : va_G := V.2.2.1
abbrev vI (V : eV) : ClassId := V.2.2.2.1
abbrev vJ (V : eV) : ClassId := V.2.2.2.2.1
abbrev vK (V : eV) : Nat → Nat := V.2.2.2.2.2.1
abbrev vV (V : eV) : Nat → Nat := V.2.2.2.2.2.2.1
abbrev vF (V : eV) : Nat := V.2.2.2.2.2.2.2.1
abbrev vS (V : eV) : Nat := V.2.2.2.2.2.2.2.2.1
abbrev vN (V : eV) : Nat := V.2.2.2.2.2.2.2.2.2.1
abbrev vX (V : eV) : Nat → Int32 := V.2.2.2.2.2.2.2.2.2.2
def vA (V : eV) : Nat → Prop := fun q => vB V ≤ q
def m_up (m : mM) (a i : Nat) (v : Int32) : mM := fun b j => if b = a ∧ j = i then v else m b j
theorem m_up_eq (m : mM) (a i : Nat) (v : Int32) : m_up m a i v a i = v := if_pos ⟨rfl, rfl⟩
theorem m_up_na {m : mM} {a i b j : Nat} {v : Int32} (h : b ≠ a) : m_up m a i v b j = m b j := if_neg (fun q => h q.1)
theorem m_up_ni {m : mM} {a i b j : Nat} {v : Int32} (h : j ≠ i) : m_up m a i v b j = m b j := if_neg (fun q => h q.2)
def m_clr (m : mM) (a : Nat) : mM := fun b j => if b = a then 0 else m b j
def m_clrs (m : mM) (a n : Nat) : mM := fun b j => if a ≤ b ∧ b < a + n then 0 else m b j
def s_up (f : Nat → hSh) (a : Nat) (x : hSh) : Nat → hSh := fun b => if b = a then x else f b
def s_ups (f : Nat → hSh) (a n : Nat) (x : hSh) : Nat → hSh := fun b => if a ≤ b ∧ b < a + n then x else f b
def f_v (B : Nat) (m : mM) (a k z : Nat) : Value := match z with
  | 0 => .int (m a k)
  | 1 => .null
  | r + 2 => .ref (B + r)
def c_A (V : eV) (h : aH) (a : Nat) (H : Heap) : Prop := match h.2.2.1 a with
  | .inl n => H[vB V + a]? = some (arrV (vI V) n (fun j => .int (h.2.2.2 a j)))
  | .inr (.inl (n, r)) => H[vB V + a]? = some (arrV (vJ V) n (fun j => .ref (vB V + (r + j))))
  | .inr (.inr (ci, fs)) => ∃ q : vw_C, vwCl[ci]? = some q ∧ t_OB (vB V + a) ((vD V).1 ci) q.2.2 ((vD V).2 ci) H (fun k => f_v (vB V) h.2.2.2 a k (fs.getD k 0))
def mT (V : eV) (h : aH) (H : Heap) : Prop := H.size = vB V + h.1 ∧ (∀ q : Nat, q < vB V → H[q]? = (vH V)[q]?) ∧ ∀ a : Nat, a < h.1 → c_A V h a H
/-- the tables' words that a warmer machine keeps -/
def tB : List Cond := lw_tbl.filter goodWord
theorem tB_in {w : Cond} (i : Nat) (h : lw_tbl[i]? = some w) (hg : goodWord w = true) : w ∈ tB := List.mem_filter.mpr ⟨List.mem_of_getElem? h, hg⟩
theorem tB_good {w : Cond} (h : w ∈ tB) : (w.onTables && w.keeps) = true ∨ ∃ ty, w = .arrayClass ty := good_of_word (List.mem_filter.mp h).2
def nwl : List Cond := lw_tbl.filter (fun w => match w with | .methodLinkNest _ _ _ _ => true | _ => false)
def txK : Nat → Nat × String := fun i => match i with
  | 0 => (66, "hDN-N;")
  | 1 => (68, "wDRD,N,N,D;")
  | 2 => (70, "pKDD;")
  | _ => (72, "oysjknt")
def txL : List Nat := [6, 11, 5, 7]
def txB : List (List Int32) := [[104, 68, 78, 45, 78, 59], [119, 68, 82, 68, 44, 78, 44, 78, 44, 68, 59], [112, 75, 68, 68, 59], [111, 121, 115, 106, 107, 110, 116]]
def fac6 : Nat → Int32 := fun j => [1, 1, 2, 6, 24, 120].getD j 0
/-- rows of rows are rows of the rows' kind -/
def jJ (V : eV) (U : State) : Prop := ∃ k : Class, U.vm.classes[vJ V]? = some k ∧ k.kind = .array (vI V) (.array .int)
theorem jJ_moved {V : eV} {u U : State} (hvm : u.vm.Alike U.vm) (h : jJ V u) : jJ V U := by
  obtain ⟨k, h1, h2⟩ := h
  obtain ⟨k', hk', he⟩ := hvm.2.2 _ _ h1
  exact ⟨k', hk', by rw [he]; exact h2⟩
/-- what the tables and the cells of the start say, at a state -/
def wK (V : eV) (U : State) : Prop := va_K (vD V) vwCl [(vI V, .int), (vJ V, .array .int)] U ∧ (∀ w ∈ nwl, va_Nw w U) ∧ (∀ i : Nat, i < 4 → vk_R RX6 (txK i).1 (txK i).2 (vK V i) U) ∧ vk_S 4 txL txB (vK V) (vV V) (vA V) U (vH V) ∧
  va_Z RX5 "FACTORIALS" "[I" (.ref (vF V)) (vA V) U (vH V) ∧ va_T .int (vF V) 6 (fun j => .int (fac6 j)) (vA V) U (vH V) ∧ va_Z "java/lang/String" "COMPACT_STRINGS" "Z" (.int 1) (vA V) U (vH V) ∧ va_Zq "jdk/internal/util/Preconditions" "SIOOBE_FORMATTER" "Ljava/util/function/BiFunction;" (vA V) U (vH V) ∧ va_X (vS V) (vN V) (vX V) U (vH V) ∧ vS V < vB V ∧ jJ V U
theorem x_moved {b L : Nat} {xs : Nat → Int32} {u U : State} {H : Heap} (hvm : u.vm.Alike U.vm) (h : va_X b L xs u H) : va_X b L xs U H := by
  obtain ⟨scr, h1, h2, h3⟩ := h
  exact ⟨scr, h1, State.isArrayOf_alike hvm h2, h3⟩
theorem nwl_nest {w : Cond} (h : w ∈ nwl) : ∃ a i x b, w = .methodLinkNest a i x b := by
  have h2 := (List.mem_filter.mp h).2
  cases w <;> first | exact ⟨_, _, _, _, rfl⟩ | cases h2
theorem wK_warm {V : eV} {s U : State} (hW : s.WarmedH U.vm) (h : wK V s) : wK V U := by
  obtain ⟨h1, h2, h3, h4, h5, h6, h7, h8, h9, h10, h11⟩ := h
  refine ⟨va_K.moved hW.alike h1, fun w hw => ?_, fun i hi => vk_R.warm hW (h3 i hi), vk_S.moved hW.alike h4, va_Z.moved hW.alike h5, va_T.moved hW.alike h6, va_Z.moved hW.alike h7, va_Zq.moved hW.alike h8, x_moved hW.alike h9, h10, jJ_moved hW.alike h11⟩
  obtain ⟨a, i, x, b, rfl⟩ := nwl_nest hw
  exact va_Nw.warmM hW (h2 _ hw)
theorem wK_same {V : eV} {s U : State} (hv : s.vm = U.vm) (h : wK V s) : wK V U := by
  obtain ⟨h1, h2, h3, h4, h5, h6, h7, h8, h9, h10, h11⟩ := h
  have ha : s.vm.Alike U.vm := by rw [hv]; exact Vm.Alike.refl _
  refine ⟨va_K.moved ha h1, fun w hw => ?_, fun i hi => vk_R.same hv.symm (h3 i hi), vk_S.moved ha h4, va_Z.moved ha h5, va_T.moved ha h6, va_Z.moved ha h7, va_Zq.moved ha h8, x_moved ha h9, h10, jJ_moved ha h11⟩
  obtain ⟨a, i, x, b, rfl⟩ := nwl_nest hw
  exact va_Nw.same rfl hv (h2 _ hw)
/-- a method: code, class, name, answer's type, locals, depth of calls -/
abbrev kX : Type := ByteArray × String × String × Option FieldType × Nat × Nat
def cX (V : eV) (K : kX) (p : Program) (R : Room) (s : State) (m : MethodId) (args : Array Value) (meth : Method) (c : Code) : Prop :=
  p.tables.exec = Jvm.exec ∧ c.code = K.1 ∧ c.maxLocals = K.2.2.2.2.1 ∧ meth.sig.returnType = K.2.2.2.1 ∧ meth.locks = false ∧ meth.name = K.2.2.1 ∧ s.vm.findClass K.2.1 = some m.cls ∧ (∀ w ∈ tB, w.before args s = true) ∧ wK V s ∧ K.2.2.2.2.2 ≤ R.frames ∧ 64 * K.2.2.2.2.2 ≤ R.locals ∧ ∀ q : Nat, q < vB V → s.heap[q]? = (vH V)[q]?
/-- an end: the instruction there gives this answer back -/
def rT (K : kX) (pc : Nat) (r : Option Value) : Prop := match r with
  | none => decode K.1 pc = .ok (.return_, 1) ∧ K.2.2.2.1 = none
  | some (.int v) => decode K.1 pc = .ok (.ireturn, 1) ∧ ∃ ty, K.2.2.2.1 = some ty ∧ narrow ty (.int v) = .int v
  | some (.ref _) => decode K.1 pc = .ok (.areturn, 1) ∧ ∃ nm, K.2.2.2.1 = some (.object nm)
  | _ => False
def gG (V : eV) (K : kX) (pc : Nat) (ls : List (Nat × Value)) (st : List Value) (h : aH) (r : Option Value) (h' : aH) : Prop :=
  (h.1 ≤ h'.1 ∧ h.2.1 ≤ h'.2.1) ∧ ∀ (p : Program) (e : Env) (R : Room) (s : State) (m : MethodId) (args : Array Value) (below : List Frame) (meth : Method) (c : Code) (H : Heap) (locs : List Loc) (lsA : Array Slot) (Q : State → Prop) (n0 u0 : Nat),
    cX V K p R s m args meth c → n0 ≤ h.1 → u0 ≤ h.2.1 → h'.1 - n0 ≤ R.cells → h'.2.1 - u0 ≤ R.slots → mT V h H → va_S (vA V) s.heap H locs → lv_has lsA K.2.2.2.2.1 ls →
    (∀ (H' : Heap) (locs' : List Loc) (lsA' : Array Slot) (pc' : Nat), mT V h' H' → va_S (vA V) s.heap H' locs' → rT K pc' r → W p (vL V) e R s m args below meth c H' locs' (h'.1 - n0) (h'.2.1 - u0) Q (F0 m pc' lsA' r.toList)) →
    W p (vL V) e R s m args below meth c H locs (h.1 - n0) (h.2.1 - u0) Q (F0 m pc lsA st)
section Rows
variable {V : eV} {K : kX} {pc pc' : Nat} {ls ls' : List (Nat × Value)} {st st' : List Value} {h h1 h' : aH} {r : Option Value}
theorem g_go (f : ∀ {p : Program} {e : Env} {R : Room} {s : State} {m : MethodId} {args : Array Value} {below : List Frame} {meth : Method} {c : Code} {H : Heap} {locs : List Loc} {lsA : Array Slot} {Q : State → Prop} {x y : Nat}, cX V K p R s m args meth c → lv_has lsA K.2.2.2.2.1 ls → W p (vL V) e R s m args below meth c H locs x y Q (F0 m pc' lsA st') → W p (vL V) e R s m args below meth c H locs x y Q (F0 m pc lsA st))
    (k : gG V K pc' ls st' h r h') : gG V K pc ls st h r h' :=
  ⟨k.1, fun p e R s m args below meth c H locs lsA Q n0 u0 C a1 a2 a3 a4 hM hS hl hk => f C hl (k.2 p e R s m args below meth c H locs lsA Q n0 u0 C a1 a2 a3 a4 hM hS hl hk)⟩
theorem g_sub (ks : List Nat) (hl : lv_pick ls ks = ls') (k : gG V K pc ls' st h r h') : gG V K pc ls st h r h' :=
  ⟨k.1, fun p e R s m args below meth c H locs lsA Q n0 u0 C a1 a2 a3 a4 hM hS hl0 hk => k.2 p e R s m args below meth c H locs lsA Q n0 u0 C a1 a2 a3 a4 hM hS (lv_sub hl0 ks hl) hk⟩
theorem g_iconst {n : Int} {v : Int32} (hd : decode K.1 pc = .ok (.iconst n, 1)) (hv : Int32.ofInt n = v) (k : gG V K (pc + 1) ls (.int v :: st) h r h') : gG V K pc ls st h r h' := g_go (fun C _ k => lv_iconst C.1 C.2.1 hd hv k) k
theorem g_bipush {n : Int} {v : Int32} (hd : decode K.1 pc = .ok (.bipush n, 2)) (hv : (Int8.ofInt n).toInt32 = v) (k : gG V K (pc + 2) ls (.int v :: st) h r h') : gG V K pc ls st h r h' := g_go (fun C _ k => lv_bipush C.1 C.2.1 hd hv k) k
theorem g_sipush {n : Int} {v : Int32} (hd : decode K.1 pc = .ok (.sipush n, 3)) (hv : (Int16.ofInt n).toInt32 = v) (k : gG V K (pc + 3) ls (.int v :: st) h r h') : gG V K pc ls st h r h' := g_go (fun C _ k => lv_sipush C.1 C.2.1 hd hv k) k
theorem g_iload_n {j : Fin 4} {i : Nat} {x : Int32} (q : Nat) (hd : decode K.1 pc = .ok (.iload_n j, 1)) (hi : (j : Nat) = i) (hl : ls[q]? = some (i, .int x)) (k : gG V K (pc + 1) ls (.int x :: st) h r h') : gG V K pc ls st h r h' := g_go (fun C hL k => lv_iload_n C.1 C.2.1 hd hi (lv_at hL q hl) k) k
theorem g_iload {i : Nat} {x : Int32} (q : Nat) (hd : decode K.1 pc = .ok (.iload i, 2)) (hl : ls[q]? = some (i, .int x)) (k : gG V K (pc + 2) ls (.int x :: st) h r h') : gG V K pc ls st h r h' := g_go (fun C hL k => lv_iload C.1 C.2.1 hd (lv_at hL q hl) k) k
theorem g_lload_n {j : Fin 4} {i : Nat} {x : Int64} (q : Nat) (hd : decode K.1 pc = .ok (.lload_n j, 1)) (hi : (j : Nat) = i) (hl : ls[q]? = some (i, .long x)) (k : gG V K (pc + 1) ls (.long x :: st) h r h') : gG V K pc ls st h r h' := g_go (fun C hL k => lv_lload_n C.1 C.2.1 hd hi (lv_at hL q hl) k) k
theorem g_aload_n {j : Fin 4} {i : Nat} {x : Nat} (q : Nat) (hd : decode K.1 pc = .ok (.aload_n j, 1)) (hi : (j : Nat) = i) (hl : ls[q]? = some (i, .ref x)) (k : gG V K (pc + 1) ls (.ref x :: st) h r h') : gG V K pc ls st h r h' := g_go (fun C hL k => lv_aload_n C.1 C.2.1 hd hi (lv_at hL q hl) k) k
theorem g_aload {i : Nat} {x : Nat} (q : Nat) (hd : decode K.1 pc = .ok (.aload i, 2)) (hl : ls[q]? = some (i, .ref x)) (k : gG V K (pc + 2) ls (.ref x :: st) h r h') : gG V K pc ls st h r h' := g_go (fun C hL k => lv_aload C.1 C.2.1 hd (lv_at hL q hl) k) k
/-- locals behind a store -/
def l_st (i : Nat) (v : Value) (ls : List (Nat × Value)) : List (Nat × Value) := (i, v) :: ls.filter (fun q => !(q.1 == i) && !(q.1 + 1 == i && q.2.category == 2))
theorem g_goL (f : ∀ {p : Program} {e : Env} {R : Room} {s : State} {m : MethodId} {args : Array Value} {below : List Frame} {meth : Method} {c : Code} {H : Heap} {locs : List Loc} {lsA : Array Slot} {Q : State → Prop} {x y : Nat}, cX V K p R s m args meth c → lv_has lsA K.2.2.2.2.1 ls → (∀ lsB, lv_has lsB K.2.2.2.2.1 ls' → W p (vL V) e R s m args below meth c H locs x y Q (F0 m pc' lsB st')) → W p (vL V) e R s m args below meth c H locs x y Q (F0 m pc lsA st))
    (k : gG V K pc' ls' st' h r h') : gG V K pc ls st h r h' :=
  ⟨k.1, fun p e R s m args below meth c H locs lsA Q n0 u0 C a1 a2 a3 a4 hM hS hl hk => f C hl (fun lsB hB => k.2 p e R s m args below meth c H locs lsB Q n0 u0 C a1 a2 a3 a4 hM hS hB hk)⟩
theorem g_istore_n {j : Fin 4} {i : Nat} {x : Int32} (hd : decode K.1 pc = .ok (.istore_n j, 1)) (hi : (j : Nat) = i) (hn : i < K.2.2.2.2.1) (hl : l_st i (.int x) ls = ls') (k : gG V K (pc + 1) ls' st h r h') : gG V K pc ls (.int x :: st) h r h' := g_goL (fun C hL k => lv_istore_n C.1 C.2.1 hd hi hL hn hl k) k
theorem g_istore {i : Nat} {x : Int32} (hd : decode K.1 pc = .ok (.istore i, 2)) (hn : i < K.2.2.2.2.1) (hl : l_st i (.int x) ls = ls') (k : gG V K (pc + 2) ls' st h r h') : gG V K pc ls (.int x :: st) h r h' := g_goL (fun C hL k => lv_istore C.1 C.2.1 hd hL hn hl k) k
theorem g_astore_n {j : Fin 4} {i : Nat} {x : Nat} (hd : decode K.1 pc = .ok (.astore_n j, 1)) (hi : (j : Nat) = i) (hn : i < K.2.2.2.2.1) (hl : l_st i (.ref x) ls = ls') (k : gG V K (pc + 1) ls' st h r h') : gG V K pc ls (.ref x :: st) h r h' := g_goL (fun C hL k => lv_astore_n C.1 C.2.1 hd hi hL hn hl k) k
theorem g_astore {i : Nat} {x : Nat} (hd : decode K.1 pc = .ok (.astore i, 2)) (hn : i < K.2.2.2.2.1) (hl : l_st i (.ref x) ls = ls') (k : gG V K (pc + 2) ls' st h r h') : gG V K pc ls (.ref x :: st) h r h' := g_goL (fun C hL k => lv_astore C.1 C.2.1 hd hL hn hl k) k
theorem g_iinc {i q : Nat} {n : Int} {x v : Int32} (hd : decode K.1 pc = .ok (.iinc i n, 3)) (hq : ls[q]? = some (i, .int x)) (hv : x + Int32.ofInt n = v) (hn : i < K.2.2.2.2.1) (hl : l_st i (.int v) ls = ls') (k : gG V K (pc + 3) ls' st h r h') : gG V K pc ls st h r h' := g_goL (fun C hL k => lv_iinc C.1 C.2.1 hd hL hq hv hn hl k) k
theorem g_iadd {x y : Int32} (hd : decode K.1 pc = .ok (.iadd, 1)) (k : gG V K (pc + 1) ls (.int (x + y) :: st) h r h') : gG V K pc ls (.int y :: .int x :: st) h r h' := g_go (fun C _ k => lv_iadd C.1 C.2.1 hd k) k
theorem g_isub {x y : Int32} (hd : decode K.1 pc = .ok (.isub, 1)) (k : gG V K (pc + 1) ls (.int (x - y) :: st) h r h') : gG V K pc ls (.int y :: .int x :: st) h r h' := g_go (fun C _ k => lv_isub C.1 C.2.1 hd k) k
theorem g_imul {x y : Int32} (hd : decode K.1 pc = .ok (.imul, 1)) (k : gG V K (pc + 1) ls (.int (x * y) :: st) h r h') : gG V K pc ls (.int y :: .int x :: st) h r h' := g_go (fun C _ k => lv_imul C.1 C.2.1 hd k) k
theorem g_iand {x y : Int32} (hd : decode K.1 pc = .ok (.iand, 1)) (k : gG V K (pc + 1) ls (.int (x &&& y) :: st) h r h') : gG V K pc ls (.int y :: .int x :: st) h r h' := g_go (fun C _ k => lv_iand C.1 C.2.1 hd k) k
theorem g_ior {x y : Int32} (hd : decode K.1 pc = .ok (.ior, 1)) (k : gG V K (pc + 1) ls (.int (x ||| y) :: st) h r h') : gG V K pc ls (.int y :: .int x :: st) h r h' := g_go (fun C _ k => lv_ior C.1 C.2.1 hd k) k
theorem g_ixor {x y : Int32} (hd : decode K.1 pc = .ok (.ixor, 1)) (k : gG V K (pc + 1) ls (.int (x ^^^ y) :: st) h r h') : gG V K pc ls (.int y :: .int x :: st) h r h' := g_go (fun C _ k => lv_ixor C.1 C.2.1 hd k) k
theorem g_idiv {x y : Int32} (hd : decode K.1 pc = .ok (.idiv, 1)) (hy : ¬ y = 0) (k : gG V K (pc + 1) ls (.int (x / y) :: st) h r h') : gG V K pc ls (.int y :: .int x :: st) h r h' := g_go (fun C _ k => lv_idiv C.1 C.2.1 hd hy k) k
theorem g_irem {x y : Int32} (hd : decode K.1 pc = .ok (.irem, 1)) (hy : ¬ y = 0) (k : gG V K (pc + 1) ls (.int (x - x / y * y) :: st) h r h') : gG V K pc ls (.int y :: .int x :: st) h r h' := g_go (fun C _ k => lv_irem C.1 C.2.1 hd hy k) k
theorem g_ineg {x : Int32} (hd : decode K.1 pc = .ok (.ineg, 1)) (k : gG V K (pc + 1) ls (.int (-x) :: st) h r h') : gG V K pc ls (.int x :: st) h r h' := g_go (fun C _ k => lv_ineg C.1 C.2.1 hd k) k
theorem g_ishl {x y : Int32} (hd : decode K.1 pc = .ok (.ishl, 1)) (k : gG V K (pc + 1) ls (.int (x <<< (y &&& 31)) :: st) h r h') : gG V K pc ls (.int y :: .int x :: st) h r h' := g_go (fun C _ k => lv_ishl C.1 C.2.1 hd k) k
theorem g_ishr {x y : Int32} (hd : decode K.1 pc = .ok (.ishr, 1)) (k : gG V K (pc + 1) ls (.int (x >>> (y &&& 31)) :: st) h r h') : gG V K pc ls (.int y :: .int x :: st) h r h' := g_go (fun C _ k => lv_ishr C.1 C.2.1 hd k) k
theorem g_iushr {x y : Int32} (hd : decode K.1 pc = .ok (.iushr, 1)) (k : gG V K (pc + 1) ls (.int ((x.toUInt32 >>> (y.toUInt32 &&& Int32.toUInt32 31)).toInt32) :: st) h r h') : gG V K pc ls (.int y :: .int x :: st) h r h' := g_go (fun C _ k => lv_iushr C.1 C.2.1 hd rfl k) k
theorem g_i2l {x : Int32} (hd : decode K.1 pc = .ok (.i2l, 1)) (k : gG V K (pc + 1) ls (.long x.toInt64 :: st) h r h') : gG V K pc ls (.int x :: st) h r h' := g_go (fun C _ k => lv_i2l C.1 C.2.1 hd rfl k) k
theorem g_l2i {x : Int64} (hd : decode K.1 pc = .ok (.l2i, 1)) (k : gG V K (pc + 1) ls (.int x.toInt32 :: st) h r h') : gG V K pc ls (.long x :: st) h r h' := g_go (fun C _ k => lv_l2i C.1 C.2.1 hd rfl k) k
theorem g_i2c {x : Int32} (hd : decode K.1 pc = .ok (.i2c, 1)) (k : gG V K (pc + 1) ls (.int (x.toUInt32 % 65536).toInt32 :: st) h r h') : gG V K pc ls (.int x :: st) h r h' := g_go (fun C _ k => lv_i2c C.1 C.2.1 hd rfl k) k
theorem g_i2b {x : Int32} (hd : decode K.1 pc = .ok (.i2b, 1)) (k : gG V K (pc + 1) ls (.int x.toInt8.toInt32 :: st) h r h') : gG V K pc ls (.int x :: st) h r h' := g_go (fun C _ k => lv_i2b C.1 C.2.1 hd rfl k) k
theorem g_lushr {x : Int64} {y : Int32} (hd : decode K.1 pc = .ok (.lushr, 1)) (k : gG V K (pc + 1) ls (.long ((x.toUInt64 >>> (y.toInt64.toUInt64 &&& Int64.toUInt64 63)).toInt64) :: st) h r h') : gG V K pc ls (.int y :: .long x :: st) h r h' := g_go (fun C _ k => lv_lushr C.1 C.2.1 hd rfl k) k
theorem g_lshl {x : Int64} {y : Int32} (hd : decode K.1 pc = .ok (.lshl, 1)) (k : gG V K (pc + 1) ls (.long (x <<< (y.toInt64 &&& 63)) :: st) h r h') : gG V K pc ls (.int y :: .long x :: st) h r h' := g_go (fun C _ k => lv_lshl C.1 C.2.1 hd rfl k) k
theorem g_lshr {x : Int64} {y : Int32} (hd : decode K.1 pc = .ok (.lshr, 1)) (k : gG V K (pc + 1) ls (.long (x >>> (y.toInt64 &&& 63)) :: st) h r h') : gG V K pc ls (.int y :: .long x :: st) h r h' := g_go (fun C _ k => lv_lshr C.1 C.2.1 hd rfl k) k
theorem g_land {x y : Int64} (hd : decode K.1 pc = .ok (.land, 1)) (k : gG V K (pc + 1) ls (.long (x &&& y) :: st) h r h') : gG V K pc ls (.long y :: .long x :: st) h r h' := g_go (fun C _ k => lv_land C.1 C.2.1 hd k) k
theorem g_lor {x y : Int64} (hd : decode K.1 pc = .ok (.lor, 1)) (k : gG V K (pc + 1) ls (.long (x ||| y) :: st) h r h') : gG V K pc ls (.long y :: .long x :: st) h r h' := g_go (fun C _ k => lv_lor C.1 C.2.1 hd k) k
theorem g_dup {v : Value} (hd : decode K.1 pc = .ok (.dup, 1)) (hv : v.category = 1) (k : gG V K (pc + 1) ls (v :: v :: st) h r h') : gG V K pc ls (v :: st) h r h' := g_go (fun C _ k => lv_dup C.1 C.2.1 hd hv k) k
theorem g_dup_x1 {v w : Value} (hd : decode K.1 pc = .ok (.dup_x1, 1)) (hv : v.category = 1) (hw : w.category = 1) (k : gG V K (pc + 1) ls (v :: w :: v :: st) h r h') : gG V K pc ls (v :: w :: st) h r h' := g_go (fun C _ k => lv_dup_x1 C.1 C.2.1 hd hv hw k) k
theorem g_dup2 {v w : Value} (hd : decode K.1 pc = .ok (.dup2, 1)) (hv : v.category = 1) (hw : w.category = 1) (k : gG V K (pc + 1) ls (v :: w :: v :: w :: st) h r h') : gG V K pc ls (v :: w :: st) h r h' := g_go (fun C _ k => lv_dup2_11 C.1 C.2.1 hd hv hw k) k
theorem g_pop {v : Value} (hd : decode K.1 pc = .ok (.pop, 1)) (hv : v.category = 1) (k : gG V K (pc + 1) ls st h r h') : gG V K pc ls (v :: st) h r h' := g_go (fun C _ k => lv_pop C.1 C.2.1 hd hv k) k
theorem g_goto {off : Int} {tgt : Nat} (hd : decode K.1 pc = .ok (.goto off, 3)) (ht : (pc : Int) + off = (tgt : Int)) (k : gG V K tgt ls st h r h') : gG V K pc ls st h r h' := g_go (fun C _ k => lv_goto C.1 C.2.1 hd ht k) k
theorem g_br {P : Prop} {pa pb : Nat} {sa sb : List Value} (hle : h.1 ≤ h'.1 ∧ h.2.1 ≤ h'.2.1) (f : ∀ {p : Program} {e : Env} {R : Room} {s : State} {m : MethodId} {args : Array Value} {below : List Frame} {meth : Method} {c : Code} {H : Heap} {locs : List Loc} {lsA : Array Slot} {Q : State → Prop} {x y : Nat}, cX V K p R s m args meth c → (P → W p (vL V) e R s m args below meth c H locs x y Q (F0 m pa lsA sa)) → (¬ P → W p (vL V) e R s m args below meth c H locs x y Q (F0 m pb lsA sb)) → W p (vL V) e R s m args below meth c H locs x y Q (F0 m pc lsA st))
    (ka : P → gG V K pa ls sa h r h') (kb : ¬ P → gG V K pb ls sb h r h') : gG V K pc ls st h r h' :=
  ⟨hle, fun p e R s m args below meth c H locs lsA Q n0 u0 C a1 a2 a3 a4 hM hS hl hk => f C (fun q => (ka q).2 p e R s m args below meth c H locs lsA Q n0 u0 C a1 a2 a3 a4 hM hS hl hk) (fun q => (kb q).2 p e R s m args below meth c H locs lsA Q n0 u0 C a1 a2 a3 a4 hM hS hl hk)⟩
theorem g_le {P : Prop} {pa pb : Nat} {sa sb : List Value} {la lb : List (Nat × Value)} (ka : P → gG V K pa la sa h r h') (kb : ¬ P → gG V K pb lb sb h r h') : h.1 ≤ h'.1 ∧ h.2.1 ≤ h'.2.1 := by
  by_cases q : P
  · exact (ka q).1
  · exact (kb q).1
theorem g_if_eq {x : Int32} {off : Int} {tgt : Nat} (hd : decode K.1 pc = .ok (.ifCond .eq off, 3)) (ht : (pc : Int) + off = (tgt : Int)) (ka : x = 0 → gG V K tgt ls st h r h') (kb : ¬ x = 0 → gG V K (pc + 3) ls st h r h') : gG V K pc ls (.int x :: st) h r h' := g_br (g_le ka kb) (fun C a b => lv_if_eq C.1 C.2.1 hd ht a b) ka kb
theorem g_if_ne {x : Int32} {off : Int} {tgt : Nat} (hd : decode K.1 pc = .ok (.ifCond .ne off, 3)) (ht : (pc : Int) + off = (tgt : Int)) (ka : ¬ x = 0 → gG V K tgt ls st h r h') (kb : x = 0 → gG V K (pc + 3) ls st h r h') : gG V K pc ls (.int x :: st) h r h' := g_br (g_le kb ka) (fun C a b => lv_if_ne C.1 C.2.1 hd ht b a) kb ka
theorem g_if_lt {x : Int32} {off : Int} {tgt : Nat} (hd : decode K.1 pc = .ok (.ifCond .lt off, 3)) (ht : (pc : Int) + off = (tgt : Int)) (ka : x < 0 → gG V K tgt ls st h r h') (kb : ¬ x < 0 → gG V K (pc + 3) ls st h r h') : gG V K pc ls (.int x :: st) h r h' := g_br (g_le ka kb) (fun C a b => lv_if_lt C.1 C.2.1 hd ht a b) ka kb
theorem g_if_ge {x : Int32} {off : Int} {tgt : Nat} (hd : decode K.1 pc = .ok (.ifCond .ge off, 3)) (ht : (pc : Int) + off = (tgt : Int)) (ka : 0 ≤ x → gG V K tgt ls st h r h') (kb : ¬ 0 ≤ x → gG V K (pc + 3) ls st h r h') : gG V K pc ls (.int x :: st) h r h' := g_br (g_le ka kb) (fun C a b => lv_if_ge C.1 C.2.1 hd ht a b) ka kb
theorem g_if_gt {x : Int32} {off : Int} {tgt : Nat} (hd : decode K.1 pc = .ok (.ifCond .gt off, 3)) (ht : (pc : Int) + off = (tgt : Int)) (ka : 0 < x → gG V K tgt ls st h r h') (kb : ¬ 0 < x → gG V K (pc + 3) ls st h r h') : gG V K pc ls (.int x :: st) h r h' := g_br (g_le ka kb) (fun C a b => lv_if_gt C.1 C.2.1 hd ht a b) ka kb
theorem g_if_le {x : Int32} {off : Int} {tgt : Nat} (hd : decode K.1 pc = .ok (.ifCond .le off, 3)) (ht : (pc : Int) + off = (tgt : Int)) (ka : x ≤ 0 → gG V K tgt ls st h r h') (kb : ¬ x ≤ 0 → gG V K (pc + 3) ls st h r h') : gG V K pc ls (.int x :: st) h r h' := g_br (g_le ka kb) (fun C a b => lv_if_le C.1 C.2.1 hd ht a b) ka kb
theorem g_icmp_eq {x y : Int32} {off : Int} {tgt : Nat} (hd : decode K.1 pc = .ok (.if_icmp .eq off, 3)) (ht : (pc : Int) + off = (tgt : Int)) (ka : x = y → gG V K tgt ls st h r h') (kb : ¬ x = y → gG V K (pc + 3) ls st h r h') : gG V K pc ls (.int y :: .int x :: st) h r h' := g_br (g_le ka kb) (fun C a b => lv_icmp_eq C.1 C.2.1 hd ht a b) ka kb
theorem g_icmp_ne {x y : Int32} {off : Int} {tgt : Nat} (hd : decode K.1 pc = .ok (.if_icmp .ne off, 3)) (ht : (pc : Int) + off = (tgt : Int)) (ka : ¬ x = y → gG V K tgt ls st h r h') (kb : x = y → gG V K (pc + 3) ls st h r h') : gG V K pc ls (.int y :: .int x :: st) h r h' := g_br (g_le kb ka) (fun C a b => lv_icmp_ne C.1 C.2.1 hd ht b a) kb ka
theorem g_icmp_lt {x y : Int32} {off : Int} {tgt : Nat} (hd : decode K.1 pc = .ok (.if_icmp .lt off, 3)) (ht : (pc : Int) + off = (tgt : Int)) (ka : x < y → gG V K tgt ls st h r h') (kb : ¬ x < y → gG V K (pc + 3) ls st h r h') : gG V K pc ls (.int y :: .int x :: st) h r h' := g_br (g_le ka kb) (fun C a b => lv_icmp_lt C.1 C.2.1 hd ht a b) ka kb
theorem g_icmp_ge {x y : Int32} {off : Int} {tgt : Nat} (hd : decode K.1 pc = .ok (.if_icmp .ge off, 3)) (ht : (pc : Int) + off = (tgt : Int)) (ka : y ≤ x → gG V K tgt ls st h r h') (kb : ¬ y ≤ x → gG V K (pc + 3) ls st h r h') : gG V K pc ls (.int y :: .int x :: st) h r h' := g_br (g_le ka kb) (fun C a b => lv_icmp_ge C.1 C.2.1 hd ht a b) ka kb
theorem g_icmp_gt {x y : Int32} {off : Int} {tgt : Nat} (hd : decode K.1 pc = .ok (.if_icmp .gt off, 3)) (ht : (pc : Int) + off = (tgt : Int)) (ka : y < x → gG V K tgt ls st h r h') (kb : ¬ y < x → gG V K (pc + 3) ls st h r h') : gG V K pc ls (.int y :: .int x :: st) h r h' := g_br (g_le ka kb) (fun C a b => lv_icmp_gt C.1 C.2.1 hd ht a b) ka kb
theorem g_icmp_le {x y : Int32} {off : Int} {tgt : Nat} (hd : decode K.1 pc = .ok (.if_icmp .le off, 3)) (ht : (pc : Int) + off = (tgt : Int)) (ka : x ≤ y → gG V K tgt ls st h r h') (kb : ¬ x ≤ y → gG V K (pc + 3) ls st h r h') : gG V K pc ls (.int y :: .int x :: st) h r h' := g_br (g_le ka kb) (fun C a b => lv_icmp_le C.1 C.2.1 hd ht a b) ka kb
theorem g_ldc {i : Nat} {v : Int32} (hc : Cond.constant K.2.1 i v ∈ tB) (hd : decode K.1 pc = .ok (.ldc i, 2)) (k : gG V K (pc + 2) ls (.int v :: st) h r h') : gG V K pc ls st h r h' := g_go (fun C _ k => lv_ldc C.1 C.2.1 C.2.2.2.2.2.2.1 (C.2.2.2.2.2.2.2.1 _ hc) hd k) k
theorem g_ldc2 {i : Nat} {v : Int64} (hc : Cond.constantLong K.2.1 i v ∈ tB) (hd : decode K.1 pc = .ok (.ldc2_w i, 3)) (k : gG V K (pc + 3) ls (.long v :: st) h r h') : gG V K pc ls st h r h' := g_go (fun C _ k => lv_ldc2 C.1 C.2.1 C.2.2.2.2.2.2.1 (C.2.2.2.2.2.2.2.1 _ hc) hd k) k
theorem g_tableIn {dflt lo hi : Int} {offs : Array Int} {len : Nat} {x : Int32} {off : Int} {tgt : Nat} (hd : decode K.1 pc = .ok (.tableswitch dflt lo hi offs, len)) (h1 : ¬ x.toInt < lo) (h2 : ¬ hi < x.toInt) (ho : offs[(x.toInt - lo).toNat]? = some off) (ht : (pc : Int) + off = (tgt : Int)) (k : gG V K tgt ls st h r h') : gG V K pc ls (.int x :: st) h r h' := g_go (fun C _ k => lv_tableIn C.1 C.2.1 hd h1 h2 ho ht k) k
theorem g_tableOut {dflt lo hi : Int} {offs : Array Int} {len : Nat} {x : Int32} {tgt : Nat} (hd : decode K.1 pc = .ok (.tableswitch dflt lo hi offs, len)) (h1 : x.toInt < lo ∨ hi < x.toInt) (ht : (pc : Int) + dflt = (tgt : Int)) (k : gG V K tgt ls st h r h') : gG V K pc ls (.int x :: st) h r h' := g_go (fun C _ k => lv_tableOut C.1 C.2.1 hd h1 ht k) k
theorem g_lookup {dflt : Int} {ps : Array (Int × Int)} {len : Nat} {x : Int32} {off : Int} {tgt : Nat} (hd : decode K.1 pc = .ok (.lookupswitch dflt ps, len)) (hp : (ps.toList.zip (ps.toList.drop 1)).all (fun (a, next) => a.1 < next.1) = true) (ho : Op.lookupswitch.offset ps.toList dflt x.toInt = off) (ht : (pc : Int) + off = (tgt : Int)) (k : gG V K tgt ls st h r h') : gG V K pc ls (.int x :: st) h r h' := g_go (fun C _ k => lv_lookup C.1 C.2.1 hd hp ho ht k) k
end Rows
