-- ===== end of PART A; then your names; then what follows =====
/-! THE CLAIM OUT OF ONE WALK OF THE LAW'S BODY. Your part is whole_start (and what it stands on); all else here is the same for every law, but numbers. -/
def R_law : String := "WhoseHourItIsLaw"
def lw_P (b : Addr) (xs : List Int32) (args : Array Value) (s : State) : Prop := args = #[.ref b] ∧ s.IntsAt b xs ∧ xs.length ≤ 256 ∧ (Jvm.Cond.and given_1 narrow_1).before args s = true
def lw_Q (_ : Array Value) (s : State) (o : Outcome) (t : State) : Prop := o = .returned (some (.int 1)) ∧ Framed s o t [] 600000 7302249
def lw_Z (below : List Frame) (a : Array Value) (s : State) : State → Prop := fun t => ∃ o, t.status = .running ∧ Ended t below o ∧ lw_Q a s o t
/-- the law's own end, with 1 on the stack, nothing written that was there before, its room as the claim has it -/
theorem lw_ret {p : Program} {l : Launch} {e : Env} {s : State} {m : MethodId} {below : List Frame} {meth : Method} {c : Code} {b : Nat} (hx : p.tables.exec = Jvm.exec) (hb : c.code = code) (hr : meth.sig.returnType = ret) (hlocks : meth.locks = false) {pc : Nat} {H : Heap} {ls : Array Slot} (hdg : decode code pc = .ok (.ireturn, 1)) : W p l e room_1 s m #[Value.ref b] below meth c H [] 600000 7302249 (lw_Z below #[Value.ref b] s) (F0 m pc ls [.int 1]) := by
  intro T hT X
  obtain ⟨fs, hret, hrun, hended, hW, hframe⟩ := X.leave (v := some (.int 1)) (hlocks := hlocks) (fun h => by rw [hr] at h; cases h)
  have hmeth' : T.vm.method? m = some meth := X.method'
  refine ⟨T.setFrames fs, ?_, .returned (some (.int 1)), hrun, hended, rfl, ⟨_, rfl⟩, hW, hframe⟩
  jvm_step X.here [X.here.top, hx, hb, hdg, hmeth', hr, ret, narrow_b1]
  (try refine ⟨rfl, ?_⟩); (try refine ⟨rfl, ?_⟩)
  first | (intro acts; rw [hret _ acts rfl rfl rfl]) | rw [hret _ _ rfl rfl rfl]
  exact Steps.refl _
/-- what holds at the law's entry: the machine, the code, the tables' words (any of lw_tbl by 'hts w (by decide +kernel)'), the script of L ints xs at the cell b, what the Statement gives of the start (any of its parts by flat_of_before) -/
def lw_At (p : Program) (s : State) (m : MethodId) (meth : Method) (c : Code) (b L : Nat) (xs : Nat → Int32) : Prop :=
  p.tables.exec = Jvm.exec ∧ c.code = code ∧ meth.sig.returnType = ret ∧ c.maxLocals = 4 ∧ s.vm.findClass R_law = some m.cls ∧ (∀ w ∈ lw_tbl, w.before #[Value.ref b] s = true) ∧ va_X b L xs s s.heap ∧ b < s.heap.size ∧ meth.locks = false ∧ (Jvm.Cond.and given_1 narrow_1).before #[Value.ref b] s = true
/-! the start: what the statement gives, in the words of wK -/
theorem over_spec {args : Array Value} {s : State} (h : (Cond.arrayOver (.array .int)).before args s = true) : ∃ comp c k, s.vm.findClass (FieldType.array .int).toString = some comp ∧ s.vm.classes[c]? = some k ∧ k.kind = .array comp (.array .int) ∧ s.vm.findClass ("[" ++ (FieldType.array .int).toString) = some c := by
  unfold Cond.before at h
  simp only [Cond.holds, Cond.value, beq_iff_eq] at h
  cases hc : s.vm.findClass (FieldType.array .int).toString with
  | none => simp [hc] at h
  | some comp =>
    simp only [hc, Option.bind_some, Option.bind_eq_some_iff, Option.map_eq_some_iff] at h
    obtain ⟨c, hi, k, hk, hb⟩ := h
    obtain ⟨hlt, hp, -⟩ := Array.findIdx?_eq_some_iff_getElem.mp hi
    rw [(Array.getElem?_eq_some_iff.mp hk).2] at hp
    cases hkind : k.kind with
    | array component ty =>
      rw [hkind] at hb hp
      simp at hb hp
      exact ⟨comp, c, k, rfl, hk, by rw [hkind, hp, hb.1], hb.2⟩
    | _ => rw [hkind] at hb; simp at hb
def tmK (i : Nat) : Term := .string RX6 (txK i).1
theorem fl_ex : ∀ i : Fin 4, Cond.exactly (tmK i.val) "java/lang/String" ∈ flatC (Jvm.Cond.and given_1 narrow_1) := by decide +kernel
theorem fl_co : ∀ i : Fin 4, Cond.eq (.field (tmK i.val) "java/lang/String" "coder" "B") (.int 0) ∈ flatC (Jvm.Cond.and given_1 narrow_1) := by decide +kernel
theorem fl_ar : ∀ i : Fin 4, Cond.arrayOf (.field (tmK i.val) "java/lang/String" "value" "[B") .byte ∈ flatC (Jvm.Cond.and given_1 narrow_1) := by decide +kernel
theorem fl_le : ∀ i : Fin 4, Cond.eq (.length (.field (tmK i.val) "java/lang/String" "value" "[B")) (.int (Int32.ofNat (txL.getD i.val 0))) ∈ flatC (Jvm.Cond.and given_1 narrow_1) := by decide +kernel
theorem fl_el : ∀ i : Fin 4, ∀ j : Fin 11, j.val < txL.getD i.val 0 → Cond.eq (.elem (.field (tmK i.val) "java/lang/String" "value" "[B") (.int (Int32.ofNat j.val))) (.int ((txB.getD i.val []).getD j.val 0)) ∈ flatC (Jvm.Cond.and given_1 narrow_1) := by decide +kernel
theorem fl_ne : ∀ i j : Fin 4, i ≠ j → Cond.not (Cond.eq (tmK i.val) (tmK j.val)) ∈ flatC (Jvm.Cond.and given_1 narrow_1) ∨ Cond.not (Cond.eq (tmK j.val) (tmK i.val)) ∈ flatC (Jvm.Cond.and given_1 narrow_1) := by decide +kernel
theorem fl_fe : ∀ j : Fin 6, Cond.eq (.elem (.static RX5 "FACTORIALS" "[I") (.int (Int32.ofNat j.val))) (.int (fac6 j.val)) ∈ flatC (Jvm.Cond.and given_1 narrow_1) := by decide +kernel
theorem sr_in : ∀ i : Fin 4, Cond.stringRef RX6 (txK i.val).1 (txK i.val).2 ∈ lw_tbl := by decide +kernel
set_option maxRecDepth 100000 in
theorem wk_start {p : Program} {s : State} {m : MethodId} {meth : Method} {c : Code} (l : Launch) {b L : Nat} {xs : Nat → Int32} (C0 : lw_At p s m meth c b L xs) : ∃ (D : va_G) (cI cJ : ClassId) (adK adV : Nat → Nat) (tF : Nat), wK (l, s.heap, D, cI, cJ, adK, adV, tF, b, L, xs) s := by
  obtain ⟨-, -, -, -, -, hts, hX, hbl, -, hgv⟩ := C0
  have hs := flat_of_before _ hgv
  have hB : ∀ w ∈ tB, w.before #[Value.ref b] s = true := fun w hw => hts w (List.mem_filter.mp hw).1
  have hA : ∀ a : Nat, a < s.heap.size → ¬ (fun q : Nat => s.heap.size ≤ q) a := fun a ha q => Nat.not_le.mpr ha q
  have hcl : ∀ k : Nat, ∃ q : ClassId × (Nat → Nat), ∀ r : vw_C, vwCl[k]? = some r → u_Kn s r.1 r.2.1 r.2.2 q.1 q.2 := by
    intro k
    match k with
    | 0 =>
      obtain ⟨cC, iS, h⟩ := u_known (C := RX0) (T := TX0) (N := 5) (n := 5) hB inT_0 (hB _ w_186)
      exact ⟨(cC, iS), fun r hr => by cases hr; exact h⟩
    | 1 =>
      obtain ⟨cC, iS, h⟩ := u_known (C := RX1) (T := TX1) (N := 3) (n := 3) hB inT_1 (hB _ w_213)
      exact ⟨(cC, iS), fun r hr => by cases hr; exact h⟩
    | 2 =>
      obtain ⟨cC, iS, h⟩ := u_known (C := RX2) (T := TX2) (N := 3) (n := 3) hB inT_2 (hB _ w_279)
      exact ⟨(cC, iS), fun r hr => by cases hr; exact h⟩
    | 3 =>
      obtain ⟨cC, iS, h⟩ := u_known (C := RX3) (T := TX3) (N := 8) (n := 8) hB inT_3 (hB _ w_229)
      exact ⟨(cC, iS), fun r hr => by cases hr; exact h⟩
    | 4 =>
      obtain ⟨cC, iS, h⟩ := u_known (C := RX4) (T := TX4) (N := 4) (n := 4) hB inT_4 (hB _ w_295)
      exact ⟨(cC, iS), fun r hr => by cases hr; exact h⟩
    | 5 =>
      obtain ⟨cC, iS, h⟩ := u_known (C := RX5) (T := TX5) (N := 3) (n := 3) hB inT_5 (hB _ w_262)
      exact ⟨(cC, iS), fun r hr => by cases hr; exact h⟩
    | 6 =>
      obtain ⟨cC, iS, h⟩ := u_known (C := RX6) (T := TX6) (N := 3) (n := 3) hB inT_6 (hB _ w_169)
      exact ⟨(cC, iS), fun r hr => by cases hr; exact h⟩
    | 7 =>
      obtain ⟨cC, iS, h⟩ := u_known (C := RX7) (T := TX7) (N := 12) (n := 12) hB inT_7 (hB _ w_84)
      exact ⟨(cC, iS), fun r hr => by cases hr; exact h⟩
    | 8 =>
      obtain ⟨cC, iS, h⟩ := u_known (C := RX8) (T := TX8) (N := 12) (n := 12) hB inT_8 (hB _ w_76)
      exact ⟨(cC, iS), fun r hr => by cases hr; exact h⟩
    | 9 =>
      obtain ⟨cC, iS, h⟩ := u_known (C := RX9) (T := TX9) (N := 22) (n := 22) hB inT_9 (hB _ w_924)
      exact ⟨(cC, iS), fun r hr => by cases hr; exact h⟩
    | k + 10 => exact ⟨(0, fun _ => 0), fun r hr => by cases hr⟩
  obtain ⟨D, hD⟩ := Classical.axiomOfChoice hcl
  obtain ⟨cI, kI, compI, i1, i2, i3⟩ := Cond.arrayClass_spec (hB _ w_167)
  obtain ⟨comp, cJ, kJ, j1, j2, j3, j4⟩ := over_spec (args := #[Value.ref b]) (hts _ (List.mem_of_getElem? (i := 90) (by decide +kernel)))
  have ec : cI = comp := Option.some.inj (i1.symm.trans j1)
  subst ec
  obtain ⟨adK, adV, hS, hev⟩ := vk_Sof (args := #[Value.ref b]) (s := s) (N := 4) (tm := tmK) (len := txL) (byt := txB) (A := fun q : Nat => s.heap.size ≤ q)
    (fun i hi => by have : ∀ i : Fin 4, txL.getD i.val 0 < 2 ^ 31 := by decide
                    exact this ⟨i, hi⟩) (fun i hi => hs _ (fl_ex ⟨i, hi⟩)) (fun i hi => hs _ (fl_co ⟨i, hi⟩)) (fun i hi => hs _ (fl_ar ⟨i, hi⟩)) (fun i hi => hs _ (fl_le ⟨i, hi⟩))
    (fun i hi j hj => hs _ (fl_el ⟨i, hi⟩ ⟨j, by have : ∀ i : Fin 4, txL.getD i.val 0 ≤ 11 := by decide
                                                 exact Nat.lt_of_lt_of_le hj (this ⟨i, hi⟩)⟩ hj))
    (fun i j hi hj hij => (fl_ne ⟨i, hi⟩ ⟨j, hj⟩ (fun e => hij (congrArg Fin.val e))).imp (fun h => hs _ h) (fun h => hs _ h)) hA
  obtain ⟨tF, ht, hT⟩ := va_Tof (args := #[Value.ref b]) (s := s) (tm := .static RX5 "FACTORIALS" "[I") (ty := .int) (N := 6) (f := fun j => .int (fac6 j)) (A := fun q : Nat => s.heap.size ≤ q) (by decide) (hs _ (by decide +kernel)) (va_eqt (z := Int32.ofNat 6) (hs _ (by decide +kernel))) (fun j hj => va_eqt (hs _ (fl_fe ⟨j, hj⟩))) hA
  refine ⟨(fun k => (D k).1, fun k => (D k).2), cI, cJ, adK, adV, tF, ⟨fun k r hr => hD k r hr, fun k q hk => ?_⟩, fun w hw => ?_, fun i hi => vk_R.of (A := #[Value.ref b]) (hts _ (sr_in ⟨i, hi⟩)) (hev i hi), hS, ?_, hT, ?_, ?_, hX, hbl, ⟨kJ, j2, j3⟩⟩
  · match k with
    | 0 => cases hk; exact ⟨fun n z => ⟨fun k h => (by cases h), kI, i2, compI, i3⟩, i1⟩
    | 1 => cases hk; exact ⟨fun n z => ⟨fun k h => (by cases h), kJ, j2, _, j3⟩, j4⟩
    | k + 2 => cases hk
  · obtain ⟨a, i, x, h, rfl⟩ := nwl_nest hw
    exact va_Nw.of rfl (hts _ (List.mem_filter.mp hw).1)
  · exact va_Zof (hts _ (List.mem_of_getElem? (i := 776) (by decide +kernel))) (hB _ w_63) ht hA
  · exact va_Zof (hts _ (List.mem_of_getElem? (i := 396) (by decide +kernel))) (hB _ w_67) (va_eqi (hs _ (by decide +kernel))) hA
  · exact va_Zqof (hts _ (List.mem_of_getElem? (i := 412) (by decide +kernel))) (hB _ w_69) (hs _ (by decide +kernel)) hA
/-- the whole walk, out of the plain statement of the law's loop -/
theorem start_of {p : Program} {e : Env} {s : State} {m : MethodId} {below : List Frame} {meth : Method} {c : Code} (l : Launch) {b L : Nat} {xs : Nat → Int32} (C0 : lw_At p s m meth c b L xs)
    (hp : ∀ V : eV, vN V = L → vX V = xs → ∃ q, f_L_law_L18 V fU 0 mStart = some (.inr q)) : W p l e room_1 s m #[Value.ref b] below meth c s.heap [] 0 0 (lw_Z below #[Value.ref b] s) (entryFrame m ([Value.ref b] : List Value).toArray 4) := by
  obtain ⟨D, cI, cJ, adK, adV, tF, hwk⟩ := wk_start l C0
  obtain ⟨hx, hb, hr, hml, hown, hts, hX, hbl, hlocks, hgv⟩ := C0
  obtain ⟨q, hq⟩ := hp (l, s.heap, D, cI, cJ, adK, adV, tF, b, L, xs) rfl rfl
  have key := t_L_law (V := (l, s.heap, D, cI, cJ, adK, adV, tF, b, L, xs)) (nm := meth.name) hq
  have hl := lv_entry [.ref b] (n := 4) (Nat.le_of_ble_eq_true rfl)
  rw [lg_entry_eq]
  generalize (lg_sl [Value.ref b] ++ List.replicate (4 - (lg_sl [Value.ref b]).length) Slot.unset).toArray = lsA at hl ⊢
  refine key.2 p e room_1 s m #[Value.ref b] below meth c s.heap [] lsA _ 0 0 ⟨hx, hb, hml, hr, hlocks, rfl, hown, fun w hw => hts w (List.mem_filter.mp hw).1, hwk, Nat.le_of_ble_eq_true rfl, Nat.le_of_ble_eq_true rfl, fun _ _ => rfl⟩ (Nat.le_refl _) (Nat.le_refl _) (Nat.le_of_ble_eq_true rfl) (Nat.le_of_ble_eq_true rfl) ⟨rfl, fun _ _ => rfl, fun a ha => absurd ha (Nat.not_lt_zero _)⟩ va_S.rf hl ?_
  intro H' locs' lsA' pc' hM' hS' hR
  refine va_forget (fun q hq => hS'.2.2 q hq) ?_
  refine W.widen (k := 600000) (n := 7302249) (Nat.le_of_ble_eq_true rfl) (Nat.le_of_ble_eq_true rfl) ?_
  exact lw_ret hx hb hr hlocks hR.1
