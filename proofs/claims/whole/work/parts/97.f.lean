/-! the law -/
theorem g_op {F G : mM → Option (Int32 × mM)} (h : Op F G) {s : aSt} {m : mM} {L : mM → Option ((Int32 × mM) ⊕ mM)} (hS : SI s) (hX : XI s m) (hM : MI s m) (hL : ∀ (s' : aSt) (m' : mM), SI s' → XI s' m' → MI s' m' → ∃ q, L m' = some (.inr q)) : ∃ q, (bnd (F m) fun q1 => bnd (G q1.2) fun q2 => if q1.1 = q2.1 then L q2.2 else some (.inl ((0 : Int32), q2.2))) = some (.inr q) := by
  obtain ⟨v, s', m1, m2, e1, e2, h1, h2, h3⟩ := h.go hS hX hM
  obtain ⟨q, hq⟩ := hL s' m2 h1 h2 h3
  refine ⟨q, ?_⟩
  refine (bnd_of e1).trans ?_
  refine (bnd_of e2).trans ?_
  exact (if_pos rfl).trans hq
theorem g_ite {c : Prop} [Decidable c] {α β : Type} {f : β → α} {a b : α} (h1 : c → ∃ q, a = f q) (h2 : ¬ c → ∃ q, b = f q) : ∃ q, (if c then a else b) = f q := by
  by_cases e : c
  · rw [if_pos e]; exact h1 e
  · rw [if_neg e]; exact h2 e
theorem rdS_n {V : eV} {j : Nat} {x : Int32} (hx : x = nI j) (h : j < vN V) (hn : vN V < 2 ^ 31) : rdS V x = some (vX V j) := by
  subst hx
  unfold rdS
  rw [if_neg (nI_in h hn), nI_clamp (by omega)]
theorem law_step {V : eV} {n i : Nat} {m : mM} {s : aSt} (hi : i + 4 ≤ vN V) (hV : vN V ≤ 256) (hS : SI s) (hX : XI s m) (hM : MI s m) (hL : ∀ (s' : aSt) (m' : mM), SI s' → XI s' m' → MI s' m' → ∃ q, f_L_law_L18 V n (nI i + 4) m' = some (.inr q)) : ∃ q, f_L_law_L18 V (n + 1) (nI i) m = some (.inr q) := by
  have r0 : rdS V (nI i) = some (vX V i) := rdS_n rfl (by omega) (by omega)
  have r1 : rdS V (nI i + (1 : Int32)) = some (vX V (i + 1)) := rdS_n (nI_add i 1) (by omega) (by omega)
  have r2 : rdS V (nI i + (2 : Int32)) = some (vX V (i + 2)) := rdS_n (nI_add i 2) (by omega) (by omega)
  have r3 : rdS V (nI i + (3 : Int32)) = some (vX V (i + 3)) := rdS_n (nI_add i 3) (by omega) (by omega)
  rw [f_L_law_L18]
  have c : ¬ ((vN V).toInt32 - (4 : Int32) < nI i) := by
    have e : (vN V).toInt32 - (4 : Int32) = nI (vN V - 4) := pk_sub (a := vN V) (b := 4) (by omega)
    rw [e]
    exact nI_nlt (by omega) (by omega)
  rw [if_neg c, bnd_of r0]
  refine g_ite (fun _ => ?_) (fun _ => ?_)
  · simp only [r1, r2, r3, bnd_s]
    exact g_op (op_feed _ _) (L := fun m' => f_L_law_L18 V n (nI i + 4) m') hS hX hM hL
  refine g_ite (fun _ => ?_) (fun _ => ?_)
  · exact g_op (op_town) (L := fun m' => f_L_law_L18 V n (nI i + 4) m') hS hX hM hL
  refine g_ite (fun _ => ?_) (fun _ => ?_)
  · simp only [r1, r2, bnd_s]
    exact g_op (op_holder _ _) (L := fun m' => f_L_law_L18 V n (nI i + 4) m') hS hX hM hL
  refine g_ite (fun _ => ?_) (fun _ => ?_)
  · simp only [r1, r2, bnd_s]
    exact g_op (op_hour _ _) (L := fun m' => f_L_law_L18 V n (nI i + 4) m') hS hX hM hL
  refine g_ite (fun _ => ?_) (fun _ => ?_)
  · simp only [r1, r2, bnd_s]
    exact g_op (op_work _ _) (L := fun m' => f_L_law_L18 V n (nI i + 4) m') hS hX hM hL
  refine g_ite (fun _ => ?_) (fun _ => ?_)
  · simp only [r1, r2, bnd_s]
    exact g_op (op_price _ _) (L := fun m' => f_L_law_L18 V n (nI i + 4) m') hS hX hM hL
  refine g_ite (fun _ => ?_) (fun _ => ?_)
  · simp only [r1, bnd_s]
    exact g_op (op_strike _) (L := fun m' => f_L_law_L18 V n (nI i + 4) m') hS hX hM hL
  refine g_ite (fun _ => ?_) (fun _ => ?_)
  · simp only [r1, r2, bnd_s]
    exact g_op (op_bell _ _) (L := fun m' => f_L_law_L18 V n (nI i + 4) m') hS hX hM hL
  refine g_ite (fun _ => ?_) (fun _ => ?_)
  · simp only [r1, r2, r3, bnd_s]
    exact g_op (op_leave _ _ _) (L := fun m' => f_L_law_L18 V n (nI i + 4) m') hS hX hM hL
  refine g_ite (fun _ => ?_) (fun _ => ?_)
  · simp only [r1, bnd_s]
    exact g_op (op_one _) (L := fun m' => f_L_law_L18 V n (nI i + 4) m') hS hX hM hL
  refine g_ite (fun _ => ?_) (fun _ => ?_)
  · simp only [r1, bnd_s]
    exact g_op (op_cost _) (L := fun m' => f_L_law_L18 V n (nI i + 4) m') hS hX hM hL
  refine g_ite (fun _ => ?_) (fun _ => ?_)
  · simp only [r1, bnd_s]
    exact g_op (op_net _) (L := fun m' => f_L_law_L18 V n (nI i + 4) m') hS hX hM hL
  refine g_ite (fun _ => ?_) (fun _ => ?_)
  · simp only [r1, bnd_s]
    exact g_op (op_bars _) (L := fun m' => f_L_law_L18 V n (nI i + 4) m') hS hX hM hL
  refine g_ite (fun _ => ?_) (fun _ => ?_)
  · exact g_op (op_all) (L := fun m' => f_L_law_L18 V n (nI i + 4) m') hS hX hM hL
  refine g_ite (fun _ => ?_) (fun _ => ?_)
  · simp only [r1, bnd_s]
    exact g_op (op_begin _) (L := fun m' => f_L_law_L18 V n (nI i + 4) m') hS hX hM hL
  refine g_ite (fun _ => ?_) (fun _ => ?_)
  · simp only [r1, bnd_s]
    exact g_op (op_ask _) (L := fun m' => f_L_law_L18 V n (nI i + 4) m') hS hX hM hL
  refine g_ite (fun _ => ?_) (fun _ => ?_)
  · exact g_op (op_rest) (L := fun m' => f_L_law_L18 V n (nI i + 4) m') hS hX hM hL
  refine g_ite (fun _ => ?_) (fun _ => ?_)
  · simp only [r1, bnd_s]
    exact g_op (op_stop _) (L := fun m' => f_L_law_L18 V n (nI i + 4) m') hS hX hM hL
  refine g_ite (fun _ => ?_) (fun _ => ?_)
  · exact g_op (op_stopAll) (L := fun m' => f_L_law_L18 V n (nI i + 4) m') hS hX hM hL
  refine g_ite (fun _ => ?_) (fun _ => ?_)
  · simp only [r1, r2, r3, bnd_s]
    exact g_op (op_power _ _ _) (L := fun m' => f_L_law_L18 V n (nI i + 4) m') hS hX hM hL
  refine g_ite (fun _ => ?_) (fun _ => ?_)
  · simp only [r1, bnd_s]
    exact g_op (op_wed _) (L := fun m' => f_L_law_L18 V n (nI i + 4) m') hS hX hM hL
  refine g_ite (fun _ => ?_) (fun _ => ?_)
  · simp only [r1, r2, bnd_s]
    exact g_op (op_marry _ _) (L := fun m' => f_L_law_L18 V n (nI i + 4) m') hS hX hM hL
  refine g_ite (fun _ => ?_) (fun _ => ?_)
  · simp only [r1, bnd_s]
    exact g_op (op_wedTo _) (L := fun m' => f_L_law_L18 V n (nI i + 4) m') hS hX hM hL
  refine g_ite (fun _ => ?_) (fun _ => ?_)
  · simp only [r1, r2, bnd_s]
    exact g_op (op_heirs _ _) (L := fun m' => f_L_law_L18 V n (nI i + 4) m') hS hX hM hL
  refine g_ite (fun _ => ?_) (fun _ => ?_)
  · exact g_op (op_give) (L := fun m' => f_L_law_L18 V n (nI i + 4) m') hS hX hM hL
  refine g_ite (fun _ => ?_) (fun _ => ?_)
  · simp only [r1, r2, bnd_s]
    exact g_op (op_together _ _) (L := fun m' => f_L_law_L18 V n (nI i + 4) m') hS hX hM hL
  refine g_ite (fun _ => ?_) (fun _ => ?_)
  · simp only [r1, r2, bnd_s]
    exact g_op (op_season _ _) (L := fun m' => f_L_law_L18 V n (nI i + 4) m') hS hX hM hL
  refine g_ite (fun _ => ?_) (fun _ => ?_)
  · exact g_op (op_year) (L := fun m' => f_L_law_L18 V n (nI i + 4) m') hS hX hM hL
  refine g_ite (fun _ => ?_) (fun _ => ?_)
  · simp only [r1, r2, bnd_s]
    exact g_op (op_years _ _) (L := fun m' => f_L_law_L18 V n (nI i + 4) m') hS hX hM hL
  refine g_ite (fun _ => ?_) (fun _ => ?_)
  · simp only [r1, bnd_s]
    exact g_op (op_row _) (L := fun m' => f_L_law_L18 V n (nI i + 4) m') hS hX hM hL
  refine g_ite (fun _ => ?_) (fun _ => ?_)
  · simp only [r1, bnd_s]
    exact g_op (op_judge _) (L := fun m' => f_L_law_L18 V n (nI i + 4) m') hS hX hM hL
  refine g_ite (fun _ => ?_) (fun _ => ?_)
  · exact g_op (op_image) (L := fun m' => f_L_law_L18 V n (nI i + 4) m') hS hX hM hL
  refine g_ite (fun _ => ?_) (fun _ => ?_)
  · exact g_op (op_on) (L := fun m' => f_L_law_L18 V n (nI i + 4) m') hS hX hM hL
  refine g_ite (fun _ => ?_) (fun _ => ?_)
  · simp only [r1, bnd_s]
    obtain ⟨v, w1, w2⟩ := op_count (vX V (i + 1)) hS
    rw [bnd_of (w1 m hX), bnd_of (w2 m hM), if_pos rfl]
    exact hL s m hS hX hM
  exact hL s m hS hX hM
theorem law_loop {V : eV} (hV : vN V ≤ 256) : ∀ (k n i : Nat) (s : aSt) (m : mM), vN V < i + 4 * k + 4 → i ≤ 260 → k < n → SI s → XI s m → MI s m → ∃ q, f_L_law_L18 V n (nI i) m = some (.inr q) := by
  intro k
  induction k with
  | zero =>
    intro n i s m h1 hi h2 hS hX hM
    obtain ⟨n, rfl⟩ : ∃ z, n = z + 1 := ⟨n - 1, by omega⟩
    refine ⟨m, ?_⟩
    rw [f_L_law_L18]
    refine if_pos ?_
    show nI (vN V) - (4 : Int32) < nI i
    rw [← jI_n, ← jI_n, show (4 : Int32) = jI 4 from rfl, jI_sub, jI_lt (by omega) (by omega) (by omega) (by omega)]
    omega
  | succ k ih =>
    intro n i s m h1 hi h2 hS hX hM
    obtain ⟨n, rfl⟩ : ∃ z, n = z + 1 := ⟨n - 1, by omega⟩
    by_cases e : i + 4 ≤ vN V
    · refine law_step e hV hS hX hM (fun s' m' a b c => ?_)
      have := ih n (i + 4) s' m' (by omega) (by omega) (by omega) a b c
      rw [← nI_add] at this
      exact this
    · refine ⟨m, ?_⟩
      rw [f_L_law_L18]
      refine if_pos ?_
      show nI (vN V) - (4 : Int32) < nI i
      rw [← jI_n, ← jI_n, show (4 : Int32) = jI 4 from rfl, jI_sub, jI_lt (by omega) (by omega) (by omega) (by omega)]
      omega
