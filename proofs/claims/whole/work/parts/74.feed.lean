/-! feed -/
def bv (b : Int64) (j : Nat) : Nat := ((b.toBitVec >>> (8 * j)) &&& 255#64).toNat
theorem bv_lt (b : Int64) (j : Nat) : bv b j < 256 := by
  unfold bv
  rw [BitVec.toNat_and]
  exact Nat.lt_of_le_of_lt Nat.and_le_right (by decide)
theorem to32 {y : Int64} (h : y.toBitVec.toNat < 256) : y.toInt32 = nI y.toBitVec.toNat := by
  apply Int32.toBitVec_inj.mp
  apply BitVec.eq_of_toNat_eq
  rw [pk_tn (by omega)]
  show (y.toBitVec.signExtend 32).toNat = _
  rw [BitVec.signExtend_eq_setWidth_of_le _ (by decide), BitVec.toNat_setWidth]
  exact Nat.mod_eq_of_lt (by omega)
theorem bv_X {b : Int64} {j : Nat} (hj : j < 8) : ((((b.toUInt64 >>> (((8 : Int32) * nI j).toInt64.toUInt64 &&& Int64.toUInt64 63)).toInt64) &&& (255 : Int64)).toInt32) = nI (bv b j) := by
  have e : ((((b.toUInt64 >>> (((8 : Int32) * nI j).toInt64.toUInt64 &&& Int64.toUInt64 63)).toInt64) &&& (255 : Int64))).toBitVec = (b.toBitVec >>> (8 * j)) &&& 255#64 := by
    show (b.toBitVec >>> ((((8 : Int32) * nI j).toInt64.toUInt64 &&& Int64.toUInt64 63).toBitVec % 64)) &&& 255#64 = _
    have c : ((((8 : Int32) * nI j).toInt64.toUInt64 &&& Int64.toUInt64 63).toBitVec % 64) = BitVec.ofNat 64 (8 * j) := by
      have : j = 0 ∨ j = 1 ∨ j = 2 ∨ j = 3 ∨ j = 4 ∨ j = 5 ∨ j = 6 ∨ j = 7 := by omega
      rcases this with rfl | rfl | rfl | rfl | rfl | rfl | rfl | rfl <;> decide
    rw [c, BitVec.ushiftRight_eq', BitVec.toNat_ofNat, Nat.mod_eq_of_lt (show 8 * j < 2 ^ 64 by omega)]
  rw [to32 (by rw [e]; exact bv_lt b j), e]
  rfl
theorem bv_M {b : Int64} {j : Nat} (hj : j < 8) : (((b >>> (((8 : Int32) * nI j).toInt64 &&& 63)) &&& (255 : Int64)).toInt32) = nI (bv b j) := by
  have e : ((b >>> (((8 : Int32) * nI j).toInt64 &&& 63)) &&& (255 : Int64)).toBitVec = (b.toBitVec >>> (8 * j)) &&& 255#64 := by
    show (b.toBitVec.sshiftRight' ((((8 : Int32) * nI j).toInt64 &&& 63).toBitVec.smod 64)) &&& 255#64 = _
    have c : ((((8 : Int32) * nI j).toInt64 &&& 63).toBitVec.smod 64) = BitVec.ofNat 64 (8 * j) := by
      have : j = 0 ∨ j = 1 ∨ j = 2 ∨ j = 3 ∨ j = 4 ∨ j = 5 ∨ j = 6 ∨ j = 7 := by omega
      rcases this with rfl | rfl | rfl | rfl | rfl | rfl | rfl | rfl <;> decide
    rw [c]
    show (b.toBitVec.sshiftRight (BitVec.ofNat 64 (8 * j)).toNat) &&& 255#64 = _
    rw [BitVec.toNat_ofNat, Nat.mod_eq_of_lt (show 8 * j < 2 ^ 64 by omega)]
    apply BitVec.eq_of_getLsbD_eq
    intro i hi
    rw [BitVec.getLsbD_and, BitVec.getLsbD_and]
    by_cases z : i < 8
    · rw [BitVec.getLsbD_sshiftRight, BitVec.getLsbD_ushiftRight, if_pos (by omega)]
      simp [show ¬ 64 ≤ i by omega]
    · have : BitVec.getLsbD 255#64 i = false := by
        rw [BitVec.getLsbD, show (255#64).toNat = 2 ^ 8 - 1 from rfl, Nat.testBit_two_pow_sub_one]
        simp [z]
      rw [this, Bool.and_false, Bool.and_false]
  rw [to32 (by rw [e]; exact bv_lt b j), e]
  rfl
theorem X_putL {N a : Nat} (ha : a ≤ 8) (hN : N + a ≤ 64) (b : Int64) : ∀ (k n j : Nat) (m : mM), j + k = a → k < n → m 151 0 = nI (N + j) → ∃ m', f_X6_put_L3 (nI a) b n (nI j) m = some m' ∧ m' 151 0 = nI (N + a) ∧ (∀ i, N + j ≤ i → i < N + a → m' 152 i = nI (bv b (i - N))) ∧ ∀ c i, ¬ (c = 151 ∧ i = 0) → ¬ (c = 152 ∧ N + j ≤ i) → m' c i = m c i := by
  intro k
  induction k with
  | zero =>
    intro n j m hj hn h0
    obtain ⟨n, rfl⟩ : ∃ z, n = z + 1 := ⟨n - 1, by omega⟩
    have : j = a := by omega
    subst this
    refine ⟨m, ?_, h0, fun i h1 h2 => by omega, fun _ _ _ _ => rfl⟩
    rw [f_X6_put_L3]
    exact if_pos (nI_le (Nat.le_refl _) (by omega))
  | succ k ih =>
    intro n j m hj hn h0
    obtain ⟨n, rfl⟩ : ∃ z, n = z + 1 := ⟨n - 1, by omega⟩
    obtain ⟨m', i1, i2, i3, i4⟩ := ih n (j + 1) (m_up (m_up m 152 (N + j) (nI (bv b j))) 151 0 (nI (N + (j + 1)))) (by omega) (by omega) (m_up_eq _ _ _ _)
    refine ⟨m', ?_, i2, fun i h1 h2 => ?_, fun c i h1 h2 => ?_⟩
    · rw [f_X6_put_L3]
      refine (if_neg (nI_ge (by omega) (by omega))).trans ?_
      refine (if_neg (by rw [h0]; exact nI_ge (b := 64) (by omega) (by decide))).trans ?_
      rw [h0, bv_X (show j < 8 by omega)]
      refine (bnd_of (wrN (show N + j < 64 by omega) (by decide))).trans ?_
      refine (bnd_of rfl).trans ?_
      rw [m_up_na (show (151 : Nat) ≠ 152 by decide), h0, nI_1, nI_1]
      exact i1
    · by_cases z : i = N + j
      · subst z
        rw [i4 _ _ (by omega) (by omega), m_up_na (by decide), m_up_eq, show N + j - N = j by omega]
      · exact i3 i (by omega) h2
    · rw [i4 c i h1 (by omega)]
      unfold m_up
      rw [if_neg h1, if_neg (by omega)]
theorem M_fdL {N a : Nat} (ha : a ≤ 8) (hN : N + a ≤ 64) (b : Int64) : ∀ (k n j : Nat) (m : mM), j + k = a → k < n → m 187 8 = nI (N + j) → ∃ m', f_X9_feed_L39 (nI a) b n (nI j) m = some m' ∧ m' 187 8 = nI (N + a) ∧ (∀ i, N + j ≤ i → i < N + a → m' 193 i = nI (bv b (i - N))) ∧ ∀ c i, ¬ (c = 187 ∧ i = 8) → ¬ (c = 193 ∧ N + j ≤ i) → m' c i = m c i := by
  intro k
  induction k with
  | zero =>
    intro n j m hj hn h0
    obtain ⟨n, rfl⟩ : ∃ z, n = z + 1 := ⟨n - 1, by omega⟩
    have : j = a := by omega
    subst this
    refine ⟨m, ?_, h0, fun i h1 h2 => by omega, fun _ _ _ _ => rfl⟩
    rw [f_X9_feed_L39]
    exact if_pos (nI_le (Nat.le_refl _) (by omega))
  | succ k ih =>
    intro n j m hj hn h0
    obtain ⟨n, rfl⟩ : ∃ z, n = z + 1 := ⟨n - 1, by omega⟩
    obtain ⟨m', i1, i2, i3, i4⟩ := ih n (j + 1) (m_up (m_up m 193 (N + j) (nI (bv b j))) 187 8 (nI (N + (j + 1)))) (by omega) (by omega) (m_up_eq _ _ _ _)
    refine ⟨m', ?_, i2, fun i h1 h2 => ?_, fun c i h1 h2 => ?_⟩
    · rw [f_X9_feed_L39]
      refine (if_neg (nI_ge (by omega) (by omega))).trans ?_
      rw [h0, bv_M (show j < 8 by omega)]
      refine (bnd_of (wrN (show N + j < 64 by omega) (by decide))).trans ?_
      refine (bnd_of rfl).trans ?_
      rw [m_up_na (show (187 : Nat) ≠ 193 by decide), h0, nI_1, nI_1]
      exact i1
    · by_cases z : i = N + j
      · subst z
        rw [i4 _ _ (by omega) (by omega), m_up_na (by decide), m_up_eq, show N + j - N = j by omega]
      · exact i3 i (by omega) h2
    · rw [i4 c i h1 (by omega)]
      unfold m_up
      rw [if_neg h1, if_neg (by omega)]
theorem op_feed (a1 : Int32) (b : Int64) : Op (f_X8_feed a1 b) (f_X9_feed a1 b) := by
  intro s hS
  by_cases e1 : (1 : Int32) ≤ a1
  · by_cases e8 : (8 : Int32) < a1
    · refine both_ref (k := 6) hS (by decide) (by decide) (fun m hX => ?_) (fun m hM => ?_)
      · unfold f_X8_feed; exact (if_pos e1).trans (if_pos e8)
      · unfold f_X9_feed; exact (if_pos e1).trans (if_pos e8)
    have hn : ¬ a1 < 0 := fun z => by
      have h1 := Int32.lt_iff_toInt_lt.mp z
      have h2 := Int32.le_iff_toInt_le.mp e1
      have h3 : (1 : Int32).toInt = 1 := by decide
      have h4 : (0 : Int32).toInt = 0 := by decide
      omega
    obtain ⟨a, ha31, rfl⟩ := neg_nI hn
    have ha : a ≤ 8 := by
      by_cases z : a ≤ 8
      · exact z
      · exact absurd (nI_lt (a := 8) (by omega) ha31) e8
    obtain ⟨t, N, f, r, g, c, u⟩ := s
    have hN : N ≤ 64 := hS.2.1
    have hf : ∀ i, i < N → f i < 256 := hS.2.2.1
    by_cases e64 : N + a ≤ 64
    · refine ⟨nI (N + a), (t, N + a, fun i => if i < N then f i else bv b (i - N), r, g, c, u), ⟨hS.1, e64, fun i hi => ?_, hS.2.2.2⟩, fun m hX => ?_, fun m hM => ?_⟩
      · show (if i < N then f i else bv b (i - N)) < 256
        split
        · exact hf i (by assumption)
        · exact bv_lt _ _
      · obtain ⟨h1, h2, h3, h4, h5⟩ := hX
        have h20 : m 151 0 = nI N := h2.1
        obtain ⟨m', i1, i2, i3, i4⟩ := X_putL ha e64 b a fU 0 m (by omega) (by show _ < 300; omega) (by rw [Nat.add_zero]; exact h20)
        have j3 : ∀ x i, x ≠ 151 → x ≠ 152 → m' x i = m x i := fun x i q1 q2 => i4 x i (fun z => q1 z.1) (fun z => q2 z.1)
        refine ⟨m', ?_, ⟨h1.cg (fun a i q => j3 a i (by omega) (by omega)), ⟨i2, fun i hi => ?_⟩, ⟨?_, fun i hi => ?_⟩, fun k q1 q2 => ?_, iX_cg h5 (fun a i q => j3 a i (by omega) (by omega))⟩, fun a i q => j3 a i (by omega) (by omega)⟩
        · unfold f_X8_feed f_X6_put
          refine (if_pos e1).trans ((if_neg e8).trans ?_)
          refine (if_pos (by rw [h20, nI_add]; exact nI_le (b := 64) e64 (by decide))).trans ?_
          refine (bnd_of ((bnd_of i1).trans rfl)).trans ?_
          rw [i2]
        · have hi : i < N + a := hi
          show m' 152 i = nI (if i < N then f i else bv b (i - N))
          by_cases z : i < N
          · rw [if_pos z, i4 152 i (by omega) (by omega)]; exact h2.2 i z
          · rw [if_neg z]; exact i3 i (by omega) hi
        · rw [j3 _ _ (by decide) (by decide)]; exact h3.1
        · rw [j3 _ _ (by decide) (by decide)]; exact h3.2 i hi
        · rw [j3 _ _ (by decide) (by decide)]; exact h4 k q1 q2
      · obtain ⟨h1, h2, h3, h4, h5, h6⟩ := hM
        have h30 : m 187 8 = nI N := h3.1
        obtain ⟨m', i1, i2, i3, i4⟩ := M_fdL ha e64 b a fU 0 m (by omega) (by show _ < 300; omega) (by rw [Nat.add_zero]; exact h30)
        have j3 : ∀ x i, x ≠ 193 → ¬ (x = 187 ∧ i = 8) → m' x i = m x i := fun x i q1 q2 => i4 x i q2 (fun z => q1 z.1)
        refine ⟨m', ?_, ⟨fun i hi => ?_, ?_, ⟨i2, fun i hi => ?_⟩, ⟨?_, fun i hi => ?_⟩, fun k q1 q2 => ?_, iM_cg h6 (fun a i q => j3 a i (by omega) (by omega))⟩, fun a i q => j3 a i (by omega) (by omega)⟩
        · unfold f_X9_feed
          refine (if_pos e1).trans ((if_neg e8).trans ?_)
          refine (if_pos (by rw [h30, nI_add]; exact nI_le (b := 64) e64 (by decide))).trans ?_
          refine (bnd_of i1).trans ?_
          rw [i2]
        · rw [j3 _ _ (by decide) (by omega)]; exact h1 i hi
        · rw [j3 _ _ (by decide) (by omega)]; exact h2
        · have hi : i < N + a := hi
          show m' 193 i = nI (if i < N then f i else bv b (i - N))
          by_cases z : i < N
          · rw [if_pos z, i4 193 i (by omega) (by omega)]; exact h3.2 i z
          · rw [if_neg z]; exact i3 i (by omega) hi
        · rw [j3 _ _ (by decide) (by omega)]; exact h4.1
        · rw [j3 _ _ (by decide) (by omega)]; exact h4.2 i hi
        · rw [j3 _ _ (by decide) (by omega)]; exact h5 k q1 q2
    · refine both_ref (k := 6) hS (by decide) (by decide) (fun m hX => ?_) (fun m hM => ?_)
      · have h20 : m 151 0 = nI N := hX.2.1.1
        unfold f_X8_feed
        exact (if_pos e1).trans ((if_neg e8).trans (if_neg (by rw [h20, nI_add]; exact nI_ge (a := 64) (by omega) (by omega))))
      · have h30 : m 187 8 = nI N := hM.2.2.1.1
        unfold f_X9_feed
        exact (if_pos e1).trans ((if_neg e8).trans (if_neg (by rw [h30, nI_add]; exact nI_ge (a := 64) (by omega) (by omega))))
  · refine both_ref (k := 4) hS (by decide) (by decide) (fun m hX => ?_) (fun m hM => ?_)
    · unfold f_X8_feed; exact if_neg e1
    · unfold f_X9_feed; exact if_neg e1
