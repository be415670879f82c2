/-! the told state as naturals: t 0 holders, t 1 works, t 2 strike, t 3 bell (999 none), t 4 its sort, t (5 + k) seasons, t (9 + 4 h) parts of an hour, t (9 + 4 h + 1 + i) its i-th holder, t (121 + 4 p + k) kind, price, for, wed to (999 nobody), t (153 + 6 w + k) does, spread, length, by, worth, sort -/
/-- the bounds; all but what weds and doubles of parts must keep -/
def WB (t : Nat → Nat) : Prop :=
  t 0 ≤ 8 ∧ t 1 ≤ 6 ∧ t 2 < 2 ^ t 0 ∧ (t 3 < 28 ∨ t 3 = 999) ∧ t 4 ≤ 9 ∧ (∀ k, k < 4 → t (5 + k) ≤ 300) ∧ (∀ h, h < 28 → (t (9 + 4 * h)) ≤ 3) ∧ (∀ h i, h < 28 → i < (t (9 + 4 * h)) → (t (9 + 4 * h + 1 + i)) < t 0) ∧
  (∀ p, p < t 0 → (t (121 + 4 * p)) ≤ 6 ∧ (t (121 + 4 * p + 1)) ≤ 9 ∧ (t (121 + 4 * p + 2)) ≤ 9) ∧
  (∀ w, w < t 1 → (t (153 + 6 * w)) < t 0 ∧ (t (153 + 6 * w + 1)) ≤ 1 ∧ (1 ≤ (t (153 + 6 * w + 2)) ∧ (t (153 + 6 * w + 2)) ≤ 6) ∧ (t (153 + 6 * w + 3)) ≤ 27 ∧ (t (153 + 6 * w + 4)) ≤ 99 ∧ (t (153 + 6 * w + 5)) ≤ 9) ∧ ∀ i, i < 189 → t i < 1000
def WT (t : Nat → Nat) : Prop := WB t ∧ (∀ h i j, h < 28 → i < j → j < (t (9 + 4 * h)) → (t (9 + 4 * h + 1 + i)) ≠ (t (9 + 4 * h + 1 + j))) ∧ (∀ p, p < t 0 → (t (121 + 4 * p + 3)) = 999 ∨ ((t (121 + 4 * p + 3)) < t 0 ∧ (t (121 + 4 * p + 3)) ≠ p ∧ (t (121 + 4 * (t (121 + 4 * p + 3)) + 3)) = p)) ∧ (∀ p, t 0 ≤ p → p < 8 → (t (121 + 4 * p + 3)) = 999)
theorem WT.b {t : Nat → Nat} (h : WT t) : WB t := h.1
section WTs
variable {t : Nat → Nat}
theorem WB.h0 (h : WB t)  : t 0 ≤ 8 := h.1
theorem WT.h0 (h : WT t)  : t 0 ≤ 8 := h.b.h0 
theorem WB.w0 (h : WB t)  : t 1 ≤ 6 := h.2.1
theorem WT.w0 (h : WT t)  : t 1 ≤ 6 := h.b.w0 
theorem WB.st (h : WB t)  : t 2 < 2 ^ t 0 := h.2.2.1
theorem WT.st (h : WT t)  : t 2 < 2 ^ t 0 := h.b.st 
theorem WB.be (h : WB t)  : t 3 < 28 ∨ t 3 = 999 := h.2.2.2.1
theorem WT.be (h : WT t)  : t 3 < 28 ∨ t 3 = 999 := h.b.be 
theorem WB.bs (h : WB t)  : t 4 ≤ 9 := h.2.2.2.2.1
theorem WT.bs (h : WT t)  : t 4 ≤ 9 := h.b.bs 
theorem WB.se (h : WB t) {k : Nat} (hk : k < 4) : t (5 + k) ≤ 300 := h.2.2.2.2.2.1 k hk
theorem WT.se (h : WT t) {k : Nat} (hk : k < 4) : t (5 + k) ≤ 300 := h.b.se hk
theorem WB.pa (h : WB t) {x : Nat} (hx : x < 28) : (t (9 + 4 * x)) ≤ 3 := h.2.2.2.2.2.2.1 x hx
theorem WT.pa (h : WT t) {x : Nat} (hx : x < 28) : (t (9 + 4 * x)) ≤ 3 := h.b.pa hx
theorem WB.pp (h : WB t) {x i : Nat} (hx : x < 28) (hi : i < (t (9 + 4 * x))) : (t (9 + 4 * x + 1 + i)) < t 0 := h.2.2.2.2.2.2.2.1 x i hx hi
theorem WT.pp (h : WT t) {x i : Nat} (hx : x < 28) (hi : i < (t (9 + 4 * x))) : (t (9 + 4 * x + 1 + i)) < t 0 := h.b.pp hx hi
theorem WB.ho (h : WB t) {p : Nat} (hp : p < t 0) : (t (121 + 4 * p)) ≤ 6 ∧ (t (121 + 4 * p + 1)) ≤ 9 ∧ (t (121 + 4 * p + 2)) ≤ 9 := h.2.2.2.2.2.2.2.2.1 p hp
theorem WT.ho (h : WT t) {p : Nat} (hp : p < t 0) : (t (121 + 4 * p)) ≤ 6 ∧ (t (121 + 4 * p + 1)) ≤ 9 ∧ (t (121 + 4 * p + 2)) ≤ 9 := h.b.ho hp
theorem WB.wk (h : WB t) {w : Nat} (hw : w < t 1) : (t (153 + 6 * w)) < t 0 ∧ (t (153 + 6 * w + 1)) ≤ 1 ∧ (1 ≤ (t (153 + 6 * w + 2)) ∧ (t (153 + 6 * w + 2)) ≤ 6) ∧ (t (153 + 6 * w + 3)) ≤ 27 ∧ (t (153 + 6 * w + 4)) ≤ 99 ∧ (t (153 + 6 * w + 5)) ≤ 9 := h.2.2.2.2.2.2.2.2.2.1 w hw
theorem WT.wk (h : WT t) {w : Nat} (hw : w < t 1) : (t (153 + 6 * w)) < t 0 ∧ (t (153 + 6 * w + 1)) ≤ 1 ∧ (1 ≤ (t (153 + 6 * w + 2)) ∧ (t (153 + 6 * w + 2)) ≤ 6) ∧ (t (153 + 6 * w + 3)) ≤ 27 ∧ (t (153 + 6 * w + 4)) ≤ 99 ∧ (t (153 + 6 * w + 5)) ≤ 9 := h.b.wk hw
theorem WB.lt (h : WB t) {i : Nat} (hi : i < 189) : t i < 1000 := h.2.2.2.2.2.2.2.2.2.2 i hi
theorem WT.lt (h : WT t) {i : Nat} (hi : i < 189) : t i < 1000 := h.b.lt hi
theorem WT.di (h : WT t) {x i j : Nat} (hx : x < 28) (hi : i < j) (hj : j < (t (9 + 4 * x))) : (t (9 + 4 * x + 1 + i)) ≠ (t (9 + 4 * x + 1 + j)) := h.2.1 x i j hx hi hj
theorem WT.spo (h : WT t) {p : Nat} (hp : p < t 0) : (t (121 + 4 * p + 3)) = 999 ∨ ((t (121 + 4 * p + 3)) < t 0 ∧ (t (121 + 4 * p + 3)) ≠ p ∧ (t (121 + 4 * (t (121 + 4 * p + 3)) + 3)) = p) := h.2.2.1 p hp
theorem WT.sz (h : WT t) {p : Nat} (hp : t 0 ≤ p) (h8 : p < 8) : (t (121 + 4 * p + 3)) = 999 := h.2.2.2 p hp h8
theorem WB.s256 (h : WB t) : t 2 < 256 := by
  have h1 := h.h0
  have h2 := h.st
  have : 2 ^ t 0 ≤ 2 ^ 8 := Nat.pow_le_pow_right (by decide) h1
  omega
theorem WT.s256 (h : WT t) : t 2 < 256 := h.b.s256
theorem WB.b1000 (h : WB t) : t 3 < 1000 := by rcases h.be with q | q <;> omega
theorem WT.b1000 (h : WT t) : t 3 < 1000 := h.b.b1000
theorem WB.sp1000 (h : WB t) {p : Nat} (hp : p < 8) : t (121 + 4 * p + 3) < 1000 := h.lt (by omega)
theorem WT.sp1000 (h : WT t) {p : Nat} (hp : p < 8) : t (121 + 4 * p + 3) < 1000 := h.lt (by omega)
end WTs
/-- the reference's row holds it -/
def MS (t : Nat → Nat) (m : mM) : Prop := ∀ i, i < 189 → m 189 i = dc (t i)
theorem MS.n {t : Nat → Nat} {m : mM} (h : MS t m) {i : Nat} (hi : i < 189) (hb : t i < 999) : m 189 i = nI (t i) := by rw [h i hi, dcN hb]
/-- has a part -/
def hasP (t : Nat → Nat) (h p : Nat) : Bool := anyF (fun j => (t (9 + 4 * h + 1 + j)) == p) 0 ((t (9 + 4 * h)))
theorem hasP_iff {t : Nat → Nat} {h p : Nat} : hasP t h p = true ↔ ∃ i, i < (t (9 + 4 * h)) ∧ (t (9 + 4 * h + 1 + i)) = p := by
  unfold hasP
  rw [anyF_iff]
  constructor
  · rintro ⟨j, -, h2, h3⟩; exact ⟨j, by omega, by simpa using h3⟩
  · rintro ⟨j, h2, h3⟩; exact ⟨j, Nat.zero_le _, by omega, by simpa using h3⟩
def b2n (b : Bool) : Nat := if b then 1 else 0
section MBase
variable {t : Nat → Nat} {m : mM}
theorem M_get (hM : MS t m) {p k : Nat} (hp : p < 8) (hk : k < 4) : f_X9_get (nI p) (nI k) m = some (dc (t (121 + 4 * p + k))) := by
  unfold f_X9_get
  simp (disch := omega) only [lit, nI_add, pk_mul, pk_sub, pk_div, pk_rem, nI_leI, nI_ltI, nI_eq, rdN, wrN, ckN, dvN, rmN, fcN, bnd_s, ora_il, ora_ir, Nat.add_zero, Nat.zero_add]
  rw [hM _ (by omega)]
theorem M_of (hM : MS t m) {w k : Nat} (hw : w < 6) (hk : k < 6) : f_X9_of (nI w) (nI k) m = some (dc (t (153 + 6 * w + k))) := by
  unfold f_X9_of
  simp (disch := omega) only [lit, nI_add, pk_mul, pk_sub, pk_div, pk_rem, nI_leI, nI_ltI, nI_eq, rdN, wrN, ckN, dvN, rmN, fcN, bnd_s, ora_il, ora_ir, Nat.add_zero, Nat.zero_add]
  rw [hM _ (by omega)]
theorem M_hasPartL (hM : MS t m) (hW : WT t) {h p : Nat} (hh : h < 28) (hp : p < 999) : ∀ (k n i : Nat), i + k = (t (9 + 4 * h)) → k < n → f_X9_hasPart_189_L10 (nI p) (nI (9 + 4 * h)) m n (nI i) = some (if anyF (fun j => (t (9 + 4 * h + 1 + j)) == p) i k then .inl (nI 1) else .inr ()) := by
  have h3 := hW.pa hh
  have hc : m 189 (9 + 4 * h) = nI ((t (9 + 4 * h))) := hM.n (by omega) (by omega)
  intro k
  induction k with
  | zero =>
    intro n i hi hn
    obtain ⟨n, rfl⟩ : ∃ z, n = z + 1 := ⟨n - 1, by omega⟩
    rw [f_X9_hasPart_189_L10]
    simp (disch := omega) only [lit, nI_add, pk_mul, pk_sub, pk_div, pk_rem, nI_leI, nI_ltI, nI_eq, rdN, wrN, ckN, dvN, rmN, fcN, bnd_s, ora_il, ora_ir, Nat.add_zero, Nat.zero_add, hc]
    rw [if_pos (by omega)]
    rfl
  | succ k ih =>
    intro n i hi hn
    obtain ⟨n, rfl⟩ : ∃ z, n = z + 1 := ⟨n - 1, by omega⟩
    rw [f_X9_hasPart_189_L10]
    have hq := hW.pp (i := i) hh (by omega)
    have h0 := hW.h0
    have hv : m 189 (9 + 4 * h + 1 + i) = nI ((t (9 + 4 * h + 1 + i))) := hM.n (by omega) (by omega)
    simp (disch := omega) only [lit, nI_add, pk_mul, pk_sub, pk_div, pk_rem, nI_leI, nI_ltI, nI_eq, rdN, wrN, ckN, dvN, rmN, fcN, bnd_s, ora_il, ora_ir, Nat.add_zero, Nat.zero_add, hc, hv]
    rw [if_neg (by omega)]
    by_cases e : (t (9 + 4 * h + 1 + i)) = p
    · rw [if_pos e]
      simp [anyF, e]
    · rw [if_neg e, ih n (i + 1) (by omega) (by omega)]
      simp [anyF, e]
theorem M_hasPart (hM : MS t m) (hW : WT t) {h p : Nat} (hh : h < 28) (hp : p < 999) : f_X9_hasPart_189 (nI h) (nI p) m = some (nI (b2n (hasP t h p))) := by
  unfold f_X9_hasPart_189
  simp (disch := omega) only [lit, nI_add, pk_mul, pk_sub, pk_div, pk_rem, nI_leI, nI_ltI, nI_eq, rdN, wrN, ckN, dvN, rmN, fcN, bnd_s, ora_il, ora_ir, Nat.add_zero, Nat.zero_add]
  have h3 := hW.pa hh
  rw [M_hasPartL hM hW hh hp ((t (9 + 4 * h))) fU 0 (by omega) (by show _ < 300; omega)]
  unfold hasP b2n
  cases anyF (fun j => (t (9 + 4 * h + 1 + j)) == p) 0 ((t (9 + 4 * h))) <;> rfl
end MBase
