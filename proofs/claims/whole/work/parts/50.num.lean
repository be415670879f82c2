/-! numbers: small naturals as ints; the plain functions' readings at them -/
theorem lit (n : Nat) : (OfNat.ofNat n : Int32) = nI n := rfl
theorem bnd_s {α β : Type} (a : α) (f : α → Option β) : bnd (some a) f = f a := rfl
theorem bnd_n {α β : Type} (f : α → Option β) : bnd none f = none := rfl
theorem ora_il {α β γ : Type} (g : α → Option γ) (f : β → Option γ) (a : α) : ora (.inl a) g f = g a := rfl
theorem ora_ir {α β γ : Type} (g : α → Option γ) (f : β → Option γ) (b : β) : ora (.inr b) g f = f b := rfl
theorem rdN {a n k : Nat} {m : mM} (h : k < n) (hn : n < 2 ^ 31) : rdA a n (nI k) m = some (m a k) := by
  unfold rdA
  rw [if_neg (nI_in h hn), nI_clamp (Nat.lt_trans h hn)]
theorem wrN {a n k : Nat} {x : Int32} {m : mM} (h : k < n) (hn : n < 2 ^ 31) : wrA a n (nI k) x m = some (m_up m a k x) := by
  unfold wrA
  rw [if_neg (nI_in h hn), nI_clamp (Nat.lt_trans h hn)]
theorem ckN {n k : Nat} (h : k < n) (hn : n < 2 ^ 31) : ckR n (nI k) = some k := by
  unfold ckR
  rw [if_neg (nI_in h hn), nI_clamp (Nat.lt_trans h hn)]
theorem fcN {k : Nat} (h : k < 6) : fcA (nI k) = some (fac6 k) := by
  unfold fcA
  rw [if_neg (nI_in h (by decide)), nI_clamp (by omega)]
theorem dvN {a d : Nat} (ha : a < 2 ^ 31) (h0 : 0 < d) (hd : d < 2 ^ 31) : dvI (nI a) (nI d) = some (nI (a / d)) := by
  unfold dvI
  rw [if_neg (nI_ne0 h0 hd), pk_div ha h0 hd]
theorem rmN {a d : Nat} (ha : a < 2 ^ 31) (h0 : 0 < d) (hd : d < 2 ^ 31) : rmI (nI a) (nI d) = some (nI (a % d)) := by
  unfold rmI
  rw [if_neg (nI_ne0 h0 hd), pk_rem ha h0 hd]
theorem nzB0 : nzB (nI 0) = some (nI 0) := rfl
theorem nzB1 : nzB (nI 1) = some (nI 1) := rfl
theorem ng_toInt {c : Nat} (hc : c < 2 ^ 31) : (-nI c).toInt = -(c : Int) := sb_negT hc
theorem ng_eq {k c : Nat} (hk : k < 2 ^ 31) (h0 : 0 < c) (hc : c < 2 ^ 31) : (nI k = -nI c) = False := by
  apply propext
  refine ⟨fun h => ?_, False.elim⟩
  have := congrArg Int32.toInt h
  rw [nI_toInt hk, ng_toInt hc] at this
  omega
theorem ng_eq2 {k c : Nat} (hk : k < 2 ^ 31) (h0 : 0 < c) (hc : c < 2 ^ 31) : (-nI c = nI k) = False := by
  apply propext
  refine ⟨fun h => ?_, False.elim⟩
  have := congrArg Int32.toInt h
  rw [nI_toInt hk, ng_toInt hc] at this
  omega
theorem ng_le {k c : Nat} (hk : k < 2 ^ 31) (hc : c < 2 ^ 31) : (-nI c ≤ nI k) = True := by
  apply propext
  refine ⟨fun _ => trivial, fun _ => ?_⟩
  rw [Int32.le_iff_toInt_le, nI_toInt hk, ng_toInt hc]
  omega
theorem ng_nle {k c : Nat} (hk : k < 2 ^ 31) (h0 : 0 < c) (hc : c < 2 ^ 31) : (nI k ≤ -nI c) = False := by
  apply propext
  refine ⟨fun h => ?_, False.elim⟩
  rw [Int32.le_iff_toInt_le, nI_toInt hk, ng_toInt hc] at h
  omega
theorem ng_lt {k c : Nat} (hk : k < 2 ^ 31) (h0 : 0 < c) (hc : c < 2 ^ 31) : (-nI c < nI k) = True := by
  apply propext
  refine ⟨fun _ => trivial, fun _ => ?_⟩
  rw [Int32.lt_iff_toInt_lt, nI_toInt hk, ng_toInt hc]
  omega
theorem ng_nlt {k c : Nat} (hk : k < 2 ^ 31) (hc : c < 2 ^ 31) : (nI k < -nI c) = False := by
  apply propext
  refine ⟨fun h => ?_, False.elim⟩
  rw [Int32.lt_iff_toInt_lt, nI_toInt hk, ng_toInt hc] at h
  omega
/-- 999 stands for -9 -/
def dc (n : Nat) : Int32 := if n = 999 then -nI 9 else nI n
theorem dcN {n : Nat} (h : n < 999) : dc n = nI n := if_neg (by omega)
theorem dc9 : dc 999 = -nI 9 := if_pos rfl
theorem dc_eq {a b : Nat} (ha : a < 1000) (hb : b < 1000) : (dc a = dc b) = (a = b) := by
  apply propext
  unfold dc
  by_cases h1 : a = 999 <;> by_cases h2 : b = 999 <;> simp only [h1, h2, if_true, if_false]
  · rw [ng_eq2 (by omega) (by omega) (by omega)]; exact ⟨False.elim, fun h => h2 h.symm⟩
  · rw [ng_eq (by omega) (by omega) (by omega)]
  · rw [nI_eq (by omega) (by omega)]
theorem dc_n {a b : Nat} (ha : a < 1000) (hb : b < 999) : (dc a = nI b) = (a = b) := by
  rw [← dcN hb, dc_eq ha (by omega)]
theorem n_dc {a b : Nat} (ha : a < 999) (hb : b < 1000) : (nI a = dc b) = (a = b) := by
  rw [← dcN ha, dc_eq (by omega) hb]
/-- one of f i .. f (i + k - 1) -/
def anyF (f : Nat → Bool) : Nat → Nat → Bool
  | _, 0 => false
  | i, k + 1 => f i || anyF f (i + 1) k
theorem anyF_iff (f : Nat → Bool) : ∀ (k i : Nat), anyF f i k = true ↔ ∃ j, i ≤ j ∧ j < i + k ∧ f j = true := by
  intro k
  induction k with
  | zero => intro i; simp [anyF]; omega
  | succ k ih =>
    intro i
    simp only [anyF, Bool.or_eq_true, ih]
    constructor
    · rintro (h | ⟨j, h1, h2, h3⟩)
      · exact ⟨i, Nat.le_refl _, by omega, h⟩
      · exact ⟨j, by omega, by omega, h3⟩
    · rintro ⟨j, h1, h2, h3⟩
      by_cases e : j = i
      · subst e; exact Or.inl h3
      · exact Or.inr ⟨j, by omega, by omega, h3⟩
/-- f i + .. + f (i + k - 1) -/
def sumF (f : Nat → Nat) : Nat → Nat → Nat
  | _, 0 => 0
  | i, k + 1 => f i + sumF f (i + 1) k
theorem sumF_le {f : Nat → Nat} {B : Nat} : ∀ (k i : Nat), (∀ j, i ≤ j → j < i + k → f j ≤ B) → sumF f i k ≤ k * B := by
  intro k
  induction k with
  | zero => intro i _; simp [sumF]
  | succ k ih =>
    intro i h
    have h1 := h i (Nat.le_refl _) (by omega)
    have h2 := ih (i + 1) (fun j a b => h j (by omega) (by omega))
    simp only [sumF, Nat.succ_mul]
    omega
theorem sumF_congr {f g : Nat → Nat} : ∀ (k i : Nat), (∀ j, i ≤ j → j < i + k → f j = g j) → sumF f i k = sumF g i k := by
  intro k
  induction k with
  | zero => intro i _; rfl
  | succ k ih =>
    intro i h
    simp only [sumF]
    rw [h i (Nat.le_refl _) (by omega), ih (i + 1) (fun j a b => h j (by omega) (by omega))]
theorem anyF_congr {f g : Nat → Bool} : ∀ (k i : Nat), (∀ j, i ≤ j → j < i + k → f j = g j) → anyF f i k = anyF g i k := by
  intro k
  induction k with
  | zero => intro i _; rfl
  | succ k ih =>
    intro i h
    simp only [anyF]
    rw [h i (Nat.le_refl _) (by omega), ih (i + 1) (fun j a b => h j (by omega) (by omega))]
/-- a sum that may be none -/
def osumF (f : Nat → Option Nat) : Nat → Nat → Option Nat
  | _, 0 => some 0
  | i, k + 1 => match f i, osumF f (i + 1) k with
    | some a, some b => some (a + b)
    | _, _ => none
theorem osumF_congr {f g : Nat → Option Nat} : ∀ (k i : Nat), (∀ j, i ≤ j → j < i + k → f j = g j) → osumF f i k = osumF g i k := by
  intro k
  induction k with
  | zero => intro i _; rfl
  | succ k ih =>
    intro i h
    simp only [osumF]
    rw [h i (Nat.le_refl _) (by omega), ih (i + 1) (fun j a b => h j (by omega) (by omega))]
theorem shN {a k : Nat} (ha : a < 2 ^ 31) (hk : k < 32) : nI a >>> (nI k &&& nI 31) = nI (a / 2 ^ k) := by
  refine pk_shrN ha _ k ?_
  have : ∀ k : Fin 32, ((nI k.val &&& nI 31).toBitVec.smod 32).toNat = k.val := by decide
  exact this ⟨k, hk⟩
theorem slN {a k : Nat} (hk : k < 32) (h : a * 2 ^ k < 2 ^ 32) : nI a <<< (nI k &&& nI 31) = nI (a * 2 ^ k) := by
  refine pk_shlN _ k ?_ h
  have : ∀ k : Fin 32, ((nI k.val &&& nI 31).toBitVec.smod 32).toNat = k.val := by decide
  exact this ⟨k, hk⟩
theorem anN (a b : Nat) : nI a &&& nI b = nI (a &&& b) := by
  apply Int32.toBitVec_inj.mp
  show (BitVec.ofNat 32 a) &&& (BitVec.ofNat 32 b) = BitVec.ofNat 32 (a &&& b)
  apply BitVec.eq_of_toNat_eq
  simp [BitVec.toNat_and, Nat.and_mod_two_pow]
theorem orN (a b : Nat) : nI a ||| nI b = nI (a ||| b) := by
  apply Int32.toBitVec_inj.mp
  show (BitVec.ofNat 32 a) ||| (BitVec.ofNat 32 b) = BitVec.ofNat 32 (a ||| b)
  apply BitVec.eq_of_toNat_eq
  simp [BitVec.toNat_or, Nat.or_mod_two_pow]
theorem an1 (a : Nat) : nI a &&& nI 1 = nI (a % 2) := by
  rw [anN]
  congr 1
  exact Nat.and_one_is_mod a
theorem bnd_of {α β : Type} {x : Option α} {a : α} {f : α → Option β} (e : x = some a) : bnd x f = f a := by rw [e]; rfl
theorem rdX {a n k : Nat} {x v : Int32} {m : mM} (hx : x = nI k) (h : k < n) (hn : n < 2 ^ 31) (hv : m a k = v) : rdA a n x m = some v := by rw [hx, rdN h hn, hv]
theorem ckX {n k : Nat} {x : Int32} (hx : x = nI k) (h : k < n) (hn : n < 2 ^ 31) : ckR n x = some k := by rw [hx, ckN h hn]
theorem dcn {a b : Nat} (ha : a < 1000) (hb : b < 999) : dc a = nI b ↔ a = b := by rw [dc_n ha hb]
theorem ndc {a b : Nat} (ha : a < 999) (hb : b < 1000) : nI a = dc b ↔ a = b := by rw [n_dc ha hb]
theorem dcdc {a b : Nat} (ha : a < 1000) (hb : b < 1000) : dc a = dc b ↔ a = b := by rw [dc_eq ha hb]
theorem nIq {a b : Nat} (h : a = b) : nI a = nI b := by rw [h]
theorem nIn {a b : Nat} (ha : a < 2 ^ 31) (hb : b < 2 ^ 31) (h : ¬ a = b) : ¬ nI a = nI b := fun q => h ((nI_eq ha hb).mp q)
theorem n9 {k : Nat} (hk : k < 2 ^ 31) : ¬ nI k = -9 := by
  have := ng_eq (c := 9) hk (by decide) (by decide)
  intro h
  exact this.mp h
theorem i_if {c d : Prop} [Decidable c] [Decidable d] {α : Type} {a b : α} (h : c ↔ d) : (if c then a else b) = (if d then a else b) := by
  by_cases q : d
  · rw [if_pos q, if_pos (h.mpr q)]
  · rw [if_neg q, if_neg (fun z => q (h.mp z))]
theorem lt31 {a : Nat} (h : a ≤ 1000000) : a < 2 ^ 31 := by omega
