/-! how many bits: Integer.bitCount -/
theorem ush {a k : Nat} {y : Int32} (h : a < 2 ^ 32) (hk : k < 32) (hy : (y.toUInt32 &&& Int32.toUInt32 31).toBitVec % 32 = BitVec.ofNat 32 k) : u_sh (nI a) y = nI (a / 2 ^ k) := by
  apply Int32.toBitVec_inj.mp
  apply BitVec.eq_of_toNat_eq
  have hl : a / 2 ^ k < 2 ^ 32 := Nat.lt_of_le_of_lt (Nat.div_le_self _ _) h
  show ((nI a).toBitVec >>> ((y.toUInt32 &&& Int32.toUInt32 31).toBitVec % 32)).toNat = _
  rw [hy, BitVec.ushiftRight_eq', BitVec.toNat_ushiftRight, pk_tn h, pk_tn hl, Nat.shiftRight_eq_div_pow, BitVec.toNat_ofNat, Nat.mod_eq_of_lt (show k < 2 ^ 32 by omega)]
def nb : List Nat → Nat
  | [] => 0
  | n :: r => n + 16 * nb r
theorem and_nib {a b c d : Nat} (hb : b < 16) (hd : d < 16) : (b + 16 * a) &&& (d + 16 * c) = (b &&& d) + 16 * (a &&& c) := by
  have h1 := Nat.and_mod_two_pow (a := b + 16 * a) (b := d + 16 * c) (n := 4)
  have h2 := Nat.and_div_two_pow (a := b + 16 * a) (b := d + 16 * c) (n := 4)
  simp only [Nat.reducePow] at h1 h2
  rw [show (b + 16 * a) % 16 = b by omega, show (d + 16 * c) % 16 = d by omega] at h1
  rw [show (b + 16 * a) / 16 = a by omega, show (d + 16 * c) / 16 = c by omega] at h2
  omega
def d16 (l : List Nat) : Prop := ∀ n, n ∈ l → n < 16
theorem nb_and {g : Nat} (hg : g < 16) : ∀ l, d16 l → nb l &&& nb (l.map (fun _ => g)) = nb (l.map (fun n => n &&& g)) := by
  intro l
  induction l with
  | nil => intro _; simp [nb]
  | cons n r ih =>
    intro h
    simp only [List.map, nb]
    rw [and_nib (h n (List.mem_cons_self ..)) hg, ih (fun x hx => h x (List.mem_cons_of_mem _ hx))]
theorem q5 : ∀ n, n < 16 → ∀ b, b < 2 → (n / 2 + 8 * b) &&& 5 = n / 2 &&& 5 := by decide
theorem q3 : ∀ n, n < 16 → ∀ b, b < 4 → (n / 4 + 4 * b) &&& 3 = n / 4 &&& 3 := by decide
theorem nb_5 : ∀ l, d16 l → (nb l / 2) &&& nb (l.map (fun _ => 5)) = nb (l.map (fun n => n / 2 &&& 5)) := by
  intro l
  induction l with
  | nil => intro _; rfl
  | cons n r ih =>
    intro h
    have hn := h n (List.mem_cons_self ..)
    simp only [List.map, nb]
    rw [show (n + 16 * nb r) / 2 = (n / 2 + 8 * (nb r % 2)) + 16 * (nb r / 2) by omega, and_nib (by omega) (by decide), ih (fun x hx => h x (List.mem_cons_of_mem _ hx)), q5 n hn _ (by omega)]
theorem nb_3 : ∀ l, d16 l → (nb l / 4) &&& nb (l.map (fun _ => 3)) = nb (l.map (fun n => n / 4 &&& 3)) := by
  intro l
  induction l with
  | nil => intro _; rfl
  | cons n r ih =>
    intro h
    have hn := h n (List.mem_cons_self ..)
    simp only [List.map, nb]
    rw [show (n + 16 * nb r) / 4 = (n / 4 + 4 * (nb r % 4)) + 16 * (nb r / 4) by omega, and_nib (by omega) (by decide), ih (fun x hx => h x (List.mem_cons_of_mem _ hx)), q3 n hn _ (by omega)]
def u1 (n : Nat) : Nat := n - (n / 2 &&& 5)
def v1 (n : Nat) : Nat := n % 2 + n / 2 % 2 + n / 4 % 2 + n / 8 % 2
theorem u1_ok : ∀ n, n < 16 → (n / 2 &&& 5) ≤ n ∧ u1 n < 16 := by decide
theorem v1_ok : ∀ n, n < 16 → (u1 n &&& 3) + (u1 n / 4 &&& 3) = v1 n ∧ v1 n ≤ 4 := by decide
theorem nb_A : ∀ l, d16 l → nb (l.map (fun n => n / 2 &&& 5)) + nb (l.map u1) = nb l := by
  intro l
  induction l with
  | nil => intro _; rfl
  | cons n r ih =>
    intro h
    have hn := u1_ok n (h n (List.mem_cons_self ..))
    have := ih (fun x hx => h x (List.mem_cons_of_mem _ hx))
    simp only [List.map, nb]
    have e : u1 n = n - (n / 2 &&& 5) := rfl
    omega
theorem nb_B : ∀ l, d16 l → nb ((l.map u1).map (fun n => n &&& 3)) + nb ((l.map u1).map (fun n => n / 4 &&& 3)) = nb (l.map v1) := by
  intro l
  induction l with
  | nil => intro _; rfl
  | cons n r ih =>
    intro h
    have hn := v1_ok n (h n (List.mem_cons_self ..))
    have := ih (fun x hx => h x (List.mem_cons_of_mem _ hx))
    simp only [List.map, nb] at this ⊢
    omega
theorem nb_lt : ∀ (l : List Nat) (k : Nat), l.length = k → d16 l → nb l < 16 ^ k := by
  intro l
  induction l with
  | nil => intro k h _; subst h; exact Nat.zero_lt_one
  | cons n r ih =>
    intro k h hd
    subst h
    have := ih _ rfl (fun x hx => hd x (List.mem_cons_of_mem _ hx))
    have hn := hd n (List.mem_cons_self ..)
    simp only [nb, List.length_cons, Nat.pow_succ]
    omega
theorem bc_B {n0 n1 n2 n3 n4 n5 n6 : Nat} (h0 : n0 < 16) (h1 : n1 < 16) (h2 : n2 < 16) (h3 : n3 < 16) (h4 : n4 < 16) (h5 : n5 < 16) (h6 : n6 < 16) : bcB (nI (nb [n0, n1, n2, n3, n4, n5, n6, 0])) = nI (nb [v1 n0, v1 n1, v1 n2, v1 n3, v1 n4, v1 n5, v1 n6, 0]) := by
  have hd : d16 [n0, n1, n2, n3, n4, n5, n6, 0] := by
    intro n hn
    simp only [List.mem_cons, List.not_mem_nil, or_false] at hn
    omega
  have hdu : d16 ([n0, n1, n2, n3, n4, n5, n6, 0].map u1) := by
    intro n hn
    obtain ⟨x, hx, rfl⟩ := List.mem_map.mp hn
    exact (u1_ok x (hd x hx)).2
  have hx := nb_lt _ 8 rfl hd
  have hxu := nb_lt _ 8 rfl hdu
  have hA := nb_A _ hd
  have hB := nb_B _ hd
  have a5 := nb_5 _ hd
  have a3 := nb_and (g := 3) (by decide) _ hdu
  have b3 := nb_3 _ hdu
  have e5 : nb ([n0, n1, n2, n3, n4, n5, n6, 0].map (fun _ => 5)) = 1431655765 := by simp [nb]
  have e3 : nb (([n0, n1, n2, n3, n4, n5, n6, 0].map u1).map (fun _ => 3)) = 858993459 := by simp [nb]
  rw [e5] at a5
  rw [e3] at a3 b3
  generalize hX : nb [n0, n1, n2, n3, n4, n5, n6, 0] = X at hx hA a5 ⊢
  generalize hU : nb ([n0, n1, n2, n3, n4, n5, n6, 0].map u1) = U at hxu hA a3 b3
  have hbA : bcA (nI X) = nI U := by
    unfold bcA
    rw [ush (k := 1) (by omega) (by decide) (by decide)]
    show nI X - (nI (X / 2 ^ 1) &&& nI 1431655765) = _
    rw [anN, Nat.pow_one, a5, pk_sub (by omega)]
    refine congrArg nI ?_
    omega
  have ev : nb ([n0, n1, n2, n3, n4, n5, n6, 0].map v1) = nb [v1 n0, v1 n1, v1 n2, v1 n3, v1 n4, v1 n5, v1 n6, 0] := by
    simp only [List.map]
    rw [show v1 0 = 0 from rfl]
  rw [← ev]
  unfold bcB
  rw [hbA, ush (k := 2) (by omega) (by decide) (by decide)]
  show (nI U &&& nI 858993459) + (nI (U / 2 ^ 2) &&& nI 858993459) = _
  rw [anN, anN, a3, show (2 : Nat) ^ 2 = 4 from rfl, b3, nI_add, hB]
theorem a15 {y : Nat} (hy : y < 16) : y &&& 15 = y := by
  have := Nat.and_two_pow_sub_one_eq_mod y 4
  simp only [Nat.reducePow, Nat.reduceSub] at this
  rw [this]; omega
theorem bc_C {x : Int32} {y0 y1 y2 y3 y4 y5 y6 : Nat} (w0 : y0 ≤ 4) (w1 : y1 ≤ 4) (w2 : y2 ≤ 4) (w3 : y3 ≤ 4) (w4 : y4 ≤ 4) (w5 : y5 ≤ 4) (w6 : y6 ≤ 4) (hbB : bcB x = nI (nb [y0, y1, y2, y3, y4, y5, y6, 0])) : bcC x = nI ((y0 + y1) + 256 * (y2 + y3) + 65536 * (y4 + y5) + 16777216 * y6) := by
  have hY : nb [y0, y1, y2, y3, y4, y5, y6, 0] + nb [y0, y1, y2, y3, y4, y5, y6, 0] / 2 ^ 4 = (y0 + y1) + 16 * ((y1 + y2) + 16 * ((y2 + y3) + 16 * ((y3 + y4) + 16 * ((y4 + y5) + 16 * ((y5 + y6) + 16 * (y6 + 16 * 0)))))) := by
    simp only [nb, Nat.reducePow]
    omega
  have hYl : nb [y0, y1, y2, y3, y4, y5, y6, 0] < 2 ^ 31 := by
    simp only [nb]
    omega
  unfold bcC
  rw [hbB, ush (k := 4) (by omega) (by decide) (by decide), nI_add, hY]
  show _ &&& nI 252645135 = _
  rw [anN]
  have e : ((y0 + y1) + 16 * ((y1 + y2) + 16 * ((y2 + y3) + 16 * ((y3 + y4) + 16 * ((y4 + y5) + 16 * ((y5 + y6) + 16 * (y6 + 16 * 0))))))) &&& (15 + 16 * (0 + 16 * (15 + 16 * (0 + 16 * (15 + 16 * (0 + 16 * (15 + 16 * 0))))))) = (y0 + y1) + 256 * (y2 + y3) + 65536 * (y4 + y5) + 16777216 * y6 := by
    rw [and_nib (by omega) (by decide), and_nib (by omega) (by decide), and_nib (by omega) (by decide), and_nib (by omega) (by decide), and_nib (by omega) (by decide), and_nib (by omega) (by decide), and_nib (by omega) (by decide), a15 (by omega), a15 (by omega), a15 (by omega), a15 (by omega), Nat.and_zero, Nat.and_zero, Nat.and_zero, Nat.and_zero]
    omega
  simp only [Nat.mul_zero, Nat.add_zero, Nat.zero_add, Nat.reduceMul, Nat.reduceAdd] at e ⊢
  rw [e]
theorem bc_E {x : Int32} {z0 z1 z2 z3 : Nat} (w0 : z0 ≤ 8) (w1 : z1 ≤ 8) (w2 : z2 ≤ 8) (w3 : z3 ≤ 8) (hbC : bcC x = nI (z0 + 256 * z1 + 65536 * z2 + 16777216 * z3)) : bitC x = nI (z0 + z1 + z2 + z3) := by
  have hbD : bcD x = nI ((z0 + z1) + 256 * (z1 + z2) + 65536 * (z2 + z3) + 16777216 * z3) := by
    unfold bcD
    rw [hbC, ush (k := 8) (by omega) (by decide) (by decide), nI_add]
    refine congrArg nI ?_
    omega
  have hbE : bcE x = nI ((z0 + z1 + z2 + z3) + 256 * (z1 + z2 + z3) + 65536 * (z2 + z3) + 16777216 * z3) := by
    unfold bcE
    rw [hbD, ush (k := 16) (by omega) (by decide) (by decide), nI_add]
    refine congrArg nI ?_
    omega
  unfold bitC
  rw [hbE]
  show _ &&& nI 63 = _
  rw [anN]
  have := Nat.and_two_pow_sub_one_eq_mod ((z0 + z1 + z2 + z3) + 256 * (z1 + z2 + z3) + 65536 * (z2 + z3) + 16777216 * z3) 6
  simp only [Nat.reducePow, Nat.reduceSub] at this
  rw [this]
  refine congrArg nI ?_
  omega
theorem bc_8 {n0 n1 n2 n3 n4 n5 n6 : Nat} (h0 : n0 < 16) (h1 : n1 < 16) (h2 : n2 < 16) (h3 : n3 < 16) (h4 : n4 < 16) (h5 : n5 < 16) (h6 : n6 < 16) : bitC (nI (nb [n0, n1, n2, n3, n4, n5, n6, 0])) = nI ((v1 n0 + v1 n1) + (v1 n2 + v1 n3) + (v1 n4 + v1 n5) + v1 n6) := by
  have w0 := (v1_ok n0 h0).2
  have w1 := (v1_ok n1 h1).2
  have w2 := (v1_ok n2 h2).2
  have w3 := (v1_ok n3 h3).2
  have w4 := (v1_ok n4 h4).2
  have w5 := (v1_ok n5 h5).2
  have w6 := (v1_ok n6 h6).2
  exact bc_E (by omega) (by omega) (by omega) (by omega) (bc_C w0 w1 w2 w3 w4 w5 w6 (bc_B h0 h1 h2 h3 h4 h5 h6))
def pop (x : Nat) : Nat := sumF (fun d => x / 2 ^ d % 2) 0 28
theorem v1_dv {x k : Nat} : v1 (x / 2 ^ k % 16) = sumF (fun d => x / 2 ^ d % 2) k 4 := by
  simp only [sumF, v1]
  have e1 : x / 2 ^ (k + 1) = x / 2 ^ k / 2 := by rw [Nat.div_div_eq_div_mul, Nat.pow_add]
  have e2 : x / 2 ^ (k + 1 + 1) = x / 2 ^ k / 4 := by rw [Nat.div_div_eq_div_mul, Nat.add_assoc, Nat.pow_add]
  have e3 : x / 2 ^ (k + 1 + 1 + 1) = x / 2 ^ k / 8 := by rw [Nat.div_div_eq_div_mul, Nat.add_assoc, Nat.add_assoc, Nat.pow_add]
  rw [e1, e2, e3]
  omega
theorem sum28 (f : Nat → Nat) : sumF f 0 28 = (sumF f 0 4 + sumF f 4 4) + (sumF f 8 4 + sumF f 12 4) + (sumF f 16 4 + sumF f 20 4) + sumF f 24 4 := by
  have s1 := sumF_split f 4 24 0
  have s2 := sumF_split f 4 20 4
  have s3 := sumF_split f 4 16 8
  have s4 := sumF_split f 4 12 12
  have s5 := sumF_split f 4 8 16
  have s6 := sumF_split f 4 4 20
  simp only [Nat.reduceAdd] at s1 s2 s3 s4 s5 s6
  rw [s1, s2, s3, s4, s5, s6]
  generalize sumF f 0 4 = a
  generalize sumF f 4 4 = b
  generalize sumF f 8 4 = c
  generalize sumF f 12 4 = d
  generalize sumF f 16 4 = e
  generalize sumF f 20 4 = g
  omega
theorem nb_x {x : Nat} (hx : x < 2 ^ 28) : nb [x / 2 ^ 0 % 16, x / 2 ^ 4 % 16, x / 2 ^ 8 % 16, x / 2 ^ 12 % 16, x / 2 ^ 16 % 16, x / 2 ^ 20 % 16, x / 2 ^ 24 % 16, 0] = x := by
  simp only [nb, Nat.reducePow, Nat.div_one]
  have e1 : x / 256 = x / 16 / 16 := by rw [Nat.div_div_eq_div_mul]
  have e2 : x / 4096 = x / 16 / 16 / 16 := by rw [Nat.div_div_eq_div_mul, Nat.div_div_eq_div_mul]
  have e3 : x / 65536 = x / 16 / 16 / 16 / 16 := by rw [Nat.div_div_eq_div_mul, Nat.div_div_eq_div_mul, Nat.div_div_eq_div_mul]
  have e4 : x / 1048576 = x / 16 / 16 / 16 / 16 / 16 := by rw [Nat.div_div_eq_div_mul, Nat.div_div_eq_div_mul, Nat.div_div_eq_div_mul, Nat.div_div_eq_div_mul]
  have e5 : x / 16777216 = x / 16 / 16 / 16 / 16 / 16 / 16 := by rw [Nat.div_div_eq_div_mul, Nat.div_div_eq_div_mul, Nat.div_div_eq_div_mul, Nat.div_div_eq_div_mul, Nat.div_div_eq_div_mul]
  rw [e1, e2, e3, e4, e5]
  have f1 : x = x % 16 + 16 * (x / 16) := by omega
  generalize x / 16 = y1 at f1 ⊢
  generalize x % 16 = r0 at f1 ⊢
  have f2 : y1 = y1 % 16 + 16 * (y1 / 16) := by omega
  have g2 : y1 < 2 ^ 24 := by omega
  generalize y1 / 16 = y2 at f2 ⊢
  generalize y1 % 16 = r1 at f2 ⊢
  have f3 : y2 = y2 % 16 + 16 * (y2 / 16) := by omega
  have g3 : y2 < 2 ^ 20 := by omega
  generalize y2 / 16 = y3 at f3 ⊢
  generalize y2 % 16 = r2 at f3 ⊢
  have f4 : y3 = y3 % 16 + 16 * (y3 / 16) := by omega
  have g4 : y3 < 2 ^ 16 := by omega
  generalize y3 / 16 = y4 at f4 ⊢
  generalize y3 % 16 = r3 at f4 ⊢
  have f5 : y4 = y4 % 16 + 16 * (y4 / 16) := by omega
  have g5 : y4 < 2 ^ 12 := by omega
  generalize y4 / 16 = y5 at f5 ⊢
  generalize y4 % 16 = r4 at f5 ⊢
  have f6 : y5 = y5 % 16 + 16 * (y5 / 16) := by omega
  have g6 : y5 < 2 ^ 8 := by omega
  have g7 : y5 / 16 % 16 = y5 / 16 := by omega
  rw [g7]
  omega
theorem bitC_n {x : Nat} (hx : x < 2 ^ 28) : bitC (nI x) = nI (pop x) := by
  have h := bc_8 (n0 := x / 2 ^ 0 % 16) (n1 := x / 2 ^ 4 % 16) (n2 := x / 2 ^ 8 % 16) (n3 := x / 2 ^ 12 % 16) (n4 := x / 2 ^ 16 % 16) (n5 := x / 2 ^ 20 % 16) (n6 := x / 2 ^ 24 % 16) (Nat.mod_lt _ (by decide)) (Nat.mod_lt _ (by decide)) (Nat.mod_lt _ (by decide)) (Nat.mod_lt _ (by decide)) (Nat.mod_lt _ (by decide)) (Nat.mod_lt _ (by decide)) (Nat.mod_lt _ (by decide))
  rw [nb_x hx, v1_dv, v1_dv, v1_dv, v1_dv, v1_dv, v1_dv, v1_dv] at h
  rw [h]
  unfold pop
  rw [sum28]
/-- of one set that is given by a test -/
theorem pop_of {x : Nat} {f : Nat → Bool} (h : ∀ d, d < 28 → x / 2 ^ d % 2 = b2n (f d)) : pop x = sumF (fun d => b2n (f d)) 0 28 := sumF_congr 28 0 (fun d _ hd => h d (by omega))
theorem pop_hMk (t : Nat → Nat) (p : Nat) : pop (hMk t p) = sumF (fun h => b2n (hasP t h p)) 0 28 := pop_of (fun d hd => mkB_bit _ 28 d hd)
theorem pop_and (t : Nat → Nat) (p q : Nat) : pop (hMk t p &&& hMk t q) = sumF (fun h => b2n (hasP t h p && hasP t h q)) 0 28 := pop_of (fun d hd => by
  have h1 : hMk t p / 2 ^ d % 2 = b2n (hasP t d p) := mkB_bit _ 28 d hd
  have h2 : hMk t q / 2 ^ d % 2 = b2n (hasP t d q) := mkB_bit _ 28 d hd
  rw [Nat.and_div_two_pow]
  have h3 := Nat.and_mod_two_pow (a := hMk t p / 2 ^ d) (b := hMk t q / 2 ^ d) (n := 1)
  rw [Nat.pow_one, h1, h2] at h3
  rw [h3]
  cases hasP t d p <;> cases hasP t d q <;> rfl)
