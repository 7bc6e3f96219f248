/-! whole numbers of the machine, by their values -/
theorem L_rng (x : Int64) : -9223372036854775808 ≤ x.toInt ∧ x.toInt < 9223372036854775808 := by
  have h1 := Int64.le_toInt x
  have h2 := Int64.toInt_lt x
  omega
theorem I_rng (x : Int32) : -2147483648 ≤ x.toInt ∧ x.toInt < 2147483648 := by
  have h1 := Int32.le_toInt x
  have h2 := Int32.toInt_lt x
  omega
theorem bm64 {z : Int} (h1 : -9223372036854775808 ≤ z) (h2 : z < 9223372036854775808) : z.bmod (2 ^ 64) = z := by
  rw [Int.bmod_eq_of_le (by omega) (by omega)]
theorem bm32 {z : Int} (h1 : -2147483648 ≤ z) (h2 : z < 2147483648) : z.bmod (2 ^ 32) = z := by
  rw [Int.bmod_eq_of_le (by omega) (by omega)]
theorem L_add {x y : Int64} (h1 : -9223372036854775808 ≤ x.toInt + y.toInt) (h2 : x.toInt + y.toInt < 9223372036854775808) : (x + y).toInt = x.toInt + y.toInt := by
  rw [Int64.toInt_add, bm64 h1 h2]
theorem L_sub {x y : Int64} (h1 : -9223372036854775808 ≤ x.toInt - y.toInt) (h2 : x.toInt - y.toInt < 9223372036854775808) : (x - y).toInt = x.toInt - y.toInt := by
  rw [Int64.toInt_sub, bm64 h1 h2]
theorem L_mul {x y : Int64} (h1 : -9223372036854775808 ≤ x.toInt * y.toInt) (h2 : x.toInt * y.toInt < 9223372036854775808) : (x * y).toInt = x.toInt * y.toInt := by
  rw [Int64.toInt_mul, bm64 h1 h2]
theorem L_neg {x : Int64} (h : -9223372036854775808 < x.toInt) : (-x).toInt = -x.toInt := by
  have := L_rng x
  rw [Int64.toInt_neg, bm64 (by omega) (by omega)]
theorem I_add {x y : Int32} (h1 : -2147483648 ≤ x.toInt + y.toInt) (h2 : x.toInt + y.toInt < 2147483648) : (x + y).toInt = x.toInt + y.toInt := by
  rw [Int32.toInt_add, bm32 h1 h2]
theorem I_sub {x y : Int32} (h1 : -2147483648 ≤ x.toInt - y.toInt) (h2 : x.toInt - y.toInt < 2147483648) : (x - y).toInt = x.toInt - y.toInt := by
  rw [Int32.toInt_sub, bm32 h1 h2]
theorem I_mul {x y : Int32} (h1 : -2147483648 ≤ x.toInt * y.toInt) (h2 : x.toInt * y.toInt < 2147483648) : (x * y).toInt = x.toInt * y.toInt := by
  rw [Int32.toInt_mul, bm32 h1 h2]
theorem I_neg {x : Int32} (h : -2147483648 < x.toInt) : (-x).toInt = -x.toInt := by
  have := I_rng x
  rw [Int32.toInt_neg, bm32 (by omega) (by omega)]
theorem L_lt (a b : Int64) : a < b ↔ a.toInt < b.toInt := Int64.lt_iff_toInt_lt
theorem L_le (a b : Int64) : a ≤ b ↔ a.toInt ≤ b.toInt := Int64.le_iff_toInt_le
theorem L_eq (a b : Int64) : a = b ↔ a.toInt = b.toInt := Int64.toInt_inj.symm
theorem I_lt (a b : Int32) : a < b ↔ a.toInt < b.toInt := Int32.lt_iff_toInt_lt
theorem I_le (a b : Int32) : a ≤ b ↔ a.toInt ≤ b.toInt := Int32.le_iff_toInt_le
theorem I_eq (a b : Int32) : a = b ↔ a.toInt = b.toInt := Int32.toInt_inj.symm
theorem L_i2l (x : Int32) : x.toInt64.toInt = x.toInt := by
  simp
theorem L_l2i {x : Int64} (h1 : -2147483648 ≤ x.toInt) (h2 : x.toInt < 2147483648) : x.toInt32.toInt = x.toInt := by
  rw [Int64.toInt_toInt32, bm32 h1 h2]
theorem L_tn (x : Int64) : (x.toBitVec.toNat : Int) = x.toInt % 18446744073709551616 := by
  have h : x.toInt = x.toBitVec.toInt := rfl
  have h2 := x.toBitVec.isLt
  rw [h, BitVec.toInt_eq_toNat_cond]
  split <;> omega
theorem I_tn (x : Int32) : (x.toBitVec.toNat : Int) = x.toInt % 4294967296 := by
  have h : x.toInt = x.toBitVec.toInt := rfl
  have h2 := x.toBitVec.isLt
  rw [h, BitVec.toInt_eq_toNat_cond]
  split <;> omega
theorem L_ofn {x : Int64} (h : x.toBitVec.toNat < 9223372036854775808) : x.toInt = (x.toBitVec.toNat : Int) := by
  have h1 : x.toInt = x.toBitVec.toInt := rfl
  rw [h1, BitVec.toInt_eq_toNat_cond]
  split <;> omega
theorem I_ofn {x : Int32} (h : x.toBitVec.toNat < 2147483648) : x.toInt = (x.toBitVec.toNat : Int) := by
  have h1 : x.toInt = x.toBitVec.toInt := rfl
  rw [h1, BitVec.toInt_eq_toNat_cond]
  split <;> omega
theorem emod_pow {z : Int} {k n : Nat} (h : k ≤ n) : z % (2 ^ n : Int) % (2 ^ k : Int) = z % (2 ^ k : Int) :=
  Int.emod_emod_of_dvd z (by
    obtain ⟨d, rfl⟩ := Nat.exists_eq_add_of_le h
    exact ⟨2 ^ d, by rw [Int.pow_add]⟩)
/-- a mask of k ones -/
theorem L_and (x : Int64) {m : Int64} (k : Nat) (hk : k < 63) (hm : m.toBitVec.toNat = 2 ^ k - 1) : (x &&& m).toInt = x.toInt % (2 ^ k : Int) := by
  have e : (x &&& m).toBitVec.toNat = x.toBitVec.toNat % 2 ^ k := by
    rw [Int64.toBitVec_and, BitVec.toNat_and, hm, Nat.and_two_pow_sub_one_eq_mod]
  have h1 : x.toBitVec.toNat % 2 ^ k < 2 ^ k := Nat.mod_lt _ (Nat.two_pow_pos k)
  have h2 : (2 : Nat) ^ k < 2 ^ 63 := Nat.pow_lt_pow_right (by omega) hk
  rw [L_ofn (by rw [e]; omega), e, Int.natCast_emod, L_tn]
  rw [show ((2 ^ k : Nat) : Int) = (2 ^ k : Int) by norm_cast]
  exact emod_pow (z := x.toInt) (n := 64) (by omega)
theorem I_and (x : Int32) {m : Int32} (k : Nat) (hk : k < 31) (hm : m.toBitVec.toNat = 2 ^ k - 1) : (x &&& m).toInt = x.toInt % (2 ^ k : Int) := by
  have e : (x &&& m).toBitVec.toNat = x.toBitVec.toNat % 2 ^ k := by
    rw [Int32.toBitVec_and, BitVec.toNat_and, hm, Nat.and_two_pow_sub_one_eq_mod]
  have h1 : x.toBitVec.toNat % 2 ^ k < 2 ^ k := Nat.mod_lt _ (Nat.two_pow_pos k)
  have h2 : (2 : Nat) ^ k < 2 ^ 31 := Nat.pow_lt_pow_right (by omega) hk
  rw [I_ofn (by rw [e]; omega), e, Int.natCast_emod, I_tn]
  rw [show ((2 ^ k : Nat) : Int) = (2 ^ k : Int) by norm_cast]
  exact emod_pow (z := x.toInt) (n := 32) (by omega)
theorem L_shr (x s : Int64) (k : Nat) (hs : (s.toBitVec.smod 64).toNat = k) : (x >>> s).toInt = x.toInt / (2 ^ k : Int) := by
  have e : (x >>> s).toInt = x.toInt >>> k := by
    rw [← hs]
    exact BitVec.toInt_sshiftRight ..
  rw [e, Int.shiftRight_eq_div_pow]
  norm_cast
theorem I_shr (x s : Int32) (k : Nat) (hs : (s.toBitVec.smod 32).toNat = k) : (x >>> s).toInt = x.toInt / (2 ^ k : Int) := by
  rw [pk_shr x s k hs, Int.shiftRight_eq_div_pow]
  norm_cast
theorem L_shl (x s : Int64) (k : Nat) (hs : (s.toBitVec.smod 64).toNat = k) (h1 : -9223372036854775808 ≤ x.toInt * (2 ^ k : Int)) (h2 : x.toInt * (2 ^ k : Int) < 9223372036854775808) : (x <<< s).toInt = x.toInt * (2 ^ k : Int) := by
  have e : (x <<< s).toInt = (x.toBitVec <<< k).toInt := by
    rw [← hs]
    rfl
  rw [e, BitVec.toInt_shiftLeft, Nat.shiftLeft_eq]
  have h3 := L_tn x
  have h4 : ((x.toBitVec.toNat * 2 ^ k : Nat) : Int) = x.toBitVec.toNat * (2 ^ k : Int) := by norm_cast
  rw [h4, h3]
  have h5 : (x.toInt % 18446744073709551616 * (2 ^ k : Int)).bmod (2 ^ 64) = (x.toInt * (2 ^ k : Int)).bmod (2 ^ 64) := by
    have : x.toInt % 18446744073709551616 * (2 ^ k : Int) = x.toInt * (2 ^ k : Int) + 18446744073709551616 * (-(x.toInt / 18446744073709551616) * (2 ^ k : Int)) := by
      have := Int.emod_def x.toInt 18446744073709551616
      rw [this]
      grind
    rw [this]
    have h6 : (18446744073709551616 : Int) = ((2 ^ 64 : Nat) : Int) := by decide
    rw [h6, Int.add_mul_bmod_self_left]
  rw [h5, bm64 h1 h2]
theorem I_shl (x s : Int32) (k : Nat) (hs : (s.toBitVec.smod 32).toNat = k) : (x <<< s).toInt = (x.toInt * (2 ^ k : Int)).bmod (2 ^ 32) := by
  have e : (x <<< s).toInt = (x.toBitVec <<< k).toInt := by
    rw [← hs]
    rfl
  rw [e, BitVec.toInt_shiftLeft, Nat.shiftLeft_eq]
  have h3 := I_tn x
  have h4 : ((x.toBitVec.toNat * 2 ^ k : Nat) : Int) = x.toBitVec.toNat * (2 ^ k : Int) := by norm_cast
  rw [h4, h3]
  have : x.toInt % 4294967296 * (2 ^ k : Int) = x.toInt * (2 ^ k : Int) + 4294967296 * (-(x.toInt / 4294967296) * (2 ^ k : Int)) := by
    have := Int.emod_def x.toInt 4294967296
    rw [this]
    grind
  rw [this]
  have h6 : (4294967296 : Int) = ((2 ^ 32 : Nat) : Int) := by decide
  rw [h6, Int.add_mul_bmod_self_left]
theorem L_ushr (x : Int64) (s : UInt64) (k : Nat) (hs : s.toNat % 64 = k) (h0 : 0 ≤ x.toInt) : (x.toUInt64 >>> s).toInt64.toInt = x.toInt / (2 ^ k : Int) := by
  have hb : (x.toUInt64 >>> s).toInt64.toBitVec.toNat = x.toBitVec.toNat / 2 ^ k := by
    show (x.toUInt64 >>> s).toNat = _
    rw [UInt64.toNat_shiftRight, hs, Nat.shiftRight_eq_div_pow]
    rfl
  have h1 := L_tn x
  have h2 := L_rng x
  have h3 : x.toBitVec.toNat / 2 ^ k ≤ x.toBitVec.toNat := Nat.div_le_self _ _
  rw [L_ofn (by rw [hb]; omega), hb, Int.natCast_ediv, h1]
  rw [Int.emod_eq_of_lt h0 (by omega)]
  norm_cast
theorem L_div {x y : Int64} (hx : 0 ≤ x.toInt) (hy : 0 < y.toInt) : (x / y).toInt = x.toInt / y.toInt := by
  have h := pk_lDiv (a := x.toInt.toNat) (b := y.toInt.toNat) (by have := L_rng x; omega) (by omega) (by have := L_rng y; omega)
  have ex : lN x.toInt.toNat = x := by
    apply Int64.toInt_inj.mp
    rw [pk_lT (by have := L_rng x; omega)]
    omega
  have ey : lN y.toInt.toNat = y := by
    apply Int64.toInt_inj.mp
    rw [pk_lT (by have := L_rng y; omega)]
    omega
  rw [ex, ey] at h
  rw [h, pk_lT (Nat.lt_of_le_of_lt (Nat.div_le_self _ _) (by have := L_rng x; omega)), Int.natCast_ediv, Int.toNat_of_nonneg hx, Int.toNat_of_nonneg (by omega)]
theorem L_rem {x y : Int64} (hx : 0 ≤ x.toInt) (hy : 0 < y.toInt) : (x - x / y * y).toInt = x.toInt % y.toInt := by
  have h1 := L_div hx hy
  have h2 := L_rng x
  have h3 := Int.mul_ediv_add_emod x.toInt y.toInt
  have h4 := Int.emod_nonneg x.toInt (by omega : y.toInt ≠ 0)
  have h5 := Int.emod_lt_of_pos x.toInt hy
  have h6 : 0 ≤ x.toInt / y.toInt := Int.ediv_nonneg hx (by omega)
  have h7 : x.toInt / y.toInt * y.toInt = x.toInt - x.toInt % y.toInt := by grind
  have h8 : 0 ≤ x.toInt / y.toInt * y.toInt := Int.mul_nonneg h6 (by omega)
  have e1 : (x / y * y).toInt = x.toInt / y.toInt * y.toInt := by
    rw [L_mul (by rw [h1]; omega) (by rw [h1]; omega), h1]
  rw [L_sub (by rw [e1]; omega) (by rw [e1]; omega), e1]
  omega
theorem or_dis {a b k : Nat} (h : b < 2 ^ k) : (a * 2 ^ k) ||| b = a * 2 ^ k + b := by
  rw [← Nat.shiftLeft_eq]
  exact (Nat.shiftLeft_add_eq_or_of_lt h a).symm
theorem L_or {x y : Int64} (k : Nat) {a : Int} (ha : 0 ≤ a) (hx : x.toInt = a * (2 ^ k : Int)) (hy0 : 0 ≤ y.toInt) (hy : y.toInt < (2 ^ k : Int)) : (x ||| y).toInt = x.toInt + y.toInt := by
  obtain ⟨n, rfl⟩ := Int.eq_ofNat_of_zero_le ha
  have h2 : (0 : Int) ≤ (2 ^ k : Int) := Int.le_of_lt (Int.pow_pos (by decide))
  have hx0 : 0 ≤ x.toInt := by rw [hx]; exact Int.mul_nonneg (by omega) h2
  have hxn := L_tn x
  have hyn := L_tn y
  rw [Int.emod_eq_of_lt hx0 (by have := L_rng x; omega)] at hxn
  rw [Int.emod_eq_of_lt hy0 (by have := L_rng y; omega)] at hyn
  have e1 : x.toBitVec.toNat = n * 2 ^ k := by
    have : (x.toBitVec.toNat : Int) = ((n * 2 ^ k : Nat) : Int) := by rw [hxn, hx]; norm_cast
    exact_mod_cast this
  have e2 : y.toBitVec.toNat < 2 ^ k := by
    have : (y.toBitVec.toNat : Int) < ((2 ^ k : Nat) : Int) := by rw [hyn]; exact_mod_cast hy
    exact_mod_cast this
  have e : (x ||| y).toBitVec.toNat = x.toBitVec.toNat + y.toBitVec.toNat := by
    rw [Int64.toBitVec_or, BitVec.toNat_or, e1, or_dis e2]
  have hlt : (x ||| y).toBitVec.toNat < 2 ^ 63 := by
    rw [Int64.toBitVec_or, BitVec.toNat_or]
    have := L_rng x
    have := L_rng y
    exact Nat.or_lt_two_pow (by omega) (by omega)
  rw [L_ofn (by omega), e]
  omega
theorem I_or {x y : Int32} (k : Nat) {a : Int} (ha : 0 ≤ a) (hx : x.toInt = a * (2 ^ k : Int)) (hy0 : 0 ≤ y.toInt) (hy : y.toInt < (2 ^ k : Int)) : (x ||| y).toInt = x.toInt + y.toInt := by
  obtain ⟨n, rfl⟩ := Int.eq_ofNat_of_zero_le ha
  have h2 : (0 : Int) ≤ (2 ^ k : Int) := Int.le_of_lt (Int.pow_pos (by decide))
  have hx0 : 0 ≤ x.toInt := by rw [hx]; exact Int.mul_nonneg (by omega) h2
  have hxn := I_tn x
  have hyn := I_tn y
  rw [Int.emod_eq_of_lt hx0 (by have := I_rng x; omega)] at hxn
  rw [Int.emod_eq_of_lt hy0 (by have := I_rng y; omega)] at hyn
  have e1 : x.toBitVec.toNat = n * 2 ^ k := by
    have : (x.toBitVec.toNat : Int) = ((n * 2 ^ k : Nat) : Int) := by rw [hxn, hx]; norm_cast
    exact_mod_cast this
  have e2 : y.toBitVec.toNat < 2 ^ k := by
    have : (y.toBitVec.toNat : Int) < ((2 ^ k : Nat) : Int) := by rw [hyn]; exact_mod_cast hy
    exact_mod_cast this
  have e : (x ||| y).toBitVec.toNat = x.toBitVec.toNat + y.toBitVec.toNat := by
    rw [Int32.toBitVec_or, BitVec.toNat_or, e1, or_dis e2]
  have hlt : (x ||| y).toBitVec.toNat < 2 ^ 31 := by
    rw [Int32.toBitVec_or, BitVec.toNat_or]
    have := I_rng x
    have := I_rng y
    exact Nat.or_lt_two_pow (by omega) (by omega)
  rw [I_ofn (by omega), e]
  omega
/-! the value of digits -/
def pv (B : Int) (f : Nat → Int) : Nat → Int
  | 0 => 0
  | n + 1 => pv B f n + f n * B ^ n
theorem pv_congr {B : Int} {f g : Nat → Int} : ∀ {n : Nat}, (∀ i, i < n → f i = g i) → pv B f n = pv B g n
  | 0, _ => rfl
  | n + 1, h => by
    unfold pv
    rw [pv_congr (fun i hi => h i (by omega)), h n (by omega)]
theorem pv_zero {B : Int} {f : Nat → Int} : ∀ {n : Nat}, (∀ i, i < n → f i = 0) → pv B f n = 0
  | 0, _ => rfl
  | n + 1, h => by
    unfold pv
    rw [pv_zero (fun i hi => h i (by omega)), h n (by omega)]
    omega
theorem pv_add {B : Int} {f g : Nat → Int} : ∀ {n : Nat}, pv B (fun i => f i + g i) n = pv B f n + pv B g n
  | 0 => rfl
  | n + 1 => by
    unfold pv
    rw [pv_add (f := f) (g := g)]
    grind
theorem pv_mul {B c : Int} {f : Nat → Int} : ∀ {n : Nat}, pv B (fun i => c * f i) n = c * pv B f n
  | 0 => by simp [pv]
  | n + 1 => by
    unfold pv
    rw [pv_mul (f := f)]
    grind
theorem pv_split {B : Int} {f : Nat → Int} {n : Nat} : ∀ {m : Nat}, pv B f (n + m) = pv B f n + B ^ n * pv B (fun i => f (n + i)) m
  | 0 => by simp [pv]
  | m + 1 => by
    show pv B f (n + m) + f (n + m) * B ^ (n + m) = _
    rw [pv_split (m := m)]
    show _ = pv B f n + B ^ n * (pv B (fun i => f (n + i)) m + f (n + m) * B ^ m)
    rw [Int.pow_add]
    generalize pv B (fun i => f (n + i)) m = x
    generalize pv B f n = y
    grind
theorem pv_shift {B : Int} {f : Nat → Int} {n : Nat} : pv B f (n + 1) = f 0 + B * pv B (fun i => f (i + 1)) n := by
  have h := pv_split (B := B) (f := f) (n := 1) (m := n)
  rw [Nat.add_comm 1 n] at h
  rw [h]
  have e : pv B f 1 = f 0 := by simp [pv]
  rw [e, Int.pow_one]
  congr 2
  exact pv_congr (fun i _ => by rw [Nat.add_comm])
theorem pv_more {B : Int} {f : Nat → Int} {n m : Nat} (hnm : n ≤ m) (h : ∀ i, n ≤ i → i < m → f i = 0) : pv B f m = pv B f n := by
  obtain ⟨d, rfl⟩ := Nat.exists_eq_add_of_le hnm
  rw [pv_split, pv_zero (fun i hi => h (n + i) (by omega) (by omega))]
  omega
theorem pv_nn {B : Int} (hB : 0 ≤ B) {f : Nat → Int} : ∀ {n : Nat}, (∀ i, i < n → 0 ≤ f i) → 0 ≤ pv B f n
  | 0, _ => Int.le_refl 0
  | n + 1, h => by
    unfold pv
    have h1 := pv_nn hB (n := n) (fun i hi => h i (by omega))
    have h2 : 0 ≤ f n * B ^ n := Int.mul_nonneg (h n (by omega)) (Int.pow_nonneg hB)
    omega
theorem pv_lt {B : Int} (hB : 0 < B) {f : Nat → Int} : ∀ {n : Nat}, (∀ i, i < n → 0 ≤ f i ∧ f i < B) → pv B f n < B ^ n
  | 0, _ => by simp [pv]
  | n + 1, h => by
    unfold pv
    have h1 := pv_lt hB (n := n) (fun i hi => h i (by omega))
    have h2 := (h n (by omega)).2
    have h3 : 0 ≤ B ^ n := Int.pow_nonneg (by omega)
    have h4 : f n * B ^ n ≤ (B - 1) * B ^ n := Int.mul_le_mul_of_nonneg_right (by omega) h3
    rw [Int.pow_succ]
    have h5 : (B - 1) * B ^ n = B ^ n * B - B ^ n := by grind
    omega
theorem pv_pos {B : Int} (hB : 0 < B) {f : Nat → Int} {n : Nat} (hn : 0 < n) (h : ∀ i, i < n → 0 ≤ f i ∧ f i < B) (ht : f (n - 1) ≠ 0) : B ^ (n - 1) ≤ pv B f n := by
  obtain ⟨m, rfl⟩ : ∃ m, n = m + 1 := ⟨n - 1, by omega⟩
  rw [Nat.add_sub_cancel] at *
  unfold pv
  have h1 := pv_nn (B := B) (by omega) (n := m) (f := f) (fun i hi => (h i (by omega)).1)
  have h2 := (h m (by omega)).1
  have h3 : 0 ≤ B ^ m := Int.pow_nonneg (by omega)
  have h4 : 1 * B ^ m ≤ f m * B ^ m := Int.mul_le_mul_of_nonneg_right (by omega) h3
  omega
