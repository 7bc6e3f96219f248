/-! inner products over the counted ticks, and what the elimination leaves of a column -/
def su (f : Nat → Rat) : Nat → Rat
  | 0 => 0
  | n + 1 => su f n + f n
theorem su_congr {f g : Nat → Rat} : ∀ {n : Nat}, (∀ i, i < n → f i = g i) → su f n = su g n
  | 0, _ => rfl
  | n + 1, h => by
    show su f n + f n = su g n + g n
    rw [su_congr (fun i hi => h i (by omega)), h n (by omega)]
theorem su_add {f g : Nat → Rat} : ∀ {n : Nat}, su (fun i => f i + g i) n = su f n + su g n
  | 0 => by show (0 : Rat) = 0 + 0; grind
  | n + 1 => by
    show su (fun i => f i + g i) n + (f n + g n) = su f n + f n + (su g n + g n)
    rw [su_add (n := n)]; grind
theorem su_mul {f : Nat → Rat} {a : Rat} : ∀ {n : Nat}, su (fun i => a * f i) n = a * su f n
  | 0 => by show (0 : Rat) = a * 0; grind
  | n + 1 => by
    show su (fun i => a * f i) n + a * f n = a * (su f n + f n)
    rw [su_mul (n := n)]; grind
theorem su_zero {f : Nat → Rat} {n : Nat} (h : ∀ i, i < n → f i = 0) : su f n = 0 := by
  rw [su_congr (g := fun _ => 0 * 0) (fun i hi => by rw [h i hi]; grind), su_mul]
  grind
theorem su_nn {f : Nat → Rat} : ∀ {n : Nat}, (∀ i, i < n → 0 ≤ f i) → 0 ≤ su f n
  | 0, _ => by show (0 : Rat) ≤ 0; grind
  | n + 1, h => by
    have h1 := su_nn (n := n) (fun i hi => h i (by omega))
    have h2 := h n (by omega)
    show 0 ≤ su f n + f n
    grind
theorem su_le {f g : Nat → Rat} : ∀ {n : Nat}, (∀ i, i < n → f i ≤ g i) → su f n ≤ su g n
  | 0, _ => by show (0 : Rat) ≤ 0; grind
  | n + 1, h => by
    have h1 := su_le (n := n) (fun i hi => h i (by omega))
    have h2 := h n (by omega)
    show su f n + f n ≤ su g n + g n
    grind
theorem su_eq0 {f : Nat → Rat} : ∀ {n : Nat}, (∀ i, i < n → 0 ≤ f i) → su f n = 0 → ∀ i, i < n → f i = 0
  | 0, _, _, i, hi => by omega
  | n + 1, h, h0, i, hi => by
    have h1 := su_nn (n := n) (fun i hi => h i (by omega))
    have h2 := h n (by omega)
    have h0 : su f n + f n = 0 := h0
    by_cases e : i = n
    · subst e; grind
    · exact su_eq0 (n := n) (fun i hi => h i (by omega)) (by grind) i (by omega)
theorem sq_nn (a : Rat) : 0 ≤ a * a := by
  rcases Rat.le_total (a := 0) (b := a) with h | h
  · exact Rat.mul_nonneg h h
  · have h2 : 0 ≤ -a := by grind
    have := Rat.mul_nonneg h2 h2
    grind
/-- w t is 1 at a counted tick, 0 else -/
def ip (w f g : Nat → Rat) : Rat := su (fun t => w t * (f t * g t)) 40
theorem ip_comm (w f g : Nat → Rat) : ip w f g = ip w g f := su_congr (fun t _ => by grind)
theorem ip_sub (w f g h : Nat → Rat) (a : Rat) : ip w (fun t => f t - a * g t) h = ip w f h - a * ip w g h := by
  unfold ip
  have e : su (fun t => w t * ((f t - a * g t) * h t)) 40 = su (fun t => w t * (f t * h t) + (-a) * (w t * (g t * h t))) 40 := su_congr (fun t _ => by grind)
  rw [e, su_add, su_mul]; grind
theorem ip_congr {w f g h : Nat → Rat} (e : ∀ t, t < 40 → f t = g t) : ip w f h = ip w g h := su_congr (fun t ht => by rw [e t ht])
theorem ip_sl {w f : Nat → Rat} {C : Nat → Nat → Rat} {x : Nat → Rat} : ∀ {K : List Nat}, ip w f (fun t => sl (fun l => x l * C l t) K) = sl (fun l => x l * ip w f (C l)) K
  | [] => su_zero (fun t _ => by show w t * (f t * 0) = 0; grind)
  | k :: K => by
    have ih := ip_sl (w := w) (f := f) (C := C) (x := x) (K := K)
    show ip w f (fun t => x k * C k t + sl (fun l => x l * C l t) K) = x k * ip w f (C k) + sl (fun l => x l * ip w f (C l)) K
    rw [← ih]
    unfold ip
    have e : su (fun t => w t * (f t * (x k * C k t + sl (fun l => x l * C l t) K))) 40 = su (fun t => x k * (w t * (f t * C k t)) + w t * (f t * sl (fun l => x l * C l t) K)) 40 := su_congr (fun t _ => by grind)
    rw [e, su_add, su_mul]
def isW (w : Nat → Rat) : Prop := ∀ t, w t = 0 ∨ w t = 1
theorem ip_nn {w : Nat → Rat} (hw : isW w) (f : Nat → Rat) : 0 ≤ ip w f f := su_nn (fun t _ => by
  have := sq_nn (f t)
  rcases hw t with h | h <;> rw [h] <;> grind)
theorem ip_eq0 {w : Nat → Rat} (hw : isW w) {f : Nat → Rat} (h : ip w f f = 0) : ∀ t, t < 40 → w t = 1 → f t = 0 := by
  intro t ht h1
  have h2 := su_eq0 (n := 40) (f := fun t => w t * (f t * f t)) (fun t _ => by
    have := sq_nn (f t)
    rcases hw t with h | h <;> rw [h] <;> grind) h t ht
  rw [h1] at h2
  have h3 : f t * f t = 0 := by grind
  rcases Rat.mul_eq_zero.mp h3 with q | q <;> exact q
theorem ip_zero {w f : Nat → Rat} (hw : isW w) (h : ∀ t, t < 40 → w t = 1 → f t = 0) (g : Nat → Rat) : ip w f g = 0 := su_zero (fun t ht => by
  rcases hw t with e | e
  · rw [e]; grind
  · rw [h t ht e]; grind)
/-- Cauchy, Schwarz -/
theorem ip_cs {w : Nat → Rat} (hw : isW w) (f g : Nat → Rat) : ip w f g * ip w f g ≤ ip w f f * ip w g g := by
  by_cases h0 : ip w g g = 0
  · have h1 := ip_zero hw (ip_eq0 hw h0) f
    rw [ip_comm] at h1
    rw [h0, h1]; grind
  · have hp := ip_nn hw g
    have h1 := ip_nn hw (fun t => f t - ip w f g / ip w g g * g t)
    generalize ha : ip w f g / ip w g g = a at h1
    have e1 : ip w (fun t => f t - a * g t) (fun t => f t - a * g t) = ip w f (fun t => f t - a * g t) - a * ip w g (fun t => f t - a * g t) := ip_sub _ _ _ _ _
    have e2 : ip w f (fun t => f t - a * g t) = ip w f f - a * ip w g f := by rw [ip_comm]; exact ip_sub _ _ _ _ _
    have e3 : ip w g (fun t => f t - a * g t) = ip w f g - a * ip w g g := by rw [ip_comm]; exact ip_sub _ _ _ _ _
    rw [e1, e2, e3, ip_comm w g f, ← ha] at h1
    clear e1 e2 e3 ha
    generalize ip w f g = x at *
    generalize ip w g g = y at *
    generalize ip w f f = z at *
    have h2 : 0 < y := by grind
    have h3 : z - x / y * x - x / y * (x - x / y * y) = z - x * x / y := by grind
    rw [h3] at h1
    have h4 := Rat.mul_nonneg h1 hp
    have h5 : (z - x * x / y) * y = z * y - x * x := by grind
    grind
section GS
variable (w : Nat → Rat) (C : Nat → Nat → Rat)
def rs : Nat → Nat → Nat → Rat
  | 0 => C
  | k + 1 => fun i t => rs k i t - ip w (rs k i) (rs k k) / ip w (rs k k) (rs k k) * rs k k t
/-- what is left of the products, with the first k columns taken out -/
def Sk (k i j : Nat) : Rat := ip w (rs w C k i) (rs w C k j)
/-- the numbers by which the first k columns make up what was taken out -/
def xs : Nat → Nat → Nat → Rat
  | 0 => fun _ _ => 0
  | k + 1 => fun j l => if l = k then Sk w C k j k / Sk w C k k k else xs k j l - Sk w C k j k / Sk w C k k k * xs k k l
end GS
def Kl : Nat → List Nat
  | 0 => []
  | k + 1 => k :: Kl k
theorem mem_Kl {l : Nat} : ∀ {k : Nat}, l ∈ Kl k ↔ l < k
  | 0 => by simp [Kl]
  | k + 1 => by
    show l ∈ k :: Kl k ↔ _
    rw [List.mem_cons, mem_Kl]; omega
section GT
variable {w : Nat → Rat} {C : Nat → Nat → Rat}
theorem rs_succ (k i t : Nat) : rs w C (k + 1) i t = rs w C k i t - Sk w C k i k / Sk w C k k k * rs w C k k t := rfl
theorem Sk_comm (k i j : Nat) : Sk w C k i j = Sk w C k j i := ip_comm _ _ _
theorem rs_eq : ∀ (k i t : Nat), rs w C k i t = C i t - sl (fun l => xs w C k i l * C l t) (Kl k)
  | 0, i, t => by show C i t = C i t - 0; grind
  | k + 1, i, t => by
    rw [rs_succ, rs_eq k i t, rs_eq k k t]
    show _ = C i t - (xs w C (k + 1) i k * C k t + sl (fun l => xs w C (k + 1) i l * C l t) (Kl k))
    have e1 : xs w C (k + 1) i k = Sk w C k i k / Sk w C k k k := if_pos rfl
    have e2 : sl (fun l => xs w C (k + 1) i l * C l t) (Kl k) = sl (fun l => xs w C k i l * C l t) (Kl k) - Sk w C k i k / Sk w C k k k * sl (fun l => xs w C k k l * C l t) (Kl k) := by
      rw [← sl_mul, ← sl_sub]
      refine sl_congr (fun l hl => ?_)
      have : l ≠ k := by have := mem_Kl.mp hl; omega
      show (if l = k then _ else _) * _ = _
      rw [if_neg this]; grind
    rw [e1, e2]; grind
theorem Sk_succ {k : Nat} (hp : Sk w C k k k ≠ 0) (i j : Nat) : Sk w C (k + 1) i j = Sk w C k i j - Sk w C k i k * Sk w C k k j / Sk w C k k k := by
  have e1 : Sk w C (k + 1) i j = ip w (fun t => rs w C k i t - Sk w C k i k / Sk w C k k k * rs w C k k t) (fun t => rs w C k j t - Sk w C k j k / Sk w C k k k * rs w C k k t) := rfl
  rw [e1, ip_sub, ip_comm w (rs w C k i), ip_comm w (rs w C k k), ip_sub, ip_sub]
  show Sk w C k j i - _ * Sk w C k k i - _ * (Sk w C k j k - _ * Sk w C k k k) = _
  rw [Sk_comm k j i, Sk_comm k k i, Sk_comm k j k]
  generalize Sk w C k i k = a
  generalize Sk w C k k j = b
  generalize Sk w C k i j = c
  generalize Sk w C k k k = d at *
  grind
/-- the pivots ahead of k are not 0 -/
def Piv (w : Nat → Rat) (C : Nat → Nat → Rat) (k : Nat) : Prop := ∀ l, l < k → Sk w C l l l ≠ 0
theorem orth : ∀ {k : Nat}, Piv w C k → ∀ (i l : Nat), l < k → ip w (rs w C k i) (C l) = 0
  | 0, _, i, l, h => by omega
  | k + 1, hp, i, l, h => by
    have ih := orth (k := k) (fun m hm => hp m (by omega))
    have e : ip w (rs w C (k + 1) i) (C l) = ip w (rs w C k i) (C l) - Sk w C k i k / Sk w C k k k * ip w (rs w C k k) (C l) := ip_sub _ _ _ _ _
    by_cases q : l = k
    · subst q
      have e2 : ∀ m, ip w (rs w C l m) (C l) = Sk w C l m l := fun m => by
        unfold Sk
        have e3 : ip w (rs w C l m) (rs w C l l) = ip w (rs w C l l) (rs w C l m) := ip_comm _ _ _
        rw [e3]
        have e4 : ip w (rs w C l l) (rs w C l m) = ip w (fun t => C l t - 1 * sl (fun q => xs w C l l q * C q t) (Kl l)) (rs w C l m) := ip_congr (fun t _ => by rw [rs_eq]; grind)
        rw [e4, ip_sub, ip_comm w (C l), ip_comm w (fun t => sl (fun q => xs w C l l q * C q t) (Kl l)), ip_sl]
        rw [sl_zero (fun q hq => by rw [ih m q (mem_Kl.mp hq)]; grind)]
        grind
      rw [e, e2, e2]
      have := hp l (by omega)
      grind
    · rw [e, ih i l (by omega), ih k l (by omega)]
      grind
def Am (w : Nat → Rat) (C : Nat → Nat → Rat) (i j : Nat) : Rat := ip w (C i) (C j)
theorem Am_comm (i j : Nat) : Am w C i j = Am w C j i := ip_comm _ _ _
theorem Sk_Am {k : Nat} (hp : Piv w C k) (i j : Nat) : Sk w C k i j = Am w C i j - sl (fun l => Am w C i l * xs w C k j l) (Kl k) := by
  have e1 : Sk w C k i j = ip w (C i) (rs w C k j) := by
    unfold Sk
    have e4 : ip w (rs w C k i) (rs w C k j) = ip w (fun t => C i t - 1 * sl (fun q => xs w C k i q * C q t) (Kl k)) (rs w C k j) := ip_congr (fun t _ => by rw [rs_eq]; grind)
    rw [e4, ip_sub, ip_comm w (fun t => sl (fun q => xs w C k i q * C q t) (Kl k)), ip_sl]
    rw [sl_zero (fun q hq => by rw [orth hp j q (mem_Kl.mp hq)]; grind)]
    grind
  rw [e1, ip_comm]
  have e5 : ip w (rs w C k j) (C i) = ip w (fun t => C j t - 1 * sl (fun q => xs w C k j q * C q t) (Kl k)) (C i) := ip_congr (fun t _ => by rw [rs_eq]; grind)
  rw [e5, ip_sub, ip_comm w (C j), ip_comm w (fun t => sl (fun q => xs w C k j q * C q t) (Kl k)), ip_sl]
  have e6 : sl (fun l => xs w C k j l * ip w (C i) (C l)) (Kl k) = sl (fun l => Am w C i l * xs w C k j l) (Kl k) := sl_congr (fun l _ => by show _ * Am w C i l = _; grind)
  rw [e6]
  show Am w C i j - _ = _
  grind
/-- the normal equations -/
theorem normal {k : Nat} (hp : Piv w C k) (j : Nat) : ∀ r, r ∈ Kl k → Am w C r j = sl (fun l => xs w C k j l * Am w C r l) (Kl k) := by
  intro r hr
  have h := orth hp j r (mem_Kl.mp hr)
  have e5 : ip w (rs w C k j) (C r) = ip w (fun t => C j t - 1 * sl (fun q => xs w C k j q * C q t) (Kl k)) (C r) := ip_congr (fun t _ => by rw [rs_eq]; grind)
  rw [e5, ip_sub, ip_comm w (C j), ip_comm w (fun t => sl (fun q => xs w C k j q * C q t) (Kl k)), ip_sl] at h
  show ip w (C r) (C j) = sl (fun l => xs w C k j l * ip w (C r) (C l)) (Kl k)
  grind
def Dk (w : Nat → Rat) (C : Nat → Nat → Rat) : Nat → Rat
  | 0 => 1
  | k + 1 => Dk w C k * Sk w C k k k
theorem dt_Dk : ∀ {k : Nat}, Piv w C k → dt (Am w C) (Kl k) (Kl k) = Dk w C k
  | 0, _ => rfl
  | k + 1, hp => by
    have hp' : Piv w C k := fun l hl => hp l (by omega)
    show dt (Am w C) (k :: Kl k) (k :: Kl k) = Dk w C k * Sk w C k k k
    rw [border (normal hp' k), dt_Dk hp', Sk_Am hp']
theorem DS_isZ (hA : ∀ i j, isZ (Am w C i j)) {k : Nat} (hp : Piv w C k) (i j : Nat) : isZ (Dk w C k * Sk w C k i j) := by
  rw [← dt_Dk hp, Sk_Am hp, ← border (normal hp j)]
  exact dt_isZ hA _ _
theorem Dx_isZ (hA : ∀ i j, isZ (Am w C i j)) {k : Nat} (hp : Piv w C k) (j : Nat) {l : Nat} (hl : l < k) : isZ (Dk w C k * xs w C k j l) := by
  rw [← dt_Dk hp]
  exact cramer_isZ hA (mem_Kl.mpr hl) (normal hp j)
theorem Dk_isZ (hA : ∀ i j, isZ (Am w C i j)) {k : Nat} (hp : Piv w C k) : isZ (Dk w C k) := by
  rw [← dt_Dk hp]
  exact dt_isZ hA _ _
theorem Sk_nn (hw : isW w) (k i : Nat) : 0 ≤ Sk w C k i i := ip_nn hw _
theorem Sk_pos (hw : isW w) {k : Nat} (h : Sk w C k k k ≠ 0) : 0 < Sk w C k k k := by
  have := Sk_nn (C := C) hw k k
  grind
theorem Sk_le (hw : isW w) : ∀ {k : Nat}, Piv w C k → ∀ i, Sk w C k i i ≤ Am w C i i
  | 0, _, i => by show Am w C i i ≤ _; grind
  | k + 1, hp, i => by
    have h1 := Sk_le hw (k := k) (fun l hl => hp l (by omega)) i
    have h2 := hp k (by omega)
    have h3 := Sk_pos hw h2
    rw [Sk_succ h2, Sk_comm k k i]
    have h4 := sq_nn (Sk w C k i k)
    have h5 : 0 ≤ Sk w C k i k * Sk w C k i k / Sk w C k k k := by
      rw [Rat.div_def]
      exact Rat.mul_nonneg h4 (Rat.le_of_lt (Rat.inv_pos.mpr h3))
    grind
theorem Sk_cs (hw : isW w) (k i j : Nat) : Sk w C k i j * Sk w C k i j ≤ Sk w C k i i * Sk w C k j j := ip_cs hw _ _
theorem Dk_pos (hw : isW w) : ∀ {k : Nat}, Piv w C k → 0 < Dk w C k
  | 0, _ => by show (0 : Rat) < 1; grind
  | k + 1, hp => by
    have h1 := Dk_pos hw (k := k) (fun l hl => hp l (by omega))
    exact Rat.mul_pos h1 (Sk_pos hw (hp k (by omega)))
end GT
