/-! the way back: the unknowns from the last to the first; how great they are -/
theorem sl_su (g : Nat → Rat) : ∀ n, sl g (Kl n) = su g n
  | 0 => rfl
  | n + 1 => by
    show g n + sl g (Kl n) = su g n + g n
    rw [sl_su g n]; grind
theorem su_app {g : Nat → Rat} {p : Nat} : ∀ n, su g (p + n) = su g p + su (fun l => g (p + l)) n
  | 0 => by show su g p = su g p + 0; grind
  | n + 1 => by
    show su g (p + n) + g (p + n) = su g p + (su (fun l => g (p + l)) n + g (p + n))
    rw [su_app n]; grind
theorem su_single {a : Rat} {i : Nat} : ∀ n, su (fun l => if l = i then a else 0) n = if i < n then a else 0
  | 0 => by rw [if_neg (by omega)]; rfl
  | n + 1 => by
    show su (fun l => if l = i then a else 0) n + (if n = i then a else 0) = _
    rw [su_single n]
    by_cases h : n = i
    · rw [if_neg (by omega), if_pos h, if_pos (by omega)]; grind
    · rw [if_neg h]
      by_cases h2 : i < n
      · rw [if_pos h2, if_pos (by omega)]; grind
      · rw [if_neg h2, if_neg (by omega)]; grind
section BK
variable {w : Nat → Rat} {C : Nat → Nat → Rat}
theorem Sk_C {k : Nat} (hp : Piv w C k) (i j : Nat) : ip w (rs w C k i) (C j) = Sk w C k i j := by
  unfold Sk
  rw [ip_comm w (rs w C k i) (rs w C k j)]
  have e4 : ip w (rs w C k j) (rs w C k i) = ip w (fun t => C j t - 1 * sl (fun q => xs w C k j q * C q t) (Kl k)) (rs w C k i) := ip_congr (fun t _ => by rw [rs_eq]; grind)
  rw [e4, ip_sub, ip_comm w (C j), ip_comm w (fun t => sl (fun q => xs w C k j q * C q t) (Kl k)), ip_sl]
  rw [sl_zero (fun q hq => by rw [orth hp i q (mem_Kl.mp hq)]; grind)]
  grind
theorem Sk_low {k : Nat} (hp : Piv w C k) (i : Nat) {j : Nat} (hj : j < k) : Sk w C k i j = 0 := by
  rw [← Sk_C hp, orth hp i j hj]
theorem orthr {N : Nat} (hp : Piv w C N) {k i : Nat} (hk : k ≤ N) (hi : i < N) (y : Nat) : ip w (rs w C k i) (rs w C N y) = 0 := by
  have e4 : ip w (rs w C k i) (rs w C N y) = ip w (fun t => C i t - 1 * sl (fun q => xs w C k i q * C q t) (Kl k)) (rs w C N y) := ip_congr (fun t _ => by rw [rs_eq]; grind)
  rw [e4, ip_sub, ip_comm w (C i), ip_comm w (fun t => sl (fun q => xs w C k i q * C q t) (Kl k)), ip_sl, orth hp y i hi]
  rw [sl_zero (fun q hq => by rw [orth hp y q (by have := mem_Kl.mp hq; omega)]; grind)]
  grind
/-- the system that is left at stage k is solved by the numbers of the last stage -/
theorem backN {N : Nat} (hp : Piv w C N) {k i : Nat} (hk : k ≤ N) (hi : i < N) (y : Nat) : Sk w C k i y = su (fun l => xs w C N y l * Sk w C k i l) N := by
  have hk' : Piv w C k := fun l hl => hp l (by omega)
  have h := orthr hp hk hi y
  rw [ip_comm] at h
  have e4 : ip w (rs w C N y) (rs w C k i) = ip w (fun t => C y t - 1 * sl (fun q => xs w C N y q * C q t) (Kl N)) (rs w C k i) := ip_congr (fun t _ => by rw [rs_eq]; grind)
  rw [e4, ip_sub, ip_comm w (C y), ip_comm w (fun t => sl (fun q => xs w C N y q * C q t) (Kl N)), ip_sl, Sk_C hk'] at h
  have e5 : sl (fun l => xs w C N y l * ip w (rs w C k i) (C l)) (Kl N) = su (fun l => xs w C N y l * Sk w C k i l) N := by
    rw [sl_su]
    exact su_congr (fun l _ => by rw [Sk_C hk'])
  rw [e5] at h
  grind
theorem back {p n : Nat} (hp : Piv w C (p + n)) {k i : Nat} (hk : p ≤ k) (hk2 : k ≤ p + n) (hi : i < p + n) (y : Nat) : Sk w C k i y = su (fun l => xs w C (p + n) y (p + l) * Sk w C k i (p + l)) n := by
  have hk' : Piv w C k := fun l hl => hp l (by omega)
  rw [backN hp hk2 hi y, su_app]
  rw [su_zero (fun l hl => by rw [Sk_low hk' i (by omega)]; grind)]
  grind
/-- the elimination from stage p on is an elimination of what is left -/
theorem rs_sh (p : Nat) : ∀ (k i : Nat), rs w (fun i => rs w C p (p + i)) k i = rs w C (p + k) (p + i)
  | 0, i => rfl
  | k + 1, i => by
    funext t
    show rs w (fun i => rs w C p (p + i)) k i t - ip w (rs w (fun i => rs w C p (p + i)) k i) (rs w (fun i => rs w C p (p + i)) k k) / ip w (rs w (fun i => rs w C p (p + i)) k k) (rs w (fun i => rs w C p (p + i)) k k) * rs w (fun i => rs w C p (p + i)) k k t = rs w C (p + k) (p + i) t - ip w (rs w C (p + k) (p + i)) (rs w C (p + k) (p + k)) / ip w (rs w C (p + k) (p + k)) (rs w C (p + k) (p + k)) * rs w C (p + k) (p + k) t
    rw [rs_sh p k i, rs_sh p k k]
theorem Sk_sh (p k i j : Nat) : Sk w (fun i => rs w C p (p + i)) k i j = Sk w C (p + k) (p + i) (p + j) := by
  unfold Sk
  rw [rs_sh, rs_sh]
theorem Dk_sh (p : Nat) : ∀ k, Dk w C (p + k) = Dk w C p * Dk w (fun i => rs w C p (p + i)) k
  | 0 => by show _ = _ * (1 : Rat); rw [Rat.mul_one]; rfl
  | k + 1 => by
    show Dk w C (p + k) * Sk w C (p + k) (p + k) (p + k) = Dk w C p * (Dk w (fun i => rs w C p (p + i)) k * Sk w (fun i => rs w C p (p + i)) k k k)
    rw [Dk_sh p k, Sk_sh]; grind
theorem Piv_sh {p k : Nat} (hp : Piv w C (p + k)) : Piv w (fun i => rs w C p (p + i)) k := fun l hl => by
  rw [Sk_sh]
  exact hp (p + l) (by omega)
end BK
/-! Laplace's bound -/
def bd (q b : Rat) : Prop := -b ≤ q ∧ q ≤ b
theorem bd_nn {q b : Rat} (h : bd q b) : 0 ≤ b := by unfold bd at h; grind
theorem bd_sub {x y a b : Rat} (h : bd x a) (h2 : bd y b) : bd (x - y) (a + b) := by unfold bd at *; grind
theorem bd_add {x y a b : Rat} (h : bd x a) (h2 : bd y b) : bd (x + y) (a + b) := by unfold bd at *; grind
theorem bd_mul {x y a b : Rat} (h : bd x a) (h2 : bd y b) : bd (x * y) (a * b) := by
  have ha := bd_nn h
  have hb := bd_nn h2
  unfold bd at *
  have p1 : 0 ≤ (a - x) * (b - y) := Rat.mul_nonneg (by grind) (by grind)
  have p2 : 0 ≤ (a + x) * (b + y) := Rat.mul_nonneg (by grind) (by grind)
  have p3 : 0 ≤ (a - x) * (b + y) := Rat.mul_nonneg (by grind) (by grind)
  have p4 : 0 ≤ (a + x) * (b - y) := Rat.mul_nonneg (by grind) (by grind)
  constructor <;> grind
theorem bd_up {q a b : Rat} (h : bd q a) (hab : a ≤ b) : bd q b := by unfold bd at *; grind
theorem bd_0 {b : Rat} (h : 0 ≤ b) : bd 0 b := by unfold bd; grind
theorem bd_neg {q b : Rat} (h : bd q b) : bd (-q) b := by unfold bd at *; grind
theorem bd_su {f : Nat → Rat} {b : Rat} : ∀ {n : Nat}, (∀ i, i < n → bd (f i) b) → bd (su f n) ((n : Int) * b)
  | 0, _ => by show bd 0 (((0 : Int) : Rat) * b); unfold bd; rw [cast_0]; grind
  | n + 1, h => by
    have h1 := bd_su (n := n) (fun i hi => h i (by omega))
    have h2 := bd_add h1 (h n (by omega))
    show bd (su f n + f n) _
    have e : (((n + 1 : Nat) : Int) : Rat) * b = ((n : Int) : Rat) * b + b := by
      have : (((n + 1 : Nat) : Int) : Rat) = ((n : Int) : Rat) + 1 := by
        rw [show ((n + 1 : Nat) : Int) = (n : Int) + 1 by omega, cast_add, cast_1]
      rw [this]; grind
    rw [e]; exact h2
def pl (β : Nat → Rat) : List Nat → Rat
  | [] => 1
  | c :: l => β c * pl β l
theorem pl_app {β : Nat → Rat} : ∀ {a b : List Nat}, pl β (a ++ b) = pl β a * pl β b
  | [], b => by show pl β b = 1 * pl β b; grind
  | c :: a, b => by
    show β c * pl β (a ++ b) = β c * pl β a * pl β b
    rw [pl_app (a := a)]; grind
def fct : Nat → Rat
  | 0 => 1
  | n + 1 => ((n + 1 : Nat) : Int) * fct n
theorem fct_nn : ∀ n, 0 ≤ fct n
  | 0 => by show (0 : Rat) ≤ 1; grind
  | n + 1 => Rat.mul_nonneg (cast_le.mpr (by omega) : ((0 : Int) : Rat) ≤ _) (fct_nn n)
theorem ex_bd {a : Nat → Rat} {f : List Nat → Rat} {β : Nat → Rat} {K : Rat} {m : Nat} (ha : ∀ c, bd (a c) (β c)) (hf : ∀ l, l.length = m → bd (f l) (K * pl β l)) : ∀ (cs pre : List Nat), pre.length + cs.length = m + 1 → bd (ex a f pre cs) ((cs.length : Int) * (K * pl β (pre ++ cs)))
  | [], pre, _ => by show bd 0 (((0 : Int) : Rat) * _); unfold bd; rw [cast_0]; grind
  | c :: cs, pre, h => by
    have h1 := ex_bd ha hf cs (pre ++ [c]) (by simp at h ⊢; omega)
    have h2 := bd_mul (ha c) (hf (pre ++ cs) (by simp at h ⊢; omega))
    have h3 := bd_sub h2 h1
    show bd (a c * f (pre ++ cs) - ex a f (pre ++ [c]) cs) _
    have e1 : pl β (pre ++ [c] ++ cs) = pl β (pre ++ c :: cs) := by rw [List.append_assoc]; rfl
    have e2 : pl β (pre ++ c :: cs) = β c * pl β (pre ++ cs) := by
      rw [pl_app, pl_app]
      show pl β pre * (β c * pl β cs) = _
      grind
    have e : (((c :: cs).length : Int) : Rat) * (K * pl β (pre ++ c :: cs)) = β c * (K * pl β (pre ++ cs)) + ((cs.length : Int) : Rat) * (K * pl β (pre ++ [c] ++ cs)) := by
      have : (((c :: cs).length : Int) : Rat) = ((cs.length : Int) : Rat) + 1 := by
        rw [show ((c :: cs).length : Int) = (cs.length : Int) + 1 by simp, cast_add, cast_1]
      rw [this, e1, e2]; grind
    rw [e]; exact h3
theorem dt_bd {A : Nat → Nat → Rat} {β : Nat → Rat} : ∀ (R cs : List Nat), (∀ r, r ∈ R → ∀ c, bd (A r c) (β c)) → R.length = cs.length → bd (dt A R cs) (fct R.length * pl β cs)
  | [], [], _, _ => by show bd 1 (1 * 1); unfold bd; grind
  | [], _ :: _, _, h => by simp at h
  | r :: R, cs, hA, h => by
    have hf : ∀ l, l.length = R.length → bd (dt A R l) (fct R.length * pl β l) := fun l hl => dt_bd R l (fun q hq => hA q (List.mem_cons_of_mem _ hq)) hl.symm
    have := ex_bd (hA r List.mem_cons_self) hf cs [] (by simp at h ⊢; omega)
    show bd (ex (A r) (dt A R) [] cs) _
    have e : fct (r :: R).length * pl β cs = ((cs.length : Int) : Rat) * (fct R.length * pl β ([] ++ cs)) := by
      show (((R.length + 1 : Nat) : Int) : Rat) * fct R.length * pl β cs = _
      rw [← h]
      show _ = (((R.length + 1 : Nat) : Int) : Rat) * (fct R.length * pl β cs)
      grind
    rw [e]; exact this
theorem Kl_split {c : Nat} : ∀ {k : Nat}, c < k → ∃ p q, Kl k = p ++ c :: q
  | 0, h => by omega
  | k + 1, h => by
    by_cases e : c = k
    · exact ⟨[], Kl k, by rw [e]; rfl⟩
    · obtain ⟨p, q, h2⟩ := Kl_split (c := c) (k := k) (by omega)
      exact ⟨k :: p, q, by show k :: Kl k = _; rw [h2]; rfl⟩
theorem Kl_len : ∀ k, (Kl k).length = k
  | 0 => rfl
  | k + 1 => by show (Kl k).length + 1 = k + 1; rw [Kl_len k]
theorem sgn_bd {x b : Rat} : ∀ n, bd (sgn n * x) b → bd x b
  | 0, h => by have e : sgn 0 * x = x := by show (1 : Rat) * x = x; grind
               rw [e] at h; exact h
  | n + 1, h => by
    have e : sgn (n + 1) * x = -(sgn n * x) := by show -sgn n * x = _; grind
    rw [e] at h
    have := bd_neg h
    rw [show -(-(sgn n * x)) = sgn n * x by grind] at this
    exact sgn_bd n this
/-- Cramer's rule, as a bound -/
theorem cramer_bd {A : Nat → Nat → Rat} {β : Nat → Rat} {n c j : Nat} {x : Nat → Rat} (hc : c < n) (hA : ∀ r, r < n → ∀ c, bd (A r c) (β c)) {b M : Rat} (hb : ∀ c, c < n → β c ≤ M) (hb0 : ∀ c, 0 ≤ β c) (h : ∀ r, r ∈ Kl n → A r j = sl (fun l => x l * A r l) (Kl n)) (hM : 1 ≤ M) : bd (dt A (Kl n) (Kl n) * x c) (fct n * (β j * M ^ (n - 1))) := by
  obtain ⟨p, q, hK⟩ := Kl_split hc
  have h1 := cramer (A := A) (j := j) (x := x) hK h
  have hlen : p.length + q.length = n - 1 := by
    have := Kl_len n
    rw [hK] at this
    simp at this
    omega
  have h2 := dt_bd (A := A) (β := β) (Kl n) (j :: (p ++ q)) (fun r hr => hA r (mem_Kl.mp hr)) (by rw [Kl_len]; simp; omega)
  rw [h1, Kl_len] at h2
  refine bd_up (sgn_bd _ h2) ?_
  have hpl : ∀ l : List Nat, (∀ c, c ∈ l → c < n) → 0 ≤ pl β l ∧ pl β l ≤ M ^ l.length := by
    intro l
    induction l with
    | nil => intro _; show (0 : Rat) ≤ 1 ∧ (1 : Rat) ≤ M ^ 0; rw [Rat.pow_zero]; grind
    | cons d l ih =>
      intro hl
      have i1 := ih (fun c hc => hl c (List.mem_cons_of_mem _ hc))
      have i2 := hb d (hl d List.mem_cons_self)
      have i3 := hb0 d
      refine ⟨Rat.mul_nonneg i3 i1.1, ?_⟩
      show β d * pl β l ≤ M ^ (l.length + 1)
      rw [Rat.pow_succ]
      have q1 : β d * pl β l ≤ M * pl β l := Rat.mul_le_mul_of_nonneg_right i2 i1.1
      have q2 : pl β l * M ≤ M ^ l.length * M := Rat.mul_le_mul_of_nonneg_right i1.2 (by grind)
      grind
  have h3 := hpl (p ++ q) (fun c hc => by
    have : c ∈ Kl n := by
      rw [hK]
      rcases List.mem_append.mp hc with h | h
      · exact List.mem_append_left _ h
      · exact List.mem_append_right _ (List.mem_cons_of_mem _ h)
    exact mem_Kl.mp this)
  rw [List.length_append, hlen] at h3
  show fct n * (β j * pl β (p ++ q)) ≤ _
  exact Rat.mul_le_mul_of_nonneg_left (Rat.mul_le_mul_of_nonneg_left h3.2 (hb0 j)) (fct_nn n)
