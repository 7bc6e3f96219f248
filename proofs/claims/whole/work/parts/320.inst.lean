/-! the least squares of a row, as an instance of the elimination -/
def wq (A : AR) (t : Nat) : Rat := if aK A t = true then 1 else 0
/-- the columns: places, unknowns, numbers -/
def Cq (A : AR) (u : Option Nat) (l t : Nat) : Rat := if l < plc A then (if t % plc A = l then 1 else 0) else ((cf A u (l - plc A) t : Int) : Rat)
theorem wq_W (A : AR) : isW (wq A) := fun t => by unfold wq; split <;> simp
theorem cast_add (a b : Int) : ((a + b : Int) : Rat) = (a : Rat) + (b : Rat) := Rat.intCast_add a b
theorem cast_mul (a b : Int) : ((a * b : Int) : Rat) = (a : Rat) * (b : Rat) := Rat.intCast_mul a b
theorem cast_sub (a b : Int) : ((a - b : Int) : Rat) = (a : Rat) - (b : Rat) := Rat.intCast_sub a b
theorem cast_0 : ((0 : Int) : Rat) = 0 := rfl
theorem cast_1 : ((1 : Int) : Rat) = 1 := rfl
theorem cast_le {a b : Int} : (a : Rat) ≤ (b : Rat) ↔ a ≤ b := Rat.intCast_le_intCast
theorem cast_lt {a b : Int} : (a : Rat) < (b : Rat) ↔ a < b := Rat.intCast_lt_intCast
theorem cast_eq {a b : Int} : (a : Rat) = (b : Rat) ↔ a = b := Rat.intCast_inj
theorem su_cast (f : Nat → Int) : ∀ n, su (fun t => ((f t : Int) : Rat)) n = ((si f n : Int) : Rat)
  | 0 => rfl
  | n + 1 => by
    show su (fun t => ((f t : Int) : Rat)) n + ((f n : Int) : Rat) = ((si f n + f n : Int) : Rat)
    rw [su_cast f n, cast_add]
section IN
variable {A : AR} {u : Option Nat}
theorem Cq_p {l t : Nat} (h : l < plc A) : Cq A u l t = if t % plc A = l then 1 else 0 := if_pos h
theorem Cq_u {i t : Nat} : Cq A u (plc A + i) t = ((cf A u i t : Int) : Rat) := by
  unfold Cq
  rw [if_neg (by omega), Nat.add_sub_cancel_left]
theorem Am_pp {l m : Nat} (hl : l < plc A) (hm : m < plc A) : Am (wq A) (Cq A u) l m = if l = m then ((pcS A l 40 : Int) : Rat) else 0 := by
  unfold Am ip
  by_cases e : l = m
  · subst e
    rw [if_pos rfl]
    unfold pcS
    rw [← su_cast]
    refine su_congr (fun t _ => ?_)
    rw [Cq_p hl]
    unfold wq
    by_cases h1 : aK A t = true <;> by_cases h2 : t % plc A = l <;> simp [h1, h2]
  · rw [if_neg e]
    refine su_zero (fun t _ => ?_)
    rw [Cq_p hl, Cq_p hm]
    by_cases h2 : t % plc A = l
    · rw [if_pos h2, if_neg (fun h => e (by rw [← h2, h]))]; grind
    · rw [if_neg h2]; grind
theorem Am_pu {l i : Nat} (hl : l < plc A) : Am (wq A) (Cq A u) l (plc A + i) = ((psS A u l i 40 : Int) : Rat) := by
  unfold Am ip psS
  rw [← su_cast]
  refine su_congr (fun t _ => ?_)
  rw [Cq_p hl, Cq_u]
  unfold wq
  by_cases h1 : aK A t = true <;> by_cases h2 : t % plc A = l <;> simp [h1, h2]
theorem Am_uu {i j : Nat} : Am (wq A) (Cq A u) (plc A + i) (plc A + j) = ((prS A u i j 40 : Int) : Rat) := by
  unfold Am ip prS
  rw [← su_cast]
  refine su_congr (fun t _ => ?_)
  rw [Cq_u, Cq_u]
  unfold wq
  by_cases h1 : aK A t = true
  · rw [if_pos h1, if_pos h1, cast_mul]; grind
  · rw [if_neg h1, if_neg h1, cast_0]; grind
theorem Am_Z (l m : Nat) : isZ (Am (wq A) (Cq A u) l m) := by
  by_cases hl : l < plc A
  · by_cases hm : m < plc A
    · rw [Am_pp hl hm]; split
      · exact ⟨_, rfl⟩
      · exact isZ_0
    · obtain ⟨i, rfl⟩ : ∃ i, m = plc A + i := ⟨m - plc A, by omega⟩
      rw [Am_pu hl]; exact ⟨_, rfl⟩
  · obtain ⟨i, rfl⟩ : ∃ i, l = plc A + i := ⟨l - plc A, by omega⟩
    by_cases hm : m < plc A
    · rw [Am_comm, Am_pu hm]; exact ⟨_, rfl⟩
    · obtain ⟨j, rfl⟩ : ∃ j, m = plc A + j := ⟨m - plc A, by omega⟩
      rw [Am_uu]; exact ⟨_, rfl⟩
/-- the product of the first places' counts -/
def pbS (A : AR) : Nat → Int
  | 0 => 1
  | p + 1 => pbS A p * pcS A p 40
/-- while the places are taken out -/
theorem stage (hpos : ∀ p, p < plc A → pcS A p 40 ≠ 0) : ∀ {k : Nat}, k ≤ plc A → Piv (wq A) (Cq A u) k ∧ (∀ l m, k ≤ l → l < plc A → m < plc A → k ≤ m → Sk (wq A) (Cq A u) k l m = Am (wq A) (Cq A u) l m) ∧ (∀ l i, k ≤ l → l < plc A → Sk (wq A) (Cq A u) k l (plc A + i) = Am (wq A) (Cq A u) l (plc A + i)) ∧ (∀ i j, Sk (wq A) (Cq A u) k (plc A + i) (plc A + j) = Am (wq A) (Cq A u) (plc A + i) (plc A + j) - su (fun l => Am (wq A) (Cq A u) l (plc A + i) * Am (wq A) (Cq A u) l (plc A + j) / Am (wq A) (Cq A u) l l) k) ∧ Dk (wq A) (Cq A u) k = ((pbS A k : Int) : Rat)
  | 0, _ => ⟨fun l hl => by omega, fun _ _ _ _ _ _ => rfl, fun _ _ _ _ => rfl, fun i j => by show Am (wq A) (Cq A u) (plc A + i) (plc A + j) = Am (wq A) (Cq A u) (plc A + i) (plc A + j) - 0; grind, rfl⟩
  | k + 1, hk => by
    obtain ⟨h1, h2, h3, h4, h5⟩ := stage hpos (k := k) (by omega)
    have hkk : Sk (wq A) (Cq A u) k k k = ((pcS A k 40 : Int) : Rat) := by
      rw [h2 k k (Nat.le_refl k) (by omega) (by omega) (Nat.le_refl k), Am_pp (by omega) (by omega), if_pos rfl]
    have hne : Sk (wq A) (Cq A u) k k k ≠ 0 := by
      rw [hkk]
      intro e
      exact hpos k (by omega) (cast_eq.mp e)
    have hoff : ∀ l, k + 1 ≤ l → l < plc A → Sk (wq A) (Cq A u) k l k = 0 := fun l hl hl2 => by
      rw [h2 l k (by omega) hl2 (by omega) (Nat.le_refl k), Am_pp hl2 (by omega), if_neg (by omega)]
    refine ⟨fun l hl => ?_, fun l m hl hl2 hm hm2 => ?_, fun l i hl hl2 => ?_, fun i j => ?_, ?_⟩
    · by_cases e : l = k
      · rw [e]; exact hne
      · exact h1 l (by omega)
    · rw [Sk_succ hne, hoff l hl hl2, h2 l m (by omega) hl2 hm (by omega)]; grind
    · rw [Sk_succ hne, hoff l hl hl2, h3 l i (by omega) hl2]; grind
    · rw [Sk_succ hne, h4 i j, Sk_comm k (plc A + i) k, h3 k i (Nat.le_refl k) (by omega), h3 k j (Nat.le_refl k) (by omega), h2 k k (Nat.le_refl k) (by omega) (by omega) (Nat.le_refl k)]
      show _ = _ - (su _ k + _)
      grind
    · show Dk (wq A) (Cq A u) k * Sk (wq A) (Cq A u) k k k = _
      rw [h5, hkk, ← cast_mul]
      rfl
/-- the sum of the counts is at most how many ticks there are -/
theorem pc_nn (p : Nat) : ∀ n, 0 ≤ pcS A p n
  | 0 => Int.le_refl 0
  | n + 1 => by
    rw [pcS_succ]
    have := pc_nn p n
    split <;> omega
theorem pc_sum (hA : RowOK A) : ∀ n, si (fun p => pcS A p n) (plc A) ≤ n
  | 0 => by
    have : si (fun p => pcS A p 0) (plc A) = si (fun _ => 0) (plc A) := si_congr (fun _ _ => rfl)
    rw [this]
    have h : ∀ m, si (fun _ => (0 : Int)) m = 0 := fun m => by
      induction m with
      | zero => rfl
      | succ m ih => show si _ m + 0 = 0; omega
    rw [h]; omega
  | n + 1 => by
    have ih := pc_sum hA n
    have hb := plc_b hA
    have hmod : n % plc A < plc A := Nat.mod_lt _ (by omega)
    have h : ∀ m, si (fun p => pcS A p (n + 1)) m ≤ si (fun p => pcS A p n) m + (if n % plc A < m then 1 else 0) := fun m => by
      induction m with
      | zero => show (0 : Int) ≤ 0 + _; split <;> omega
      | succ m im =>
        show si _ m + pcS A m (n + 1) ≤ si _ m + pcS A m n + _
        rw [pcS_succ]
        by_cases e : n % plc A = m
        · rw [if_neg (by omega)] at im
          rw [if_pos (show n % plc A < m + 1 by omega)]
          split <;> omega
        · rw [if_neg (fun w => e w.2)]
          by_cases w : n % plc A < m
          · rw [if_pos w] at im; rw [if_pos (show n % plc A < m + 1 by omega)]; omega
          · rw [if_neg w] at im; rw [if_neg (by omega)]; omega
    have := h (plc A)
    rw [if_pos hmod] at this
    omega
end IN
theorem tang : ∀ c, c ≤ 40 → c * (7776 * 5 ^ c) ≤ 15625 * 6 ^ c := by decide +kernel
/-- numbers that add up to little have a small product -/
theorem pb_nn {A : AR} : ∀ m, 0 ≤ pbS A m
  | 0 => by show (0 : Int) ≤ 1; omega
  | m + 1 => Int.mul_nonneg (pb_nn m) (pc_nn m 40)
theorem pcs_nn {A : AR} : ∀ m, 0 ≤ si (fun p => pcS A p 40) m
  | 0 => Int.le_refl 0
  | m + 1 => by
    have h1 := pcs_nn (A := A) m
    have h2 := pc_nn (A := A) m 40
    show 0 ≤ si (fun p => pcS A p 40) m + pcS A m 40
    omega
theorem pb_tang {A : AR} : ∀ {m S P : Nat}, si (fun p => pcS A p 40) m = (S : Int) → S ≤ 40 → pbS A m = (P : Int) → P * (7776 ^ m * 5 ^ S) ≤ 15625 ^ m * 6 ^ S
  | 0, S, P, hS, _, hP => by
    have hS : (0 : Int) = S := hS
    have : S = 0 := by omega
    subst this
    have hP : (1 : Int) = P := hP
    have : P = 1 := by omega
    subst this
    decide
  | m + 1, S, P, hS, h40, hP => by
    have hS : si (fun p => pcS A p 40) m + pcS A m 40 = (S : Int) := hS
    have hP : pbS A m * pcS A m 40 = (P : Int) := hP
    obtain ⟨S', hS'⟩ := Int.eq_ofNat_of_zero_le (pcs_nn (A := A) m)
    obtain ⟨P', hP'⟩ := Int.eq_ofNat_of_zero_le (pb_nn (A := A) m)
    obtain ⟨c, hc⟩ := Int.eq_ofNat_of_zero_le (pc_nn (A := A) m 40)
    have ih := pb_tang (m := m) (S := S') (P := P') hS' (by omega) hP'
    have hSS : S = S' + c := by omega
    have hPP : P = P' * c := by
      have : (P : Int) = ((P' * c : Nat) : Int) := by rw [← hP, hP', hc, Int.natCast_mul]
      exact_mod_cast this
    subst hSS
    subst hPP
    have ht := tang c (by omega)
    have e1 : P' * c * (7776 ^ (m + 1) * 5 ^ (S' + c)) = (P' * (7776 ^ m * 5 ^ S')) * (c * (7776 * 5 ^ c)) := by
      rw [Nat.pow_succ, Nat.pow_add]; grind
    have e2 : 15625 ^ (m + 1) * 6 ^ (S' + c) = (15625 ^ m * 6 ^ S') * (15625 * 6 ^ c) := by
      rw [Nat.pow_succ, Nat.pow_add]; grind
    rw [e1, e2]
    exact Nat.mul_le_mul ih ht
theorem pcs_mono {A : AR} {m n : Nat} (h : m ≤ n) : si (fun p => pcS A p 40) m ≤ si (fun p => pcS A p 40) n := by
  obtain ⟨d, rfl⟩ := Nat.exists_eq_add_of_le h
  induction d with
  | zero => exact Int.le_refl _
  | succ d ih =>
    have h1 := ih (by omega)
    have h2 := pc_nn (A := A) (m + d) 40
    show _ ≤ si (fun p => pcS A p 40) (m + d) + pcS A (m + d) 40
    omega
theorem pb_b {A : AR} (hA : RowOK A) {m : Nat} (hm : m ≤ plc A) : 0 ≤ pbS A m ∧ pbS A m ≤ 194400 := by
  refine ⟨pb_nn m, ?_⟩
  have hb := plc_b hA
  obtain ⟨S, hS⟩ := Int.eq_ofNat_of_zero_le (pcs_nn (A := A) m)
  obtain ⟨P, hP⟩ := Int.eq_ofNat_of_zero_le (pb_nn (A := A) m)
  have h40 : S ≤ 40 := by
    have h1 := pcs_mono (A := A) hm
    have h2 := pc_sum hA 40
    have h2 : si (fun p => pcS A p 40) (plc A) ≤ 40 := h2
    omega
  have h := pb_tang hS h40 hP
  have h7 : m ≤ 7 := by omega
  have e1 : P * (7776 ^ 7 * 5 ^ 40) = (P * (7776 ^ m * 5 ^ S)) * (7776 ^ (7 - m) * 5 ^ (40 - S)) := by
    have a1 : 7776 ^ 7 = 7776 ^ m * 7776 ^ (7 - m) := by rw [← Nat.pow_add]; congr 1; omega
    have a2 : 5 ^ 40 = 5 ^ S * 5 ^ (40 - S) := by rw [← Nat.pow_add]; congr 1; omega
    rw [a1, a2]; grind
  have e2 : (15625 ^ m * 6 ^ S) * (15625 ^ (7 - m) * 6 ^ (40 - S)) = 15625 ^ 7 * 6 ^ 40 := by
    have a1 : 15625 ^ 7 = 15625 ^ m * 15625 ^ (7 - m) := by rw [← Nat.pow_add]; congr 1; omega
    have a2 : 6 ^ 40 = 6 ^ S * 6 ^ (40 - S) := by rw [← Nat.pow_add]; congr 1; omega
    rw [a1, a2]; grind
  have h1 : 7776 ^ (7 - m) * 5 ^ (40 - S) ≤ 15625 ^ (7 - m) * 6 ^ (40 - S) := Nat.mul_le_mul (Nat.pow_le_pow_left (by decide) _) (Nat.pow_le_pow_left (by decide) _)
  have h2 := Nat.mul_le_mul h h1
  rw [← e1, e2] at h2
  have h3 : 15625 ^ 7 * 6 ^ 40 = 194400 * (7776 ^ 7 * 5 ^ 40) := by decide +kernel
  rw [h3] at h2
  have h4 : P ≤ 194400 := Nat.le_of_mul_le_mul_right h2 (by decide +kernel)
  omega
/-! the bound of the determinants -/
def sqb (A : AR) : List Nat := (if aL A = true then [20540] else []) ++ [39, 38, 37].take (ct (aS A) 40) ++ List.replicate (aC A) 8
theorem ramp_sq {A : AR} : ∀ n, si (fun t => if aK A t = true then (t : Int) * t else 0) n ≤ si (fun t => (t : Int) * t) n
  | 0 => Int.le_refl 0
  | n + 1 => by
    have h := ramp_sq (A := A) n
    show si _ n + (if aK A n = true then (n : Int) * n else 0) ≤ si _ n + (n : Int) * n
    have : (0 : Int) ≤ (n : Int) * n := Int.mul_nonneg (by omega) (by omega)
    generalize (n : Int) * n = y at *
    split <;> omega
theorem step_sq {A : AR} {s : Nat} : ∀ n, si (fun t => if aK A t = true then stepc s t * stepc s t else 0) n ≤ if s ≤ n then (n : Int) - s else 0
  | 0 => by show (0 : Int) ≤ _; split <;> omega
  | n + 1 => by
    have h := step_sq (A := A) (s := s) n
    show si _ n + (if aK A n = true then stepc s n * stepc s n else 0) ≤ _
    have e : stepc s n * stepc s n = if s ≤ n then 1 else 0 := by unfold stepc; split <;> rfl
    rw [e]
    split at h <;> split <;> split <;> (try split) <;> omega
theorem feast_sq {A : AR} {e : Nat → Bool} : ∀ n, n ≤ 40 → si (fun t => if aK A t = true then feastc e t * feastc e t else 0) n ≤ (ct e n : Int)
  | 0, _ => Int.le_refl 0
  | n + 1, hn => by
    have h := feast_sq (A := A) (e := e) n (by omega)
    show si _ n + (if aK A n = true then feastc e n * feastc e n else 0) ≤ ((ct e n + (if e n = true then 1 else 0) : Nat) : Int)
    have e1 : feastc e n * feastc e n = if e n = true then 1 else 0 := by
      unfold feastc
      rw [decide_eq_true (show n < 40 by omega), Bool.true_and]
      split <;> rfl
    rw [e1]
    by_cases h1 : e n = true
    · rw [if_pos h1, if_pos h1]; split <;> omega
    · rw [if_neg h1, if_neg h1]; split <;> omega
