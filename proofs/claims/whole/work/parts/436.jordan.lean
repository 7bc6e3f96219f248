/-! Gauss and Jordan, in whole numbers -/
def MB : Rat := ((8589934592 : Int) : Rat)
theorem fctM : ∀ n, n < 15 → fct n * MB ^ n ≤ ((1073741824 ^ 17 - 1 : Int) : Rat) := by decide +kernel
theorem MB1 : (1 : Rat) ≤ MB := by decide +kernel
theorem MB0 : (0 : Rat) ≤ MB := by decide +kernel
theorem pl_const {M : Rat} : ∀ l : List Nat, pl (fun _ => M) l = M ^ l.length
  | [] => by show (1 : Rat) = M ^ 0; rw [Rat.pow_zero]
  | c :: l => by
    show M * pl (fun _ => M) l = M ^ (l.length + 1)
    rw [pl_const l, Rat.pow_succ]
    grind
section JD
variable {w : Nat → Rat} {C : Nat → Nat → Rat}
/-- the cells at stage k -/
def Vk (w : Nat → Rat) (C : Nat → Nat → Rat) (k i c : Nat) : Rat := if i < k then Dk w C k * xs w C k c i else Dk w C k * Sk w C k i c
theorem Vk_Z (hA : ∀ i j, isZ (Am w C i j)) {k : Nat} (hp : Piv w C k) (i c : Nat) : isZ (Vk w C k i c) := by
  unfold Vk
  split
  · exact Dx_isZ hA hp c (by assumption)
  · exact DS_isZ hA hp i c
theorem Vk_0 (i c : Nat) : Vk w C 0 i c = Am w C i c := by
  unfold Vk
  rw [if_neg (by omega)]
  show (1 : Rat) * Am w C i c = _
  grind
theorem Vk_kk (k : Nat) : Vk w C k k k = Dk w C (k + 1) := by
  unfold Vk
  rw [if_neg (by omega)]
  rfl
theorem Vk_row {k : Nat} (hp : Sk w C k k k ≠ 0) (c : Nat) : Vk w C (k + 1) k c = Vk w C k k c := by
  unfold Vk
  rw [if_pos (by omega), if_neg (by omega)]
  show Dk w C k * Sk w C k k k * (if k = k then Sk w C k c k / Sk w C k k k else _) = _
  rw [if_pos rfl, Sk_comm k k c]
  generalize Sk w C k k k = p at *
  generalize Sk w C k c k = q
  grind
theorem jordan {k : Nat} (hp : Sk w C k k k ≠ 0) {i : Nat} (hi : i ≠ k) (c : Nat) : Dk w C (k + 1) * Vk w C k i c - Vk w C k i k * Vk w C k k c = Dk w C k * Vk w C (k + 1) i c := by
  have e1 : Dk w C (k + 1) = Dk w C k * Sk w C k k k := rfl
  by_cases q : i < k
  · have e2 : xs w C (k + 1) c i = xs w C k c i - Sk w C k c k / Sk w C k k k * xs w C k k i := if_neg hi
    unfold Vk
    rw [if_pos q, if_pos q, if_neg (show ¬ k < k by omega), if_pos (show i < k + 1 by omega), e1, e2, Sk_comm k k c]
    generalize Sk w C k k k = p at *
    generalize Sk w C k c k = s
    generalize Dk w C k = d
    generalize xs w C k c i = x
    generalize xs w C k k i = y
    grind
  · unfold Vk
    rw [if_neg q, if_neg q, if_neg (show ¬ k < k by omega), if_neg (show ¬ i < k + 1 by omega), e1, Sk_succ hp]
    generalize Sk w C k k k = p at *
    generalize Sk w C k k c = s
    generalize Dk w C k = d
    generalize Sk w C k i c = x
    generalize Sk w C k i k = y
    grind
theorem Vk_bd (hB : ∀ i j, bd (Am w C i j) MB) {k : Nat} (hk : k < 14) (hp : Piv w C k) (i c : Nat) : bd (Vk w C k i c) ((1073741824 ^ 17 - 1 : Int) : Rat) := by
  unfold Vk
  split
  · rename_i hi
    have h := cramer_bd (A := Am w C) (β := fun _ => MB) (b := 0) (M := MB) hi (fun r _ c => hB r c) (fun _ _ => Rat.le_refl) (fun _ => MB0) (normal hp c) MB1
    rw [dt_Dk hp] at h
    refine bd_up h (Rat.le_trans ?_ (fctM k (by omega)))
    have e : MB * MB ^ (k - 1) = MB ^ k := by
      obtain ⟨m, rfl⟩ : ∃ m, k = m + 1 := ⟨k - 1, by omega⟩
      rw [Nat.add_sub_cancel, Rat.pow_succ]
      grind
    show fct k * (MB * MB ^ (k - 1)) ≤ _
    rw [e]
    exact Rat.le_refl
  · have h := dt_bd (A := Am w C) (β := fun _ => MB) (i :: Kl k) (c :: Kl k) (fun r _ c => hB r c) rfl
    rw [border (normal hp c), dt_Dk hp, pl_const, ← Sk_Am hp] at h
    refine bd_up h ?_
    have e1 : (i :: Kl k).length = k + 1 := by show (Kl k).length + 1 = _; rw [Kl_len]
    have e2 : (c :: Kl k).length = k + 1 := by show (Kl k).length + 1 = _; rw [Kl_len]
    rw [e1, e2]
    exact fctM (k + 1) (by omega)
theorem Dk_bd (hB : ∀ i j, bd (Am w C i j) MB) {k : Nat} (hk : k < 14) (hp : Piv w C k) : bd (Dk w C k) ((1073741824 ^ 17 - 1 : Int) : Rat) := by
  have h := dt_bd (A := Am w C) (β := fun _ => MB) (Kl k) (Kl k) (fun r _ c => hB r c) rfl
  rw [dt_Dk hp, pl_const, Kl_len] at h
  exact bd_up h (fctM k (by omega))
theorem az_bd {q : Rat} (hz : isZ q) (h : bd q ((1073741824 ^ 17 - 1 : Int) : Rat)) : az (zz q) < 1073741824 ^ 17 := by
  have := bd_zz hz h
  unfold az
  split <;> omega
theorem jordanZ (hA : ∀ i j, isZ (Am w C i j)) {k : Nat} (hp : Piv w C (k + 1)) {i : Nat} (hi : i ≠ k) (c : Nat) : zz (Vk w C k k k) * zz (Vk w C k i c) - zz (Vk w C k i k) * zz (Vk w C k k c) = zz (Dk w C k) * zz (Vk w C (k + 1) i c) := by
  have hp' : Piv w C k := fun l hl => hp l (by omega)
  apply cast_eq.mp
  rw [cast_sub, cast_mul, cast_mul, cast_mul, zz_of (Vk_Z hA hp' _ _), zz_of (Vk_Z hA hp' _ _), zz_of (Vk_Z hA hp' _ _), zz_of (Vk_Z hA hp' _ _), zz_of (Dk_isZ hA hp'), zz_of (Vk_Z hA hp _ _), Vk_kk]
  exact jordan (hp k (by omega)) hi c
end JD
