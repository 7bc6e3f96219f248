theorem stl_ge {A : AR} (h0 : aS A 0 = false) : ∀ (n j : Nat), ∀ x, (stl A n)[j]? = some x → j + 1 ≤ x ∧ x < n
  | 0, j, x, h => by simp [stl] at h
  | n + 1, j, x, h => by
    rw [stl_succ] at h
    by_cases q : j < (stl A n).length
    · rw [List.getElem?_append_left q] at h
      have := stl_ge h0 n j x h
      omega
    · rw [List.getElem?_append_right (by omega)] at h
      by_cases e : aS A n = true
      · rw [if_pos e] at h
        have hlt := (List.getElem?_eq_some_iff.mp h).1
        simp at hlt
        have hj : j - (stl A n).length = 0 := by omega
        rw [hj] at h
        simp at h
        subst h
        have hl : (stl A n).length + 1 ≤ n := by
          rw [stl_len]
          have hn0 : n ≠ 0 := fun q => by rw [q, h0] at e; cases e
          obtain ⟨m, rfl⟩ : ∃ m, n = m + 1 := ⟨n - 1, by omega⟩
          have h1 : ∀ m, ct (aS A) (m + 1) ≤ m := fun m => by
            induction m with
            | zero => show 0 + (if aS A 0 = true then 1 else 0) ≤ 0; rw [h0]; decide
            | succ m ih => show ct (aS A) (m + 1) + _ ≤ m + 1; split <;> omega
          have := h1 m
          omega
        omega
      · rw [if_neg e] at h
        simp at h
theorem prS_cf {A : AR} {u : Option Nat} {i : Nat} {f : Nat → Int} (h : ∀ t, t < 40 → cf A u i t = f t) : prS A u i i 40 = si (fun t => if aK A t = true then f t * f t else 0) 40 := si_congr (fun t ht => by rw [h t ht])
theorem cf_lc {A : AR} {u : Option Nat} {i : Nat} (h : i < nU A) (t : Nat) : cf A u i t = lc (uc A) i t := if_pos h
theorem lc_get {L : List (Nat → Int)} {i : Nat} {f : Nat → Int} (h : L[i]? = some f) (t : Nat) : lc L i t = f t := by
  unfold lc
  rw [List.getD_eq_getElem?_getD, h]
  rfl
/-- a column's square is within the list's bound -/
theorem sq_le {A : AR} (hA : RowOK A) (u : Option Nat) {i : Nat} (hi : i < nU A) : prS A u i i 40 ≤ ((sqb A).getD i 1 : Nat) := by
  have hl : (uc A).length = nU A := rfl
  have hlt : ([39, 38, 37].take (ct (aS A) 40)).length = ct (aS A) 40 := by
    have := hA.2.2.1
    simp; omega
  have hr : (if aL A = true then [20540] else ([] : List Nat)).length = (rmp A).length := by unfold rmp; split <;> rfl
  by_cases h1 : i < (rmp A).length
  · have hll : aL A = true := by
      rw [rmp_len] at h1
      by_cases q : aL A = true
      · exact q
      · rw [if_neg q] at h1; omega
    have hi0 : i = 0 := by rw [rmp_len, if_pos hll] at h1; omega
    subst hi0
    have e1 : (uc A)[0]? = some rampc := by
      unfold uc rmp
      rw [if_pos hll]
      rfl
    have e2 : (sqb A).getD 0 1 = 20540 := by
      unfold sqb
      rw [if_pos hll]
      rfl
    rw [e2, prS_cf (f := rampc) (fun t _ => by rw [cf_lc hi, lc_get e1])]
    have := ramp_sq (A := A) 40
    have e3 : si (fun t => (t : Int) * t) 40 = 20540 := by decide +kernel
    rw [e3] at this
    exact this
  · by_cases h2 : i < (rmp A ++ (stl A 40).map stepc).length
    · rw [List.length_append, List.length_map, stl_len] at h2
      have hj : i - (rmp A).length < (stl A 40).length := by rw [stl_len]; omega
      obtain ⟨x, hx⟩ : ∃ x, (stl A 40)[i - (rmp A).length]? = some x := ⟨_, List.getElem?_eq_getElem hj⟩
      have hge := stl_ge hA.2.1 40 _ x hx
      have e1 : (uc A)[i]? = some (stepc x) := by
        unfold uc
        rw [List.getElem?_append_left (by rw [List.length_append, List.length_map, stl_len]; omega), List.getElem?_append_right (by omega), List.getElem?_map, hx]
        rfl
      have e2 : (sqb A).getD i 1 = 39 - (i - (rmp A).length) := by
        unfold sqb
        rw [List.getD_eq_getElem?_getD, List.getElem?_append_left (by rw [List.length_append, hr, hlt]; omega), List.getElem?_append_right (by rw [hr]; omega), hr, List.getElem?_take_of_lt (by omega)]
        have h3 := hA.2.2.1
        rcases (show i - (rmp A).length = 0 ∨ i - (rmp A).length = 1 ∨ i - (rmp A).length = 2 by omega) with e | e | e <;> rw [e] <;> rfl
      rw [e2, prS_cf (f := stepc x) (fun t _ => by rw [cf_lc hi, lc_get e1])]
      have := step_sq (A := A) (s := x) 40
      rw [if_pos (by omega)] at this
      omega
    · rw [List.length_append, List.length_map, stl_len] at h2
      have hnu : nU A = (rmp A).length + ct (aS A) 40 + aC A := by
        unfold nU uc
        rw [List.length_append, List.length_append, List.length_map, stl_len, fsl_len]
      have hf : i - ((rmp A).length + ct (aS A) 40) < aC A := by omega
      have e1 : (uc A)[i]? = some (feastc (aE A (i - ((rmp A).length + ct (aS A) 40)))) := by
        unfold uc fsl
        rw [List.getElem?_append_right (by rw [List.length_append, List.length_map, stl_len]; omega), List.length_append, List.length_map, stl_len, List.getElem?_map, List.getElem?_range hf]
        rfl
      have e2 : (sqb A).getD i 1 = 8 := by
        unfold sqb
        rw [List.getD_eq_getElem?_getD, List.getElem?_append_right (by rw [List.length_append, hr, hlt]; omega), List.length_append, hr, hlt, List.getElem?_replicate, if_pos hf]
        rfl
      rw [e2, prS_cf (fun t _ => by rw [cf_lc hi, lc_get e1])]
      have := feast_sq (A := A) (e := aE A (i - ((rmp A).length + ct (aS A) 40))) 40 (Nat.le_refl _)
      have h8 := hA.2.2.2.1 (i - ((rmp A).length + ct (aS A) 40)) (by have := hA.2.2.2.2.2.1; omega)
      omega
def sq0 (l : Bool) (c f : Nat) : List Nat := (if l = true then [20540] else []) ++ [39, 38, 37].take c ++ List.replicate f 8
def bp (L : List Nat) : Nat → Nat
  | 0 => 1
  | s + 1 => bp L s * L.getD s 1
theorem bp_lt : ∀ l : Bool, ∀ c, c < 4 → ∀ f, f < 3 → ∀ s, s < 7 → 194400 * bp (sq0 l c f) s < 18014398509481984 := by decide +kernel
theorem bp_b {A : AR} (hA : RowOK A) {s : Nat} (hs : s ≤ nU A) : 194400 * bp (sqb A) s < 18014398509481984 := by
  have := nU_le hA
  have := hA.2.2.1
  have := hA.2.2.2.2.2.1
  exact bp_lt (aL A) (ct (aS A) 40) (by omega) (aC A) (by omega) s (by omega)
/-- no pivot is 0 among the places: each place is counted -/
theorem piv_pos {A : AR} {u : Option Nat} (hp : Piv (wq A) (Cq A u) (plc A)) : ∀ p, p < plc A → pcS A p 40 ≠ 0 := by
  have key : ∀ k, k ≤ plc A → (∀ l m, k ≤ l → l < plc A → m < plc A → k ≤ m → Sk (wq A) (Cq A u) k l m = Am (wq A) (Cq A u) l m) := by
    intro k
    induction k with
    | zero => intro _; exact fun _ _ _ _ _ _ => rfl
    | succ k ik =>
      intro hk
      have a2 := ik (by omega)
      have hkk : Sk (wq A) (Cq A u) k k k ≠ 0 := hp k (by omega)
      intro l m hl hl2 hm hm2
      rw [Sk_succ hkk, a2 l k (by omega) hl2 (by omega) (Nat.le_refl k), Am_pp hl2 (by omega), if_neg (by omega), a2 l m (by omega) hl2 hm (by omega)]
      grind
  intro p hpl h0
  refine hp p hpl ?_
  rw [key p (by omega) p p (Nat.le_refl p) hpl hpl (Nat.le_refl p), Am_pp hpl hpl, if_pos rfl, h0]
  rfl
/-- the determinants stay below 2 to the 54th -/
theorem Dk_b {A : AR} (hA : RowOK A) (u : Option Nat) : ∀ {s : Nat}, s ≤ nU A → Piv (wq A) (Cq A u) (plc A + s) → Dk (wq A) (Cq A u) (plc A + s) ≤ ((194400 * (bp (sqb A) s : Nat) : Int) : Rat)
  | 0, _, hp => by
    have hpos := piv_pos (u := u) hp
    obtain ⟨-, -, -, -, h5⟩ := stage (u := u) hpos (Nat.le_refl (plc A))
    rw [Nat.add_zero, h5, cast_le]
    have := pb_b hA (Nat.le_refl (plc A))
    show pbS A (plc A) ≤ 194400 * ((1 : Nat) : Int)
    omega
  | s + 1, hs, hp => by
    have hp' : Piv (wq A) (Cq A u) (plc A + s) := fun l hl => hp l (by omega)
    have ih := Dk_b hA u (s := s) (by omega) hp'
    have h1 := Sk_le (wq_W A) hp' (plc A + s)
    have h2 := sq_le hA u (i := s) (by omega)
    have h3 := Sk_nn (C := Cq A u) (wq_W A) (plc A + s) (plc A + s)
    have h4 := Dk_pos (wq_W A) hp'
    rw [Am_uu] at h1
    have h5 : Sk (wq A) (Cq A u) (plc A + s) (plc A + s) (plc A + s) ≤ ((((sqb A).getD s 1 : Nat) : Int) : Rat) := Rat.le_trans h1 (cast_le.mpr h2)
    show Dk (wq A) (Cq A u) (plc A + s) * Sk (wq A) (Cq A u) (plc A + s) (plc A + s) (plc A + s) ≤ _
    have e : ((194400 * (bp (sqb A) (s + 1) : Nat) : Int) : Rat) = ((194400 * (bp (sqb A) s : Nat) : Int) : Rat) * ((((sqb A).getD s 1 : Nat) : Int) : Rat) := by
      rw [← cast_mul]
      congr 1
      show 194400 * ((bp (sqb A) s * (sqb A).getD s 1 : Nat) : Int) = _
      rw [Int.natCast_mul]; grind
    rw [e]
    exact Rat.le_trans (Rat.mul_le_mul_of_nonneg_left h5 (Rat.le_of_lt h4)) (Rat.mul_le_mul_of_nonneg_right ih (Rat.le_trans h3 h5))
theorem Dk_lt {A : AR} (hA : RowOK A) (u : Option Nat) {s : Nat} (hs : s ≤ nU A) (hp : Piv (wq A) (Cq A u) (plc A + s)) : Dk (wq A) (Cq A u) (plc A + s) < ((18014398509481984 : Int) : Rat) := by
  have h1 := Dk_b hA u hs hp
  have h2 := bp_b hA hs
  have h3 : ((194400 * (bp (sqb A) s : Nat) : Int) : Rat) < ((18014398509481984 : Int) : Rat) := cast_lt.mpr (by omega)
  generalize ((194400 * (bp (sqb A) s : Nat) : Int) : Rat) = x at *
  grind
