/-! columns that no others make up -/
section IN
variable {w : Nat → Rat} {C : Nat → Nat → Rat}
theorem indep (hw : isW w) {N : Nat} (hp : Piv w C N) {x : Nat → Rat} (h : ∀ t, t < 40 → w t = 1 → su (fun l => x l * C l t) N = 0) : ∀ l, l < N → x l = 0 := by
  have e : ∀ k, k < N → su (fun l => x l * Sk w C k k l) N = 0 := by
    intro k hk
    have hk' : Piv w C k := fun l hl => hp l (by omega)
    have h0 : ip w (fun t => sl (fun l => x l * C l t) (Kl N)) (rs w C k k) = 0 := ip_zero hw (fun t ht hwt => by rw [sl_su]; exact h t ht hwt) _
    rw [ip_comm, ip_sl, sl_su] at h0
    rw [← h0]
    exact su_congr (fun l _ => by rw [Sk_C hk'])
  have key : ∀ d l, l + d + 1 = N → x l = 0 := by
    intro d
    induction d using Nat.strongRecOn with
    | ind d ih =>
      intro l hl
      have h1 := e l (by omega)
      have hk' : Piv w C l := fun m hm => hp m (by omega)
      have h2 : su (fun m => x m * Sk w C l l m) N = x l * Sk w C l l l := by
        have e4 := su_single (a := x l * Sk w C l l l) (i := l) N
        rw [if_pos (by omega)] at e4
        rw [← e4]
        refine su_congr (fun m hm => ?_)
        by_cases q : m = l
        · rw [if_pos q, q]
        · rw [if_neg q]
          by_cases q2 : m < l
          · rw [Sk_low hk' l q2]; grind
          · rw [ih (N - m - 1) (by omega) m (by omega)]; grind
      rw [h2] at h1
      have h3 := hp l (by omega)
      grind
  exact fun l hl => key (N - l - 1) l (by omega)
theorem piv_of (hw : isW w) {N : Nat} (h : ∀ x : Nat → Rat, (∀ t, t < 40 → w t = 1 → su (fun l => x l * C l t) N = 0) → ∀ l, l < N → x l = 0) : Piv w C N := by
  intro l hl q
  have h0 := ip_eq0 hw (f := rs w C l l) q
  have h1 := h (fun m => if m = l then 1 else if m < l then -xs w C l l m else 0) (fun t ht hwt => ?_) l hl
  · rw [if_pos rfl] at h1
    exact absurd h1 (by decide)
  · have h2 := h0 t ht hwt
    rw [rs_eq, sl_su] at h2
    have e : su (fun m => (if m = l then 1 else if m < l then -xs w C l l m else 0) * C m t) N = C l t - su (fun m => xs w C l l m * C m t) l := by
      obtain ⟨d, rfl⟩ := Nat.exists_eq_add_of_le (show l + 1 ≤ N by omega)
      rw [su_app]
      have z : su (fun m => (if l + 1 + m = l then (1 : Rat) else if l + 1 + m < l then -xs w C l l (l + 1 + m) else 0) * C (l + 1 + m) t) d = 0 := su_zero (fun m _ => by rw [if_neg (by omega), if_neg (by omega)]; grind)
      rw [z]
      show su (fun m => (if m = l then (1 : Rat) else if m < l then -xs w C l l m else 0) * C m t) l + (if l = l then (1 : Rat) else if l < l then -xs w C l l l else 0) * C l t + 0 = _
      rw [if_pos rfl]
      have e2 : su (fun m => (if m = l then (1 : Rat) else if m < l then -xs w C l l m else 0) * C m t) l = su (fun m => (-1 : Rat) * (xs w C l l m * C m t)) l := su_congr (fun m hm => by rw [if_neg (by omega), if_pos hm]; grind)
      rw [e2, su_mul]
      grind
    rw [e]
    exact h2
theorem ip_cgr {f f' g g' : Nat → Rat} (hw : isW w) (h1 : ∀ t, t < 40 → w t = 1 → f t = f' t) (h2 : ∀ t, t < 40 → w t = 1 → g t = g' t) : ip w f g = ip w f' g' := by
  unfold ip
  refine su_congr (fun t ht => ?_)
  rcases hw t with q | q
  · rw [q]; grind
  · rw [h1 t ht q, h2 t ht q]
/-- only the counted ticks matter -/
theorem rs_cgr (hw : isW w) {C' : Nat → Nat → Rat} (h : ∀ i t, t < 40 → w t = 1 → C i t = C' i t) : ∀ k i t, t < 40 → w t = 1 → rs w C k i t = rs w C' k i t
  | 0, i, t, ht, hwt => h i t ht hwt
  | k + 1, i, t, ht, hwt => by
    have ih := rs_cgr hw h k
    have e1 : Sk w C k i k = Sk w C' k i k := ip_cgr hw (ih i) (ih k)
    have e2 : Sk w C k k k = Sk w C' k k k := ip_cgr hw (ih k) (ih k)
    rw [rs_succ, rs_succ, e1, e2, ih i t ht hwt, ih k t ht hwt]
theorem Sk_cgr (hw : isW w) {C' : Nat → Nat → Rat} (h : ∀ i t, t < 40 → w t = 1 → C i t = C' i t) (k i j : Nat) : Sk w C k i j = Sk w C' k i j := ip_cgr hw (rs_cgr hw h k i) (rs_cgr hw h k j)
end IN
theorem wq_1 {A : AR} {t : Nat} (h : wq A t = 1) : aK A t = true := by
  unfold wq at h
  by_cases q : aK A t = true
  · exact q
  · rw [if_neg q] at h
    exact absurd h (by decide)
/-! a step more -/
def stA (A : AR) (n : Nat) : AR := wS A (ups (aS A) n true)
theorem lc_mid {X Y : List (Nat → Int)} {f : Nat → Int} {t : Nat} : lc (X ++ f :: Y) X.length t = f t := by
  induction X with
  | nil => rfl
  | cons x X ih => exact ih
theorem lc_swap {Y : List (Nat → Int)} {f g : Nat → Int} {t : Nat} (h : f t = g t) : ∀ (X : List (Nat → Int)) (i : Nat), lc (X ++ f :: Y) i t = lc (X ++ g :: Y) i t
  | [], 0 => h
  | [], _ + 1 => rfl
  | _ :: _, 0 => rfl
  | _ :: X, i + 1 => lc_swap h X i
theorem fil_cgr {p q : Nat → Bool} : ∀ {l : List Nat}, (∀ x, x ∈ l → p x = q x) → l.filter p = l.filter q
  | [], _ => rfl
  | x :: l, h => by
    rw [List.filter_cons, List.filter_cons, h x List.mem_cons_self, fil_cgr (fun y hy => h y (List.mem_cons_of_mem _ hy))]
def stR2 (A : AR) (n : Nat) : List Nat := (((List.range (40 - (n + 1))).map (fun x => n + 1 + x)).filter (aS A))
theorem stl_split (A : AR) {n : Nat} (hn : n < 40) : stl A 40 = stl A n ++ ((if aS A n = true then [n] else []) ++ stR2 A n) := by
  have e : stl A 40 = stl A (n + 1) ++ stR2 A n := by
    unfold stl stR2
    have : List.range 40 = List.range (n + 1) ++ (List.range (40 - (n + 1))).map (fun x => n + 1 + x) := by
      rw [← List.range_add]
      congr 1
      omega
    rw [this, List.filter_append]
  rw [e, stl_succ, List.append_assoc]
theorem stl_stA (A : AR) {n : Nat} (hn : n < 40) : stl (stA A n) 40 = stl A n ++ (n :: stR2 A n) := by
  rw [stl_split _ hn]
  have e0 : aS (stA A n) n = true := ups_s _ _ _
  rw [if_pos e0]
  have e1 : stl (stA A n) n = stl A n := fil_cgr (fun x hx => by
    have : x < n := List.mem_range.mp hx
    exact ups_n (by omega))
  have e2 : stR2 (stA A n) n = stR2 A n := fil_cgr (fun x hx => by
    obtain ⟨y, -, rfl⟩ := List.mem_map.mp hx
    exact ups_n (by omega))
  rw [e1, e2]
  rfl
theorem uc_stA (A : AR) {n : Nat} (hn : n < 40) : uc (stA A n) = (rmp A ++ (stl A n).map stepc) ++ (stepc n :: ((stR2 A n).map stepc ++ fsl A (aC A))) := by
  have : uc (stA A n) = rmp A ++ (stl (stA A n) 40).map stepc ++ fsl A (aC A) := rfl
  rw [this, stl_stA A hn, List.map_append, List.map_cons]
  simp
theorem Cq_dep {A : AR} (hA : RowOK A) {x : Nat → Rat} (h : ∀ t, t < 40 → aK A t = true → su (fun l => x l * Cq A none l t) (plc A + nU A) = 0) {l : Nat} (hl : l < plc A + nU A) (hx : x l ≠ 0) : clB A none = false := by
  apply clB_f.mpr
  intro hp
  exact hx (indep (wq_W A) hp (fun t ht hwt => h t ht (wq_1 hwt)) l hl)
theorem su_two {a b : Rat} {i j n : Nat} (hij : i ≠ j) (hi : i < n) (hj : j < n) {f : Nat → Rat} : su (fun l => (if l = i then a else if l = j then b else 0) * f l) n = a * f i + b * f j := by
  have e1 := su_single (a := a * f i) (i := i) n
  have e2 := su_single (a := b * f j) (i := j) n
  rw [if_pos hi] at e1
  rw [if_pos hj] at e2
  rw [← e1, ← e2, ← su_add]
  refine su_congr (fun l _ => ?_)
  by_cases q : l = i
  · rw [if_pos q, if_pos q, if_neg (by omega), q]; grind
  · rw [if_neg q, if_neg q]
    by_cases q2 : l = j
    · rw [if_pos q2, if_pos q2, q2]; grind
    · rw [if_neg q2, if_neg q2]; grind
theorem step_same {n t : Nat} (hn : 1 ≤ n) (ht : t ≠ n - 1) : stepc n t = stepc (n - 1) t := by
  unfold stepc
  by_cases q : n ≤ t
  · rw [if_pos q, if_pos (by omega)]
  · rw [if_neg q, if_neg (by omega)]
/-- the sum of the places is 1 everywhere -/
theorem place_sum {A : AR} (hA : RowOK A) (u : Option Nat) (t : Nat) : su (fun l => Cq A u l t) (plc A) = 1 := by
  have hm : t % plc A < plc A := Nat.mod_lt _ (by have := plc_b hA; omega)
  have e := su_single (a := 1) (i := t % plc A) (plc A)
  rw [if_pos hm] at e
  rw [← e]
  refine su_congr (fun l hl => ?_)
  rw [Cq_p hl]
  by_cases q : l = t % plc A
  · rw [if_pos q, if_pos q.symm]
  · rw [if_neg q, if_neg (fun w => q w.symm)]
section SK
variable {A : AR}
theorem stA_nU (A : AR) {n : Nat} (hn : n < 40) : nU (stA A n) = ((rmp A).length + (stl A n).length) + (1 + ((stR2 A n).length + aC A)) := by
  unfold nU
  rw [uc_stA A hn]
  simp [fsl_len]
  omega
theorem Cq_st {n : Nat} (hn : n < 40) (t : Nat) : Cq (stA A n) none (plc A + ((rmp A).length + (stl A n).length)) t = ((stepc n t : Int) : Rat) := by
  have e : Cq (stA A n) none (plc A + ((rmp A).length + (stl A n).length)) t = ((cf (stA A n) none ((rmp A).length + (stl A n).length) t : Int) : Rat) := Cq_u (A := stA A n)
  have hl := stA_nU A hn
  rw [e, cf_lc (by omega), uc_stA A hn]
  have e2 : (rmp A).length + (stl A n).length = (rmp A ++ (stl A n).map stepc).length := by simp
  rw [e2, lc_mid]
/-- behind a tick that isn't counted: OPEN at the first tick -/
theorem skip0 (hA : RowOK (stA A 1)) (h0 : aK A 0 = false) : clB (stA A 1) none = false := by
  have hp := plc_b hA
  have epl : plc (stA A 1) = plc A := rfl
  have hl := stA_nU A (n := 1) (by omega)
  have hne : plc A + ((rmp A).length + (stl A 1).length) < plc (stA A 1) + nU (stA A 1) := by rw [epl]; omega
  refine Cq_dep hA (x := fun l => if l < plc A then 1 else if l = plc A + ((rmp A).length + (stl A 1).length) then -1 else 0) (fun t ht hk => ?_) hne ?_
  · have ht0 : t ≠ 0 := fun q => by rw [q] at hk; have : aK A 0 = true := hk; rw [h0] at this; exact absurd this (by decide)
    have e1 : su (fun l => (if l < plc A then (1 : Rat) else if l = plc A + ((rmp A).length + (stl A 1).length) then -1 else 0) * Cq (stA A 1) none l t) (plc (stA A 1) + nU (stA A 1)) = su (fun l => Cq (stA A 1) none l t) (plc A) + su (fun l => if l = (rmp A).length + (stl A 1).length then (-1 : Rat) else 0) (nU (stA A 1)) := by
      rw [epl, su_app]
      congr 1
      · exact su_congr (fun l hl => by rw [if_pos hl]; grind)
      · refine su_congr (fun l _ => ?_)
        rw [if_neg (by omega)]
        by_cases q : l = (rmp A).length + (stl A 1).length
        · rw [if_pos (by omega), if_pos q, q, Cq_st (by omega)]
          unfold stepc
          rw [if_pos (by omega), cast_1]; grind
        · rw [if_neg (by omega), if_neg q]; grind
    rw [e1, su_single, if_pos (by omega)]
    have := place_sum hA none t
    rw [epl] at this
    rw [this]; grind
  · show (if _ then (1 : Rat) else if _ then -1 else 0) ≠ 0
    rw [if_neg (by omega), if_pos rfl]; decide
/-- behind a tick that isn't counted and has a step: OPEN -/
theorem skip1 {n : Nat} (hA : RowOK (stA A (n + 1))) (hn : n + 1 < 40) (h0 : aK A n = false) (hs : aS A n = true) : clB (stA A (n + 1)) none = false := by
  have epl : plc (stA A (n + 1)) = plc A := rfl
  have hl := stA_nU A hn
  have es : stl A (n + 1) = stl A n ++ [n] := by rw [stl_succ, if_pos hs]
  have eln : (stl A (n + 1)).length = (stl A n).length + 1 := by rw [es]; simp
  have c0 : ∀ t, Cq (stA A (n + 1)) none (plc A + ((rmp A).length + (stl A n).length)) t = ((stepc n t : Int) : Rat) := by
    intro t
    have e : Cq (stA A (n + 1)) none (plc A + ((rmp A).length + (stl A n).length)) t = ((cf (stA A (n + 1)) none ((rmp A).length + (stl A n).length) t : Int) : Rat) := Cq_u (A := stA A (n + 1))
    rw [e, cf_lc (by omega), uc_stA A hn, es, List.map_append]
    have e3 : (rmp A ++ ((stl A n).map stepc ++ [n].map stepc)) ++ (stepc (n + 1) :: ((stR2 A (n + 1)).map stepc ++ fsl A (aC A))) = (rmp A ++ (stl A n).map stepc) ++ (stepc n :: (stepc (n + 1) :: ((stR2 A (n + 1)).map stepc ++ fsl A (aC A)))) := by simp
    rw [e3]
    have e2 : (rmp A).length + (stl A n).length = (rmp A ++ (stl A n).map stepc).length := by simp
    rw [e2, lc_mid]
  have c1 := fun t => Cq_st (A := A) hn t
  refine Cq_dep hA (x := fun l => if l = plc A + ((rmp A).length + (stl A n).length) then 1 else if l = plc A + ((rmp A).length + (stl A (n + 1)).length) then -1 else 0) (l := plc A + ((rmp A).length + (stl A n).length)) (fun t ht hk => ?_) (by rw [epl]; omega) ?_
  · have ht0 : t ≠ n := fun q => by rw [q] at hk; have : aK A n = true := hk; rw [h0] at this; exact absurd this (by decide)
    rw [su_two (by omega) (by rw [epl]; omega) (by rw [epl]; omega), c0, c1]
    have := step_same (n := n + 1) (t := t) (by omega) (by omega)
    rw [this]
    show (1 : Rat) * ((stepc n t : Int) : Rat) + -1 * ((stepc n t : Int) : Rat) = 0
    grind
  · rw [if_pos rfl]; decide
/-- behind a tick that isn't counted: as a step at that tick -/
theorem skip2 {n : Nat} (hn : n + 1 < 40) (h0 : aK A n = false) (hs : aS A n = false) (hs1 : aS A (n + 1) = false) : clB (stA A (n + 1)) none = clB (stA A n) none ∧ cstR (stA A (n + 1)) none = cstR (stA A n) none := by
  have e1 : stl A (n + 1) = stl A n := by rw [stl_succ, hs]; simp
  have e2 : stR2 A n = stR2 A (n + 1) := by
    unfold stR2
    have e40 : 40 - (n + 1) = 1 + (40 - (n + 1 + 1)) := by omega
    have : (List.range (40 - (n + 1))).map (fun x => n + 1 + x) = (n + 1) :: (List.range (40 - (n + 1 + 1))).map (fun x => n + 1 + 1 + x) := by
      rw [e40, List.range_add, List.map_append, List.map_map]
      show [n + 1 + 0] ++ _ = _
      rw [Nat.add_zero]
      show (n + 1) :: _ = _
      congr 1
      refine List.map_congr_left (fun x _ => ?_)
      show n + 1 + (1 + x) = n + 1 + 1 + x
      omega
    rw [this, List.filter_cons, hs1]
    rfl
  have u1 := uc_stA A hn
  have u0 := uc_stA A (show n < 40 by omega)
  rw [e1] at u1
  rw [e2] at u0
  have eN : nU (stA A (n + 1)) = nU (stA A n) := by
    unfold nU
    rw [u1, u0]
    simp
  have ew : wq (stA A (n + 1)) = wq (stA A n) := rfl
  have ep : plc (stA A (n + 1)) = plc (stA A n) := rfl
  have hC : ∀ l t, t < 40 → wq (stA A n) t = 1 → Cq (stA A (n + 1)) none l t = Cq (stA A n) none l t := by
    intro l t ht hwt
    have hk : aK A t = true := wq_1 hwt
    have ht0 : t ≠ n := fun q => by rw [q, h0] at hk; exact absurd hk (by decide)
    unfold Cq
    rw [ep]
    split
    · rfl
    · congr 1
      unfold cf
      rw [eN]
      split
      · rw [u1, u0]
        exact lc_swap (step_same (n := n + 1) (by omega) (by omega)) _ _
      · rfl
  have hS : ∀ k i j, Sk (wq (stA A (n + 1))) (Cq (stA A (n + 1)) none) k i j = Sk (wq (stA A n)) (Cq (stA A n) none) k i j := fun k i j => by
    rw [ew]
    exact Sk_cgr (wq_W _) hC k i j
  constructor
  · unfold clB
    rw [ep, eN]
    congr 1
    apply propext
    constructor
    · intro h l hl
      rw [← hS]; exact h l hl
    · intro h l hl
      rw [hS]; exact h l hl
  · unfold cstR
    rw [ep, eN, hS]
end SK
