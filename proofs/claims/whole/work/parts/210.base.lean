/-! reading the data behind a write -/
theorem dI_at (D : Dat) (a k : Nat) (v : Int32) (b j : Nat) : (dI D a k v).1 b j = if b = a ∧ j = k then v else D.1 b j := by
  unfold dI va_up
  by_cases h : b = a
  · subst h
    by_cases h2 : j = k <;> simp [h2]
  · simp [h]
theorem dI_s (D : Dat) (a k : Nat) (v : Int32) : (dI D a k v).1 a k = v := by rw [dI_at, if_pos ⟨rfl, rfl⟩]
theorem dI_o (D : Dat) (a : Nat) {k j : Nat} (v : Int32) (h : j ≠ k) : (dI D a k v).1 a j = D.1 a j := by rw [dI_at, if_neg (fun q => h q.2)]
theorem dI_n (D : Dat) {a b : Nat} (k : Nat) (v : Int32) (h : b ≠ a) : (dI D a k v).1 b = D.1 b := by
  unfold dI; exact va_up_ne _ _ h
theorem dI_2 (D : Dat) (a k : Nat) (v : Int32) : (dI D a k v).2 = D.2 := rfl
theorem dI_I (D : Dat) (a k : Nat) (v w : Int32) : dI (dI D a k v) a k w = dI D a k w := by
  have : (dI (dI D a k v) a k w).1 = (dI D a k w).1 := by
    funext b j
    rw [dI_at, dI_at, dI_at]
    by_cases h : b = a ∧ j = k <;> simp [h]
  exact Prod.ext this rfl
theorem dJ_at (D : Dat) (a k : Nat) (v : Int64) (b j : Nat) : (dJ D a k v).2 b j = if b = a ∧ j = k then v else D.2 b j := by
  unfold dJ va_up
  by_cases h : b = a
  · subst h
    by_cases h2 : j = k <;> simp [h2]
  · simp [h]
theorem dJ_s (D : Dat) (a k : Nat) (v : Int64) : (dJ D a k v).2 a k = v := by rw [dJ_at, if_pos ⟨rfl, rfl⟩]
theorem dJ_o (D : Dat) (a : Nat) {k j : Nat} (v : Int64) (h : j ≠ k) : (dJ D a k v).2 a j = D.2 a j := by rw [dJ_at, if_neg (fun q => h q.2)]
theorem dJ_n (D : Dat) {a b : Nat} (k : Nat) (v : Int64) (h : b ≠ a) : (dJ D a k v).2 b = D.2 b := by
  unfold dJ; exact va_up_ne _ _ h
theorem dJ_1 (D : Dat) (a k : Nat) (v : Int64) : (dJ D a k v).1 = D.1 := rfl
/-- from D to D' nothing has changed but ints at the addresses A, longs at the addresses B -/
def Fr (D D' : Dat) (A B : List Nat) : Prop := (∀ x, x ∉ A → D'.1 x = D.1 x) ∧ ∀ x, x ∉ B → D'.2 x = D.2 x
theorem Fr.rf {D : Dat} {A B : List Nat} : Fr D D A B := ⟨fun _ _ => rfl, fun _ _ => rfl⟩
theorem Fr.tr {D D1 D2 : Dat} {A B : List Nat} (h : Fr D D1 A B) (h2 : Fr D1 D2 A B) : Fr D D2 A B := ⟨fun x hx => (h2.1 x hx).trans (h.1 x hx), fun x hx => (h2.2 x hx).trans (h.2 x hx)⟩
theorem Fr.up {D D' : Dat} {A B A' B' : List Nat} (h : Fr D D' A B) (hA : ∀ x, x ∈ A → x ∈ A') (hB : ∀ x, x ∈ B → x ∈ B') : Fr D D' A' B' := ⟨fun x hx => h.1 x (fun q => hx (hA x q)), fun x hx => h.2 x (fun q => hx (hB x q))⟩
theorem Fr.dI {D : Dat} {a k : Nat} {v : Int32} {A B : List Nat} (h : a ∈ A) : Fr D (dI D a k v) A B := ⟨fun x hx => dI_n D k v (fun q => hx (q ▸ h)), fun _ _ => rfl⟩
theorem Fr.dJ {D : Dat} {a k : Nat} {v : Int64} {A B : List Nat} (h : a ∈ B) : Fr D (dJ D a k v) A B := ⟨fun _ _ => rfl, fun x hx => dJ_n D k v (fun q => hx (q ▸ h))⟩
theorem nI_0' : (0 : Int32) = nI 0 := by decide
theorem lit_nI (n : Nat) : (OfNat.ofNat n : Int32) = nI n := rfl
/-- a loop that counts up: fuel is what is left, and one -/
theorem up_loop {σ : Type} {L : Nat → Nat → σ → Prop} (e : Nat) (I : Nat → σ → Prop) (hx : ∀ n s, I e s → L (n + 1) e s) (hs : ∀ n i s, i < e → I i s → (∀ s', I (i + 1) s' → L n (i + 1) s') → L (n + 1) i s) : ∀ (i : Nat) (s : σ), i ≤ e → I i s → L (e - i + 1) i s := by
  intro i s hi h
  have key : ∀ (d i : Nat) (s : σ), i + d = e → I i s → L (d + 1) i s := by
    intro d
    induction d with
    | zero => intro i s hd h; have : i = e := by omega
              subst this; exact hx 0 s h
    | succ d ih => intro i s hd h; exact hs (d + 1) i s (by omega) h (fun s' h' => ih (i + 1) s' (by omega) h')
  have := key (e - i) i s (by omega) h
  exact this
/-! Big: its shape, its value -/
def BG (G : Shp) (a la : Nat) : Prop := isO G a 0 ∧ G.2.2.2 a 0 = some la ∧ isO G la 12 ∧ G.2.2.1 la = 12
def TG (G : Shp) (t ca : Nat) : Prop := isO G t 6 ∧ G.2.2.2 t 0 = some ca ∧ isO G ca 12 ∧ G.2.2.1 ca = 12
def lm (D : Dat) (la : Nat) : Nat → Int := fun i => (D.2 la i).toInt
def dig (f : Nat → Int) (n : Nat) : Prop := ∀ i, i < n → 0 ≤ f i ∧ f i < 134217728
def sg (b : Int32) : Int := if b = 0 then 1 else -1
def BigV (D : Dat) (a la : Nat) (z : Int) : Prop := ∃ n : Nat, n ≤ 12 ∧ D.1 a 1 = nI n ∧ dig (lm D la) n ∧ (0 < n → lm D la (n - 1) ≠ 0) ∧ isB (D.1 a 2) ∧ (n = 0 → D.1 a 2 = 0) ∧ z = sg (D.1 a 2) * pv 134217728 (lm D la) n
theorem BigV.kept {D D' : Dat} {a la : Nat} {z : Int} (h : BigV D a la z) (h1 : D'.1 a = D.1 a) (h2 : D'.2 la = D.2 la) : BigV D' a la z := by
  have e : lm D' la = lm D la := by unfold lm; rw [h2]
  unfold BigV
  rw [h1, e]
  exact h
theorem BigV.fr {D D' : Dat} {a la : Nat} {z : Int} {A B : List Nat} (h : BigV D a la z) (f : Fr D D' A B) (h1 : a ∉ A) (h2 : la ∉ B) : BigV D' a la z := h.kept (f.1 a h1) (f.2 la h2)
theorem sg_0 : sg 0 = 1 := by decide
theorem sg_1 : sg 1 = -1 := by decide
theorem isB_0 : isB 0 := Or.inl rfl
theorem isB_1 : isB 1 := Or.inr rfl
/-- limbs below e, a sign: the first n that count -/
theorem top_limb (f : Nat → Int) : ∀ e : Nat, ∃ n, n ≤ e ∧ (∀ i, n ≤ i → i < e → f i = 0) ∧ (0 < n → f (n - 1) ≠ 0)
  | 0 => ⟨0, Nat.le_refl 0, fun i h h2 => by omega, fun h => by omega⟩
  | e + 1 => by
    by_cases h : f e = 0
    · obtain ⟨n, h1, h2, h3⟩ := top_limb f e
      refine ⟨n, by omega, fun i hi hi2 => ?_, h3⟩
      by_cases hie : i = e
      · rw [hie]; exact h
      · exact h2 i hi (by omega)
    · exact ⟨e + 1, Nat.le_refl _, fun i h h2 => by omega, fun _ => by simpa using h⟩
theorem ipow_le {B : Int} (hB : 1 ≤ B) {m n : Nat} (h : m ≤ n) : B ^ m ≤ B ^ n := by
  obtain ⟨d, rfl⟩ := Nat.exists_eq_add_of_le h
  induction d with
  | zero => exact Int.le_refl _
  | succ d ih =>
    have h1 := ih (by omega)
    have h2 : 0 ≤ B ^ (m + d) := Int.pow_nonneg (by omega)
    have h3 : B ^ (m + d) * 1 ≤ B ^ (m + d) * B := Int.mul_le_mul_of_nonneg_left hB h2
    rw [← Nat.add_assoc, Int.pow_succ]
    omega
theorem BigV.bound {D : Dat} {a la : Nat} {z : Int} (h : BigV D a la z) : -(134217728 ^ 12 : Int) < z ∧ z < 134217728 ^ 12 := by
  obtain ⟨n, hn, -, hd, -, hb, -, rfl⟩ := h
  have h1 := pv_lt (B := 134217728) (by decide) hd
  have h2 := pv_nn (B := 134217728) (by decide) (n := n) (f := lm D la) (fun i hi => (hd i hi).1)
  have h3 : (134217728 : Int) ^ n ≤ 134217728 ^ 12 := ipow_le (by decide) hn
  rcases hb with e | e <;> rw [e]
  · rw [sg_0]; omega
  · rw [sg_1]; omega
