/-! the reference: the middle -/
def szr (A : AR) (t : Nat) : Int := az (aN A t * dr A none - gzI A none t 3 (NN A))
def qlf (A : AR) (t : Nat) : Prop := aK A t = true ∧ ct (aK A) 40 ≤ 2 * cgR A (szR A) (szR A t)
def gtO (o : Option Rat) (x : Rat) : Prop := match o with
  | none => True
  | some y => y < x
def mdo (A : AR) : Nat → Option Nat
  | 0 => none
  | n + 1 => match mdo A n with
    | none => if aK A n = true ∧ ct (aK A) 40 ≤ 2 * cgR A (szR A) (szR A n) then some n else none
    | some m => if (aK A n = true ∧ ct (aK A) 40 ≤ 2 * cgR A (szR A) (szR A n)) ∧ szR A m < szR A n then some n else some m
def mdv (A : AR) (o : Option Nat) : Rat := match o with
  | none => 0
  | some m => szR A m
section MI
variable {A : AR}
theorem rab_nn (q : Rat) : 0 ≤ rab q := by
  unfold rab
  split <;> grind
theorem dr_Rp (hA : RowOK A) (hp : Pv A none (nU A)) : (0 : Rat) < ((dr A none : Int) : Rat) := by
  rw [← cast_0]
  exact cast_lt.mpr (by have := dr_pos hA hp; omega)
theorem szr_R (hA : RowOK A) (hp : Pv A none (nU A)) (t : Nat) : ((szr A t : Int) : Rat) = (dr A none : Int) * szR A t := by
  have h := rest9_R hA hp t
  have hz := dr_Rp hA hp
  unfold szr szR rab az
  generalize aN A t * dr A none - gzI A none t 3 (NN A) = z at *
  generalize ((aN A t : Int) : Rat) - foR A none t = x at *
  generalize ((dr A none : Int) : Rat) = y at *
  by_cases q : z < 0
  · have q2 : ((z : Int) : Rat) < ((0 : Int) : Rat) := cast_lt.mpr q
    rw [h, cast_0] at q2
    have q3 : x < 0 := (pos_lt hz).mp (by grind)
    rw [if_pos q, if_pos q3, Rat.intCast_neg, h]; grind
  · have q2 : ((0 : Int) : Rat) ≤ ((z : Int) : Rat) := cast_le.mpr (by omega)
    rw [h, cast_0] at q2
    have q3 : ¬ x < 0 := fun w => by
      have := (pos_lt (x := x) (y := 0) hz).mpr w
      grind
    rw [if_neg q, if_neg q3, h]
theorem szr_le (hA : RowOK A) (hp : Pv A none (nU A)) (t u : Nat) : szr A t ≤ szr A u ↔ szR A t ≤ szR A u := by
  rw [← cast_le, szr_R hA hp, szr_R hA hp, pos_le (dr_Rp hA hp)]
theorem szr_lt (hA : RowOK A) (hp : Pv A none (nU A)) (t u : Nat) : szr A t < szr A u ↔ szR A t < szR A u := by
  rw [← cast_lt, szr_R hA hp, szr_R hA hp, pos_lt (dr_Rp hA hp)]
theorem szr_b (hA : RowOK A) (hp : Pv A none (nU A)) {t : Nat} (ht : t < 40) : 0 ≤ szr A t ∧ az (szr A t) < 1073741824 ^ 19 := by
  have h := rs_b hA hp ht
  have h0 : 0 ≤ szr A t := az_nn _
  exact ⟨h0, by rw [az_id h0]; exact h⟩
/-- the middle as the class finds it, and as the reference does -/
theorem mdo_R : ∀ n, mdR A (szR A) n = mdv A (mdo A n)
  | 0 => rfl
  | n + 1 => by
    have ih := mdo_R n
    have hs : 0 ≤ szR A n := rab_nn _
    unfold mdR mdo
    cases hm : mdo A n with
    | none =>
      rw [hm] at ih
      have ih : mdR A (szR A) n = 0 := ih
      dsimp only
      by_cases q : aK A n = true ∧ ct (aK A) 40 ≤ 2 * cgR A (szR A) (szR A n)
      · rw [if_pos q]
        show _ = szR A n
        by_cases q2 : mdR A (szR A) n < szR A n
        · rw [if_pos ⟨q.1, q2, q.2⟩]
        · rw [if_neg (fun w => q2 w.2.1), ih]
          rw [ih] at q2
          grind
      · rw [if_neg q, if_neg (fun w => q ⟨w.1, w.2.2⟩)]
        exact ih
    | some m =>
      rw [hm] at ih
      have ih : mdR A (szR A) n = szR A m := ih
      dsimp only
      rw [ih]
      by_cases q : (aK A n = true ∧ ct (aK A) 40 ≤ 2 * cgR A (szR A) (szR A n)) ∧ szR A m < szR A n
      · rw [if_pos q, if_pos ⟨q.1.1, q.2, q.1.2⟩]
        rfl
      · rw [if_neg q, if_neg (fun w => q ⟨⟨w.1, w.2.2⟩, w.2.1⟩)]
        rfl
theorem mdo_k : ∀ n m, mdo A n = some m → m < n ∧ aK A m = true
  | 0, m, h => by cases h
  | n + 1, m, h => by
    unfold mdo at h
    cases hm : mdo A n with
    | none =>
      rw [hm] at h
      dsimp only at h
      by_cases q : aK A n = true ∧ ct (aK A) 40 ≤ 2 * cgR A (szR A) (szR A n)
      · rw [if_pos q] at h
        cases h
        exact ⟨by omega, q.1⟩
      · rw [if_neg q] at h
        cases h
    | some m0 =>
      rw [hm] at h
      dsimp only at h
      have ih := mdo_k n m0 hm
      by_cases q : (aK A n = true ∧ ct (aK A) 40 ≤ 2 * cgR A (szR A) (szR A n)) ∧ szR A m0 < szR A n
      · rw [if_pos q] at h
        cases h
        exact ⟨by omega, q.1.1⟩
      · rw [if_neg q] at h
        cases h
        exact ⟨by omega, ih.2⟩
theorem mdo_mono {n : Nat} (h : mdo A n ≠ none) : mdo A (n + 1) ≠ none := by
  unfold mdo
  cases hm : mdo A n with
  | none => exact absurd hm h
  | some m =>
    dsimp only
    split <;> exact fun w => by cases w
theorem mdo_up {t : Nat} (h1 : aK A t = true) (h2 : ct (aK A) 40 ≤ 2 * cgR A (szR A) (szR A t)) : ∀ k, mdo A (t + 1 + k) ≠ none
  | 0 => by
    show mdo A (t + 1) ≠ none
    unfold mdo
    cases hm : mdo A t with
    | none => dsimp only; rw [if_pos ⟨h1, h2⟩]; exact fun w => by cases w
    | some m => dsimp only; split <;> exact fun w => by cases w
  | k + 1 => mdo_mono (mdo_up h1 h2 k)
/-- the least of the sizes -/
theorem least_ex : ∀ n, (∃ t, t < n ∧ aK A t = true) → ∃ t, t < n ∧ aK A t = true ∧ ∀ u, u < n → aK A u = true → szR A t ≤ szR A u
  | 0, h => by obtain ⟨t, ht, -⟩ := h; omega
  | n + 1, h => by
    by_cases q : ∃ t, t < n ∧ aK A t = true
    · obtain ⟨t, ht, hk, hl⟩ := least_ex n q
      by_cases q2 : aK A n = true ∧ szR A n < szR A t
      · refine ⟨n, by omega, q2.1, fun u hu hku => ?_⟩
        by_cases e : u = n
        · subst e; grind
        · have := hl u (by omega) hku
          have := q2.2
          grind
      · refine ⟨t, by omega, hk, fun u hu hku => ?_⟩
        by_cases e : u = n
        · subst e
          by_cases q3 : szR A u < szR A t
          · exact absurd ⟨hku, q3⟩ q2
          · grind
        · exact hl u (by omega) hku
    · obtain ⟨t, ht, hk⟩ := h
      have e : t = n := by
        by_cases e : t = n
        · exact e
        · exact absurd ⟨t, by omega, hk⟩ q
      subst e
      refine ⟨t, by omega, hk, fun u hu hku => ?_⟩
      by_cases e2 : u = t
      · subst e2; grind
      · exact absurd ⟨u, by omega, hku⟩ q
theorem counted_ex (hA : RowOK A) (hp : Pv A none (nU A)) : ∃ t, t < 40 ∧ aK A t = true := by
  by_cases q : ∃ t, t < 40 ∧ aK A t = true
  · exact q
  · have hpl := plc_b hA
    have := indep (wq_W A) hp (x := fun _ => 1) (fun t ht h1 => absurd ⟨t, ht, wq_1 h1⟩ q) 0 (by omega)
    exact absurd this (by decide)
theorem mdo_some (hA : RowOK A) (hp : Pv A none (nU A)) : ∃ m, mdo A 40 = some m := by
  obtain ⟨t, ht, hk, hl⟩ := least_ex 40 (counted_ex hA hp)
  have e : cgR A (szR A) (szR A t) = ct (aK A) 40 := ct_congr (fun u hu => by
    cases hs : aK A u
    · rfl
    · rw [decide_eq_true (hl u hu hs)]; rfl)
  have h := mdo_up hk (by rw [e]; omega) (39 - t)
  rw [show t + 1 + (39 - t) = 40 by omega] at h
  cases hm : mdo A 40 with
  | none => exact absurd hm h
  | some m => exact ⟨m, rfl⟩
end MI
/-- what the middle changes -/
def MiF (ad ro : Nat → Nat) (D D' : Dat) (T : Nat) : Prop := FrP ro D D' (fun q => pG q ∨ q = 519 ∨ q = 520 ∨ q = 529) ∧ (∀ i, i < T → D'.1 (ad 501) i = D.1 (ad 501) i) ∧ (∀ s, s ≠ 2 → s ≠ 6 → s ≠ 7 → s ≠ 21 → D'.1 (ad 500) s = D.1 (ad 500) s)
theorem MiF.rf {ad ro : Nat → Nat} {D : Dat} {T : Nat} : MiF ad ro D D T := ⟨FrP.rf, fun _ _ => rfl, fun _ _ _ _ _ => rfl⟩
theorem MiF.tr {ad ro : Nat → Nat} {D D1 D2 : Dat} {T T' : Nat} (h : MiF ad ro D D1 T) (h2 : MiF ad ro D1 D2 T') (hT : T ≤ T') : MiF ad ro D D2 T := ⟨h.1.tr h2.1, fun i hi => (h2.2.1 i (by omega)).trans (h.2.1 i hi), fun s a b c d => (h2.2.2 s a b c d).trans (h.2.2 s a b c d)⟩
section MJ
variable {G : Shp} {ad ro : Nat → Nat} {D D' : Dat} {r T t : Nat} {A : AR} {post : Int32 → Dat → Prop}
theorem WnF.mi (h : WnF ad ro D D' T) : MiF ad ro D D' T := ⟨h.1.up (fun q hq => by unfold pG at *; omega), h.2.1, h.2.2.1⟩
theorem BgF.mi (h : BgF ad ro D D' T) : MiF ad ro D D' T := h.wn.mi
theorem MiF.wk (h : MiF ad ro D D' T) : WkF ad ro D D' := ⟨h.1.up (fun q hq => by unfold pG at hq; unfold pW; omega), h.2.2 0 (by decide) (by decide) (by decide) (by decide), h.2.2 9 (by decide) (by decide) (by decide) (by decide)⟩
theorem MiF.nm (h : MiF ad ro D D' T) {T' a n : Nat} {z : Int} (hN : Nm ad D T a z n) (hT : T ≤ T') : Nm ad D' T' a z n := hN.cells (fun i hi => h.2.1 _ (by have := hN.1; omega)) (by have := hN.1; omega)
theorem MiF.kp (H : RG G ad ro) (h : MiF ad ro D D' T) {p n : Nat} {z : Int} (hk : KpV ad D p z n) : KpV ad D' p z n := hk.kept (fun i _ => by rw [h.1.mi H (by omega) (by unfold pG; omega)])
theorem KzV.mi {u : Option Nat} (H : RG G ad ro) (h : KzV ad D A u) (f : MiF ad ro D D' T) : KzV ad D' A u := ⟨fun i hi => by obtain ⟨m, hm, hk⟩ := h.1 i hi; exact ⟨m, hm, f.kp H hk⟩, by obtain ⟨m, hm, hk⟩ := h.2; exact ⟨m, hm, f.kp H hk⟩⟩
theorem mi29 (H : RG G ad ro) {i : Nat} {v : Int32} : MiF ad ro D (dI D (ad 529) i v) T := ⟨FrP.dI (by rw [H.inj_ 529 (by omega) (by omega)]; omega), fun j _ => by rw [dI_n _ _ _ (H.ne (by omega) (by omega) (by omega))], fun s _ _ _ _ => by rw [dI_n _ _ _ (H.ne (by omega) (by omega) (by omega))]⟩
theorem z_in (H : RG G ad ro) {i : Nat} (hi : i < 40) : vp_in (nI i) (G.2.2.1 (ad 529)) := by rw [H.sz0_.2.2]; exact vp_in_nI hi (by omega)
/-- the sizes of the rests -/
def SzV (ad : Nat → Nat) (D : Dat) (T : Nat) (A : AR) (n : Nat) : Prop := ∀ t, t < n → aK A t = true → ∃ p m, m ≤ 19 ∧ D.1 (ad 529) t = nI p ∧ Nm ad D T p (szr A t) m
theorem SzV.bg (H : RG G ad ro) {n T' : Nat} (h : SzV ad D T A n) (f : BgF ad ro D D' T) (hT : T ≤ T') : SzV ad D' T' A n := fun t ht hk => by
  obtain ⟨p, m, hm, e, w⟩ := h t ht hk
  exact ⟨p, m, hm, by rw [f.1.mi H (by omega) (by unfold pG; omega)]; exact e, w.fr f hT⟩
theorem SzV.wn (H : RG G ad ro) {n T' : Nat} (h : SzV ad D T A n) (f : WnF ad ro D D' T) (hT : T ≤ T') : SzV ad D' T' A n := fun t ht hk => by
  obtain ⟨p, m, hm, e, w⟩ := h t ht hk
  exact ⟨p, m, hm, by rw [f.1.mi H (by omega) (by unfold pG; omega)]; exact e, f.nm w hT⟩
theorem TopV.mi29 (H : RG G ad ro) (h : TopV ad D T) {i : Nat} {v : Int32} : TopV ad (dI D (ad 529) i v) T := ⟨by rw [dI_n _ _ _ (H.ne (by omega) (by omega) (by omega))]; exact h.1, h.2⟩
theorem two_e {x : Nat} : (2 : Int32) * nI x = nI (2 * x) := nI_mul' (c := 2)
end MJ
