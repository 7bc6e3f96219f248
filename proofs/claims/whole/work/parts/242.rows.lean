/-! a row: numbers, filled, strangers, steps, feasts, how many feasts, line, period -/
abbrev AR : Type := (Nat → Int) × (Nat → Bool) × (Nat → Bool) × (Nat → Bool) × (Nat → Nat → Bool) × Nat × Bool × Nat
def aN (A : AR) : Nat → Int := A.1
def aF (A : AR) : Nat → Bool := A.2.1
def aX (A : AR) : Nat → Bool := A.2.2.1
def aS (A : AR) : Nat → Bool := A.2.2.2.1
def aE (A : AR) : Nat → Nat → Bool := A.2.2.2.2.1
def aC (A : AR) : Nat := A.2.2.2.2.2.1
def aL (A : AR) : Bool := A.2.2.2.2.2.2.1
def aP (A : AR) : Nat := A.2.2.2.2.2.2.2
/-- counted -/
def aK (A : AR) (t : Nat) : Bool := aF A t && !aX A t
def RowV (ad : Nat → Nat) (D : Dat) (r : Nat) (A : AR) : Prop := (∀ t, t < 40 → (D.1 (ad (rb r + 1)) t).toInt = aN A t) ∧ SetV D (ad (rS r 0)) (ad (rS r 0 + 1)) (aF A) ∧ SetV D (ad (rS r 1)) (ad (rS r 1 + 1)) (aX A) ∧ SetV D (ad (rS r 2)) (ad (rS r 2 + 1)) (aS A) ∧ (∀ f, f < 2 → SetV D (ad (rS r (3 + f))) (ad (rS r (3 + f) + 1)) (aE A f)) ∧ D.1 (ad (rb r)) 5 = nI (aC A) ∧ D.1 (ad (rb r)) 6 = bI (aL A) ∧ D.1 (ad (rb r)) 7 = nI (aP A)
/-- what always holds of a row -/
def RowOK (A : AR) : Prop := (∀ t, -10000 ≤ aN A t ∧ aN A t ≤ 10000) ∧ aS A 0 = false ∧ ct (aS A) 40 ≤ 3 ∧ (∀ f, f < 2 → ct (aE A f) 40 ≤ 8) ∧ (∀ f, aC A ≤ f → f < 2 → ∀ t, t < 40 → aE A f t = false) ∧ aC A ≤ 2 ∧ (aP A = 0 ∨ (2 ≤ aP A ∧ aP A ≤ 7))
/-- the roles of a row -/
def pR (r q : Nat) : Prop := rb r ≤ q ∧ q < rb r + 20
theorem RowV.fr {G : Shp} {ad ro : Nat → Nat} (H : CS G ad ro) {D D' : Dat} {P : Nat → Prop} {r : Nat} {A : AR} (hr : r < 4) (h : RowV ad D r A) (f : FrP ro D D' P) (hP : ∀ q, pR r q → ¬ P q) : RowV ad D' r A := by
  have g : ∀ q, rb r ≤ q → q < rb r + 20 → D'.1 (ad q) = D.1 (ad q) := fun q h1 h2 => f.i H (by unfold rb at *; omega) (hP q ⟨h1, h2⟩)
  obtain ⟨h1, h2, h3, h4, h5, h6, h7, h8⟩ := h
  refine ⟨fun t ht => ?_, h2.kept ?_ ?_, h3.kept ?_ ?_, h4.kept ?_ ?_, fun q hq => (h5 q hq).kept ?_ ?_, ?_, ?_, ?_⟩
  · rw [g _ (by omega) (by omega)]; exact h1 t ht
  all_goals first | (exact g _ (by unfold rS rb; omega) (by unfold rS rb; omega)) | (rw [g _ (by omega) (by omega)]; assumption)
theorem fr_S {G : Shp} {ad ro : Nat → Nat} (H : CS G ad ro) {q : Nat} (hq : q + 1 < 440) {D D' : Dat} (f : Fr D D' [ad q, ad (q + 1)] []) : FrP ro D D' (fun x => x = q ∨ x = q + 1) := f.toP (fun x hx => by
  rcases List.mem_cons.mp hx with e | e
  · rw [e, H.inj_ _ (by omega)]; exact Or.inl rfl
  · rw [List.mem_singleton.mp e, H.inj_ _ (by omega)]; exact Or.inr rfl) (fun x hx => by cases hx)
section RW
variable {G : Shp} {ad ro : Nat → Nat} {D : Dat} {r : Nat} {A : AR}
theorem counts_sp (H : CS G ad ro) (hr : r < 4) (h : RowV ad D r A) {t : Nat} (ht : t < 2 ^ 31) {post : Int32 → Dat → Prop} (k : post (bI (decide (t < 40) && aK A t)) D) : X3_counts_wp G D (ad (rb r)) (nI t) post := by
  have s0 := H.set_ r hr 0 (by omega)
  have s1 := H.set_ r hr 1 (by omega)
  refine ⟨H.row_ r hr, _, H.row1_ r hr, s0.1, _, H.row2_ r hr, s1.1, ?_⟩
  refine has_sp s0 h.2.1 ht ?_
  unfold X3_counts_j26 X3_counts_j27
  unfold aK at k
  by_cases q : t < 40
  · rw [decide_eq_true q] at k ⊢
    rw [Bool.true_and] at k ⊢
    cases hf : aF A t <;> rw [hf] at k
    · exact ⟨fun _ => ⟨isB_0, k⟩, fun w => absurd rfl w⟩
    · refine ⟨fun w => absurd w (by decide), fun _ => has_sp s1 h.2.2.1 ht ?_⟩
      rw [decide_eq_true q, Bool.true_and]
      cases hx : aX A t <;> rw [hx] at k
      · exact ⟨fun w => absurd rfl w, fun _ => ⟨isB_1, k⟩⟩
      · exact ⟨fun _ => ⟨isB_0, k⟩, fun w => absurd w (by decide)⟩
  · rw [decide_eq_false q] at k ⊢
    exact ⟨fun _ => ⟨isB_0, k⟩, fun w => absurd rfl w⟩
theorem counts_t (H : CS G ad ro) (hr : r < 4) (h : RowV ad D r A) {t : Nat} (ht : t < 40) {post : Int32 → Dat → Prop} (k : post (bI (aK A t)) D) : X3_counts_wp G D (ad (rb r)) (nI t) post := counts_sp H hr h (by omega) (by rw [decide_eq_true ht, Bool.true_and]; exact k)
theorem counted_sp (H : CS G ad ro) (hr : r < 4) (h : RowV ad D r A) {post : Int32 → Dat → Prop} (k : post (nI (ct (aK A) 40)) D) : X3_countedTicks_wp G D (ad (rb r)) post := by
  refine ⟨H.row_ r hr, ?_⟩
  have key := up_loop2 (L := fun m i (c : Int32) (E : Dat) => X3_countedTicks_l4 G post (ad (rb r)) m c (nI i) E) 40 (fun i c E => E = D ∧ c = nI (ct (aK A) i)) ?_ ?_ 0 0 D (by omega) ⟨rfl, rfl⟩
  · exact ⟨_, key⟩
  · intro m c E hE
    obtain ⟨rfl, rfl⟩ := hE
    exact ⟨fun _ => k, fun q => absurd (by decide) q⟩
  · intro m i c E hi hE hk
    obtain ⟨rfl, rfl⟩ := hE
    show X3_countedTicks_l4_b G post (ad (rb r)) _ _ _ _
    refine ⟨fun q => absurd q (by rw [show (40 : Int32) = nI 40 by decide]; exact nI_ge hi (by omega)), fun _ => counts_t H hr h hi ?_⟩
    unfold X3_countedTicks_j21
    rw [nI_1, nI_1]
    cases hs : aK A i
    · refine ⟨fun _ => hk _ _ ⟨rfl, ?_⟩, fun w => absurd rfl w⟩
      show nI (ct (aK A) i) = nI (ct (aK A) i + _)
      rw [hs]; rfl
    · refine ⟨fun w => absurd w (by decide), fun _ => hk _ _ ⟨rfl, ?_⟩⟩
      show nI (ct (aK A) i + 1) = nI (ct (aK A) i + _)
      rw [hs]; rfl
theorem hasFeast_sp (H : CS G ad ro) (hr : r < 4) (h : RowV ad D r A) (hc : aC A ≤ 2) {v : Int32} {post : Int32 → Dat → Prop} (k : post (bI (decide (0 ≤ v.toInt ∧ v.toInt < aC A))) D) : X3_hasFeast_wp G D (ad (rb r)) v post := by
  refine ⟨H.row_ r hr, ?_⟩
  unfold X3_hasFeast_j21 X3_hasFeast_j22
  rw [h.2.2.2.2.2.1]
  have e : (nI (aC A)).toInt = (aC A : Int) := nI_toInt (by omega)
  refine ⟨fun q => ⟨isB_0, ?_⟩, fun q => ⟨fun w => ⟨isB_0, ?_⟩, fun w => ⟨fun u => ⟨isB_0, ?_⟩, fun u => ⟨isB_1, ?_⟩⟩⟩⟩
  · have q : v.toInt < 0 := (I_lt _ _).mp q
    rw [decide_eq_false (by omega)] at k
    exact k
  · have w := (I_le _ _).mp w
    rw [e] at w
    rw [decide_eq_false (by omega)] at k
    exact k
  · have u : 2 ≤ v.toInt := (I_le _ _).mp u
    rw [decide_eq_false (by omega)] at k
    exact k
  · have q : ¬ v.toInt < 0 := fun e => q ((I_lt _ _).mpr e)
    have w : ¬ (aC A : Int) ≤ v.toInt := fun z => w ((I_le _ _).mpr (by rw [e]; exact z))
    rw [decide_eq_true (by omega)] at k
    exact k
/-- a row with a number more -/
def wN (A : AR) (t : Nat) (v : Int) : AR := (fun i => if i = t then v else aN A i, ups (aF A) t true, A.2.2)
theorem setNumber_sp (H : CS G ad ro) (hr : r < 4) (h : RowV ad D r A) {t : Nat} (ht : t < 40) {v : Int32} {post : Dat → Prop} (k : ∀ D', FrP ro D D' (pR r) → RowV ad D' r (wN A t v.toInt) → post D') : X3_setNumber_wp G D (ad (rb r)) (nI t) v post := by
  have s0 := H.set_ r hr 0 (by omega)
  have hrr : rb r + 20 ≤ 440 := by unfold rb; omega
  refine ⟨H.row_ r hr, _, H.row0_ r hr, H.num_ r hr, _, H.row1_ r hr, s0.1, isTick_sp ?_⟩
  unfold X3_setNumber_j23
  rw [tick_nI (by omega), decide_eq_true ht]
  refine ⟨fun w => absurd w (by decide), fun _ => ⟨by rw [H.numl_ r hr]; exact vp_in_nI ht (by omega), ?_⟩⟩
  rw [nI_clamp (by omega)]
  have f1 : FrP ro D (dI D (ad (rb r + 1)) t v) (fun q => q = rb r + 1) := FrP.dI (by rw [H.inj_ _ (by omega)])
  have g1 : ∀ q, q < 440 → q ≠ rb r + 1 → (dI D (ad (rb r + 1)) t v).1 (ad q) = D.1 (ad q) := fun q hq hn => f1.i H hq hn
  refine add_sp s0 (h.2.1.kept (g1 _ (by unfold rS; omega) (by unfold rS rb; omega)) (g1 _ (by unfold rS; omega) (by unfold rS rb; omega))) ht (fun D' f hs => ?_)
  have f2 := fr_S H (show rS r 0 + 1 < 440 by unfold rS; omega) f
  have g2 : ∀ q, q < 440 → q ≠ rS r 0 → q ≠ rS r 0 + 1 → D'.1 (ad q) = (dI D (ad (rb r + 1)) t v).1 (ad q) := fun q hq h1 h2 => f2.i H hq (by omega)
  have g3 : ∀ q, q < 440 → q ≠ rb r + 1 → q ≠ rS r 0 → q ≠ rS r 0 + 1 → D'.1 (ad q) = D.1 (ad q) := fun q hq h0 h1 h2 => (g2 q hq h1 h2).trans (g1 q hq h0)
  refine k D' ((f1.up (fun q e => by unfold pR; omega)).tr (f2.up (fun q e => by unfold pR rS rb at *; omega))) ?_
  obtain ⟨h1, h2, h3, h4, h5, h6, h7, h8⟩ := h
  refine ⟨fun i hi => ?_, hs, h3.kept ?_ ?_, h4.kept ?_ ?_, fun q hq => (h5 q hq).kept ?_ ?_, ?_, ?_, ?_⟩
  · rw [g2 _ (by omega) (by unfold rS rb; omega) (by unfold rS rb; omega)]
    show _ = if i = t then v.toInt else aN A i
    by_cases e : i = t
    · rw [e, dI_s, if_pos rfl]
    · rw [dI_o _ _ _ e, if_neg e]; exact h1 i hi
  all_goals first | (exact g3 _ (by (try simp only [rS, rb, bg, pR, pB, pT, okb] at *) <;> omega) (by (try simp only [rS, rb, bg, pR, pB, pT, okb] at *) <;> omega) (by (try simp only [rS, rb, bg, pR, pB, pT, okb] at *) <;> omega) (by (try simp only [rS, rb, bg, pR, pB, pT, okb] at *) <;> omega)) | (rw [g3 _ (by (try simp only [rS, rb, bg, pR, pB, pT, okb] at *) <;> omega) (by (try simp only [rS, rb, bg, pR, pB, pT, okb] at *) <;> omega) (by (try simp only [rS, rb, bg, pR, pB, pT, okb] at *) <;> omega) (by (try simp only [rS, rb, bg, pR, pB, pT, okb] at *) <;> omega)]; assumption)
end RW
