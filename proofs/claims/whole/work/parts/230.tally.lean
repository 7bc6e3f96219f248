/-! Tally -/
/-- the columns: their value z, none beyond u, each within m times 2 to the 58th -/
def TalV (D : Dat) (t ca : Nat) (z : Int) (u m : Nat) : Prop := D.1 t 1 = nI u ∧ u ≤ 100 ∧ (∀ i, u ≤ i → i < 12 → lm D ca i = 0) ∧ (∀ i, i < 12 → -(m * 288230376151711744 : Int) ≤ lm D ca i ∧ lm D ca i ≤ m * 288230376151711744) ∧ z = pv 134217728 (lm D ca) 12
theorem TalV.kept {D D' : Dat} {t ca : Nat} {z : Int} {u m : Nat} (h : TalV D t ca z u m) (h1 : D'.1 t = D.1 t) (h2 : D'.2 ca = D.2 ca) : TalV D' t ca z u m := by
  have e : lm D' ca = lm D ca := by unfold lm; rw [h2]
  unfold TalV
  rw [h1, e]
  exact h
theorem fill_sp {G : Shp} {D : Dat} {ca N : Nat} {v : Int64} (h1 : isO G ca 12) (hN : G.2.2.1 ca = N) (hN2 : N < 2 ^ 31) {post : Dat → Prop} (k : ∀ D', Fr D D' [] [ca] → (∀ i, i < N → D'.2 ca i = v) → post D') : J7_fill_d0a16_wp G D ca v post := by
  refine ⟨h1, ?_⟩
  rw [hN]
  have key := up_loop (L := fun m i (E : Dat) => J7_fill_d0a16_l6 G post ca v m (nI i) (Int32.ofNat N) E) N (fun i E => Fr D E [] [ca] ∧ ∀ j, j < i → E.2 ca j = v) ?_ ?_ 0 D (Nat.zero_le N) ⟨Fr.rf, fun j hj => by omega⟩
  · exact ⟨_, key⟩
  · intro m E hE
    show J7_fill_d0a16_l6_b G post ca v _ _ _ _
    exact ⟨fun _ => k E hE.1 hE.2, fun q => absurd (nI_le (Nat.le_refl N) hN2) q⟩
  · intro m i E hi hE hk
    show J7_fill_d0a16_l6_b G post ca v _ _ _ _
    refine ⟨fun q => absurd q (nI_ge hi hN2), fun _ => ⟨by rw [hN]; exact vp_in_nI hi hN2, ?_⟩⟩
    rw [nI_1, nI_clamp (by omega)]
    refine hk _ ⟨hE.1.tr (Fr.dJ (List.mem_singleton.mpr rfl)), fun j hj => ?_⟩
    by_cases q : j = i
    · rw [q, dJ_s]
    · rw [dJ_o _ _ _ q]; exact hE.2 j (by omega)
theorem tclear_sp {G : Shp} {D : Dat} {t ca : Nat} (hG : TG G t ca) {post : Dat → Prop} (k : ∀ D', Fr D D' [t] [ca] → TalV D' t ca 0 0 0 → post D') : X6_clear_wp G D t post := by
  refine ⟨hG.1, ca, hG.2.1, hG.2.2.1, ?_⟩
  refine fill_sp hG.2.2.1 hG.2.2.2 (by decide) (fun D' hf hz => k _ ?_ ?_)
  · exact (hf.up (fun _ h => by cases h) (fun _ h => h)).tr (Fr.dI (List.mem_singleton.mpr rfl))
  · have e : ∀ i, i < 12 → lm (dI D' t 1 0) ca i = 0 := fun i hi => by
      unfold lm; rw [dI_2, hz i hi]; rfl
    exact ⟨dI_s _ _ _ _, by decide, fun i _ hi => e i hi, fun i hi => by rw [e i hi]; decide, (pv_zero e).symm⟩
theorem mxI_nI {a b : Nat} (ha : a < 2 ^ 31) (hb : b < 2 ^ 31) : mxI (nI a) (nI b) = nI (if a < b then b else a) := by
  unfold mxI
  by_cases h : a < b
  · rw [if_pos (nI_lt h hb), if_pos h]
  · rw [if_neg (nI_nlt (by omega) ha), if_neg h]
/-- one limb of a times the limbs of b, added from column i on -/
theorem pv_add_row {B c : Int} {f g b : Nat → Int} {i n N : Nat} (hn : i + n ≤ N) (hin : ∀ j, j < n → g (i + j) = f (i + j) + c * b j) (hout : ∀ j, j < N → (j < i ∨ i + n ≤ j) → g j = f j) : pv B g N = pv B f N + c * B ^ i * pv B b n := by
  obtain ⟨d, rfl⟩ : ∃ d, N = (i + n) + d := ⟨N - (i + n), by omega⟩
  rw [pv_split (f := g) (n := i + n) (m := d), pv_split (f := f) (n := i + n) (m := d), pv_split (f := g) (n := i) (m := n), pv_split (f := f) (n := i) (m := n)]
  have e1 : pv B g i = pv B f i := pv_congr (fun j hj => hout j (by omega) (by omega))
  have e2 : pv B (fun j => g (i + n + j)) d = pv B (fun j => f (i + n + j)) d := pv_congr (fun j hj => hout _ (by omega) (by omega))
  have e3 : pv B (fun j => g (i + j)) n = pv B (fun j => f (i + j)) n + c * pv B b n := by
    rw [← pv_mul, ← pv_add]
    exact pv_congr (fun j hj => hin j hj)
  rw [e1, e2, e3]
  generalize pv B (fun j => f (i + j)) n = x
  generalize pv B (fun j => f (i + n + j)) d = y
  generalize pv B b n = w
  generalize B ^ (i + n) = p
  generalize B ^ i = r
  grind
