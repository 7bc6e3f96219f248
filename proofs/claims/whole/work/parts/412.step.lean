/-! the reference: one limb of a long division -/
theorem up_loop3 {σ τ υ : Type} {L : Nat → Nat → σ → τ → υ → Prop} (e : Nat) (I : Nat → σ → τ → υ → Prop) (hx : ∀ n s t u, I e s t u → L (n + 1) e s t u) (hs : ∀ n i s t u, i < e → I i s t u → (∀ s' t' u', I (i + 1) s' t' u' → L n (i + 1) s' t' u') → L (n + 1) i s t u) (i : Nat) (s : σ) (t : τ) (u : υ) (hi : i ≤ e) (h : I i s t u) : L (e - i + 1) i s t u := by
  have := up_loop (L := fun n i (q : σ × τ × υ) => L n i q.1 q.2.1 q.2.2) e (fun i q => I i q.1 q.2.1 q.2.2) (fun n q h => hx n q.1 q.2.1 q.2.2 h) (fun n i q hi h hk => hs n i q.1 q.2.1 q.2.2 hi h (fun s' t' u' h' => hk (s', t', u') h')) i (s, t, u) hi h
  exact this
/-- only the row of what is left has changed, from q to q + m -/
def LfF (ad : Nat → Nat) (D D' : Dat) (q m : Nat) : Prop := D'.2 = D.2 ∧ (∀ x, x ≠ ad 503 → D'.1 x = D.1 x) ∧ ∀ j, (j < q ∨ q + m < j) → D'.1 (ad 503) j = D.1 (ad 503) j
theorem LfF.rf {ad : Nat → Nat} {D : Dat} {q m : Nat} : LfF ad D D q m := ⟨rfl, fun _ _ => rfl, fun _ _ => rfl⟩
theorem LfF.w {ad : Nat → Nat} {D E : Dat} {q m j : Nat} {v : Int32} (h : LfF ad D E q m) (hj : j ≤ m) : LfF ad D (dI E (ad 503) (q + j) v) q m := ⟨h.1, fun x hx => by rw [dI_n _ _ _ hx]; exact h.2.1 x hx, fun i hi => by rw [dI_o _ _ _ (by omega)]; exact h.2.2 i hi⟩
theorem LfF.k {G : Shp} {ad ro : Nat → Nat} (H : RG G ad ro) {D D' : Dat} {q m : Nat} (h : LfF ad D D' q m) : BgK ad ro D D' := by
  have ne1 : ad 501 ≠ ad 503 := H.ne (by omega) (by omega) (by omega)
  have ne0 : ad 500 ≠ ad 503 := H.ne (by omega) (by omega) (by omega)
  refine ⟨⟨fun a ha => ⟨h.2.1 a (fun w => ha (by rw [w, H.inj_ 503 (by omega) (by omega)]; unfold pG; omega)), by rw [h.1]⟩, fun i _ => by rw [h.2.1 _ ne1], fun s _ _ _ => by rw [h.2.1 _ ne0], by rw [h.1]⟩, by rw [h.2.1 _ ne0]⟩
def wf (ad : Nat → Nat) (D : Dat) (q j : Nat) : Int := af ad D 503 (q + j)
section SO
variable {G : Shp} {ad ro : Nat → Nat} {D : Dat} {q m : Nat} {post : Int32 → Dat → Prop}
theorem wf_at {E : Dat} {j : Nat} {v : Int32} : wf ad (dI E (ad 503) (q + j) v) q j = v.toInt := af_at
theorem wf_o {E : Dat} {j i : Nat} {v : Int32} (h : i ≠ j) : wf ad (dI E (ad 503) (q + j) v) q i = wf ad E q i := af_o (by omega)
/-- the divisor is put back once -/
theorem back_sp (H : RG G ad ro) (hq : q + m < 600) {Z : Dat} (f0 : LfF ad Z D q m) (dw : dg30 (wf ad D q) m) (dy : dg30 (af ad Z 504) m) {A1 A2 g l : Int64} {K : Int64 → Int64 → Dat → Prop} (hl : -1152921504606846976 < l.toInt ∧ l.toInt < 1152921504606846976) (k : ∀ D' l', LfF ad Z D' q m → dg30 (wf ad D' q) m → wf ad D' q m = wf ad D q m → pv 1073741824 (wf ad D' q) m + l'.toInt * 1073741824 ^ m = pv 1073741824 (wf ad D q) m + l.toInt * 1073741824 ^ m + pv 1073741824 (af ad Z 504) m → (l'.toInt = l.toInt ∨ l'.toInt = l.toInt + 1) → K g l' D') : ∃ f, X9_stepOff_l176 G post (ad 500) (nI q) (nI m) (ad 503) (ad 504) K f g l 0 0 D := by
  have key := up_loop2 (L := fun f i (c : Int64) (E : Dat) => X9_stepOff_l176 G post (ad 500) (nI q) (nI m) (ad 503) (ad 504) K f g l c (nI i) E) m (fun i c E => LfF ad Z E q m ∧ (c.toInt = 0 ∨ c.toInt = 1) ∧ (∀ j, j < i → 0 ≤ wf ad E q j ∧ wf ad E q j < 1073741824) ∧ (∀ j, i ≤ j → wf ad E q j = wf ad D q j) ∧ pv 1073741824 (wf ad E q) i + c.toInt * 1073741824 ^ i = pv 1073741824 (wf ad D q) i + pv 1073741824 (af ad Z 504) i) ?_ ?_ 0 0 D (by omega) ⟨f0, Or.inl rfl, fun j hj => by omega, fun j _ => rfl, rfl⟩
  · exact ⟨_, key⟩
  · intro f c E hs
    obtain ⟨fE, hc, hd, ho, hp⟩ := hs
    show X9_stepOff_l176_b G post (ad 500) (nI q) (nI m) (ad 503) (ad 504) _ _ _ _ _ _ _
    refine ⟨fun _ => ?_, fun w => absurd (nI_le (Nat.le_refl _) (by omega)) w⟩
    have el : (l + c).toInt = l.toInt + c.toInt := L_add (by omega) (by omega)
    refine k E _ fE hd (ho m (Nat.le_refl m)) ?_ (by rw [el]; omega)
    rw [el, Int.add_mul]
    omega
  · intro f i c E hi hs hk
    obtain ⟨fE, hc, hd, ho, hp⟩ := hs
    show X9_stepOff_l176_b G post (ad 500) (nI q) (nI m) (ad 503) (ad 504) _ _ _ _ _ _ _
    refine ⟨fun w => absurd w (nI_ge hi (by omega)), fun _ => ?_⟩
    rw [nI_add, nI_1, nI_clamp (by omega), nI_clamp (by omega)]
    have bw := dw i hi
    have bY := dy i hi
    have ne4 : ad 504 ≠ ad 503 := H.ne (by omega) (by omega) (by omega)
    have x1 : ((E.1 (ad 503) (q + i)).toInt64).toInt = wf ad D q i := by rw [L_i2l]; exact ho i (Nat.le_refl i)
    have x2 : ((E.1 (ad 504) i).toInt64).toInt = af ad Z 504 i := by rw [L_i2l, fE.2.1 _ ne4]; rfl
    have x3 : ((E.1 (ad 503) (q + i)).toInt64 + (E.1 (ad 504) i).toInt64).toInt = wf ad D q i + af ad Z 504 i := by rw [L_add (by rw [x1, x2]; omega) (by rw [x1, x2]; omega), x1, x2]
    have x4 : (c + ((E.1 (ad 503) (q + i)).toInt64 + (E.1 (ad 504) i).toInt64)).toInt = c.toInt + (wf ad D q i + af ad Z 504 i) := by rw [L_add (by rw [x3]; omega) (by rw [x3]; omega), x3]
    generalize c + ((E.1 (ad 503) (q + i)).toInt64 + (E.1 (ad 504) i).toInt64) = v at *
    have v0 : 0 ≤ v.toInt := by omega
    have ec := u30 v0
    have em : ((v &&& 1073741823).toInt32).toInt = v.toInt % 1073741824 := by rw [L_l2i (by rw [m30]; omega) (by rw [m30]; omega), m30]
    refine ⟨l_in H (by omega), b_in H (by omega), l_in H (by omega), hk _ _ ⟨fE.w (by omega), by rw [ec]; omega, fun j hj => ?_, fun j hj => ?_, ?_⟩⟩
    · by_cases w : j = i
      · rw [w, wf_at, em]; omega
      · rw [wf_o w]; exact hd j (by omega)
    · rw [wf_o (by omega)]; exact ho j (by omega)
    · rw [ec]
      show (pv 1073741824 (wf ad (dI E (ad 503) (q + i) (v &&& 1073741823).toInt32) q) i + wf ad (dI E (ad 503) (q + i) (v &&& 1073741823).toInt32) q i * 1073741824 ^ i) + _ = (pv 1073741824 (wf ad D q) i + wf ad D q i * 1073741824 ^ i) + (pv 1073741824 (af ad Z 504) i + af ad Z 504 i * 1073741824 ^ i)
      rw [wf_at, em, pv_congr (n := i) (g := wf ad E q) (fun j hj => wf_o (by omega)), Int.pow_succ]
      have q3 := Int.mul_ediv_add_emod v.toInt 1073741824
      generalize (1073741824 : Int) ^ i = P at *
      generalize v.toInt / 1073741824 = u at *
      generalize v.toInt % 1073741824 = r at *
      generalize wf ad D q i = u1 at *
      generalize af ad Z 504 i = u2 at *
      have e5 : r = c.toInt + (u1 + u2) - 1073741824 * u := by omega
      rw [e5]
      grind
theorem stepOff_sp (H : RG G ad ro) (hm : 1 ≤ m) (hq : q + m < 600) (dw : dg30 (wf ad D q) (m + 1)) (dy : dg30 (af ad D 504) m) (hy : 1 ≤ af ad D 504 (m - 1)) (hW : pv 1073741824 (wf ad D q) (m + 1) < 1073741824 * pv 1073741824 (af ad D 504) m) (k : ∀ D' (v : Int32), v.toInt = pv 1073741824 (wf ad D q) (m + 1) / pv 1073741824 (af ad D 504) m → LfF ad D D' q m → dg30 (wf ad D' q) m → wf ad D' q m = 0 → pv 1073741824 (wf ad D' q) m = pv 1073741824 (wf ad D q) (m + 1) % pv 1073741824 (af ad D 504) m → post v D') : X9_stepOff_wp G D (ad 500) (nI q) (nI m) post := by
  have ne4 : ad 504 ≠ ad 503 := H.ne (by omega) (by omega) (by omega)
  generalize hWv : pv 1073741824 (wf ad D q) (m + 1) = W at *
  generalize hYv : pv 1073741824 (af ad D 504) m = Y at *
  have hY1 : 1073741824 ^ (m - 1) ≤ Y := by
    rw [← hYv]
    exact pv_pos (by decide) (by omega) dy (by omega)
  have hP : (0 : Int) < 1073741824 ^ (m - 1) := Int.pow_pos (by decide)
  have hYlt : Y < 1073741824 ^ m := by rw [← hYv]; exact pv_lt (by decide) dy
  have hW0 : 0 ≤ W := by rw [← hWv]; exact pv_nn (by decide) (fun i hi => (dw i hi).1)
  have t1 := Int.mul_ediv_add_emod W Y
  have t2 := Int.emod_nonneg W (show Y ≠ 0 by omega)
  have t3 := Int.emod_lt_of_pos W (show 0 < Y by omega)
  have t0 : 0 ≤ W / Y := Int.ediv_nonneg hW0 (by omega)
  generalize ht : W / Y = t at *
  generalize hr : W % Y = r at *
  have tB : t ≤ 1073741823 := by
    by_cases w : t ≤ 1073741823
    · exact w
    · have : Y * 1073741824 ≤ Y * t := Int.mul_le_mul_of_nonneg_left (by omega) (by omega)
      omega
  -- the end
  have fin : ∀ (d : Nat) (g l : Int64) (E : Dat), g.toInt = t + d → (d : Int) ≤ 1073741824 → LfF ad D E q m → dg30 (wf ad E q) m → (-1152921504606846976 < l.toInt ∧ l.toInt < 1152921504606846976) → pv 1073741824 (wf ad E q) m + l.toInt * 1073741824 ^ m = W - g.toInt * Y → X9_stepOff_l157 G post (ad 500) (nI q) (nI m) (ad 503) (ad 504) (d + 1) g l E := by
    intro d
    induction d with
    | zero =>
      intro g l E hg _ fE hd hl hp
      have hg0 : g.toInt = t := by omega
      rw [hg0] at hp
      have hb := pv_nn (B := 1073741824) (by decide) (n := m) (f := wf ad E q) (fun i hi => (hd i hi).1)
      have hb2 := pv_lt (B := 1073741824) (by decide) hd
      have hrr : W - t * Y = r := by rw [← t1, Int.mul_comm]; omega
      have hPm : (0 : Int) < 1073741824 ^ m := Int.pow_pos (by decide)
      have l0 : l.toInt = 0 := by
        rcases Int.lt_trichotomy l.toInt 0 with w | w | w
        · have : l.toInt * 1073741824 ^ m ≤ -1 * 1073741824 ^ m := Int.mul_le_mul_of_nonneg_right (by omega) (by omega)
          omega
        · exact w
        · have : 1 * 1073741824 ^ m ≤ l.toInt * 1073741824 ^ m := Int.mul_le_mul_of_nonneg_right (by omega) (by omega)
          omega
      rw [l0, Int.zero_mul, Int.add_zero, hrr] at hp
      show X9_stepOff_l157_b G post (ad 500) (nI q) (nI m) (ad 503) (ad 504) _ _ _ _
      refine ⟨fun _ => ?_, fun w => absurd ((L_le _ _).mpr (by rw [l0]; decide)) w⟩
      rw [nI_add, nI_clamp (by omega)]
      refine ⟨l_in H (by omega), k _ _ ?_ (fE.w (Nat.le_refl m)) (fun j hj => ?_) ?_ ?_⟩
      · rw [L_l2i (by omega) (by omega), hg0]
      · rw [wf_o (by omega)]; exact hd j hj
      · rw [wf_at, L_l2i (by omega) (by omega), l0]
      · rw [pv_congr (n := m) (g := wf ad E q) (fun j hj => wf_o (by omega)), hp]
    | succ d ih =>
      intro g l E hg hd4 fE hd hl hp
      have hb := pv_nn (B := 1073741824) (by decide) (n := m) (f := wf ad E q) (fun i hi => (hd i hi).1)
      have hneg : W - g.toInt * Y < 0 := by
        have : (t + 1) * Y ≤ g.toInt * Y := Int.mul_le_mul_of_nonneg_right (by omega) (by omega)
        rw [Int.add_mul, Int.mul_comm t Y] at this
        omega
      have hPm : (0 : Int) < 1073741824 ^ m := Int.pow_pos (by decide)
      have lneg : l.toInt < 0 := by
        by_cases w : l.toInt < 0
        · exact w
        · have : 0 ≤ l.toInt * 1073741824 ^ m := Int.mul_nonneg (by omega) (by omega)
          omega
      have e1 : (1 : Int64).toInt = 1 := rfl
      have eg : (g - 1).toInt = g.toInt - 1 := by rw [L_sub (by rw [e1]; omega) (by rw [e1]; omega), e1]
      show X9_stepOff_l157_b G post (ad 500) (nI q) (nI m) (ad 503) (ad 504) _ _ _ _
      refine ⟨fun w => ?_, fun _ => ?_⟩
      · have := (L_le _ _).mp w
        have e0 : (0 : Int64).toInt = 0 := rfl
        omega
      refine back_sp (A1 := 0) (A2 := 0) H hq fE hd dy hl (fun D' l' f' d' _ p' hl' => ih (g - 1) l' D' (by rw [eg]; omega) (by omega) f' d' (by omega) ?_)
      rw [p', eg, hp, hYv, Int.sub_mul]
      omega
  -- taking off
  refine ⟨H.x_, _, H.left_.1, H.left_.2.1, _, H.by_.1, H.by_.2.1, ?_⟩
  rw [nI_add, nI_sub1 (by omega), nI_sub1 (by omega), nI_clamp (by omega), nI_clamp (by omega), nI_clamp (by omega)]
  have wm := dw m (by omega)
  have wm1 := dw (m - 1) (by omega)
  have ym := dy (m - 1) (by omega)
  have x1 : ((D.1 (ad 503) (q + m)).toInt64).toInt = wf ad D q m := by rw [L_i2l]; rfl
  have x2 : ((D.1 (ad 503) (q + m - 1)).toInt64).toInt = wf ad D q (m - 1) := by rw [L_i2l, show q + m - 1 = q + (m - 1) by omega]; rfl
  have x3 : ((D.1 (ad 504) (m - 1)).toInt64).toInt = af ad D 504 (m - 1) := by rw [L_i2l]; rfl
  have hs : ((D.1 (ad 503) (q + m)).toInt64 <<< ((30 : Int32).toInt64 &&& 63)).toInt = wf ad D q m * 1073741824 := by
    rw [L_shl _ _ 30 (by decide +kernel) (by rw [x1]; show _ ≤ _ * (1073741824 : Int); omega) (by rw [x1]; show _ * (1073741824 : Int) < _; omega), x1]
    rfl
  have ho : (((D.1 (ad 503) (q + m)).toInt64 <<< ((30 : Int32).toInt64 &&& 63)) ||| (D.1 (ad 503) (q + m - 1)).toInt64).toInt = wf ad D q m * 1073741824 + wf ad D q (m - 1) := by
    rw [L_or 30 wm.1 hs (by rw [x2]; exact wm1.1) (by rw [x2]; exact wm1.2), hs, x2]
  generalize ((D.1 (ad 503) (q + m)).toInt64 <<< ((30 : Int32).toInt64 &&& 63)) ||| (D.1 (ad 503) (q + m - 1)).toInt64 = hi at *
  have hd0 : (hi / (D.1 (ad 504) (m - 1)).toInt64).toInt = (wf ad D q m * 1073741824 + wf ad D q (m - 1)) / af ad D 504 (m - 1) := by
    rw [L_div (by rw [ho]; omega) (by rw [x3]; omega), ho, x3]
  have emn : (1073741823 : Int64).toInt = 1073741823 := rfl
  -- the guess is not too small
  have hge : t ≤ (wf ad D q m * 1073741824 + wf ad D q (m - 1)) / af ad D 504 (m - 1) := by
    apply Int.le_ediv_of_mul_le (by omega)
    obtain ⟨p, rfl⟩ : ∃ p, m = p + 1 := ⟨m - 1, by omega⟩
    rw [Nat.add_sub_cancel] at *
    have eY : Y = pv 1073741824 (af ad D 504) p + af ad D 504 p * 1073741824 ^ p := by rw [← hYv]; rfl
    have eW : W = pv 1073741824 (wf ad D q) p + wf ad D q p * 1073741824 ^ p + wf ad D q (p + 1) * 1073741824 ^ (p + 1) := by rw [← hWv]; rfl
    have l1 := pv_nn (B := 1073741824) (by decide) (n := p) (f := af ad D 504) (fun i hi => (dy i (by omega)).1)
    have l2 := pv_lt (B := 1073741824) (by decide) (n := p) (f := wf ad D q) (fun i hi => dw i (by omega))
    have tY : t * Y ≤ W := by rw [Int.mul_comm]; omega
    have h1 : t * (af ad D 504 p * 1073741824 ^ p) ≤ t * Y := Int.mul_le_mul_of_nonneg_left (by omega) t0
    rw [Int.pow_succ] at eW
    have h2 : (t * af ad D 504 p) * 1073741824 ^ p < (wf ad D q (p + 1) * 1073741824 + wf ad D q p + 1) * 1073741824 ^ p := by
      have e2 : (wf ad D q (p + 1) * 1073741824 + wf ad D q p + 1) * 1073741824 ^ p = wf ad D q p * 1073741824 ^ p + wf ad D q (p + 1) * (1073741824 ^ p * 1073741824) + 1073741824 ^ p := by grind
      have e3 : (t * af ad D 504 p) * 1073741824 ^ p = t * (af ad D 504 p * 1073741824 ^ p) := Int.mul_assoc ..
      omega
    have h3 := Int.lt_of_mul_lt_mul_right h2 (by omega)
    omega
  have hg : ∃ d : Nat, (mnL (hi / (D.1 (ad 504) (m - 1)).toInt64) 1073741823).toInt = t + d ∧ (d : Int) ≤ 1073741824 ∧ 0 ≤ (mnL (hi / (D.1 (ad 504) (m - 1)).toInt64) 1073741823).toInt ∧ (mnL (hi / (D.1 (ad 504) (m - 1)).toInt64) 1073741823).toInt ≤ 1073741823 := by
    unfold mnL
    by_cases w : (1073741823 : Int64) < hi / (D.1 (ad 504) (m - 1)).toInt64
    · rw [if_pos w, emn]
      exact ⟨(1073741823 - t).toNat, by omega, by omega, by omega, by omega⟩
    · rw [if_neg w, hd0]
      have : ¬ (1073741823 : Int64).toInt < (hi / (D.1 (ad 504) (m - 1)).toInt64).toInt := fun z => w ((L_lt _ _).mpr z)
      rw [hd0, emn] at this
      exact ⟨((wf ad D q m * 1073741824 + wf ad D q (m - 1)) / af ad D 504 (m - 1) - t).toNat, by omega, by omega, by omega, by omega⟩
  obtain ⟨d, hgd, hd4, hg0, hg1⟩ := hg
  generalize mnL (hi / (D.1 (ad 504) (m - 1)).toInt64) 1073741823 = g at *
  refine ⟨l_in H (by omega), l_in H (by omega), b_in H (by omega), fun w => ?_, ?_⟩
  · have := (L_eq _ _).mp w
    rw [x3] at this
    have e0 : (0 : Int64).toInt = 0 := rfl
    omega
  have key := up_loop3 (L := fun f i (c l : Int64) (E : Dat) => X9_stepOff_l53 G post (ad 500) (nI q) (nI m) (ad 503) (ad 504) f g c l (nI i) E) m (fun i c l E => LfF ad D E q m ∧ (0 ≤ c.toInt ∧ c.toInt < 1073741824) ∧ (l.toInt = 0 ∨ l.toInt = 1) ∧ (∀ j, j < i → 0 ≤ wf ad E q j ∧ wf ad E q j < 1073741824) ∧ (∀ j, i ≤ j → wf ad E q j = wf ad D q j) ∧ pv 1073741824 (wf ad E q) i = pv 1073741824 (wf ad D q) i - g.toInt * pv 1073741824 (af ad D 504) i + (c.toInt + l.toInt) * 1073741824 ^ i) ?_ ?_ 0 0 0 D (by omega) ⟨LfF.rf, ⟨Int.le_refl 0, by decide⟩, Or.inl rfl, fun j hj => by omega, fun j _ => rfl, ?_⟩
  · exact ⟨_, key⟩
  · intro f c l E hst
    obtain ⟨fE, hc, hl, hd, ho, hp⟩ := hst
    show X9_stepOff_l53_b G post (ad 500) (nI q) (nI m) (ad 503) (ad 504) _ _ _ _ _ _
    refine ⟨fun _ => ?_, fun w => absurd (nI_le (Nat.le_refl _) (by omega)) w⟩
    rw [nI_add, nI_clamp (by omega)]
    have y1 : ((E.1 (ad 503) (q + m)).toInt64).toInt = wf ad D q m := by rw [L_i2l]; exact ho m (Nat.le_refl m)
    have y2 : ((E.1 (ad 503) (q + m)).toInt64 - c).toInt = wf ad D q m - c.toInt := by rw [L_sub (by rw [y1]; omega) (by rw [y1]; omega), y1]
    have y3 : ((E.1 (ad 503) (q + m)).toInt64 - c - l).toInt = wf ad D q m - c.toInt - l.toInt := by rw [L_sub (by rw [y2]; omega) (by rw [y2]; omega), y2]
    refine ⟨l_in H (by omega), _, fin d g _ E hgd hd4 fE hd (by rw [y3]; omega) ?_⟩
    rw [y3, hp, hYv]
    have eW : W = pv 1073741824 (wf ad D q) m + wf ad D q m * 1073741824 ^ m := by rw [← hWv]; rfl
    rw [eW]
    generalize (1073741824 : Int) ^ m = P
    grind
  · intro f i c l E hi2 hst hk
    obtain ⟨fE, hc, hl, hd, ho, hp⟩ := hst
    show X9_stepOff_l53_b G post (ad 500) (nI q) (nI m) (ad 503) (ad 504) _ _ _ _ _ _
    refine ⟨fun w => absurd w (nI_ge hi2 (by omega)), fun _ => ?_⟩
    unfold X9_stepOff_j116
    rw [nI_add, nI_1, nI_clamp (by omega), nI_clamp (by omega)]
    have bY := dy i hi2
    have bw := dw i (by omega)
    have y1 : ((E.1 (ad 503) (q + i)).toInt64).toInt = wf ad D q i := by rw [L_i2l]; exact ho i (Nat.le_refl i)
    have y2 : ((E.1 (ad 504) i).toInt64).toInt = af ad D 504 i := by rw [L_i2l, fE.2.1 _ ne4]; rfl
    have mb : 0 ≤ g.toInt * af ad D 504 i := Int.mul_nonneg hg0 bY.1
    have mb2 : g.toInt * af ad D 504 i ≤ 1073741823 * 1073741823 := Int.mul_le_mul hg1 (by omega) bY.1 (by decide)
    have y3 : (g * (E.1 (ad 504) i).toInt64).toInt = g.toInt * af ad D 504 i := by rw [L_mul (by rw [y2]; omega) (by rw [y2]; omega), y2]
    have y4 : (c + g * (E.1 (ad 504) i).toInt64).toInt = c.toInt + g.toInt * af ad D 504 i := by rw [L_add (by rw [y3]; omega) (by rw [y3]; omega), y3]
    generalize c + g * (E.1 (ad 504) i).toInt64 = cv at *
    have cv0 : 0 ≤ cv.toInt := by omega
    have ec := u30 cv0
    have em := m30 cv
    have y5 : ((E.1 (ad 503) (q + i)).toInt64 - (cv &&& 1073741823)).toInt = wf ad D q i - cv.toInt % 1073741824 := by rw [L_sub (by rw [y1, em]; omega) (by rw [y1, em]; omega), y1, em]
    have y6 : ((E.1 (ad 503) (q + i)).toInt64 - (cv &&& 1073741823) - l).toInt = wf ad D q i - cv.toInt % 1073741824 - l.toInt := by rw [L_sub (by rw [y5]; omega) (by rw [y5]; omega), y5]
    generalize (E.1 (ad 503) (q + i)).toInt64 - (cv &&& 1073741823) - l = v at *
    have ev : ((v &&& 1073741823).toInt32).toInt = v.toInt % 1073741824 := by rw [L_l2i (by rw [m30]; omega) (by rw [m30]; omega), m30]
    have e0 : (0 : Int64).toInt = 0 := rfl
    have step : ∀ l' : Int64, ((l'.toInt = 0 ∧ 0 ≤ v.toInt) ∨ (l'.toInt = 1 ∧ v.toInt < 0)) → X9_stepOff_l53 G post (ad 500) (nI q) (nI m) (ad 503) (ad 504) f g (((cv.toUInt64 >>> ((30 : Int32).toInt64.toUInt64 &&& Int64.toUInt64 63)).toInt64)) l' (nI (i + 1)) (dI E (ad 503) (q + i) ((v &&& 1073741823).toInt32)) := by
      intro l' hl'
      refine hk _ _ _ ⟨fE.w (by omega), by rw [ec]; omega, by omega, fun j hj => ?_, fun j hj => ?_, ?_⟩
      · by_cases w : j = i
        · rw [w, wf_at, ev]; omega
        · rw [wf_o w]; exact hd j (by omega)
      · rw [wf_o (by omega)]; exact ho j (by omega)
      · show pv 1073741824 (wf ad (dI E (ad 503) (q + i) (v &&& 1073741823).toInt32) q) i + wf ad (dI E (ad 503) (q + i) (v &&& 1073741823).toInt32) q i * 1073741824 ^ i = (pv 1073741824 (wf ad D q) i + wf ad D q i * 1073741824 ^ i) - g.toInt * (pv 1073741824 (af ad D 504) i + af ad D 504 i * 1073741824 ^ i) + _
        rw [wf_at, ev, ec, pv_congr (n := i) (g := wf ad E q) (fun j hj => wf_o (by omega)), hp, Int.pow_succ]
        have q3 := Int.mul_ediv_add_emod cv.toInt 1073741824
        have e7 : v.toInt % 1073741824 = v.toInt + l'.toInt * 1073741824 := by omega
        rw [e7, y6]
        generalize (1073741824 : Int) ^ i = P at *
        generalize cv.toInt / 1073741824 = u at *
        generalize cv.toInt % 1073741824 = r2 at *
        generalize wf ad D q i = u1 at *
        generalize af ad D 504 i = u2 at *
        have e5 : r2 = c.toInt + g.toInt * u2 - 1073741824 * u := by omega
        rw [e5]
        grind
    refine ⟨b_in H (by omega), l_in H (by omega), fun w => ⟨l_in H (by omega), step 0 (Or.inl ⟨rfl, ?_⟩)⟩, fun w => ⟨l_in H (by omega), step 1 (Or.inr ⟨rfl, ?_⟩)⟩⟩
    · have := (L_le _ _).mp w
      omega
    · have : ¬ (0 : Int64).toInt ≤ v.toInt := fun z => w ((L_le _ _).mpr z)
      omega
  · show (0 : Int) = 0 - g.toInt * 0 + (0 + 0) * 1
    omega
end SO
