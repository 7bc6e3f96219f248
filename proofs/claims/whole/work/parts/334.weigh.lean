theorem sg_isB0 : sg 0 = 1 := sg_0
section WG
variable {G : Shp} {ad ro : Nat → Nat} {D : Dat} {A : AR} {u : Option Nat}
/-- the stage of a cell in the midst of a turn -/
def sta (s i j a b : Nat) : Nat := if a ≤ s then a else if a < i ∨ (a = i ∧ b < j) then s + 1 else s
theorem big_sum {x y v w : Int} (hx : -72057594037927936000000000 ≤ x ∧ x ≤ 72057594037927936000000000) (hy : -72057594037927936000000000 ≤ y ∧ y ≤ 72057594037927936000000000) (hv : -72057594037927936000000000 ≤ v ∧ v ≤ 72057594037927936000000000) (hw : -72057594037927936000000000 ≤ w ∧ w ≤ 72057594037927936000000000) : -(134217728 ^ 12 : Int) < x * y - v * w ∧ x * y - v * w < 134217728 ^ 12 := by
  have a := mul_abs_le hx.1 hx.2 hy.1 hy.2
  have b := mul_abs_le hv.1 hv.2 hw.1 hw.2
  have e : (2 * (72057594037927936000000000 * 72057594037927936000000000) : Int) < 134217728 ^ 12 := by decide +kernel
  generalize (72057594037927936000000000 * 72057594037927936000000000 : Int) = M at *
  generalize (134217728 ^ 12 : Int) = N at *
  omega
theorem eliminate_sp (H : CS G ad ro) (hA : RowOK A) (e11 : D.1 (ad 2) 11 = nI (nU A)) {s : Nat} (hs : s < nU A) (hp : Pv A u (s + 1)) (hc : CellV ad D A u s) {v : Int64} (hv : v.toInt = zz (Dq A u s)) {post : Dat → Prop} (k : ∀ D', FrP ro D D' pE2 → CellV ad D' A u (s + 1) → post D') : X2_eliminate_wp G D (ad 2) (nI s) v post := by
  have h6 := nU_le hA
  have hp' : Pv A u s := fun l hl => hp l (by omega)
  have hpE : ∀ q, q = 2 → ¬ pE2 q := fun q hq w => by unfold pE2 pT at w; omega
  have v1 : 1 ≤ v.toInt := by rw [hv]; have := zD_pos hp'; omega
  have v2 : v.toInt < 18014398509481984 := by rw [hv]; exact zD_lt hA (by omega) hp'
  refine ⟨H.p_, _, H.p0_, H.tal_.1, ?_⟩
  rw [nI_1]
  have key := up_loop (L := fun m i (E : Dat) => X2_eliminate_l5 G post (ad 2) (nI s) v (ad 6) m (nI i) E) (nU A + 1) (fun i E => s < i ∧ FrP ro D E pE2 ∧ ∀ a b, a ≤ b → b ≤ nU A → BigR ad E (cb a b) (zz (Bq A u (sta s i 0 a b) a b))) ?_ ?_ (s + 1) D (by omega) ⟨by omega, FrP.rf, fun a b h1 h2 => ?_⟩
  · exact ⟨_, key⟩
  · intro m E hE
    obtain ⟨-, fE, cE⟩ := hE
    have g11 : E.1 (ad 2) 11 = nI (nU A) := by rw [fE.i H (by omega) (hpE 2 rfl)]; exact e11
    show X2_eliminate_l5_b G post (ad 2) (nI s) v (ad 6) _ _ _
    refine ⟨fun _ => k E fE (fun a b h1 h2 => ?_), fun q => absurd (by rw [g11]; exact nI_lt (by omega) (by omega)) q⟩
    have := cE a b h1 h2
    have e : sta s (nU A + 1) 0 a b = if a < s + 1 then a else s + 1 := by unfold sta; split <;> split <;> (try split) <;> omega
    rw [e] at this
    exact this
  · intro m i E hi hE hk
    obtain ⟨hsi, fE, cE⟩ := hE
    have g11 : E.1 (ad 2) 11 = nI (nU A) := by rw [fE.i H (by omega) (hpE 2 rfl)]; exact e11
    show X2_eliminate_l5_b G post (ad 2) (nI s) v (ad 6) _ _ _
    refine ⟨fun q => absurd q (by rw [g11]; exact nI_nlt (by omega) (by omega)), fun _ => ?_⟩
    have key := up_loop (L := fun n j (E : Dat) => X2_eliminate_l18 G post (ad 2) (nI s) v (ad 6) (X2_eliminate_l5 G post (ad 2) (nI s) v (ad 6) m) n (nI i) (nI j) E) (nU A + 1) (fun j E => i ≤ j ∧ FrP ro D E pE2 ∧ ∀ a b, a ≤ b → b ≤ nU A → BigR ad E (cb a b) (zz (Bq A u (sta s i j a b) a b))) ?_ ?_ i E (by omega) ⟨Nat.le_refl i, fE, fun a b h1 h2 => ?_⟩
    · exact ⟨_, key⟩
    · intro n E hE
      obtain ⟨-, fE, cE⟩ := hE
      have g11 : E.1 (ad 2) 11 = nI (nU A) := by rw [fE.i H (by omega) (hpE 2 rfl)]; exact e11
      show X2_eliminate_l18_b G post (ad 2) (nI s) v (ad 6) _ _ _ _ _
      refine ⟨fun _ => ?_, fun q => absurd (by rw [g11]; exact nI_lt (by omega) (by omega)) q⟩
      rw [nI_1]
      refine hk E ⟨by omega, fE, fun a b h1 h2 => ?_⟩
      have := cE a b h1 h2
      have e : sta s i (nU A + 1) a b = sta s (i + 1) 0 a b := by unfold sta; split <;> (try split) <;> (try split) <;> omega
      rw [e] at this
      exact this
    · intro n j E hj hE hk2
      obtain ⟨hij, fE, cE⟩ := hE
      have g11 : E.1 (ad 2) 11 = nI (nU A) := by rw [fE.i H (by omega) (hpE 2 rfl)]; exact e11
      have o1 := cb_ok (i := i) (j := j) (by omega) (by omega)
      have o2 := cb_ok (i := s) (j := s) (by omega) (by omega)
      have o3 := cb_ok (i := s) (j := i) (by omega) (by omega)
      have o4 := cb_ok (i := s) (j := j) (by omega) (by omega)
      have noT : ∀ a b, ¬ pT (bg (cb a b)) ∧ ¬ pT (bg (cb a b) + 1) := fun a b => by unfold pT bg cb; omega
      show X2_eliminate_l18_b G post (ad 2) (nI s) v (ad 6) _ _ _ _ _
      refine ⟨fun q => absurd q (by rw [g11]; exact nI_nlt (by omega) (by omega)), fun _ => ?_⟩
      have x1 := cE i j hij (by omega)
      have x2 := cE s s (Nat.le_refl s) (by omega)
      have x3 := cE s i (by omega) (by omega)
      have x4 := cE s j (by omega) (by omega)
      rw [show sta s i j i j = s by unfold sta; split <;> (try split) <;> omega] at x1
      rw [show sta s i j s s = s by unfold sta; split <;> omega] at x2
      rw [show sta s i j s i = s by unfold sta; split <;> omega] at x3
      rw [show sta s i j s j = s by unfold sta; split <;> omega] at x4
      have z1 := Bz_az hA (u := u) (by omega) hp' i j
      have z2 := Bz_az hA (u := u) (by omega) hp' s s
      have z3 := Bz_az hA (u := u) (by omega) hp' s i
      have z4 := Bz_az hA (u := u) (by omega) hp' s j
      refine cell_sp H (by omega) (by omega) ⟨_, rfl, tclearR H (fun D1 f1 t1 => cell_sp H (by omega) (by omega) ⟨_, rfl, ?_⟩)⟩
      refine addProductR H o2 o1 t1 (by omega) (x2.fr H o2 f1 (noT _ _).1 (noT _ _).2) (x1.fr H o1 f1 (noT _ _).1 (noT _ _).2) z2 z1 (by omega) isB_0 (fun D2 f2 t2 => cell_sp H (by omega) (by omega) ⟨_, rfl, cell_sp H (by omega) (by omega) ⟨_, rfl, ?_⟩⟩)
      have f12 := f1.tr f2
      refine addProductR H o3 o4 t2 (by omega) (x3.fr H o3 f12 (noT _ _).1 (noT _ _).2) (x4.fr H o4 f12 (noT _ _).1 (noT _ _).2) z3 z4 (by omega) isB_1 (fun D3 f3 t3 => ?_)
      have hval : 0 + sg 0 * (zz (Bq A u s s s) * zz (Bq A u s i j)) + sg 1 * (zz (Bq A u s s i) * zz (Bq A u s s j)) = zz (Bq A u s s s) * zz (Bq A u s i j) - zz (Bq A u s s i) * zz (Bq A u s s j) := by rw [sg_0, sg_1]; omega
      rw [hval] at t3
      have hb := big_sum (Bz_b hA (u := u) (by omega) hp' s s) (Bz_b hA (u := u) (by omega) hp' i j) (Bz_b hA (u := u) (by omega) hp' s i) (Bz_b hA (u := u) (by omega) hp' s j)
      refine settleR H o1 t3 (by omega) hb.1 hb.2 (fun D4 f4 b4 => ⟨(H.big_ _ o1).1, ?_⟩)
      refine divideR H o1 b4 v1 v2 (fun D5 q5 f5 b5 _ => ?_)
      rw [bareiss hp i j, hv, Int.mul_tdiv_cancel_left _ (by have := zD_pos hp'; omega)] at b5
      rw [nI_1]
      have fT : FrP ro E D3 pT := f12.tr f3
      have fB : FrP ro D3 D5 (pB (cb i j)) := f4.tr f5
      refine hk2 D5 ⟨by omega, fE.tr ((fT.up (fun q hq => Or.inl hq)).tr (fB.up (fun q hq => pB_pE2 (by omega) (by omega) hq))), fun a b h1 h2 => ?_⟩
      by_cases e : a = i ∧ b = j
      · rw [e.1, e.2]
        rw [show sta s i (j + 1) i j = s + 1 by unfold sta; split <;> (try split) <;> omega]
        exact b5
      · have oa := cb_ok (i := a) (j := b) (by omega) (by omega)
        have hne : cb a b ≠ cb i j := fun q => e (cb_inj (by omega) (by omega) q)
        have := ((cE a b h1 h2).fr H oa fT (noT _ _).1 (noT _ _).2).fr H oa fB (fun w => by unfold pB bg at w; omega) (fun w => by unfold pB bg at w; omega)
        rw [show sta s i j a b = sta s i (j + 1) a b by unfold sta; split <;> (try split) <;> (try split) <;> omega] at this
        exact this
    · have := cE a b h1 h2
      rw [show sta s i 0 a b = sta s i i a b by unfold sta; split <;> (try split) <;> (try split) <;> omega] at this
      exact this
  · have := hc a b h1 h2
    rw [show (if a < s then a else s) = sta s (s + 1) 0 a b by unfold sta; split <;> split <;> (try split) <;> omega] at this
    exact this
end WG
