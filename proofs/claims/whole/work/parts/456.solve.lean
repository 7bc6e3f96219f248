/-! the reference: solve -/
def SoF (ad ro : Nat → Nat) (D D' : Dat) : Prop := WkF ad ro D D' ∧ ∀ i, 1200 ≤ i → D'.1 (ad 526) i = D.1 (ad 526) i
theorem SoF.rf {ad ro : Nat → Nat} {D : Dat} : SoF ad ro D D := ⟨WkF.rf, fun _ _ => rfl⟩
theorem SoF.tr {ad ro : Nat → Nat} {D D1 D2 : Dat} (h : SoF ad ro D D1) (h2 : SoF ad ro D1 D2) : SoF ad ro D D2 := ⟨h.1.tr h2.1, fun i hi => (h2.2 i hi).trans (h.2 i hi)⟩
section SO9
variable {G : Shp} {ad ro : Nat → Nat} {D D' : Dat} {r T t : Nat} {A : AR} {u : Option Nat} {post : Int32 → Dat → Prop}
theorem GaF.so (H : RG G ad ro) (h : GaF ad ro D D') : SoF ad ro D D' := ⟨h.wk, fun i _ => by rw [h.1.mi H (by omega) (by omega)]⟩
theorem CrF.so (h : CrF ad ro D D') : SoF ad ro D D' := ⟨⟨h.1.up (fun q hq => by unfold pG at hq; unfold pW; omega), h.2.1 0 (by decide) (by decide) (by decide), h.2.1 9 (by decide) (by decide) (by decide)⟩, h.2.2.2⟩
theorem WnF.so (H : RG G ad ro) (h : WnF ad ro D D' T) : SoF ad ro D D' := ⟨h.wk, fun i _ => by rw [h.1.mi H (by omega) (by unfold pG; omega)]⟩
theorem BgF.so (H : RG G ad ro) (h : BgF ad ro D D' T) : SoF ad ro D D' := h.wn.so H
theorem rg_ar {i j : Nat} (hi : i < NN A) (hj : j < NN A) : rgS A i j 40 = arS A u i j := si_congr (fun t _ => by unfold crI; rw [if_pos hi, if_pos hj])
theorem rr_ar {i : Nat} (hi : i < NN A) : rrS A i 40 = arS A none i (NN A) := si_congr (fun t _ => by
  unfold crI
  rw [if_pos hi, if_neg (Nat.lt_irrefl (NN A))]
  show (if aK A t = true then aN A t * lc (rcl A) i t else 0) = (if aK A t = true then lc (rcl A) i t * aN A t else 0)
  rw [Int.mul_comm])
theorem ro_ar : roS A 40 = arS A none (NN A) (NN A) := si_congr (fun t _ => by
  unfold crI
  rw [if_neg (Nat.lt_irrefl (NN A))]
  rfl)
/-- a closed parting, as the reference holds it -/
def SlV (ad : Nat → Nat) (D : Dat) (A : AR) (u : Option Nat) : Prop := Pv A u (nU A) ∧ KzV ad D A u ∧ D.1 (ad 500) 21 = nI (NN A)
theorem solve_sp (H : RG G ad ro) (hr : r < 4) (h : RrV ad D r A) (hA : RowOK A) (k1 : ∀ D', SoF ad ro D D' → TopV ad D' 0 → SlV ad D' A none → (D'.2 (ad 500) 25).toInt = arS A none (NN A) (NN A) → (∀ i, i < NN A → (D'.2 (ad 523) i).toInt = arS A none i (NN A)) → post 1 D') (k0 : ∀ D', SoF ad ro D D' → ¬ Pv A none (nU A) → post 0 D') : X9_solve_wp G D (ad 500) (nI r) post := by
  refine ⟨H.x_, gather_sp H hr h hA (fun D1 f1 e1 g1 => ?_)⟩
  refine clear9_sp (w := wq A) (C := Cr A none) H (NN_le hA) (wq_W A) (Ar_Z A none) (Ar_bd hA none) e1 (fun i j hi hj => ?_) (fun i hi => ?_) (fun hp D2 f2 t2 p1 p2 => ⟨isB_1, ?_⟩) (fun hp D2 f2 => ⟨isB_0, k0 D2 ((f1.so H).tr f2.so) (fun q => hp ((piv_r hA).mpr q))⟩)
  · rw [g1.1 i j hi hj, Am_r, rg_ar hi hj]
  · rw [g1.2.1 i hi, Am_r, rr_ar hi]
  · refine k1 D2 ((f1.so H).tr f2.so) t2 ⟨(piv_r hA).mp hp, ⟨p1, p2⟩, ?_⟩ ?_ (fun i hi => ?_)
    · rw [f2.2.1 21 (by decide) (by decide) (by decide)]; exact e1
    · rw [f2.2.2.1, g1.2.2, ro_ar]
    · rw [f2.1.ml H (by omega) (by unfold pG; omega), g1.2.1 i hi, rr_ar hi]
variable {S : AS} {Z : Dat}
/-- a top over the bottom is told -/
theorem tell9 (H : RG G ad ro) (hR : RfV ad ro Z D S) (hA : RowOK A) (hs : SlV ad D A u) (hT : T ≤ 600000) (hTop : TopV ad D T) {a n : Nat} {z : Int} (hn : n ≤ 20) (ha : Nm ad D T a z n) {q : Rat} (hz : ((z : Int) : Rat) = (dr A u : Int) * q) (hq : smQ q) (k : ∀ D', RfV ad ro Z D' (sTell S q).2 → post (sTell S q).1 D') {W : Int32 → Dat → Prop} (hW : ∀ r1 D1, X9_tells_wp G D1 (ad 500) (nI a) r1 post → W r1 D1) : X9_held_wp G D (ad 500) 19 W := by
  obtain ⟨m, hm, hkp⟩ := hs.2.1.2
  have hd := dr_pos hA hs.1
  rw [show (19 : Int32) = nI 19 by decide]
  refine held_sp H hTop (by omega) hkp (by omega) (fun D1 f1 t1 w1 => ?_)
  have hmx : mxN n m ≤ 20 := by unfold mxN; split <;> omega
  refine hW _ _ ?_
  refine tells_sp H (hR.wk H f1.wk) t1 (ha.fr f1 (by omega)) w1 (by omega) (by omega) hd (q := q) ?_ hq k
  have hne := cast_pos hd
  rw [hz]
  generalize ((dr A u : Int) : Rat) = d at *
  grind
/-- one of the kept numbers is told -/
theorem tellK (H : RG G ad ro) (hR : RfV ad ro Z D S) (hA : RowOK A) (hs : SlV ad D A u) (hTop : TopV ad D T) (hT : T ≤ 599000) {i : Nat} (hi : i < NN A) {q : Rat} (hz : Xr A u i = q) (hq : smQ q) (k : ∀ D', RfV ad ro Z D' (sTell S q).2 → post (sTell S q).1 D') {W : Int32 → Int32 → Dat → Prop} (hW : ∀ r1 r2 D2, X9_tells_wp G D2 (ad 500) r1 r2 post → W r1 r2 D2) : X9_held_wp G D (ad 500) (nI i) (fun r1 D1 => X9_held_wp G D1 (ad 500) 19 (fun r2 D2 => W r1 r2 D2)) := by
  obtain ⟨m, hm, hkp⟩ := hs.2.1.1 i hi
  have hN := NN_le hA
  refine held_sp H hTop (by omega) hkp (by omega) (fun D1 f1 t1 w1 => ?_)
  have hs1 : SlV ad D1 A u := ⟨hs.1, hs.2.1.wn H f1.wn, by rw [f1.2.2.1 21 (by decide) (by decide) (by decide)]; exact hs.2.2⟩
  refine tell9 H (hR.wk H f1.wk) hA hs1 (by omega) t1 (by omega) w1 ?_ hq k (fun r2 D2 h => hW _ r2 D2 h)
  rw [zr_R hA hs.1 hi, hz]
end SO9
