/-! Parting: the places are taken out, the elimination -/
def cb (i j : Nat) : Nat := 10 + (i * 7 + j)
theorem cb_ok {i j : Nat} (hi : i ≤ 6) (hj : j ≤ 6) : okb (cb i j) := by unfold okb cb; omega
theorem cb_inj {i j i' j' : Nat} (hj : j ≤ 6) (hj' : j' ≤ 6) (h : cb i j = cb i' j') : i = i' ∧ j = j' := by unfold cb at h; omega
/-- the roles that the elimination writes -/
def pE2 (q : Nat) : Prop := pT q ∨ (220 ≤ q ∧ q < 318)
theorem pB_pE2 {i j q : Nat} (hi : i ≤ 6) (hj : j ≤ 6) (h : pB (cb i j) q) : pE2 q := by unfold pB cb bg at h; unfold pE2; right; omega
/-- the cells: row i at the stage i, or s if that is less -/
def CellV (ad : Nat → Nat) (D : Dat) (A : AR) (u : Option Nat) (s : Nat) : Prop := ∀ i j, i ≤ j → j ≤ nU A → BigR ad D (cb i j) (zz (Bq A u (if i < s then i else s) i j))
section EL
variable {G : Shp} {ad ro : Nat → Nat} {D : Dat} {A : AR} {u : Option Nat}
theorem cell_sp (H : CS G ad ro) {i j : Nat} (hi : i ≤ 6) (hj : j ≤ 6) {post : Option Nat → Dat → Prop} (k : post (some (ad (bg (cb i j)))) D) : X2_cell_wp G D (ad 2) (nI i) (nI j) post := by
  refine ⟨H.p_, _, H.p5_, H.ce_, ?_⟩
  have e : nI i * 7 + nI j = nI (i * 7 + j) := by rw [show (7 : Int32) = nI 7 by decide, pk_mul, nI_add]
  rw [e]
  refine ⟨by rw [H.cel_]; exact vp_in_nI (by omega) (by omega), _, by rw [nI_clamp (by omega)]; exact H.cer_ _ (by omega), (H.big_ _ (cb_ok hi hj)).1, k⟩
theorem B0_step (A : AR) (u : Option Nat) (i j m : Nat) : B0 A u i j (m + 1) = B0 A u i j m - (if 0 < pcS A m 40 then pbS A (plc A) / pcS A m 40 * psS A u m i 40 * psS A u m j 40 else 0) := by
  unfold B0
  show _ - (si _ m + (if 0 < pcS A m 40 then pbS A (plc A) / pcS A m 40 * psS A u m i 40 * psS A u m j 40 else 0)) = _
  omega
theorem term_b (hA : RowOK A) {p : Nat} (h : 0 < pcS A p 40) (i j : Nat) : -31104000000000000 ≤ pbS A (plc A) / pcS A p 40 * psS A u p i 40 * psS A u p j 40 ∧ pbS A (plc A) / pcS A p 40 * psS A u p i 40 * psS A u p j 40 ≤ 31104000000000000 ∧ -77760000000 ≤ pbS A (plc A) / pcS A p 40 * psS A u p i 40 ∧ pbS A (plc A) / pcS A p 40 * psS A u p i 40 ≤ 77760000000 := by
  have hb := pb_b hA (Nat.le_refl (plc A))
  have h1 : 0 ≤ pbS A (plc A) / pcS A p 40 := Int.ediv_nonneg hb.1 (by omega)
  have h2 : pbS A (plc A) / pcS A p 40 ≤ pbS A (plc A) := Int.ediv_le_self _ hb.1
  have hi := psS_b hA u p i (n := 40) (by omega)
  have hj := psS_b hA u p j (n := 40) (by omega)
  have a := mul_abs_le (X := 194400) (Y := 400000) (x := pbS A (plc A) / pcS A p 40) (y := psS A u p i 40) (by omega) (by omega) (by omega) (by omega)
  have b := mul_abs_le (X := 77760000000) (Y := 400000) (x := pbS A (plc A) / pcS A p 40 * psS A u p i 40) (y := psS A u p j 40) (by omega) (by omega) (by omega) (by omega)
  omega
theorem B0_b (hA : RowOK A) (i j : Nat) : ∀ m : Nat, m ≤ 7 → -(777600000000000 + m * 31104000000000000 : Int) ≤ B0 A u i j m ∧ B0 A u i j m ≤ 777600000000000 + m * 31104000000000000
  | 0, _ => by
    have hb := pb_b hA (Nat.le_refl (plc A))
    have hp := prS_b hA u i j (n := 40) (by omega)
    have a := mul_abs_le (X := 194400) (Y := 4000000000) (x := pbS A (plc A)) (y := prS A u i j 40) (by omega) (by omega) (by omega) (by omega)
    have e : B0 A u i j 0 = pbS A (plc A) * prS A u i j 40 := by unfold B0; show _ - 0 = _; omega
    rw [e]; omega
  | m + 1, hm => by
    have ih := B0_b hA i j m (by omega)
    rw [B0_step]
    by_cases h : 0 < pcS A m 40
    · have := term_b (u := u) hA h i j
      rw [if_pos h]
      generalize pbS A (plc A) / pcS A m 40 * psS A u m i 40 * psS A u m j 40 = x at *
      omega
    · rw [if_neg h]; omega
theorem takeOut_sp (H : CS G ad ro) (hA : RowOK A) (hn : PnV ad D A u) (hs : SumV ad D A u 40) {v : Int64} (hv : v.toInt = pbS A (plc A)) {post : Dat → Prop} (k : ∀ D', FrP ro D D' (fun q => 220 ≤ q ∧ q < 318) → (∀ i j, i ≤ j → j ≤ nU A → BigR ad D' (cb i j) (B0 A u i j (plc A))) → post D') : X2_takeOutPlaces_wp G D (ad 2) v post := by
  have h6 := nU_le hA
  have hpl := plc_b hA
  have hb := pb_b hA (Nat.le_refl (plc A))
  have e10 : D.1 (ad 2) 10 = nI (plc A) := hn.1.2.1
  have e11 : D.1 (ad 2) 11 = nI (nU A) := hn.1.1.1
  refine ⟨H.p_, _, H.p2_, H.po_, _, H.p4_, H.pc_, _, H.p3_, H.so_, ?_⟩
  have key := up_loop (L := fun m i (E : Dat) => X2_takeOutPlaces_l2 G post (ad 2) v (ad 10) (ad 12) (ad 11) m (nI i) E) (nU A + 1) (fun i E => FrP ro D E (fun q => 220 ≤ q ∧ q < 318) ∧ ∀ a b, a < i → a ≤ b → b ≤ nU A → BigR ad E (cb a b) (B0 A u a b (plc A))) ?_ ?_ 0 D (by omega) ⟨FrP.rf, fun a b h => by omega⟩
  · exact ⟨_, key⟩
  · intro m E hE
    have g11 : E.1 (ad 2) 11 = nI (nU A) := by rw [hE.1.i H (by omega) (by omega)]; exact e11
    show X2_takeOutPlaces_l2_b G post (ad 2) v (ad 10) (ad 12) (ad 11) _ _ _
    refine ⟨fun _ => k E hE.1 (fun i j h1 h2 => hE.2 i j (by omega) h1 h2), fun q => absurd (by rw [g11]; exact nI_lt (by omega) (by omega)) q⟩
  · intro m i E hi hE hk
    have g11 : E.1 (ad 2) 11 = nI (nU A) := by rw [hE.1.i H (by omega) (by omega)]; exact e11
    show X2_takeOutPlaces_l2_b G post (ad 2) v (ad 10) (ad 12) (ad 11) _ _ _
    refine ⟨fun q => absurd q (by rw [g11]; exact nI_nlt (by omega) (by omega)), fun _ => ?_⟩
    have key := up_loop (L := fun n j (E : Dat) => X2_takeOutPlaces_l13 G post (ad 2) v (ad 10) (ad 12) (ad 11) (X2_takeOutPlaces_l2 G post (ad 2) v (ad 10) (ad 12) (ad 11) m) n (nI i) (nI j) E) (nU A + 1) (fun j E => i ≤ j ∧ FrP ro D E (fun q => 220 ≤ q ∧ q < 318) ∧ ∀ a b, (a < i ∨ (a = i ∧ b < j)) → a ≤ b → b ≤ nU A → BigR ad E (cb a b) (B0 A u a b (plc A))) ?_ ?_ i E (by omega) ⟨Nat.le_refl i, hE.1, fun a b h1 h2 h3 => hE.2 a b (by omega) h2 h3⟩
    · exact ⟨_, key⟩
    · intro n E hE
      obtain ⟨hij, fE, cE⟩ := hE
      have g11 : E.1 (ad 2) 11 = nI (nU A) := by rw [fE.i H (by omega) (by omega)]; exact e11
      show X2_takeOutPlaces_l13_b G post (ad 2) v (ad 10) (ad 12) (ad 11) _ _ _ _ _
      refine ⟨fun _ => ?_, fun q => absurd (by rw [g11]; exact nI_lt (by omega) (by omega)) q⟩
      rw [nI_1]
      exact hk E ⟨fE, fun a b h1 h2 h3 => cE a b (by omega) h2 h3⟩
    · intro n j E hj hE hk2
      obtain ⟨hij, fE, cE⟩ := hE
      have g11 : E.1 (ad 2) 11 = nI (nU A) := by rw [fE.i H (by omega) (by omega)]; exact e11
      have g10 : E.1 (ad 2) 10 = nI (plc A) := by rw [fE.i H (by omega) (by omega)]; exact e10
      show X2_takeOutPlaces_l13_b G post (ad 2) v (ad 10) (ad 12) (ad 11) _ _ _ _ _
      refine ⟨fun q => absurd q (by rw [g11]; exact nI_nlt (by omega) (by omega)), fun _ => ⟨by rw [H.pol_]; exact vp_in_nI (by omega) (by omega), ad (30 + i), by rw [nI_clamp (by omega)]; exact H.por_ _ (by omega), H.pi_ _ (by omega), by rw [H.pil_ _ (by omega)]; exact vp_in_nI (by omega) (by omega), ?_⟩⟩
      rw [nI_clamp (show j < 2 ^ 31 by omega)]
      have x1 : (E.2 (ad (30 + i)) j).toInt = prS A u i j 40 := by rw [fE.l H (by omega) (by omega)]; exact hs.2.2 i j hij (by omega)
      have hpr := prS_b hA u i j (n := 40) (by omega)
      have hbb := B0_b (u := u) hA i j 0 (by omega)
      have eB0 : B0 A u i j 0 = pbS A (plc A) * prS A u i j 40 := by unfold B0; show _ - 0 = _; omega
      have x2 : (v * E.2 (ad (30 + i)) j).toInt = B0 A u i j 0 := by
        rw [eB0] at hbb ⊢
        rw [L_mul (by rw [hv, x1]; omega) (by rw [hv, x1]; omega), hv, x1]
      generalize v * E.2 (ad (30 + i)) j = v5 at x2 ⊢
      have key := up_loop (L := fun f p (w : Int64) => X2_takeOutPlaces_l38 G post (ad 2) v (ad 10) (ad 12) (ad 11) (X2_takeOutPlaces_l2 G post (ad 2) v (ad 10) (ad 12) (ad 11) m) (X2_takeOutPlaces_l13 G post (ad 2) v (ad 10) (ad 12) (ad 11) (X2_takeOutPlaces_l2 G post (ad 2) v (ad 10) (ad 12) (ad 11) m) n) f (nI i) (nI j) w (nI p) E) (plc A) (fun p w => w.toInt = B0 A u i j p) ?_ ?_ 0 v5 (by omega) x2
      · exact ⟨_, key⟩
      · intro f w hw
        show X2_takeOutPlaces_l38_b G post (ad 2) v (ad 10) (ad 12) (ad 11) _ _ _ _ _ _ _ _
        refine ⟨fun _ => ?_, fun q => absurd (by rw [g10]; exact nI_le (Nat.le_refl _) (by omega)) q⟩
        refine cell_sp H (by omega) (by omega) ⟨_, rfl, (H.big_ _ (cb_ok (by omega) (by omega))).1, ?_⟩
        have hbw := B0_b (u := u) hA i j (plc A) (by omega)
        refine setToR H (cb_ok (by omega) (by omega)) (by rw [hw]; omega) (fun D' f' b' => ?_)
        rw [nI_1]
        rw [hw] at b'
        refine hk2 D' ⟨by omega, fE.tr (f'.up (fun q hq => by unfold pB cb bg at hq; omega)), fun a b h1 h2 h3 => ?_⟩
        by_cases e : a = i ∧ b = j
        · rw [e.1, e.2]; exact b'
        · refine (cE a b (by omega) h2 h3).fr H (cb_ok (by omega) (by omega)) f' (fun w => ?_) (fun w => ?_) <;> (unfold pB bg cb at w; omega)
      · intro f p w hp hw hk3
        show X2_takeOutPlaces_l38_b G post (ad 2) v (ad 10) (ad 12) (ad 11) _ _ _ _ _ _ _ _
        have c1 : (E.2 (ad 12) p).toInt = pcS A p 40 := by rw [fE.l H (by omega) (by omega)]; exact hs.1 p hp
        have s1 : (E.2 (ad (40 + p)) i).toInt = psS A u p i 40 := by rw [fE.l H (by omega) (by omega)]; exact hs.2.1 p hp i (by omega)
        have s2 : (E.2 (ad (40 + p)) j).toInt = psS A u p j 40 := by rw [fE.l H (by omega) (by omega)]; exact hs.2.1 p hp j (by omega)
        have hvp : vp_in (nI p) (G.2.2.1 (ad 12)) := by rw [H.pcl_]; exact vp_in_nI (by omega) (by omega)
        have hvs : vp_in (nI p) (G.2.2.1 (ad 11)) := by rw [H.sol_]; exact vp_in_nI (by omega) (by omega)
        refine ⟨fun q => absurd q (by rw [g10]; exact nI_ge hp (by omega)), fun _ => ⟨hvp, ?_⟩⟩
        unfold X2_takeOutPlaces_j94
        rw [nI_clamp (show p < 2 ^ 31 by omega), nI_clamp (show i < 2 ^ 31 by omega), nI_clamp (show j < 2 ^ 31 by omega), nI_1]
        have hbp := B0_b (u := u) hA i j p (by omega)
        refine ⟨fun q => hk3 w ?_, fun q => ?_⟩
        · have q : (E.2 (ad 12) p).toInt ≤ 0 := (L_le _ _).mp q
          rw [B0_step, if_neg (by omega), hw]; omega
        · have q1 : ¬ (E.2 (ad 12) p).toInt ≤ 0 := fun e => q ((L_le _ _).mpr e)
          have hpos : 0 < pcS A p 40 := by omega
          have tb := term_b (u := u) hA hpos i j
          refine ⟨hvp, fun e => ?_, hvs, ad (40 + p), H.sor_ _ (by omega), H.si_ _ (by omega), by rw [H.sil_ _ (by omega)]; exact vp_in_nI (by omega) (by omega), hvs, ad (40 + p), H.sor_ _ (by omega), H.si_ _ (by omega), by rw [H.sil_ _ (by omega)]; exact vp_in_nI (by omega) (by omega), hk3 _ ?_⟩
          · have := congrArg Int64.toInt e
            rw [c1] at this
            have z : (0 : Int64).toInt = 0 := rfl
            omega
          · have y1 : (v / E.2 (ad 12) p).toInt = pbS A (plc A) / pcS A p 40 := by rw [L_div (by rw [hv]; exact hb.1) (by rw [c1]; exact hpos), hv, c1]
            generalize v / E.2 (ad 12) p = z1 at y1 ⊢
            have y2 : (z1 * E.2 (ad (40 + p)) i).toInt = pbS A (plc A) / pcS A p 40 * psS A u p i 40 := by
              rw [L_mul (by rw [y1, s1]; omega) (by rw [y1, s1]; omega), y1, s1]
            generalize z1 * E.2 (ad (40 + p)) i = z2 at y2 ⊢
            have y3 : (z2 * E.2 (ad (40 + p)) j).toInt = pbS A (plc A) / pcS A p 40 * psS A u p i 40 * psS A u p j 40 := by
              rw [L_mul (by rw [y2, s2]; omega) (by rw [y2, s2]; omega), y2, s2]
            generalize z2 * E.2 (ad (40 + p)) j = z3 at y3 ⊢
            have hbp1 := B0_b (u := u) hA i j (p + 1) (by omega)
            rw [B0_step, if_pos hpos] at hbp1 ⊢
            rw [L_sub (by rw [hw, y3]; omega) (by rw [hw, y3]; omega), hw, y3]
end EL
