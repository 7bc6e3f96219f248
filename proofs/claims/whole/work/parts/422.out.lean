/-! the reference: OUT -/
/-- what the work changes: fields but status and outs, the work's rows -/
def pW (q : Nat) : Prop := q = 500 ∨ q = 501 ∨ (503 ≤ q ∧ q ≤ 505) ∨ q = 519 ∨ q = 520 ∨ (522 ≤ q ∧ q ≤ 529)
def WkF (ad ro : Nat → Nat) (D D' : Dat) : Prop := FrP ro D D' pW ∧ D'.1 (ad 500) 0 = D.1 (ad 500) 0 ∧ D'.1 (ad 500) 9 = D.1 (ad 500) 9
theorem WkF.rf {ad ro : Nat → Nat} {D : Dat} : WkF ad ro D D := ⟨FrP.rf, rfl, rfl⟩
theorem WkF.tr {ad ro : Nat → Nat} {D D1 D2 : Dat} (h : WkF ad ro D D1) (h2 : WkF ad ro D1 D2) : WkF ad ro D D2 := ⟨h.1.tr h2.1, h2.2.1.trans h.2.1, h2.2.2.trans h.2.2⟩
theorem BgF.wk {ad ro : Nat → Nat} {D D' : Dat} {T : Nat} (h : BgF ad ro D D' T) : WkF ad ro D D' := ⟨h.1.up (fun q hq => by unfold pG at hq; unfold pW; omega), h.2.2.1 0 (by decide) (by decide) (by decide), h.2.2.1 9 (by decide) (by decide) (by decide)⟩
def OupV (ad : Nat → Nat) (D : Dat) (L : List Nat) : Prop := D.1 (ad 500) 9 = nI L.length ∧ L.length ≤ 1000 ∧ ∀ k, k < L.length → D.1 (ad 508) k = nI (L.getD k 0)
theorem gd_l {L P : List Nat} {j : Nat} (h : j < L.length) : (L ++ P).getD j 0 = L.getD j 0 := by rw [List.getD_eq_getElem?_getD, List.getD_eq_getElem?_getD, List.getElem?_append_left h]
theorem gd_r {L P : List Nat} {l : Nat} : (L ++ P).getD (L.length + l) 0 = P.getD l 0 := by rw [List.getD_eq_getElem?_getD, List.getD_eq_getElem?_getD, List.getElem?_append_right (by omega), Nat.add_sub_cancel_left]
section OU
variable {G : Shp} {ad ro : Nat → Nat} {D : Dat} {T a n : Nat} {z : Int} {L : List Nat}
theorem OupV.wk (H : RG G ad ro) {D' : Dat} (h : OupV ad D L) (f : WkF ad ro D D') : OupV ad D' L := by
  have e : D'.1 (ad 508) = D.1 (ad 508) := f.1.mi H (by omega) (by unfold pW; omega)
  exact ⟨by rw [f.2.2]; exact h.1, h.2.1, fun k hk => by rw [e]; exact h.2.2 k hk⟩
theorem o_in (H : RG G ad ro) {i : Nat} (hi : i < 1500) : vp_in (nI i) (G.2.2.1 (ad 508)) := by rw [H.out_.2.2]; exact vp_in_nI hi (by omega)
/-- what telling changes besides the work: the output, outs -/
def ToF (ad ro : Nat → Nat) (D D' : Dat) : Prop := FrP ro D D' (fun q => pG q ∨ q = 508) ∧ (∀ i, D'.1 (ad 501) i = D.1 (ad 501) i) ∧ (∀ s, s ≠ 2 → s ≠ 6 → s ≠ 7 → s ≠ 9 → D'.1 (ad 500) s = D.1 (ad 500) s) ∧ D'.1 (ad 500) 2 = D.1 (ad 500) 2
theorem ToF.rf : ToF ad ro D D := ⟨FrP.rf, fun _ => rfl, fun _ _ _ _ _ => rfl, rfl⟩
theorem ToF.tr {D1 D2 : Dat} (h : ToF ad ro D D1) (h2 : ToF ad ro D1 D2) : ToF ad ro D D2 := ⟨h.1.tr h2.1, fun i => (h2.2.1 i).trans (h.2.1 i), fun s a b c d => (h2.2.2.1 s a b c d).trans (h.2.2.1 s a b c d), h2.2.2.2.trans h.2.2.2⟩
theorem BgK.to {D D' : Dat} (f : BgK ad ro D D') (h5 : D'.1 (ad 501) = D.1 (ad 501)) : ToF ad ro D D' := ⟨f.1.1.up (fun q hq => Or.inl hq), fun i => by rw [h5], fun s a b c _ => f.1.2.2.1 s a b c, f.2⟩
theorem ToF.nm {D' : Dat} (f : ToF ad ro D D') (h : Nm ad D T a z n) : Nm ad D' T a z n := h.cells (fun i _ => f.2.1 _) h.1
theorem toF_9 (H : RG G ad ro) {v : Int32} : ToF ad ro D (dI D (ad 500) 9 v) := ⟨FrP.dI (by rw [H.inj_ 500 (by omega) (by omega)]; exact Or.inl (Or.inl rfl)), fun i => by rw [dI_n _ _ _ (H.ne (by omega) (by omega) (by omega))], fun s _ _ _ h => dI_o _ _ _ h, dI_o _ _ _ (by decide)⟩
theorem toF_8 (H : RG G ad ro) {i : Nat} {v : Int32} : ToF ad ro D (dI D (ad 508) i v) := ⟨FrP.dI (by rw [H.inj_ 508 (by omega) (by omega)]; exact Or.inr rfl), fun i => by rw [dI_n _ _ _ (H.ne (by omega) (by omega) (by omega))], fun s _ _ _ _ => by rw [dI_n _ _ _ (H.ne (by omega) (by omega) (by omega))], by rw [dI_n _ _ _ (H.ne (by omega) (by omega) (by omega))]⟩
theorem tells0_sp (H : RG G ad ro) (h : OupV ad D L) (hL : L.length < 1000) {c : Nat} {v : Int32} (hv : v = nI c) {post : Dat → Prop} (k : ∀ D', ToF ad ro D D' → D'.1 (ad 503) = D.1 (ad 503) → D'.1 (ad 500) 6 = D.1 (ad 500) 6 → OupV ad D' (L ++ [c]) → post D') : X9_tells0_wp G D (ad 500) v post := by
  have n08 : ad 500 ≠ ad 508 := H.ne (by omega) (by omega) (by omega)
  have n38 : ad 503 ≠ ad 508 := H.ne (by omega) (by omega) (by omega)
  have n30 : ad 503 ≠ ad 500 := H.ne (by omega) (by omega) (by omega)
  refine ⟨H.x_, _, H.out_.1, H.out_.2.1, ?_⟩
  rw [h.1, nI_clamp (by omega), dI_n _ _ _ n08, h.1, nI_1]
  refine ⟨o_in H (by omega), k _ ((toF_8 H).tr (toF_9 H)) (by rw [dI_n _ _ _ n30, dI_n _ _ _ n38]) (by rw [dI_o _ _ _ (by decide), dI_n _ _ _ n08]) ⟨?_, by rw [List.length_append]; show _ + 1 ≤ _; omega, fun j hj => ?_⟩⟩
  · rw [dI_s, List.length_append]; rfl
  · rw [List.length_append] at hj
    have hj2 : j < L.length + 1 := hj
    rw [dI_n _ _ _ (fun q => n08 q.symm)]
    by_cases w : j = L.length
    · rw [w, dI_s, hv]
      have := gd_r (L := L) (P := [c]) (l := 0)
      rw [Nat.add_zero] at this
      rw [this]; rfl
    · rw [dI_o _ _ _ w, h.2.2 j (by omega), gd_l (by omega)]
/-- turned round from a place on -/
theorem rev_sp (H : RG G ad ro) {P : List Nat} (h : OupV ad D (L ++ P)) {A1 : Int32} {post : Dat → Prop} (k : ∀ D', ToF ad ro D D' → OupV ad D' (L ++ P.reverse) → post D') : ∃ f, X9_tellsNumber_l195 G post (ad 500) A1 (ad 503) (ad 501) (ad 508) f (nI L.length) (nI (L ++ P).length - 1) D := by
  have n08 : ad 500 ≠ ad 508 := H.ne (by omega) (by omega) (by omega)
  obtain ⟨h9, hl, hv⟩ := h
  rw [List.length_append] at *
  generalize hp : P.length = p at *
  generalize ho : L.length = o at *
  have key : ∀ (d i : Nat) (E : Dat), 2 * i ≤ p + 1 → p - i - i < d → ToF ad ro D E → E.1 (ad 500) 9 = nI (o + p) → (∀ j, j < o → E.1 (ad 508) j = D.1 (ad 508) j) → (∀ j, j < p → E.1 (ad 508) (o + j) = if j < i ∨ p ≤ j + i then D.1 (ad 508) (o + (p - 1 - j)) else D.1 (ad 508) (o + j)) → X9_tellsNumber_l195 G post (ad 500) A1 (ad 503) (ad 501) (ad 508) d (nI (o + i)) (nI (o + p - i) - 1) E := by
    intro d
    induction d with
    | zero => intro i E _ hd; omega
    | succ d ih =>
      intro i E hi hd fE e9 elo ehi
      show X9_tellsNumber_l195_b G post (ad 500) A1 (ad 503) (ad 501) (ad 508) _ _ _ _
      by_cases hend : p ≤ 2 * i + 1
      · refine ⟨fun _ => k E fE ⟨?_, ?_, fun j hj => ?_⟩, fun q => absurd ?_ q⟩
        · rw [e9, List.length_append, List.length_reverse, hp, ho]
        · rw [List.length_append, List.length_reverse, hp, ho]; exact hl
        · rw [List.length_append, List.length_reverse, hp, ho] at hj
          by_cases w : j < o
          · rw [elo j w, hv j (by omega), gd_l (by omega), gd_l (by omega)]
          · obtain ⟨l, rfl⟩ := Nat.exists_eq_add_of_le (show o ≤ j by omega)
            have er0 : (L ++ P.reverse).getD (o + l) 0 = P.reverse.getD l 0 := by rw [← ho]; exact gd_r
            rw [ehi l (by omega), er0]
            have er : P.reverse.getD l 0 = P.getD (p - 1 - l) 0 := by
              rw [List.getD_eq_getElem?_getD, List.getD_eq_getElem?_getD, List.getElem?_reverse (by omega), hp]
            have ex : ∀ x, x < p → D.1 (ad 508) (o + x) = nI (P.getD x 0) := fun x hx => by
              rw [hv (o + x) (by omega), ← ho, gd_r]
            rw [er]
            by_cases u : l < i ∨ p ≤ l + i
            · rw [if_pos u, ex _ (by omega)]
            · rw [if_neg u, ex _ (by omega)]
              congr 2
              omega
        · by_cases w : o + p - i = 0
          · rw [w]
            refine (I_le _ _).mpr ?_
            rw [nI_toInt (by omega)]
            have : ((nI 0 : Int32) - 1).toInt = -1 := by decide
            omega
          · rw [nI_sub1 (by omega)]; exact nI_le (by omega) (by omega)
      · have hip : 0 < o + p - i := by omega
        refine ⟨fun q => absurd q (by rw [nI_sub1 hip]; exact nI_ge (by omega) (by omega)), fun _ => ?_⟩
        rw [nI_1, nI_sub1 hip, nI_m1', nI_clamp (by omega), nI_clamp (by omega)]
        refine ⟨o_in H (by omega), o_in H (by omega), o_in H (by omega), o_in H (by omega), ?_⟩
        have e1 : o + p - i - 1 = o + (p - 1 - i) := by omega
        have e2 : o + p - i - 1 = o + p - (i + 1) := by omega
        have e3 : o + i + 1 = o + (i + 1) := by omega
        rw [e1]
        have := ih (i + 1) (dI (dI E (ad 508) (o + i) (E.1 (ad 508) (o + (p - 1 - i)))) (ad 508) (o + (p - 1 - i)) (E.1 (ad 508) (o + i))) (by omega) (by omega) (fE.tr ((toF_8 H).tr (toF_8 H))) (by rw [dI_n _ _ _ n08, dI_n _ _ _ n08]; exact e9) (fun j hj => by rw [dI_o _ _ _ (by omega), dI_o _ _ _ (by omega)]; exact elo j hj) (fun j hj => ?_)
        · rw [← e2, e1] at this
          rw [e3]
          exact this
        · by_cases w1 : j = p - 1 - i
          · rw [w1, dI_s, ehi i (by omega), if_neg (by omega), if_pos (by omega), show p - 1 - (p - 1 - i) = i by omega]
          · rw [dI_o _ _ _ (by omega)]
            by_cases w2 : j = i
            · rw [w2, dI_s, ehi (p - 1 - i) (by omega), if_neg (by omega), if_pos (by omega)]
            · rw [dI_o _ _ _ (by omega), ehi j hj]
              by_cases u : j < i ∨ p ≤ j + i
              · rw [if_pos u, if_pos (by omega)]
              · rw [if_neg u, if_neg (by omega)]
  refine ⟨_, key (p + 1) 0 D (by omega) (by omega) ToF.rf h9 (fun j _ => rfl) (fun j hj => ?_)⟩
  rw [if_neg (by omega)]
/-- one digit off the number in the scratch row -/
theorem ten_sp (H : RG G ad ro) {N : Nat} (hN : 1 ≤ N) (hN2 : N ≤ 599) (h6 : D.1 (ad 500) 6 = nI N) (hd : dg30 (af ad D 503) N) (h : OupV ad D L) (hL : L.length < 1000) {A1 : Int32} {K : Int32 → Dat → Prop} {V : Nat} (hV : pv 1073741824 (af ad D 503) N = (V : Int)) {post : Dat → Prop} {v2 : Int32} (k : ∀ D' N', N' ≤ N → ToF ad ro D D' → D'.1 (ad 500) 6 = nI N' → dg30 (af ad D' 503) N' → (0 < N' → af ad D' 503 (N' - 1) ≠ 0) → pv 1073741824 (af ad D' 503) N' = ((V / 10 : Nat) : Int) → OupV ad D' (L ++ [48 + V % 10]) → K v2 D') : ∃ f, X9_tellsNumber_l92 G post (ad 500) A1 (ad 503) (ad 501) (ad 508) K f v2 0 (nI N - 1) D := by
  have n03 : ad 500 ≠ ad 503 := H.ne (by omega) (by omega) (by omega)
  have n13 : ad 501 ≠ ad 503 := H.ne (by omega) (by omega) (by omega)
  have n10 : ad 501 ≠ ad 500 := H.ne (by omega) (by omega) (by omega)
  have hV0 : (0 : Int) ≤ V := by omega
  -- behind the division: trim, tell
  have ends : ∀ (c : Int64) (E : Dat), ToF ad ro D E → E.1 (ad 508) = D.1 (ad 508) → E.1 (ad 500) 9 = D.1 (ad 500) 9 → dg30 (af ad E 503) N → pv 1073741824 (af ad E 503) N = (V : Int) / 10 → c.toInt = (V : Int) % 10 → E.1 (ad 500) 6 = nI N → ∃ f, X9_tellsNumber_l139 G post (ad 500) A1 (ad 503) (ad 501) (ad 508) K f v2 c E := by
    intro c E fE e8 e9 dE pE hc e6
    have last : ∀ (N' : Nat) (F : Dat), N' ≤ N → ToF ad ro D F → F.1 (ad 508) = D.1 (ad 508) → F.1 (ad 500) 9 = D.1 (ad 500) 9 → (∀ j, af ad F 503 j = af ad E 503 j) → F.1 (ad 500) 6 = nI N' → (∀ i, N' ≤ i → i < N → af ad E 503 i = 0) → (0 < N' → af ad E 503 (N' - 1) ≠ 0) → X9_tellsNumber_j173 G post (ad 500) A1 (ad 503) (ad 501) (ad 508) K v2 c F := by
      intro N' F hN' fF g8 g9 g3 g6 hz ht
      have oF : OupV ad F L := ⟨by rw [g9]; exact h.1, h.2.1, fun j hj => by rw [g8]; exact h.2.2 j hj⟩
      have ec : c.toInt32.toInt = (V : Int) % 10 := by rw [L_l2i (by omega) (by omega), hc]
      have e48 : (48 + c.toInt32 : Int32) = nI (48 + V % 10) := by
        refine nI_of_int ?_ (by omega)
        have e : (48 : Int32).toInt = 48 := rfl
        rw [I_add (by rw [ec, e]; omega) (by rw [ec, e]; omega), ec, e]
        omega
      refine tells0_sp H oF hL e48 (fun D' f' a3 a6 o' => ?_)
      have q3 : ∀ j, af ad D' 503 j = af ad E 503 j := fun j => by
        rw [← g3 j]; unfold af; rw [a3]
      refine k D' N' hN' (fF.tr f') (by rw [a6]; exact g6) (fun i hi => by rw [q3]; exact dE i (by omega)) (fun w => by rw [q3]; exact ht w) ?_ o'
      rw [pv_congr (fun i _ => q3 i), ← pv_more hN' hz, pE]
      exact (Int.natCast_ediv V 10).symm
    have loop : ∀ (N' : Nat) (F : Dat), N' ≤ N → ToF ad ro D F → F.1 (ad 508) = D.1 (ad 508) → F.1 (ad 500) 9 = D.1 (ad 500) 9 → (∀ j, af ad F 503 j = af ad E 503 j) → F.1 (ad 500) 6 = nI N' → (∀ i, N' ≤ i → i < N → af ad E 503 i = 0) → X9_tellsNumber_l139 G post (ad 500) A1 (ad 503) (ad 501) (ad 508) K (N' + 1) v2 c F := by
      intro N'
      induction N' with
      | zero =>
        intro F hN' fF g8 g9 g3 g6 hz
        show X9_tellsNumber_l139_b G post (ad 500) A1 (ad 503) (ad 501) (ad 508) _ _ _ _ _
        unfold X9_tellsNumber_l139_b
        rw [g6]
        exact ⟨fun _ => last 0 F hN' fF g8 g9 g3 g6 hz (fun w => by omega), fun q => absurd (by decide) q⟩
      | succ N' ih =>
        intro F hN' fF g8 g9 g3 g6 hz
        show X9_tellsNumber_l139_b G post (ad 500) A1 (ad 503) (ad 501) (ad 508) _ _ _ _ _
        unfold X9_tellsNumber_l139_b
        rw [g6, nI_sub1 (by omega), Nat.add_sub_cancel, nI_clamp (by omega)]
        have xq : (F.1 (ad 503) N').toInt = af ad E 503 N' := g3 N'
        refine ⟨fun q => absurd q (nI_nle (by omega) (by omega)), fun _ => ⟨l_in H (by omega), fun q => last (N' + 1) F hN' fF g8 g9 g3 g6 hz (fun _ w => q ((I_eq _ _).mpr (by rw [xq]; exact w))), fun q => ?_⟩⟩
        have n80 : ad 508 ≠ ad 500 := H.ne (by omega) (by omega) (by omega)
        refine ih _ (by omega) (fF.tr ((bkF H (Or.inl rfl)).to (by rw [dI_n _ _ _ n10]))) (by rw [dI_n _ _ _ n80]; exact g8) (by rw [dI_o _ _ _ (by decide)]; exact g9) (fun j => by rw [af_n H (by omega) (by omega) (by omega)]; exact g3 j) (dI_s _ _ _ _) (fun i h1 h2 => ?_)
        by_cases w : i = N'
        · rw [w, ← xq, q]; rfl
        · exact hz i (by omega) h2
    exact ⟨_, loop N E (Nat.le_refl N) fE e8 e9 (fun _ => rfl) e6 (fun i h1 h2 => by omega)⟩
  have key : ∀ i (c : Int64) (E : Dat), i ≤ N → ToF ad ro D E → E.1 (ad 508) = D.1 (ad 508) → E.1 (ad 500) = D.1 (ad 500) → (0 ≤ c.toInt ∧ c.toInt < 10) → (∀ j, j < i → af ad E 503 j = af ad D 503 j) → (∀ j, i ≤ j → j < N → 0 ≤ af ad E 503 j ∧ af ad E 503 j < 1073741824) → pv 1073741824 (fun j => af ad D 503 (i + j)) (N - i) = 10 * pv 1073741824 (fun j => af ad E 503 (i + j)) (N - i) + c.toInt → X9_tellsNumber_l92 G post (ad 500) A1 (ad 503) (ad 501) (ad 508) K (i + 1) v2 c (nI i - 1) E := by
    intro i
    induction i with
    | zero =>
      intro c E hi fE e8 e0 hc hlo hq hp
      show X9_tellsNumber_l92_b G post (ad 500) A1 (ad 503) (ad 501) (ad 508) _ _ _ _ _ _
      refine ⟨fun _ => ?_, fun q => absurd m1_neg q⟩
      have ez : ∀ q, pv 1073741824 (fun j => af ad q 503 (0 + j)) (N - 0) = pv 1073741824 (af ad q 503) N := fun q => by
        rw [Nat.sub_zero]; exact pv_congr (fun j _ => by rw [Nat.zero_add])
      rw [ez, ez, hV] at hp
      refine ends c E fE e8 (by rw [e0]) (fun j hj => hq j (by omega) hj) (by omega) (by omega) (by rw [e0]; exact h6)
    | succ i ih =>
      intro c E hi fE e8 e0 hc hlo hq hp
      rw [nI_sub1 (by omega), Nat.add_sub_cancel]
      show X9_tellsNumber_l92_b G post (ad 500) A1 (ad 503) (ad 501) (ad 508) _ _ _ _ _ _
      refine ⟨fun q => absurd q (nI_nneg (by omega)), fun _ => ?_⟩
      rw [nI_clamp (by omega), nI_m1']
      have bl := hd i (by omega)
      have xl : ((E.1 (ad 503) i).toInt64).toInt = af ad D 503 i := by rw [L_i2l]; exact hlo i (by omega)
      have hs : (c <<< ((30 : Int32).toInt64 &&& 63)).toInt = c.toInt * 1073741824 := L_shl _ _ 30 (by decide +kernel) (by show _ ≤ _ * (1073741824 : Int); omega) (by show _ * (1073741824 : Int) < _; omega)
      have ho : ((c <<< ((30 : Int32).toInt64 &&& 63)) ||| (E.1 (ad 503) i).toInt64).toInt = c.toInt * 1073741824 + af ad D 503 i := by
        rw [L_or 30 hc.1 hs (by rw [xl]; exact bl.1) (by rw [xl]; exact bl.2), hs, xl]
      generalize (c <<< ((30 : Int32).toInt64 &&& 63)) ||| (E.1 (ad 503) i).toInt64 = v at *
      have v0 : 0 ≤ v.toInt := by omega
      have e10 : (10 : Int64).toInt = 10 := rfl
      have ediv : (v / 10).toInt = v.toInt / 10 := by rw [L_div v0 (by rw [e10]; omega), e10]
      have erem : (v - v / 10 * 10).toInt = v.toInt % 10 := by rw [L_rem v0 (by rw [e10]; omega), e10]
      have eq : ((v / 10).toInt32).toInt = v.toInt / 10 := by rw [L_l2i (by rw [ediv]; omega) (by rw [ediv]; omega), ediv]
      have n83 : ad 508 ≠ ad 503 := H.ne (by omega) (by omega) (by omega)
      refine ⟨l_in H (by omega), by decide, l_in H (by omega), by decide, ih _ _ (by omega) (fE.tr ((bkA H (Or.inl rfl)).to (by rw [dI_n _ _ _ n13]))) (by rw [dI_n _ _ _ n83]; exact e8) (by rw [dI_n _ _ _ n03]; exact e0) ?_ (fun j hj => ?_) (fun j h1 h2 => ?_) ?_⟩
      · rw [erem]; omega
      · rw [af_o (by omega)]; exact hlo j (by omega)
      · by_cases w : j = i
        · rw [w, af_at, eq]; omega
        · rw [af_o w]; exact hq j (by omega) h2
      · rw [erem, show N - i = (N - (i + 1)) + 1 by omega, pv_shift, pv_shift (f := fun j => af ad _ 503 (i + j))]
        have e00 : af ad (dI E (ad 503) i ((v / 10).toInt32)) 503 (i + 0) = v.toInt / 10 := by rw [Nat.add_zero, af_at, eq]
        rw [e00, Nat.add_zero]
        have s1 : pv 1073741824 (fun j => af ad D 503 (i + (j + 1))) (N - (i + 1)) = pv 1073741824 (fun j => af ad D 503 (i + 1 + j)) (N - (i + 1)) := pv_congr (fun j _ => by rw [show i + (j + 1) = i + 1 + j by omega])
        have s2 : pv 1073741824 (fun j => af ad (dI E (ad 503) i ((v / 10).toInt32)) 503 (i + (j + 1))) (N - (i + 1)) = pv 1073741824 (fun j => af ad E 503 (i + 1 + j)) (N - (i + 1)) := pv_congr (fun j _ => by rw [af_o (by omega), show i + (j + 1) = i + 1 + j by omega])
        rw [s1, s2, hp]
        omega
  refine ⟨_, key N 0 D (Nat.le_refl N) ToF.rf rfl rfl ⟨Int.le_refl 0, by decide⟩ (fun j _ => rfl) (fun j h1 h2 => by omega) ?_⟩
  rw [Nat.sub_self]
  show (0 : Int) = 10 * 0 + 0
  omega
end OU
