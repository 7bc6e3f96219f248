/-! the reference: division, by one limb -/
def af (ad : Nat → Nat) (D : Dat) (q i : Nat) : Int := (D.1 (ad q) i).toInt
/-- the memory is kept, and where it ends -/
def BgK (ad ro : Nat → Nat) (D D' : Dat) : Prop := BgF ad ro D D' 700000 ∧ D'.1 (ad 500) 2 = D.1 (ad 500) 2
theorem BgK.rf {ad ro : Nat → Nat} {D : Dat} : BgK ad ro D D := ⟨BgF.rf, rfl⟩
theorem BgK.tr {ad ro : Nat → Nat} {D D1 D2 : Dat} (h : BgK ad ro D D1) (h2 : BgK ad ro D1 D2) : BgK ad ro D D2 := ⟨h.1.tr h2.1 (Nat.le_refl _), h2.2.trans h.2⟩
/-- a quotient and what is left, in their rows -/
def DivV (ad : Nat → Nat) (D : Dat) (Q R : Int) (qs ls : Nat) : Prop := D.1 (ad 500) 7 = nI qs ∧ D.1 (ad 500) 6 = nI ls ∧ dg30 (af ad D 505) qs ∧ (0 < qs → af ad D 505 (qs - 1) ≠ 0) ∧ pv 1073741824 (af ad D 505) qs = Q ∧ dg30 (af ad D 503) ls ∧ (0 < ls → af ad D 503 (ls - 1) ≠ 0) ∧ pv 1073741824 (af ad D 503) ls = R
section DV
variable {G : Shp} {ad ro : Nat → Nat} {D : Dat} {T a b n m : Nat} {z x y : Int}
theorem bkA (H : RG G ad ro) {q i : Nat} (hq : q = 503 ∨ q = 504 ∨ q = 505) {v : Int32} : BgK ad ro D (dI D (ad q) i v) := by
  have ne1 : ad 501 ≠ ad q := H.ne (by omega) (by omega) (by omega)
  have ne0 : ad 500 ≠ ad q := H.ne (by omega) (by omega) (by omega)
  exact ⟨⟨FrP.dI (by rw [H.inj_ q (by omega) (by omega)]; unfold pG; omega), fun j hj => by rw [dI_n _ _ _ ne1], fun s _ _ _ => by rw [dI_n _ _ _ ne0], rfl⟩, by rw [dI_n _ _ _ ne0]⟩
theorem bkF (H : RG G ad ro) {s : Nat} (hs : s = 6 ∨ s = 7) {v : Int32} : BgK ad ro D (dI D (ad 500) s v) := by
  have ne1 : ad 501 ≠ ad 500 := H.ne (by omega) (by omega) (by omega)
  exact ⟨⟨FrP.dI (by rw [H.inj_ 500 (by omega) (by omega)]; unfold pG; omega), fun j hj => by rw [dI_n _ _ _ ne1], fun r h1 h2 h3 => dI_o _ _ _ (by omega), rfl⟩, dI_o _ _ _ (by omega)⟩
theorem af_at {q i : Nat} {v : Int32} : af ad (dI D (ad q) i v) q i = v.toInt := by unfold af; rw [dI_s]
theorem af_o {q i j : Nat} {v : Int32} (h : j ≠ i) : af ad (dI D (ad q) i v) q j = af ad D q j := by unfold af; rw [dI_o _ _ _ h]
theorem af_n (H : RG G ad ro) {q p i j : Nat} {v : Int32} (hq : 500 ≤ q ∧ q < 530) (hp : 500 ≤ p ∧ p < 530) (h : p ≠ q) : af ad (dI D (ad q) i v) p j = af ad D p j := by unfold af; rw [dI_n _ _ _ (H.ne hp hq h)]
theorem l_in (H : RG G ad ro) {i : Nat} (hi : i < 600) : vp_in (nI i) (G.2.2.1 (ad 503)) := by rw [H.left_.2.2]; exact vp_in_nI hi (by omega)
theorem b_in (H : RG G ad ro) {i : Nat} (hi : i < 600) : vp_in (nI i) (G.2.2.1 (ad 504)) := by rw [H.by_.2.2]; exact vp_in_nI hi (by omega)
theorem q_in (H : RG G ad ro) {i : Nat} (hi : i < 600) : vp_in (nI i) (G.2.2.1 (ad 505)) := by rw [H.quo_.2.2]; exact vp_in_nI hi (by omega)
theorem nI_m1' {i : Nat} : nI i + (-1) = nI i - 1 := by rw [Int32.sub_eq_add_neg]
theorem m1_neg : (nI 0 - 1 : Int32) < 0 := by decide
theorem divShort_sp (H : RG G ad ro) {N : Nat} (hN : 1 ≤ N) (hN2 : N ≤ 599) (h6 : D.1 (ad 500) 6 = nI N) (hd : dg30 (af ad D 503) N) {d : Int32} (hd1 : 1 ≤ d.toInt) (hd2 : d.toInt < 1073741824) {post : Dat → Prop} (k : ∀ D' qs ls, qs ≤ N → ls ≤ 1 → BgK ad ro D D' → DivV ad D' (pv 1073741824 (af ad D 503) N / d.toInt) (pv 1073741824 (af ad D 503) N % d.toInt) qs ls → post D') : X9_divideShort_wp G D (ad 500) d post := by
  refine ⟨H.x_, _, H.left_.1, H.left_.2.1, _, H.quo_.1, H.quo_.2.1, ?_⟩
  rw [h6]
  have ne0 : ad 500 ≠ ad 505 := H.ne (by omega) (by omega) (by omega)
  have ne3 : ad 500 ≠ ad 503 := H.ne (by omega) (by omega) (by omega)
  have d64 : d.toInt64.toInt = d.toInt := L_i2l d
  have dz : ¬ d.toInt64 = 0 := fun w => by
    have := (L_eq _ _).mp w
    rw [d64] at this
    have e : (0 : Int64).toInt = 0 := rfl
    omega
  generalize hV : pv 1073741824 (af ad D 503) N = V at *
  -- the ends
  have ends : ∀ (c : Int64) (E : Dat) (Qv : Int), BgK ad ro D E → dg30 (af ad E 505) N → pv 1073741824 (af ad E 505) N = Qv → (0 ≤ c.toInt ∧ c.toInt < 1073741824) → Qv = V / d.toInt → c.toInt = V % d.toInt → ∃ f, X9_divideShort_l63 G post (ad 500) d (ad 503) (ad 505) f c (dI E (ad 500) 7 (nI N)) := by
    intro c E Qv fE dq hq hc eQ eR
    have last : ∀ s, s ≤ N → (∀ i, s ≤ i → i < N → af ad E 505 i = 0) → (0 < s → af ad E 505 (s - 1) ≠ 0) → X9_divideShort_j97 G post (ad 500) d (ad 503) (ad 505) c (dI E (ad 500) 7 (nI s)) := by
      intro s hs hz ht
      have ec : c.toInt32.toInt = c.toInt := L_l2i (by omega) (by omega)
      have c0 : (0 : Int32).toNatClampNeg = 0 := rfl
      have ez : (0 : Int64).toInt = 0 := rfl
      unfold X9_divideShort_j97 X9_divideShort_j117
      rw [c0]
      have fin : ∀ (lsz : Nat), lsz ≤ 1 → (lsz = 0 ↔ c.toInt = 0) → post (dI (dI (dI E (ad 500) 7 (nI s)) (ad 503) 0 c.toInt32) (ad 500) 6 (nI lsz)) := by
        intro lsz hl hl0
        have F : BgK ad ro D (dI (dI (dI E (ad 500) 7 (nI s)) (ad 503) 0 c.toInt32) (ad 500) 6 (nI lsz)) := ((fE.tr (bkF H (Or.inr rfl))).tr (bkA H (Or.inl rfl))).tr (bkF H (Or.inl rfl))
        have e5 : ∀ i, af ad (dI (dI (dI E (ad 500) 7 (nI s)) (ad 503) 0 c.toInt32) (ad 500) 6 (nI lsz)) 505 i = af ad E 505 i := fun i => by
          rw [af_n H (by omega) (by omega) (by omega), af_n H (by omega) (by omega) (by omega), af_n H (by omega) (by omega) (by omega)]
        have e3 : af ad (dI (dI (dI E (ad 500) 7 (nI s)) (ad 503) 0 c.toInt32) (ad 500) 6 (nI lsz)) 503 0 = c.toInt := by
          rw [af_n H (by omega) (by omega) (by omega), af_at, ec]
        refine k _ s lsz hs hl F ⟨?_, dI_s _ _ _ _, fun i hi => by rw [e5]; exact dq i (by omega), fun w => by rw [e5]; exact ht w, ?_, fun i hi => ?_, fun w => ?_, ?_⟩
        · rw [dI_o _ _ _ (by decide), dI_n _ _ _ ne3, dI_s]
        · rw [pv_congr (fun i _ => e5 i), ← pv_more hs hz, hq, eQ]
        · rw [show i = 0 by omega, e3]; exact hc
        · rw [show lsz - 1 = 0 by omega, e3]; omega
        · rcases (show lsz = 0 ∨ lsz = 1 by omega) with rfl | rfl
          · show (0 : Int) = _
            rw [← eR]
            exact (hl0.mp rfl).symm
          · show (0 : Int) + af ad _ 503 0 * 1 = _
            rw [e3, ← eR]; omega
      refine ⟨l_in H (i := 0) (by omega), fun w => ⟨H.x_, fin 1 (by omega) ⟨fun q => by omega, fun q => absurd ((L_eq _ _).mpr (by rw [q, ez])) w⟩⟩, fun w => ⟨H.x_, fin 0 (by omega) ⟨fun _ => by rw [w]; rfl, fun _ => rfl⟩⟩⟩
    have loop : ∀ s, s ≤ N → (∀ i, s ≤ i → i < N → af ad E 505 i = 0) → X9_divideShort_l63 G post (ad 500) d (ad 503) (ad 505) (s + 1) c (dI E (ad 500) 7 (nI s)) := by
      intro s
      induction s with
      | zero =>
        intro hs hz
        show X9_divideShort_l63_b G post (ad 500) d (ad 503) (ad 505) _ _ _
        unfold X9_divideShort_l63_b
        rw [dI_s]
        exact ⟨fun _ => last 0 hs hz (fun w => by omega), fun q => absurd (by decide) q⟩
      | succ s ih =>
        intro hs hz
        show X9_divideShort_l63_b G post (ad 500) d (ad 503) (ad 505) _ _ _
        unfold X9_divideShort_l63_b
        rw [dI_s, nI_sub1 (by omega), Nat.add_sub_cancel, nI_clamp (by omega), dI_I, dI_n _ _ _ (fun q => ne0 q.symm)]
        refine ⟨fun q => absurd q (nI_nle (by omega) (by omega)), fun _ => ⟨q_in H (by omega), fun q => last (s + 1) hs hz (fun _ w => q ((I_eq _ _).mpr w)), fun q => ih (by omega) (fun i h1 h2 => ?_)⟩⟩
        by_cases w : i = s
        · rw [w]; unfold af; rw [q]; rfl
        · exact hz i (by omega) h2
    exact ⟨_, loop N (Nat.le_refl N) (fun i h1 h2 => by omega)⟩
  have key : ∀ i (c : Int64) (E : Dat), i ≤ N → BgK ad ro D E → E.1 (ad 500) 6 = nI N → (∀ j, af ad E 503 j = af ad D 503 j) → (0 ≤ c.toInt ∧ c.toInt < d.toInt) → (∀ j, i ≤ j → j < N → 0 ≤ af ad E 505 j ∧ af ad E 505 j < 1073741824) → pv 1073741824 (fun j => af ad D 503 (i + j)) (N - i) = d.toInt * pv 1073741824 (fun j => af ad E 505 (i + j)) (N - i) + c.toInt → X9_divideShort_l10 G post (ad 500) d (ad 503) (ad 505) (i + 1) c (nI i - 1) E := by
    intro i
    induction i with
    | zero =>
      intro c E hi fE e6 e3 hc hq hp
      show X9_divideShort_l10_b G post (ad 500) d (ad 503) (ad 505) _ _ _ _
      refine ⟨fun _ => ?_, fun q => absurd m1_neg q⟩
      rw [e6]
      have ez : ∀ q, pv 1073741824 (fun j => af ad q 505 (0 + j)) (N - 0) = pv 1073741824 (af ad q 505) N := fun q => by
        rw [Nat.sub_zero]; exact pv_congr (fun j _ => by rw [Nat.zero_add])
      have ez3 : pv 1073741824 (fun j => af ad D 503 (0 + j)) (N - 0) = V := by
        rw [Nat.sub_zero, ← hV]; exact pv_congr (fun j _ => by rw [Nat.zero_add])
      rw [ez, ez3] at hp
      refine ends c E _ fE (fun j hj => hq j (by omega) hj) rfl ⟨hc.1, by omega⟩ ?_ ?_
      · rw [hp, Int.mul_comm, Int.add_comm, Int.add_mul_ediv_right _ _ (by omega), Int.ediv_eq_zero_of_lt hc.1 hc.2]
        omega
      · rw [hp, Int.add_comm, Int.add_mul_emod_self_left, Int.emod_eq_of_lt hc.1 hc.2]
    | succ i ih =>
      intro c E hi fE e6 e3 hc hq hp
      rw [nI_sub1 (by omega), Nat.add_sub_cancel]
      show X9_divideShort_l10_b G post (ad 500) d (ad 503) (ad 505) _ _ _ _
      refine ⟨fun q => absurd q (nI_nneg (by omega)), fun _ => ?_⟩
      rw [nI_clamp (by omega), nI_m1']
      have bl := hd i (by omega)
      have xl : ((E.1 (ad 503) i).toInt64).toInt = af ad D 503 i := by rw [L_i2l]; exact e3 i
      have hs : (c <<< ((30 : Int32).toInt64 &&& 63)).toInt = c.toInt * 1073741824 := L_shl _ _ 30 (by decide +kernel) (by show _ ≤ _ * (1073741824 : Int); omega) (by show _ * (1073741824 : Int) < _; omega)
      have ho : ((c <<< ((30 : Int32).toInt64 &&& 63)) ||| (E.1 (ad 503) i).toInt64).toInt = c.toInt * 1073741824 + af ad D 503 i := by
        rw [L_or 30 hc.1 hs (by rw [xl]; exact bl.1) (by rw [xl]; exact bl.2), hs, xl]
      generalize (c <<< ((30 : Int32).toInt64 &&& 63)) ||| (E.1 (ad 503) i).toInt64 = v at *
      have v0 : 0 ≤ v.toInt := by omega
      have ediv : (v / d.toInt64).toInt = v.toInt / d.toInt := by rw [L_div v0 (by rw [d64]; omega), d64]
      have erem : (v - v / d.toInt64 * d.toInt64).toInt = v.toInt % d.toInt := by rw [L_rem v0 (by rw [d64]; omega), d64]
      have hq1 : 0 ≤ v.toInt / d.toInt := Int.ediv_nonneg v0 (by omega)
      have hq2 : v.toInt / d.toInt < 1073741824 := Int.ediv_lt_of_lt_mul (by omega) (by
        have : (c.toInt + 1) * 1073741824 ≤ d.toInt * 1073741824 := Int.mul_le_mul_of_nonneg_right (by omega) (by decide)
        rw [ho, Int.mul_comm 1073741824 d.toInt]; omega)
      have eq : ((v / d.toInt64).toInt32).toInt = v.toInt / d.toInt := by rw [L_l2i (by rw [ediv]; omega) (by rw [ediv]; omega), ediv]
      refine ⟨l_in H (by omega), dz, q_in H (by omega), dz, ih _ _ (by omega) (fE.tr (bkA H (Or.inr (Or.inr rfl)))) ?_ (fun j => ?_) ?_ (fun j h1 h2 => ?_) ?_⟩
      · rw [dI_n _ _ _ ne0]; exact e6
      · rw [af_n H (by omega) (by omega) (by omega)]; exact e3 j
      · rw [erem]; exact ⟨Int.emod_nonneg _ (by omega), Int.emod_lt_of_pos _ (by omega)⟩
      · by_cases w : j = i
        · rw [w, af_at, eq]; exact ⟨hq1, hq2⟩
        · rw [af_o w]; exact hq j (by omega) h2
      · rw [erem, show N - i = (N - (i + 1)) + 1 by omega, pv_shift, pv_shift (f := fun j => af ad _ 505 (i + j))]
        rw [Nat.add_zero, af_at, eq]
        have s1 : pv 1073741824 (fun j => af ad D 503 (i + (j + 1))) (N - (i + 1)) = pv 1073741824 (fun j => af ad D 503 (i + 1 + j)) (N - (i + 1)) := pv_congr (fun j _ => by rw [show i + (j + 1) = i + 1 + j by omega])
        have s2 : pv 1073741824 (fun j => af ad (dI E (ad 505) i ((v / d.toInt64).toInt32)) 505 (i + (j + 1))) (N - (i + 1)) = pv 1073741824 (fun j => af ad E 505 (i + 1 + j)) (N - (i + 1)) := pv_congr (fun j _ => by rw [af_o (by omega), show i + (j + 1) = i + 1 + j by omega])
        rw [s1, s2, hp]
        have q3 := Int.mul_ediv_add_emod v.toInt d.toInt
        generalize pv 1073741824 (fun j => af ad E 505 (i + 1 + j)) (N - (i + 1)) = p at *
        generalize v.toInt / d.toInt = u at *
        generalize v.toInt % d.toInt = r at *
        generalize d.toInt = dd at *
        generalize af ad D 503 i = li at *
        have : dd * u + r = c.toInt * 1073741824 + li := by omega
        grind
  refine ⟨_, key N 0 D (Nat.le_refl N) BgK.rf h6 (fun _ => rfl) ⟨Int.le_refl 0, by show (0 : Int) < _; omega⟩ (fun j h1 h2 => by omega) ?_⟩
  rw [Nat.sub_self]
  show (0 : Int) = _ * 0 + 0
  omega
end DV
