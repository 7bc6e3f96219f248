/-! the reference: divide -/
section DD
variable {G : Shp} {ad ro : Nat → Nat} {D : Dat} {T a b n m : Nat} {x y : Int} {post : Dat → Prop}
theorem up_top {f : Nat → Int} {s m : Nat} (hm : 1 ≤ m) (hs : s ≤ 30) (h : f (m - 1) * 2 ^ s < 1073741824) (h0 : 0 ≤ f (m - 1)) : tpD f s m = 0 ∧ f (m - 1) % 2 ^ (30 - s) = f (m - 1) := by
  have h6 := pow_B hs
  have hlt : f (m - 1) < 2 ^ (30 - s) := by
    by_cases w : f (m - 1) < 2 ^ (30 - s)
    · exact w
    · exfalso
      have : 2 ^ (30 - s) * 2 ^ s ≤ f (m - 1) * 2 ^ s := Int.mul_le_mul_of_nonneg_right (by omega) (Int.le_of_lt (pow_p s))
      rw [Int.mul_comm (2 ^ (30 - s)) (2 ^ s), h6] at this
      omega
  refine ⟨?_, Int.emod_eq_of_lt h0 hlt⟩
  unfold tpD
  rw [if_neg (by omega), Int.ediv_eq_zero_of_lt h0 hlt]
theorem upD_0 {f : Nat → Int} {s : Nat} (hs : s = 0) {n : Nat} (h : dg30 f n) {k : Nat} (hk : k < n) : tpD f s k = 0 := by
  subst hs
  unfold tpD
  by_cases q : k = 0
  · rw [if_pos q]
  · rw [if_neg q]
    have := h (k - 1) (by omega)
    exact Int.ediv_eq_zero_of_lt this.1 this.2
/-- the quotient's limbs, from the highest -/
theorem div_loop (H : RG G ad ro) (hm : 1 ≤ m) (hmn : m ≤ n) (hn : n < 599) {s : Nat} (hs : s < 30) {X Y : Int} {A1 A2 : Int32} (h7 : D.1 (ad 500) 7 = nI (n - m + 1)) (dl : dg30 (af ad D 503) (n + 1)) (hX : pv 1073741824 (af ad D 503) (n + 1) = 2 ^ s * X) (db : dg30 (af ad D 504) m) (hY : pv 1073741824 (af ad D 504) m = 2 ^ s * Y) (hb1 : 1 ≤ af ad D 504 (m - 1)) (hXY : 2 ^ s * X < 1073741824 ^ (n - m + 1) * (2 ^ s * Y)) (k : ∀ D' qs ls, qs ≤ n - m + 1 → ls ≤ m → BgK ad ro D D' → DivV ad D' (X / Y) (X % Y) qs ls → post D') : ∃ f, X9_divide_l292 G post (ad 500) A1 A2 (ad 501) (ad 503) (ad 504) (ad 505) f (nI m) (nI s) (nI n - nI m) D := by
  have ne3 : ad 500 ≠ ad 503 := H.ne (by omega) (by omega) (by omega)
  have ne5 : ad 500 ≠ ad 505 := H.ne (by omega) (by omega) (by omega)
  have h43 : ad 504 ≠ ad 503 := H.ne (by omega) (by omega) (by omega)
  have h53 : ad 505 ≠ ad 503 := H.ne (by omega) (by omega) (by omega)
  generalize hN : n - m + 1 = N at *
  generalize hYs : 2 ^ s * Y = Ys at *
  have hYp : 0 < Ys := by
    rw [← hY]
    have h1 := pv_pos (B := 1073741824) (by decide) (by omega) db (by omega)
    have h2 : (0 : Int) < 1073741824 ^ (m - 1) := Int.pow_pos (by decide)
    omega
  have key : ∀ i (E : Dat), i ≤ N → BgK ad ro D E → E.1 (ad 500) 7 = nI N → (∀ j, af ad E 504 j = af ad D 504 j) → dg30 (af ad E 503) (n + 1) → (∀ j, i + m ≤ j → j ≤ n → af ad E 503 j = 0) → pv 1073741824 (af ad E 503) (i + m) < 1073741824 ^ i * Ys → (∀ j, i ≤ j → j < N → 0 ≤ af ad E 505 j ∧ af ad E 505 j < 1073741824) → 2 ^ s * X = pv 1073741824 (af ad E 503) (i + m) + Ys * (1073741824 ^ i * pv 1073741824 (fun j => af ad E 505 (i + j)) (N - i)) → X9_divide_l292 G post (ad 500) A1 A2 (ad 501) (ad 503) (ad 504) (ad 505) (i + 1) (nI m) (nI s) (nI i - 1) E := by
    intro i
    induction i with
    | zero =>
      intro E _ fE e7 e4 d3 z3 hlt dq hv
      show X9_divide_l292_b G post (ad 500) A1 A2 (ad 501) (ad 503) (ad 504) (ad 505) _ _ _ _ _
      refine ⟨fun _ => ?_, fun q => absurd m1_neg q⟩
      have ez : pv 1073741824 (fun j => af ad E 505 (0 + j)) N = pv 1073741824 (af ad E 505) N := pv_congr (fun j _ => by rw [Nat.zero_add])
      rw [Nat.zero_add, Nat.sub_zero, Int.pow_zero, Int.one_mul, ez] at hv
      rw [Nat.zero_add, Int.pow_zero, Int.one_mul] at hlt
      have hr0 := pv_nn (B := 1073741824) (by decide) (n := m) (f := af ad E 503) (fun i hi => (d3 i (by omega)).1)
      generalize hQ : pv 1073741824 (af ad E 505) N = Q at *
      generalize hR : pv 1073741824 (af ad E 503) m = R at *
      have hps := pow_p s
      have e1 : R = 2 ^ s * (X - Y * Q) := by
        rw [Int.mul_sub, hv, ← Int.mul_assoc, hYs]; omega
      have hYp2 : 0 < Y := by
        by_cases w : 0 < Y
        · exact w
        · have := Int.mul_nonpos_of_nonneg_of_nonpos (Int.le_of_lt hps) (show Y ≤ 0 by omega)
          omega
      have r1 : 0 ≤ X - Y * Q := by
        rw [e1] at hr0
        exact Int.nonneg_of_mul_nonneg_right hr0 hps
      have r2 : X - Y * Q < Y := by
        rw [e1, ← hYs] at hlt
        exact Int.lt_of_mul_lt_mul_left hlt (Int.le_of_lt hps)
      have hm2 : X % Y = X - Y * Q := by
        have : X = (X - Y * Q) + Y * Q := by omega
        rw [this, Int.add_mul_emod_self_left, Int.emod_eq_of_lt (by omega) (by omega)]
        omega
      have hd2 : X / Y = Q := by
        have : X = (X - Y * Q) + Y * Q := by omega
        rw [this, Int.add_mul_ediv_left _ _ (by omega), Int.ediv_eq_zero_of_lt (by omega) (by omega)]
        omega
      refine div_end H hm (by omega) (by omega) hs e7 (fun j hj => dq j (by omega) hj) hQ (fun j hj => d3 j (by omega)) (R := X % Y) (by rw [hR, e1, hm2]) (fun D' qs ls h1 h2 f' d' => k D' qs ls h1 h2 (fE.tr f') (by rw [hd2]; exact d'))
    | succ q ih =>
      intro E hi fE e7 e4 d3 z3 hlt dq hv
      rw [nI_sub1 (by omega), Nat.add_sub_cancel]
      show X9_divide_l292_b G post (ad 500) A1 A2 (ad 501) (ad 503) (ad 504) (ad 505) _ _ _ _ _
      refine ⟨fun w => absurd w (nI_nneg (by omega)), fun _ => ?_⟩
      have s1 := pv_split (B := 1073741824) (f := af ad E 503) (n := q) (m := m + 1)
      have hlow := pv_nn (B := 1073741824) (by decide) (n := q) (f := af ad E 503) (fun i hi => (d3 i (by omega)).1)
      have hlow2 := pv_lt (B := 1073741824) (by decide) (n := q) (f := af ad E 503) (fun i hi => d3 i (by omega))
      have hBq : (0 : Int) < 1073741824 ^ q := Int.pow_pos (by decide)
      have eW : pv 1073741824 (fun i => af ad E 503 (q + i)) (m + 1) = pv 1073741824 (wf ad E q) (m + 1) := rfl
      rw [show q + 1 + m = q + (m + 1) by omega, s1, eW] at hlt hv
      have e4p : pv 1073741824 (af ad E 504) m = Ys := by rw [pv_congr (fun j _ => e4 j), hY]
      generalize hWv : pv 1073741824 (wf ad E q) (m + 1) = W at *
      generalize hL : pv 1073741824 (af ad E 503) q = L at *
      have hW : W < 1073741824 * Ys := by
        rw [Int.pow_succ, Int.mul_assoc] at hlt
        exact Int.lt_of_mul_lt_mul_left (Int.lt_of_le_of_lt (by omega) hlt) (Int.le_of_lt hBq)
      refine stepOff_sp H hm (by omega) (fun j hj => d3 (q + j) (by omega)) (fun j hj => by rw [e4]; exact db j hj) (by rw [e4]; exact hb1) (by rw [hWv, e4p]; exact hW) (fun D' v hvv fL dW wz pW => ?_)
      rw [hWv, e4p] at hvv pW
      rw [nI_clamp (by omega), nI_m1']
      have hW0 : 0 ≤ W := by rw [← hWv]; exact pv_nn (by decide) (fun j hj => (d3 (q + j) (by omega)).1)
      have t1 := Int.mul_ediv_add_emod W Ys
      have t2 := Int.emod_nonneg W (show Ys ≠ 0 by omega)
      have t3 := Int.emod_lt_of_pos W hYp
      have t0 : 0 ≤ W / Ys := Int.ediv_nonneg hW0 (by omega)
      have tB : W / Ys < 1073741824 := Int.ediv_lt_of_lt_mul hYp hW
      have g3 : ∀ j, af ad (dI D' (ad 505) q v) 503 j = af ad D' 503 j := fun j => by rw [af_n H (by omega) (by omega) (by omega)]
      have lo : ∀ j, j < q → af ad D' 503 j = af ad E 503 j := fun j hj => by unfold af; rw [fL.2.2 j (Or.inl hj)]
      have hi3 : ∀ j, q + m < j → af ad D' 503 j = af ad E 503 j := fun j hj => by unfold af; rw [fL.2.2 j (Or.inr hj)]
      have pl : pv 1073741824 (af ad (dI D' (ad 505) q v) 503) (q + m) = L + 1073741824 ^ q * (W % Ys) := by
        rw [pv_congr (fun j _ => g3 j), pv_split, pv_congr (n := q) (g := af ad E 503) (fun j hj => lo j hj), hL]
        have : pv 1073741824 (fun i => af ad D' 503 (q + i)) m = W % Ys := pW
        rw [this]
      refine ⟨q_in H (by omega), ih _ (by omega) (fE.tr ((fL.k H).tr (bkA H (Or.inr (Or.inr rfl))))) ?_ (fun j => ?_) (fun j hj => ?_) (fun j h1 h2 => ?_) ?_ (fun j h1 h2 => ?_) ?_⟩
      · rw [dI_n _ _ _ ne5, fL.2.1 _ ne3]; exact e7
      · rw [af_n H (by omega) (by omega) (by omega)]
        unfold af
        rw [fL.2.1 _ h43]
        exact e4 j
      · rw [g3]
        by_cases w1 : j < q
        · rw [lo j w1]; exact d3 j hj
        · by_cases w2 : q + m < j
          · rw [hi3 j w2]; exact d3 j hj
          · by_cases w3 : j = q + m
            · rw [w3]
              have : af ad D' 503 (q + m) = 0 := wz
              omega
            · have := dW (j - q) (by omega)
              have e : wf ad D' q (j - q) = af ad D' 503 j := by unfold wf; rw [show q + (j - q) = j by omega]
              rw [e] at this
              exact this
      · rw [g3]
        by_cases w2 : q + m < j
        · rw [hi3 j w2]; exact z3 j (by omega) h2
        · rw [show j = q + m by omega]; exact wz
      · rw [pl]
        have : 1073741824 ^ q * (W % Ys) ≤ 1073741824 ^ q * (Ys - 1) := Int.mul_le_mul_of_nonneg_left (by omega) (by omega)
        rw [Int.mul_sub, Int.mul_one] at this
        omega
      · by_cases w : j = q
        · rw [w, af_at, hvv]; exact ⟨t0, tB⟩
        · rw [af_o w]
          have e5 : af ad D' 505 j = af ad E 505 j := by unfold af; rw [fL.2.1 _ h53]
          rw [e5]
          exact dq j (by omega) h2
      · have e0 : af ad (dI D' (ad 505) q v) 505 (q + 0) = W / Ys := by rw [Nat.add_zero, af_at, hvv]
        rw [pl, hv, show N - q = (N - (q + 1)) + 1 by omega, pv_shift, e0]
        have s2 : pv 1073741824 (fun j => af ad (dI D' (ad 505) q v) 505 (q + (j + 1))) (N - (q + 1)) = pv 1073741824 (fun j => af ad E 505 (q + 1 + j)) (N - (q + 1)) := pv_congr (fun j _ => by
          rw [af_o (by omega), show q + (j + 1) = q + 1 + j by omega]
          unfold af
          rw [fL.2.1 _ h53])
        rw [s2, Int.pow_succ]
        generalize pv 1073741824 (fun j => af ad E 505 (q + 1 + j)) (N - (q + 1)) = p at *
        generalize (1073741824 : Int) ^ q = P at *
        generalize W / Ys = u at *
        generalize W % Ys = r at *
        rw [← t1]
        grind
  have e0 : nI n - nI m = nI N - 1 := by rw [nI_subN hmn (by omega), nI_sub1 (by omega)]; congr 1; omega
  rw [e0]
  refine ⟨_, key N D (Nat.le_refl N) BgK.rf h7 (fun _ => rfl) dl (fun j h1 h2 => by omega) ?_ (fun j h1 h2 => by omega) ?_⟩
  · rw [show N + m = n + 1 by omega, hX]; exact hXY
  · rw [Nat.sub_self, show N + m = n + 1 by omega, hX]
    show _ = _ + Ys * (_ * 0)
    rw [Int.mul_zero, Int.mul_zero, Int.add_zero]
end DD
