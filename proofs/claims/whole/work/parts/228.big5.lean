theorem m1_sub (x : Int32) : x + (-1) = x - 1 := (Int32.sub_eq_add_neg x 1).symm
theorem div_outer {G : Shp} {post : Int64 → Dat → Prop} {a la n : Nat} {v1 v4 : Int64} {δ : Int} {b : Nat} {D0 : Dat} (hG : BG G a la) (hn : n ≤ 12) (hd : dig (lm D0 la) n) (hv1 : v1.toInt = δ) (hδ : 1 < δ) (hδ2 : δ < 18014398509481984) (hb : (b = 27 ∧ δ < 68719476736) ∨ b = 9) (hm : v4.toBitVec.toNat = 2 ^ b - 1)
    (k : ∀ (D : Dat) (left : Int64), Fr D0 D [a] [la] → D.1 = D0.1 → dig (lm D la) n → 0 ≤ left.toInt → left.toInt < δ → pv 134217728 (lm D0 la) n = δ * pv 134217728 (lm D la) n + left.toInt → X0_trim_wp G D a (D.1 a 1) (fun D2 => post left D2)) :
    ∀ (i : Nat) (left : Int64) (D : Dat), i ≤ n → D.1 = D0.1 → (∀ x, x ≠ la → D.2 x = D0.2 x) → (∀ j, j < i → lm D la j = lm D0 la j) → dig (lm D la) n → 0 ≤ left.toInt → left.toInt < δ → pv 134217728 (fun m => lm D0 la (i + m)) (n - i) = δ * pv 134217728 (fun m => lm D la (i + m)) (n - i) + left.toInt → X0_divide_l50 G post a v1 la (i + 1) (nI b) v4 left (nI i - 1) D := by
  intro i
  induction i with
  | zero =>
    intro left D hi h1 hx hj hdd hf0 hf1 inv
    show X0_divide_l50_b G post a v1 la _ _ _ _ _ _
    unfold X0_divide_l50_b
    refine ⟨fun _ => ?_, fun q => absurd (by decide) q⟩
    refine k D left ⟨fun x _ => by rw [h1], fun x h => hx x (fun q => h (by rw [q]; exact List.mem_singleton.mpr rfl))⟩ h1 hdd hf0 hf1 ?_
    simpa using inv
  | succ i ih =>
    intro left D hi h1 hx hj hdd hf0 hf1 inv
    show X0_divide_l50_b G post a v1 la _ _ _ _ _ _
    unfold X0_divide_l50_b
    rw [nI_pred]
    refine ⟨fun q => absurd q (nI_pos (by omega)), fun _ => ⟨by rw [hG.2.2.2]; exact vp_in_nI (by omega) (by omega), ?_⟩⟩
    rw [nI_clamp (by omega)]
    have hlimb := hj i (by omega)
    have hdi := hd i (by omega)
    rw [← hlimb] at hdi
    have hj3 : ∃ j, b * j = 27 ∧ j ≤ 3 := by
      rcases hb with ⟨rfl, -⟩ | rfl
      · exact ⟨1, by decide, by decide⟩
      · exact ⟨3, by decide, by decide⟩
    obtain ⟨j, hj27, -⟩ := hj3
    have hb27 : b ≤ 27 := by omega
    refine ⟨j + 1, ?_⟩
    refine div_inner (i := i) (L := left.toInt) hv1 hδ hδ2 hb hm hdi.1 hdi.2 hf0 hf1 rfl (by omega) ?_ j 27 left 0 _ hj27.symm (by omega) ?_ (Int.le_refl 0) hf0 hf1 ?_
    · intro share left' hs0 hs1 hl0 hl1 hinv
      refine ⟨by rw [hG.2.2.2]; exact vp_in_nI (by omega) (by omega), ?_⟩
      rw [m1_sub]
      have eO : ∀ m, m ≠ i → lm (dJ D la i share) la m = lm D la m := fun m hm => by unfold lm; rw [dJ_o _ _ _ hm]
      have eI : lm (dJ D la i share) la i = share.toInt := by unfold lm; rw [dJ_s]
      refine ih left' _ (by omega) h1 (fun x h => by rw [dJ_n _ _ _ h]; exact hx x h) (fun m hm => ?_) (fun m hm => ?_) hl0 hl1 ?_
      · rw [eO m (by omega)]; exact hj m (by omega)
      · by_cases q : m = i
        · rw [q, eI]; exact ⟨hs0, hs1⟩
        · rw [eO m q]; exact hdd m hm
      · rw [show n - i = (n - (i + 1)) + 1 by omega, pv_shift, pv_shift]
        have p1 : pv 134217728 (fun m => lm D0 la (i + (m + 1))) (n - (i + 1)) = pv 134217728 (fun m => lm D0 la (i + 1 + m)) (n - (i + 1)) := pv_congr (fun m _ => by rw [show i + (m + 1) = i + 1 + m by omega])
        have p2 : pv 134217728 (fun m => lm (dJ D la i share) la (i + (m + 1))) (n - (i + 1)) = pv 134217728 (fun m => lm D la (i + 1 + m)) (n - (i + 1)) := pv_congr (fun m _ => by rw [eO _ (by omega), show i + (m + 1) = i + 1 + m by omega])
        rw [p1, p2, Nat.add_zero, eI, inv, ← hlimb]
        have hinv : left.toInt * 134217728 + lm D la i = δ * share.toInt + left'.toInt := hinv
        generalize pv 134217728 (fun m => lm D la (i + 1 + m)) (n - (i + 1)) = Q
        generalize lm D la i = f at *
        generalize left.toInt = x at *
        generalize left'.toInt = x' at *
        generalize share.toInt = s at *
        grind
    · have hnb : (nI b).toInt = (b : Int) := nI_toInt (by omega)
      have h27 : (27 : Int32).toInt = 27 := rfl
      rw [I_sub (by rw [h27, hnb]; omega) (by rw [h27, hnb]; omega), h27, hnb]
      rfl
    · show left.toInt * 2 ^ 0 + lm D la i / 2 ^ 27 = δ * 0 + left.toInt
      rw [pow27, Int.ediv_eq_zero_of_lt hdi.1 hdi.2]
      omega
/-- divide by a divisor from 1 to below 2 to the 54th: the size is divided, the sign is kept; what is left over comes back -/
theorem divide_sp {G : Shp} {D : Dat} {a la : Nat} {z : Int} (hG : BG G a la) (h : BigV D a la z) {v1 : Int64} (h1 : 1 ≤ v1.toInt) (h2 : v1.toInt < 18014398509481984) {post : Int64 → Dat → Prop} (k : ∀ (D' : Dat) (r : Int64), Fr D D' [a] [la] → BigV D' a la (z.tdiv v1.toInt) → r.toInt = az z % v1.toInt → post r D') : X0_divide_wp G D a v1 post := by
  have hV := h
  refine ⟨hG.1, la, hG.2.1, hG.2.2.1, ?_⟩
  unfold X0_divide_j14 X0_divide_j31
  refine ⟨fun q => ?_, fun q => ⟨fun q2 => ?_, fun q2 => absurd ((L_lt _ _).mpr h2) q2⟩⟩
  · have q : v1.toInt ≤ 1 := (L_le _ _).mp q
    have e : v1.toInt = 1 := by omega
    refine k D 0 Fr.rf (by rw [e, Int.tdiv_one]; exact h) (by rw [e, Int.emod_one]; rfl)
  · have hδ : 1 < v1.toInt := by
      have : ¬ v1.toInt ≤ 1 := fun w => q ((L_le _ _).mpr w)
      omega
    obtain ⟨n, hn, e1, hd, ht, hb, h0, hz⟩ := h
    have main : ∀ (b : Nat), ((b = 27 ∧ v1.toInt < 68719476736) ∨ b = 9) → ∃ n, X0_divide_l50 G post a v1 la n (nI b) (((1 : Int64) <<< ((nI b).toInt64 &&& 63)) - 1) 0 ((D.1 a 1) - 1) D := by
      intro b hbb
      refine ⟨n + 1, ?_⟩
      rw [e1]
      refine div_outer (δ := v1.toInt) (D0 := D) hG hn hd rfl hδ h2 hbb ?_ ?_ n 0 D (Nat.le_refl n) rfl (fun _ _ => rfl) (fun _ _ => rfl) hd (Int.le_refl 0) (by show (0 : Int) < _; omega) ?_
      · rcases hbb with ⟨rfl, -⟩ | rfl <;> decide +kernel
      · intro E left hf he hdd hl0 hl1 hinv
        rw [he, e1]
        refine trim_sp hG hn hdd (by rw [he]; exact hb) (fun D' hf' hB => ?_)
        have hfr : Fr D D' [a] [la] := hf.tr (hf'.up (fun _ w => w) (fun _ w => by cases w))
        have P0 := pv_nn (B := 134217728) (by decide) (n := n) (f := lm D la) (fun i hi => (hd i hi).1)
        have hq : pv 134217728 (lm E la) n = pv 134217728 (lm D la) n / v1.toInt := by
          rw [hinv, Int.mul_add_ediv_left _ _ (by omega), Int.ediv_eq_zero_of_lt hl0 hl1]
          omega
        have hr : left.toInt = pv 134217728 (lm D la) n % v1.toInt := by
          rw [hinv, Int.mul_add_emod_self_left, Int.emod_eq_of_lt hl0 hl1]
        refine k D' left hfr ?_ ?_
        · rw [he, hq] at hB
          have e2 : z.tdiv v1.toInt = sg (D.1 a 2) * (pv 134217728 (lm D la) n / v1.toInt) := by
            rw [hz]
            rcases hb with w | w <;> rw [w]
            · rw [sg_0, Int.one_mul, Int.one_mul, Int.tdiv_eq_ediv_of_nonneg P0]
            · rw [sg_1, Int.neg_mul, Int.one_mul, Int.neg_tdiv, Int.tdiv_eq_ediv_of_nonneg P0, Int.neg_mul, Int.one_mul]
          rw [e2]
          exact hB
        · rw [hr]
          obtain ⟨n', hn', e1', -, -, -, -, hz'⟩ := hV.toAz
          have : n' = n := (nI_eq (by omega) (by omega)).mp (e1'.symm.trans e1)
          rw [hz', this]
      · rw [Nat.sub_self]; show (0 : Int) = v1.toInt * 0 + 0; omega
    refine ⟨fun _ => main 9 (Or.inr rfl), fun q3 => main 27 (Or.inl ⟨rfl, ?_⟩)⟩
    have : ¬ (68719476736 : Int) ≤ v1.toInt := fun w => q3 ((L_le _ _).mpr w)
    omega
