theorem sh_ok : ∀ k, k < 64 → (((nI k).toInt64 &&& 63).toBitVec.smod 64).toNat = k := by decide +kernel
theorem nI_of_int {x : Int32} {n : Nat} (h : x.toInt = (n : Int)) (hn : n < 2 ^ 31) : x = nI n := Int32.toInt_inj.mp (by rw [h, nI_toInt hn])
theorem pow9 : (2 : Int) ^ 9 = 512 := by decide
theorem pow27 : (2 : Int) ^ 27 = 134217728 := by decide
theorem div_inner {G : Shp} {post : Int64 → Dat → Prop} {a la i : Nat} {v1 v4 v9 : Int64} {k50 : Int32 → Int64 → Int64 → Int32 → Dat → Prop} {δ L : Int} {b : Nat} {v8 : Int32} {D : Dat} (hv1 : v1.toInt = δ) (hδ : 1 < δ) (hδ2 : δ < 18014398509481984) (hb : (b = 27 ∧ δ < 68719476736) ∨ b = 9) (hm : v4.toBitVec.toNat = 2 ^ b - 1) (hl0 : 0 ≤ v9.toInt) (hl1 : v9.toInt < 134217728) (hL0 : 0 ≤ L) (hL1 : L < δ) (hv8 : v8 = nI i) (hi : i < 12)
    (k : ∀ share left : Int64, 0 ≤ share.toInt → share.toInt < 134217728 → 0 ≤ left.toInt → left.toInt < δ → L * 134217728 + v9.toInt = δ * share.toInt + left.toInt → vp_in v8 (G.2.2.1 la) ∧ k50 (nI b) v4 left (v8 + (-1)) (dJ D la i share)) :
    ∀ (j t : Nat) (left share : Int64) (v13 : Int32), t = b * j → t ≤ 27 → v13.toInt = (t : Int) - b → 0 ≤ share.toInt → 0 ≤ left.toInt → left.toInt < δ → L * 2 ^ (27 - t) + v9.toInt / 2 ^ t = δ * share.toInt + left.toInt → X0_divide_l73 G post a v1 la k50 (j + 1) (nI b) v4 left v8 v9 share v13 D := by
  intro j
  induction j with
  | zero =>
    intro t left share v13 ht ht2 h13 hs0 hf0 hf1 inv
    obtain rfl : t = 0 := by rw [ht]; omega
    have hsh := div_bound (t := 0) (by omega) hL1 hl1 (by omega) hf0 inv
    show X0_divide_l73_b G post a v1 la k50 _ _ _ _ _ _ _ _ _
    unfold X0_divide_l73_b
    refine ⟨fun _ => ?_, fun q => absurd ?_ q⟩
    · have e : v8.toNatClampNeg = i := by rw [hv8]; exact nI_clamp (by omega)
      rw [e]
      exact k share left hs0 (by simpa using hsh) hf0 hf1 (by simpa using inv)
    · rw [I_lt, h13]
      show (0 : Int) - b < 0
      rcases hb with h | h <;> omega
  | succ j ih =>
    intro t left share v13 ht ht2 h13 hs0 hf0 hf1 inv
    have hbt : b ≤ t := by rw [ht, Nat.mul_succ]; exact Nat.le_add_left _ _
    have hsh := div_bound (by omega) hL1 hl1 ht2 hf0 inv
    have hb27 : b ≤ 27 := by omega
    have hv13 : v13 = nI (t - b) := nI_of_int (by rw [h13]; omega) (by omega)
    show X0_divide_l73_b G post a v1 la k50 _ _ _ _ _ _ _ _ _
    unfold X0_divide_l73_b
    refine ⟨fun q => absurd q (by rw [hv13]; exact nI_pos (by omega)), fun _ => ⟨fun q => ?_, ?_⟩⟩
    · rw [q] at hv1
      have : (0 : Int64).toInt = 0 := rfl
      omega
    · have P0 : (0 : Int) < 2 ^ b := Int.pow_pos (by decide)
      have hpc0 := Int.emod_nonneg (v9.toInt / 2 ^ (t - b)) (show (2 : Int) ^ b ≠ 0 by omega)
      have hpc1 := Int.emod_lt_of_pos (v9.toInt / 2 ^ (t - b)) P0
      have hfit : (left.toInt + 1) * 2 ^ b ≤ 9223372036854775808 := by
        rcases hb with ⟨rfl, h⟩ | rfl
        · rw [pow27]; omega
        · rw [pow9]; omega
      have hfe : (left.toInt + 1) * 2 ^ b = left.toInt * 2 ^ b + 2 ^ b := by grind
      have hl2 : 0 ≤ left.toInt * 2 ^ b := Int.mul_nonneg hf0 (by omega)
      have e1 : (left <<< ((nI b).toInt64 &&& 63)).toInt = left.toInt * 2 ^ b := L_shl _ _ b (sh_ok b (by omega)) (by omega) (by omega)
      have e2 : (v9 >>> (v13.toInt64 &&& 63)).toInt = v9.toInt / 2 ^ (t - b) := by rw [hv13]; exact L_shr _ _ (t - b) (sh_ok _ (by omega))
      have e3 : ((v9 >>> (v13.toInt64 &&& 63)) &&& v4).toInt = v9.toInt / 2 ^ (t - b) % 2 ^ b := by rw [L_and _ b (by omega) hm, e2]
      have e4 : ((left <<< ((nI b).toInt64 &&& 63)) + ((v9 >>> (v13.toInt64 &&& 63)) &&& v4)).toInt = left.toInt * 2 ^ b + v9.toInt / 2 ^ (t - b) % 2 ^ b := by
        rw [L_add (by rw [e1, e3]; omega) (by rw [e1, e3]; omega), e1, e3]
      generalize hnow : (left <<< ((nI b).toInt64 &&& 63)) + ((v9 >>> (v13.toInt64 &&& 63)) &&& v4) = now at e4 ⊢
      have hn0 : 0 ≤ now.toInt := by rw [e4]; omega
      have e5 : (now / v1).toInt = now.toInt / δ := by rw [L_div hn0 (by rw [hv1]; omega), hv1]
      have e6 : (now - now / v1 * v1).toInt = now.toInt % δ := by rw [L_rem hn0 (by rw [hv1]; omega), hv1]
      have hq0 : 0 ≤ now.toInt / δ := Int.ediv_nonneg hn0 (by omega)
      have hstep := div_step (b := b) (by omega : 0 < δ) hbt ht2 inv
      rw [← e4] at hstep
      have hr0 := Int.emod_nonneg now.toInt (show δ ≠ 0 by omega)
      have hr1 := Int.emod_lt_of_pos now.toInt (show 0 < δ by omega)
      have hsh2 := div_bound (t := t - b) (by omega) hL1 hl1 (by omega) hr0 hstep
      have hp1 : (2 : Int) ^ (27 - (t - b)) ≤ 2 ^ 27 := ipow_le (by decide) (by omega)
      rw [pow27] at hp1
      have hs2 : 0 ≤ share.toInt * 2 ^ b := Int.mul_nonneg hs0 (by omega)
      have e7 : (share <<< ((nI b).toInt64 &&& 63)).toInt = share.toInt * 2 ^ b := L_shl _ _ b (sh_ok b (by omega)) (by omega) (by omega)
      have e8 : ((share <<< ((nI b).toInt64 &&& 63)) + now / v1).toInt = share.toInt * 2 ^ b + now.toInt / δ := by
        rw [L_add (by rw [e7, e5]; omega) (by rw [e7, e5]; omega), e7, e5]
      refine ih (t - b) _ _ _ (by rw [ht, Nat.mul_succ]; omega) (by omega) ?_ (by rw [e8]; omega) (by rw [e6]; exact hr0) (by rw [e6]; exact hr1) (by rw [e8, e6]; exact hstep)
      have hnb : (nI b).toInt = (b : Int) := nI_toInt (by omega)
      rw [I_sub (by rw [h13, hnb]; omega) (by rw [h13, hnb]; omega), h13, hnb]
      omega
