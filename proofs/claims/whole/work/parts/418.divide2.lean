section DE
variable {G : Shp} {ad ro : Nat → Nat} {D : Dat} {T a b n m : Nat} {x y : Int} {post : Dat → Prop}
theorem or_z (w : Int32) : w ||| 0 = w := Int32.or_zero
/-- both are shifted up, then divided -/
theorem div_shift (H : RG G ad ro) (hb : Nm ad D T b y m) (hT : T ≤ 690000) (hm : 1 ≤ m) (hmn : m ≤ n) (hn : n < 599) {s : Nat} (hs : s < 30) (hv : lmm ad D b (m - 1) * 2 ^ s < 1073741824) (dl : dg30 (af ad D 503) n) {X : Int} (hX : pv 1073741824 (af ad D 503) n = X) {A1 : Int32} (k : ∀ D' qs ls, qs ≤ n → ls ≤ m → BgK ad ro D D' → DivV ad D' (X / az y) (X % az y) qs ls → post D') : ∃ f, X9_divide_l114 G post (ad 500) A1 (nI b) (ad 501) (ad 503) (ad 504) (ad 505) f (nI n) (nI m) (nI s) 0 D := by
  have hb1 := hb.1
  have dB := hb.2.2.1
  have hYv := hb.2.2.2.2
  have topn := hb.2.2.2.1 (by omega)
  have b0 := dB (m - 1) (by omega)
  have ne3 : ad 500 ≠ ad 503 := H.ne (by omega) (by omega) (by omega)
  have ne4 : ad 501 ≠ ad 504 := H.ne (by omega) (by omega) (by omega)
  have h34 : ad 503 ≠ ad 504 := H.ne (by omega) (by omega) (by omega)
  have h43 : ad 504 ≠ ad 503 := H.ne (by omega) (by omega) (by omega)
  have hutop := up_top (f := lmm ad D b) hm (by omega) hv b0.1
  have hps := pow_p s
  -- behind the divisor's shift
  have part2 : ∀ E : Dat, BgK ad ro D E → (∀ j, j < m → af ad E 504 j = upD (lmm ad D b) s j) → (∀ j, af ad E 503 j = af ad D 503 j) → ∀ v : Int32, v.toInt = tpD (af ad D 503) s n → ∃ f, X9_divide_l215 G post (ad 500) A1 (nI b) (ad 501) (ad 503) (ad 504) (ad 505) f (nI n) (nI m) (nI s) (nI n - 1) (dI E (ad 503) n v) := by
    intro E fE e4 e3 v hv2
    have tb := tpD_b (s := s) (by omega) dl (Nat.le_refl n)
    have last : ∀ F : Dat, BgK ad ro D F → (∀ j, j < m → af ad F 504 j = upD (lmm ad D b) s j) → (∀ j, j < n → af ad F 503 j = upD (af ad D 503) s j) → af ad F 503 n = tpD (af ad D 503) s n → ∃ f, X9_divide_l292 G post (ad 500) A1 (nI b) (ad 501) (ad 503) (ad 504) (ad 505) f (nI m) (nI s) (nI n - nI m) (dI F (ad 500) 7 ((nI n - nI m) + 1)) := by
      intro F fF g4 g3 gn
      have q4 : ∀ j, af ad (dI F (ad 500) 7 ((nI n - nI m) + 1)) 504 j = af ad F 504 j := fun j => af_n H (by omega) (by omega) (by omega)
      have q3 : ∀ j, af ad (dI F (ad 500) 7 ((nI n - nI m) + 1)) 503 j = af ad F 503 j := fun j => af_n H (by omega) (by omega) (by omega)
      have eY : pv 1073741824 (upD (lmm ad D b) s) m = 2 ^ s * az y := by
        have := upD_pv (f := lmm ad D b) (s := s) (by omega) m
        rw [hutop.1, Int.zero_mul, Int.add_zero, ← hYv] at this
        exact this
      have eX : pv 1073741824 (af ad (dI F (ad 500) 7 ((nI n - nI m) + 1)) 503) (n + 1) = 2 ^ s * X := by
        rw [pv_congr (fun j _ => q3 j), ← hX, ← upD_pv (f := af ad D 503) (s := s) (by omega) n]
        show pv 1073741824 (af ad F 503) n + af ad F 503 n * _ = _
        rw [gn, pv_congr g3]
      refine div_loop H hm hmn hn hs (X := X) (Y := az y) ?_ (fun j hj => ?_) eX (fun j hj => ?_) ?_ ?_ ?_ (fun D' qs ls h1 h2 f' d' => k D' qs ls (by omega) h2 (fF.tr ((bkF H (Or.inr rfl)).tr f')) d')
      · rw [dI_s, nI_subN hmn (by omega), nI_1]
      · rw [q3]
        by_cases w : j = n
        · rw [w, gn]
          have : (2 ^ s : Int) ≤ 2 ^ 30 := by
            have := Nat.pow_le_pow_right (n := 2) (by omega) (show s ≤ 30 by omega)
            exact_mod_cast this
          have e30 : (2 ^ 30 : Int) = 1073741824 := rfl
          omega
        · rw [g3 j (by omega)]; exact upD_b (by omega) dl (by omega)
      · rw [q4, g4 j hj]; exact upD_b (by omega) dB hj
      · rw [pv_congr (fun j _ => q4 j), pv_congr g4, eY]
      · rw [q4, g4 (m - 1) (by omega)]
        unfold upD
        rw [hutop.2]
        have h1 := tpD_b (s := s) (by omega) dB (k := m - 1) (by omega)
        have h2 : 1 * 1 ≤ 2 ^ s * lmm ad D b (m - 1) := Int.mul_le_mul (by omega) (by omega) (by decide) (by omega)
        omega
      · have h1 : X < 1073741824 ^ n := by rw [← hX]; exact pv_lt (by decide) dl
        have h2 : 1073741824 ^ (m - 1) ≤ az y := by rw [hYv]; exact pv_pos (by decide) (by omega) dB topn
        have h3 : (1073741824 : Int) ^ n = 1073741824 ^ (n - m + 1) * 1073741824 ^ (m - 1) := by rw [← Int.pow_add]; congr 1; omega
        have h4 : (1073741824 : Int) ^ (n - m + 1) * 1073741824 ^ (m - 1) ≤ 1073741824 ^ (n - m + 1) * az y := Int.mul_le_mul_of_nonneg_left h2 (Int.pow_nonneg (by decide))
        have h5 : 2 ^ s * X < 2 ^ s * (1073741824 ^ (n - m + 1) * az y) := Int.mul_lt_mul_of_pos_left (by omega) hps
        have h6 : (1073741824 : Int) ^ (n - m + 1) * (2 ^ s * az y) = 2 ^ s * (1073741824 ^ (n - m + 1) * az y) := by grind
        omega
    have key : ∀ i (F : Dat), i ≤ n → BgK ad ro D F → (∀ j, j < m → af ad F 504 j = upD (lmm ad D b) s j) → (∀ j, i ≤ j → j < n → af ad F 503 j = upD (af ad D 503) s j) → (∀ j, j < i → af ad F 503 j = af ad D 503 j) → af ad F 503 n = tpD (af ad D 503) s n → X9_divide_l215 G post (ad 500) A1 (nI b) (ad 501) (ad 503) (ad 504) (ad 505) (i + 1) (nI n) (nI m) (nI s) (nI i - 1) F := by
      intro i
      induction i with
      | zero =>
        intro F _ fF g4 g3 _ gn
        show X9_divide_l215_b G post (ad 500) A1 (nI b) (ad 501) (ad 503) (ad 504) (ad 505) _ _ _ _ _ _
        exact ⟨fun _ => last F fF g4 (fun j hj => g3 j (by omega) hj) gn, fun q => absurd m1_neg q⟩
      | succ i ih =>
        intro F hi fF g4 g3 glo gn
        rw [nI_sub1 (by omega), Nat.add_sub_cancel]
        show X9_divide_l215_b G post (ad 500) A1 (nI b) (ad 501) (ad 503) (ad 504) (ad 505) _ _ _ _ _ _
        refine ⟨fun w => absurd w (nI_nneg (by omega)), fun _ => ⟨l_in H (by omega), ?_⟩⟩
        have hi0 := dl i (by omega)
        have fin : ∀ w : Int32, w.toInt = upD (af ad D 503) s i → X9_divide_l215 G post (ad 500) A1 (nI b) (ad 501) (ad 503) (ad 504) (ad 505) (i + 1) (nI n) (nI m) (nI s) (nI i - 1) (dI F (ad 503) i w) := by
          intro w hw
          refine ih _ (by omega) (fF.tr (bkA H (Or.inl rfl))) (fun j hj => by rw [af_n H (by omega) (by omega) (by omega)]; exact g4 j hj) (fun j h1 h2 => ?_) (fun j hj => by rw [af_o (by omega)]; exact glo j (by omega)) (by rw [af_o (by omega)]; exact gn)
          by_cases u : j = i
          · rw [u, af_at, hw]
          · rw [af_o u]; exact g3 j (by omega) h2
        have xl : (F.1 (ad 503) i).toInt = af ad D 503 i := glo i (by omega)
        have s1 : (((F.1 (ad 503) i) <<< (nI s &&& 31)) &&& 1073741823).toInt = 2 ^ s * (af ad D 503 i % 2 ^ (30 - s)) := by rw [shl_m (by omega), xl]
        unfold X9_divide_j267 X9_divide_j268
        rw [nI_clamp (n := i) (by omega), or_z, nI_m1']
        refine ⟨fun q => ⟨H.left_.2.1, l_in H (by omega), fin _ ?_⟩, fun q => ⟨fun q2 => ⟨H.left_.2.1, l_in H (by omega), fin _ ?_⟩, fun q2 => ?_⟩⟩
        · have hi1 : i = 0 := by
            by_cases w : i = 0
            · exact w
            · exact absurd q (nI_nle (by omega) (by omega))
          rw [s1]
          unfold upD tpD
          rw [if_pos hi1]; omega
        · have hs0 : s = 0 := by
            by_cases w : s = 0
            · exact w
            · exact absurd q2 (nI_nle (by omega) (by omega))
          rw [s1]
          unfold upD
          rw [upD_0 hs0 dl (by omega)]; omega
        · have hi1 : i ≠ 0 := fun w => q (by rw [w]; decide)
          rw [nI_sub1 (by omega), nI_clamp (n := i - 1) (by omega)]
          have xl2 : (F.1 (ad 503) (i - 1)).toInt = af ad D 503 (i - 1) := glo (i - 1) (by omega)
          have s2 : ((F.1 (ad 503) (i - 1)) >>> (30 - nI s &&& 31)).toInt = tpD (af ad D 503) s i := by
            rw [shr_s2 hs, xl2]
            unfold tpD
            rw [if_neg hi1]
          have hb3 := tpD_b (s := s) (by omega) dl (k := i) (by omega)
          have fin2 : ∀ w : Int32, w.toInt = upD (af ad D 503) s i → X9_divide_l215 G post (ad 500) A1 (nI b) (ad 501) (ad 503) (ad 504) (ad 505) (i + 1) (nI n) (nI m) (nI s) (nI (i - 1)) (dI F (ad 503) i w) := fun w hw => by rw [← nI_sub1 (by omega)]; exact fin w hw
          refine ⟨l_in H (by omega), H.left_.2.1, l_in H (by omega), fin2 _ ?_⟩
          have h3 := Int.emod_nonneg (af ad D 503 i) (show (2 ^ (30 - s) : Int) ≠ 0 by have := pow_p (30 - s); omega)
          rw [I_or s h3 (by rw [s1, Int.mul_comm]) (by rw [s2]; exact hb3.1) (by rw [s2]; exact hb3.2), s1, s2]
          rfl
    refine ⟨_, key n _ (Nat.le_refl n) (fE.tr (bkA H (Or.inl rfl))) (fun j hj => by rw [af_n H (by omega) (by omega) (by omega)]; exact e4 j hj) (fun j h1 h2 => by omega) (fun j hj => by rw [af_o (by omega)]; exact e3 j) (by rw [af_at]; exact hv2)⟩
  have key := up_loop (L := fun f i (E : Dat) => X9_divide_l114 G post (ad 500) A1 (nI b) (ad 501) (ad 503) (ad 504) (ad 505) f (nI n) (nI m) (nI s) (nI i) E) m (fun i E => BgK ad ro D E ∧ (∀ j, j < i → af ad E 504 j = upD (lmm ad D b) s j) ∧ ∀ j, af ad E 503 j = af ad D 503 j) ?_ ?_ 0 D (by omega) ⟨BgK.rf, fun j hj => by omega, fun _ => rfl⟩
  · exact ⟨_, key⟩
  · intro f E hE
    obtain ⟨fE, e4, e3⟩ := hE
    show X9_divide_l114_b G post (ad 500) A1 (nI b) (ad 501) (ad 503) (ad 504) (ad 505) _ _ _ _ _ _
    unfold X9_divide_l114_b X9_divide_j209
    rw [nI_clamp (n := n) (by omega)]
    refine ⟨fun _ => ⟨fun q => ⟨H.left_.2.1, l_in H (by omega), part2 E fE e4 e3 _ ?_⟩, fun q => ?_⟩, fun q => absurd (nI_le (Nat.le_refl _) (by omega)) q⟩
    · have hs0 : s = 0 := by
        by_cases w : s = 0
        · exact w
        · exact absurd q (nI_nle (by omega) (by omega))
      unfold tpD
      rw [hs0, if_neg (by omega)]
      have := dl (n - 1) (by omega)
      exact (Int.ediv_eq_zero_of_lt this.1 this.2).symm
    · rw [nI_sub1 (n := n) (by omega), nI_clamp (n := n - 1) (by omega)]
      refine ⟨l_in H (by omega), H.left_.2.1, l_in H (by omega), ?_⟩
      rw [← nI_sub1 (n := n) (by omega)]
      refine part2 E fE e4 e3 _ ?_
      rw [shr_s2 hs]
      have xl2 : (E.1 (ad 503) (n - 1)).toInt = af ad D 503 (n - 1) := e3 (n - 1)
      rw [xl2]
      unfold tpD
      rw [if_neg (by omega)]
  · intro f i E hi hE hk
    obtain ⟨fE, e4, e3⟩ := hE
    show X9_divide_l114_b G post (ad 500) A1 (nI b) (ad 501) (ad 503) (ad 504) (ad 505) _ _ _ _ _ _
    have bE := hb.fr (fE.1.lo (by omega)) (Nat.le_refl T)
    unfold X9_divide_l114_b X9_divide_j172 X9_divide_j173
    rw [show nI b + 1 + nI i = nI (b + 1 + i) by rw [nI_1, nI_add], nI_1, nI_clamp (n := b + 1 + i) (by omega), nI_clamp (n := i) (by omega), or_z]
    refine ⟨fun w => absurd w (nI_ge hi (by omega)), fun _ => ⟨m_in H (by omega), ?_⟩⟩
    have xl : ∀ j, j < m → (E.1 (ad 501) (b + 1 + j)).toInt = lmm ad D b j := fun j hj => by
      unfold lmm
      rw [fE.1.2.1 _ (by omega)]
    have hi0 := dB i hi
    have s1 : (((E.1 (ad 501) (b + 1 + i)) <<< (nI s &&& 31)) &&& 1073741823).toInt = 2 ^ s * (lmm ad D b i % 2 ^ (30 - s)) := by rw [shl_m (by omega), xl i hi]
    have fin : ∀ w : Int32, w.toInt = upD (lmm ad D b) s i → X9_divide_l114 G post (ad 500) A1 (nI b) (ad 501) (ad 503) (ad 504) (ad 505) f (nI n) (nI m) (nI s) (nI (i + 1)) (dI E (ad 504) i w) := by
      intro w hw
      refine hk _ ⟨fE.tr (bkA H (Or.inr (Or.inl rfl))), fun j hj => ?_, fun j => by rw [af_n H (by omega) (by omega) (by omega)]; exact e3 j⟩
      by_cases u : j = i
      · rw [u, af_at, hw]
      · rw [af_o u]; exact e4 j (by omega)
    refine ⟨fun q => ⟨H.by_.2.1, b_in H (by omega), fin _ ?_⟩, fun q => ⟨fun q2 => ⟨H.by_.2.1, b_in H (by omega), fin _ ?_⟩, fun q2 => ?_⟩⟩
    · have hi1 : i = 0 := by
        by_cases w : i = 0
        · exact w
        · exact absurd q (nI_nle (by omega) (by omega))
      rw [s1]
      unfold upD tpD
      rw [if_pos hi1]; omega
    · have hs0 : s = 0 := by
        by_cases w : s = 0
        · exact w
        · exact absurd q2 (nI_nle (by omega) (by omega))
      rw [s1]
      unfold upD
      rw [upD_0 hs0 dB hi]; omega
    · have hi1 : i ≠ 0 := fun w => q (by rw [w]; decide)
      rw [nI_add, nI_clamp (n := b + i) (by omega)]
      have xl2 : (E.1 (ad 501) (b + i)).toInt = lmm ad D b (i - 1) := by
        rw [← xl (i - 1) (by omega), show b + 1 + (i - 1) = b + i by omega]
      have s2 : ((E.1 (ad 501) (b + i)) >>> (30 - nI s &&& 31)).toInt = tpD (lmm ad D b) s i := by
        rw [shr_s2 hs, xl2]
        unfold tpD
        rw [if_neg hi1]
      have hb3 := tpD_b (s := s) (by omega) dB (k := i) (by omega)
      refine ⟨m_in H (by omega), H.by_.2.1, b_in H (by omega), fin _ ?_⟩
      have h3 := Int.emod_nonneg (lmm ad D b i) (show (2 ^ (30 - s) : Int) ≠ 0 by have := pow_p (30 - s); omega)
      rw [I_or s h3 (by rw [s1, Int.mul_comm]) (by rw [s2]; exact hb3.1) (by rw [s2]; exact hb3.2), s1, s2]
      rfl
theorem divide9_sp (H : RG G ad ro) (ha : Nm ad D T a x n) (hb : Nm ad D T b y m) (hT : T ≤ 690000) (hn : n < 599) (hy : y ≠ 0) (k : ∀ D' qs ls, qs ≤ n → ls ≤ m → BgK ad ro D D' → DivV ad D' (az x / az y) (az x % az y) qs ls → post D') : X9_divide_wp G D (ad 500) (nI a) (nI b) post := by
  have ha1 := ha.1
  have hb1 := hb.1
  have hm : m ≠ 0 := fun w => hy (hb.z0.mpr w)
  have ne3 : ad 500 ≠ ad 503 := H.ne (by omega) (by omega) (by omega)
  refine ⟨H.x_, _, H.mem_.1, H.mem_.2.1, _, H.left_.1, H.left_.2.1, _, H.by_.1, H.by_.2.1, _, H.quo_.1, H.quo_.2.1, size_sp H ha hT (size_sp H hb hT ?_)⟩
  have key := up_loop (L := fun f i (E : Dat) => X9_divide_l16 G post (ad 500) (nI a) (nI b) (ad 501) (ad 503) (ad 504) (ad 505) f (nI n) (nI m) (nI i) E) n (fun i E => BgK ad ro D E ∧ ∀ j, j < i → af ad E 503 j = lmm ad D a j) ?_ ?_ 0 D (by omega) ⟨BgK.rf, fun j hj => by omega⟩
  · exact ⟨_, key⟩
  · intro f E hE
    obtain ⟨fE, e3⟩ := hE
    show X9_divide_l16_b G post (ad 500) (nI a) (nI b) (ad 501) (ad 503) (ad 504) (ad 505) _ _ _ _ _
    refine ⟨fun _ => ?_, fun q => absurd (nI_le (Nat.le_refl _) (by omega)) q⟩
    have fF : BgK ad ro D (dI (dI E (ad 500) 6 (nI n)) (ad 500) 7 0) := fE.tr ((bkF H (Or.inl rfl)).tr (bkF H (Or.inr rfl)))
    have g3 : ∀ j, j < n → af ad (dI (dI E (ad 500) 6 (nI n)) (ad 500) 7 0) 503 j = lmm ad D a j := fun j hj => by rw [af_n H (by omega) (by omega) (by omega), af_n H (by omega) (by omega) (by omega)]; exact e3 j hj
    have g6 : (dI (dI E (ad 500) 6 (nI n)) (ad 500) 7 0).1 (ad 500) 6 = nI n := by rw [dI_o _ _ _ (by decide), dI_s]
    have g7 : (dI (dI E (ad 500) 6 (nI n)) (ad 500) 7 0).1 (ad 500) 7 = nI 0 := dI_s _ _ _ _
    generalize dI (dI E (ad 500) 6 (nI n)) (ad 500) 7 0 = F at *
    have hf := fF.1.lo (show T ≤ 700000 by omega)
    have aF := ha.fr hf (Nat.le_refl T)
    have bF := hb.fr hf (Nat.le_refl T)
    have dl : dg30 (af ad F 503) n := fun j hj => by rw [g3 j hj]; exact ha.2.2.1 j hj
    have hX : pv 1073741824 (af ad F 503) n = az x := by rw [pv_congr g3, ← ha.2.2.2.2]
    have hyp : 0 < az y := by unfold az; split <;> omega
    have hxn := az_nn x
    refine compareSizes_sp H aF bF hT ⟨fun q => ?_, fun q => ?_⟩
    · have hge : az y ≤ az x := by
        by_cases w : az x < az y
        · have ec : cmp3 (az x) (az y) = -1 := if_pos w
          rw [ec] at q
          exact absurd q (by decide)
        · omega
      have hmn : m ≤ n := hb.sz (Int.lt_of_le_of_lt hge ha.lt)
      refine ⟨fun q1 => ?_, fun q1 => ?_⟩
      · -- the shift
        have hv0 := bF.2.2.1 (m - 1) (by omega)
        have hvn := bF.2.2.2.1 (by omega)
        generalize hvd : lmm ad F b (m - 1) = v at *
        have ev : (F.1 (ad 501) (b + m)).toInt = v := by rw [← hvd]; unfold lmm; rw [show b + 1 + (m - 1) = b + m by omega]
        have loop : ∀ d s : Nat, s + d = 29 → v * 2 ^ s < 1073741824 → X9_divide_l88 G post (ad 500) (nI a) (nI b) (ad 501) (ad 503) (ad 504) (ad 505) (d + 1) (nI n) (nI m) (nI s) F := by
          intro d
          induction d with
          | zero =>
            intro s hsd hvs
            show X9_divide_l88_b G post (ad 500) (nI a) (nI b) (ad 501) (ad 503) (ad 504) (ad 505) _ _ _ _ _
            unfold X9_divide_l88_b
            rw [nI_add, nI_clamp (n := b + m) (by omega)]
            have hsh : ((F.1 (ad 501) (b + m)) <<< (nI s &&& 31)).toInt = v * 2 ^ s := by
              rw [I_shl _ _ s (shk s (by omega)), ev, bm32 (by have := Int.mul_nonneg hv0.1 (Int.le_of_lt (pow_p s)); omega) (by omega)]
            refine ⟨m_in H (by omega), fun _ => ?_, fun w => absurd ((I_le _ _).mpr ?_) w⟩
            · exact div_shift H bF hT (by omega) hmn hn (by omega) (by rw [hvd]; exact hvs) dl hX (fun D' qs ls h1 h2 f' d' => k D' qs ls h1 h2 (fF.tr f') d')
            · rw [hsh, show s = 29 by omega]
              show (536870912 : Int) ≤ v * 536870912
              omega
          | succ d ih =>
            intro s hsd hvs
            show X9_divide_l88_b G post (ad 500) (nI a) (nI b) (ad 501) (ad 503) (ad 504) (ad 505) _ _ _ _ _
            unfold X9_divide_l88_b
            rw [nI_add, nI_1, nI_clamp (n := b + m) (by omega)]
            have hsh : ((F.1 (ad 501) (b + m)) <<< (nI s &&& 31)).toInt = v * 2 ^ s := by
              rw [I_shl _ _ s (shk s (by omega)), ev, bm32 (by have := Int.mul_nonneg hv0.1 (Int.le_of_lt (pow_p s)); omega) (by omega)]
            refine ⟨m_in H (by omega), fun _ => ?_, fun w => ih (s + 1) (by omega) ?_⟩
            · exact div_shift H bF hT (by omega) hmn hn (by omega) (by rw [hvd]; exact hvs) dl hX (fun D' qs ls h1 h2 f' d' => k D' qs ls h1 h2 (fF.tr f') d')
            · have : ¬ (536870912 : Int32).toInt ≤ v * 2 ^ s := fun u => w ((I_le _ _).mpr (by rw [hsh]; exact u))
              have e5 : (536870912 : Int32).toInt = 536870912 := rfl
              rw [Int.pow_succ, ← Int.mul_assoc]
              omega
        exact ⟨_, loop 29 0 (by omega) (by rw [Int.pow_zero]; omega)⟩
      · have hm1 : m = 1 := by
          rw [show (1 : Int32) = nI 1 by decide, nI_eq (by omega) (by omega)] at q1
          exact q1
        subst hm1
        rw [nI_1, nI_clamp (by omega)]
        have ed : (F.1 (ad 501) (b + 1)).toInt = az y := by
          rw [bF.2.2.2.2]
          show _ = (0 : Int) + lmm ad F b 0 * 1
          unfold lmm
          rw [Nat.add_zero]; omega
        have hlt := hb.lt
        rw [Int.pow_one] at hlt
        have hn1 : 1 ≤ n := hmn
        refine ⟨m_in H (by omega), divShort_sp H hn1 (by omega) g6 dl (by rw [ed]; omega) (by rw [ed]; exact hlt) (fun D' qs ls h1 h2 f' d' => k D' qs ls h1 h2 (fF.tr f') ?_)⟩
        rw [ed, hX] at d'
        exact d'
    · have hlt : az x < az y := by
        by_cases w : az x < az y
        · exact w
        · exfalso
          apply q
          unfold cmp3
          rw [if_neg w]
          by_cases w2 : az x = az y
          · rw [if_pos w2]; decide
          · rw [if_neg w2]; decide
      have hnm : n ≤ m := ha.sz (Int.lt_trans hlt hb.lt)
      refine k F 0 n (by omega) hnm fF ⟨g7, g6, fun i hi => by omega, fun w => by omega, ?_, dl, fun w => ?_, ?_⟩
      · rw [Int.ediv_eq_zero_of_lt hxn hlt]; rfl
      · rw [g3 _ (by omega)]; exact ha.2.2.2.1 w
      · rw [hX, Int.emod_eq_of_lt hxn hlt]
  · intro f i E hi hE hk
    obtain ⟨fE, e3⟩ := hE
    show X9_divide_l16_b G post (ad 500) (nI a) (nI b) (ad 501) (ad 503) (ad 504) (ad 505) _ _ _ _ _
    refine ⟨fun w => absurd w (nI_ge hi (by omega)), fun _ => ?_⟩
    rw [show nI a + 1 + nI i = nI (a + 1 + i) by rw [nI_1, nI_add], nI_1, nI_clamp (by omega), nI_clamp (by omega)]
    refine ⟨m_in H (by omega), l_in H (by omega), hk _ ⟨fE.tr (bkA H (Or.inl rfl)), fun j hj => ?_⟩⟩
    by_cases w : j = i
    · rw [w, af_at]
      unfold lmm
      rw [fE.1.2.1 _ (by omega)]
    · rw [af_o w]; exact e3 j (by omega)
end DE
