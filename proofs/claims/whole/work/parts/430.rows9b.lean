section R8
variable {G : Shp} {ad ro : Nat → Nat} {D D' : Dat} {S : AS} {Z : Dat} {r : Nat} {A : AR} {post : Int32 → Dat → Prop}
theorem stR_same (S : AS) (r : Nat) (A : AR) : (stR S r A).1 r = A := if_pos rfl
theorem fill9_sp (H : RG G ad ro) (hK : OKS S) (h : RfV ad ro Z D S) {a t m v b : Int32} (k : ∀ D', RfV ad ro Z D' (sFill S a t m v b).2 → post (sFill S a t m v b).1 D') : X9_fill_wp G D (ad 500) a t m v b post := by
  unfold sFill at k
  refine ⟨H.x_, _, H.val_.1, H.val_.2.1, _, H.has_.1, H.has_.2.1, isRow_if (fun n0 => ⟨fun _ => ?_, fun q => absurd rfl q⟩) (fun r0 => ⟨fun q => absurd q (by decide), fun _ => ?_⟩)⟩
  · rw [if_neg (fun w => n0 w.1)] at k
    exact isW_sp H h (by decide) (fun D' c => ⟨isB_0, k D' c⟩)
  refine isTick9_if (fun n0 => ⟨fun q => absurd rfl q, fun _ => ?_⟩) (fun t0 => ⟨fun _ => ?_, fun q => absurd q (by decide)⟩)
  · rw [if_neg (fun w => n0 w.2)] at k
    exact isW_sp H h (by decide) (fun D' c => ⟨isB_0, k D' c⟩)
  rw [if_pos ⟨r0, t0⟩] at k
  have hr := tn_R r0
  have ht := tn_T t0
  have e1 : (1 : Int32).toInt = 1 := rfl
  have e1L : (1 : Int64).toInt = 1 := rfl
  have e40 : (40 : Int32).toInt = 40 := rfl
  have t0' := t0
  unfold okT at t0'
  have es : (40 - t).toInt = 40 - t.toInt := by rw [I_sub (by rw [e40]; omega) (by rw [e40]; omega), e40]
  have ref : ¬ (1 ≤ m.toInt ∧ m.toInt ≤ 40 - t.toInt ∧ isN v.toInt ∧ isN (v.toInt + (m.toInt - 1) * b.toInt)) → X9_fill_j60 G post (ad 500) a t m v b (ad 510) (ad 515) D := fun w => by
    rw [if_neg w] at k
    exact isW_sp H h (by decide) (fun D' c => ⟨isB_0, k D' c⟩)
  refine ⟨fun q => ref (fun w => ?_), fun q => ⟨fun q2 => ref (fun w => ?_), fun q2 => ?_⟩⟩
  · have := (I_lt _ _).mp q
    omega
  · have := (I_lt _ _).mp q2
    rw [es] at this
    omega
  have m1 : ¬ m.toInt < (1 : Int32).toInt := fun z => q ((I_lt _ _).mpr z)
  have m2 : ¬ (40 - t).toInt < m.toInt := fun z => q2 ((I_lt _ _).mpr z)
  rw [es] at m2
  have hb := I_rng b
  have hvr := I_rng v
  have em : (m.toInt64 - 1).toInt = m.toInt - 1 := by rw [L_sub (by rw [L_i2l, e1L]; omega) (by rw [L_i2l, e1L]; omega), L_i2l, e1L]
  have hpb := mul_abs_le (X := 39) (Y := 2147483648) (x := m.toInt - 1) (y := b.toInt) (by omega) (by omega) (by omega) (by omega)
  have ep : ((m.toInt64 - 1) * b.toInt64).toInt = (m.toInt - 1) * b.toInt := by
    rw [L_mul (by rw [L_i2l, em]; omega) (by rw [L_i2l, em]; omega), L_i2l, em]
  have el : (v.toInt64 + (m.toInt64 - 1) * b.toInt64).toInt = v.toInt + (m.toInt - 1) * b.toInt := by
    rw [L_add (by rw [L_i2l, ep]; omega) (by rw [L_i2l, ep]; omega), L_i2l, ep]
  refine isNumber9_if (fun n0 => ⟨fun _ => ref (fun w => n0 (by rw [L_i2l]; exact w.2.2.1)), fun q => absurd rfl q⟩) (fun v0 => ⟨fun q => absurd q (by decide), fun _ => ?_⟩)
  rw [L_i2l] at v0
  refine isNumber9_if (fun n0 => ⟨fun q => absurd rfl q, fun _ => ref (fun w => n0 (by rw [el]; exact w.2.2.2))⟩) (fun l0 => ⟨fun _ => ?_, fun q => absurd q (by decide)⟩)
  rw [el] at l0
  rw [if_pos ⟨by omega, by omega, v0, l0⟩] at k
  have er := tn_nI r0.1
  have et := tn_nI t0.1
  have emm := tn_nI (v := m) (by omega)
  have hm40 : tn m ≤ 40 - tn t := by unfold tn; omega
  have htm : (tn m : Int) = m.toInt := by unfold tn; omega
  have mid : ∀ i : Nat, i < tn m → isN (v.toInt + i * b.toInt) ∧ -20000 ≤ i * b.toInt ∧ i * b.toInt ≤ 20000 := by
    intro i hi
    unfold isN at v0 l0 ⊢
    have hi2 : (i : Int) ≤ m.toInt - 1 := by omega
    rcases Int.le_total 0 b.toInt with hb0 | hb0
    · have a1 : (i : Int) * b.toInt ≤ (m.toInt - 1) * b.toInt := Int.mul_le_mul_of_nonneg_right hi2 hb0
      have a2 : 0 ≤ (i : Int) * b.toInt := Int.mul_nonneg (by omega) hb0
      omega
    · have a1 : (m.toInt - 1) * b.toInt ≤ (i : Int) * b.toInt := Int.mul_le_mul_of_nonpos_right hi2 hb0
      have a2 : (i : Int) * b.toInt ≤ 0 := Int.mul_nonpos_of_nonneg_of_nonpos (by omega) hb0
      omega
  generalize tn a = r at *
  generalize tn t = u at *
  generalize tn m = mm at *
  subst er et emm
  have key := up_loop (L := fun n i (E : Dat) => X9_fill_l69 G post (ad 500) (nI r) (nI u) (nI mm) v b (ad 510) (ad 515) n (nI i) E) mm (fun i E => RcF ad ro D E r ∧ RrV ad E r (flA (S.1 r) u v.toInt b.toInt i)) ?_ ?_ 0 D (by omega) ⟨RcF.rf, h.1 r hr⟩
  · exact ⟨_, key⟩
  · intro n E hE
    show X9_fill_l69_b G post (ad 500) (nI r) (nI u) (nI mm) v b (ad 510) (ad 515) _ _ _
    exact ⟨fun _ => is0_sp H (h.rc H hK hE.1 hE.2) (fun D' c => ⟨isB_1, k D' c⟩), fun q => absurd (nI_le (Nat.le_refl _) (by omega)) q⟩
  · intro n i E hi hE hk
    show X9_fill_l69_b G post (ad 500) (nI r) (nI u) (nI mm) v b (ad 510) (ad 515) _ _ _
    refine ⟨fun q => absurd q (nI_ge hi (by omega)), fun _ => ?_⟩
    have hmi := mid i hi
    have ini : (nI i).toInt = (i : Int) := nI_toInt (by omega)
    have emul : (nI i * b).toInt = i * b.toInt := by rw [I_mul (by rw [ini]; omega) (by rw [ini]; omega), ini]
    have ev : (v + nI i * b).toInt = v.toInt + i * b.toInt := by
      rw [I_add (by rw [emul]; unfold isN at v0; omega) (by rw [emul]; unfold isN at v0; omega), emul]
    unfold X9_spot_wp
    rw [nI_add, spot_e, nI_1]
    dsimp only
    rw [nI_clamp (by omega), nar1]
    have hu : u + i < 40 := by omega
    refine ⟨in160 H H.val_ hr hu, in160 H H.has_ hr hu, hk _ ⟨hE.1.tr (rc_num H hr hu), ?_⟩⟩
    have := hE.2.num (v := v + nI i * b) H hr hu
    rw [ev] at this
    exact this
/-- counting marks -/
theorem ct_succ (s : Nat → Bool) (n : Nat) : ct s (n + 1) = ct s n + (if s n = true then 1 else 0) := rfl
theorem counts9_sp (H : RG G ad ro) (hr : r < 4) (h : RrV ad D r A) {t : Nat} (ht : t < 40) (k : post (bI (aK A t)) D) : X9_counts_wp G D (ad 500) (nI r) (nI t) post := by
  refine ⟨H.x_, _, H.has_.1, H.has_.2.1, _, H.isx_.1, H.isx_.2.1, ?_⟩
  unfold X9_spot_wp
  rw [spot_e]
  dsimp only
  rw [nI_clamp (by omega), (h.1 t ht).2.1, (h.1 t ht).2.2]
  unfold aK at k
  refine ⟨in160 H H.has_ hr ht, fun q => ⟨isB_0, ?_⟩, fun q => ⟨in160 H H.isx_ hr ht, fun q2 => ⟨isB_0, ?_⟩, fun q2 => ⟨isB_1, ?_⟩⟩⟩
  · rw [bI_0.mp q] at k; exact k
  · rw [bI_n0.mp q2, Bool.not_true, Bool.and_false] at k; exact k
  · rw [bI_n0.mp q, bI_0.mp q2] at k; exact k
theorem told9_sp (H : RG G ad ro) (hK : OKS S) (h : RfV ad ro Z D S) {a w : Int32} (k : ∀ D', RfV ad ro Z D' (sTold S a w).2 → post (sTold S a w).1 D') : X9_told_wp G D (ad 500) a w post := by
  unfold sTold at k
  have e0 : (0 : Int32).toInt = 0 := rfl
  have e6 : (6 : Int32).toInt = 6 := rfl
  have e3 : (3 : Int32).toInt = 3 := rfl
  refine ⟨H.x_, _, H.isx_.1, H.isx_.2.1, _, H.has_.1, H.has_.2.1, _, H.stp_.1, H.stp_.2.1, _, H.fea_.1, H.fea_.2.1, _, H.per_.1, H.per_.2.1, _, H.lin_.1, H.lin_.2.1, isRow_if (fun n0 => ⟨fun q => absurd rfl q, fun _ => ?_⟩) (fun r0 => ⟨fun _ => ?_, fun q => absurd q (by decide)⟩)⟩
  · rw [if_neg n0] at k
    exact refuse9_sp H h (fun D' c => k D' c)
  rw [if_pos r0] at k
  have hr := tn_R r0
  have er := tn_nI r0.1
  refine ⟨fun q => ?_, fun q => ⟨fun q2 => ?_, fun q2 => ?_⟩⟩
  · have := (I_lt _ _).mp q
    rw [if_neg (fun z => by omega)] at k
    exact refuse9_sp H h (fun D' c => k D' c)
  rotate_left
  · have : ¬ w.toInt ≤ (6 : Int32).toInt := fun z => q2 ((I_le _ _).mpr z)
    rw [if_neg (fun z => by omega)] at k
    exact refuse9_sp H h (fun D' c => k D' c)
  have w0 : ¬ w.toInt < (0 : Int32).toInt := fun z => q ((I_lt _ _).mpr z)
  have w6 := (I_le _ _).mp q2
  rw [if_pos ⟨by omega, by omega⟩] at k
  have h0 := h.st H 0
  have kk := k _ h0
  have hR := h0.1 (tn a) hr
  have hk3 := (hK (tn a) hr)
  generalize dI D (ad 500) 0 0 = E at *
  have hR' : RrV ad E (tn a) (S.1 (tn a)) := hR
  clear hR
  generalize S.1 (tn a) = A at *
  generalize tn a = r at *
  subst er
  unfold tlv at kk
  have c1 : w = 1 ↔ w.toInt = 1 := by rw [I_eq]; exact Iff.rfl
  have c0 : w = 0 ↔ w.toInt = 0 := by rw [I_eq]; exact Iff.rfl
  obtain ⟨f1, f2, f3, f4, f5, f6, f7⟩ := hR'
  have hR2 : ∀ t, t < 40 → E.1 (ad 515) (40 * r + t) = bI (aF A t) ∧ E.1 (ad 516) (40 * r + t) = bI (aX A t) := fun t ht => (f1 t ht).2
  have last : ∀ v3 : Int32, (w.toInt < 3 → post v3 E) → X9_told_j118 G post (ad 500) (nI r) w (ad 516) (ad 515) (ad 512) (ad 514) (ad 511) (ad 517) v3 E := by
    intro v3 hp
    unfold X9_told_j118 X9_told_j183
    rw [nI_clamp (by omega), f2, f3, f5, f6]
    refine ⟨fun z => hp (by omega), fun z => ⟨in4 H H.stp_ hr, ?_⟩, fun z => ⟨in4 H H.fea_ hr, ?_⟩, fun z => ⟨in4 H H.per_ hr, ?_⟩, fun z => ⟨in4 H H.lin_ hr, fun u => ?_, fun u => ?_⟩⟩
    · rw [if_neg (by omega), if_neg (by omega), if_neg (by omega), if_pos z] at kk; exact kk
    · rw [if_neg (by omega), if_neg (by omega), if_neg (by omega), if_neg (by omega), if_pos z] at kk; exact kk
    · rw [if_neg (by omega), if_neg (by omega), if_neg (by omega), if_neg (by omega), if_neg (by omega), if_pos z] at kk; exact kk
    · rw [if_neg (by omega), if_neg (by omega), if_neg (by omega), if_neg (by omega), if_neg (by omega), if_neg (by omega), bI_0.mp u] at kk; exact kk
    · rw [if_neg (by omega), if_neg (by omega), if_neg (by omega), if_neg (by omega), if_neg (by omega), if_neg (by omega), bI_n0.mp u] at kk; exact kk
  -- the marks that are counted
  have cnt : ∀ s : Nat → Bool, w.toInt < 3 → (∀ t, t < 40 → s t = (if w.toInt = 0 then aF A t else if w.toInt = 1 then aK A t else aX A t)) → post (nI (ct s 40)) E → ∃ n, X9_told_l39 G post (ad 500) (nI r) w (ad 516) (ad 515) (ad 512) (ad 514) (ad 511) (ad 517) n 0 0 E := by
    intro s hw hs hp
    have key := up_loop (L := fun n i (c : Nat) => X9_told_l39 G post (ad 500) (nI r) w (ad 516) (ad 515) (ad 512) (ad 514) (ad 511) (ad 517) n (nI c) (nI i) E) 40 (fun i c => c = ct s i) ?_ ?_ 0 0 (by omega) rfl
    · exact ⟨_, key⟩
    · intro n c hc
      show X9_told_l39_b G post (ad 500) (nI r) w (ad 516) (ad 515) (ad 512) (ad 514) (ad 511) (ad 517) _ _ _ _
      refine ⟨fun _ => last _ (fun _ => by rw [hc]; exact hp), fun q => absurd (by decide) q⟩
    · intro n i c hi hc hk
      show X9_told_l39_b G post (ad 500) (nI r) w (ad 516) (ad 515) (ad 512) (ad 514) (ad 511) (ad 517) _ _ _ _
      refine ⟨fun q => absurd q (by rw [show (40 : Int32) = nI 40 by decide]; exact nI_ge hi (by omega)), fun _ => ⟨fun q => absurd ((I_le _ _).mp q) (by omega), fun _ => ?_⟩⟩
      have go : ∀ b : Bool, b = s i → (bI b = 0 → X9_told_j109 G post (ad 500) (nI r) w (ad 516) (ad 515) (ad 512) (ad 514) (ad 511) (ad 517) (X9_told_l39 G post (ad 500) (nI r) w (ad 516) (ad 515) (ad 512) (ad 514) (ad 511) (ad 517) n) (nI i) (nI c) E) ∧ (¬ bI b = 0 → X9_told_j105 G post (ad 500) (nI r) w (ad 516) (ad 515) (ad 512) (ad 514) (ad 511) (ad 517) (X9_told_l39 G post (ad 500) (nI r) w (ad 516) (ad 515) (ad 512) (ad 514) (ad 511) (ad 517) n) (nI i) (nI c) E) := by
        intro b hb
        unfold X9_told_j109 X9_told_j105 X9_told_j110
        refine ⟨fun z => ?_, fun z => ?_⟩
        · have := bI_0.mp z
          have e := hk c (by rw [ct_succ, ← hb, this, if_neg (by decide)]; exact hc)
          rw [nI_1]
          rw [show nI c + 0 = nI c from Int32.add_zero _]
          exact e
        · have := bI_n0.mp z
          have e := hk (c + 1) (by rw [ct_succ, ← hb, this, if_pos rfl, hc])
          rw [nI_1, nI_1]
          exact e
      have hsi := hs i hi
      unfold X9_spot_wp
      rw [spot_e]
      dsimp only
      rw [nI_clamp (by omega), (hR2 i hi).1, (hR2 i hi).2]
      refine ⟨fun z => ⟨fun z1 => ⟨in160 H H.isx_ hr hi, go _ ?_⟩, fun z1 => counts9_sp H hr ⟨f1, f2, f3, f4, f5, f6, f7⟩ hi (go _ ?_)⟩, fun z => ⟨in160 H H.has_ hr hi, go _ ?_⟩⟩
      · rw [hsi, if_neg (fun u => z (c0.mpr u)), if_neg (fun u => z1 (c1.mpr u))]
      · rw [hsi, if_neg (fun u => z (c0.mpr u)), if_pos (c1.mp z1)]
      · rw [hsi, if_pos (c0.mp z)]
  by_cases hw : w.toInt < 3
  · rcases (show w.toInt = 0 ∨ w.toInt = 1 ∨ w.toInt = 2 by omega) with z | z | z
    · rw [if_pos z] at kk
      exact cnt (aF A) hw (fun t ht => by rw [if_pos z]) kk
    · rw [if_neg (by omega), if_pos z] at kk
      exact cnt (aK A) hw (fun t ht => by rw [if_neg (by omega), if_pos z]) kk
    · rw [if_neg (by omega), if_neg (by omega), if_pos z] at kk
      exact cnt (aX A) hw (fun t ht => by rw [if_neg (by omega), if_neg (by omega)]) kk
  · refine ⟨1, ?_⟩
    show X9_told_l39_b G post (ad 500) (nI r) w (ad 516) (ad 515) (ad 512) (ad 514) (ad 511) (ad 517) _ _ _ _
    exact ⟨fun q => absurd q (by decide), fun _ => ⟨fun _ => last 0 (fun u => absurd u hw), fun z => absurd ((I_le _ _).mpr (by omega)) z⟩⟩
end R8
