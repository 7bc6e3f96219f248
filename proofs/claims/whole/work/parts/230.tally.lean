/-! Tally -/
/-- the columns: their value z, none beyond u, each within m times 2 to the 58th -/
def TalV (D : Dat) (t ca : Nat) (z : Int) (m : Nat) : Prop := ∃ u : Nat, D.1 t 1 = nI u ∧ u ≤ 24 ∧ (∀ i, u ≤ i → i < 12 → lm D ca i = 0) ∧ (∀ i, i < 12 → -(m * 288230376151711744 : Int) ≤ lm D ca i ∧ lm D ca i ≤ m * 288230376151711744) ∧ z = pv 134217728 (lm D ca) 12
theorem TalV.kept {D D' : Dat} {t ca : Nat} {z : Int} {m : Nat} (h : TalV D t ca z m) (h1 : D'.1 t = D.1 t) (h2 : D'.2 ca = D.2 ca) : TalV D' t ca z m := by
  have e : lm D' ca = lm D ca := by unfold lm; rw [h2]
  unfold TalV
  rw [h1, e]
  exact h
theorem fill_sp {G : Shp} {D : Dat} {ca N : Nat} {v : Int64} (h1 : isO G ca 12) (hN : G.2.2.1 ca = N) (hN2 : N < 2 ^ 31) {post : Dat → Prop} (k : ∀ D', Fr D D' [] [ca] → (∀ i, i < N → D'.2 ca i = v) → post D') : J7_fill_d0a16_wp G D ca v post := by
  refine ⟨h1, ?_⟩
  rw [hN]
  have key := up_loop (L := fun m i (E : Dat) => J7_fill_d0a16_l6 G post ca v m (nI i) (Int32.ofNat N) E) N (fun i E => Fr D E [] [ca] ∧ ∀ j, j < i → E.2 ca j = v) ?_ ?_ 0 D (Nat.zero_le N) ⟨Fr.rf, fun j hj => by omega⟩
  · exact ⟨_, key⟩
  · intro m E hE
    show J7_fill_d0a16_l6_b G post ca v _ _ _ _
    exact ⟨fun _ => k E hE.1 hE.2, fun q => absurd (nI_le (Nat.le_refl N) hN2) q⟩
  · intro m i E hi hE hk
    show J7_fill_d0a16_l6_b G post ca v _ _ _ _
    refine ⟨fun q => absurd q (nI_ge hi hN2), fun _ => ⟨by rw [hN]; exact vp_in_nI hi hN2, ?_⟩⟩
    rw [nI_1, nI_clamp (by omega)]
    refine hk _ ⟨hE.1.tr (Fr.dJ (List.mem_singleton.mpr rfl)), fun j hj => ?_⟩
    by_cases q : j = i
    · rw [q, dJ_s]
    · rw [dJ_o _ _ _ q]; exact hE.2 j (by omega)
theorem tclear_sp {G : Shp} {D : Dat} {t ca : Nat} (hG : TG G t ca) {post : Dat → Prop} (k : ∀ D', Fr D D' [t] [ca] → TalV D' t ca 0 0 → post D') : X6_clear_wp G D t post := by
  refine ⟨hG.1, ca, hG.2.1, hG.2.2.1, ?_⟩
  refine fill_sp hG.2.2.1 hG.2.2.2 (by decide) (fun D' hf hz => k _ ?_ ?_)
  · exact (hf.up (fun _ h => by cases h) (fun _ h => h)).tr (Fr.dI (List.mem_singleton.mpr rfl))
  · have e : ∀ i, i < 12 → lm (dI D' t 1 0) ca i = 0 := fun i hi => by
      unfold lm; rw [dI_2, hz i hi]; rfl
    exact ⟨0, dI_s _ _ _ _, by decide, fun i _ hi => e i hi, fun i hi => by rw [e i hi]; decide, (pv_zero e).symm⟩
theorem mxI_nI {a b : Nat} (ha : a < 2 ^ 31) (hb : b < 2 ^ 31) : mxI (nI a) (nI b) = nI (if a < b then b else a) := by
  unfold mxI
  by_cases h : a < b
  · rw [if_pos (nI_lt h hb), if_pos h]
  · rw [if_neg (nI_nlt (by omega) ha), if_neg h]
/-- one limb of a times the limbs of b, added from column i on -/
theorem pv_add_row {B c : Int} {f g b : Nat → Int} {i n N : Nat} (hn : i + n ≤ N) (hin : ∀ j, j < n → g (i + j) = f (i + j) + c * b j) (hout : ∀ j, j < N → (j < i ∨ i + n ≤ j) → g j = f j) : pv B g N = pv B f N + c * B ^ i * pv B b n := by
  obtain ⟨d, rfl⟩ : ∃ d, N = (i + n) + d := ⟨N - (i + n), by omega⟩
  rw [pv_split (f := g) (n := i + n) (m := d), pv_split (f := f) (n := i + n) (m := d), pv_split (f := g) (n := i) (m := n), pv_split (f := f) (n := i) (m := n)]
  have e1 : pv B g i = pv B f i := pv_congr (fun j hj => hout j (by omega) (by omega))
  have e2 : pv B (fun j => g (i + n + j)) d = pv B (fun j => f (i + n + j)) d := pv_congr (fun j hj => hout _ (by omega) (by omega))
  have e3 : pv B (fun j => g (i + j)) n = pv B (fun j => f (i + j)) n + c * pv B b n := by
    rw [← pv_mul, ← pv_add]
    exact pv_congr (fun j hj => hin j hj)
  rw [e1, e2, e3]
  generalize pv B (fun j => f (i + j)) n = x
  generalize pv B (fun j => f (i + n + j)) d = y
  generalize pv B b n = w
  generalize B ^ (i + n) = p
  generalize B ^ i = r
  grind
theorem TalV.fr {D D' : Dat} {t ca : Nat} {z : Int} {m : Nat} {A B : List Nat} (h : TalV D t ca z m) (f : Fr D D' A B) (h1 : t ∉ A) (h2 : ca ∉ B) : TalV D' t ca z m := h.kept (f.1 t h1) (f.2 ca h2)
theorem isO.ne {G : Shp} {a b i j : Nat} (h : isO G a i) (h2 : isO G b j) (hij : i ≠ j) : a ≠ b := fun q => hij (by rw [← h.2, ← h2.2, q])
theorem BigV.size_le {D : Dat} {a la : Nat} {z : Int} (h : BigV D a la z) {p : Nat} (hz : az z < 134217728 ^ p) : ∃ n : Nat, n ≤ 12 ∧ n ≤ p ∧ D.1 a 1 = nI n ∧ dig (lm D la) n ∧ isB (D.1 a 2) ∧ z = sg (D.1 a 2) * pv 134217728 (lm D la) n := by
  obtain ⟨n, hn, h1, hd, ht, hb, h0, haz⟩ := h.toAz
  obtain ⟨n', hn', h1', -, -, -, -, hz'⟩ := h
  have e : n' = n := (nI_eq (by omega) (by omega)).mp (h1'.symm.trans h1)
  subst e
  refine ⟨n', hn, ?_, h1, hd, hb, hz'⟩
  by_cases q : n' ≤ p
  · exact q
  · exfalso
    have h2 := pv_pos (B := 134217728) (by decide) (by omega) hd (ht (by omega))
    have h3 : (134217728 : Int) ^ p ≤ 134217728 ^ (n' - 1) := ipow_le (by decide) (by omega)
    omega
theorem mul_abs_le {x y X Y : Int} (h1 : -X ≤ x) (h2 : x ≤ X) (h3 : -Y ≤ y) (h4 : y ≤ Y) : -(X * Y) ≤ x * y ∧ x * y ≤ X * Y := by
  have a1 : 0 ≤ (X - x) * (Y + y) := Int.mul_nonneg (by omega) (by omega)
  have a2 : 0 ≤ (X + x) * (Y - y) := Int.mul_nonneg (by omega) (by omega)
  have a3 : 0 ≤ (X - x) * (Y - y) := Int.mul_nonneg (by omega) (by omega)
  have a4 : 0 ≤ (X + x) * (Y + y) := Int.mul_nonneg (by omega) (by omega)
  constructor <;> grind
/-- addTimes: the factor's size is at most 2 to the 31st -/
theorem addTimes_sp {G : Shp} {D : Dat} {t ca b lb m : Nat} {z w : Int} (hG : TG G t ca) (hB : BG G b lb) (hne : lb ≠ ca) (h : TalV D t ca z m) (hm : m ≤ 14) (hb : BigV D b lb w) {v : Int64} (hv1 : -2147483648 ≤ v.toInt) (hv2 : v.toInt ≤ 2147483648) {post : Dat → Prop} (k : ∀ D', Fr D D' [t] [ca] → TalV D' t ca (z + v.toInt * w) (m + 1) → post D') : X6_addTimes_wp G D t b v post := by
  obtain ⟨u, hu1, hu2, hu0, hub, rfl⟩ := h
  obtain ⟨n, hn, e1, hd, ht, hbb, h0, rfl⟩ := hb
  have hbt : b ≠ t := isO.ne hB.1 hG.1 (by decide)
  refine ⟨hG.1, hB.1, ca, hG.2.1, hG.2.2.1, lb, hB.2.1, hB.2.2.1, ?_⟩
  have main : ∀ (s : Int64), s.toInt = sg (D.1 b 2) * v.toInt → X6_addTimes_j13 G post t b v ca lb s D := by
    intro s hs
    have hs1 : -2147483648 ≤ s.toInt ∧ s.toInt ≤ 2147483648 := by
      rw [hs]
      rcases hbb with e | e <;> rw [e]
      · rw [sg_0]; omega
      · rw [sg_1]; omega
    have key := up_loop (L := fun q i (E : Dat) => X6_addTimes_l18 G post t b v ca lb q s (nI i) E) n (fun i E => E.1 = D.1 ∧ (∀ x, x ≠ ca → E.2 x = D.2 x) ∧ (∀ j, j < i → lm E ca j = lm D ca j + s.toInt * lm D lb j) ∧ ∀ j, i ≤ j → lm E ca j = lm D ca j) ?_ ?_ 0 D (Nat.zero_le n) ⟨rfl, fun _ _ => rfl, fun j hj => by omega, fun _ _ => rfl⟩
    · exact ⟨_, key⟩
    · intro q E hE
      show X6_addTimes_l18_b G post t b v ca lb _ _ _ _
      unfold X6_addTimes_l18_b
      rw [hE.1, e1]
      refine ⟨fun _ => ?_, fun q => absurd (nI_le (Nat.le_refl n) (by omega)) q⟩
      rw [hu1, mxI_nI (by omega) (by omega)]
      refine k _ ?_ ⟨if u < n then n else u, dI_s _ _ _ _, by split <;> omega, fun i hi hi2 => ?_, fun i hi => ?_, ?_⟩
      · refine Fr.tr (D1 := E) ⟨fun x _ => by rw [hE.1], fun x hx => hE.2.1 x (fun q => hx (by rw [q]; exact List.mem_singleton.mpr rfl))⟩ (Fr.dI (List.mem_singleton.mpr rfl))
      · show lm E ca i = 0
        rw [hE.2.2.2 i (by split at hi <;> omega)]
        exact hu0 i (by split at hi <;> omega) hi2
      · show _ ≤ lm E ca i ∧ lm E ca i ≤ _
        have hb1 := hub i hi
        by_cases q : i < n
        · rw [hE.2.2.1 i q]
          have hdi := hd i q
          have hp := mul_abs_le (X := 2147483648) (Y := 134217728) hs1.1 hs1.2 (show -134217728 ≤ lm D lb i by omega) (by omega)
          omega
        · rw [hE.2.2.2 i (by omega)]; omega
      · show _ = pv 134217728 (lm E ca) 12
        have e := pv_add_row (B := 134217728) (c := s.toInt) (f := lm D ca) (g := lm E ca) (b := lm D lb) (i := 0) (n := n) (N := 12) (by omega) (fun j hj => by rw [Nat.zero_add]; exact hE.2.2.1 j hj) (fun j _ hj2 => hE.2.2.2 j (by omega))
        rw [e, hs]
        grind
    · intro q i E hi hE hk
      show X6_addTimes_l18_b G post t b v ca lb _ _ _ _
      unfold X6_addTimes_l18_b
      rw [hE.1, e1]
      refine ⟨fun q => absurd q (nI_ge hi (by omega)), fun _ => ⟨by rw [hG.2.2.2]; exact vp_in_nI (by omega) (by omega), by rw [hB.2.2.2]; exact vp_in_nI (by omega) (by omega), by rw [hG.2.2.2]; exact vp_in_nI (by omega) (by omega), ?_⟩⟩
      rw [nI_1, nI_clamp (by omega)]
      have hdi := hd i hi
      have hp := mul_abs_le (X := 2147483648) (Y := 134217728) hs1.1 hs1.2 (show -134217728 ≤ lm D lb i by omega) (by omega)
      have hb1 := hub i (by omega)
      have x1 : (E.2 ca i).toInt = lm D ca i := hE.2.2.2 i (Nat.le_refl i)
      have x2 : (E.2 lb i).toInt = lm D lb i := by rw [hE.2.1 lb hne]; rfl
      have x3 : (E.2 lb i * s).toInt = s.toInt * lm D lb i := by
        rw [L_mul (by rw [x2, Int.mul_comm]; omega) (by rw [x2, Int.mul_comm]; omega), x2, Int.mul_comm]
      have x4 : (E.2 ca i + E.2 lb i * s).toInt = lm D ca i + s.toInt * lm D lb i := by
        rw [L_add (by rw [x1, x3]; omega) (by rw [x1, x3]; omega), x1, x3]
      refine hk _ ⟨hE.1, fun x hx => by rw [dJ_n _ _ _ hx]; exact hE.2.1 x hx, fun j hj => ?_, fun j hj => ?_⟩
      · unfold lm
        by_cases q : j = i
        · rw [q, dJ_s]; exact x4
        · rw [dJ_o _ _ _ q]; exact hE.2.2.1 j (by omega)
      · unfold lm
        rw [dJ_o _ _ _ (by omega)]
        exact hE.2.2.2 j (by omega)
  refine ⟨fun q => main v (by rw [q, sg_0, Int.one_mul]), fun q => main (-v) ?_⟩
  have e : D.1 b 2 = 1 := hbb.resolve_left q
  rw [e, sg_1, L_neg (by omega)]
  omega
