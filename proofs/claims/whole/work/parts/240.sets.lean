/-! TickSet -/
def bI (b : Bool) : Int32 := if b = true then 1 else 0
theorem bI_t : bI true = 1 := rfl
theorem bI_f : bI false = 0 := rfl
theorem bI_B (b : Bool) : isB (bI b) := by
  cases b
  · exact isB_0
  · exact isB_1
theorem bI_0 {b : Bool} : bI b = 0 ↔ b = false := by cases b <;> decide
theorem bI_n0 {b : Bool} : ¬ bI b = 0 ↔ b = true := by cases b <;> decide
theorem nar_bI (b : Bool) : vp_nar .boolean (bI b) = bI b := by cases b <;> rfl
def ct (s : Nat → Bool) : Nat → Nat
  | 0 => 0
  | n + 1 => ct s n + (if s n = true then 1 else 0)
theorem ct_le (s : Nat → Bool) : ∀ n, ct s n ≤ n
  | 0 => Nat.le_refl 0
  | n + 1 => by
    have := ct_le s n
    show ct s n + _ ≤ n + 1
    split <;> omega
theorem ct_congr {s r : Nat → Bool} : ∀ {n : Nat}, (∀ i, i < n → s i = r i) → ct s n = ct r n
  | 0, _ => rfl
  | n + 1, h => by
    show ct s n + _ = ct r n + _
    rw [ct_congr (fun i hi => h i (by omega)), h n (by omega)]
def ups (s : Nat → Bool) (t : Nat) (b : Bool) : Nat → Bool := fun i => if i = t then b else s i
theorem ups_s (s : Nat → Bool) (t : Nat) (b : Bool) : ups s t b t = b := if_pos rfl
theorem ups_n {s : Nat → Bool} {t i : Nat} {b : Bool} (h : i ≠ t) : ups s t b i = s i := if_neg h
theorem ct_ups {s : Nat → Bool} {t : Nat} {b : Bool} : ∀ {n : Nat}, t < n → ct (ups s t b) n + (if s t = true then 1 else 0) = ct s n + (if b = true then 1 else 0)
  | 0, h => by omega
  | n + 1, h => by
    show ct (ups s t b) n + (if ups s t b n = true then 1 else 0) + _ = ct s n + (if s n = true then 1 else 0) + _
    by_cases q : n = t
    · subst q
      rw [ups_s, ct_congr (s := ups s n b) (r := s) (fun i hi => ups_n (by omega))]
      omega
    · have := ct_ups (s := s) (t := t) (b := b) (n := n) (by omega)
      rw [ups_n q]
      omega
theorem ups_same {s : Nat → Bool} {t : Nat} {b : Bool} (h : s t = b) : ups s t b = s := by
  funext i
  by_cases q : i = t
  · rw [q, ups_s, h]
  · exact ups_n q
theorem ct_false (n : Nat) : ct (fun _ => false) n = 0 := by
  induction n with
  | zero => rfl
  | succ n ih => show ct _ n + 0 = 0; rw [ih]
def SetV (D : Dat) (a ma : Nat) (s : Nat → Bool) : Prop := (∀ t, t < 40 → D.1 ma t = bI (s t)) ∧ D.1 a 1 = nI (ct s 40)
theorem SetV.kept {D D' : Dat} {a ma : Nat} {s : Nat → Bool} (h : SetV D a ma s) (h1 : D'.1 a = D.1 a) (h2 : D'.1 ma = D.1 ma) : SetV D' a ma s := by
  unfold SetV
  rw [h1, h2]
  exact h
theorem isTick_sp {G : Shp} {D : Dat} {v : Int32} {post : Int32 → Dat → Prop} (k : post (bI (decide (0 ≤ v.toInt ∧ v.toInt < 40))) D) : X8_isTick_wp G D v post := by
  unfold X8_isTick_wp X8_isTick_j14 X8_isTick_j15
  refine ⟨fun q => ⟨isB_0, ?_⟩, fun q => ⟨fun w => ⟨isB_0, ?_⟩, fun w => ⟨isB_1, ?_⟩⟩⟩
  · have q : v.toInt < 0 := (I_lt _ _).mp q
    rw [decide_eq_false (by omega)] at k
    exact k
  · have w : 40 ≤ v.toInt := (I_le _ _).mp w
    rw [decide_eq_false (by omega)] at k
    exact k
  · have q : ¬ v.toInt < 0 := fun e => q ((I_lt _ _).mpr e)
    have w : ¬ (40 : Int) ≤ v.toInt := fun e => w ((I_le _ _).mpr e)
    rw [decide_eq_true (by omega)] at k
    exact k
theorem isFar_sp {G : Shp} {D : Dat} {v : Int32} {post : Int32 → Dat → Prop} (k : post (bI (decide (0 ≤ v.toInt ∧ v.toInt < 80))) D) : X8_isFarTick_wp G D v post := by
  unfold X8_isFarTick_wp X8_isFarTick_j14 X8_isFarTick_j15
  refine ⟨fun q => ⟨isB_0, ?_⟩, fun q => ⟨fun w => ⟨isB_0, ?_⟩, fun w => ⟨isB_1, ?_⟩⟩⟩
  · have q : v.toInt < 0 := (I_lt _ _).mp q
    rw [decide_eq_false (by omega)] at k
    exact k
  · have w : 80 ≤ v.toInt := (I_le _ _).mp w
    rw [decide_eq_false (by omega)] at k
    exact k
  · have q : ¬ v.toInt < 0 := fun e => q ((I_lt _ _).mpr e)
    have w : ¬ (80 : Int) ≤ v.toInt := fun e => w ((I_le _ _).mpr e)
    rw [decide_eq_true (by omega)] at k
    exact k
theorem tick_nI {t : Nat} (ht : t < 2 ^ 31) : decide (0 ≤ (nI t).toInt ∧ (nI t).toInt < 40) = decide (t < 40) := by
  rw [nI_toInt ht]
  by_cases h : t < 40
  · rw [decide_eq_true h, decide_eq_true (by omega)]
  · rw [decide_eq_false h, decide_eq_false (by omega)]
theorem tick_of {v : Int32} (h0 : 0 ≤ v.toInt) (h : v.toInt < 40) : ∃ t : Nat, t < 40 ∧ v = nI t := ⟨v.toInt.toNat, by omega, nI_of_int (by omega) (by omega)⟩
theorem has_sp {G : Shp} {D : Dat} {a ma : Nat} {s : Nat → Bool} (hG : SG G a ma) (h : SetV D a ma s) {t : Nat} (ht : t < 2 ^ 31) {post : Int32 → Dat → Prop} (k : post (bI (decide (t < 40) && s t)) D) : X7_has_wp G D a (nI t) post := by
  refine ⟨hG.1, ma, hG.2.1, hG.2.2.1, isTick_sp ?_⟩
  unfold X7_has_j20 X7_has_j21
  rw [tick_nI ht]
  by_cases q : t < 40
  · rw [decide_eq_true q, Bool.true_and] at k
    rw [decide_eq_true q]
    refine ⟨fun w => absurd w (by decide), fun _ => ⟨by rw [hG.2.2.2]; exact vp_in_nI q (by omega), ?_⟩⟩
    rw [nI_clamp ht, h.1 t q]
    cases hs : s t <;> rw [hs] at k
    · exact ⟨fun _ => ⟨isB_0, k⟩, fun w => absurd rfl w⟩
    · exact ⟨fun w => absurd w (by decide), fun _ => ⟨isB_1, k⟩⟩
  · rw [decide_eq_false q, Bool.false_and] at k
    rw [decide_eq_false q]
    exact ⟨fun _ => ⟨isB_0, k⟩, fun w => absurd rfl w⟩
theorem add_sp {G : Shp} {D : Dat} {a ma : Nat} {s : Nat → Bool} (hG : SG G a ma) (h : SetV D a ma s) {t : Nat} (ht : t < 40) {post : Int32 → Dat → Prop} (k : ∀ D', Fr D D' [a, ma] [] → SetV D' a ma (ups s t true) → post (bI (!s t)) D') : X7_add_wp G D a (nI t) post := by
  have hne : a ≠ ma := isO.ne hG.1 hG.2.2.1 (by decide)
  refine ⟨hG.1, ma, hG.2.1, hG.2.2.1, isTick_sp ?_⟩
  unfold X7_add_j16
  rw [tick_nI (by omega), decide_eq_true ht]
  refine ⟨fun w => absurd w (by decide), fun _ => ⟨by rw [hG.2.2.2]; exact vp_in_nI ht (by omega), ?_⟩⟩
  rw [nI_clamp (by omega), h.1 t ht]
  cases hs : s t <;> rw [hs] at k
  · refine ⟨fun _ => ⟨by rw [hG.2.2.2]; exact vp_in_nI ht (by omega), isB_1, ?_⟩, fun w => absurd rfl w⟩
    rw [show vp_nar .boolean 1 = 1 from rfl, dI_n _ _ _ hne, h.2, nI_1]
    refine k _ ((Fr.dI (by simp)).tr (Fr.dI (by simp))) ⟨fun i hi => ?_, ?_⟩
    · rw [dI_n _ _ _ hne.symm]
      by_cases q : i = t
      · rw [q, dI_s, ups_s]; rfl
      · rw [dI_o _ _ _ q, ups_n q]; exact h.1 i hi
    · rw [dI_s]
      have := ct_ups (s := s) (t := t) (b := true) ht
      rw [hs] at this
      simp at this
      rw [this]
  · refine ⟨fun w => absurd w (by decide), fun _ => ⟨isB_0, k D Fr.rf ?_⟩⟩
    rw [ups_same hs]; exact h
theorem drop_sp {G : Shp} {D : Dat} {a ma : Nat} {s : Nat → Bool} (hG : SG G a ma) (h : SetV D a ma s) {t : Nat} (ht : t < 40) {post : Int32 → Dat → Prop} (k : ∀ D', Fr D D' [a, ma] [] → SetV D' a ma (ups s t false) → post (bI (s t)) D') : X7_drop_wp G D a (nI t) post := by
  have hne : a ≠ ma := isO.ne hG.1 hG.2.2.1 (by decide)
  refine ⟨hG.1, ma, hG.2.1, hG.2.2.1, has_sp hG h (by omega) ?_⟩
  rw [decide_eq_true ht, Bool.true_and]
  cases hs : s t <;> rw [hs] at k
  · refine ⟨fun w => absurd rfl w, fun _ => ⟨isB_0, k D Fr.rf ?_⟩⟩
    rw [ups_same hs]; exact h
  · refine ⟨fun _ => ⟨by rw [hG.2.2.2]; exact vp_in_nI ht (by omega), isB_1, ?_⟩, fun w => absurd w (by decide)⟩
    have hc := ct_ups (s := s) (t := t) (b := false) ht
    rw [hs] at hc
    simp at hc
    rw [show vp_nar .boolean 0 = 0 from rfl, dI_n _ _ _ hne, h.2, nI_clamp (by omega), ← hc, nI_pred]
    refine k _ ((Fr.dI (by simp)).tr (Fr.dI (by simp))) ⟨fun i hi => ?_, dI_s _ _ _ _⟩
    rw [dI_n _ _ _ hne.symm]
    by_cases q : i = t
    · rw [q, dI_s, ups_s]; rfl
    · rw [dI_o _ _ _ q, ups_n q]; exact h.1 i hi
theorem sclear_sp {G : Shp} {D : Dat} {a ma : Nat} (hG : SG G a ma) {post : Dat → Prop} (k : ∀ D', Fr D D' [a, ma] [] → SetV D' a ma (fun _ => false) → post D') : X7_clear_wp G D a post := by
  have hne : a ≠ ma := isO.ne hG.1 hG.2.2.1 (by decide)
  refine ⟨hG.1, ma, hG.2.1, hG.2.2.1, ?_⟩
  have key := up_loop (L := fun m i (E : Dat) => X7_clear_l2 G post a ma m (nI i) E) 40 (fun i E => Fr D E [a, ma] [] ∧ ∀ j, j < i → E.1 ma j = 0) ?_ ?_ 0 D (by omega) ⟨Fr.rf, fun j hj => by omega⟩
  · exact ⟨_, key⟩
  · intro m E hE
    show X7_clear_l2_b G post a ma _ _ _
    refine ⟨fun _ => k _ (hE.1.tr (Fr.dI (by simp))) ⟨fun t ht => ?_, ?_⟩, fun q => absurd (by decide) q⟩
    · rw [dI_n _ _ _ hne.symm]; exact hE.2 t ht
    · rw [dI_s, ct_false]; rfl
  · intro m i E hi hE hk
    show X7_clear_l2_b G post a ma _ _ _
    refine ⟨fun q => absurd q (by rw [show (40 : Int32) = nI 40 by decide]; exact nI_ge hi (by omega)), fun _ => ⟨by rw [hG.2.2.2]; exact vp_in_nI hi (by omega), ?_⟩⟩
    rw [nI_1, nI_clamp (by omega)]
    refine hk _ ⟨hE.1.tr (Fr.dI (by simp)), fun j hj => ?_⟩
    by_cases q : j = i
    · rw [q, dI_s]; rfl
    · rw [dI_o _ _ _ q]; exact hE.2 j (by omega)
theorem scopy_sp {G : Shp} {D : Dat} {a ma b mb : Nat} {s : Nat → Bool} (hG : SG G a ma) (hB : SG G b mb) (hba : b ≠ a) (hm : mb ≠ ma) (h : SetV D b mb s) {post : Dat → Prop} (k : ∀ D', Fr D D' [a, ma] [] → SetV D' a ma s → post D') : X7_copy_wp G D a b post := by
  have hne : a ≠ ma := isO.ne hG.1 hG.2.2.1 (by decide)
  have hb2 : b ≠ ma := isO.ne hB.1 hG.2.2.1 (by decide)
  have hm2 : mb ≠ a := isO.ne hB.2.2.1 hG.1 (by decide)
  refine ⟨hG.1, hB.1, ma, hG.2.1, hG.2.2.1, mb, hB.2.1, hB.2.2.1, ?_⟩
  have key := up_loop (L := fun m i (E : Dat) => X7_copy_l2 G post a b ma mb m (nI i) E) 40 (fun i E => Fr D E [ma] [] ∧ ∀ j, j < i → E.1 ma j = bI (s j)) ?_ ?_ 0 D (by omega) ⟨Fr.rf, fun j hj => by omega⟩
  · exact ⟨_, key⟩
  · intro m E hE
    show X7_copy_l2_b G post a b ma mb _ _ _
    refine ⟨fun _ => k _ ((hE.1.up (fun _ w => List.mem_cons_of_mem _ w) (fun _ w => w)).tr (Fr.dI (by simp))) ⟨fun t ht => ?_, ?_⟩, fun q => absurd (by decide) q⟩
    · rw [dI_n _ _ _ hne.symm]; exact hE.2 t ht
    · rw [dI_s, hE.1.1 b (by simpa using hb2)]; exact h.2
  · intro m i E hi hE hk
    show X7_copy_l2_b G post a b ma mb _ _ _
    refine ⟨fun q => absurd q (by rw [show (40 : Int32) = nI 40 by decide]; exact nI_ge hi (by omega)), fun _ => ⟨by rw [hB.2.2.2]; exact vp_in_nI hi (by omega), by rw [hG.2.2.2]; exact vp_in_nI hi (by omega), ?_⟩⟩
    rw [nI_1, nI_clamp (by omega), hE.1.1 mb (by simpa using hm), h.1 i hi, nar_bI]
    refine hk _ ⟨hE.1.tr (Fr.dI (by simp)), fun j hj => ?_⟩
    by_cases q : j = i
    · rw [q, dI_s]
    · rw [dI_o _ _ _ q]; exact hE.2 j (by omega)
