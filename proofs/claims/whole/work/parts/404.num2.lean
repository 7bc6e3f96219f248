/-! digits of any base -/
theorem pv_cmpG {B : Int} (hB : 0 < B) {f g : Nat → Int} {n i : Nat} (hi : i < n) (hf : ∀ j, j < n → 0 ≤ f j ∧ f j < B) (hg : ∀ j, j < n → 0 ≤ g j ∧ g j < B) (he : ∀ j, i < j → j < n → f j = g j) (hlt : f i < g i) : pv B f n < pv B g n := by
  obtain ⟨d, rfl⟩ : ∃ d, n = (i + 1) + d := ⟨n - (i + 1), by omega⟩
  rw [pv_split (f := f) (n := i + 1) (m := d), pv_split (f := g) (n := i + 1) (m := d), pv_congr (n := d) (f := fun j => f (i + 1 + j)) (g := fun j => g (i + 1 + j)) (fun j hj => he _ (by omega) (by omega))]
  have h1 := pv_lt hB (n := i) (f := f) (fun j hj => hf j (by omega))
  have h2 := pv_nn (Int.le_of_lt hB) (n := i) (f := g) (fun j hj => (hg j (by omega)).1)
  have h3 : pv B f (i + 1) < pv B g (i + 1) := by
    unfold pv
    have h4 : (f i + 1) * B ^ i ≤ g i * B ^ i := Int.mul_le_mul_of_nonneg_right (by omega) (Int.pow_nonneg (by omega))
    have h5 : (f i + 1) * B ^ i = f i * B ^ i + B ^ i := by grind
    omega
  exact Int.add_lt_add_right h3 _
theorem pv_lessG {B : Int} (hB : 1 ≤ B) {f g : Nat → Int} {n m : Nat} (h : n < m) (hf : ∀ j, j < n → 0 ≤ f j ∧ f j < B) (hg : ∀ j, j < m → 0 ≤ g j ∧ g j < B) (ht : g (m - 1) ≠ 0) : pv B f n < pv B g m := by
  have h1 := pv_lt (by omega) hf
  have h2 := pv_pos (by omega) (by omega) hg ht
  have h3 : B ^ n ≤ B ^ (m - 1) := ipow_le hB (by omega)
  omega
theorem m30 (x : Int64) : (x &&& 1073741823).toInt = x.toInt % 1073741824 := L_and x 30 (by decide) (by decide +kernel)
theorem m30i (x : Int32) : (x &&& 1073741823).toInt = x.toInt % 1073741824 := I_and x 30 (by decide) (by decide +kernel)
theorem u30 {x : Int64} (h : 0 ≤ x.toInt) : ((x.toUInt64 >>> ((30 : Int32).toInt64.toUInt64 &&& Int64.toUInt64 63)).toInt64).toInt = x.toInt / 1073741824 := L_ushr x _ 30 (by decide +kernel) h
theorem u60 {x : Int64} (h : 0 ≤ x.toInt) : ((x.toUInt64 >>> ((60 : Int32).toInt64.toUInt64 &&& Int64.toUInt64 63)).toInt64).toInt = x.toInt / 1152921504606846976 := L_ushr x _ 60 (by decide +kernel) h
theorem I_ushr (x : Int32) (s : UInt32) (k : Nat) (hs : s.toNat % 32 = k) (h0 : 0 ≤ x.toInt) : (x.toUInt32 >>> s).toInt32.toInt = x.toInt / (2 ^ k : Int) := by
  have hb : (x.toUInt32 >>> s).toInt32.toBitVec.toNat = x.toBitVec.toNat / 2 ^ k := by
    show (x.toUInt32 >>> s).toNat = _
    rw [UInt32.toNat_shiftRight, hs, Nat.shiftRight_eq_div_pow]
    rfl
  have h1 := I_tn x
  have h2 := I_rng x
  have h3 : x.toBitVec.toNat / 2 ^ k ≤ x.toBitVec.toNat := Nat.div_le_self _ _
  rw [I_ofn (by rw [hb]; omega), hb, Int.natCast_ediv, h1]
  rw [Int.emod_eq_of_lt h0 (by omega)]
  norm_cast
theorem u30i {x : Int32} (h : 0 ≤ x.toInt) : ((x.toUInt32 >>> ((30 : Int32).toUInt32 &&& Int32.toUInt32 31)).toInt32).toInt = x.toInt / 1073741824 := I_ushr x _ 30 (by decide +kernel) h
section N2
variable {G : Shp} {ad ro : Nat → Nat} {D : Dat} {T a b n m : Nat} {z x y : Int} {post : Int32 → Dat → Prop}
/-- a write above T -/
theorem bgM (H : RG G ad ro) {i : Nat} (hi : T ≤ i) {v : Int32} : BgF ad ro D (dI D (ad 501) i v) T := ⟨FrP.dI (by rw [H.inj_ 501 (by omega) (by omega)]; exact Or.inr (Or.inl rfl)), fun j hj => dI_o _ _ _ (by omega), fun s _ _ _ => by rw [dI_n _ _ _ (H.ne (by omega) (by omega) (by omega))], rfl⟩
theorem TopV.fr9 (H : RG G ad ro) (h : TopV ad D T) {i : Nat} {v : Int32} : TopV ad (dI D (ad 501) i v) T := ⟨by rw [dI_n _ _ _ (H.ne (by omega) (by omega) (by omega))]; exact h.1, h.2⟩
theorem whole_sp (H : RG G ad ro) (h : TopV ad D T) (hT : T + 4 ≤ 690000) {v : Int64} (hv : -9223372036854775808 < v.toInt) (k : ∀ D' n, n ≤ 3 → BgF ad ro D D' T → TopV ad D' (T + n + 1) → Nm ad D' (T + n + 1) T v.toInt n → post (nI T) D') : X9_whole_wp G D (ad 500) v post := by
  have hr := L_rng v
  refine ⟨H.x_, _, H.mem_.1, H.mem_.2.1, ?_⟩
  rw [show (3 : Int32) = nI 3 by decide]
  refine room_sp H h (by omega) (fun D1 f1 t1 _ => ?_)
  have e1 : nI T + 1 = nI (T + 1) := nI_1 T
  have e2 : nI T + 2 = nI (T + 2) := by rw [show (2 : Int32) = nI 2 by decide, nI_add]
  have e3 : nI T + 3 = nI (T + 3) := by rw [show (3 : Int32) = nI 3 by decide, nI_add]
  have main : ∀ (s : Int64) (bb : Int32), isB bb → 0 ≤ s.toInt → v.toInt = (if bb = 0 then s.toInt else -s.toInt) → X9_whole_j81 G post (ad 500) v (ad 501) bb 3 (nI T) (ad 500) (dI (dI (dI D1 (ad 501) (nI T + 1).toNatClampNeg ((s &&& 1073741823).toInt32)) (ad 501) (nI T + 2).toNatClampNeg ((((s.toUInt64 >>> ((30 : Int32).toInt64.toUInt64 &&& Int64.toUInt64 63)).toInt64) &&& 1073741823).toInt32)) (ad 501) (nI T + 3).toNatClampNeg (((s.toUInt64 >>> ((60 : Int32).toInt64.toUInt64 &&& Int64.toUInt64 63)).toInt64).toInt32)) := by
    intro s bb hbb hs hvs
    have hsr := L_rng s
    refine ⟨H.x_, ?_⟩
    rw [e1, e2, e3, nI_clamp (by omega), nI_clamp (by omega), nI_clamp (by omega), show (3 : Int32) = nI 3 by decide]
    generalize hE : dI (dI (dI D1 (ad 501) (T + 1) ((s &&& 1073741823).toInt32)) (ad 501) (T + 2) ((((s.toUInt64 >>> ((30 : Int32).toInt64.toUInt64 &&& Int64.toUInt64 63)).toInt64) &&& 1073741823).toInt32)) (ad 501) (T + 3) (((s.toUInt64 >>> ((60 : Int32).toInt64.toUInt64 &&& Int64.toUInt64 63)).toInt64).toInt32) = E
    have q0 : lmm ad E T 0 = s.toInt % 1073741824 := by
      unfold lmm
      rw [← hE, dI_o _ _ _ (by omega), dI_o _ _ _ (by omega), dI_s, L_l2i (by rw [m30]; omega) (by rw [m30]; omega), m30]
    have q1 : lmm ad E T 1 = s.toInt / 1073741824 % 1073741824 := by
      unfold lmm
      rw [← hE, dI_o _ _ _ (by omega), dI_s, L_l2i (by rw [m30, u30 hs]; omega) (by rw [m30, u30 hs]; omega), m30, u30 hs]
    have q2 : lmm ad E T 2 = s.toInt / 1152921504606846976 := by
      unfold lmm
      rw [← hE, dI_s, L_l2i (by rw [u60 hs]; omega) (by rw [u60 hs]; omega), u60 hs]
    have hp : pv 1073741824 (lmm ad E T) 3 = s.toInt := by
      show (((0 : Int) + lmm ad E T 0 * 1073741824 ^ 0) + lmm ad E T 1 * 1073741824 ^ 1) + lmm ad E T 2 * 1073741824 ^ 2 = _
      rw [q0, q1, q2]
      omega
    have fE : BgF ad ro D1 E T := by
      rw [← hE]
      exact ((bgM H (by omega)).tr (bgM H (by omega)) (Nat.le_refl T)).tr (bgM H (by omega)) (Nat.le_refl T)
    refine done9_sp (z := v.toInt) H (by omega) (fun i hi => ?_) hbb (by rw [hp]; exact hvs) (fun D' n hn f t w => k D' n hn (((f1.lo (by omega)).tr fE (Nat.le_refl T)).tr f (Nat.le_refl T)) t w)
    rcases (show i = 0 ∨ i = 1 ∨ i = 2 by omega) with rfl | rfl | rfl
    · rw [q0]; omega
    · rw [q1]; omega
    · rw [q2]; omega
  have vin : ∀ i, i ≤ 3 → vp_in (nI (T + i)) (G.2.2.1 (ad 501)) := fun i hi => m_in H (by omega)
  have ez : (0 : Int64).toInt = 0 := rfl
  refine ⟨fun q => ?_, fun q => ?_⟩
  · have hv0 := (L_le _ _).mp q
    refine ⟨by rw [e1]; exact vin 1 (by omega), by rw [e2]; exact vin 2 (by omega), by rw [e3]; exact vin 3 (by omega), fun _ => main v 0 isB_0 (by omega) (by rw [if_pos rfl]), fun w => absurd q w⟩
  · have hv0 : ¬ (0 : Int64).toInt ≤ v.toInt := fun w => q ((L_le _ _).mpr w)
    have en := L_neg hv
    refine ⟨by rw [e1]; exact vin 1 (by omega), by rw [e2]; exact vin 2 (by omega), by rw [e3]; exact vin 3 (by omega), fun w => absurd w q, fun _ => main (-v) 1 isB_1 (by omega) (by rw [if_neg (by decide), en]; omega)⟩
theorem copy9_sp (H : RG G ad ro) (h : TopV ad D T) (ha : Nm ad D T a x n) (hT : T + n + 1 ≤ 690000) (k : ∀ D', BgF ad ro D D' T → TopV ad D' (T + n + 1) → Nm ad D' (T + n + 1) T x n → post (nI T) D') : X9_copy_wp G D (ad 500) (nI a) post := by
  have han := ha.1
  refine ⟨H.x_, _, H.mem_.1, H.mem_.2.1, size_sp H ha h.2 (room_sp H h hT (fun D1 f1 t1 _ => ?_))⟩
  have a1 := ha.fr (f1.lo (by omega)) (Nat.le_refl T)
  have key := up_loop (L := fun f i (E : Dat) => X9_copy_l15 G post (ad 500) (nI a) (ad 501) f (nI n) (nI T) (nI i) E) (n + 1) (fun i E => BgF ad ro D1 E T ∧ TopV ad E (T + n + 1) ∧ ∀ j, j < i → E.1 (ad 501) (T + j) = D1.1 (ad 501) (a + j)) ?_ ?_ 0 D1 (by omega) ⟨BgF.rf, t1, fun j hj => by omega⟩
  · exact ⟨_, key⟩
  · intro f E hE
    show X9_copy_l15_b G post (ad 500) (nI a) (ad 501) _ _ _ _ _
    refine ⟨fun _ => k E ((f1.lo (by omega)).tr hE.1 (Nat.le_refl T)) hE.2.1 ?_, fun q => absurd (nI_lt (by omega) (by omega)) q⟩
    obtain ⟨h1, h2, h3, h4, h5⟩ := a1
    have el : ∀ i, i < n → lmm ad E T i = lmm ad D1 a i := fun i hi => by
      unfold lmm
      rw [show T + 1 + i = T + (i + 1) by omega, hE.2.2 (i + 1) (by omega), show a + 1 + i = a + (i + 1) by omega]
    refine ⟨by omega, ?_, fun i hi => by rw [el i hi]; exact h3 i hi, fun hn => by rw [el _ (by omega)]; exact h4 hn, by rw [h5]; exact pv_congr (fun i hi => (el i hi).symm)⟩
    have := hE.2.2 0 (by omega)
    rw [Nat.add_zero, Nat.add_zero] at this
    rw [this]; exact h2
  · intro f i E hi hE hk
    show X9_copy_l15_b G post (ad 500) (nI a) (ad 501) _ _ _ _ _
    refine ⟨fun q => absurd q (nI_nlt (by omega) (by omega)), fun _ => ?_⟩
    rw [nI_add, nI_add, nI_1, nI_clamp (by omega), nI_clamp (by omega)]
    refine ⟨m_in H (by omega), m_in H (by omega), hk _ ⟨hE.1.tr (bgM H (by omega)) (Nat.le_refl T), hE.2.1.fr9 H, fun j hj => ?_⟩⟩
    by_cases q : j = i
    · rw [q, dI_s, hE.1.2.1 _ (by omega)]
    · rw [dI_o _ _ _ (by omega)]; exact hE.2.2 j (by omega)
theorem turned_sp (H : RG G ad ro) (h : TopV ad D T) (ha : Nm ad D T a x n) (hT : T + n + 1 ≤ 690000) (k : ∀ D', BgF ad ro D D' T → TopV ad D' (T + n + 1) → Nm ad D' (T + n + 1) T (-x) n → post (nI T) D') : X9_turned_wp G D (ad 500) (nI a) post := by
  refine ⟨H.x_, _, H.mem_.1, H.mem_.2.1, copy9_sp H h ha hT (fun D1 f1 t1 w1 => ⟨m_in H (by omega), m_in H (by omega), ?_⟩)⟩
  rw [nI_clamp (by omega)]
  refine k _ (f1.tr (bgM H (Nat.le_refl T)) (Nat.le_refl T)) (t1.fr9 H) ?_
  have hz := w1.z0
  obtain ⟨h1, h2, h3, h4, h5⟩ := w1
  have el : ∀ i v, lmm ad (dI D1 (ad 501) T v) T i = lmm ad D1 T i := fun i v => by
    unfold lmm
    rw [dI_o _ _ _ (by omega)]
  refine ⟨h1, ?_, fun i hi => by rw [el]; exact h3 i hi, fun hn => by rw [el]; exact h4 hn, ?_⟩
  · rw [dI_s, h2]
    by_cases q : x < 0
    · rw [if_pos q, if_neg (by omega), negneg_nI]
    · rw [if_neg q]
      by_cases q2 : x = 0
      · rw [if_neg (by omega), hz.mp q2]; decide
      · rw [if_pos (by omega)]
  · rw [pv_congr (fun i _ => el i _), ← h5]
    unfold az
    split <;> split <;> omega
theorem compareSizes_sp (H : RG G ad ro) (ha : Nm ad D T a x n) (hb : Nm ad D T b y m) (hT : T ≤ 690000) (k : post (cmp3 (az x) (az y)) D) : X9_compareSizes_wp G D (ad 500) (nI a) (nI b) post := by
  have ha1 := ha.1
  have hb1 := hb.1
  have xa := ha.2.2.2.2
  have yb := hb.2.2.2.2
  refine ⟨H.x_, _, H.mem_.1, H.mem_.2.1, size_sp H ha hT (size_sp H hb hT ⟨fun q => ?_, fun q => size_sp H hb hT ⟨fun q2 => ?_, fun q2 => ?_⟩⟩)⟩
  · have e : n = m := by rw [nI_eq (by omega) (by omega)] at q; exact q
    subst e
    have key : ∀ i, i ≤ n → (∀ j, i ≤ j → j < n → lmm ad D a j = lmm ad D b j) → X9_compareSizes_l33 G post (ad 500) (nI a) (nI b) (ad 501) (i + 1) (nI i) D := by
      intro i
      induction i with
      | zero =>
        intro _ he
        show X9_compareSizes_l33_b G post (ad 500) (nI a) (nI b) (ad 501) _ _ _
        refine ⟨fun _ => ?_, fun q => absurd (by decide) q⟩
        have e : az x = az y := by rw [xa, yb]; exact pv_congr (fun j hj => he j (by omega) hj)
        unfold cmp3 at k
        rw [if_neg (by omega), if_pos e] at k
        exact k
      | succ i ih =>
        intro hi he
        show X9_compareSizes_l33_b G post (ad 500) (nI a) (nI b) (ad 501) _ _ _
        refine ⟨fun q => absurd q (nI_nle (by omega) (by omega)), fun _ => ?_⟩
        rw [nI_add, nI_add, nI_clamp (by omega), nI_clamp (by omega), nI_m1 (by omega), Nat.add_sub_cancel]
        have ea : (D.1 (ad 501) (a + (i + 1))).toInt = lmm ad D a i := by unfold lmm; rw [show a + (i + 1) = a + 1 + i by omega]
        have eb : (D.1 (ad 501) (b + (i + 1))).toInt = lmm ad D b i := by unfold lmm; rw [show b + (i + 1) = b + 1 + i by omega]
        refine ⟨m_in H (by omega), m_in H (by omega), fun q => ih (by omega) (fun j h1 h2 => ?_), fun q => ⟨m_in H (by omega), m_in H (by omega), fun w => ?_, fun w => ?_⟩⟩
        · by_cases w : j = i
          · rw [w, ← ea, ← eb, q]
          · exact he j (by omega) h2
        · have w1 := (I_le _ _).mp w
          have w2 : ¬ (D.1 (ad 501) (a + (i + 1))).toInt = (D.1 (ad 501) (b + (i + 1))).toInt := fun u => q ((I_eq _ _).mpr u)
          have hlt := pv_cmpG (B := 1073741824) (by decide) (i := i) (by omega) ha.2.2.1 hb.2.2.1 (fun j h1 h2 => he j (by omega) h2) (by omega)
          unfold cmp3 at k
          rw [if_pos (by omega)] at k
          exact k
        · have w1 : ¬ (D.1 (ad 501) (a + (i + 1))).toInt ≤ (D.1 (ad 501) (b + (i + 1))).toInt := fun u => w ((I_le _ _).mpr u)
          have hlt := pv_cmpG (B := 1073741824) (by decide) (i := i) (by omega) hb.2.2.1 ha.2.2.1 (fun j h1 h2 => (he j (by omega) h2).symm) (by omega)
          unfold cmp3 at k
          rw [if_neg (by omega), if_neg (by omega)] at k
          exact k
    exact ⟨_, key n (Nat.le_refl n) (fun j h1 h2 => by omega)⟩
  · have hne : n ≠ m := fun w => q (by rw [w])
    have hle : n ≤ m := by
      have := (I_le _ _).mp q2
      rw [nI_toInt (by omega), nI_toInt (by omega)] at this
      omega
    have hlt := pv_lessG (B := 1073741824) (by decide) (show n < m by omega) ha.2.2.1 hb.2.2.1 (hb.2.2.2.1 (by omega))
    unfold cmp3 at k
    rw [if_pos (by omega)] at k
    exact k
  · have hlt' : m < n := by
      by_cases w : m < n
      · exact w
      · exact absurd (nI_le (by omega) (by omega)) q2
    have hlt := pv_lessG (B := 1073741824) (by decide) hlt' hb.2.2.1 ha.2.2.1 (ha.2.2.2.1 (by omega))
    unfold cmp3 at k
    rw [if_neg (by omega), if_neg (by omega)] at k
    exact k
end N2
