/-! the reference: sum, less -/
def adg (f : Nat → Int) (n i : Nat) : Int := if i < n then f i else 0
theorem adg_pv {B : Int} {f : Nat → Int} {n k : Nat} (h : n ≤ k) : pv B (adg f n) k = pv B f n := by
  rw [pv_more (f := adg f n) h (fun i h1 _ => if_neg (by omega))]
  exact pv_congr (fun i hi => if_pos hi)
theorem adg_b {f : Nat → Int} {n : Nat} (h : dg30 f n) (i : Nat) : 0 ≤ adg f n i ∧ adg f n i < 1073741824 := by
  unfold adg
  by_cases q : i < n
  · rw [if_pos q]; exact h i q
  · rw [if_neg q]; omega
def mxN (n m : Nat) : Nat := if n < m then m else n
section SM
variable {G : Shp} {ad ro : Nat → Nat} {D : Dat} {T a b n m : Nat} {z x y : Int} {post : Int32 → Dat → Prop}
theorem lmm_fr {D D' : Dat} (f : BgF ad ro D D' T) {i : Nat} (h : a + 1 + i < T) : lmm ad D' a i = lmm ad D a i := by unfold lmm; rw [f.2.1 _ h]
/-- adding limb by limb -/
theorem add_loop (H : RG G ad ro) (ha : Nm ad D T a x n) (hb : Nm ad D T b y m) (hT : T + mxN n m + 2 ≤ 690000) (hs : (0 < x ∧ 0 < y) ∨ (x < 0 ∧ y < 0)) (k : ∀ D' n', n' ≤ mxN n m + 1 → BgF ad ro D D' T → TopV ad D' (T + n' + 1) → Nm ad D' (T + n' + 1) T (x + y) n' → post (nI T) D') : ∃ f, X9_sum_l70 G post (ad 500) (nI a) (nI b) (ad 501) f (nI (mxN n m + 1)) (nI T) 0 1 D := by
  have ha1 := ha.1
  have hb1 := hb.1
  have hmx1 : n ≤ mxN n m := by unfold mxN; split <;> omega
  have hmx2 : m ≤ mxN n m := by unfold mxN; split <;> omega
  generalize mxN n m = w at *
  have key := up_loop2 (L := fun f i (c : Int32) (E : Dat) => X9_sum_l70 G post (ad 500) (nI a) (nI b) (ad 501) f (nI (w + 1)) (nI T) c (nI i) E) (w + 2) (fun i c E => 1 ≤ i ∧ BgF ad ro D E T ∧ (c.toInt = 0 ∨ c.toInt = 1) ∧ dg30 (lmm ad E T) (i - 1) ∧ pv 1073741824 (lmm ad E T) (i - 1) + c.toInt * 1073741824 ^ (i - 1) = pv 1073741824 (adg (lmm ad D a) n) (i - 1) + pv 1073741824 (adg (lmm ad D b) m) (i - 1)) ?_ ?_ 1 0 D (by omega) ⟨by omega, BgF.rf, Or.inl rfl, fun i hi => by omega, rfl⟩
  · exact ⟨_, key⟩
  · intro f c E hs'
    obtain ⟨-, fE, hc, hd, hp⟩ := hs'
    show X9_sum_l70_b G post (ad 500) (nI a) (nI b) (ad 501) _ _ _ _ _ _
    refine ⟨fun _ => ?_, fun q => absurd (nI_lt (by omega) (by omega)) q⟩
    have aE := ha.fr fE (Nat.le_refl T)
    rw [show w + 2 - 1 = w + 1 by omega] at hd hp
    rw [adg_pv (by omega), adg_pv (by omega), ← ha.2.2.2.2, ← hb.2.2.2.2] at hp
    have c0 : c.toInt = 0 := by
      rcases hc with hc | hc
      · exact hc
      · exfalso
        have l1 := ha.lt
        have l2 := hb.lt
        have l3 : (1073741824 : Int) ^ n ≤ 1073741824 ^ w := ipow_le (by decide) (by omega)
        have l4 : (1073741824 : Int) ^ m ≤ 1073741824 ^ w := ipow_le (by decide) (by omega)
        have l5 := pv_nn (B := 1073741824) (by decide) (n := w + 1) (f := lmm ad E T) (fun i hi => (hd i hi).1)
        rw [hc, Int.one_mul, Int.pow_succ] at hp
        have l6 : (0 : Int) < 1073741824 ^ w := Int.pow_pos (by decide)
        omega
    rw [c0, Int.zero_mul, Int.add_zero] at hp
    refine sign_sp H aE (by omega) ?_
    have e3 : ∀ bb : Int32, isB bb → (bb = 0 ↔ 0 ≤ x) → X9_sum_j173 G post (ad 500) (nI a) (nI b) (ad 501) bb (nI (w + 1)) (nI T) (ad 500) E := by
      intro bb hbb hbx
      refine ⟨H.x_, done9_sp (z := x + y) H (by omega) hd hbb ?_ (fun D' n' hn f' t' w' => k D' n' hn (fE.tr f' (Nat.le_refl T)) t' w')⟩
      rw [hp]
      by_cases q : bb = 0
      · rw [if_pos q]
        have := hbx.mp q
        rw [az_id (by omega), az_id (by omega)]
      · rw [if_neg q]
        have : ¬ 0 ≤ x := fun w => q (hbx.mpr w)
        unfold az
        rw [if_pos (by omega), if_pos (by omega)]; omega
    refine ⟨fun q => e3 0 isB_0 ⟨fun _ => sgI_ge.mp q, fun _ => rfl⟩, fun q => e3 1 isB_1 ⟨fun w => absurd w (by decide), fun w => absurd (sgI_ge.mpr w) q⟩⟩
  · intro f i c E hi hs' hk
    obtain ⟨h1, fE, hc, hd, hp⟩ := hs'
    obtain ⟨j, rfl⟩ := Nat.exists_eq_add_of_le' h1
    rw [Nat.add_sub_cancel] at hd hp
    show X9_sum_l70_b G post (ad 500) (nI a) (nI b) (ad 501) _ _ _ _ _ _
    refine ⟨fun q => absurd q (nI_nlt (by omega) (by omega)), fun _ => ?_⟩
    have aE := ha.fr fE (Nat.le_refl T)
    have bE := hb.fr fE (Nat.le_refl T)
    have ba := adg_b ha.2.2.1 j
    have bb := adg_b hb.2.2.1 j
    -- the last step
    have fin : ∀ s0 s1 : Int32, (s1 + s0).toInt = c.toInt + adg (lmm ad D a) n j + adg (lmm ad D b) m j → X9_sum_j125 G post (ad 500) (nI a) (nI b) (ad 501) (X9_sum_l70 G post (ad 500) (nI a) (nI b) (ad 501) f) (nI (w + 1)) (nI T) (nI (j + 1)) s0 s1 E := by
      intro s0 s1 hv
      unfold X9_sum_j125
      rw [nI_add, nI_1, nI_clamp (by omega)]
      have h0 : 0 ≤ (s1 + s0).toInt := by omega
      have ec := u30i h0
      refine ⟨m_in H (by omega), hk _ _ ⟨by omega, fE.tr (bgM H (by omega)) (Nat.le_refl T), by rw [ec]; omega, fun i hi => ?_, ?_⟩⟩
      · rw [show j + 1 + 1 - 1 = j + 1 by omega] at hi
        unfold lmm
        by_cases q : i = j
        · rw [q, show T + 1 + j = T + (j + 1) by omega, dI_s, m30i]; omega
        · rw [dI_o _ _ _ (by omega)]; exact hd i (by omega)
      · rw [show j + 1 + 1 - 1 = j + 1 by omega]
        rw [ec]
        have el : lmm ad (dI E (ad 501) (T + (j + 1)) ((s1 + s0) &&& 1073741823)) T j = (s1 + s0).toInt % 1073741824 := by
          unfold lmm
          rw [show T + 1 + j = T + (j + 1) by omega, dI_s, m30i]
        have ep : pv 1073741824 (lmm ad (dI E (ad 501) (T + (j + 1)) ((s1 + s0) &&& 1073741823)) T) j = pv 1073741824 (lmm ad E T) j := pv_congr (fun i hi => by unfold lmm; rw [dI_o _ _ _ (by omega)])
        show (pv 1073741824 (lmm ad (dI E (ad 501) (T + (j + 1)) ((s1 + s0) &&& 1073741823)) T) j + lmm ad (dI E (ad 501) (T + (j + 1)) ((s1 + s0) &&& 1073741823)) T j * 1073741824 ^ j) + _ = (pv 1073741824 (adg (lmm ad D a) n) j + adg (lmm ad D a) n j * 1073741824 ^ j) + (pv 1073741824 (adg (lmm ad D b) m) j + adg (lmm ad D b) m j * 1073741824 ^ j)
        rw [el, ep, Int.pow_succ]
        have q3 := Int.mul_ediv_add_emod (s1 + s0).toInt 1073741824
        generalize (1073741824 : Int) ^ j = P at *
        generalize (s1 + s0).toInt / 1073741824 = u at *
        generalize (s1 + s0).toInt % 1073741824 = r at *
        generalize pv 1073741824 (lmm ad E T) j = p0 at *
        generalize pv 1073741824 (adg (lmm ad D a) n) j = p1 at *
        generalize pv 1073741824 (adg (lmm ad D b) m) j = p2 at *
        generalize adg (lmm ad D a) n j = u1 at *
        generalize adg (lmm ad D b) m j = u2 at *
        have e5 : r = c.toInt + u1 + u2 - 1073741824 * u := by omega
        rw [e5]
        grind
    have mid : ∀ s0 : Int32, s0.toInt = adg (lmm ad D a) n j → X9_sum_j101 G post (ad 500) (nI a) (nI b) (ad 501) (X9_sum_l70 G post (ad 500) (nI a) (nI b) (ad 501) f) (nI (w + 1)) (nI T) (nI (j + 1)) s0 c E := by
      intro s0 hs0
      have e1 : (c + s0).toInt = c.toInt + adg (lmm ad D a) n j := by rw [I_add (by rw [hs0]; omega) (by rw [hs0]; omega), hs0]
      have e0 : (0 : Int32).toInt = 0 := rfl
      refine size_sp H bE (by omega) ⟨fun q => fin 0 _ ?_, fun q => ?_⟩
      · have hj : m ≤ j := by
          by_cases q2 : m ≤ j
          · exact q2
          · exact absurd q (nI_nlt (by omega) (by omega))
        have ez : adg (lmm ad D b) m j = 0 := if_neg (by omega)
        rw [I_add (by rw [e1, e0]; omega) (by rw [e1, e0]; omega), e1, e0, ez]
      · have hj : j < m := by
          by_cases q2 : j < m
          · exact q2
          · exact absurd (nI_lt (by omega) (by omega)) q
        rw [nI_add, nI_clamp (by omega)]
        refine ⟨m_in H (by omega), fin _ _ ?_⟩
        have ez : adg (lmm ad D b) m j = lmm ad D b j := if_pos hj
        have e2 : (E.1 (ad 501) (b + (j + 1))).toInt = adg (lmm ad D b) m j := by
          rw [ez, ← lmm_fr fE (by omega)]
          unfold lmm
          rw [show b + 1 + j = b + (j + 1) by omega]
        rw [I_add (by rw [e1, e2]; omega) (by rw [e1, e2]; omega), e1, e2]
    refine size_sp H aE (by omega) ⟨fun q => mid 0 ?_, fun q => ?_⟩
    · have hj : n ≤ j := by
        by_cases q2 : n ≤ j
        · exact q2
        · exact absurd q (nI_nlt (by omega) (by omega))
      have ez : adg (lmm ad D a) n j = 0 := if_neg (by omega)
      rw [ez]; rfl
    · have hj : j < n := by
        by_cases q2 : j < n
        · exact q2
        · exact absurd (nI_lt (by omega) (by omega)) q
      rw [nI_add, nI_clamp (by omega)]
      refine ⟨m_in H (by omega), mid _ ?_⟩
      have ez : adg (lmm ad D a) n j = lmm ad D a j := if_pos hj
      rw [ez, ← lmm_fr fE (by omega)]
      unfold lmm
      rw [show a + 1 + j = a + (j + 1) by omega]
/-- the smaller size is taken from the greater -/
theorem sub_loop (H : RG G ad ro) {p q : Nat} {u v : Int} {N M : Nat} (hp : Nm ad D T p u N) (hq : Nm ad D T q v M) (hlt : az v < az u) (hT : T + N + 1 ≤ 690000) {A1 A2 : Int32} (k : ∀ D' n', n' ≤ N → BgF ad ro D D' T → TopV ad D' (T + n' + 1) → Nm ad D' (T + n' + 1) T (if u < 0 then -(az u - az v) else az u - az v) n' → post (nI T) D') : ∃ f, X9_sum_l238 G post (ad 500) A1 A2 (ad 501) f (nI p) (nI q) (nI N) (nI T) 0 1 D := by
  have hp1 := hp.1
  have hq1 := hq.1
  have hMN : M ≤ N := hq.sz (Int.lt_trans hlt hp.lt)
  have key := up_loop2 (L := fun f i (c : Int32) (E : Dat) => X9_sum_l238 G post (ad 500) A1 A2 (ad 501) f (nI p) (nI q) (nI N) (nI T) c (nI i) E) (N + 1) (fun i c E => 1 ≤ i ∧ BgF ad ro D E T ∧ (c.toInt = 0 ∨ c.toInt = 1) ∧ dg30 (lmm ad E T) (i - 1) ∧ pv 1073741824 (lmm ad E T) (i - 1) = pv 1073741824 (lmm ad D p) (i - 1) - pv 1073741824 (adg (lmm ad D q) M) (i - 1) + c.toInt * 1073741824 ^ (i - 1)) ?_ ?_ 1 0 D (by omega) ⟨by omega, BgF.rf, Or.inl rfl, fun i hi => by omega, rfl⟩
  · exact ⟨_, key⟩
  · intro f c E hs'
    obtain ⟨-, fE, hc, hd, hpv⟩ := hs'
    show X9_sum_l238_b G post (ad 500) A1 A2 (ad 501) _ _ _ _ _ _ _ _
    refine ⟨fun _ => ?_, fun w => absurd (nI_lt (by omega) (by omega)) w⟩
    have pE := hp.fr fE (Nat.le_refl T)
    rw [Nat.add_sub_cancel] at hd hpv
    rw [adg_pv (by omega), ← hp.2.2.2.2, ← hq.2.2.2.2] at hpv
    have c0 : c.toInt = 0 := by
      rcases hc with hc | hc
      · exact hc
      · exfalso
        have l5 := pv_lt (B := 1073741824) (by decide) hd
        rw [hc] at hpv
        omega
    rw [c0, Int.zero_mul, Int.add_zero] at hpv
    have hun : u ≠ 0 := fun w => by
      rw [w] at hlt
      have := az_nn v
      have : az 0 = 0 := rfl
      omega
    refine sign_sp H pE (by omega) ?_
    have e3 : ∀ bb : Int32, isB bb → (bb = 0 ↔ 0 ≤ u) → X9_sum_j338 G post (ad 500) A1 A2 (ad 501) bb (nI N) (nI T) (ad 500) E := by
      intro bb hbb hbx
      refine ⟨H.x_, done9_sp (z := if u < 0 then -(az u - az v) else az u - az v) H (by omega) hd hbb ?_ (fun D' n' hn f' t' w' => k D' n' hn (fE.tr f' (Nat.le_refl T)) t' w')⟩
      rw [hpv]
      by_cases w : bb = 0
      · rw [if_pos w]
        have := hbx.mp w
        rw [if_neg (by omega)]
      · rw [if_neg w]
        have : ¬ 0 ≤ u := fun z => w (hbx.mpr z)
        rw [if_pos (by omega)]
    exact ⟨fun w => e3 0 isB_0 ⟨fun _ => sgI_ge.mp w, fun _ => rfl⟩, fun w => e3 1 isB_1 ⟨fun z => absurd z (by decide), fun z => absurd (sgI_ge.mpr z) w⟩⟩
  · intro f i c E hi hs' hk
    obtain ⟨h1, fE, hc, hd, hpv⟩ := hs'
    obtain ⟨j, rfl⟩ := Nat.exists_eq_add_of_le' h1
    rw [Nat.add_sub_cancel] at hd hpv
    show X9_sum_l238_b G post (ad 500) A1 A2 (ad 501) _ _ _ _ _ _ _ _
    refine ⟨fun w => absurd w (nI_nlt (by omega) (by omega)), fun _ => ?_⟩
    have qE := hq.fr fE (Nat.le_refl T)
    have ba := hp.2.2.1 j (by omega)
    have bb := adg_b hq.2.2.1 j
    have e0 : (0 : Int32).toInt = 0 := rfl
    have ep0 : (E.1 (ad 501) (p + (j + 1))).toInt = lmm ad D p j := by
      rw [← lmm_fr fE (by omega)]
      unfold lmm
      rw [show p + 1 + j = p + (j + 1) by omega]
    have ep1 : (E.1 (ad 501) (p + (j + 1)) - c).toInt = lmm ad D p j - c.toInt := by rw [I_sub (by rw [ep0]; omega) (by rw [ep0]; omega), ep0]
    have fin : ∀ s0 : Int32, s0.toInt = adg (lmm ad D q) M j → X9_sum_j283 G post (ad 500) A1 A2 (ad 501) (X9_sum_l238 G post (ad 500) A1 A2 (ad 501) f) (nI p) (nI q) (nI N) (nI T) (nI (j + 1)) s0 (E.1 (ad 501) (p + (j + 1)) - c) E := by
      intro s0 hs0
      have hv : ((E.1 (ad 501) (p + (j + 1)) - c) - s0).toInt = lmm ad D p j - c.toInt - adg (lmm ad D q) M j := by rw [I_sub (by rw [ep1, hs0]; omega) (by rw [ep1, hs0]; omega), ep1, hs0]
      generalize hx : (E.1 (ad 501) (p + (j + 1)) - c) - s0 = xv at *
      have fin2 : ∀ c' : Int32, (c'.toInt = 0 ∧ 0 ≤ xv.toInt) ∨ (c'.toInt = 1 ∧ xv.toInt < 0) → X9_sum_j296 G post (ad 500) A1 A2 (ad 501) (X9_sum_l238 G post (ad 500) A1 A2 (ad 501) f) (nI p) (nI q) (nI N) (nI T) (nI (j + 1)) xv c' E := by
        intro c' hc'
        unfold X9_sum_j296
        rw [nI_add, nI_1, nI_clamp (by omega)]
        refine ⟨m_in H (by omega), hk _ _ ⟨by omega, fE.tr (bgM H (by omega)) (Nat.le_refl T), by omega, fun i hi => ?_, ?_⟩⟩
        · rw [show j + 1 + 1 - 1 = j + 1 by omega] at hi
          unfold lmm
          by_cases w : i = j
          · rw [w, show T + 1 + j = T + (j + 1) by omega, dI_s, m30i]; omega
          · rw [dI_o _ _ _ (by omega)]; exact hd i (by omega)
        · rw [show j + 1 + 1 - 1 = j + 1 by omega]
          have el : lmm ad (dI E (ad 501) (T + (j + 1)) (xv &&& 1073741823)) T j = xv.toInt % 1073741824 := by
            unfold lmm
            rw [show T + 1 + j = T + (j + 1) by omega, dI_s, m30i]
          have epv : pv 1073741824 (lmm ad (dI E (ad 501) (T + (j + 1)) (xv &&& 1073741823)) T) j = pv 1073741824 (lmm ad E T) j := pv_congr (fun i hi => by unfold lmm; rw [dI_o _ _ _ (by omega)])
          show pv 1073741824 (lmm ad (dI E (ad 501) (T + (j + 1)) (xv &&& 1073741823)) T) j + lmm ad (dI E (ad 501) (T + (j + 1)) (xv &&& 1073741823)) T j * 1073741824 ^ j = (pv 1073741824 (lmm ad D p) j + lmm ad D p j * 1073741824 ^ j) - (pv 1073741824 (adg (lmm ad D q) M) j + adg (lmm ad D q) M j * 1073741824 ^ j) + c'.toInt * 1073741824 ^ (j + 1)
          have em : xv.toInt % 1073741824 = xv.toInt + c'.toInt * 1073741824 := by omega
          rw [el, epv, hpv, em, hv, Int.pow_succ]
          generalize (1073741824 : Int) ^ j = P at *
          generalize lmm ad D p j = u1 at *
          generalize adg (lmm ad D q) M j = u2 at *
          grind
      unfold X9_sum_j283
      rw [hx]
      refine ⟨fun w => fin2 0 (Or.inl ⟨rfl, (I_le _ _).mp w⟩), fun w => fin2 1 (Or.inr ⟨rfl, ?_⟩)⟩
      have : ¬ (0 : Int32).toInt ≤ xv.toInt := fun z => w ((I_le _ _).mpr z)
      omega
    rw [nI_add, nI_clamp (by omega)]
    refine ⟨m_in H (by omega), size_sp H qE (by omega) ⟨fun w => fin 0 ?_, fun w => ?_⟩⟩
    · have hj : M ≤ j := by
        by_cases q2 : M ≤ j
        · exact q2
        · exact absurd w (nI_nlt (by omega) (by omega))
      have ez : adg (lmm ad D q) M j = 0 := if_neg (by omega)
      rw [ez]; rfl
    · have hj : j < M := by
        by_cases q2 : j < M
        · exact q2
        · exact absurd (nI_lt (by omega) (by omega)) w
      rw [nI_add, nI_clamp (by omega)]
      refine ⟨m_in H (by omega), fin _ ?_⟩
      have ez : adg (lmm ad D q) M j = lmm ad D q j := if_pos hj
      rw [ez, ← lmm_fr fE (by omega)]
      unfold lmm
      rw [show q + 1 + j = q + (j + 1) by omega]
theorem sgI_eq {x y : Int} (hx : x ≠ 0) (hy : y ≠ 0) : sgI x = sgI y ↔ ((0 < x ∧ 0 < y) ∨ (x < 0 ∧ y < 0)) := by
  unfold sgI
  by_cases q : x < 0
  · rw [if_pos q]
    by_cases q2 : y < 0
    · rw [if_pos q2]; exact ⟨fun _ => Or.inr ⟨q, q2⟩, fun _ => rfl⟩
    · rw [if_neg q2, if_neg hy]; exact ⟨fun w => absurd w (by decide), fun w => by omega⟩
  · rw [if_neg q, if_neg hx]
    by_cases q2 : y < 0
    · rw [if_pos q2]; exact ⟨fun w => absurd w (by decide), fun w => by omega⟩
    · rw [if_neg q2, if_neg hy]; exact ⟨fun _ => Or.inl (by omega), fun _ => rfl⟩
theorem sum_sp (H : RG G ad ro) (h : TopV ad D T) (ha : Nm ad D T a x n) (hb : Nm ad D T b y m) (hT : T + mxN n m + 5 ≤ 690000) (k : ∀ D' n', n' ≤ mxN n m + 1 → BgF ad ro D D' T → TopV ad D' (T + n' + 1) → Nm ad D' (T + n' + 1) T (x + y) n' → post (nI T) D') : X9_sum_wp G D (ad 500) (nI a) (nI b) post := by
  have ha1 := ha.1
  have hb1 := hb.1
  have hmx1 : n ≤ mxN n m := by unfold mxN; split <;> omega
  have hmx2 : m ≤ mxN n m := by unfold mxN; split <;> omega
  refine ⟨H.x_, _, H.mem_.1, H.mem_.2.1, sign_sp H ha h.2 ⟨fun q => ?_, fun q => ?_⟩⟩
  rotate_left
  · have hx := sgI_0.mp q
    refine copy9_sp H h hb (by omega) (fun D' f t w => k D' m (by omega) f t ?_)
    rw [hx, Int.zero_add]; exact w
  have hx : x ≠ 0 := fun w => q (sgI_0.mpr w)
  refine sign_sp H hb h.2 ⟨fun q => ?_, fun q => ?_⟩
  rotate_left
  · have hy := sgI_0.mp q
    refine copy9_sp H h ha (by omega) (fun D' f t w => k D' n (by omega) f t ?_)
    rw [hy, Int.add_zero]; exact w
  have hy : y ≠ 0 := fun w => q (sgI_0.mpr w)
  refine sign_sp H ha h.2 (sign_sp H hb h.2 ⟨fun q => ?_, fun q => ?_⟩)
  · have hs : ¬ ((0 < x ∧ 0 < y) ∨ (x < 0 ∧ y < 0)) := fun w => q ((sgI_eq hx hy).mpr w)
    refine compareSizes_sp H ha hb h.2 ⟨fun q => ?_, fun q => ?_⟩
    · have hne : az x ≠ az y := fun w => q (by unfold cmp3; rw [if_neg (by omega), if_pos w])
      -- from the greater
      have go : ∀ {p1 q1 : Nat} {u v : Int} {N M : Nat}, Nm ad D T p1 u N → Nm ad D T q1 v M → az v < az u → N ≤ mxN n m → (if u < 0 then -(az u - az v) else az u - az v) = x + y → X9_sum_j214 G post (ad 500) (nI a) (nI b) (ad 501) (nI p1) (nI q1) D := by
        intro p1 q1 u v N M hp hq hlt hN hval
        refine size_sp H hp h.2 (room_sp H h (by omega) (fun D1 f1 t1 g1 => ?_))
        have hf := f1.lo (show T ≤ 700000 by omega)
        exact sub_loop H (hp.fr hf (Nat.le_refl T)) (hq.fr hf (Nat.le_refl T)) hlt (by omega) (fun D' n' hn f t w => k D' n' (by omega) (hf.tr f (Nat.le_refl T)) t (by rw [← hval]; exact w))
      unfold X9_sum_j203
      by_cases hc : az x < az y
      · have ec : cmp3 (az x) (az y) = -1 := if_pos hc
        rw [ec]
        refine ⟨fun _ => ⟨fun _ => go hb ha hc hmx2 ?_, fun w => absurd (by decide) w⟩, fun w => absurd (by decide) w⟩
        unfold az at hc ⊢
        split at hc <;> split at hc <;> (try split) <;> (try split) <;> omega
      · have ec : cmp3 (az x) (az y) = 1 := by unfold cmp3; rw [if_neg hc, if_neg hne]
        rw [ec]
        refine ⟨fun w => absurd w (by decide), fun _ => ⟨fun w => absurd w (by decide), fun _ => go ha hb (by omega) hmx1 ?_⟩⟩
        unfold az at hc hne ⊢
        split at hc <;> split at hc <;> (try split) <;> (try split) <;> omega
    · have he : az x = az y := by
        unfold cmp3 at q
        by_cases w1 : az x < az y
        · rw [if_pos w1] at q; exact absurd q (by decide)
        · rw [if_neg w1] at q
          by_cases w2 : az x = az y
          · exact w2
          · rw [if_neg w2] at q; exact absurd q (by decide)
      refine whole_sp H h (by omega) (by decide) (fun D' n' hn f t w => ?_)
      have e0 : (0 : Int64).toInt = 0 := rfl
      rw [e0] at w
      have n0 := w.z0.mp rfl
      refine k D' n' (by omega) f t ?_
      have : x + y = 0 := by
        unfold az at he
        split at he <;> split at he <;> omega
      rw [this]; exact w
  · have hs := (sgI_eq hx hy).mp q
    refine size_sp H ha h.2 (size_sp H hb h.2 ?_)
    rw [mxI_nI (by omega) (by omega)]
    have em : nI (if n < m then m else n) + 1 = nI (mxN n m + 1) := by unfold mxN; rw [nI_1]
    rw [em]
    refine room_sp H h (by omega) (fun D1 f1 t1 g1 => ?_)
    have hf := f1.lo (show T ≤ 700000 by omega)
    exact add_loop H (ha.fr hf (Nat.le_refl T)) (hb.fr hf (Nat.le_refl T)) (by omega) hs (fun D' n' hn f t w => k D' n' hn (hf.tr f (Nat.le_refl T)) t w)
theorem less_sp (H : RG G ad ro) (h : TopV ad D T) (ha : Nm ad D T a x n) (hb : Nm ad D T b y m) (hT : T + m + mxN n m + 6 ≤ 690000) (k : ∀ D' n', n' ≤ mxN n m + 1 → BgF ad ro D D' T → TopV ad D' (T + m + 1 + n' + 1) → Nm ad D' (T + m + 1 + n' + 1) (T + m + 1) (x - y) n' → post (nI (T + m + 1)) D') : X9_less_wp G D (ad 500) (nI a) (nI b) post := by
  refine ⟨H.x_, turned_sp H h hb (by omega) (fun D1 f1 t1 w1 => ?_)⟩
  refine sum_sp H t1 (ha.fr f1 (by omega)) w1 (by omega) (fun D2 n' hn f2 t2 w2 => k D2 n' hn (f1.tr f2 (by omega)) t2 ?_)
  rw [Int.sub_eq_add_neg]; exact w2
end SM
