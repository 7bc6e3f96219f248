/-! the reference: times -/
section TM
variable {G : Shp} {ad ro : Nat → Nat} {D : Dat} {T a b n m : Nat} {z x y : Int} {post : Int32 → Dat → Prop}
theorem lmm_at {D : Dat} {a i : Nat} {v : Int32} : lmm ad (dI D (ad 501) (a + 1 + i) v) a i = v.toInt := by unfold lmm; rw [dI_s]
theorem lmm_ne {D : Dat} {a i j : Nat} {v : Int32} (h : a + 1 + j ≠ i) : lmm ad (dI D (ad 501) i v) a j = lmm ad D a j := by unfold lmm; rw [dI_o _ _ _ h]
/-- one row of the product -/
theorem times_row (H : RG G ad ro) {N : Nat} (hb : Nm ad D T b y m) (hTN : T + N + 1 ≤ 690000) {i : Nat} (hi : i + m < N) {t : Int} (ht : 0 ≤ t ∧ t < 1073741824) {w : Int64} (hw : w.toInt = t) {E0 : Dat} (f0 : BgF ad ro D E0 T) (d0 : dg30 (lmm ad E0 T) N) (z0 : lmm ad E0 T (i + m) = 0) {A1 V3 : Int32} {K : Int32 → Int32 → Int32 → Int32 → Dat → Prop} (k : ∀ E, BgF ad ro D E T → dg30 (lmm ad E T) N → (∀ j, i + m < j → lmm ad E T j = lmm ad E0 T j) → pv 1073741824 (lmm ad E T) (i + m + 1) = pv 1073741824 (lmm ad E0 T) (i + m + 1) + t * pv 1073741824 (lmm ad D b) m * 1073741824 ^ i → K V3 (nI m) (nI T) (nI (i + 2)) E) : ∃ f, X9_times_l101 G post (ad 500) A1 (nI b) (ad 501) K f V3 (nI m) (nI T) (nI (i + 1)) 0 w 1 E0 := by
  have hb1 := hb.1
  have key := up_loop2 (L := fun f q (c : Int64) (E : Dat) => X9_times_l101 G post (ad 500) A1 (nI b) (ad 501) K f V3 (nI m) (nI T) (nI (i + 1)) c w (nI q) E) (m + 1) (fun q c E => 1 ≤ q ∧ BgF ad ro D E T ∧ (0 ≤ c.toInt ∧ c.toInt < 1073741824) ∧ dg30 (lmm ad E T) N ∧ (∀ j, i + (q - 1) ≤ j → lmm ad E T j = lmm ad E0 T j) ∧ pv 1073741824 (lmm ad E T) (i + (q - 1)) + c.toInt * 1073741824 ^ (i + (q - 1)) = pv 1073741824 (lmm ad E0 T) (i + (q - 1)) + t * pv 1073741824 (lmm ad D b) (q - 1) * 1073741824 ^ i) ?_ ?_ 1 0 E0 (by omega) ⟨by omega, f0, ⟨Int.le_refl 0, by decide⟩, d0, fun j _ => rfl, ?_⟩
  · exact ⟨_, key⟩
  · intro f c E hs
    obtain ⟨-, fE, hc, hd, ho, hp⟩ := hs
    rw [Nat.add_sub_cancel] at ho hp
    show X9_times_l101_b G post (ad 500) A1 (nI b) (ad 501) _ _ _ _ _ _ _ _ _ _
    refine ⟨fun _ => ?_, fun q => absurd (nI_lt (by omega) (by omega)) q⟩
    rw [nI_add, nI_add, nI_1, nI_clamp (by omega)]
    have ev : c.toInt32.toInt = c.toInt := L_l2i (by omega) (by omega)
    have ei : T + (i + 1) + m = T + 1 + (i + m) := by omega
    rw [ei]
    refine ⟨m_in H (by omega), k _ (fE.tr (bgM H (by omega)) (Nat.le_refl T)) (fun j hj => ?_) (fun j hj => ?_) ?_⟩
    · by_cases q : j = i + m
      · rw [q, lmm_at, ev]; exact hc
      · rw [lmm_ne (by omega)]; exact hd j hj
    · rw [lmm_ne (by omega), ho j (by omega)]
    · show pv 1073741824 (lmm ad (dI E (ad 501) (T + 1 + (i + m)) c.toInt32) T) (i + m) + lmm ad (dI E (ad 501) (T + 1 + (i + m)) c.toInt32) T (i + m) * 1073741824 ^ (i + m) = (pv 1073741824 (lmm ad E0 T) (i + m) + lmm ad E0 T (i + m) * 1073741824 ^ (i + m)) + _
      rw [lmm_at, ev, z0, pv_congr (n := i + m) (g := lmm ad E T) (fun j hj => lmm_ne (by omega)), hp]
      omega
  · intro f q c E hq hs hk
    obtain ⟨h1, fE, hc, hd, ho, hp⟩ := hs
    obtain ⟨p, rfl⟩ := Nat.exists_eq_add_of_le' h1
    rw [Nat.add_sub_cancel] at ho hp
    show X9_times_l101_b G post (ad 500) A1 (nI b) (ad 501) _ _ _ _ _ _ _ _ _ _
    refine ⟨fun w => absurd w (nI_nlt (by omega) (by omega)), fun _ => ?_⟩
    have ei : nI T + nI (i + 1) + nI (p + 1) - 1 = nI (T + 1 + (i + p)) := by
      rw [nI_add, nI_add, nI_sub1 (by omega)]
      congr 1
      omega
    have eb : nI b + nI (p + 1) = nI (b + 1 + p) := by rw [nI_add]; congr 1; omega
    rw [ei, eb, nI_1, nI_clamp (by omega), nI_clamp (by omega)]
    have bb := hb.2.2.1 p (by omega)
    have bc := hd (i + p) (by omega)
    have xb : ((E.1 (ad 501) (b + 1 + p)).toInt64).toInt = lmm ad D b p := by rw [L_i2l, ← lmm_fr fE (by omega)]; rfl
    have xc : ((E.1 (ad 501) (T + 1 + (i + p))).toInt64).toInt = lmm ad E T (i + p) := by rw [L_i2l]; rfl
    have mb : 0 ≤ t * lmm ad D b p := Int.mul_nonneg ht.1 bb.1
    have mb2 : t * lmm ad D b p ≤ 1073741823 * 1073741823 := Int.mul_le_mul (by omega) (by omega) bb.1 (by decide)
    have x1 : (w * (E.1 (ad 501) (b + 1 + p)).toInt64).toInt = t * lmm ad D b p := by rw [L_mul (by rw [xb, hw]; omega) (by rw [xb, hw]; omega), xb, hw]
    have x2 : (w * (E.1 (ad 501) (b + 1 + p)).toInt64 + (E.1 (ad 501) (T + 1 + (i + p))).toInt64).toInt = t * lmm ad D b p + lmm ad E T (i + p) := by rw [L_add (by rw [x1, xc]; omega) (by rw [x1, xc]; omega), x1, xc]
    have x3 : (c + (w * (E.1 (ad 501) (b + 1 + p)).toInt64 + (E.1 (ad 501) (T + 1 + (i + p))).toInt64)).toInt = c.toInt + (t * lmm ad D b p + lmm ad E T (i + p)) := by rw [L_add (by rw [x2]; omega) (by rw [x2]; omega), x2]
    generalize c + (w * (E.1 (ad 501) (b + 1 + p)).toInt64 + (E.1 (ad 501) (T + 1 + (i + p))).toInt64) = v at *
    have v0 : 0 ≤ v.toInt := by omega
    have ec := u30 v0
    have em : ((v &&& 1073741823).toInt32).toInt = v.toInt % 1073741824 := by rw [L_l2i (by rw [m30]; omega) (by rw [m30]; omega), m30]
    refine ⟨m_in H (by omega), m_in H (by omega), m_in H (by omega), hk _ _ ⟨by omega, fE.tr (bgM H (by omega)) (Nat.le_refl T), by rw [ec]; omega, fun j hj => ?_, fun j hj => ?_, ?_⟩⟩
    · by_cases q : j = i + p
      · rw [q, lmm_at, em]; omega
      · rw [lmm_ne (by omega)]; exact hd j hj
    · rw [lmm_ne (by omega), ho j (by omega)]
    · rw [Nat.add_sub_cancel, ec, show i + (p + 1) = i + p + 1 by omega]
      show (pv 1073741824 (lmm ad (dI E (ad 501) (T + 1 + (i + p)) (v &&& 1073741823).toInt32) T) (i + p) + lmm ad (dI E (ad 501) (T + 1 + (i + p)) (v &&& 1073741823).toInt32) T (i + p) * 1073741824 ^ (i + p)) + _ = (pv 1073741824 (lmm ad E0 T) (i + p) + lmm ad E0 T (i + p) * 1073741824 ^ (i + p)) + t * (pv 1073741824 (lmm ad D b) p + lmm ad D b p * 1073741824 ^ p) * _
      rw [lmm_at, em, pv_congr (n := i + p) (g := lmm ad E T) (fun j hj => lmm_ne (by omega)), ← ho (i + p) (by omega), Int.pow_succ]
      have q3 := Int.mul_ediv_add_emod v.toInt 1073741824
      have e6 : (1073741824 : Int) ^ (i + p) = 1073741824 ^ i * 1073741824 ^ p := Int.pow_add ..
      rw [e6] at hp ⊢
      generalize (1073741824 : Int) ^ i = P at *
      generalize (1073741824 : Int) ^ p = Q at *
      generalize v.toInt / 1073741824 = u at *
      generalize v.toInt % 1073741824 = r at *
      generalize pv 1073741824 (lmm ad E T) (i + p) = p0 at *
      generalize pv 1073741824 (lmm ad E0 T) (i + p) = p1 at *
      generalize pv 1073741824 (lmm ad D b) p = p2 at *
      generalize lmm ad D b p = u1 at *
      generalize lmm ad E T (i + p) = u2 at *
      have e5 : r = c.toInt + (t * u1 + u2) - 1073741824 * u := by omega
      rw [e5]
      grind
  · rw [Nat.sub_self]
    show pv 1073741824 (lmm ad E0 T) (i + 0) + (0 : Int) * _ = pv 1073741824 (lmm ad E0 T) (i + 0) + t * 0 * _
    rw [Int.zero_mul, Int.mul_zero, Int.zero_mul]
theorem times_sp (H : RG G ad ro) (h : TopV ad D T) (ha : Nm ad D T a x n) (hb : Nm ad D T b y m) (hT : T + n + m + 5 ≤ 690000) (k : ∀ D' n', n' ≤ n + m → BgF ad ro D D' T → TopV ad D' (T + n' + 1) → Nm ad D' (T + n' + 1) T (x * y) n' → post (nI T) D') : X9_times_wp G D (ad 500) (nI a) (nI b) post := by
  have ha1 := ha.1
  have hb1 := hb.1
  have e0 : (0 : Int64).toInt = 0 := rfl
  have zero : x * y = 0 → X9_times_j16 G post (ad 500) (nI a) (nI b) (ad 501) D := fun q => by
    refine whole_sp H h (by omega) (by decide) (fun D' n' hn f t w => ?_)
    rw [e0] at w
    have n0 := w.z0.mp rfl
    refine k D' n' (by omega) f t ?_
    rw [q]; exact w
  refine ⟨H.x_, _, H.mem_.1, H.mem_.2.1, sign_sp H ha h.2 ⟨fun q => zero ?_, fun q => sign_sp H hb h.2 ⟨fun q2 => ?_, fun q2 => zero ?_⟩⟩⟩
  · rw [sgI_0.mp q, Int.zero_mul]
  rotate_left
  · rw [sgI_0.mp q2, Int.mul_zero]
  have hx : x ≠ 0 := fun w => q (sgI_0.mpr w)
  have hy : y ≠ 0 := fun w => q2 (sgI_0.mpr w)
  refine size_sp H ha h.2 (size_sp H hb h.2 ?_)
  rw [nI_add]
  refine room_sp H h (by omega) (fun D1 f1 t1 g1 => ?_)
  have hf := f1.lo (show T ≤ 700000 by omega)
  have aD := ha.fr hf (Nat.le_refl T)
  have bD := hb.fr hf (Nat.le_refl T)
  -- noughts first
  have key := up_loop (L := fun f i (E : Dat) => X9_times_l48 G post (ad 500) (nI a) (nI b) (ad 501) f (nI n) (nI m) (nI T) (nI i) E) (n + m + 1) (fun i E => 1 ≤ i ∧ BgF ad ro D1 E T ∧ ∀ j, j < i - 1 → lmm ad E T j = 0) ?_ ?_ 1 D1 (by omega) ⟨by omega, BgF.rf, fun j hj => by omega⟩
  · exact ⟨_, key⟩
  · intro f E0 hE
    obtain ⟨-, f0, z0⟩ := hE
    show X9_times_l48_b G post (ad 500) (nI a) (nI b) (ad 501) _ _ _ _ _ _
    refine ⟨fun _ => ?_, fun q => absurd (by rw [nI_add]; exact nI_lt (by omega) (by omega)) q⟩
    rw [Nat.add_sub_cancel] at z0
    have key := up_loop (L := fun f i (E : Dat) => X9_times_l77 G post (ad 500) (nI a) (nI b) (ad 501) f (nI n) (nI m) (nI T) (nI i) E) (n + 1) (fun i E => 1 ≤ i ∧ BgF ad ro D1 E T ∧ dg30 (lmm ad E T) (n + m) ∧ (∀ j, (i - 1) + m ≤ j → j < n + m → lmm ad E T j = 0) ∧ pv 1073741824 (lmm ad E T) (n + m) = pv 1073741824 (lmm ad D1 a) (i - 1) * pv 1073741824 (lmm ad D1 b) m) ?_ ?_ 1 E0 (by omega) ⟨by omega, f0, fun j hj => by rw [z0 j hj]; omega, fun j _ hj => z0 j hj, by rw [pv_zero z0, Nat.sub_self]; show (0 : Int) = 0 * _; omega⟩
    · exact ⟨_, key⟩
    · intro f E hE
      obtain ⟨-, fE, hd, -, hp⟩ := hE
      show X9_times_l77_b G post (ad 500) (nI a) (nI b) (ad 501) _ _ _ _ _ _
      refine ⟨fun _ => ?_, fun q => absurd (nI_lt (by omega) (by omega)) q⟩
      rw [Nat.add_sub_cancel, ← aD.2.2.2.2, ← bD.2.2.2.2] at hp
      refine sign_sp H (aD.fr fE (Nat.le_refl T)) h.2 (sign_sp H (bD.fr fE (Nat.le_refl T)) h.2 ?_)
      have e3 : ∀ bb : Int32, isB bb → (bb = 0 ↔ ((0 < x ∧ 0 < y) ∨ (x < 0 ∧ y < 0))) → X9_times_j225 G post (ad 500) (nI a) (nI b) (ad 501) bb (nI n + nI m) (nI T) (ad 500) E := by
        intro bb hbb hbx
        unfold X9_times_j225
        rw [nI_add]
        refine ⟨H.x_, done9_sp (z := x * y) H (by omega) hd hbb ?_ (fun D' n' hn f' t' w' => k D' n' hn ((hf.tr fE (Nat.le_refl T)).tr f' (Nat.le_refl T)) t' w')⟩
        rw [hp]
        by_cases q : bb = 0
        · rw [if_pos q]
          rcases hbx.mp q with w | w
          · rw [az_id (by omega), az_id (by omega)]
          · unfold az
            rw [if_pos w.1, if_pos w.2, Int.neg_mul_neg]
        · rw [if_neg q]
          have w : ¬ ((0 < x ∧ 0 < y) ∨ (x < 0 ∧ y < 0)) := fun z => q (hbx.mpr z)
          unfold az
          by_cases w1 : x < 0
          · rw [if_pos w1, if_neg (by omega), Int.neg_mul, Int.neg_neg]
          · rw [if_neg w1, if_pos (by omega), Int.mul_neg, Int.neg_neg]
      exact ⟨fun q => e3 0 isB_0 ⟨fun _ => (sgI_eq hx hy).mp q, fun _ => rfl⟩, fun q => e3 1 isB_1 ⟨fun w => absurd w (by decide), fun w => absurd ((sgI_eq hx hy).mpr w) q⟩⟩
    · intro f i E hi hE hk
      obtain ⟨h1, fE, hd, hz, hp⟩ := hE
      obtain ⟨j, rfl⟩ := Nat.exists_eq_add_of_le' h1
      rw [Nat.add_sub_cancel] at hz hp
      show X9_times_l77_b G post (ad 500) (nI a) (nI b) (ad 501) _ _ _ _ _ _
      refine ⟨fun q => absurd q (nI_nlt (by omega) (by omega)), fun _ => ?_⟩
      have ea : nI a + nI (j + 1) = nI (a + 1 + j) := by rw [nI_add]; congr 1; omega
      rw [ea, nI_clamp (by omega)]
      have ba := aD.2.2.1 j (by omega)
      have xa : ((E.1 (ad 501) (a + 1 + j)).toInt64).toInt = lmm ad D1 a j := by rw [L_i2l, ← lmm_fr fE (by omega)]; rfl
      refine ⟨m_in H (by omega), times_row (N := n + m) H bD (by omega) (i := j) (by omega) ba xa fE hd (hz _ (by omega) (by omega)) (fun E' fE' hd' ho hp' => hk E' ⟨by omega, fE', hd', fun l h2 h3 => ?_, ?_⟩)⟩
      · rw [ho l (by omega)]; exact hz l (by omega) h3
      · rw [Nat.add_sub_cancel]
        obtain ⟨d, hd2⟩ := Nat.exists_eq_add_of_le (show j + m + 1 ≤ n + m by omega)
        have s1 := pv_split (B := 1073741824) (f := lmm ad E' T) (n := j + m + 1) (m := d)
        have s2 := pv_split (B := 1073741824) (f := lmm ad E T) (n := j + m + 1) (m := d)
        rw [← hd2] at s1 s2
        rw [s1, hp', pv_congr (n := d) (g := fun l => lmm ad E T (j + m + 1 + l)) (fun l hl => ho _ (by omega))]
        have : pv 1073741824 (lmm ad E T) (j + m + 1) = pv 1073741824 (lmm ad D1 a) j * pv 1073741824 (lmm ad D1 b) m - 1073741824 ^ (j + m + 1) * pv 1073741824 (fun l => lmm ad E T (j + m + 1 + l)) d := by rw [← hp, s2]; omega
        rw [this]
        show _ = (pv 1073741824 (lmm ad D1 a) j + lmm ad D1 a j * 1073741824 ^ j) * _
        grind
  · intro f i E hi hE hk
    obtain ⟨h1, fE, hz⟩ := hE
    obtain ⟨j, rfl⟩ := Nat.exists_eq_add_of_le' h1
    show X9_times_l48_b G post (ad 500) (nI a) (nI b) (ad 501) _ _ _ _ _ _
    refine ⟨fun q => absurd q (by rw [nI_add]; exact nI_nlt (by omega) (by omega)), fun _ => ?_⟩
    have ea : nI T + nI (j + 1) = nI (T + 1 + j) := by rw [nI_add]; congr 1; omega
    rw [ea, nI_1, nI_clamp (by omega)]
    refine ⟨m_in H (by omega), hk _ ⟨by omega, fE.tr (bgM H (by omega)) (Nat.le_refl T), fun l hl => ?_⟩⟩
    by_cases q : l = j
    · rw [q, lmm_at]; rfl
    · rw [lmm_ne (by omega)]; exact hz l (by omega)
end TM
