/-! the reference: divided, common -/
theorem az_abs (z : Int) : az z = (z.natAbs : Int) := by unfold az; split <;> omega
section CO
variable {G : Shp} {ad ro : Nat → Nat} {D : Dat} {T a b n m : Nat} {x y z : Int} {post : Int32 → Dat → Prop}
theorem room2_sp (H : RG G ad ro) (h : TopV ad D T) {m : Nat} (k : post (nI T) (dI D (ad 500) 2 (nI (T + m + 1)))) : X9_room_wp G D (ad 500) (nI m) post := by
  refine ⟨H.x_, ?_⟩
  rw [h.1]
  have e : nI T + (nI m + 1) = nI (T + m + 1) := by rw [nI_1, nI_add]; rfl
  rw [e]
  exact k
theorem bgT (H : RG G ad ro) {v : Int32} : BgF ad ro D (dI D (ad 500) 2 v) 700000 := ⟨FrP.dI (by rw [H.inj_ 500 (by omega) (by omega)]; exact Or.inl rfl), fun i _ => by rw [dI_n _ _ _ (H.ne (by omega) (by omega) (by omega))], fun s h1 _ _ => dI_o _ _ _ h1, rfl⟩
theorem TopV.k (h : TopV ad D T) {D' : Dat} (f : BgK ad ro D D') : TopV ad D' T := ⟨by rw [f.2]; exact h.1, h.2⟩
/-- an exact quotient -/
theorem divided_sp (H : RG G ad ro) (h : TopV ad D T) (ha : Nm ad D T a x n) (hb : Nm ad D T b y m) (hT : T + n + 1 ≤ 690000) (hn : n < 599) (hy : y ≠ 0) (hz : x = y * z) (k : ∀ D' n', n' ≤ n → BgF ad ro D D' T → TopV ad D' (T + n' + 1) → Nm ad D' (T + n' + 1) T z n' → post (nI T) D') : X9_divided_wp G D (ad 500) (nI a) (nI b) post := by
  have ne5 : ad 500 ≠ ad 501 := H.ne (by omega) (by omega) (by omega)
  have n05 : ad 505 ≠ ad 500 := H.ne (by omega) (by omega) (by omega)
  have n15 : ad 505 ≠ ad 501 := H.ne (by omega) (by omega) (by omega)
  refine ⟨H.x_, _, H.mem_.1, H.mem_.2.1, _, H.quo_.1, H.quo_.2.1, divide9_sp H ha hb h.2 hn hy (fun D2 qs ls hq hl f2 d2 => ?_)⟩
  have t2 : TopV ad D2 T := h.k f2
  obtain ⟨d7, -, dq, dt, dQ, -, -, -⟩ := d2
  have eQ : az x / az y = az z := by
    have hyp : 0 < az y := by unfold az; split <;> omega
    have : az x = az y * az z := by
      rw [az_abs, az_abs, az_abs, hz, Int.natAbs_mul, Int.natCast_mul]
    rw [this, Int.mul_ediv_cancel_left _ (by omega)]
  rw [eQ] at dQ
  rw [d7]
  refine room2_sp H t2 ?_
  have f3 : BgF ad ro D (dI D2 (ad 500) 2 (nI (T + qs + 1))) T := (f2.1.tr (bgT H) (Nat.le_refl _)).lo (by omega)
  have e7 : (dI D2 (ad 500) 2 (nI (T + qs + 1))).1 (ad 500) 7 = nI qs := by rw [dI_o _ _ _ (by decide)]; exact d7
  have e5 : (dI D2 (ad 500) 2 (nI (T + qs + 1))).1 (ad 505) = D2.1 (ad 505) := dI_n _ _ _ n05
  generalize dI D2 (ad 500) 2 (nI (T + qs + 1)) = D3 at *
  have key := up_loop (L := fun f i (E : Dat) => X9_divided_l18 G post (ad 500) (nI a) (nI b) (ad 501) (ad 505) f (nI T) (nI i) E) qs (fun i E => BgF ad ro D E T ∧ E.1 (ad 500) 7 = nI qs ∧ E.1 (ad 505) = D2.1 (ad 505) ∧ ∀ j, j < i → lmm ad E T j = af ad D2 505 j) ?_ ?_ 0 D3 (by omega) ⟨f3, e7, e5, fun j hj => by omega⟩
  · exact ⟨_, key⟩
  · intro f E hE
    obtain ⟨fE, g7, g5, gl⟩ := hE
    show X9_divided_l18_b G post (ad 500) (nI a) (nI b) (ad 501) (ad 505) _ _ _ _
    unfold X9_divided_l18_b X9_divided_j81
    rw [g7]
    refine ⟨fun _ => sign_sp H (ha.fr fE (Nat.le_refl T)) h.2 (sign_sp H (hb.fr fE (Nat.le_refl T)) h.2 ?_), fun q => absurd (nI_le (Nat.le_refl _) (by omega)) q⟩
    rw [g7]
    have hpv : pv 1073741824 (lmm ad E T) qs = az z := by rw [pv_congr gl, dQ]
    have zq : qs = 0 ↔ z = 0 := by
      constructor
      · intro w
        subst w
        have e : az z = 0 := dQ.symm
        unfold az at e
        split at e <;> omega
      · intro w
        by_cases v : qs = 0
        · exact v
        · have p := pv_pos (B := 1073741824) (by decide) (by omega) dq (dt (by omega))
          have p2 : (0 : Int) < 1073741824 ^ (qs - 1) := Int.pow_pos (by decide)
          rw [w] at dQ
          have : az 0 = 0 := rfl
          omega
    have e3 : ∀ bb : Int32, isB bb → z = (if bb = 0 then az z else -az z) → X9_divided_j82 G post (ad 500) (nI a) (nI b) (ad 501) (ad 505) bb (nI qs) (nI T) (ad 500) E := fun bb hbb hbx => by
      refine ⟨H.x_, done9_sp (z := z) H (by omega) (fun i hi => by rw [gl i hi]; exact dq i hi) hbb (by rw [hpv]; exact hbx) (fun D' n' hn' f' t' w' => k D' n' (by omega) (fE.tr f' (Nat.le_refl T)) t' w')⟩
    refine ⟨fun q => e3 0 isB_0 ?_, fun q => ⟨fun q2 => e3 0 isB_0 ?_, fun q2 => e3 1 isB_1 ?_⟩⟩
    · rw [if_pos rfl]
      by_cases w : x = 0
      · have : sgI y = 0 := by rw [← q]; exact sgI_0.mpr w
        exact absurd (sgI_0.mp this) hy
      · have := (sgI_eq w hy).mp q
        unfold az
        rw [if_neg]
        intro v
        rcases this with u | u
        · have := Int.mul_neg_of_pos_of_neg u.2 v
          omega
        · have := Int.mul_pos_of_neg_of_neg u.2 v
          omega
    · rw [if_pos rfl]
      have : qs = 0 := by
        by_cases w : qs = 0
        · exact w
        · exact absurd q2 (nI_nle (by omega) (by omega))
      rw [zq.mp this]; rfl
    · rw [if_neg (by decide)]
      have hqs : qs ≠ 0 := fun w => q2 (by rw [w]; decide)
      have hz0 : z ≠ 0 := fun w => hqs (zq.mpr w)
      have hx0 : x ≠ 0 := fun w => by
        rw [hz] at w
        rcases Int.mul_eq_zero.mp w with u | u
        · exact hy u
        · exact hz0 u
      have hs : ¬ ((0 < x ∧ 0 < y) ∨ (x < 0 ∧ y < 0)) := fun w => q ((sgI_eq hx0 hy).mpr w)
      unfold az
      have hneg : z < 0 := by
        by_cases v : z < 0
        · exact v
        · exfalso
          apply hs
          rcases Int.lt_trichotomy y 0 with u | u | u
          · have := Int.mul_neg_of_neg_of_pos u (show 0 < z by omega)
            exact Or.inr ⟨by omega, u⟩
          · exact absurd u hy
          · have := Int.mul_pos u (show 0 < z by omega)
            exact Or.inl ⟨by omega, u⟩
      rw [if_pos hneg]; omega
  · intro f i E hi hE hk
    obtain ⟨fE, g7, g5, gl⟩ := hE
    show X9_divided_l18_b G post (ad 500) (nI a) (nI b) (ad 501) (ad 505) _ _ _ _
    unfold X9_divided_l18_b
    rw [g7, show nI T + 1 + nI i = nI (T + 1 + i) by rw [nI_1, nI_add], nI_1, nI_clamp (by omega), nI_clamp (by omega)]
    refine ⟨fun w => absurd w (nI_ge hi (by omega)), fun _ => ⟨q_in H (by omega), m_in H (by omega), hk _ ⟨fE.tr (bgM H (by omega)) (Nat.le_refl T), by rw [dI_n _ _ _ ne5]; exact g7, by rw [dI_n _ _ _ n15]; exact g5, fun j hj => ?_⟩⟩⟩
    by_cases w : j = i
    · rw [w, lmm_at, g5]; rfl
    · rw [lmm_ne (by omega)]; exact gl j (by omega)
/-- only the cells of a number matter -/
theorem Nm.cells {D' : Dat} {T' : Nat} (h : Nm ad D T a z n) (e : ∀ i, i ≤ n → D'.1 (ad 501) (a + i) = D.1 (ad 501) (a + i)) (hT : a + n + 1 ≤ T') : Nm ad D' T' a z n := by
  obtain ⟨h1, h2, h3, h4, h5⟩ := h
  have el : ∀ i, i < n → lmm ad D' a i = lmm ad D a i := fun i hi => by
    unfold lmm
    rw [show a + 1 + i = a + (i + 1) by omega, e (i + 1) (by omega)]
  have e0 := e 0 (by omega)
  rw [Nat.add_zero] at e0
  exact ⟨hT, by rw [e0]; exact h2, fun i hi => by rw [el i hi]; exact h3 i hi, fun hn => by rw [el _ (by omega)]; exact h4 hn, by rw [h5]; exact pv_congr (fun i hi => (el i hi).symm)⟩
/-- only the memory's cells from c to c + w have changed -/
def MwF (ad : Nat → Nat) (D D' : Dat) (c w : Nat) : Prop := D'.2 = D.2 ∧ (∀ q, q ≠ ad 501 → D'.1 q = D.1 q) ∧ ∀ i, (i < c ∨ c + w ≤ i) → D'.1 (ad 501) i = D.1 (ad 501) i
theorem MwF.rf {c w : Nat} : MwF ad D D c w := ⟨rfl, fun _ _ => rfl, fun _ _ => rfl⟩
theorem MwF.w {E : Dat} {c w i : Nat} {v : Int32} (h : MwF ad D E c w) (h1 : c ≤ i) (h2 : i < c + w) : MwF ad D (dI E (ad 501) i v) c w := ⟨h.1, fun q hq => by rw [dI_n _ _ _ hq]; exact h.2.1 q hq, fun j hj => by rw [dI_o _ _ _ (by omega)]; exact h.2.2 j hj⟩
theorem MwF.bg (H : RG G ad ro) {D' : Dat} {c w : Nat} (h : MwF ad D D' c w) (hT : T ≤ c) : BgF ad ro D D' T := ⟨fun q hq => ⟨h.2.1 q (fun e => hq (by rw [e, H.inj_ 501 (by omega) (by omega)]; exact Or.inr (Or.inl rfl))), by rw [h.1]⟩, fun i hi => h.2.2 i (by omega), fun s _ _ _ => by rw [h.2.1 _ (H.ne (by omega) (by omega) (by omega))], by rw [h.1]⟩
theorem MwF.nm {D' : Dat} {c w : Nat} (f : MwF ad D D' c w) (h : Nm ad D T a z n) (hd : a + n < c ∨ c + w ≤ a) : Nm ad D' T a z n := h.cells (fun i hi => f.2.2 _ (by omega)) h.1
theorem putOff_sp (H : RG G ad ro) {TT : Nat} (ha : Nm ad D TT a x n) (hTT : TT ≤ 690000) {c : Nat} (hc : a + n < c) (hcn : c + n + 1 ≤ TT) {post : Dat → Prop} (k : ∀ D', MwF ad D D' c (n + 1) → Nm ad D' TT c (az x) n → post D') : X9_putOff_wp G D (ad 500) (nI c) (nI a) post := by
  refine ⟨H.x_, _, H.mem_.1, H.mem_.2.1, size_sp H ha hTT ⟨m_in H (by omega), ?_⟩⟩
  rw [nI_clamp (by omega)]
  have key := up_loop (L := fun f i (E : Dat) => X9_putOff_l16 G post (ad 500) (nI c) (nI a) (ad 501) f (nI n) (nI i) E) (n + 1) (fun i E => 1 ≤ i ∧ MwF ad D E c (n + 1) ∧ E.1 (ad 501) c = nI n ∧ ∀ j, j < i - 1 → lmm ad E c j = lmm ad D a j) ?_ ?_ 1 (dI D (ad 501) c (nI n)) (by omega) ⟨by omega, MwF.rf.w (by omega) (by omega), dI_s _ _ _ _, fun j hj => by omega⟩
  · exact ⟨_, key⟩
  · intro f E hE
    obtain ⟨-, fE, e0, el⟩ := hE
    show X9_putOff_l16_b G post (ad 500) (nI c) (nI a) (ad 501) _ _ _ _
    refine ⟨fun _ => k E fE ?_, fun q => absurd (nI_lt (by omega) (by omega)) q⟩
    rw [Nat.add_sub_cancel] at el
    obtain ⟨h1, h2, h3, h4, h5⟩ := ha
    refine ⟨by omega, ?_, fun i hi => by rw [el i hi]; exact h3 i hi, fun hn => by rw [el _ (by omega)]; exact h4 hn, ?_⟩
    · rw [e0, if_neg (by have := az_nn x; omega)]
    · rw [az_id (az_nn x), h5]; exact pv_congr (fun i hi => (el i hi).symm)
  · intro f i E hi hE hk
    obtain ⟨h1, fE, e0, el⟩ := hE
    obtain ⟨j, rfl⟩ := Nat.exists_eq_add_of_le' h1
    show X9_putOff_l16_b G post (ad 500) (nI c) (nI a) (ad 501) _ _ _ _
    refine ⟨fun q => absurd q (nI_nlt (by omega) (by omega)), fun _ => ?_⟩
    rw [nI_add, nI_add, nI_1, nI_clamp (by omega), nI_clamp (by omega)]
    refine ⟨m_in H (by omega), m_in H (by omega), hk _ ⟨by omega, fE.w (by omega) (by omega), by rw [dI_o _ _ _ (by omega)]; exact e0, fun l hl => ?_⟩⟩
    rw [Nat.add_sub_cancel] at el hl
    by_cases w : l = j
    · rw [w, show c + (j + 1) = c + 1 + j by omega, lmm_at, fE.2.2 _ (by omega)]
      unfold lmm
      rw [show a + (j + 1) = a + 1 + j by omega]
    · rw [lmm_ne (by omega)]; exact el l (by omega)
/-- the greatest common divisor -/
theorem common_sp (H : RG G ad ro) (h : TopV ad D T) (ha : Nm ad D T a x n) (hb : Nm ad D T b y m) (hT : T + 3 * (mxN n m + 3) ≤ 690000) (hM : mxN n m < 590) (k : ∀ D' n', n' ≤ mxN n m → BgF ad ro D D' T → TopV ad D' (T + n' + 1) → Nm ad D' (T + n' + 1) T ((Nat.gcd x.natAbs y.natAbs : Nat) : Int) n' → post (nI T) D') : X9_common_wp G D (ad 500) (nI a) (nI b) post := by
  have ha1 := ha.1
  have hb1 := hb.1
  have hmx1 : n ≤ mxN n m := by unfold mxN; split <;> omega
  have hmx2 : m ≤ mxN n m := by unfold mxN; split <;> omega
  have n01 : ad 500 ≠ ad 501 := H.ne (by omega) (by omega) (by omega)
  have n31 : ad 503 ≠ ad 501 := H.ne (by omega) (by omega) (by omega)
  refine ⟨H.x_, _, H.mem_.1, H.mem_.2.1, _, H.left_.1, H.left_.2.1, size_sp H ha h.2 (size_sp H hb h.2 ?_)⟩
  rw [mxI_nI (by omega) (by omega)]
  have em : nI (if n < m then m else n) + 2 = nI (mxN n m + 2) := by unfold mxN; rw [show (2 : Int32) = nI 2 by decide, nI_add]
  rw [em, h.1]
  generalize mxN n m = M at *
  refine room_sp H h (by omega) (fun D1 f1 t1 _ => room_sp H t1 (by omega) (fun D2 f2 t2 _ => room_sp H t2 (by omega) (fun D3 f3 t3 _ => ?_)))
  have f03 : BgF ad ro D D3 700000 := (f1.tr f2 (Nat.le_refl _)).tr f3 (Nat.le_refl _)
  generalize hW : M + 3 = W at *
  have hTT : T + (M + 2) + 1 + (M + 2) + 1 + (M + 2) + 1 = T + 3 * W := by omega
  rw [hTT] at t3
  have ey : T + (M + 2) + 1 = T + W := by omega
  have ez : T + (M + 2) + 1 + (M + 2) + 1 = T + 2 * W := by omega
  rw [ez, ey]
  have a3 : Nm ad D3 (T + 3 * W) a x n := ha.fr (f03.lo (by omega)) (by omega)
  have b3 : Nm ad D3 (T + 3 * W) b y m := hb.fr (f03.lo (by omega)) (by omega)
  refine putOff_sp H a3 (by omega) (by omega) (by omega) (fun D4 f4 x4 => ?_)
  refine putOff_sp H (f4.nm b3 (by omega)) (by omega) (by omega) (by omega) (fun D5 f5 y5 => ?_)
  have x5 := f5.nm x4 (by omega)
  have f05 : BgF ad ro D D5 T := ((f03.lo (by omega)).tr (f4.bg H (Nat.le_refl T)) (Nat.le_refl T)).tr (f5.bg H (by omega)) (Nat.le_refl T)
  have t5 : TopV ad D5 (T + 3 * W) := ⟨by rw [f5.2.1 _ n01, f4.2.1 _ n01]; exact t3.1, t3.2⟩
  rw [az_abs] at x5 y5
  have key : ∀ (f v u p q r nu nv : Nat) (E : Dat), v < f → (p = T ∨ p = T + W ∨ p = T + 2 * W) → (q = T ∨ q = T + W ∨ q = T + 2 * W) → (r = T ∨ r = T + W ∨ r = T + 2 * W) → p ≠ q → p ≠ r → q ≠ r → nu ≤ M → nv ≤ M → Nm ad E (T + 3 * W) p (u : Int) nu → Nm ad E (T + 3 * W) q (v : Int) nv → BgF ad ro D E T → TopV ad E (T + 3 * W) → Nat.gcd u v = Nat.gcd x.natAbs y.natAbs → X9_common_l60 G post (ad 500) (nI a) (nI b) (ad 501) (ad 503) f (nI T) (nI p) (nI q) (nI r) E := by
    intro f
    induction f with
    | zero => intro v _ _ _ _ _ _ _ hv; omega
    | succ f ih =>
      intro v u p q r nu nv E hv hp hq hr hpq hpr hqr hnu hnv xu yv fE tE hg
      show X9_common_l60_b G post (ad 500) (nI a) (nI b) (ad 501) (ad 503) _ _ _ _ _ _
      unfold X9_common_l60_b
      rw [nI_clamp (n := q) (by omega), nI_clamp (n := p) (by omega), nI_clamp (n := r) (by omega)]
      have eq0 : E.1 (ad 501) q = nI nv := by rw [yv.2.1, if_neg (by omega)]
      have ep0 : E.1 (ad 501) p = nI nu := by rw [xu.2.1, if_neg (by omega)]
      refine ⟨m_in H (by omega), fun w => ⟨m_in H (by omega), ?_⟩, fun w => ?_⟩
      · -- the end: copied down
        have nv0 : nv = 0 := by
          rw [eq0] at w
          rw [show (0 : Int32) = nI 0 by decide, nI_eq (by omega) (by omega)] at w
          exact w
        have v0 : v = 0 := by have := yv.z0.mpr nv0; omega
        rw [v0, Nat.gcd_zero_right] at hg
        rw [ep0]
        have cp := up_loop (L := fun f i (F : Dat) => X9_common_l157 G post (ad 500) (nI a) (nI b) (ad 501) (ad 503) f (nI T) (nI p) (nI nu) (nI i) F) (nu + 1) (fun i F => MwF ad E F T W ∧ (∀ j, j < i → F.1 (ad 501) (T + j) = E.1 (ad 501) (p + j)) ∧ ∀ j, i ≤ j → F.1 (ad 501) (p + j) = E.1 (ad 501) (p + j)) ?_ ?_ 0 E (by omega) ⟨MwF.rf, fun j hj => by omega, fun _ _ => rfl⟩
        · exact ⟨_, cp⟩
        · intro f' F hF
          obtain ⟨fF, hF1, -⟩ := hF
          show X9_common_l157_b G post (ad 500) (nI a) (nI b) (ad 501) (ad 503) _ _ _ _ _ _
          refine ⟨fun _ => ?_, fun q => absurd (nI_lt (by omega) (by omega)) q⟩
          have e3 : (nI T + nI nu) + 1 = nI (T + nu + 1) := by rw [nI_add, nI_1]
          rw [e3]
          refine k _ nu hnu ((fE.tr (fF.bg H (Nat.le_refl T)) (Nat.le_refl T)).tr ((bgT H).lo (by omega)) (Nat.le_refl T)) ⟨dI_s _ _ _ _, by omega⟩ ?_
          rw [← hg]
          obtain ⟨h1, h2, h3, h4, h5⟩ := xu
          have g : ∀ i, (dI F (ad 500) 2 (nI (T + nu + 1))).1 (ad 501) i = F.1 (ad 501) i := fun i => by rw [dI_n _ _ _ (fun q => n01 q.symm)]
          have el : ∀ i, i < nu → lmm ad (dI F (ad 500) 2 (nI (T + nu + 1))) T i = lmm ad E p i := fun i hi => by
            unfold lmm
            rw [g, show T + 1 + i = T + (i + 1) by omega, hF1 (i + 1) (by omega), show p + 1 + i = p + (i + 1) by omega]
          refine ⟨by omega, ?_, fun i hi => by rw [el i hi]; exact h3 i hi, fun hn => by rw [el _ (by omega)]; exact h4 hn, by rw [h5]; exact pv_congr (fun i hi => (el i hi).symm)⟩
          have := hF1 0 (by omega)
          rw [Nat.add_zero, Nat.add_zero] at this
          rw [g, this]; exact h2
        · intro f' i F hi hF hk
          obtain ⟨fF, hF1, hF2⟩ := hF
          show X9_common_l157_b G post (ad 500) (nI a) (nI b) (ad 501) (ad 503) _ _ _ _ _ _
          refine ⟨fun q => absurd q (nI_nlt (by omega) (by omega)), fun _ => ?_⟩
          rw [nI_add, nI_add, nI_1, nI_clamp (by omega), nI_clamp (by omega)]
          refine ⟨m_in H (by omega), m_in H (by omega), hk _ ⟨fF.w (by omega) (by omega), fun j hj => ?_, fun j hj => ?_⟩⟩
          · by_cases w : j = i
            · rw [w, dI_s, hF2 i (Nat.le_refl i)]
            · rw [dI_o _ _ _ (by omega)]; exact hF1 j (by omega)
          · rw [dI_o _ _ _ (by omega)]; exact hF2 j (by omega)
      · -- a turn
        have hv0 : (v : Int) ≠ 0 := fun w2 => w (by rw [eq0, yv.z0.mp w2]; rfl)
        refine divide9_sp H xu yv (by omega) (by omega) hv0 (fun D4 qs ls h1 h2 f4 d4 => ?_)
        obtain ⟨-, d6, -, -, -, dl, dt, dR⟩ := d4
        rw [d6]
        refine ⟨m_in H (by omega), ?_⟩
        have hf4 := f4.1.lo (show T + 3 * W ≤ 700000 by omega)
        have y4 := yv.fr hf4 (Nat.le_refl _)
        have x4 := xu.fr hf4 (Nat.le_refl _)
        have cp := up_loop (L := fun f' i (F : Dat) => X9_common_l92 G post (ad 500) (nI a) (nI b) (ad 501) (ad 503) (X9_common_l60 G post (ad 500) (nI a) (nI b) (ad 501) (ad 503) f) f' (nI T) (nI p) (nI q) (nI r) (nI i) F) ls (fun i F => MwF ad D4 F r W ∧ F.1 (ad 501) r = nI ls ∧ ∀ j, j < i → lmm ad F r j = af ad D4 503 j) ?_ ?_ 0 (dI D4 (ad 501) r (nI ls)) (by omega) ⟨MwF.rf.w (by omega) (by omega), dI_s _ _ _ _, fun j hj => by omega⟩
        · exact ⟨_, cp⟩
        · intro f' F hF
          obtain ⟨fF, er, hF1⟩ := hF
          show X9_common_l92_b G post (ad 500) (nI a) (nI b) (ad 501) (ad 503) _ _ _ _ _ _ _ _
          unfold X9_common_l92_b
          rw [fF.2.1 _ n01, d6]
          refine ⟨fun _ => ?_, fun q => absurd (nI_le (Nat.le_refl _) (by omega)) q⟩
          have eR : az (u : Int) % az (v : Int) = ((u % v : Nat) : Int) := by
            rw [az_id (by omega), az_id (by omega)]
            exact (Int.natCast_emod u v).symm
          have hvp : 0 < v := by omega
          have hlt := Nat.mod_lt u hvp
          refine ih (u % v) v q r p nv ls F (by omega) hq hr hp hqr (fun e => hpq e.symm) (fun e => hpr e.symm) hnv (by omega) (fF.nm y4 (by omega)) ?_ ((fE.tr (f4.1.lo (show T ≤ 700000 by omega)) (Nat.le_refl T)).tr (fF.bg H (by omega)) (Nat.le_refl T)) ⟨by rw [fF.2.1 _ n01, f4.2]; exact tE.1, tE.2⟩ ?_
          · refine ⟨by omega, by rw [er, if_neg (by omega)], fun i hi => by rw [hF1 i hi]; exact dl i hi, fun w => by rw [hF1 _ (by omega)]; exact dt w, ?_⟩
            rw [pv_congr hF1, dR, eR, az_id (by omega)]
          · rw [← hg, Nat.gcd_comm u v, Nat.gcd_rec v u, Nat.gcd_comm]
        · intro f' i F hi hF hk
          obtain ⟨fF, er, hF1⟩ := hF
          show X9_common_l92_b G post (ad 500) (nI a) (nI b) (ad 501) (ad 503) _ _ _ _ _ _ _ _
          unfold X9_common_l92_b
          rw [fF.2.1 _ n01, d6, show nI r + 1 + nI i = nI (r + 1 + i) by rw [nI_1, nI_add], nI_1, nI_clamp (by omega), nI_clamp (by omega)]
          refine ⟨fun w => absurd w (nI_ge hi (by omega)), fun _ => ⟨l_in H (by omega), m_in H (by omega), hk _ ⟨fF.w (by omega) (by omega), by rw [dI_o _ _ _ (by omega)]; exact er, fun j hj => ?_⟩⟩⟩
          by_cases w : j = i
          · rw [w, lmm_at, fF.2.1 _ n31]; rfl
          · rw [lmm_ne (by omega)]; exact hF1 j (by omega)
  exact ⟨_, key (y.natAbs + 1) y.natAbs x.natAbs T (T + W) (T + 2 * W) n m D5 (by omega) (by omega) (by omega) (by omega) (by omega) (by omega) (by omega) hmx1 hmx2 x5 y5 f05 t5 rfl⟩
end CO
