/-! the reference: given, cost, restOf -/
def WnF (ad ro : Nat → Nat) (D D' : Dat) (T : Nat) : Prop := FrP ro D D' (fun q => pG q ∨ q = 519 ∨ q = 520) ∧ (∀ i, i < T → D'.1 (ad 501) i = D.1 (ad 501) i) ∧ (∀ s, s ≠ 2 → s ≠ 6 → s ≠ 7 → s ≠ 21 → D'.1 (ad 500) s = D.1 (ad 500) s) ∧ D'.2 (ad 500) = D.2 (ad 500)
theorem WnF.rf {ad ro : Nat → Nat} {D : Dat} {T : Nat} : WnF ad ro D D T := ⟨FrP.rf, fun _ _ => rfl, fun _ _ _ _ _ => rfl, rfl⟩
theorem WnF.tr {ad ro : Nat → Nat} {D D1 D2 : Dat} {T T' : Nat} (h : WnF ad ro D D1 T) (h2 : WnF ad ro D1 D2 T') (hT : T ≤ T') : WnF ad ro D D2 T := ⟨h.1.tr h2.1, fun i hi => (h2.2.1 i (by omega)).trans (h.2.1 i hi), fun s a b c d => (h2.2.2.1 s a b c d).trans (h.2.2.1 s a b c d), h2.2.2.2.trans h.2.2.2⟩
section GV
variable {G : Shp} {ad ro : Nat → Nat} {D D' : Dat} {r T t : Nat} {A : AR} {u : Option Nat} {post : Int32 → Dat → Prop}
theorem BgF.wn (h : BgF ad ro D D' T) : WnF ad ro D D' T := ⟨h.1.up (fun q hq => Or.inl hq), h.2.1, fun s a b c _ => h.2.2.1 s a b c, h.2.2.2⟩
theorem LoF.wn (H : RG G ad ro) (h : LoF ad D D') : WnF ad ro D D' T := ⟨(h.fr H).up (fun q hq => by unfold pG; omega), fun i _ => by rw [h.p H (q := 501) (by omega) (by omega) (by omega) (by omega)], fun s _ _ _ d => h.2.2 s d, by rw [h.1]⟩
theorem WnF.lo {T' : Nat} (h : WnF ad ro D D' T') (hT : T ≤ T') : WnF ad ro D D' T := ⟨h.1, fun i hi => h.2.1 i (by omega), h.2.2⟩
theorem WnF.wk (h : WnF ad ro D D' T) : WkF ad ro D D' := ⟨h.1.up (fun q hq => by unfold pG at hq; unfold pW; omega), h.2.2.1 0 (by decide) (by decide) (by decide) (by decide), h.2.2.1 9 (by decide) (by decide) (by decide) (by decide)⟩
theorem WnF.nm (h : WnF ad ro D D' T) {T' a n : Nat} {z : Int} (hN : Nm ad D T a z n) (hT : T ≤ T') : Nm ad D' T' a z n := hN.cells (fun i hi => h.2.1 _ (by have := hN.1; omega)) (by have := hN.1; omega)
theorem WnF.kp (H : RG G ad ro) (h : WnF ad ro D D' T) {p n : Nat} {z : Int} (hk : KpV ad D p z n) : KpV ad D' p z n := hk.kept (fun i _ => by rw [h.1.mi H (by omega) (by unfold pG; omega)])
theorem BgF.lk (H : RG G ad ro) (h : BgF ad ro D D' T) {L : List (Nat → Int)} (hl : LkL ad D A t L) : LkL ad D' A t L := ⟨by rw [h.2.2.1 21 (by decide) (by decide) (by decide)]; exact hl.1, fun i hi => by rw [h.1.mi H (r := 519) (by omega) (by unfold pG; omega), h.1.mi H (r := 520) (by omega) (by unfold pG; omega)]; exact hl.2 i hi⟩
/-- what is kept of a parting -/
def KzV (ad : Nat → Nat) (D : Dat) (A : AR) (u : Option Nat) : Prop := (∀ i, i < NN A → ∃ m, m ≤ 17 ∧ KpV ad D i (zr A u i) m) ∧ ∃ m, m ≤ 17 ∧ KpV ad D 19 (dr A u) m
theorem KzV.wn (H : RG G ad ro) (h : KzV ad D A u) (f : WnF ad ro D D' T) : KzV ad D' A u := ⟨fun i hi => by obtain ⟨m, hm, hk⟩ := h.1 i hi; exact ⟨m, hm, f.kp H hk⟩, by obtain ⟨m, hm, hk⟩ := h.2; exact ⟨m, hm, f.kp H hk⟩⟩
theorem rcl_b80 (A : AR) (i : Nat) {t : Nat} (ht : t < 80) : -79 ≤ lc (rcl A) i t ∧ lc (rcl A) i t ≤ 79 := by
  by_cases h : i < (rcl A).length
  · obtain ⟨f, hf, e⟩ := lc_mem h
    rw [e]
    rw [rcl_eq] at hf
    rcases List.mem_cons.mp hf with h | h
    · rw [h]; show -79 ≤ (1 : Int) ∧ (1 : Int) ≤ 79; omega
    · rcases List.mem_append.mp h with h | h
      · exact uc_b80 f h t ht
      · obtain ⟨k, -, rfl⟩ := List.mem_map.mp h
        unfold seac
        split
        · omega
        · split <;> omega
  · unfold lc
    rw [List.getD_eq_getElem?_getD, List.getElem?_eq_none (by omega)]
    show -79 ≤ (0 : Int) ∧ (0 : Int) ≤ 79
    omega
theorem az_mulL {x y X Y : Int} (hX : 0 ≤ X) (hx : -X ≤ x ∧ x ≤ X) (hy : az y < Y) : -(X * Y) ≤ x * y ∧ x * y ≤ X * Y := by
  have hY : 0 ≤ Y := by have := az_nn y; omega
  have h2 : -Y ≤ y ∧ y ≤ Y := by unfold az at hy; split at hy <;> omega
  exact mul_abs_le hx.1 hx.2 h2.1 h2.2
theorem az_of {z M N : Int} (h : -M ≤ z ∧ z ≤ M) (hMN : M < N) : az z < N := by unfold az; split <;> omega
theorem gz_b (hA : RowOK A) (hp : Pv A u (nU A)) (ht : t < 80) (w : Nat) {n : Nat} (hn : n ≤ NN A) : az (gzI A u t w n) < 1073741824 ^ 18 := by
  have hN := NN_le hA
  have h := si_abs (M := 79 * 1073741824 ^ 17) (f := fun i => if w = 3 ∨ kd A i = w then lc (rcl A) i t * zr A u i else 0) (by decide +kernel) (n := n) (fun i hi => by
    split
    · exact az_mulL (by omega) (rcl_b80 A i ht) (zr_b hA hp (by omega))
    · have : (0 : Int) ≤ 79 * 1073741824 ^ 17 := by decide +kernel
      omega)
  have e : gzI A u t w n = si (fun i => if w = 3 ∨ kd A i = w then lc (rcl A) i t * zr A u i else 0) n := rfl
  rw [← e] at h
  have h2 : (n : Int) * (79 * 1073741824 ^ 17) ≤ 13 * (79 * 1073741824 ^ 17) := Int.mul_le_mul_of_nonneg_right (by omega) (by decide +kernel)
  have h3 : (13 * (79 * 1073741824 ^ 17) : Int) < 1073741824 ^ 18 := by decide +kernel
  exact az_of (M := (n : Int) * (79 * 1073741824 ^ 17)) h (by omega)
theorem given_sp (H : RG G ad ro) (hr : r < 4) (h : RrV ad D r A) (hA : RowOK A) (hp : Pv A u (nU A)) (ht : t < 80) (hT : T ≤ 600000) (hTop : TopV ad D T) (hK : KzV ad D A u) {w : Nat} (hw : w ≤ 3) (k : ∀ D' p n T', T ≤ T' → T' ≤ T + 850 → n ≤ 18 → WnF ad ro D D' T → TopV ad D' T' → Nm ad D' T' p (gzI A u t w (NN A)) n → D'.1 (ad 500) 21 = nI (NN A) → post (nI p) D') : X9_given_wp G D (ad 500) (nI r) (nI t) (nI w) post := by
  have hN := NN_le hA
  have hlen : (rcl A).length = NN A := rfl
  refine ⟨H.x_, _, H.ha0_.1, H.ha0_.2.1, _, H.kin_.1, H.kin_.2.1, look_sp H hr h hA ht (fun D1 f1 l1 => ?_)⟩
  have t1 := f1.top hTop
  refine whole_sp H t1 (by omega) (by decide) (fun D2 n2 hn2 f2 t2 w2 => ?_)
  have key := up_loop2 (L := fun f i (P : Nat × Nat × Nat) (E : Dat) => X9_given_l16 G post (ad 500) (nI r) (nI t) (nI w) (ad 519) (ad 520) f (nI P.1) (nI i) E) (NN A) (fun i P E => T ≤ P.2.2 ∧ P.2.2 ≤ T + 4 + 64 * i ∧ P.2.1 ≤ 18 ∧ WnF ad ro D E T ∧ TopV ad E P.2.2 ∧ LkL ad E A t (rcl A) ∧ Nm ad E P.2.2 P.1 (gzI A u t w i) P.2.1) ?_ ?_ 0 (T, n2, T + n2 + 1) D2 (by omega) ⟨by dsimp only; omega, by dsimp only; omega, by dsimp only; omega, (f1.wn H).tr f2.wn (Nat.le_refl T), t2, f2.lk H l1, w2⟩
  · exact ⟨_, key⟩
  · intro f P E hE
    obtain ⟨p, n, U⟩ := P
    obtain ⟨h1, h2, h3, fE, tE, lE, nE⟩ := hE
    dsimp only at *
    show X9_given_l16_b G post (ad 500) (nI r) (nI t) (nI w) (ad 519) (ad 520) _ _ _ _
    unfold X9_given_l16_b
    rw [lE.1, hlen]
    exact ⟨fun _ => k E p n U h1 (by omega) h3 fE tE nE (by rw [lE.1]; rfl), fun q => absurd (nI_le (Nat.le_refl _) (by omega)) q⟩
  · intro f i P E hi hE hk
    obtain ⟨p, n, U⟩ := P
    obtain ⟨h1, h2, h3, fE, tE, lE, nE⟩ := hE
    dsimp only at *
    show X9_given_l16_b G post (ad 500) (nI r) (nI t) (nI w) (ad 519) (ad 520) _ _ _ _
    have li := lE.2 i hi
    have skip : (if w = 3 ∨ kd A i = w then lc (rcl A) i t * zr A u i else 0) = 0 → X9_given_l16 G post (ad 500) (nI r) (nI t) (nI w) (ad 519) (ad 520) f (nI p) (nI i + 1) E := fun e => by
      rw [nI_1 i]
      refine hk (p, n, U) E ⟨h1, by dsimp only; omega, h3, fE, tE, lE, ?_⟩
      unfold gzI
      rw [si_succ, e, Int.add_zero]
      exact nE
    have take : (w = 3 ∨ kd A i = w) → X9_given_j51 G post (ad 500) (nI r) (nI t) (nI w) (ad 519) (ad 520) (X9_given_l16 G post (ad 500) (nI r) (nI t) (nI w) (ad 519) (ad 520) f) (nI p) (nI i) E := fun hq => by
      unfold X9_given_j51
      rw [nI_clamp (n := i) (by omega)]
      have ev : ((E.1 (ad 519) i).toInt64).toInt = lc (rcl A) i t := by rw [L_i2l]; exact li.1
      have bl := rcl_b80 A i ht
      refine ⟨by rw [H.ha0_.2.2]; exact vp_in_nI (by omega) (by omega), whole_sp H tE (by omega) (by rw [ev]; omega) (fun D3 n3 hn3 f3 t3 w3 => ?_)⟩
      rw [ev] at w3
      obtain ⟨m, hm, hkp⟩ := (hK.wn H fE).1 i hi
      refine held_sp H t3 (by omega) (f3.wn.kp H hkp) (by omega) (fun D4 f4 t4 w4 => ?_)
      refine times_sp H t4 (w3.fr f4 (by omega)) w4 (by omega) (fun D5 n5 hn5 f5 t5 w5 => ?_)
      have f35 := (f3.tr f4 (by omega)).tr f5 (by omega)
      have hmx : mxN n n5 ≤ 20 := by unfold mxN; split <;> omega
      refine sum_sp H t5 (nE.fr f35 (by omega)) w5 (by omega) (fun D6 n6 hn6 f6 t6 w6 => ?_)
      unfold X9_given_j81
      rw [nI_1 i]
      have ez : gzI A u t w (i + 1) = gzI A u t w i + lc (rcl A) i t * zr A u i := by unfold gzI; rw [si_succ, if_pos hq]
      rw [← ez] at w6
      have hs := w6.sz (gz_b hA hp ht w (by omega))
      have f36 := f35.tr f6 (by omega)
      exact hk (_, n6, _) D6 ⟨by dsimp only; omega, by dsimp only; omega, hs, fE.tr f36.wn (by omega), t6, f36.lk H lE, w6⟩
    have wI : (nI w).toInt = (w : Int) := nI_toInt (by omega)
    unfold X9_given_l16_b X9_given_j81
    rw [lE.1, hlen, nI_clamp (n := i) (by omega)]
    refine ⟨fun q => absurd q (nI_ge hi (by omega)), fun _ => ⟨by rw [H.ha0_.2.2]; exact vp_in_nI (by omega) (by omega), fun q => skip ?_, fun q => ⟨fun q2 => take (Or.inl ?_), fun q2 => ⟨by rw [H.kin_.2.2]; exact vp_in_nI (by omega) (by omega), fun q3 => skip ?_, fun q3 => take (Or.inr ?_)⟩⟩⟩⟩
    · have e0 : lc (rcl A) i t = 0 := by rw [← li.1, q]; rfl
      rw [e0]
      split <;> omega
    · rw [show (3 : Int32) = nI 3 by decide, nI_eq (by omega) (by omega)] at q2
      exact q2
    · have hk3 : kd A i ≤ 2 := by unfold kd; split <;> (try split) <;> omega
      rw [if_neg]
      intro z
      rcases z with z | z
      · exact q2 (by rw [z]; rfl)
      · exact q3 (by rw [li.2, z])
    · have hk3 : kd A i ≤ 2 := by unfold kd; split <;> (try split) <;> omega
      rw [li.2, nI_eq (by omega) (by omega)] at q3
      exact q3
theorem co_b (hA : RowOK A) (hp : Pv A u (nU A)) {n : Nat} (hn : n ≤ NN A) : az (coI A u n) < 1073741824 ^ 19 := by
  have hN := NN_le hA
  have h1 := az_mulL (X := 4000000000) (by decide) (ar_b hA u (NN A) (NN A)) (dr_b hA hp)
  have h := si_abs (M := 4000000000 * 1073741824 ^ 17) (f := fun i => zr A u i * arS A u i (NN A)) (by decide +kernel) (n := n) (fun i hi => by
    have e := az_mulL (X := 4000000000) (by decide) (ar_b hA u i (NN A)) (zr_b hA hp (show i < NN A by omega))
    rw [show zr A u i * arS A u i (NN A) = arS A u i (NN A) * zr A u i from Int.mul_comm _ _]
    exact e)
  have h2 : (n : Int) * (4000000000 * 1073741824 ^ 17) ≤ 13 * (4000000000 * 1073741824 ^ 17) := Int.mul_le_mul_of_nonneg_right (by omega) (by decide +kernel)
  have h3 : (14 * (4000000000 * 1073741824 ^ 17) : Int) < 1073741824 ^ 19 := by decide +kernel
  unfold coI
  generalize (n : Int) * (4000000000 * 1073741824 ^ 17) = a at *
  generalize (4000000000 * 1073741824 ^ 17 : Int) = b at *
  exact az_of (M := b + a) (by omega) (by omega)
theorem cost9_sp (H : RG G ad ro) (hA : RowOK A) (hp : Pv A u (nU A)) (hT : T ≤ 600000) (hTop : TopV ad D T) (hK : KzV ad D A u) (e21 : D.1 (ad 500) 21 = nI (NN A)) (h25 : (D.2 (ad 500) 25).toInt = arS A u (NN A) (NN A)) (h23 : ∀ i, i < NN A → (D.2 (ad 523) i).toInt = arS A u i (NN A)) (k : ∀ D' p n T', T ≤ T' → T' ≤ T + 1200 → n ≤ 19 → BgF ad ro D D' T → TopV ad D' T' → Nm ad D' T' p (coI A u (NN A)) n → post (nI p) D') : X9_cost_wp G D (ad 500) post := by
  have hN := NN_le hA
  have b0 := ar_b hA u (NN A) (NN A)
  refine ⟨H.x_, _, H.rig_.1, H.rig_.2.1, whole_sp H hTop (by omega) (by rw [h25]; omega) (fun D1 n1 hn1 f1 t1 w1 => ?_)⟩
  rw [h25] at w1
  obtain ⟨m, hm, hkp⟩ := hK.2
  rw [show (19 : Int32) = nI 19 by decide]
  refine held_sp H t1 (by omega) (f1.wn.kp H hkp) (by omega) (fun D2 f2 t2 w2 => ?_)
  refine times_sp H t2 (w1.fr f2 (by omega)) w2 (by omega) (fun D3 n3 hn3 f3 t3 w3 => ?_)
  have f03 := (f1.tr f2 (by omega)).tr f3 (by omega)
  have ez : arS A u (NN A) (NN A) * dr A u = coI A u 0 := by unfold coI; show _ = _ - 0; omega
  rw [ez] at w3
  have s3 := w3.sz (co_b hA hp (by omega))
  have key := up_loop2 (L := fun f i (P : Nat × Nat × Nat) (E : Dat) => X9_cost_l21 G post (ad 500) (ad 523) f (nI P.1) (nI i) E) (NN A) (fun i P E => T ≤ P.2.2 ∧ P.2.2 ≤ T + 60 + 86 * i ∧ P.2.1 ≤ 19 ∧ BgF ad ro D E T ∧ TopV ad E P.2.2 ∧ Nm ad E P.2.2 P.1 (coI A u i) P.2.1) ?_ ?_ 0 (_, n3, _) D3 (by omega) ⟨by dsimp only; omega, by dsimp only; omega, s3, f03, t3, w3⟩
  · exact ⟨_, key⟩
  · intro f P E hE
    obtain ⟨p, n, U⟩ := P
    obtain ⟨h1, h2, h3, fE, tE, nE⟩ := hE
    dsimp only at *
    show X9_cost_l21_b G post (ad 500) (ad 523) _ _ _ _
    unfold X9_cost_l21_b
    rw [fE.2.2.1 21 (by decide) (by decide) (by decide), e21]
    exact ⟨fun _ => k E p n U h1 (by omega) h3 fE tE nE, fun q => absurd (nI_le (Nat.le_refl _) (by omega)) q⟩
  · intro f i P E hi hE hk
    obtain ⟨p, n, U⟩ := P
    obtain ⟨h1, h2, h3, fE, tE, nE⟩ := hE
    dsimp only at *
    show X9_cost_l21_b G post (ad 500) (ad 523) _ _ _ _
    unfold X9_cost_l21_b
    rw [fE.2.2.1 21 (by decide) (by decide) (by decide), e21, nI_clamp (n := i) (by omega)]
    obtain ⟨mi, hmi, hki⟩ := (hK.wn H fE.wn).1 i hi
    have bi := ar_b hA u i (NN A)
    refine ⟨fun q => absurd q (nI_ge hi (by omega)), fun _ => held_sp H tE (by omega) hki (by omega) (fun D4 f4 t4 w4 => ⟨ri_in H (by omega), ?_⟩)⟩
    have e23 : (D4.2 (ad 523) i).toInt = arS A u i (NN A) := by
      rw [f4.1.ml H (by omega) (by unfold pG; omega), fE.1.ml H (by omega) (by unfold pG; omega)]
      exact h23 i hi
    refine whole_sp H t4 (by omega) (by rw [e23]; omega) (fun D5 n5 hn5 f5 t5 w5 => ?_)
    rw [e23] at w5
    refine times_sp H t5 (w4.fr f5 (by omega)) w5 (by omega) (fun D6 n6 hn6 f6 t6 w6 => ?_)
    have f46 := (f4.tr f5 (by omega)).tr f6 (by omega)
    have hmx : mxN n n6 ≤ 20 := by unfold mxN; split <;> omega
    refine less_sp H t6 (nE.fr f46 (by omega)) w6 (by omega) (fun D7 n7 hn7 f7 t7 w7 => ?_)
    have ez : coI A u (i + 1) = coI A u i - zr A u i * arS A u i (NN A) := by unfold coI; rw [si_succ]; omega
    rw [← ez] at w7
    have hs := w7.sz (co_b hA hp (by omega))
    have f47 := f46.tr f7 (by omega)
    rw [nI_1 i]
    exact hk (_, n7, _) D7 ⟨by dsimp only; omega, by dsimp only; omega, hs, fE.tr f47 (by omega), t7, w7⟩
theorem rs_b (hA : RowOK A) (hp : Pv A u (nU A)) (ht : t < 40) : az (aN A t * dr A u - gzI A u t 3 (NN A)) < 1073741824 ^ 19 := by
  have h1 := az_mulL (X := 10000) (by decide) (hA.1 t) (dr_b hA hp)
  have h2 := gz_b (t := t) hA hp (by omega) 3 (Nat.le_refl _)
  have h2' : -(1073741824 ^ 18 : Int) ≤ gzI A u t 3 (NN A) ∧ gzI A u t 3 (NN A) ≤ 1073741824 ^ 18 := by unfold az at h2; split at h2 <;> omega
  have h3 : (10000 * 1073741824 ^ 17 + 1073741824 ^ 18 : Int) < 1073741824 ^ 19 := by decide +kernel
  exact az_of (M := 10000 * 1073741824 ^ 17 + 1073741824 ^ 18) (by omega) h3
theorem restOf_sp (H : RG G ad ro) (hr : r < 4) (h : RrV ad D r A) (hA : RowOK A) (hp : Pv A u (nU A)) (ht : t < 40) (hT : T ≤ 599000) (hTop : TopV ad D T) (hK : KzV ad D A u) (k : ∀ D' p n T', T ≤ T' → T' ≤ T + 950 → n ≤ 19 → WnF ad ro D D' T → TopV ad D' T' → Nm ad D' T' p (aN A t * dr A u - gzI A u t 3 (NN A)) n → D'.1 (ad 500) 21 = nI (NN A) → post (nI p) D') : X9_restOf_wp G D (ad 500) (nI r) (nI t) post := by
  refine ⟨H.x_, _, H.val_.1, H.val_.2.1, ?_⟩
  unfold X9_spot_wp
  rw [spot_e]
  dsimp only
  rw [nI_clamp (by omega)]
  have ev : ((D.1 (ad 510) (40 * r + t)).toInt64).toInt = aN A t := by rw [L_i2l]; exact (h.1 t ht).1
  have bn := hA.1 t
  refine ⟨in160 H H.val_ hr ht, whole_sp H hTop (by omega) (by rw [ev]; omega) (fun D1 n1 hn1 f1 t1 w1 => ?_)⟩
  rw [ev] at w1
  obtain ⟨m, hm, hkp⟩ := hK.2
  rw [show (19 : Int32) = nI 19 by decide]
  refine held_sp H t1 (by omega) (f1.wn.kp H hkp) (by omega) (fun D2 f2 t2 w2 => ?_)
  refine times_sp H t2 (w1.fr f2 (by omega)) w2 (by omega) (fun D3 n3 hn3 f3 t3 w3 => ?_)
  have f03 := (f1.tr f2 (by omega)).tr f3 (by omega)
  rw [show (3 : Int32) = nI 3 by decide]
  refine given_sp H hr (h.wk H f03.wk) hA hp (by omega) (by omega) t3 (hK.wn H f03.wn) (w := 3) (by omega) (fun D4 p n T' h1 h2 h3 f4 t4 w4 e4 => ?_)
  have hmx : mxN n3 n ≤ 20 := by unfold mxN; split <;> omega
  refine less_sp H t4 (f4.nm w3 h1) w4 (by omega) (fun D5 n5 hn5 f5 t5 w5 => ?_)
  have hs := w5.sz (rs_b hA hp ht)
  refine k D5 _ n5 _ (by omega) (by omega) hs ((f03.wn.tr f4 (by omega)).tr f5.wn (by omega)) t5 w5 ?_
  rw [f5.2.2.1 21 (by decide) (by decide) (by decide)]
  exact e4
end GV
