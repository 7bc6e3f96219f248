/-! the reference: right -/
def bq (q : Rat) (X Y : Int) : Prop := ∃ T B : Int, -X ≤ T ∧ T ≤ X ∧ 1 ≤ B ∧ B ≤ Y ∧ ((T : Int) : Rat) = (B : Int) * q
theorem bq_0 : bq 0 0 1 := ⟨0, 1, by omega, by omega, by omega, by omega, by rw [cast_0, cast_1]; grind⟩
theorem bq_add {A : AR} (hA : RowOK A) (hp : Pv A none (nU A)) {t : Nat} (ht : t < 80) {m : Int} (hm : -2 ≤ m ∧ m ≤ 2) {Q : Rat} {X Y : Int} (h : bq Q X Y) : bq (Q + ((m : Int) : Rat) * foR A none t) (X * 18014398509481983 + 80000000000000000000000000000000000000000000 * Y) (Y * 18014398509481983) := by
  obtain ⟨T, B, h1, h2, h3, h4, h5⟩ := h
  have d1 := zD_pos hp
  have d2 := zD_lt hA (Nat.le_refl _) hp
  have hfo := foS_b hA hp ht
  have e : zD A none = zz (Dq A none (nU A)) := rfl
  rw [← e] at d1 d2
  have m1 := mul_abs_le (Y := 18014398509481983) (y := zD A none) h1 h2 (by omega) (by omega)
  have m2 := mul_abs_le (X := 2) (x := m) (y := foS A none t) hm.1 hm.2 hfo.1 hfo.2
  have m3 := mul_abs_le (X := 80000000000000000000000000000000000000000000) (Y := Y) (x := m * foS A none t) (y := B) (by omega) (by omega) (by omega) h4
  refine ⟨T * zD A none + m * foS A none t * B, B * zD A none, by omega, by omega, ?_, Int.mul_le_mul h4 (by omega) (by omega) (by omega), ?_⟩
  · have : 1 * 1 ≤ B * zD A none := Int.mul_le_mul h3 d1 (by omega) (by omega)
    omega
  · rw [cast_add, cast_mul, cast_mul, cast_mul, cast_mul, h5, foS_R hA hp t]
    generalize foR A none t = y
    grind
theorem bq_sm {q : Rat} {X Y : Int} (h : bq q X Y) {p : Int} (hp : 1 ≤ p) (hX : X < ((10 ^ 100 : Nat) : Int)) (hY : Y * p < ((10 ^ 100 : Nat) : Int)) : smQ (q / ((p : Int) : Rat)) := by
  obtain ⟨T, B, h1, h2, h3, h4, h5⟩ := h
  have b1 : 1 * 1 ≤ B * p := Int.mul_le_mul h3 hp (by omega) (by omega)
  have b2 : B * p ≤ Y * p := Int.mul_le_mul_of_nonneg_right h4 (by omega)
  have n1 := cast_pos h3
  have n2 := cast_pos hp
  refine smQ_of (T := T) (B := B * p) (by omega) ?_ ?_ (by omega)
  · rw [h5, cast_mul]
    generalize ((B : Int) : Rat) = x at *
    generalize ((p : Int) : Rat) = y at *
    grind
  · generalize (10 ^ 100 : Nat) = x at *
    omega
def rwf (many ra rb rc rw' i : Nat) : Nat := if i = many then rw' else if i = 0 then ra else if i = 1 then rb else rc
section RI9
variable {G : Shp} {ad ro : Nat → Nat} {D D' : Dat} {S : AS} {Z : Dat} {t T : Nat} {A : AR} {post : Int32 → Dat → Prop}
/-- a part's fraction, as it is kept -/
def KtV (ad : Nat → Nat) (D : Dat) (j : Nat) (f : Rat) : Prop := ∃ (g d : Int) (n m : Nat), n ≤ 18 ∧ m ≤ 17 ∧ KpV ad D (22 + 2 * j) g n ∧ KpV ad D (23 + 2 * j) d m ∧ 1 ≤ d ∧ ((g : Int) : Rat) = (d : Int) * f
theorem KtV.so {j : Nat} {f : Rat} (h : KtV ad D j f) (e : ∀ i, 1320 + 120 * j ≤ i → i < 1440 + 120 * j → D'.1 (ad 526) i = D.1 (ad 526) i) : KtV ad D' j f := by
  obtain ⟨g, d, n, m, hn, hm, k1, k2, k3, k4⟩ := h
  exact ⟨g, d, n, m, hn, hm, k1.kept (fun i hi => e _ (by omega) (by omega)), k2.kept (fun i hi => e _ (by omega) (by omega)), k3, k4⟩
theorem i22 {i : Nat} : (22 : Int32) + 2 * nI i = nI (22 + 2 * i) := by
  rw [two_e, show (22 : Int32) = nI 22 by decide, nI_add]
theorem i23 {i : Nat} : (22 : Int32) + 2 * nI i + 1 = nI (23 + 2 * i) := by
  rw [i22, nI_1]
  exact congrArg nI (by omega)
/-- all rows are solved, and kept -/
theorem right_rows (H : RG G ad ro) (hKs : OKS S) (h : RfV ad ro Z D S) {many ra rb rc rw' : Nat} (hm : many = 2 ∨ many = 3) (hrw : ∀ i, i ≤ many → rwf many ra rb rc rw' i < 4) {a b c w kk : Int32} (ea : a = nI ra) (eb : b = nI rb) (ew : w = nI rw') (ec : many = 3 → c = nI rc) (ht : t < 80) (kt : ∀ D', RfV ad ro Z D' S → (∀ j, j ≤ many → Pv (S.1 (rwf many ra rb rc rw' j)) none (nU (S.1 (rwf many ra rb rc rw' j)))) → (∀ j, j ≤ many → KtV ad D' j (foR (S.1 (rwf many ra rb rc rw' j)) none t)) → X9_held_wp G (dI D' (ad 500) 2 0) (ad 500) (22 + (2 * nI many)) (fun r1 D2 => X9_held_wp G D2 (ad 500) ((22 + (2 * nI many)) + 1) (fun r3 D4 => ∃ n, X9_right_l295 G post (ad 500) a b c w kk (nI t) n (nI many) r1 r3 0 D4))) (k6 : ∀ D' j, j ≤ many → clB (S.1 (rwf many ra rb rc rw' j)) none = false → RfV ad ro Z D' (stS S 6) → post (-1) D') : ∃ n, X9_right_l157 G post (ad 500) a b c w kk (nI t) n (nI many) 0 D := by
  have key := up_loop (L := fun f i (E : Dat) => X9_right_l157 G post (ad 500) a b c w kk (nI t) f (nI many) (nI i) E) (many + 1) (fun i E => RfV ad ro Z E S ∧ (∀ j, j < i → Pv (S.1 (rwf many ra rb rc rw' j)) none (nU (S.1 (rwf many ra rb rc rw' j)))) ∧ ∀ j, j < i → KtV ad E j (foR (S.1 (rwf many ra rb rc rw' j)) none t)) ?_ ?_ 0 D (by omega) ⟨h, fun j hj => absurd hj (Nat.not_lt_zero j), fun j hj => absurd hj (Nat.not_lt_zero j)⟩
  · exact ⟨_, key⟩
  · intro f E hE
    obtain ⟨hE, pE, kE⟩ := hE
    show X9_right_l157_b G post (ad 500) a b c w kk (nI t) _ _ _ _
    unfold X9_right_l157_b
    rw [nI_ltI (by omega) (by omega)]
    exact ⟨fun _ => kt E hE (fun j hj => pE j (by omega)) (fun j hj => kE j (by omega)), fun q => absurd (by omega) q⟩
  · intro f i E hi hE hk
    obtain ⟨hE, pE, kE⟩ := hE
    show X9_right_l157_b G post (ad 500) a b c w kk (nI t) _ _ _ _
    unfold X9_right_l157_b
    have go : X9_right_j196 G post (ad 500) a b c w kk (nI t) (X9_right_l157 G post (ad 500) a b c w kk (nI t) f) (nI many) (nI i) (nI (rwf many ra rb rc rw' i)) E := by
      unfold X9_right_j196
      have hr := hrw i (by omega)
      have hA := hKs _ hr
      generalize hR : rwf many ra rb rc rw' i = r at *
      rw [i23, i22, nI_1 i, show (3 : Int32) = nI 3 by decide, show (19 : Int32) = nI 19 by decide]
      refine solve_sp H hr (hE.1 r hr) hA (fun E1 f1 t1 s1 o1 o2 => ⟨fun _ => ?_, fun q => absurd q (by decide)⟩) (fun E1 f1 np => ⟨fun q => absurd rfl q, fun _ => ?_⟩)
      rotate_left
      · exact refuse9_sp H (hE.wk H f1.1) (fun D' c => k6 D' i (by omega) (by rw [hR]; exact clB_f.mpr np) c)
      have h1 := hE.wk H f1.1
      have hp := s1.1
      refine given_sp H hr (h1.1 r hr) hA hp ht (by omega) t1 s1.2.1 (by omega) (fun E2 p n T2 a1 a2 a3 f2 t2 w2 e2 => ?_)
      refine keep9_sp H w2 t2.2 (by omega) (by omega) (fun E3 f3 k3 => ?_)
      obtain ⟨m, hm', hkp⟩ := s1.2.1.2
      have t3 : TopV ad E3 T2 := ⟨by rw [f3.2.1 _ (H.ne (by omega) (by omega) (by omega))]; exact t2.1, t2.2⟩
      have hkp3 : KpV ad E3 19 (dr (S.1 r) none) m := (f2.kp H hkp).kept (fun j hj => f3.2.2 _ (by omega))
      refine held_sp H t3 (by omega) hkp3 (by omega) (fun E4 f4 t4 w4 => ?_)
      refine keep9_sp H w4 t4.2 (by omega) (by omega) (fun E5 f5 k5 => ?_)
      have hE5 : RfV ad ro Z E5 S := (((h1.wk H f2.wk).wk H (f3.wk H)).wk H f4.wk).wk H (f5.wk H)
      refine hk E5 ⟨hE5, fun j hj => ?_, fun j hj => ?_⟩
      · by_cases q : j = i
        · rw [q, hR]; exact hp
        · exact pE j (by omega)
      · by_cases q : j = i
        · rw [q, hR]
          refine ⟨gzI (S.1 r) none t 3 (NN (S.1 r)), dr (S.1 r) none, n, m, a3, hm', ?_, k5, dr_pos hA hp, ?_⟩
          · exact (k3.kept (fun x hx => by rw [f4.1.mi H (by omega) (by unfold pG; omega)])).kept (fun x hx => f5.2.2 _ (by omega))
          · rw [gz_R hA hp, gi_3 hA hp]
        · refine (kE j (by omega)).so (fun x hx1 hx2 => ?_)
          rw [f5.2.2 _ (by omega), f4.1.mi H (by omega) (by unfold pG; omega), f3.2.2 _ (by omega), f2.1.mi H (by omega) (by unfold pG; omega), f1.2 _ (by omega)]
    have hm4 : many < 4 := by omega
    rw [nI_ltI (by omega) (by omega)]
    have e0 : (nI i = 0) ↔ i = 0 := nI_eq (b := 0) (by omega) (by omega)
    have e1 : (nI i = 1) ↔ i = 1 := nI_eq (b := 1) (by omega) (by omega)
    have e2 : (nI i = nI many) ↔ i = many := nI_eq (by omega) (by omega)
    rw [e0, e1, e2]
    unfold rwf at go
    refine ⟨fun q => absurd q (by omega), fun _ => ⟨fun q => ?_, fun q => ?_⟩⟩
    · rw [if_neg q] at go
      refine ⟨fun q1 => ?_, fun q1 => ?_⟩
      · rw [if_neg q1] at go
        refine ⟨fun q2 => ?_, fun q2 => ?_⟩
        · rw [if_neg q2, ← ec (by omega)] at go
          exact go
        · rw [if_pos q2, ← eb] at go
          exact go
      · rw [if_pos q1, ← ea] at go
        exact go
    · rw [if_pos q, ← ew] at go
      exact go
/-- the sum of the parts -/
def sfo (f : Nat → Rat) : Nat → Rat
  | 0 => 0
  | n + 1 => sfo f n + f n
/-- what is left over is shared out -/
theorem right_told (H : RG G ad ro) (h : RfV ad ro Z D S) {many : Nat} (hm : many = 2 ∨ many = 3) {F : Nat → Rat} {j : Nat} (hj : j < many) (hK : ∀ i, i ≤ many → KtV ad D i (F i)) {q : Rat} (hq : F j + (F many - sfo F many) / ((many : Int) : Rat) = q) (sm : smQ q) {a b c w tt : Int32} (k : ∀ D', RfV ad ro Z D' (sTell S q).2 → post (sTell S q).1 D') : X9_held_wp G (dI D (ad 500) 2 0) (ad 500) (22 + (2 * nI many)) (fun r1 D2 => X9_held_wp G D2 (ad 500) ((22 + (2 * nI many)) + 1) (fun r3 D4 => ∃ n, X9_right_l295 G post (ad 500) a b c w (nI j) tt n (nI many) r1 r3 0 D4)) := by
  have w0 : WkF ad ro D (dI D (ad 500) 2 0) := ⟨FrP.dI (by rw [H.inj_ 500 (by omega) (by omega)]; unfold pW; omega), dI_o _ _ _ (by decide), dI_o _ _ _ (by decide)⟩
  have h0 := h.wk H w0
  have t0 : TopV ad (dI D (ad 500) 2 0) 0 := ⟨dI_s _ _ _ _, by omega⟩
  have hK0 : ∀ i, i ≤ many → KtV ad (dI D (ad 500) 2 0) i (F i) := fun i hi => (hK i hi).so (fun x _ _ => by rw [dI_n _ _ _ (H.ne (by omega) (by omega) (by omega))])
  generalize dI D (ad 500) 2 0 = E0 at *
  obtain ⟨g, d, n, m, hn, hm', k1, k2, k3, k4⟩ := hK0 many (Nat.le_refl _)
  rw [i23, i22]
  refine held_sp H t0 (by omega) k1 (by omega) (fun E1 f1 t1 w1 => ?_)
  refine held_sp H t1 (by omega) (f1.wn.kp H k2) (by omega) (fun E2 f2 t2 w2 => ?_)
  have f02 := f1.tr f2 (by omega)
  have key := up_loop2 (L := fun f i (P : (Nat × Nat) × Nat) (E : Dat) => X9_right_l295 G post (ad 500) a b c w (nI j) tt f (nI many) (nI P.1.1) (nI P.1.2) (nI i) E) many (fun i P E => P.2 ≤ 40 + 400 * i ∧ BgF ad ro E0 E 0 ∧ TopV ad E P.2 ∧ ∃ (x y : Int) (u v : Nat), u ≤ 18 * (i + 1) ∧ v ≤ 17 * (i + 1) ∧ Nm ad E P.2 P.1.1 x u ∧ Nm ad E P.2 P.1.2 y v ∧ 1 ≤ y ∧ ((x : Int) : Rat) = (y : Int) * (F many - sfo F i)) ?_ ?_ 0 ((0, 0 + n + 1), 0 + n + 1 + m + 1) E2 (by omega) ⟨by dsimp only; omega, f02, t2, g, d, n, m, by omega, by omega, w1.fr f2 (by omega), w2, k3, by rw [k4]; show _ = _ * (F many - 0); grind⟩
  · exact ⟨_, key⟩
  · intro f P E hE
    obtain ⟨⟨p1, p2⟩, U⟩ := P
    obtain ⟨g1, fE, tE, x, y, u, v, hu, hv, wx, wy, hy, hx⟩ := hE
    dsimp only at *
    show X9_right_l295_b G post (ad 500) a b c w (nI j) tt _ _ _ _ _ _
    unfold X9_right_l295_b
    rw [i23 (i := j), i22 (i := j)]
    refine ⟨fun _ => ?_, fun q => absurd (nI_le (Nat.le_refl _) (by omega)) q⟩
    obtain ⟨gj, dj, nj, mj, hnj, hmj, kj1, kj2, kj3, kj4⟩ := hK0 j (by omega)
    refine held_sp H tE (by omega) (fE.wn.kp H kj1) (by omega) (fun E3 f3 t3 w3 => ?_)
    refine held_sp H t3 (by omega) ((fE.tr f3 (by omega)).wn.kp H kj2) (by omega) (fun E4 f4 t4 w4 => ?_)
    have em : ((nI many).toInt64).toInt = (many : Int) := by rw [L_i2l, nI_toInt (by omega)]
    refine whole_sp H t4 (by omega) (by rw [em]; omega) (fun E5 n5 hn5 f5 t5 w5 => ?_)
    rw [em] at w5
    have f35 := (f3.tr f4 (by omega)).tr f5 (by omega)
    refine times_sp H t5 (wy.fr f35 (by omega)) w5 (by omega) (fun E6 n6 hn6 f6 t6 w6 => ?_)
    have f46 := (f4.tr f5 (by omega)).tr f6 (by omega)
    refine times_sp H t6 (w3.fr f46 (by omega)) w6 (by omega) (fun E7 n7 hn7 f7 t7 w7 => ?_)
    have f37 := (f35.tr f6 (by omega)).tr f7 (by omega)
    have f57 := (f5.tr f6 (by omega)).tr f7 (by omega)
    refine times_sp H t7 (wx.fr f37 (by omega)) (w4.fr f57 (by omega)) (by omega) (fun E8 n8 hn8 f8 t8 w8 => ?_)
    have hmx : mxN n7 n8 ≤ 180 := by unfold mxN; split <;> omega
    refine sum_sp H t8 (w7.fr f8 (by omega)) w8 (by omega) (fun E9 n9 hn9 f9 t9 w9 => ?_)
    have f59 := (f57.tr f8 (by omega)).tr f9 (by omega)
    have f79 := (f7.tr f8 (by omega)).tr f9 (by omega)
    refine times_sp H t9 (w4.fr f59 (by omega)) (w6.fr f79 (by omega)) (by omega) (fun EA nA hnA fA tA wA => ?_)
    have f3A := ((f37.tr f8 (by omega)).tr f9 (by omega)).tr fA (by omega)
    have hmx2 : mxN n9 nA ≤ 300 := by unfold mxN; split <;> omega
    have hB : 1 ≤ dj * (y * (many : Int)) := by
      have b1 : 1 * 1 ≤ y * (many : Int) := Int.mul_le_mul hy (by omega) (by omega) (by omega)
      have b2 : 1 * 1 ≤ dj * (y * (many : Int)) := Int.mul_le_mul kj3 (by omega) (by omega) (by omega)
      omega
    refine tells_sp H ((h0.wk H fE.wk).wk H f3A.wk) tA (w9.fr fA (by omega)) wA (by omega) (by omega) hB (q := q) ?_ sm k
    rw [← hq, cast_add, cast_mul, cast_mul, cast_mul, cast_mul, cast_mul, kj4, hx]
    have z1 := cast_pos hy
    have z2 := cast_pos kj3
    have z3 := cast_pos (d := (many : Int)) (by omega)
    generalize ((y : Int) : Rat) = y' at *
    generalize ((dj : Int) : Rat) = d' at *
    generalize ((many : Int) : Rat) = m' at *
    generalize F many - sfo F many = s'
    generalize F j = r'
    grind
  · intro f i P E hi hE hk
    obtain ⟨⟨p1, p2⟩, U⟩ := P
    obtain ⟨g1, fE, tE, x, y, u, v, hu, hv, wx, wy, hy, hx⟩ := hE
    dsimp only at *
    show X9_right_l295_b G post (ad 500) a b c w (nI j) tt _ _ _ _ _ _
    unfold X9_right_l295_b
    rw [i23 (i := i), i22 (i := i), nI_1 i]
    refine ⟨fun q => absurd q (nI_ge hi (by omega)), fun _ => ?_⟩
    obtain ⟨gj, dj, nj, mj, hnj, hmj, kj1, kj2, kj3, kj4⟩ := hK0 i (by omega)
    refine held_sp H tE (by omega) (fE.wn.kp H kj1) (by omega) (fun E3 f3 t3 w3 => ?_)
    refine held_sp H t3 (by omega) ((fE.tr f3 (by omega)).wn.kp H kj2) (by omega) (fun E4 f4 t4 w4 => ?_)
    have f34 := f3.tr f4 (by omega)
    refine times_sp H t4 (wx.fr f34 (by omega)) w4 (by omega) (fun E5 n5 hn5 f5 t5 w5 => ?_)
    have f35 := f34.tr f5 (by omega)
    have f45 := f4.tr f5 (by omega)
    refine times_sp H t5 (w3.fr f45 (by omega)) (wy.fr f35 (by omega)) (by omega) (fun E6 n6 hn6 f6 t6 w6 => ?_)
    have hmx : mxN n5 n6 ≤ 18 * (i + 1) + 17 := by unfold mxN; split <;> omega
    refine less_sp H t6 (w5.fr f6 (by omega)) w6 (by omega) (fun E7 n7 hn7 f7 t7 w7 => ?_)
    have f37 := (f35.tr f6 (by omega)).tr f7 (by omega)
    have f57 := (f5.tr f6 (by omega)).tr f7 (by omega)
    refine times_sp H t7 (wy.fr f37 (by omega)) (w4.fr f57 (by omega)) (by omega) (fun E8 n8 hn8 f8 t8 w8 => ?_)
    have f38 := f37.tr f8 (by omega)
    refine hk ((_, _), _) E8 ⟨?_, fE.tr f38 (by omega), t8, _, _, n7, n8, by omega, by omega, w7.fr f8 (by omega), w8, ?_, ?_⟩
    · dsimp only
      omega
    · have b1 : 1 * 1 ≤ y * dj := Int.mul_le_mul hy kj3 (by omega) (by omega)
      omega
    · rw [cast_sub, cast_mul, cast_mul, cast_mul, hx, kj4]
      show _ = _ * (F many - (sfo F i + F i))
      generalize sfo F i = s'
      generalize F i = r'
      generalize F many = q'
      grind
end RI9
