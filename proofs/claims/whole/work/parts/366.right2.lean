section RG2
variable {G : Shp} {ad ro : Nat → Nat} {D : Dat} {S : AS} {Z : Dat} {post : Int32 → Dat → Prop}
/-- the end: the sum over the parts is told -/
theorem right_fin (H : CS G ad ro) (h : ClV ad ro Z D S) {n : Nat} (hn : n < 5) {X Y : Int} {Q q : Rat} (hs : SumF ad D n X Y Q) (hY : Y < 134217728 ^ 8) {p : Nat} (hp : p = 2 ∨ p = 3) (hq : Q / ((p : Int) : Rat) = q) {a b c w k t v7 : Int32} (h7 : v7 = nI p) (kk : ∀ D', ClV ad ro Z D' (sTell S q).2 → post (sTell S q).1 D') : X8_right_j150 G post (ad 0) a b c w k t (ad 4) v7 1 D := by
  subst h7 hq
  refine ⟨fun _ => ?_, fun q => absurd q (by decide)⟩
  obtain ⟨T, B, ds, hF, hl, hB, hd, hT1, hT2, hB1, hB2, hQ⟩ := hs
  refine divideBy_sp H hF (by omega) ⟨by omega, by omega⟩ (by omega) (fun D1 f1 r1 => ?_)
  have c1 := h.fr H f1 (fun q a => by unfold pF pT pB bg at a; unfold pZ; omega)
  have eq : (T : Rat) / ((B * (p : Int) : Int) : Rat) = Q / ((p : Int) : Rat) := by
    have h1 := cast_pos (d := (p : Int)) (by omega)
    have h2 := cast_pos hB1
    rw [cast_mul, hQ]
    generalize ((B : Int) : Rat) = y at *
    generalize ((p : Int) : Rat) = z at *
    grind
  refine tellAnswer_sp H c1 r1 (by rw [lpd_app, hB]) ?_ (fun i hi => ?_) (by rw [eq]; exact kk)
  · have : 1 * 1 ≤ B * (p : Int) := Int.mul_le_mul hB1 (by omega) (by omega) (by omega)
    omega
  · have hi2 : i < ds.length + 1 := by simpa using hi
    by_cases q : i = ds.length
    · rw [q, List.getD_eq_getElem?_getD, List.getElem?_append_right (Nat.le_refl _), Nat.sub_self]
      show 1 ≤ (p : Int) ∧ (p : Int) < _
      omega
    · have := hd i (by omega)
      rw [List.getD_eq_getElem?_getD] at this ⊢
      rw [List.getElem?_append_left (by omega)]
      exact this
/-- OPEN -/
theorem right_open (H : CS G ad ro) (h : ClV ad ro Z D S) {a b c w k t v7 : Int32} (kk : ∀ D', ClV ad ro Z D' (stS S 6) → post (-1) D') : X8_right_j149 G post (ad 0) a b c w k t (ad 4) v7 D := ⟨fun q => absurd rfl q, fun _ => giveNone_sp H h (fun D' c => kk D' c)⟩
theorem rcf_t {k i : Int} {p : Int} (h : k = i) : rcf k i p = ((p - 1 : Int) : Rat) := if_pos h
theorem rcf_f {k i : Int} {p : Int} (h : ¬ k = i) : rcf k i p = ((-1 : Int) : Rat) := if_neg h
theorem right_w (H : CS G ad ro) {n : Nat} (hn : n < 4) {X Y : Int} {Q q : Rat} (h : ClV ad ro Z D S) (hs : SumF ad D n X Y Q) {a b c w k t v7 : Int32} (hw : okR w) (ht : okF t) {p : Nat} (hp : p = 2 ∨ p = 3) (h7 : v7 = nI p) (hX : X < 134217728 ^ 10) (hY : Y < 134217728 ^ 6) (hZ : X * 18014398509481983 + 80000000000000000000000000000000000000000000 * Y < 134217728 ^ 12) (hY2 : Y * 18014398509481983 < 134217728 ^ 8) (hq : (Q + foR (S.1 (tn w)) none (tn t)) / ((p : Int) : Rat) = q) (kk : clB (S.1 (tn w)) none = true → ∀ D', ClV ad ro Z D' (sTell S q).2 → post (sTell S q).1 D') (k6 : clB (S.1 (tn w)) none = false → ∀ D', ClV ad ro Z D' (stS S 6) → post (-1) D') : X8_right_j133 G post (ad 0) a b c w k t (ad 4) v7 D := by
  have e1 : (1 : Int32).toInt = 1 := rfl
  refine addForetold_sp H h (by omega) hs hw ht ⟨by rw [e1]; omega, by rw [e1]; omega⟩ hX hY hZ (fun D1 c1 s1 cl => ⟨fun q => absurd q (by decide), fun _ => ?_⟩) (fun D1 c1 cl => ⟨fun _ => right_open H c1 (k6 cl), fun q => absurd rfl q⟩)
  refine right_fin H c1 (by omega) s1 hY2 hp ?_ h7 (kk cl)
  rw [← hq, e1, cast_1]
  congr 1
  grind
theorem right_sp (H : CS G ad ro) (h : ClV ad ro Z D S) {a b c w k t : Int32} (kk : ∀ D', ClV ad ro Z D' (sRight S a b c w k t).2 → post (sRight S a b c w k t).1 D') : X8_right_wp G D (ad 0) a b c w k t post := by
  have em1 : (-1 : Int32).toInt = -1 := rfl
  have e0 : (0 : Int32).toInt = 0 := rfl
  have e1 : (1 : Int32).toInt = 1 := rfl
  have e2 : (2 : Int32).toInt = 2 := rfl
  refine ⟨H.x_, _, H.x3_, H.a_, ?_⟩
  -- the calls' refusals are the same
  have start : ∀ (p : Nat) (v7 : Int32), (p = 2 ∨ p = 3) → v7 = nI p → (rPts c = (p : Int)) → (okFour a b c w → 0 ≤ k.toInt → k.toInt < p → okF t → ∀ E, ClV ad ro Z E S → SumF ad E 0 0 1 0 → ((¬ k = 0 → X8_right_j72 G post (ad 0) a b c w k t (ad 4) v7 (-1) a (ad 0) E) ∧ (k = 0 → X8_right_j72 G post (ad 0) a b c w k t (ad 4) v7 (v7 - 1) a (ad 0) E))) → X8_right_j10 G post (ad 0) a b c w k t (ad 4) v7 D := by
    intro p v7 hp h7 hpt go
    have no : ¬ (okFour a b c w ∧ 0 ≤ k.toInt ∧ k.toInt < rPts c ∧ okF t) → X8_right_j44 G post (ad 0) a b c w k t (ad 4) D := fun n0 => by
      unfold sRight at kk
      rw [if_neg n0] at kk
      exact giveNone_sp H h (fun D' c => kk D' c)
    have ep : v7.toInt = (p : Int) := by rw [h7, nI_toInt (by omega)]
    refine four_sp H (fun f0 => ⟨fun q => absurd q (by decide), fun _ => ⟨fun q => no (fun z => ?_), fun q => ⟨fun q2 => no (fun z => ?_), fun q2 => ?_⟩⟩⟩) (fun f0 => ⟨fun _ => no (fun z => f0 z.1), fun q => absurd rfl q⟩)
    · have := (I_lt _ _).mp q
      omega
    · have := (I_le _ _).mp q2
      omega
    have h1 : ¬ k.toInt < (0 : Int32).toInt := fun z => q ((I_lt _ _).mpr z)
    have h2 : ¬ v7.toInt ≤ k.toInt := fun z => q2 ((I_le _ _).mpr z)
    refine isFar_if (fun n0 => ⟨fun q => absurd rfl q, fun _ => no (fun z => n0 z.2.2.2)⟩) (fun t0 => ⟨fun _ => ?_, fun q => absurd q (by decide)⟩)
    refine start_sp H (fun D1 f1 r1 => ?_)
    refine go f0 (by omega) (by omega) t0 D1 (h.fr H f1 (fun q a => by unfold pF pT pB bg at a; unfold pZ; omega)) ⟨0, 1, [], r1, rfl, rfl, fun i hi => by simp at hi, by omega, by omega, by omega, by omega, by rw [cast_0]; grind⟩
  have k0i : (k = 0) ↔ k.toInt = 0 := I_eq k 0
  have k1i : (k = 1) ↔ k.toInt = 1 := I_eq k 1
  have k2i : (k = 2) ↔ k.toInt = 2 := I_eq k 2
  refine ⟨fun hc => ?_, fun hc => ?_⟩
  · -- three parts
    refine start 3 3 (Or.inr rfl) (by decide) (by unfold rPts; rw [if_neg hc]; rfl) (fun f0 hk1 hk2 t0 E cE sE => ?_)
    obtain ⟨a0, b0, w0, c0, -⟩ := id f0
    have c0 := c0.resolve_left hc
    unfold sRight at kk
    have hp3 : rPts c = 3 := by unfold rPts; rw [if_neg hc]
    rw [if_pos ⟨f0, hk1, by rw [hp3]; omega, t0⟩] at kk
    have k6 : ¬ (clB (S.1 (tn a)) none = true ∧ clB (S.1 (tn b)) none = true ∧ (c = -1 ∨ clB (S.1 (tn c)) none = true) ∧ clB (S.1 (tn w)) none = true) → ∀ D', ClV ad ro Z D' (stS S 6) → post (-1) D' := fun n0 D' cD => by
      rw [if_neg n0] at kk
      exact kk D' cD
    have ff : ∀ {x : Bool}, x = false → ¬ x = true := fun {x} hx => by rw [hx]; decide
    have m31 : ((3 : Int32) - 1).toInt = 2 := rfl
    -- by each part
    have go3 : ∀ (m : Int32) (E : Dat) (Q : Rat) (X Y : Int), clB (S.1 (tn a)) none = true → clB (S.1 (tn b)) none = true → ((m.toInt : Int) : Rat) = rcf k.toInt 2 3 → (m = -1 ∨ m = 3 - 1) → ClV ad ro Z E S → SumF ad E 2 X Y Q → Q = rcf k.toInt 0 3 * foR (S.1 (tn a)) none (tn t) + rcf k.toInt 1 3 * foR (S.1 (tn b)) none (tn t) → X = ((0 * 18014398509481983 + 80000000000000000000000000000000000000000000 * 1) * 18014398509481983 + 80000000000000000000000000000000000000000000 * (1 * 18014398509481983)) → Y = 1 * 18014398509481983 * 18014398509481983 → X8_right_j125 G post (ad 0) a b c w k t (ad 4) 3 m c (ad 0) E := by
      intro m E Q X Y ca cb hm hm2 cE sE hQ hX hY
      refine ⟨H.x_, ?_⟩
      refine addForetold_sp H cE (by omega) sE c0 t0 ?_ ?_ ?_ ?_ (fun D1 c1 s1 cl => ⟨fun q => absurd q (by decide), fun _ => ?_⟩) (fun D1 c1 cl => ⟨fun _ => right_open H c1 (k6 (fun z => z.2.2.1.elim hc (ff cl))), fun q => absurd rfl q⟩)
      · rcases hm2 with e | e <;> rw [e]
        · rw [em1]; omega
        · rw [m31]; omega
      · rw [hX]; decide +kernel
      · rw [hY]; decide +kernel
      · rw [hX, hY]; decide +kernel
      refine right_w (p := 3) H (by omega) c1 s1 w0 t0 (Or.inr rfl) (by decide) ?_ ?_ ?_ ?_ (q := rightR S a b c w k (tn t)) ?_ (fun cw D' cD => ?_) (fun cw => k6 (fun z => ff cw z.2.2.2))
      · rw [hX, hY]; decide +kernel
      · rw [hY]; decide +kernel
      · rw [hX, hY]; decide +kernel
      · rw [hY]; decide +kernel
      · unfold rightR
        rw [if_neg hc, hm, hQ]
        rfl
      · rw [if_pos ⟨ca, cb, Or.inr cl, cw⟩] at kk
        exact kk D' cD
    have go2 : ∀ (m : Int32) (E : Dat) (Q : Rat) (X Y : Int), clB (S.1 (tn a)) none = true → ((m.toInt : Int) : Rat) = rcf k.toInt 1 3 → (m = -1 ∨ m = 3 - 1) → ClV ad ro Z E S → SumF ad E 1 X Y Q → Q = rcf k.toInt 0 3 * foR (S.1 (tn a)) none (tn t) → X = (0 * 18014398509481983 + 80000000000000000000000000000000000000000000 * 1) → Y = 1 * 18014398509481983 → X8_right_j96 G post (ad 0) a b c w k t (ad 4) 3 m b (ad 0) E := by
      intro m E Q X Y ca hm hm2 cE sE hQ hX hY
      refine ⟨H.x_, ?_⟩
      refine addForetold_sp H cE (by omega) sE b0 t0 ?_ ?_ ?_ ?_ (fun D1 c1 s1 cl => ⟨fun q => absurd q (by decide), fun _ => ⟨fun q => absurd q hc, fun _ => ⟨fun q => ?_, fun q => ?_⟩⟩⟩) (fun D1 c1 cl => ⟨fun _ => right_open H c1 (k6 (fun z => ff cl z.2.1)), fun q => absurd rfl q⟩)
      · rcases hm2 with e | e <;> rw [e]
        · rw [em1]; omega
        · rw [m31]; omega
      · rw [hX]; decide +kernel
      · rw [hY]; decide +kernel
      · rw [hX, hY]; decide +kernel
      · exact go3 (-1) D1 _ _ _ ca cl (by rw [em1, rcf_f (fun z => q (k2i.mpr z))]) (Or.inl rfl) c1 s1 (by rw [hm, hQ]) (by rw [hX, hY]) (by rw [hY])
      · exact go3 (3 - 1) D1 _ _ _ ca cl (by rw [m31, rcf_t (k2i.mp q)]; rfl) (Or.inr rfl) c1 s1 (by rw [hm, hQ]) (by rw [hX, hY]) (by rw [hY])
    have go1 : ∀ (m : Int32), ((m.toInt : Int) : Rat) = rcf k.toInt 0 3 → (m = -1 ∨ m = 3 - 1) → X8_right_j72 G post (ad 0) a b c w k t (ad 4) 3 m a (ad 0) E := by
      intro m hm hm2
      refine ⟨H.x_, ?_⟩
      refine addForetold_sp H cE (by omega) sE a0 t0 ?_ (by decide +kernel) (by decide +kernel) (by decide +kernel) (fun D1 c1 s1 cl => ⟨fun q => absurd q (by decide), fun _ => ⟨fun q => ?_, fun q => ?_⟩⟩) (fun D1 c1 cl => ⟨fun _ => right_open H c1 (k6 (fun z => ff cl z.1)), fun q => absurd rfl q⟩)
      · rcases hm2 with e | e <;> rw [e]
        · rw [em1]; omega
        · rw [m31]; omega
      · exact go2 (-1) D1 _ _ _ cl (by rw [em1, rcf_f (fun z => q (k1i.mpr z))]) (Or.inl rfl) c1 s1 (by rw [hm]; grind) rfl rfl
      · exact go2 (3 - 1) D1 _ _ _ cl (by rw [m31, rcf_t (k1i.mp q)]; rfl) (Or.inr rfl) c1 s1 (by rw [hm]; grind) rfl rfl
    exact ⟨fun q => go1 (-1) (by rw [em1, rcf_f (fun z => q (k0i.mpr z))]) (Or.inl rfl), fun q => go1 (3 - 1) (by rw [m31, rcf_t (k0i.mp q)]; rfl) (Or.inr rfl)⟩
  · -- two parts
    refine start 2 2 (Or.inl rfl) (by decide) (by unfold rPts; rw [if_pos hc]; rfl) (fun f0 hk1 hk2 t0 E cE sE => ?_)
    obtain ⟨a0, b0, w0, c0, -⟩ := id f0
    unfold sRight at kk
    have hp3 : rPts c = 2 := by unfold rPts; rw [if_pos hc]
    rw [if_pos ⟨f0, hk1, by rw [hp3]; omega, t0⟩] at kk
    have k6 : ¬ (clB (S.1 (tn a)) none = true ∧ clB (S.1 (tn b)) none = true ∧ (c = -1 ∨ clB (S.1 (tn c)) none = true) ∧ clB (S.1 (tn w)) none = true) → ∀ D', ClV ad ro Z D' (stS S 6) → post (-1) D' := fun n0 D' cD => by
      rw [if_neg n0] at kk
      exact kk D' cD
    have ff : ∀ {x : Bool}, x = false → ¬ x = true := fun {x} hx => by rw [hx]; decide
    have m31 : ((2 : Int32) - 1).toInt = 1 := rfl
    have go2 : ∀ (m : Int32) (E : Dat) (Q : Rat) (X Y : Int), clB (S.1 (tn a)) none = true → ((m.toInt : Int) : Rat) = rcf k.toInt 1 2 → (m = -1 ∨ m = 2 - 1) → ClV ad ro Z E S → SumF ad E 1 X Y Q → Q = rcf k.toInt 0 2 * foR (S.1 (tn a)) none (tn t) → X = (0 * 18014398509481983 + 80000000000000000000000000000000000000000000 * 1) → Y = 1 * 18014398509481983 → X8_right_j96 G post (ad 0) a b c w k t (ad 4) 2 m b (ad 0) E := by
      intro m E Q X Y ca hm hm2 cE sE hQ hX hY
      refine ⟨H.x_, ?_⟩
      refine addForetold_sp H cE (by omega) sE b0 t0 ?_ ?_ ?_ ?_ (fun D1 c1 s1 cl => ⟨fun q => absurd q (by decide), fun _ => ⟨fun _ => ?_, fun q => absurd hc q⟩⟩) (fun D1 c1 cl => ⟨fun _ => right_open H c1 (k6 (fun z => ff cl z.2.1)), fun q => absurd rfl q⟩)
      · rcases hm2 with e | e <;> rw [e]
        · rw [em1]; omega
        · rw [m31]; omega
      · rw [hX]; decide +kernel
      · rw [hY]; decide +kernel
      · rw [hX, hY]; decide +kernel
      refine right_w (p := 2) H (by omega) c1 s1 w0 t0 (Or.inl rfl) (by decide) ?_ ?_ ?_ ?_ (q := rightR S a b c w k (tn t)) ?_ (fun cw D' cD => ?_) (fun cw => k6 (fun z => ff cw z.2.2.2))
      · rw [hX, hY]; decide +kernel
      · rw [hY]; decide +kernel
      · rw [hX, hY]; decide +kernel
      · rw [hY]; decide +kernel
      · unfold rightR
        rw [if_pos hc, hm, hQ]
        rfl
      · rw [if_pos ⟨ca, cl, Or.inl hc, cw⟩] at kk
        exact kk D' cD
    have go1 : ∀ (m : Int32), ((m.toInt : Int) : Rat) = rcf k.toInt 0 2 → (m = -1 ∨ m = 2 - 1) → X8_right_j72 G post (ad 0) a b c w k t (ad 4) 2 m a (ad 0) E := by
      intro m hm hm2
      refine ⟨H.x_, ?_⟩
      refine addForetold_sp H cE (by omega) sE a0 t0 ?_ (by decide +kernel) (by decide +kernel) (by decide +kernel) (fun D1 c1 s1 cl => ⟨fun q => absurd q (by decide), fun _ => ⟨fun q => ?_, fun q => ?_⟩⟩) (fun D1 c1 cl => ⟨fun _ => right_open H c1 (k6 (fun z => ff cl z.1)), fun q => absurd rfl q⟩)
      · rcases hm2 with e | e <;> rw [e]
        · rw [em1]; omega
        · rw [m31]; omega
      · exact go2 (-1) D1 _ _ _ cl (by rw [em1, rcf_f (fun z => q (k1i.mpr z))]) (Or.inl rfl) c1 s1 (by rw [hm]; grind) rfl rfl
      · exact go2 (2 - 1) D1 _ _ _ cl (by rw [m31, rcf_t (k1i.mp q)]; rfl) (Or.inr rfl) c1 s1 (by rw [hm]; grind) rfl rfl
    exact ⟨fun q => go1 (-1) (by rw [em1, rcf_f (fun z => q (k0i.mpr z))]) (Or.inl rfl), fun q => go1 (2 - 1) (by rw [m31, rcf_t (k0i.mp q)]; rfl) (Or.inr rfl)⟩
end RG2
