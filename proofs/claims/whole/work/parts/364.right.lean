/-! right -/
theorem lpd_app (ds : List Int) (b : Int) : lpd (ds ++ [b]) = lpd ds * b := by
  induction ds with
  | nil => show b * 1 = 1 * b; omega
  | cons d ds ih =>
    show d * lpd (ds ++ [b]) = d * lpd ds * b
    rw [ih, Int.mul_assoc]
def rcf (k i p : Int) : Rat := if k = i then ((p - 1 : Int) : Rat) else -1
def rightR (S : AS) (a b c w k : Int32) (t : Nat) : Rat := if c = -1 then (rcf k.toInt 0 2 * foR (S.1 (tn a)) none t + rcf k.toInt 1 2 * foR (S.1 (tn b)) none t + foR (S.1 (tn w)) none t) / ((2 : Int) : Rat) else (rcf k.toInt 0 3 * foR (S.1 (tn a)) none t + rcf k.toInt 1 3 * foR (S.1 (tn b)) none t + rcf k.toInt 2 3 * foR (S.1 (tn c)) none t + foR (S.1 (tn w)) none t) / ((3 : Int) : Rat)
def rPts (c : Int32) : Int := if c = -1 then 2 else 3
abbrev okFour (a b c w : Int32) : Prop := okR a ∧ okR b ∧ okR w ∧ (c = -1 ∨ okR c) ∧ a ≠ b ∧ a ≠ c ∧ a ≠ w ∧ b ≠ c ∧ b ≠ w ∧ c ≠ w
def sRight (S : AS) (a b c w k t : Int32) : Int32 × AS := if okFour a b c w ∧ 0 ≤ k.toInt ∧ k.toInt < rPts c ∧ okF t then (if clB (S.1 (tn a)) none = true ∧ clB (S.1 (tn b)) none = true ∧ (c = -1 ∨ clB (S.1 (tn c)) none = true) ∧ clB (S.1 (tn w)) none = true then sTell S (rightR S a b c w k (tn t)) else (-1, stS S 6)) else (-1, stS S 1)
section RG
variable {G : Shp} {ad ro : Nat → Nat} {D : Dat} {S : AS} {Z : Dat} {post : Int32 → Dat → Prop}
theorem FrV.fr2 (H : CS G ad ro) {D' : Dat} {P : Nat → Prop} {T B : Int} {ds : List Int} (h : FrV ad D T B ds) (f : FrP ro D D' P) (hP : ∀ q, (q = 4 ∨ q = 17 ∨ pB 7 q ∨ pB 8 q) → ¬ P q) : FrV ad D' T B ds := by
  refine ⟨h.1.fr H ok7 f (hP _ (by unfold pB; omega)) (hP _ (by unfold pB; omega)), h.2.1.fr H ok8 f (hP _ (by unfold pB; omega)) (hP _ (by unfold pB; omega)), ?_, h.2.2.2.1, fun i hi => ?_⟩
  · rw [f.i H (by omega) (hP 4 (Or.inl rfl))]; exact h.2.2.1
  · rw [f.l H (by omega) (hP 17 (Or.inr (Or.inl rfl)))]; exact h.2.2.2.2 i hi
/-- a sum of fractions under way: value, bounds -/
def SumF (ad : Nat → Nat) (D : Dat) (n : Nat) (X Y : Int) (Q : Rat) : Prop := ∃ (T B : Int) (ds : List Int), FrV ad D T B ds ∧ ds.length = n ∧ B = lpd ds ∧ (∀ i, i < ds.length → 1 ≤ ds.getD i 0 ∧ ds.getD i 0 < 18014398509481984) ∧ -X ≤ T ∧ T ≤ X ∧ 1 ≤ B ∧ B ≤ Y ∧ ((T : Int) : Rat) = (B : Int) * Q
theorem addForetold_sp (H : CS G ad ro) (h : ClV ad ro Z D S) {n : Nat} (hn : n < 5) {X Y : Int} {Q : Rat} (hs : SumF ad D n X Y Q) {v t m : Int32} (hv : okR v) (ht : okF t) (hm : -2 ≤ m.toInt ∧ m.toInt ≤ 2) (hX : X < 134217728 ^ 10) (hY : Y < 134217728 ^ 6) (hZ : X * 18014398509481983 + 80000000000000000000000000000000000000000000 * Y < 134217728 ^ 12) (k1 : ∀ D', ClV ad ro Z D' S → SumF ad D' (n + 1) (X * 18014398509481983 + 80000000000000000000000000000000000000000000 * Y) (Y * 18014398509481983) (Q + ((m.toInt : Int) : Rat) * foR (S.1 (tn v)) none (tn t)) → clB (S.1 (tn v)) none = true → post 1 D') (k0 : ∀ D', ClV ad ro Z D' S → clB (S.1 (tn v)) none = false → post 0 D') : X8_addForetold_wp G D (ad 0) v m t post := by
  have ok0 : okb 0 := by unfold okb; omega
  refine ⟨H.x_, _, H.x1_, H.p_, _, H.x5_, (H.big_ 0 ok0).1, _, H.x3_, H.a_, _, H.p8_, (H.big_ 3 ok3).1, rowOf_sp H (fun n0 => absurd hv n0) (fun r0 => ⟨fun q => (nomatch q), fun y q => ?_⟩)⟩
  cases q
  have hr := tn_R hv
  have hA := (h.1 _ hr).2
  refine find_sp (u := none) H hr (h.1 _ hr).1 hA (fun x e => (nomatch e)) (fun D1 f1 w1 => ⟨fun _ => ?_, fun q => absurd q (by decide)⟩) (fun D1 f1 w1 => ⟨fun q => absurd rfl q, fun _ => ⟨isB_0, k0 D1 (h.fr H f1 (fun q => pP_pZ)) (clB_f.mpr w1)⟩⟩)
  have htt := tn_F ht
  have et := tn_nI ht.1
  generalize hx : tn t = x at *
  clear hx
  subst et
  have c1 := h.fr H f1 (fun q => pP_pZ)
  have hcl := clB_t.mpr w1.pv
  refine foretold_sp H hA w1 htt ok_0 (fun D2 f2 b2 => ?_)
  obtain ⟨T, B, ds, hF, hl, hB, hd, hT1, hT2, hB1, hB2, hQ⟩ := hs
  have nP : ∀ q, (q = 4 ∨ q = 17 ∨ pB 7 q ∨ pB 8 q) → ¬ pP q := fun q a b => by unfold pB bg at a; unfold pP at b; omega
  have nI0 : ∀ q, (q = 4 ∨ q = 17 ∨ pB 7 q ∨ pB 8 q) → ¬ pI 0 q := fun q a b => by unfold pB bg at a; unfold pI pT pB bg at b; omega
  have F2 := (hF.fr2 H f1 nP).fr2 H f2 nI0
  have w2 := w1.fI H hA ok_0 f2
  have d1 := zD_pos w1.pv
  have d2 := zD_lt hA (Nat.le_refl _) w1.pv
  have hfo := foS_b hA w1.pv htt
  have c2 := c1.fr H f2 (fun q => pI_pZ ok_0)
  have hres : -(X * 18014398509481983 + 80000000000000000000000000000000000000000000 * Y) ≤ T * zz (Dq (S.1 (tn v)) none (nU (S.1 (tn v)))) + m.toInt * foS (S.1 (tn v)) none x * B ∧ T * zz (Dq (S.1 (tn v)) none (nU (S.1 (tn v)))) + m.toInt * foS (S.1 (tn v)) none x * B ≤ X * 18014398509481983 + 80000000000000000000000000000000000000000000 * Y := by
    have m1 := mul_abs_le (Y := 18014398509481983) (y := zz (Dq (S.1 (tn v)) none (nU (S.1 (tn v))))) hT1 hT2 (by omega) (by omega)
    have m2 := mul_abs_le (X := 2) (x := m.toInt) (y := foS (S.1 (tn v)) none x) hm.1 hm.2 hfo.1 hfo.2
    have m3 := mul_abs_le (X := 80000000000000000000000000000000000000000000) (Y := Y) (x := m.toInt * foS (S.1 (tn v)) none x) (y := B) (by omega) (by omega) (by omega) hB2
    omega
  refine fadd_sp H F2 (by omega) b2 w2.1.2.2.2.2 (az_lt ⟨hT1, hT2⟩ hX) ⟨by omega, by omega⟩ ⟨by omega, by omega⟩ ⟨by omega, d2⟩ hm ⟨by omega, by omega⟩ (fun D3 f3 r3 => ⟨isB_1, ?_⟩)
  refine k1 D3 (c2.fr H f3 (fun q a => by unfold pF pT pB bg at a; unfold pZ; omega)) ⟨_, _, _, r3, by rw [List.length_append, hl]; rfl, by rw [lpd_app, hB], fun i hi => ?_, hres.1, hres.2, ?_, ?_, ?_⟩ hcl
  · have hi2 : i < ds.length + 1 := by simpa using hi
    by_cases q : i = ds.length
    · rw [q, List.getD_eq_getElem?_getD, List.getElem?_append_right (Nat.le_refl _), Nat.sub_self]
      show 1 ≤ zz _ ∧ zz _ < _
      omega
    · have := hd i (by omega)
      rw [List.getD_eq_getElem?_getD] at this ⊢
      rw [List.getElem?_append_left (by omega)]
      exact this
  · have : 1 * 1 ≤ B * zz (Dq (S.1 (tn v)) none (nU (S.1 (tn v)))) := Int.mul_le_mul hB1 (by omega) (by omega) (by omega)
    omega
  · exact Int.mul_le_mul hB2 (by omega) (by omega) (by omega)
  · have e1 := foS_R hA w1.pv x
    show ((T * zD (S.1 (tn v)) none + m.toInt * foS (S.1 (tn v)) none x * B : Int) : Rat) = ((B * zD (S.1 (tn v)) none : Int) : Rat) * _
    rw [cast_add, cast_mul, cast_mul, cast_mul, cast_mul, hQ, e1]
    generalize foR (S.1 (tn v)) none x = y
    grind
theorem four_sp (H : CS G ad ro) {a b c w : Int32} {W : Int32 → Dat → Prop} (k1 : okFour a b c w → W 1 D) (k0 : ¬ okFour a b c w → W 0 D) : X8_areFourRows_wp G D (ad 0) a b c w W := by
  have fin : okR a → okR b → okR w → (c = -1 ∨ okR c) → X8_areFourRows_j42 G W (ad 0) a b c w D := by
    intro ha hb hw hc
    have no : ¬ (a ≠ b ∧ a ≠ c ∧ a ≠ w ∧ b ≠ c ∧ b ≠ w ∧ c ≠ w) → isB 0 ∧ W 0 D := fun q => ⟨isB_0, k0 (fun z => q z.2.2.2.2)⟩
    refine ⟨fun q => no (fun z => z.1 q), fun q1 => ⟨fun q => no (fun z => z.2.1 q), fun q2 => ⟨fun q => no (fun z => z.2.2.1 q), fun q3 => ⟨fun q => no (fun z => z.2.2.2.1 q), fun q4 => ⟨fun q => no (fun z => z.2.2.2.2.1 q), fun q5 => ⟨fun q => no (fun z => z.2.2.2.2.2 q), fun q6 => ⟨isB_1, k1 ⟨ha, hb, hw, hc, q1, q2, q3, q4, q5, q6⟩⟩⟩⟩⟩⟩⟩⟩
  refine ⟨H.x_, rowOf_sp H (fun n0 => ⟨fun _ => ⟨isB_0, k0 (fun z => n0 z.1)⟩, fun y q => (nomatch q)⟩) (fun a0 => ⟨fun q => (nomatch q), fun y _ => ?_⟩)⟩
  refine rowOf_sp H (fun n0 => ⟨fun _ => ⟨isB_0, k0 (fun z => n0 z.2.1)⟩, fun y q => (nomatch q)⟩) (fun b0 => ⟨fun q => (nomatch q), fun y _ => ?_⟩)
  refine rowOf_sp H (fun n0 => ⟨fun _ => ⟨isB_0, k0 (fun z => n0 z.2.2.1)⟩, fun y q => (nomatch q)⟩) (fun w0 => ⟨fun q => (nomatch q), fun y _ => ?_⟩)
  refine ⟨fun q => fin a0 b0 w0 (Or.inl q), fun q => ?_⟩
  refine rowOf_sp H (fun n0 => ⟨fun _ => ⟨isB_0, k0 (fun z => z.2.2.2.1.elim q n0)⟩, fun y q => (nomatch q)⟩) (fun c0 => ⟨fun q => (nomatch q), fun y _ => fin a0 b0 w0 (Or.inr c0)⟩)
end RG
