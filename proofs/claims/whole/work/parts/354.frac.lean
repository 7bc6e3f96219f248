/-! Fraction -/
def FrV (ad : Nat → Nat) (D : Dat) (T B : Int) (ds : List Int) : Prop := BigR ad D 7 T ∧ BigR ad D 8 B ∧ D.1 (ad 4) 5 = nI ds.length ∧ ds.length ≤ 5 ∧ ∀ i, i < ds.length → (D.2 (ad 17) i).toInt = ds.getD i 0
def pF (q : Nat) : Prop := q = 4 ∨ q = 17 ∨ pT q ∨ pB 7 q ∨ pB 8 q ∨ pB 9 q
def lpd : List Int → Int
  | [] => 1
  | d :: l => d * lpd l
theorem ok7 : okb 7 := by unfold okb; omega
theorem ok8 : okb 8 := by unfold okb; omega
theorem ok9 : okb 9 := by unfold okb; omega
section FC
variable {G : Shp} {ad ro : Nat → Nat} {D : Dat}
theorem FrV.fr (H : CS G ad ro) {D' : Dat} {P : Nat → Prop} {T B : Int} {ds : List Int} (h : FrV ad D T B ds) (f : FrP ro D D' P) (hP : ∀ q, pF q → ¬ P q) : FrV ad D' T B ds := by
  refine ⟨h.1.fr H ok7 f (hP _ (by unfold pF pB; omega)) (hP _ (by unfold pF pB; omega)), h.2.1.fr H ok8 f (hP _ (by unfold pF pB; omega)) (hP _ (by unfold pF pB; omega)), ?_, h.2.2.2.1, fun i hi => ?_⟩
  · rw [f.i H (by omega) (hP 4 (Or.inl rfl))]; exact h.2.2.1
  · rw [f.l H (by omega) (hP 17 (Or.inr (Or.inl rfl)))]; exact h.2.2.2.2 i hi
theorem start_sp (H : CS G ad ro) {post : Dat → Prop} (k : ∀ D', FrP ro D D' pF → FrV ad D' 0 1 [] → post D') : X1_start_wp G D (ad 4) post := by
  refine ⟨H.a_, _, H.a1_, (H.big_ 7 ok7).1, _, H.a2_, (H.big_ 8 ok8).1, ?_⟩
  refine setToR H ok7 (by decide) (fun D1 f1 b1 => setToR H ok8 (by decide) (fun D2 f2 b2 => ?_))
  have f3 : FrP ro D2 (dI D2 (ad 4) 5 0) (fun q => q = 4) := FrP.dI (H.inj_ 4 (by omega))
  refine k _ (((f1.up (fun q a => by unfold pF; simp [a])).tr (f2.up (fun q a => by unfold pF; simp [a]))).tr (f3.up (fun q a => Or.inl a))) ⟨?_, ?_, ?_, by simp, fun i hi => by simp at hi⟩
  · exact (b1.fr H ok7 f2 (fun w => by unfold pB bg at w; omega) (fun w => by unfold pB bg at w; omega)).fr H ok7 f3 (fun w => by unfold bg at w; omega) (fun w => by unfold bg at w; omega)
  · exact b2.fr H ok8 f3 (fun w => by unfold bg at w; omega) (fun w => by unfold bg at w; omega)
  · rw [dI_s]; rfl
theorem keep_sp (H : CS G ad ro) {T B B0 : Int} {ds : List Int} (h7 : BigR ad D 7 T) (h8 : BigR ad D 8 B) (hc : D.1 (ad 4) 5 = nI ds.length) (hl : ds.length < 5) (hd : ∀ i, i < ds.length → (D.2 (ad 17) i).toInt = ds.getD i 0) {v : Int64} {post : Dat → Prop} (k : ∀ D', FrP ro D D' pF → FrV ad D' T B (ds ++ [v.toInt]) → post D') : X1_keepDivisor_wp G D (ad 4) v post := by
  refine ⟨H.a_, _, H.a4_, H.dv_, ?_⟩
  rw [dJ_1, hc]
  refine ⟨fun q => absurd q (by rw [show (5 : Int32) = nI 5 by decide]; exact nI_ge hl (by omega)), fun _ => ⟨by rw [H.dvl_]; exact vp_in_nI (by omega) (by omega), ?_⟩⟩
  rw [nI_1, nI_clamp (by omega)]
  have f1 : FrP ro D (dI (dJ D (ad 17) ds.length v) (ad 4) 5 (nI (ds.length + 1))) (fun q => q = 4 ∨ q = 17) := (FrP.dJ (Or.inr (H.inj_ 17 (by omega)))).tr (FrP.dI (Or.inl (H.inj_ 4 (by omega))))
  refine k _ (f1.up (fun q a => by unfold pF; omega)) ⟨?_, ?_, ?_, by simp; omega, fun i hi => ?_⟩
  · exact h7.fr H ok7 f1 (fun w => by unfold bg at w; omega) (fun w => by unfold bg at w; omega)
  · exact h8.fr H ok8 f1 (fun w => by unfold bg at w; omega) (fun w => by unfold bg at w; omega)
  · rw [dI_s]; simp
  · rw [dI_2]
    have hi2 : i < ds.length + 1 := by simpa using hi
    by_cases q : i = ds.length
    · rw [q, dJ_s]; simp
    · rw [dJ_o _ _ _ q, hd i (by omega)]
      rw [List.getD_eq_getElem?_getD, List.getD_eq_getElem?_getD, List.getElem?_append_left (by omega)]
theorem fadd_sp (H : CS G ad ro) {T B To Bo : Int} {ds : List Int} (h : FrV ad D T B ds) (hl : ds.length < 5) (ho : BigR ad D 0 To) (hb : BigR ad D 3 Bo) (bT : az T < 134217728 ^ 10) (bTo : -1000000000000000000000000000000000000000000000 ≤ To ∧ To ≤ 1000000000000000000000000000000000000000000000) (bB : 0 ≤ B ∧ B < 134217728 ^ 6) (bBo : 0 ≤ Bo ∧ Bo < 18014398509481984) {v : Int32} (hv : -2 ≤ v.toInt ∧ v.toInt ≤ 2) (hres : -(134217728 ^ 12 : Int) < T * Bo + v.toInt * To * B ∧ T * Bo + v.toInt * To * B < 134217728 ^ 12) {post : Dat → Prop} (k : ∀ D', FrP ro D D' pF → FrV ad D' (T * Bo + v.toInt * To * B) (B * Bo) (ds ++ [Bo]) → post D') : X1_add_wp G D (ad 4) (ad (bg 0)) (ad (bg 3)) v post := by
  have ok0 : okb 0 := by unfold okb; omega
  have nT : ∀ b, ¬ pT (bg b) ∧ ¬ pT (bg b + 1) := fun b => by unfold pT bg; omega
  have nB : ∀ b c, b ≠ c → ¬ pB c (bg b) ∧ ¬ pB c (bg b + 1) := fun b c h => by unfold pB bg; omega
  have uT : ∀ q, pT q → pF q := fun q a => by unfold pF; simp [a]
  have u7 : ∀ q, pB 7 q → pF q := fun q a => by unfold pF; simp [a]
  have u8 : ∀ q, pB 8 q → pF q := fun q a => by unfold pF; simp [a]
  have u9 : ∀ q, pB 9 q → pF q := fun q a => by unfold pF; simp [a]
  have v64 : v.toInt64.toInt = v.toInt := L_i2l v
  refine ⟨H.a_, (H.big_ 0 ok0).1, (H.big_ 3 ok3).1, _, H.a0_, H.tal_.1, _, H.a3_, (H.big_ 9 ok9).1, _, H.a1_, (H.big_ 7 ok7).1, _, H.a2_, (H.big_ 8 ok8).1, tclearR H (fun D1 f1 t1 => ?_)⟩
  refine addTimesR H ok0 t1 (by omega) (ho.fr H ok0 f1 (nT 0).1 (nT 0).2) (by rw [v64]; omega) (by rw [v64]; omega) (fun D2 f2 t2 => ?_)
  rw [v64, Int.zero_add] at t2
  have m1 := mul_abs_le (X := 2) (x := v.toInt) hv.1 hv.2 bTo.1 bTo.2
  have p1 : (2 * 1000000000000000000000000000000000000000000000 : Int) < 134217728 ^ 6 := by decide +kernel
  have p2 : (134217728 ^ 6 : Int) < 134217728 ^ 12 := by decide +kernel
  refine settleR H ok9 t2 (by omega) (by omega) (by omega) (fun D3 f3 b3 => ?_)
  have F2 := f1.tr f2
  have F3 : FrP ro D D3 (fun q => pT q ∨ pB 9 q) := (F2.up (fun q a => Or.inl a)).tr (f3.up (fun q a => Or.inr a))
  have g3 : ∀ {b z}, b ≠ 9 → okb b → BigR ad D b z → BigR ad D3 b z := fun {b z} hb9 ob hz => (hz.fr H ob F2 (nT b).1 (nT b).2).fr H ob f3 (nB b 9 hb9).1 (nB b 9 hb9).2
  refine tclearR H (fun D4 f4 t4 => ?_)
  have g4 : ∀ {b z}, b ≠ 9 → okb b → BigR ad D b z → BigR ad D4 b z := fun {b z} hb9 ob hz => (g3 hb9 ob hz).fr H ob f4 (nT b).1 (nT b).2
  have zB : az Bo < 134217728 ^ 2 := by unfold az; rw [if_neg (by omega)]; exact bBo.2
  refine addProductR H ok7 ok3 t4 (by omega) (g4 (by omega) ok7 h.1) (g4 (by omega) ok3 hb) bT zB (by omega) isB_0 (fun D5 f5 t5 => ?_)
  have z9 : az (v.toInt * To) < 134217728 ^ 6 := az_lt ⟨m1.1, m1.2⟩ p1
  have zBB : az B < 134217728 ^ 6 := by unfold az; rw [if_neg (by omega)]; exact bB.2
  refine addProductR H ok9 ok8 t5 (by omega) ((b3.fr H ok9 f4 (nT 9).1 (nT 9).2).fr H ok9 f5 (nT 9).1 (nT 9).2) ((g4 (by omega) ok8 h.2.1).fr H ok8 f5 (nT 8).1 (nT 8).2) z9 zBB (by omega) isB_0 (fun D6 f6 t6 => ?_)
  have e6 : 0 + sg 0 * (T * Bo) + sg 0 * (v.toInt * To * B) = T * Bo + v.toInt * To * B := by rw [sg_0]; omega
  rw [e6] at t6
  refine settleR H ok7 t6 (by omega) hres.1 hres.2 (fun D7 f7 b7 => ?_)
  have F6 : FrP ro D3 D6 pT := (f4.tr f5).tr f6
  refine tclearR H (fun D8 f8 t8 => ?_)
  have g8 : ∀ {b z}, b ≠ 9 → b ≠ 7 → okb b → BigR ad D b z → BigR ad D8 b z := fun {b z} hb9 hb7 ob hz => (((g3 hb9 ob hz).fr H ob F6 (nT b).1 (nT b).2).fr H ob f7 (nB b 7 hb7).1 (nB b 7 hb7).2).fr H ob f8 (nT b).1 (nT b).2
  refine addProductR H ok8 ok3 t8 (by omega) (g8 (by omega) (by omega) ok8 h.2.1) (g8 (by omega) (by omega) ok3 hb) zBB zB (by omega) isB_0 (fun D9 f9 t9 => ?_)
  have e9 : 0 + sg 0 * (B * Bo) = B * Bo := by rw [sg_0]; omega
  rw [e9] at t9
  have bb1 : 0 ≤ B * Bo := Int.mul_nonneg bB.1 bBo.1
  have bb2 : B * Bo ≤ 134217728 ^ 6 * 18014398509481984 := Int.mul_le_mul (by omega) (by omega) bBo.1 (by decide)
  have p3 : (134217728 ^ 6 * 18014398509481984 : Int) < 134217728 ^ 12 := by decide +kernel
  refine settleR H ok8 t9 (by omega) (by omega) (by omega) (fun D10 f10 b10 => ?_)
  have F9 := f8.tr f9
  have hb10 : BigR ad D10 3 Bo := ((g8 (by omega) (by omega) ok3 hb).fr H ok3 f9 (nT 3).1 (nT 3).2).fr H ok3 f10 (nB 3 8 (by omega)).1 (nB 3 8 (by omega)).2
  refine toLongR H ok3 hb10 bBo.1 bBo.2 (fun w hw => ?_)
  have F10 : FrP ro D D10 (fun q => pT q ∨ pB 7 q ∨ pB 8 q ∨ pB 9 q) := ((((F3.up (fun q a => a.elim Or.inl (fun a => Or.inr (Or.inr (Or.inr a))))).tr (F6.up (fun q a => Or.inl a))).tr (f7.up (fun q a => Or.inr (Or.inl a)))).tr (F9.up (fun q a => Or.inl a))).tr (f10.up (fun q a => Or.inr (Or.inr (Or.inl a))))
  have F10' : FrP ro D D10 pF := F10.up (fun q a => by unfold pF; exact Or.inr (Or.inr a))
  have b7' : BigR ad D10 7 (T * Bo + v.toInt * To * B) := ((b7.fr H ok7 F9 (nT 7).1 (nT 7).2).fr H ok7 f10 (nB 7 8 (by omega)).1 (nB 7 8 (by omega)).2)
  have hn : ∀ q, (q = 4 ∨ q = 17) → ¬ (pT q ∨ pB 7 q ∨ pB 8 q ∨ pB 9 q) := fun q a c => by unfold pT pB bg at c; omega
  refine keep_sp (B0 := 0) H b7' b10 (by rw [F10.i H (by omega) (hn 4 (Or.inl rfl))]; exact h.2.2.1) hl (fun i hi => by rw [F10.l H (by omega) (hn 17 (Or.inr rfl))]; exact h.2.2.2.2 i hi) (fun D11 f11 r11 => ?_)
  rw [hw] at r11
  exact k D11 (F10'.tr f11) r11
theorem divideBy_sp (H : CS G ad ro) {T B : Int} {ds : List Int} (h : FrV ad D T B ds) (hl : ds.length < 5) (bB : 0 ≤ B ∧ B < 134217728 ^ 8) {d : Nat} (hd : d ≤ 7) {post : Dat → Prop} (k : ∀ D', FrP ro D D' pF → FrV ad D' T (B * d) (ds ++ [(d : Int)]) → post D') : X1_divideBy_wp G D (ad 4) (nI d) post := by
  have nT : ∀ b, ¬ pT (bg b) ∧ ¬ pT (bg b + 1) := fun b => by unfold pT bg; omega
  have nB : ∀ b c, b ≠ c → ¬ pB c (bg b) ∧ ¬ pB c (bg b + 1) := fun b c h => by unfold pB bg; omega
  have v64 : (nI d).toInt64.toInt = (d : Int) := by rw [L_i2l, nI_toInt (by omega)]
  refine ⟨H.a_, _, H.a0_, H.tal_.1, _, H.a2_, (H.big_ 8 ok8).1, tclearR H (fun D1 f1 t1 => ?_)⟩
  refine addTimesR H ok8 t1 (by omega) (h.2.1.fr H ok8 f1 (nT 8).1 (nT 8).2) (by rw [v64]; omega) (by rw [v64]; omega) (fun D2 f2 t2 => ?_)
  have e : 0 + (d : Int) * B = B * d := by rw [Int.mul_comm]; omega
  rw [v64, e] at t2
  have bb1 : 0 ≤ B * d := Int.mul_nonneg bB.1 (by omega)
  have bb2 : B * d ≤ 134217728 ^ 8 * 7 := Int.mul_le_mul (by omega) (by omega) (by omega) (by decide)
  have p3 : (134217728 ^ 8 * 7 : Int) < 134217728 ^ 12 := by decide +kernel
  refine settleR H ok8 t2 (by omega) (by omega) (by omega) (fun D3 f3 b3 => ?_)
  have F3 : FrP ro D D3 (fun q => pT q ∨ pB 8 q) := ((f1.tr f2).up (fun q a => Or.inl a)).tr (f3.up (fun q a => Or.inr a))
  have hn : ∀ q, (q = 4 ∨ q = 17) → ¬ (pT q ∨ pB 8 q) := fun q a c => by unfold pT pB bg at c; omega
  refine keep_sp (B0 := 0) H (h.1.fr H ok7 F3 (fun w => w.elim (nT 7).1 (nB 7 8 (by omega)).1) (fun w => w.elim (nT 7).2 (nB 7 8 (by omega)).2)) b3 (by rw [F3.i H (by omega) (hn 4 (Or.inl rfl))]; exact h.2.2.1) hl (fun i hi => by rw [F3.l H (by omega) (hn 17 (Or.inr rfl))]; exact h.2.2.2.2 i hi) (fun D11 f11 r11 => ?_)
  rw [v64] at r11
  exact k D11 ((F3.up (fun q a => by unfold pF; rcases a with a | a <;> simp [a])).tr f11) r11
theorem gcd_sp {a b : Nat} (hab : b ≤ a) (ha : a < 18014398509481984) {v w : Int64} (hv : v.toInt = (a : Int)) (hw : w.toInt = (b : Int)) {post : Int64 → Dat → Prop} (k : ∀ r : Int64, r.toInt = (Nat.gcd a b : Int) → post r D) : X1_commonDivisor_wp G D v w post := by
  have key : ∀ (n : Nat) (x y : Nat) (g s : Int64), n ≤ 200 → y ≤ x → x < 18014398509481984 → x * y < 2 ^ n → g.toInt = (x : Int) → s.toInt = (y : Int) → Nat.gcd x y = Nat.gcd a b → X1_commonDivisor_l9 G post v w (n + 1) g s (nI (200 - n)) D := by
    intro n
    induction n with
    | zero =>
      intro x y g s hn hyx hx hxy hg hs he
      have hy : y = 0 := by
        by_cases q : y = 0
        · exact q
        · exfalso
          have : 1 * 1 ≤ x * y := Nat.mul_le_mul (by omega) (by omega)
          omega
      show X1_commonDivisor_l9_b G post v w _ _ _ _ _
      refine ⟨fun _ => k g ?_, fun q => absurd (by decide) q⟩
      rw [hg, ← he, hy, Nat.gcd_zero_right]
    | succ n ih =>
      intro x y g s hn hyx hx hxy hg hs he
      show X1_commonDivisor_l9_b G post v w _ _ _ _ _
      have e0 : (0 : Int64).toInt = 0 := rfl
      refine ⟨fun q => absurd q (by rw [show (200 : Int32) = nI 200 by decide]; exact nI_ge (by omega) (by omega)), fun _ => ⟨fun q => k g ?_, fun q => ⟨fun w => q ((L_le _ _).mpr (by rw [w]; exact Int.le_refl _)), ?_⟩⟩⟩
      · have : s.toInt ≤ (0 : Int64).toInt := (L_le _ _).mp q
        have hy : y = 0 := by omega
        rw [hg, ← he, hy, Nat.gcd_zero_right]
      · have hy : 0 < y := by
          have : ¬ s.toInt ≤ (0 : Int64).toInt := fun w => q ((L_le _ _).mpr w)
          omega
        have hr := L_rem (x := g) (y := s) (by omega) (by omega)
        rw [hg, hs] at hr
        have hm : x % y < y := Nat.mod_lt _ hy
        have h2 : 2 * (x % y) ≤ x := by
          have h3 := Nat.div_add_mod x y
          have h4 : 1 ≤ x / y := (Nat.le_div_iff_mul_le hy).mpr (by omega)
          have h5 : y * 1 ≤ y * (x / y) := Nat.mul_le_mul_left _ h4
          omega
        have h6 : y * (x % y) < 2 ^ n := by
          have h7 : y * (2 * (x % y)) ≤ y * x := Nat.mul_le_mul_left _ h2
          have h8 : y * (2 * (x % y)) = 2 * (y * (x % y)) := by grind
          rw [Nat.mul_comm x y, Nat.pow_succ] at hxy
          omega
        rw [nI_1, show 200 - (n + 1) + 1 = 200 - n by omega]
        refine ih y (x % y) s _ (by omega) (by omega) (by omega) h6 hs (by rw [hr]; omega) ?_
        rw [← he, Nat.gcd_comm x y, Nat.gcd_rec y x, Nat.gcd_comm]
  refine ⟨_, key 200 a b v w (Nat.le_refl _) hab ha ?_ hv hw rfl⟩
  have h1 : a * b ≤ 18014398509481984 * 18014398509481984 := Nat.mul_le_mul (by omega) (by omega)
  have h2 : 18014398509481984 * 18014398509481984 < 2 ^ 200 := by decide +kernel
  omega
theorem lpd_drop {ds : List Int} {i : Nat} (h : i < ds.length) : lpd (ds.drop i) = ds.getD i 0 * lpd (ds.drop (i + 1)) := by
  rw [List.drop_eq_getElem_cons h]
  show ds[i] * lpd (ds.drop (i + 1)) = _
  rw [List.getD_eq_getElem?_getD, List.getElem?_eq_getElem h]
  rfl
theorem reduce_sp (H : CS G ad ro) {T B : Int} {ds : List Int} (h : FrV ad D T B ds) (hB : B = lpd ds) (hd : ∀ i, i < ds.length → 1 ≤ ds.getD i 0 ∧ ds.getD i 0 < 18014398509481984) {post : Dat → Prop} (k : ∀ D' T' B' c, FrP ro D D' pF → BigR ad D' 7 T' → BigR ad D' 8 B' → 1 ≤ c → T = T' * c → B = B' * c → Nat.gcd T'.natAbs B'.natAbs = 1 → post D') : X1_reduce_wp G D (ad 4) post := by
  have nB : ∀ b c, b ≠ c → ¬ pB c (bg b) ∧ ¬ pB c (bg b + 1) := fun b c h => by unfold pB bg; omega
  refine ⟨H.a_, _, H.a3_, (H.big_ 9 ok9).1, _, H.a1_, (H.big_ 7 ok7).1, _, H.a4_, H.dv_, _, H.a2_, (H.big_ 8 ok8).1, ?_⟩
  have hl := h.2.2.2.1
  have key := up_loop (L := fun n i (E : Dat) => X1_reduce_l2 G post (ad 4) (ad (bg 9)) (ad (bg 7)) (ad 17) (ad (bg 8)) n (nI i) E) ds.length (fun i E => FrP ro D E (fun q => pB 7 q ∨ pB 8 q ∨ pB 9 q) ∧ ∃ (T' B' c P : Int), BigR ad E 7 T' ∧ BigR ad E 8 B' ∧ 1 ≤ c ∧ T = T' * c ∧ B = B' * c ∧ B' = P * lpd (ds.drop i) ∧ Nat.Coprime T'.natAbs P.natAbs) ?_ ?_ 0 D (by omega) ⟨FrP.rf, T, B, 1, 1, h.1, h.2.1, by omega, by omega, by omega, by rw [hB, List.drop_zero]; omega, Nat.gcd_one_right _⟩
  · exact ⟨_, key⟩
  · intro n E hE
    obtain ⟨fE, T', B', c, P, h7, h8, hc, eT, eB, eP, hco⟩ := hE
    have g5 : E.1 (ad 4) 5 = nI ds.length := by rw [fE.i H (by omega) (fun w => by unfold pB bg at w; omega)]; exact h.2.2.1
    show X1_reduce_l2_b G post (ad 4) (ad (bg 9)) (ad (bg 7)) (ad 17) (ad (bg 8)) _ _ _
    refine ⟨fun _ => ?_, fun q => absurd (by rw [g5]; exact nI_le (Nat.le_refl _) (by omega)) q⟩
    rw [List.drop_length] at eP
    have eP' : B' = P := by rw [eP]; show P * 1 = P; omega
    exact k E T' B' c (fE.up (fun q a => by unfold pF; exact Or.inr (Or.inr (Or.inr a)))) h7 h8 hc eT eB (by rw [eP']; exact hco)
  · intro n i E hi hE hk
    obtain ⟨fE, T', B', c, P, h7, h8, hc, eT, eB, eP, hco⟩ := hE
    have g5 : E.1 (ad 4) 5 = nI ds.length := by rw [fE.i H (by omega) (fun w => by unfold pB bg at w; omega)]; exact h.2.2.1
    show X1_reduce_l2_b G post (ad 4) (ad (bg 9)) (ad (bg 7)) (ad 17) (ad (bg 8)) _ _ _
    refine ⟨fun q => absurd q (by rw [g5]; exact nI_ge hi (by omega)), fun _ => ⟨fun q => absurd q (by rw [show (5 : Int32) = nI 5 by decide]; exact nI_ge (by omega) (by omega)), fun _ => ?_⟩⟩
    refine copyR H ok9 ok7 (by omega) h7 (fun D1 f1 b1 => ⟨by rw [H.dvl_]; exact vp_in_nI (by omega) (by omega), by rw [H.dvl_]; exact vp_in_nI (by omega) (by omega), ?_⟩)
    rw [nI_clamp (by omega)]
    have ed : (D1.2 (ad 17) i).toInt = ds.getD i 0 := by
      rw [f1.l H (by omega) (fun w => by unfold pB bg at w; omega), fE.l H (by omega) (fun w => by unfold pB bg at w; omega)]
      exact h.2.2.2.2 i hi
    obtain ⟨d1, d2⟩ := hd i hi
    generalize hdd : ds.getD i 0 = d at *
    obtain ⟨m, rfl⟩ := Int.eq_ofNat_of_zero_le (by omega : 0 ≤ d)
    refine divideR H ok9 b1 (by rw [ed]; exact d1) (by rw [ed]; exact d2) (fun D2 rr f2 b2 hr => ?_)
    rw [ed] at hr
    have hn : az T' = (T'.natAbs : Int) := by unfold az; split <;> omega
    have hr2 : rr.toInt = ((T'.natAbs % m : Nat) : Int) := by rw [hr, hn]; omega
    have hml : T'.natAbs % m < m := Nat.mod_lt _ (by omega)
    refine gcd_sp (a := m) (b := T'.natAbs % m) (by omega) (by omega) ed hr2 (fun g hg => ?_)
    have hgg : Nat.gcd m (T'.natAbs % m) = Nat.gcd m T'.natAbs := by
      rw [Nat.gcd_comm, ← Nat.gcd_rec]
    rw [hgg] at hg
    have hgm : Nat.gcd m T'.natAbs ∣ m := Nat.gcd_dvd_left _ _
    have hgT : Nat.gcd m T'.natAbs ∣ T'.natAbs := Nat.gcd_dvd_right _ _
    have hg1 : 0 < Nat.gcd m T'.natAbs := Nat.gcd_pos_of_pos_left _ (by omega)
    have hg2 : Nat.gcd m T'.natAbs ≤ m := Nat.le_of_dvd (by omega) hgm
    generalize hG : Nat.gcd m T'.natAbs = gn at *
    have F2 : FrP ro E D2 (pB 9) := f1.tr f2
    refine divideR H ok7 ((h7.fr H ok7 F2 (nB 7 9 (by omega)).1 (nB 7 9 (by omega)).2)) (by rw [hg]; omega) (by rw [hg]; omega) (fun D3 _ f3 b3 _ => ?_)
    refine divideR H ok8 ((h8.fr H ok8 F2 (nB 8 9 (by omega)).1 (nB 8 9 (by omega)).2).fr H ok8 f3 (nB 8 7 (by omega)).1 (nB 8 7 (by omega)).2) (by rw [hg]; omega) (by rw [hg]; omega) (fun D4 _ f4 b4 _ => ?_)
    rw [hg] at b3 b4
    rw [nI_1]
    have hgT2 : (gn : Int) ∣ T' := Int.ofNat_dvd_left.mpr hgT
    obtain ⟨t, ht⟩ := hgT2
    obtain ⟨m', hm'⟩ := hgm
    have eT2 : T'.tdiv gn = t := by rw [ht, Int.mul_tdiv_cancel_left _ (by omega)]
    have eB2 : B' = (gn : Int) * (P * m' * lpd (ds.drop (i + 1))) := by
      rw [eP, lpd_drop hi, hdd]
      have : ((m : Nat) : Int) = (gn : Int) * (m' : Int) := by rw [hm']; exact Int.natCast_mul _ _
      rw [this]; grind
    have eB3 : B'.tdiv gn = P * m' * lpd (ds.drop (i + 1)) := by rw [eB2, Int.mul_tdiv_cancel_left _ (by omega)]
    refine hk D4 ⟨fE.tr (((F2.up (fun q a => Or.inr (Or.inr a))).tr (f3.up (fun q a => Or.inl a))).tr (f4.up (fun q a => Or.inr (Or.inl a)))), T'.tdiv gn, B'.tdiv gn, c * gn, P * m', ?_, b4, ?_, ?_, ?_, eB3, ?_⟩
    · exact b3.fr H ok7 f4 (nB 7 8 (by omega)).1 (nB 7 8 (by omega)).2
    · have : 1 * 1 ≤ c * (gn : Int) := Int.mul_le_mul hc (by omega) (by omega) (by omega)
      omega
    · rw [eT2, eT, ht]; grind
    · rw [eB3, eB, eB2]; grind
    · rw [eT2, Int.natAbs_mul]
      have ea : T'.natAbs = gn * t.natAbs := by rw [ht, Int.natAbs_mul]; rfl
      have c1 : Nat.Coprime t.natAbs P.natAbs := Nat.Coprime.coprime_dvd_left ⟨gn, by rw [ea]; grind⟩ hco
      have c2 : Nat.Coprime t.natAbs m' := by
        have h9 : Nat.gcd (gn * m') (gn * t.natAbs) = gn := by rw [← hm', ← ea]; exact hG
        rw [Nat.gcd_mul_left] at h9
        have h10 : Nat.gcd m' t.natAbs = 1 := Nat.eq_of_mul_eq_mul_left hg1 (by rw [h9]; omega)
        show Nat.gcd _ _ = 1
        rw [Nat.gcd_comm]; exact h10
      exact Nat.Coprime.mul_right c1 c2
end FC
