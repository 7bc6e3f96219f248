/-! the reference's state; a fraction is told -/
theorem fr_mul {q : Rat} {T B : Int} (hB : 1 ≤ B) (h : q = (T : Rat) / (B : Rat)) : q.num * B = T * q.den := by
  have hb := cast_pos hB
  have e : q = (q.num : Rat) / ((q.den : Int) : Rat) := by
    rw [← Rat.divInt_eq_div]
    exact (Rat.num_divInt_den q).symm
  have hd : (1 : Int) ≤ (q.den : Int) := by have := q.den_pos; omega
  have hd2 := cast_pos hd
  have e2 : ((q.num : Int) : Rat) * (B : Rat) = (T : Rat) * ((q.den : Int) : Rat) := by
    have e := h.symm.trans e
    generalize ((q.num : Int) : Rat) = a at *
    generalize ((q.den : Int) : Rat) = b at *
    generalize ((T : Int) : Rat) = c at *
    generalize ((B : Int) : Rat) = d at *
    grind
  rw [← cast_mul, ← cast_mul] at e2
  exact cast_eq.mp e2
/-- a fraction in its lowest terms is no greater than any of its forms -/
theorem fr_small {q : Rat} {T B : Int} (hB : 1 ≤ B) (h : q = (T : Rat) / (B : Rat)) : q.num.natAbs ≤ T.natAbs ∧ (q.den : Int) ≤ B := by
  have hm := fr_mul hB h
  obtain ⟨b, rfl⟩ := Int.eq_ofNat_of_zero_le (show 0 ≤ B by omega)
  have hm2 : q.num.natAbs * b = T.natAbs * q.den := by
    have := congrArg Int.natAbs hm
    rw [Int.natAbs_mul, Int.natAbs_mul] at this
    exact this
  have hco : Nat.Coprime q.den q.num.natAbs := q.reduced.symm
  have hdv : q.den ∣ b := hco.dvd_of_dvd_mul_left ⟨T.natAbs, by rw [hm2, Nat.mul_comm]⟩
  obtain ⟨c, hc⟩ := hdv
  have hdp := q.den_pos
  have hcp : 1 ≤ c := by
    by_cases w : c = 0
    · rw [w, Nat.mul_zero] at hc; omega
    · omega
  constructor
  · have e : q.num.natAbs * c = T.natAbs := by
      rw [hc, ← Nat.mul_assoc, Nat.mul_comm q.num.natAbs, Nat.mul_assoc, Nat.mul_comm T.natAbs] at hm2
      exact Nat.eq_of_mul_eq_mul_left hdp hm2
    have : q.num.natAbs * 1 ≤ q.num.natAbs * c := Nat.mul_le_mul_left _ hcp
    omega
  · have : q.den * 1 ≤ q.den * c := Nat.mul_le_mul_left _ hcp
    omega
def smQ (q : Rat) : Prop := q.num.natAbs < 10 ^ 100 ∧ q.den < 10 ^ 100
theorem smQ_of {q : Rat} {T B : Int} (hB : 1 ≤ B) (h : q = (T : Rat) / (B : Rat)) (hT : T.natAbs < 10 ^ 100) (hB2 : B < ((10 ^ 100 : Nat) : Int)) : smQ q := by
  have := fr_small hB h
  exact ⟨by omega, by omega⟩
def RrV (ad : Nat → Nat) (D : Dat) (r : Nat) (A : AR) : Prop := (∀ t, t < 40 → (D.1 (ad 510) (40 * r + t)).toInt = aN A t ∧ D.1 (ad 515) (40 * r + t) = bI (aF A t) ∧ D.1 (ad 516) (40 * r + t) = bI (aX A t)) ∧ D.1 (ad 511) r = nI (aP A) ∧ D.1 (ad 512) r = nI (ct (aS A) 40) ∧ (∀ k, k < ct (aS A) 40 → D.1 (ad 513) (3 * r + k) = nI ((stl A 40).getD k 0)) ∧ D.1 (ad 514) r = nI (aC A) ∧ D.1 (ad 517) r = bI (aL A) ∧ ∀ f, f < aC A → ∀ t, t < 40 → D.1 (ad 518) (40 * (2 * r + f) + t) = bI (aE A f t)
/-- the roles that hold rows -/
def pRr (q : Nat) : Prop := 510 ≤ q ∧ q ≤ 518
def OutR (ro : Nat → Nat) (Z D : Dat) : Prop := ∀ a, (ro a < 500 ∨ 530 ≤ ro a) → D.1 a = Z.1 a ∧ D.2 a = Z.2 a
def OKS (S : AS) : Prop := ∀ r, r < 4 → RowOK (S.1 r)
def RfV (ad ro : Nat → Nat) (Z D : Dat) (S : AS) : Prop := (∀ r, r < 4 → RrV ad D r (S.1 r)) ∧ OupV ad D S.2.1 ∧ D.1 (ad 500) 0 = S.2.2 ∧ OutR ro Z D
section RS
variable {G : Shp} {ad ro : Nat → Nat} {D D' : Dat} {S : AS} {Z : Dat} {r : Nat} {A : AR} {P : Nat → Prop}
theorem OutR.fr (h : OutR ro Z D) (f : FrP ro D D' P) (hP : ∀ q, P q → 500 ≤ q ∧ q < 530) : OutR ro Z D' := fun a ha => by
  have := f a (fun w => by have := hP _ w; omega)
  rw [this.1, this.2]
  exact h a ha
theorem RrV.kept (h : RrV ad D r A) (e : ∀ q, pRr q → D'.1 (ad q) = D.1 (ad q)) : RrV ad D' r A := by
  unfold RrV
  rw [e 510 (by unfold pRr; omega), e 511 (by unfold pRr; omega), e 512 (by unfold pRr; omega), e 513 (by unfold pRr; omega), e 514 (by unfold pRr; omega), e 515 (by unfold pRr; omega), e 516 (by unfold pRr; omega), e 517 (by unfold pRr; omega), e 518 (by unfold pRr; omega)]
  exact h
theorem RrV.fr (H : RG G ad ro) (h : RrV ad D r A) (f : FrP ro D D' P) (hP : ∀ q, pRr q → ¬ P q) : RrV ad D' r A := h.kept (fun q hq => f.mi H (by unfold pRr at hq; omega) (hP q hq))
theorem RrV.wk (H : RG G ad ro) (h : RrV ad D r A) (f : WkF ad ro D D') : RrV ad D' r A := h.fr H f.1 (fun q hq => by unfold pRr at hq; unfold pW; omega)
theorem RfV.wk (H : RG G ad ro) (h : RfV ad ro Z D S) (f : WkF ad ro D D') : RfV ad ro Z D' S := ⟨fun r hr => (h.1 r hr).wk H f, h.2.1.wk H f, by rw [f.2.1]; exact h.2.2.1, h.2.2.2.fr f.1 (fun q hq => by unfold pW at hq; omega)⟩
theorem RfV.st (H : RG G ad ro) (h : RfV ad ro Z D S) (w : Int32) : RfV ad ro Z (dI D (ad 500) 0 w) (stS S w) := by
  have f : FrP ro D (dI D (ad 500) 0 w) (fun q => q = 500) := FrP.dI (H.inj_ 500 (by omega) (by omega))
  have n80 : ad 508 ≠ ad 500 := H.ne (by omega) (by omega) (by omega)
  exact ⟨fun r hr => (h.1 r hr).fr H f (fun q hq => by unfold pRr at hq; omega), ⟨by rw [dI_o _ _ _ (by decide)]; exact h.2.1.1, h.2.1.2.1, fun k hk => by rw [dI_n _ _ _ n80]; exact h.2.1.2.2 k hk⟩, dI_s _ _ _ _, h.2.2.2.fr f (fun q hq => by omega)⟩
/-- a row is changed -/
theorem RfV.row (H : RG G ad ro) (h : RfV ad ro Z D S) {r : Nat} {A : AR} (f : FrP ro D D' pRr) (hA : RrV ad D' r A) (ho : ∀ i, i < 4 → i ≠ r → RrV ad D' i (S.1 i)) : RfV ad ro Z D' (stR S r A) := by
  have e0 : D'.1 (ad 500) = D.1 (ad 500) := f.mi H (by omega) (by unfold pRr; omega)
  have e8 : D'.1 (ad 508) = D.1 (ad 508) := f.mi H (by omega) (by unfold pRr; omega)
  refine ⟨fun i hi => ?_, ⟨by rw [e0]; exact h.2.1.1, h.2.1.2.1, fun k hk => by rw [e8]; exact h.2.1.2.2 k hk⟩, by rw [e0]; exact h.2.2.1, h.2.2.2.fr f (fun q hq => by unfold pRr at hq; omega)⟩
  show RrV ad D' i (if i = r then A else S.1 i)
  by_cases q : i = r
  · rw [if_pos q, q]; exact hA
  · rw [if_neg q]; exact ho i hi q
variable {T a b n m : Nat} {x y : Int}
/-- a fraction is told -/
theorem tells_sp (H : RG G ad ro) (hR : RfV ad ro Z D S) (h : TopV ad D T) (ha : Nm ad D T a x n) (hb : Nm ad D T b y m) (hT : T + 3 * (mxN n m + 3) + 10 ≤ 690000) (hM : mxN n m < 590) (hy : 1 ≤ y) {q : Rat} (hq : q = (x : Rat) / (y : Rat)) (hs : smQ q) {post : Int32 → Dat → Prop} (k : ∀ D', RfV ad ro Z D' (stO S (outR q)) → post (nI (outR q).length) D') : X9_tells_wp G D (ad 500) (nI a) (nI b) post := by
  have hmx1 : n ≤ mxN n m := by unfold mxN; split <;> omega
  have hmx2 : m ≤ mxN n m := by unfold mxN; split <;> omega
  have ha1 := ha.1
  have hb1 := hb.1
  refine ⟨H.x_, common_sp H h ha hb (by omega) hM (fun D1 n1 hn1 f1 t1 w1 => ?_)⟩
  generalize hg : Nat.gcd x.natAbs y.natAbs = g at *
  have hgp : 0 < g := by
    rw [← hg]
    exact Nat.gcd_pos_of_pos_right _ (by omega)
  obtain ⟨z, hz⟩ : (g : Int) ∣ x := by rw [← hg]; exact Int.ofNat_dvd_left.mpr (Nat.gcd_dvd_left _ _)
  obtain ⟨d, hd⟩ : (g : Int) ∣ y := by rw [← hg]; exact Int.ofNat_dvd_left.mpr (Nat.gcd_dvd_right _ _)
  have hd1 : 1 ≤ d := by
    by_cases w : 1 ≤ d
    · exact w
    · have := Int.mul_nonpos_of_nonneg_of_nonpos (show 0 ≤ (g : Int) by omega) (show d ≤ 0 by omega)
      omega
  obtain ⟨d, rfl⟩ := Int.eq_ofNat_of_zero_le (show 0 ≤ d by omega)
  have hco : Nat.gcd z.natAbs d = 1 := by
    have e1 : x.natAbs = g * z.natAbs := by rw [hz, Int.natAbs_mul]; rfl
    have e2 : y.natAbs = g * d := by rw [hd, Int.natAbs_mul]; rfl
    rw [e1, e2, Nat.gcd_mul_left] at hg
    have : g * Nat.gcd z.natAbs d = g * 1 := by omega
    exact Nat.eq_of_mul_eq_mul_left hgp this
  have eq : q = (z : Rat) / ((d : Int) : Rat) := by
    have h1 := cast_pos (d := (g : Int)) (by omega)
    have h2 := cast_pos hd1
    rw [hq, hz, hd, cast_mul, cast_mul]
    generalize ((z : Int) : Rat) = a at *
    generalize (((g : Nat) : Int) : Rat) = b at *
    generalize (((d : Nat) : Int) : Rat) = c at *
    grind
  have hout : outR q = frB z d := by rw [eq]; exact outR_red (by omega) hco
  have eq2 : q = ⟨z, d, by omega, hco⟩ := by rw [eq, Rat.mk_eq_divInt, Rat.divInt_eq_div]
  have hs2 : z.natAbs < 10 ^ 100 ∧ d < 10 ^ 100 := by
    rw [eq2] at hs
    exact hs
  have hg0 : (g : Int) ≠ 0 := by omega
  have a1 := ha.fr f1 (show T ≤ T + n1 + 1 by omega)
  have b1 := hb.fr f1 (show T ≤ T + n1 + 1 by omega)
  refine divided_sp H t1 a1 w1 (by omega) (by omega) hg0 hz (fun D2 n2 hn2 f2 t2 w2 => ?_)
  have b2 := b1.fr f2 (show T + n1 + 1 ≤ T + n1 + 1 + n2 + 1 by omega)
  have g2 := w1.fr f2 (show T + n1 + 1 ≤ T + n1 + 1 + n2 + 1 by omega)
  refine divided_sp H t2 b2 g2 (by omega) (by omega) hg0 hd (fun D3 n3 hn3 f3 t3 w3 => ?_)
  have z3 := w2.fr f3 (show T + n1 + 1 + n2 + 1 ≤ T + n1 + 1 + n2 + 1 + n3 + 1 by omega)
  have fw : WkF ad ro D D3 := (f1.wk.tr f2.wk).tr f3.wk
  have n10 : ad 501 ≠ ad 500 := H.ne (by omega) (by omega) (by omega)
  have n80 : ad 508 ≠ ad 500 := H.ne (by omega) (by omega) (by omega)
  have R3 := hR.wk H fw
  have f4 : ToF ad ro D3 (dI D3 (ad 500) 9 0) := toF_9 H
  have o4 : OupV ad (dI D3 (ad 500) 9 0) [] := ⟨dI_s _ _ _ _, by show 0 ≤ 1000; omega, fun k hk => absurd hk (Nat.not_lt_zero k)⟩
  generalize dI D3 (ad 500) 9 0 = D4 at *
  refine sign_sp H (f4.nm w3) t3.2 ⟨fun _ => ?_, fun w => absurd (sgI_ge.mpr (by omega)) w⟩
  refine ⟨H.x_, tellsNumber_sp H (f4.nm z3) t3.2 (by omega) o4 (by show 0 + 101 ≤ 1000; omega) hs2.1 (fun D5 f5 o5 => ?_)⟩
  rw [List.nil_append] at o5
  have l5 := dgf_len 100 z.natAbs
  have ll : ((if z < 0 then [45] else []) ++ (dgf 100 z.natAbs).reverse).length ≤ 101 := by
    rw [List.length_append, List.length_reverse]
    split
    · show 1 + _ ≤ 101; omega
    · show 0 + _ ≤ 101; omega
  refine tells0_sp (c := 47) H o5 (by omega) (by decide) (fun D6 f6 _ _ o6 => ?_)
  have f46 := (f4.tr f5).tr f6
  refine sign_sp H (f46.nm w3) t3.2 ⟨fun _ => ?_, fun w => absurd (sgI_ge.mpr (by omega)) w⟩
  refine ⟨H.x_, tellsNumber_sp H (f46.nm w3) t3.2 (by omega) o6 (by rw [List.length_append]; show _ + 1 + 101 ≤ 1000; omega) (by exact hs2.2) (fun D7 f7 o7 => ?_)⟩
  have f37 := f46.tr f7
  rw [if_neg (show ¬ (d : Int) < 0 by omega), List.nil_append] at o7
  have ef : ((if z < 0 then [45] else []) ++ (dgf 100 z.natAbs).reverse ++ [47] ++ (dgf 100 (d : Int).natAbs).reverse) = outR q := by
    rw [hout]
    unfold frB
    rw [List.append_assoc, List.append_assoc]
    rfl
  rw [ef] at o7
  rw [dI_o _ _ _ (by decide), o7.1]
  have f8 : FrP ro D7 (dI D7 (ad 500) 0 0) (fun q => q = 500) := FrP.dI (H.inj_ 500 (by omega) (by omega))
  refine k _ ⟨fun r hr => ((R3.1 r hr).fr H f37.1 (fun q hq => by unfold pRr at hq; unfold pG; omega)).fr H f8 (fun q hq => by unfold pRr at hq; omega), ⟨by rw [dI_o _ _ _ (by decide)]; exact o7.1, o7.2.1, fun k hk => by rw [dI_n _ _ _ n80]; exact o7.2.2 k hk⟩, dI_s _ _ _ _, (R3.2.2.2.fr f37.1 (fun q hq => by unfold pG at hq; omega)).fr f8 (fun q hq => by omega)⟩
end RS
