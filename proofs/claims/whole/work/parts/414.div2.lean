/-! the reference: long division -/
theorem shk : ∀ s, s < 31 → ((nI s &&& 31).toBitVec.smod 32).toNat = s := by decide +kernel
theorem shk2 : ∀ s, s < 30 → ((30 - nI s &&& 31).toBitVec.smod 32).toNat = 30 - s := by decide +kernel
theorem nI_subN {n m : Nat} (h : m ≤ n) (hn : n < 2 ^ 31) : nI n - nI m = nI (n - m) := by
  apply Int32.toInt_inj.mp
  have e1 : (nI n).toInt = (n : Int) := nI_toInt hn
  have e2 : (nI m).toInt = (m : Int) := nI_toInt (by omega)
  rw [I_sub (by rw [e1, e2]; omega) (by rw [e1, e2]; omega), e1, e2, nI_toInt (by omega)]
  omega
theorem pow_B {s : Nat} (h : s ≤ 30) : (2 ^ s : Int) * 2 ^ (30 - s) = 1073741824 := by
  rw [← Int.pow_add, show s + (30 - s) = 30 by omega]
  rfl
theorem pow_p (s : Nat) : (0 : Int) < 2 ^ s := Int.pow_pos (by decide)
/-- a shift to the left, masked -/
theorem shl_m {x : Int32} {s : Nat} (hs : s ≤ 30) : ((x <<< (nI s &&& 31)) &&& 1073741823).toInt = 2 ^ s * (x.toInt % 2 ^ (30 - s)) := by
  rw [m30i, I_shl x _ s (shk s (by omega))]
  have e : (x.toInt * (2 ^ s : Int)).bmod (2 ^ 32) % 1073741824 = x.toInt * 2 ^ s % 1073741824 := by
    have h := Int.bmod_emod (x := x.toInt * (2 ^ s : Int)) (m := 2 ^ 32)
    have h2 : ∀ z : Int, z % ((2 ^ 32 : Nat) : Int) % 1073741824 = z % 1073741824 := fun z => Int.emod_emod_of_dvd z ⟨4, by decide⟩
    rw [← h2, h, h2]
  rw [e, Int.mul_comm, ← pow_B hs, Int.mul_emod_mul_of_pos _ _ (pow_p s)]
theorem shl_m2 {x : Int32} {s : Nat} (hs : s < 30) : ((x <<< (30 - nI s &&& 31)) &&& 1073741823).toInt = 2 ^ (30 - s) * (x.toInt % 2 ^ s) := by
  rw [m30i, I_shl x _ (30 - s) (shk2 s hs)]
  have e : (x.toInt * (2 ^ (30 - s) : Int)).bmod (2 ^ 32) % 1073741824 = x.toInt * 2 ^ (30 - s) % 1073741824 := by
    have h := Int.bmod_emod (x := x.toInt * (2 ^ (30 - s) : Int)) (m := 2 ^ 32)
    have h2 : ∀ z : Int, z % ((2 ^ 32 : Nat) : Int) % 1073741824 = z % 1073741824 := fun z => Int.emod_emod_of_dvd z ⟨4, by decide⟩
    rw [← h2, h, h2]
  rw [e, Int.mul_comm, ← pow_B (show s ≤ 30 by omega), Int.mul_comm (2 ^ s) (2 ^ (30 - s)), Int.mul_emod_mul_of_pos _ _ (pow_p _)]
theorem shr_s {x : Int32} {s : Nat} (hs : s ≤ 30) : (x >>> (nI s &&& 31)).toInt = x.toInt / 2 ^ s := I_shr x _ s (shk s (by omega))
theorem shr_s2 {x : Int32} {s : Nat} (hs : s < 30) : (x >>> (30 - nI s &&& 31)).toInt = x.toInt / 2 ^ (30 - s) := I_shr x _ (30 - s) (shk2 s hs)
/-- digits shifted up by s bits -/
def tpD (f : Nat → Int) (s n : Nat) : Int := if n = 0 then 0 else f (n - 1) / 2 ^ (30 - s)
def upD (f : Nat → Int) (s k : Nat) : Int := 2 ^ s * (f k % 2 ^ (30 - s)) + tpD f s k
theorem tpD_b {f : Nat → Int} {s n : Nat} (hs : s ≤ 30) (h : dg30 f n) {k : Nat} (hk : k ≤ n) : 0 ≤ tpD f s k ∧ tpD f s k < 2 ^ s := by
  unfold tpD
  by_cases q : k = 0
  · rw [if_pos q]; have := pow_p s; omega
  · rw [if_neg q]
    have := h (k - 1) (by omega)
    refine ⟨Int.ediv_nonneg this.1 (Int.le_of_lt (pow_p _)), Int.ediv_lt_of_lt_mul (pow_p _) ?_⟩
    rw [pow_B hs]
    exact this.2
theorem upD_b {f : Nat → Int} {s n : Nat} (hs : s ≤ 30) (h : dg30 f n) {k : Nat} (hk : k < n) : 0 ≤ upD f s k ∧ upD f s k < 1073741824 := by
  have h1 := tpD_b hs h (k := k) (by omega)
  have h2 := Int.emod_nonneg (f k) (show (2 ^ (30 - s) : Int) ≠ 0 by have := pow_p (30 - s); omega)
  have h3 := Int.emod_lt_of_pos (f k) (pow_p (30 - s))
  have h4 : 2 ^ s * (f k % 2 ^ (30 - s)) ≤ 2 ^ s * (2 ^ (30 - s) - 1) := Int.mul_le_mul_of_nonneg_left (by omega) (Int.le_of_lt (pow_p s))
  have h5 : (0 : Int) ≤ 2 ^ s * (f k % 2 ^ (30 - s)) := Int.mul_nonneg (Int.le_of_lt (pow_p s)) h2
  have h6 := pow_B hs
  rw [Int.mul_sub, h6, Int.mul_one] at h4
  unfold upD
  omega
theorem upD_pv {f : Nat → Int} {s : Nat} (hs : s ≤ 30) : ∀ n, pv 1073741824 (upD f s) n + tpD f s n * 1073741824 ^ n = 2 ^ s * pv 1073741824 f n
  | 0 => by
    show (0 : Int) + (if 0 = 0 then 0 else _) * _ = _ * 0
    rw [if_pos rfl]; omega
  | n + 1 => by
    have ih := upD_pv (f := f) hs n
    have e1 : tpD f s (n + 1) = f n / 2 ^ (30 - s) := if_neg (by omega)
    have h6 := pow_B hs
    have q3 := Int.mul_ediv_add_emod (f n) (2 ^ (30 - s))
    show (pv 1073741824 (upD f s) n + (2 ^ s * (f n % 2 ^ (30 - s)) + tpD f s n) * 1073741824 ^ n) + _ = 2 ^ s * (pv 1073741824 f n + f n * 1073741824 ^ n)
    rw [e1, Int.pow_succ]
    generalize (1073741824 : Int) ^ n = P at *
    generalize (2 ^ s : Int) = σ at *
    generalize (2 ^ (30 - s) : Int) = τ at *
    generalize f n / τ = u at *
    generalize f n % τ = r at *
    rw [← q3, ← h6]
    rw [← h6] at ih
    grind
/-- digits shifted down by s bits -/
def dnD (l : Nat → Int) (s m k : Nat) : Int := l k / 2 ^ s + 2 ^ (30 - s) * ((if k + 1 < m then l (k + 1) else 0) % 2 ^ s)
theorem dnD_b {l : Nat → Int} {s m : Nat} (hs : s ≤ 30) (h : dg30 l m) {k : Nat} (hk : k < m) : 0 ≤ dnD l s m k ∧ dnD l s m k < 1073741824 := by
  have hl := h k hk
  have h1 : 0 ≤ l k / 2 ^ s := Int.ediv_nonneg hl.1 (Int.le_of_lt (pow_p s))
  have h2 : l k / 2 ^ s < 2 ^ (30 - s) := Int.ediv_lt_of_lt_mul (pow_p s) (by rw [Int.mul_comm, pow_B hs]; exact hl.2)
  unfold dnD
  generalize (if k + 1 < m then l (k + 1) else 0) = v
  have h3 := Int.emod_nonneg v (show (2 ^ s : Int) ≠ 0 by have := pow_p s; omega)
  have h4 := Int.emod_lt_of_pos v (pow_p s)
  have h5 : 2 ^ (30 - s) * (v % 2 ^ s) ≤ 2 ^ (30 - s) * (2 ^ s - 1) := Int.mul_le_mul_of_nonneg_left (by omega) (Int.le_of_lt (pow_p _))
  have h6 : (0 : Int) ≤ 2 ^ (30 - s) * (v % 2 ^ s) := Int.mul_nonneg (Int.le_of_lt (pow_p _)) h3
  have h7 := pow_B hs
  rw [Int.mul_sub, Int.mul_comm (2 ^ (30 - s)) (2 ^ s), h7, Int.mul_one] at h5
  omega
theorem dnD_pv {l : Nat → Int} {s m : Nat} (hs : s ≤ 30) : ∀ n, n ≤ m → 2 ^ s * pv 1073741824 (dnD l s m) n = pv 1073741824 l n - (if 0 < m then l 0 else 0) % 2 ^ s + 1073741824 ^ n * ((if n < m then l n else 0) % 2 ^ s)
  | 0, _ => by
    show _ * (0 : Int) = 0 - _ + 1 * _
    omega
  | n + 1, hn => by
    have ih := dnD_pv (l := l) (m := m) hs n (by omega)
    rw [if_pos (show n < m by omega)] at ih
    have h7 := pow_B hs
    have q3 := Int.mul_ediv_add_emod (l n) (2 ^ s)
    show 2 ^ s * (pv 1073741824 (dnD l s m) n + (l n / 2 ^ s + 2 ^ (30 - s) * ((if n + 1 < m then l (n + 1) else 0) % 2 ^ s)) * 1073741824 ^ n) = (pv 1073741824 l n + l n * 1073741824 ^ n) - _ + _
    rw [Int.pow_succ, Int.mul_add, ih]
    generalize (if 0 < m then l 0 else 0) % 2 ^ s = w at *
    generalize (if n + 1 < m then l (n + 1) else 0) % 2 ^ s = v at *
    generalize (1073741824 : Int) ^ n = P at *
    generalize (2 ^ s : Int) = σ at *
    generalize (2 ^ (30 - s) : Int) = τ at *
    generalize l n / σ = u at *
    generalize l n % σ = r at *
    generalize pv 1073741824 l n = p at *
    have e : l n = σ * u + r := by omega
    rw [e, ← h7]
    grind
/-- what is shifted down was shifted up -/
theorem dnD_all {l : Nat → Int} {s m : Nat} (hs : s ≤ 30) (hm : 1 ≤ m) {R : Int} (h : pv 1073741824 l m = 2 ^ s * R) : pv 1073741824 (dnD l s m) m = R := by
  have h1 := dnD_pv (l := l) (s := s) (m := m) hs m (Nat.le_refl m)
  rw [if_pos (show 0 < m by omega), if_neg (show ¬ m < m by omega)] at h1
  have h0 : l 0 % 2 ^ s = 0 := by
    obtain ⟨p, rfl⟩ : ∃ p, m = p + 1 := ⟨m - 1, by omega⟩
    rw [pv_shift] at h
    have e : l 0 = 2 ^ s * (R - 2 ^ (30 - s) * pv 1073741824 (fun i => l (i + 1)) p) := by
      have h7 := pow_B hs
      rw [Int.mul_sub, ← Int.mul_assoc, h7]; omega
    rw [e, Int.mul_emod_right]
  rw [h0, h] at h1
  have h2 : (2 ^ s : Int) * pv 1073741824 (dnD l s m) m = 2 ^ s * R := by rw [h1, Int.zero_emod]; omega
  exact Int.eq_of_mul_eq_mul_left (by have := pow_p s; omega) h2
section LD
variable {G : Shp} {ad ro : Nat → Nat} {D : Dat} {T a b n m : Nat} {x y : Int} {post : Dat → Prop}
/-- the two last trims, and the shift back -/
theorem div_end (H : RG G ad ro) (hm : 1 ≤ m) (hmN : m < 600) {N : Nat} (hN : N < 600) {s : Nat} (hs : s < 30) {Q R : Int} {A1 A2 : Int32} (h7 : D.1 (ad 500) 7 = nI N) (dq : dg30 (af ad D 505) N) (hQ : pv 1073741824 (af ad D 505) N = Q) (dl : dg30 (af ad D 503) m) (hR : pv 1073741824 (af ad D 503) m = 2 ^ s * R) (k : ∀ D' qs ls, qs ≤ N → ls ≤ m → BgK ad ro D D' → DivV ad D' Q R qs ls → post D') : ∃ f, X9_divide_l318 G post (ad 500) A1 A2 (ad 501) (ad 503) (ad 504) (ad 505) f (nI m) (nI s) D := by
  have ne5 : ad 500 ≠ ad 505 := H.ne (by omega) (by omega) (by omega)
  have ne3 : ad 500 ≠ ad 503 := H.ne (by omega) (by omega) (by omega)
  have h35 : ad 505 ≠ ad 503 := H.ne (by omega) (by omega) (by omega)
  -- behind the quotient's trim
  have part2 : ∀ (qs : Nat) (E : Dat), qs ≤ N → BgK ad ro D E → E.1 (ad 500) 7 = nI qs → (∀ j, af ad E 505 j = af ad D 505 j) → (∀ j, af ad E 503 j = af ad D 503 j) → (∀ i, qs ≤ i → i < N → af ad D 505 i = 0) → (0 < qs → af ad D 505 (qs - 1) ≠ 0) → X9_divide_j352 G post (ad 500) A1 A2 (ad 501) (ad 503) (ad 504) (ad 505) (nI m) (nI s) E := by
    intro qs E hqs fE e7 e5 e3 hz ht
    have part3 : ∀ (F : Dat), BgK ad ro D F → F.1 (ad 500) 7 = nI qs → (∀ j, af ad F 505 j = af ad D 505 j) → (∀ j, j < m → af ad F 503 j = dnD (af ad D 503) s m j) → ∃ f, X9_divide_l428 G post (ad 500) A1 A2 (ad 501) (ad 503) (ad 504) (ad 505) f (dI F (ad 500) 6 (nI m)) := by
      intro F fF g7 g5 g3
      have fin : ∀ ls, ls ≤ m → (∀ i, ls ≤ i → i < m → af ad F 503 i = 0) → (0 < ls → af ad F 503 (ls - 1) ≠ 0) → post (dI F (ad 500) 6 (nI ls)) := by
        intro ls hls hz3 ht3
        have g5' : ∀ j, af ad (dI F (ad 500) 6 (nI ls)) 505 j = af ad D 505 j := fun j => by rw [af_n H (by omega) (by omega) (by omega)]; exact g5 j
        have g3' : ∀ j, af ad (dI F (ad 500) 6 (nI ls)) 503 j = af ad F 503 j := fun j => by rw [af_n H (by omega) (by omega) (by omega)]
        refine k _ qs ls hqs hls (fF.tr (bkF H (Or.inl rfl))) ⟨by rw [dI_o _ _ _ (by decide)]; exact g7, dI_s _ _ _ _, fun i hi => by rw [g5']; exact dq i (by omega), fun w => by rw [g5']; exact ht w, ?_, fun i hi => ?_, fun w => by rw [g3']; exact ht3 w, ?_⟩
        · rw [pv_congr (fun i _ => g5' i), ← pv_more hqs hz, hQ]
        · rw [g3', g3 i (by omega)]; exact dnD_b (by omega) dl (by omega)
        · rw [pv_congr (fun i _ => g3' i), ← pv_more hls hz3, pv_congr g3]
          exact dnD_all (by omega) hm hR
      have loop : ∀ ls, ls ≤ m → (∀ i, ls ≤ i → i < m → af ad F 503 i = 0) → X9_divide_l428 G post (ad 500) A1 A2 (ad 501) (ad 503) (ad 504) (ad 505) (ls + 1) (dI F (ad 500) 6 (nI ls)) := by
        intro ls
        induction ls with
        | zero =>
          intro hl hz3
          show X9_divide_l428_b G post (ad 500) A1 A2 (ad 501) (ad 503) (ad 504) (ad 505) _ _
          unfold X9_divide_l428_b X9_divide_j462
          rw [dI_s]
          exact ⟨fun _ => fin 0 hl hz3 (fun w => by omega), fun q => absurd (by decide) q⟩
        | succ ls ih =>
          intro hl hz3
          show X9_divide_l428_b G post (ad 500) A1 A2 (ad 501) (ad 503) (ad 504) (ad 505) _ _
          unfold X9_divide_l428_b X9_divide_j462
          rw [dI_s, nI_sub1 (by omega), Nat.add_sub_cancel, nI_clamp (by omega), dI_I, dI_n _ _ _ (fun q => ne3 q.symm)]
          refine ⟨fun q => absurd q (nI_nle (by omega) (by omega)), fun _ => ⟨l_in H (by omega), fun q => fin (ls + 1) hl hz3 (fun _ w => q ((I_eq _ _).mpr w)), fun q => ih (by omega) (fun i h1 h2 => ?_)⟩⟩
          by_cases w : i = ls
          · rw [w]; unfold af; rw [q]; rfl
          · exact hz3 i (by omega) h2
      exact ⟨_, loop m (Nat.le_refl m) (fun i h1 h2 => by omega)⟩
    have key := up_loop (L := fun f i (F : Dat) => X9_divide_l355 G post (ad 500) A1 A2 (ad 501) (ad 503) (ad 504) (ad 505) f (nI m) (nI s) (nI i) F) m (fun i F => BgK ad ro D F ∧ F.1 (ad 500) 7 = nI qs ∧ (∀ j, af ad F 505 j = af ad D 505 j) ∧ (∀ j, j < i → af ad F 503 j = dnD (af ad D 503) s m j) ∧ ∀ j, i ≤ j → af ad F 503 j = af ad D 503 j) ?_ ?_ 0 E (by omega) ⟨fE, e7, e5, fun j hj => by omega, fun j _ => e3 j⟩
    · exact ⟨_, key⟩
    · intro f F hF
      show X9_divide_l355_b G post (ad 500) A1 A2 (ad 501) (ad 503) (ad 504) (ad 505) _ _ _ _ _
      exact ⟨fun _ => part3 F hF.1 hF.2.1 hF.2.2.1 hF.2.2.2.1, fun q => absurd (nI_le (Nat.le_refl _) (by omega)) q⟩
    · intro f i F hi hF hk
      obtain ⟨fF, g7, g5, g3, g3'⟩ := hF
      show X9_divide_l355_b G post (ad 500) A1 A2 (ad 501) (ad 503) (ad 504) (ad 505) _ _ _ _ _
      refine ⟨fun q => absurd q (nI_ge hi (by omega)), fun _ => ⟨l_in H (by omega), ?_⟩⟩
      rw [nI_1, nI_clamp (by omega)]
      have xl : (F.1 (ad 503) i).toInt = af ad D 503 i := g3' i (Nat.le_refl i)
      have hli := dl i hi
      have s1 : ((F.1 (ad 503) i) >>> (nI s &&& 31)).toInt = af ad D 503 i / 2 ^ s := by rw [shr_s (by omega), xl]
      have fin : ∀ v : Int32, v.toInt = dnD (af ad D 503) s m i → X9_divide_l355 G post (ad 500) A1 A2 (ad 501) (ad 503) (ad 504) (ad 505) f (nI m) (nI s) (nI (i + 1)) (dI F (ad 503) i v) := by
        intro v hv
        refine hk _ ⟨fF.tr (bkA H (Or.inl rfl)), by rw [dI_n _ _ _ ne3]; exact g7, fun j => by rw [af_n H (by omega) (by omega) (by omega)]; exact g5 j, fun j hj => ?_, fun j hj => ?_⟩
        · by_cases w : j = i
          · rw [w, af_at]; exact hv
          · rw [af_o w]; exact g3 j (by omega)
        · rw [af_o (by omega)]; exact g3' j (by omega)
      have h1 : 0 ≤ af ad D 503 i / 2 ^ s := Int.ediv_nonneg hli.1 (Int.le_of_lt (pow_p s))
      have h2 : af ad D 503 i / 2 ^ s < 2 ^ (30 - s) := Int.ediv_lt_of_lt_mul (pow_p s) (by rw [Int.mul_comm, pow_B (by omega)]; exact hli.2)
      have or0 : ∀ w : Int32, w ||| 0 = w := fun w => Int32.or_zero
      unfold X9_divide_j413 X9_divide_j414
      rw [nI_1, nI_clamp (n := i + 1) (by omega), nI_clamp (n := i) (by omega), or0]
      refine ⟨fun q => ⟨H.left_.2.1, l_in H (by omega), fin _ ?_⟩, fun q => ⟨fun q2 => ⟨H.left_.2.1, l_in H (by omega), fin _ ?_⟩, fun q2 => ⟨l_in H ?_, H.left_.2.1, l_in H (by omega), fin _ ?_⟩⟩⟩
      · have hi1 : ¬ i + 1 < m := fun w => absurd q (nI_ge w (by omega))
        rw [s1]
        unfold dnD
        rw [if_neg hi1, Int.zero_emod]; omega
      · have hs0 : s = 0 := by
          by_cases w : s = 0
          · exact w
          · exact absurd q2 (nI_nle (by omega) (by omega))
        rw [s1]
        unfold dnD
        rw [hs0, Int.pow_zero, Int.emod_one]; omega
      · by_cases w : i + 1 < m
        · omega
        · exact absurd (nI_le (by omega) (by omega)) q
      · have hi1 : i + 1 < m := by
          by_cases w : i + 1 < m
          · exact w
          · exact absurd (nI_le (by omega) (by omega)) q
        have xl2 : (F.1 (ad 503) (i + 1)).toInt = af ad D 503 (i + 1) := g3' (i + 1) (by omega)
        have s2 : ((F.1 (ad 503) (i + 1)) <<< (30 - nI s &&& 31) &&& 1073741823).toInt = 2 ^ (30 - s) * (af ad D 503 (i + 1) % 2 ^ s) := by rw [shl_m2 hs, xl2]
        have h3 := Int.emod_nonneg (af ad D 503 (i + 1)) (show (2 ^ s : Int) ≠ 0 by have := pow_p s; omega)
        rw [Int32.or_comm, I_or (30 - s) h3 (by rw [s2, Int.mul_comm]) (by rw [s1]; exact h1) (by rw [s1]; exact h2), s1, s2]
        unfold dnD
        rw [if_pos hi1]; omega
  have loop : ∀ qs (E : Dat), qs ≤ N → BgK ad ro D E → E.1 (ad 500) 7 = nI qs → (∀ j, af ad E 505 j = af ad D 505 j) → (∀ j, af ad E 503 j = af ad D 503 j) → (∀ i, qs ≤ i → i < N → af ad D 505 i = 0) → X9_divide_l318 G post (ad 500) A1 A2 (ad 501) (ad 503) (ad 504) (ad 505) (qs + 1) (nI m) (nI s) E := by
    intro qs
    induction qs with
    | zero =>
      intro E hq fE e7 e5 e3 hz
      show X9_divide_l318_b G post (ad 500) A1 A2 (ad 501) (ad 503) (ad 504) (ad 505) _ _ _ _
      unfold X9_divide_l318_b
      rw [e7]
      exact ⟨fun _ => part2 0 E hq fE e7 e5 e3 hz (fun w => by omega), fun q => absurd (by decide) q⟩
    | succ qs ih =>
      intro E hq fE e7 e5 e3 hz
      show X9_divide_l318_b G post (ad 500) A1 A2 (ad 501) (ad 503) (ad 504) (ad 505) _ _ _ _
      unfold X9_divide_l318_b
      rw [e7, nI_sub1 (by omega), Nat.add_sub_cancel, nI_clamp (by omega)]
      have xq : (E.1 (ad 505) qs).toInt = af ad D 505 qs := e5 qs
      refine ⟨fun q => absurd q (nI_nle (by omega) (by omega)), fun _ => ⟨q_in H (by omega), fun q => part2 (qs + 1) E hq fE e7 e5 e3 hz (fun _ w => q ((I_eq _ _).mpr (by rw [xq]; exact w))), fun q => ?_⟩⟩
      refine ih _ (by omega) (fE.tr (bkF H (Or.inr rfl))) (dI_s _ _ _ _) (fun j => by rw [af_n H (by omega) (by omega) (by omega)]; exact e5 j) (fun j => by rw [af_n H (by omega) (by omega) (by omega)]; exact e3 j) (fun i h1 h2 => ?_)
      by_cases w : i = qs
      · rw [w, ← xq, q]; rfl
      · exact hz i (by omega) h2
  exact ⟨_, loop N D (Nat.le_refl N) BgK.rf h7 (fun _ => rfl) (fun _ => rfl) (fun i h1 h2 => by omega)⟩
end LD
