/-! the reference's whole numbers, in its memory -/
def lmm (ad : Nat → Nat) (D : Dat) (a i : Nat) : Int := (D.1 (ad 501) (a + 1 + i)).toInt
def dg30 (f : Nat → Int) (n : Nat) : Prop := ∀ i, i < n → 0 ≤ f i ∧ f i < 1073741824
/-- a number at a with n limbs, below the end T -/
def Nm (ad : Nat → Nat) (D : Dat) (T a : Nat) (z : Int) (n : Nat) : Prop := a + n + 1 ≤ T ∧ D.1 (ad 501) a = (if z < 0 then -nI n else nI n) ∧ dg30 (lmm ad D a) n ∧ (0 < n → lmm ad D a (n - 1) ≠ 0) ∧ az z = pv 1073741824 (lmm ad D a) n
def TopV (ad : Nat → Nat) (D : Dat) (T : Nat) : Prop := D.1 (ad 500) 2 = nI T ∧ T ≤ 690000
/-- what the work on numbers changes: the memory from T on, the scratch rows, three fields -/
def pG (q : Nat) : Prop := q = 500 ∨ q = 501 ∨ q = 503 ∨ q = 504 ∨ q = 505
def BgF (ad ro : Nat → Nat) (D D' : Dat) (T : Nat) : Prop := FrP ro D D' pG ∧ (∀ i, i < T → D'.1 (ad 501) i = D.1 (ad 501) i) ∧ (∀ s, s ≠ 2 → s ≠ 6 → s ≠ 7 → D'.1 (ad 500) s = D.1 (ad 500) s) ∧ D'.2 (ad 500) = D.2 (ad 500)
theorem BgF.rf {ad ro : Nat → Nat} {D : Dat} {T : Nat} : BgF ad ro D D T := ⟨FrP.rf, fun _ _ => rfl, fun _ _ _ _ => rfl, rfl⟩
theorem BgF.tr {ad ro : Nat → Nat} {D D1 D2 : Dat} {T T' : Nat} (h : BgF ad ro D D1 T) (h2 : BgF ad ro D1 D2 T') (hT : T ≤ T') : BgF ad ro D D2 T := ⟨h.1.tr h2.1, fun i hi => (h2.2.1 i (by omega)).trans (h.2.1 i hi), fun s a b c => (h2.2.2.1 s a b c).trans (h.2.2.1 s a b c), h2.2.2.2.trans h.2.2.2⟩
theorem BgF.lo {ad ro : Nat → Nat} {D D1 : Dat} {T T' : Nat} (h : BgF ad ro D D1 T') (hT : T ≤ T') : BgF ad ro D D1 T := ⟨h.1, fun i hi => h.2.1 i (by omega), h.2.2⟩
theorem Nm.fr {ad ro : Nat → Nat} {D D' : Dat} {T T' a n : Nat} {z : Int} (h : Nm ad D T a z n) (f : BgF ad ro D D' T) (hT : T ≤ T') : Nm ad D' T' a z n := by
  obtain ⟨h1, h2, h3, h4, h5⟩ := h
  have e : ∀ i, i < n → lmm ad D' a i = lmm ad D a i := fun i hi => by unfold lmm; rw [f.2.1 _ (by omega)]
  refine ⟨by omega, by rw [f.2.1 _ (by omega)]; exact h2, fun i hi => by rw [e i hi]; exact h3 i hi, fun hn => by rw [e _ (by omega)]; exact h4 hn, by rw [h5]; exact pv_congr (fun i hi => (e i hi).symm)⟩
theorem Nm.up {ad : Nat → Nat} {D : Dat} {T T' a n : Nat} {z : Int} (h : Nm ad D T a z n) (hT : T ≤ T') : Nm ad D T' a z n := ⟨by have := h.1; omega, h.2⟩
theorem Nm.z0 {ad : Nat → Nat} {D : Dat} {T a n : Nat} {z : Int} (h : Nm ad D T a z n) : z = 0 ↔ n = 0 := by
  obtain ⟨h1, h2, h3, h4, h5⟩ := h
  constructor
  · intro q
    by_cases w : n = 0
    · exact w
    · have p := pv_pos (B := 1073741824) (by decide) (by omega) h3 (h4 (by omega))
      have p2 : (0 : Int) < 1073741824 ^ (n - 1) := Int.pow_pos (by decide)
      rw [q] at h5
      have : az 0 = 0 := rfl
      omega
  · intro q
    subst q
    have e : pv 1073741824 (lmm ad D a) 0 = 0 := rfl
    rw [e] at h5
    unfold az at h5
    split at h5 <;> omega
theorem Nm.sz {ad : Nat → Nat} {D : Dat} {T a n k : Nat} {z : Int} (h : Nm ad D T a z n) (hz : az z < 1073741824 ^ k) : n ≤ k := by
  obtain ⟨h1, h2, h3, h4, h5⟩ := h
  by_cases w : n ≤ k
  · exact w
  · exfalso
    have p := pv_pos (B := 1073741824) (by decide) (by omega) h3 (h4 (by omega))
    have p2 : (1073741824 : Int) ^ k ≤ 1073741824 ^ (n - 1) := ipow_le (by decide) (by omega)
    omega
theorem Nm.lt {ad : Nat → Nat} {D : Dat} {T a n : Nat} {z : Int} (h : Nm ad D T a z n) : az z < 1073741824 ^ n := by
  rw [h.2.2.2.2]
  exact pv_lt (by decide) h.2.2.1
section NM
variable {G : Shp} {ad ro : Nat → Nat} {D : Dat} {T a n : Nat} {z : Int} {post : Int32 → Dat → Prop}
theorem nI_le0 {m : Nat} (h : m < 2 ^ 31) : (0 : Int32) ≤ nI m := (I_le _ _).mpr (by rw [nI_toInt h]; show (0 : Int) ≤ _; omega)
theorem neg_nI {m : Nat} (h : m < 2 ^ 31) : (-nI m).toInt = -(m : Int) := by rw [I_neg (by rw [nI_toInt h]; omega), nI_toInt h]
theorem negneg_nI {m : Nat} : -(-nI m) = nI m := Int32.neg_neg
theorem m_in (H : RG G ad ro) {i : Nat} (hi : i < 700000) : vp_in (nI i) (G.2.2.1 (ad 501)) := by
  rw [H.mem_.2.2]
  exact vp_in_nI hi (by omega)
theorem size_sp (H : RG G ad ro) (h : Nm ad D T a z n) (hT : T ≤ 690000) (k : post (nI n) D) : X9_size_wp G D (ad 500) (nI a) post := by
  have h1 := h.1
  have hz := h.z0
  refine ⟨H.x_, _, H.mem_.1, H.mem_.2.1, m_in H (by omega), ?_⟩
  rw [nI_clamp (by omega), h.2.1]
  unfold X9_size_j25
  by_cases q : z < 0
  · rw [if_pos q]
    have hn : n ≠ 0 := fun w => by have := hz.mpr w; omega
    refine ⟨fun w => ?_, fun _ => ⟨m_in H (by omega), by rw [negneg_nI]; exact k⟩⟩
    have := (I_le _ _).mp w
    rw [neg_nI (by omega)] at this
    have e : (0 : Int32).toInt = 0 := rfl
    omega
  · rw [if_neg q]
    exact ⟨fun _ => ⟨m_in H (by omega), k⟩, fun w => absurd (nI_le0 (by omega)) w⟩
def sgI (z : Int) : Int32 := if z < 0 then -1 else if z = 0 then 0 else 1
theorem sign_sp (H : RG G ad ro) (h : Nm ad D T a z n) (hT : T ≤ 690000) (k : post (sgI z) D) : X9_sign_wp G D (ad 500) (nI a) post := by
  have h1 := h.1
  have hz := h.z0
  have e : (0 : Int32).toInt = 0 := rfl
  refine ⟨H.x_, _, H.mem_.1, H.mem_.2.1, m_in H (by omega), ?_⟩
  rw [nI_clamp (by omega), h.2.1]
  unfold X9_sign_j27
  unfold sgI at k
  by_cases q : z < 0
  · rw [if_pos q] at k ⊢
    have hn : n ≠ 0 := fun w => by have := hz.mpr w; omega
    have e2 := neg_nI (m := n) (by omega)
    refine ⟨fun _ => ⟨m_in H (by omega), fun w => ?_, fun _ => k⟩, fun w => absurd ((I_le _ _).mpr (by rw [e2, e]; omega)) w⟩
    have := (I_le _ _).mp w
    omega
  · rw [if_neg q] at k ⊢
    have e2 : (nI n).toInt = (n : Int) := nI_toInt (by omega)
    by_cases q2 : z = 0
    · rw [if_pos q2] at k
      have hn := hz.mp q2
      refine ⟨fun _ => ⟨m_in H (by omega), fun _ => k, fun w => absurd (nI_le0 (by omega)) w⟩, fun w => absurd ((I_le _ _).mpr (by rw [e2, e]; omega)) w⟩
    · rw [if_neg q2] at k
      have hn : n ≠ 0 := fun w => q2 (hz.mpr w)
      refine ⟨fun w => ?_, fun _ => k⟩
      have := (I_le _ _).mp w
      omega
theorem sgI_0 {z : Int} : sgI z = 0 ↔ z = 0 := by
  unfold sgI
  by_cases q : z < 0
  · rw [if_pos q]; exact ⟨fun w => absurd w (by decide), fun w => by omega⟩
  · rw [if_neg q]
    by_cases q2 : z = 0
    · rw [if_pos q2]; exact ⟨fun _ => q2, fun _ => rfl⟩
    · rw [if_neg q2]; exact ⟨fun w => absurd w (by decide), fun w => absurd w q2⟩
theorem sgI_lt {z : Int} : sgI z < 0 ↔ z < 0 := by
  unfold sgI
  by_cases q : z < 0
  · rw [if_pos q]; exact ⟨fun _ => q, fun _ => by decide⟩
  · rw [if_neg q]
    by_cases q2 : z = 0
    · rw [if_pos q2]; exact ⟨fun w => absurd w (by decide), fun w => by omega⟩
    · rw [if_neg q2]; exact ⟨fun w => absurd w (by decide), fun w => by omega⟩
theorem sgI_ge {z : Int} : 0 ≤ sgI z ↔ 0 ≤ z := by
  unfold sgI
  by_cases q : z < 0
  · rw [if_pos q]; exact ⟨fun w => absurd w (by decide), fun w => by omega⟩
  · rw [if_neg q]
    by_cases q2 : z = 0
    · rw [if_pos q2]; exact ⟨fun _ => by omega, fun _ => by decide⟩
    · rw [if_neg q2]; exact ⟨fun _ => by omega, fun _ => by decide⟩
theorem room_sp (H : RG G ad ro) (h : TopV ad D T) {m : Nat} (hm : T + m + 1 ≤ 690000) (k : ∀ D', BgF ad ro D D' 700000 → TopV ad D' (T + m + 1) → (∀ x, x ≠ ad 500 → D'.1 x = D.1 x) → post (nI T) D') : X9_room_wp G D (ad 500) (nI m) post := by
  refine ⟨H.x_, ?_⟩
  rw [h.1]
  have e : nI T + (nI m + 1) = nI (T + m + 1) := by rw [nI_1, nI_add]; rfl
  rw [e]
  refine k _ ⟨FrP.dI (by rw [H.inj_ 500 (by omega) (by omega)]; exact Or.inl rfl), fun i _ => ?_, fun s h1 _ _ => dI_o _ _ _ h1, rfl⟩ ⟨dI_s _ _ _ _, hm⟩ (fun x hx => dI_n _ _ _ hx)
  rw [dI_n _ _ _ (H.ne (by omega) (by omega) (by omega))]
/-- a number is finished: leading noughts off, its sign -/
theorem done9_sp (H : RG G ad ro) {m : Nat} (hm : a + m + 1 ≤ 690000) (hd : dg30 (lmm ad D a) m) {b : Int32} (hb : isB b) (hz : z = (if b = 0 then pv 1073741824 (lmm ad D a) m else -pv 1073741824 (lmm ad D a) m)) (k : ∀ D' n, n ≤ m → BgF ad ro D D' a → TopV ad D' (a + n + 1) → Nm ad D' (a + n + 1) a z n → post (nI a) D') : X9_done_wp G D (ad 500) (nI a) (nI m) b post := by
  refine ⟨H.x_, _, H.mem_.1, H.mem_.2.1, ?_⟩
  have ne : ad 501 ≠ ad 500 := H.ne (by omega) (by omega) (by omega)
  have fin : ∀ n, n ≤ m → (∀ i, n ≤ i → i < m → lmm ad D a i = 0) → (0 < n → lmm ad D a (n - 1) ≠ 0) → X9_done_j26 G post (ad 500) (nI a) (nI m) b (ad 501) (nI n) D := by
    intro n hn h1 h2
    have ep : pv 1073741824 (lmm ad D a) m = pv 1073741824 (lmm ad D a) n := pv_more hn h1
    have hnn := pv_nn (B := 1073741824) (by decide) (n := n) (f := lmm ad D a) (fun i hi => (hd i (by omega)).1)
    have hpos : 0 < n → 0 < pv 1073741824 (lmm ad D a) n := fun w => by
      have p := pv_pos (B := 1073741824) (by decide) w (fun i hi => hd i (by omega)) (h2 w)
      have p2 : (0 : Int) < 1073741824 ^ (n - 1) := Int.pow_pos (by decide)
      omega
    rw [ep] at hz
    have e3 : (nI a + nI n) + 1 = nI (a + n + 1) := by rw [nI_add, nI_1]
    have go : ∀ v : Int32, v = (if z < 0 then -nI n else nI n) → X9_done_j43 G post (ad 500) (nI a) (nI m) b (ad 501) (nI n) v (nI a) (ad 501) D := by
      intro v hv
      refine ⟨H.mem_.2.1, m_in H (by omega), ?_⟩
      rw [e3, nI_clamp (by omega)]
      have el : ∀ i, lmm ad (dI (dI D (ad 501) a v) (ad 500) 2 (nI (a + n + 1))) a i = lmm ad D a i := fun i => by
        unfold lmm
        rw [dI_n _ _ _ ne, dI_o _ _ _ (by omega)]
      refine k _ n hn ⟨(FrP.dI (by rw [H.inj_ 501 (by omega) (by omega)]; exact Or.inr (Or.inl rfl))).tr (FrP.dI (by rw [H.inj_ 500 (by omega) (by omega)]; exact Or.inl rfl)), fun i hi => ?_, fun s h1 _ _ => ?_, rfl⟩ ⟨dI_s _ _ _ _, by omega⟩ ⟨by omega, ?_, fun i hi => ?_, fun hn => ?_, ?_⟩
      · rw [dI_n _ _ _ ne, dI_o _ _ _ (by omega)]
      · rw [dI_o _ _ _ h1, dI_n _ _ _ (fun q => ne q.symm)]
      · rw [dI_n _ _ _ ne, dI_s]; exact hv
      · rw [el]; exact hd i (by omega)
      · rw [el]; exact h2 hn
      · rw [pv_congr (fun i _ => el i)]
        rcases hb with e | e <;> rw [e] at hz
        · rw [if_pos rfl] at hz
          rw [hz]; exact az_id hnn
        · rw [if_neg (by decide)] at hz
          rw [hz]; unfold az; split <;> omega
    refine ⟨fun q => go _ ?_, fun q => go _ ?_⟩
    · rw [if_pos q] at hz
      rw [if_neg (by omega)]
    · rw [if_neg q] at hz
      by_cases w : n = 0
      · subst w
        have e0 : pv 1073741824 (lmm ad D a) 0 = 0 := rfl
        rw [if_neg (by omega)]
        decide
      · have := hpos (by omega)
        rw [if_pos (by omega)]
  have key : ∀ n, n ≤ m → (∀ i, n ≤ i → i < m → lmm ad D a i = 0) → X9_done_l3 G post (ad 500) (nI a) (nI m) b (ad 501) (n + 1) (nI n) D := by
    intro n
    induction n with
    | zero =>
      intro _ h0
      show X9_done_l3_b G post (ad 500) (nI a) (nI m) b (ad 501) _ _ _
      exact ⟨fun _ => fin 0 (by omega) h0 (fun w => by omega), fun q => absurd (by decide) q⟩
    | succ n ih =>
      intro hn h0
      show X9_done_l3_b G post (ad 500) (nI a) (nI m) b (ad 501) _ _ _
      refine ⟨fun q => absurd q (nI_nle (by omega) (by omega)), fun _ => ?_⟩
      rw [nI_add, nI_clamp (by omega), nI_m1 (by omega), Nat.add_sub_cancel]
      have e : (D.1 (ad 501) (a + (n + 1))).toInt = lmm ad D a n := by unfold lmm; rw [show a + (n + 1) = a + 1 + n by omega]
      refine ⟨m_in H (by omega), fun q => fin (n + 1) hn h0 (fun _ w => q ?_), fun q => ih (by omega) (fun i h1 h2 => ?_)⟩
      · exact (I_eq _ _).mpr (by rw [e]; exact w)
      · by_cases w : i = n
        · rw [w, ← e, q]; rfl
        · exact h0 i (by omega) h2
  exact ⟨_, key m (Nat.le_refl m) (fun i h1 h2 => by omega)⟩
end NM
