/-! the reference: numbers kept -/
def kpl (ad : Nat → Nat) (D : Dat) (p i : Nat) : Int := (D.1 (ad 526) (60 * p + 1 + i)).toInt
def KpV (ad : Nat → Nat) (D : Dat) (p : Nat) (z : Int) (n : Nat) : Prop := n ≤ 59 ∧ D.1 (ad 526) (60 * p) = (if z < 0 then -nI n else nI n) ∧ dg30 (kpl ad D p) n ∧ (0 < n → kpl ad D p (n - 1) ≠ 0) ∧ az z = pv 1073741824 (kpl ad D p) n
theorem KpV.kept {ad : Nat → Nat} {D D' : Dat} {p n : Nat} {z : Int} (h : KpV ad D p z n) (e : ∀ i, i ≤ 59 → D'.1 (ad 526) (60 * p + i) = D.1 (ad 526) (60 * p + i)) : KpV ad D' p z n := by
  obtain ⟨h1, h2, h3, h4, h5⟩ := h
  have el : ∀ i, i < n → kpl ad D' p i = kpl ad D p i := fun i hi => by
    unfold kpl
    rw [show 60 * p + 1 + i = 60 * p + (i + 1) by omega, e (i + 1) (by omega)]
  have e0 := e 0 (by omega)
  rw [Nat.add_zero] at e0
  exact ⟨h1, by rw [e0]; exact h2, fun i hi => by rw [el i hi]; exact h3 i hi, fun hn => by rw [el _ (by omega)]; exact h4 hn, by rw [h5]; exact pv_congr (fun i hi => (el i hi).symm)⟩
theorem KpV.sz {ad : Nat → Nat} {D : Dat} {p n k : Nat} {z : Int} (h : KpV ad D p z n) (hz : az z < 1073741824 ^ k) : n ≤ k := by
  obtain ⟨h1, h2, h3, h4, h5⟩ := h
  by_cases w : n ≤ k
  · exact w
  · exfalso
    have p := pv_pos (B := 1073741824) (by decide) (by omega) h3 (h4 (by omega))
    have p2 : (1073741824 : Int) ^ k ≤ 1073741824 ^ (n - 1) := ipow_le (by decide) (by omega)
    omega
section KP
variable {G : Shp} {ad ro : Nat → Nat} {D : Dat} {T a n : Nat} {z : Int}
theorem k_in (H : RG G ad ro) {i : Nat} (hi : i < 1800) : vp_in (nI i) (G.2.2.1 (ad 526)) := by rw [H.kep_.2.2]; exact vp_in_nI hi (by omega)
/-- only a slot of what is kept has changed -/
def KsF (ad : Nat → Nat) (D D' : Dat) (p : Nat) : Prop := D'.2 = D.2 ∧ (∀ q, q ≠ ad 526 → D'.1 q = D.1 q) ∧ ∀ i, (i < 60 * p ∨ 60 * p + 60 ≤ i) → D'.1 (ad 526) i = D.1 (ad 526) i
theorem sixty {p i : Nat} : (60 : Int32) * nI p + nI i = nI (60 * p + i) := by rw [show (60 : Int32) = nI 60 by decide, nI_mul', nI_add]
theorem sixty0 {p : Nat} : (60 : Int32) * nI p = nI (60 * p) := by rw [show (60 : Int32) = nI 60 by decide, nI_mul']
theorem keep9_sp (H : RG G ad ro) (ha : Nm ad D T a z n) (hT : T ≤ 690000) (hn : n ≤ 59) {p : Nat} (hp : p < 30) {post : Dat → Prop} (k : ∀ D', KsF ad D D' p → KpV ad D' p z n → post D') : X9_keep_wp G D (ad 500) (nI p) (nI a) post := by
  have ha1 := ha.1
  have n16 : ad 501 ≠ ad 526 := H.ne (by omega) (by omega) (by omega)
  refine ⟨H.x_, _, H.kep_.1, H.kep_.2.1, _, H.mem_.1, H.mem_.2.1, ?_⟩
  have key := up_loop (L := fun f i (E : Dat) => X9_keep_l2 G post (ad 500) (nI p) (nI a) (ad 526) (ad 501) f (nI i) E) (n + 1) (fun i E => KsF ad D E p ∧ ∀ j, j < i → E.1 (ad 526) (60 * p + j) = D.1 (ad 501) (a + j)) ?_ ?_ 0 D (by omega) ⟨⟨rfl, fun _ _ => rfl, fun _ _ => rfl⟩, fun j hj => by omega⟩
  · exact ⟨_, key⟩
  · intro f E hE
    obtain ⟨fE, e⟩ := hE
    show X9_keep_l2_b G post (ad 500) (nI p) (nI a) (ad 526) (ad 501) _ _ _
    have aE : Nm ad E T a z n := ha.cells (fun i _ => by rw [fE.2.1 _ n16]) ha1
    refine size_sp H aE hT ⟨fun _ => k E fE ?_, fun q => absurd (nI_lt (by omega) (by omega)) q⟩
    obtain ⟨h1, h2, h3, h4, h5⟩ := ha
    have el : ∀ i, i < n → kpl ad E p i = lmm ad D a i := fun i hi => by
      unfold kpl lmm
      rw [show 60 * p + 1 + i = 60 * p + (i + 1) by omega, e (i + 1) (by omega), show a + 1 + i = a + (i + 1) by omega]
    refine ⟨hn, ?_, fun i hi => by rw [el i hi]; exact h3 i hi, fun hn => by rw [el _ (by omega)]; exact h4 hn, by rw [h5]; exact pv_congr (fun i hi => (el i hi).symm)⟩
    have := e 0 (by omega)
    rw [Nat.add_zero, Nat.add_zero] at this
    rw [this]; exact h2
  · intro f i E hi hE hk
    obtain ⟨fE, e⟩ := hE
    show X9_keep_l2_b G post (ad 500) (nI p) (nI a) (ad 526) (ad 501) _ _ _
    have aE : Nm ad E T a z n := ha.cells (fun i _ => by rw [fE.2.1 _ n16]) ha1
    refine size_sp H aE hT ⟨fun q => absurd q (nI_nlt (by omega) (by omega)), fun _ => ?_⟩
    rw [nI_add, sixty, nI_1, nI_clamp (by omega), nI_clamp (by omega)]
    refine ⟨m_in H (by omega), k_in H (by omega), hk _ ⟨⟨fE.1, fun q hq => by rw [dI_n _ _ _ hq]; exact fE.2.1 q hq, fun j hj => by rw [dI_o _ _ _ (by omega)]; exact fE.2.2 j hj⟩, fun j hj => ?_⟩⟩
    by_cases w : j = i
    · rw [w, dI_s, fE.2.1 _ n16]
    · rw [dI_o _ _ _ (by omega)]; exact e j (by omega)
theorem held_sp (H : RG G ad ro) (h : TopV ad D T) {p : Nat} (hp : p < 30) (hk : KpV ad D p z n) (hT : T + n + 1 ≤ 690000) {post : Int32 → Dat → Prop} (k : ∀ D', BgF ad ro D D' T → TopV ad D' (T + n + 1) → Nm ad D' (T + n + 1) T z n → post (nI T) D') : X9_held_wp G D (ad 500) (nI p) post := by
  obtain ⟨h1, h2, h3, h4, h5⟩ := hk
  have n61 : ad 526 ≠ ad 501 := H.ne (by omega) (by omega) (by omega)
  have n60 : ad 526 ≠ ad 500 := H.ne (by omega) (by omega) (by omega)
  refine ⟨H.x_, _, H.kep_.1, H.kep_.2.1, _, H.mem_.1, H.mem_.2.1, ?_⟩
  rw [sixty0, nI_clamp (by omega), h2]
  have main : X9_held_j30 G post (ad 500) (nI p) (ad 526) (ad 501) (nI (60 * p)) (nI n) D := by
    refine room_sp H h hT (fun D1 f1 t1 g1 => ?_)
    have e6 : D1.1 (ad 526) = D.1 (ad 526) := g1 _ n60
    have key := up_loop (L := fun f i (E : Dat) => X9_held_l41 G post (ad 500) (nI p) (ad 526) (ad 501) f (nI (60 * p)) (nI n) (nI T) (nI i) E) (n + 1) (fun i E => BgF ad ro D1 E T ∧ TopV ad E (T + n + 1) ∧ E.1 (ad 526) = D.1 (ad 526) ∧ ∀ j, j < i → E.1 (ad 501) (T + j) = D.1 (ad 526) (60 * p + j)) ?_ ?_ 0 D1 (by omega) ⟨BgF.rf, t1, e6, fun j hj => by omega⟩
    · exact ⟨_, key⟩
    · intro f E hE
      obtain ⟨fE, tE, -, e⟩ := hE
      show X9_held_l41_b G post (ad 500) (nI p) (ad 526) (ad 501) _ _ _ _ _ _
      refine ⟨fun _ => k E ((f1.lo (by omega)).tr fE (Nat.le_refl T)) tE ?_, fun q => absurd (nI_lt (by omega) (by omega)) q⟩
      have el : ∀ i, i < n → lmm ad E T i = kpl ad D p i := fun i hi => by
        unfold kpl lmm
        rw [show T + 1 + i = T + (i + 1) by omega, e (i + 1) (by omega), show 60 * p + 1 + i = 60 * p + (i + 1) by omega]
      refine ⟨by omega, ?_, fun i hi => by rw [el i hi]; exact h3 i hi, fun hn => by rw [el _ (by omega)]; exact h4 hn, by rw [h5]; exact pv_congr (fun i hi => (el i hi).symm)⟩
      have := e 0 (by omega)
      rw [Nat.add_zero, Nat.add_zero] at this
      rw [this]; exact h2
    · intro f i E hi hE hk
      obtain ⟨fE, tE, e6, e⟩ := hE
      show X9_held_l41_b G post (ad 500) (nI p) (ad 526) (ad 501) _ _ _ _ _ _
      refine ⟨fun q => absurd q (nI_nlt (by omega) (by omega)), fun _ => ?_⟩
      rw [nI_add, nI_add, nI_1, nI_clamp (by omega), nI_clamp (by omega)]
      refine ⟨k_in H (by omega), m_in H (by omega), hk _ ⟨fE.tr (bgM H (by omega)) (Nat.le_refl T), tE.fr9 H, by rw [dI_n _ _ _ n61]; exact e6, fun j hj => ?_⟩⟩
      by_cases w : j = i
      · rw [w, dI_s, e6]
      · rw [dI_o _ _ _ (by omega)]; exact e j (by omega)
  have hz : z < 0 → 0 < n := fun w => by
    by_cases v : n = 0
    · exfalso
      rw [v] at h5
      have : pv 1073741824 (kpl ad D p) 0 = 0 := rfl
      unfold az at h5
      rw [if_pos w] at h5
      omega
    · omega
  refine ⟨k_in H (by omega), fun q => ⟨k_in H (by omega), ?_⟩, fun q => ⟨k_in H (by omega), ?_⟩⟩
  · by_cases w : z < 0
    · rw [if_pos w] at q
      have := (I_le _ _).mp q
      rw [neg_nI (by omega)] at this
      have e : (0 : Int32).toInt = 0 := rfl
      have := hz w
      omega
    · rw [if_neg w]; exact main
  · by_cases w : z < 0
    · rw [if_pos w, negneg_nI]; exact main
    · rw [if_neg w] at q
      exact absurd (nI_le0 (by omega)) q
end KP
