/-! Big: what its methods do -/
theorem min12 {e : Nat} (h : e ≤ 12) : mnI (nI e) 12 = nI e := by
  unfold mnI
  rw [if_neg]
  rw [show (12 : Int32) = nI 12 by decide]
  exact nI_nlt h (by omega)
theorem trim_end {G : Shp} {D : Dat} {a la : Nat} {v1 : Int32} {post : Dat → Prop} (hb : isB (D.1 a 2)) {n : Nat} (hn : n ≤ 12) (h1 : D.1 a 1 = nI n) (k : ∀ D', D' = dI D a 2 (if n = 0 then 0 else D.1 a 2) → post D') : X0_trim_j46 G post a v1 la D := by
  unfold X0_trim_j46 X0_trim_j58
  rw [h1]
  refine ⟨fun h => ?_, fun h => ⟨isB_0, ?_⟩⟩
  · have hn0 : n ≠ 0 := fun q => h (by rw [q]; exact nI_0)
    refine k D ?_
    rw [if_neg hn0]
    have : (dI D a 2 (D.1 a 2)).1 = D.1 := by
      funext b j
      rw [dI_at]
      by_cases q : b = a ∧ j = 2
      · rw [if_pos q, q.1, q.2]
      · rw [if_neg q]
    exact Prod.ext this.symm rfl
  · have hn0 : n = 0 := by
      by_cases q : n = 0
      · exact q
      · exact absurd h (nI_ne0 (by omega) (by omega))
    exact k _ (by rw [if_pos hn0])
theorem trim_loop {G : Shp} {a la : Nat} {v1 : Int32} {post : Dat → Prop} {D : Dat} (hG : BG G a la) (hb : isB (D.1 a 2)) : ∀ (n : Nat), n ≤ 12 → (∀ m, m ≤ n → (∀ i, m ≤ i → i < n → lm D la i = 0) → (0 < m → lm D la (m - 1) ≠ 0) → post (dI (dI D a 1 (nI m)) a 2 (if m = 0 then 0 else D.1 a 2))) → X0_trim_l10 G post a v1 la (n + 1) (dI D a 1 (nI n)) := by
  intro n
  induction n with
  | zero =>
    intro hn k
    show X0_trim_l10_b G post a v1 la _ _
    unfold X0_trim_l10_b
    rw [dI_s]
    refine ⟨fun _ => ?_, fun h => absurd (by decide) h⟩
    refine trim_end (n := 0) (by rw [dI_o _ _ _ (by decide)]; exact hb) hn (dI_s _ _ _ _) (fun D' e => ?_)
    rw [e, dI_o _ _ _ (by decide)]
    exact k 0 (Nat.le_refl 0) (fun i h1 h2 => by omega) (fun h => by omega)
  | succ n ih =>
    intro hn k
    show X0_trim_l10_b G post a v1 la _ _
    unfold X0_trim_l10_b
    rw [dI_s, dI_2, dI_I]
    refine ⟨fun h => absurd h (nI_nle (by omega) (by omega)), fun _ => ?_⟩
    rw [nI_pred, nI_clamp (by omega)]
    refine ⟨by rw [hG.2.2.2]; exact vp_in_nI (by omega) (by omega), fun h => ?_, fun h => ?_⟩
    · refine trim_end (n := n + 1) (by rw [dI_o _ _ _ (by decide)]; exact hb) hn (dI_s _ _ _ _) (fun D' e => ?_)
      rw [e, dI_o _ _ _ (by decide)]
      refine k (n + 1) (Nat.le_refl _) (fun i h1 h2 => by omega) (fun _ q => h ?_)
      have q : (D.2 la n).toInt = 0 := q
      exact (L_eq _ _).mpr q
    · refine ih (by omega) (fun m h1 h2 h3 => k m (by omega) (fun i hi hi2 => ?_) h3)
      by_cases q : i = n
      · rw [q]; unfold lm; rw [h]; rfl
      · exact h2 i hi (by omega)
/-- trim: the sign is kept, the size is what counts -/
theorem trim_sp {G : Shp} {D : Dat} {a la : Nat} (hG : BG G a la) {e : Nat} (he : e ≤ 12) (hd : dig (lm D la) e) (hb : isB (D.1 a 2)) {post : Dat → Prop} (k : ∀ D', Fr D D' [a] [] → BigV D' a la (sg (D.1 a 2) * pv 134217728 (lm D la) e) → post D') : X0_trim_wp G D a (nI e) post := by
  refine ⟨hG.1, la, hG.2.1, hG.2.2.1, e + 1, ?_⟩
  rw [min12 he]
  refine trim_loop hG hb e he (fun m h1 h2 h3 => k _ ?_ ?_)
  · exact (Fr.dI (List.mem_singleton.mpr rfl)).tr (Fr.dI (List.mem_singleton.mpr rfl))
  · have e1 : (dI (dI D a 1 (nI m)) a 2 (if m = 0 then 0 else D.1 a 2)).1 a 1 = nI m := by rw [dI_o _ _ _ (by decide), dI_s]
    have e2 : (dI (dI D a 1 (nI m)) a 2 (if m = 0 then 0 else D.1 a 2)).1 a 2 = if m = 0 then 0 else D.1 a 2 := dI_s _ _ _ _
    refine ⟨m, by omega, e1, fun i hi => hd i (by omega), h3, ?_, fun q => ?_, ?_⟩
    · rw [e2]; split
      · exact isB_0
      · exact hb
    · rw [e2, if_pos q]
    · rw [e2]
      have e3 : pv 134217728 (lm D la) e = pv 134217728 (lm D la) m := pv_more h1 h2
      rw [e3]
      show _ = _ * pv 134217728 (lm D la) m
      by_cases q : m = 0
      · subst q
        simp [pv]
      · rw [if_neg q]
theorem isZero_sp {G : Shp} {D : Dat} {a la : Nat} {z : Int} (hG : BG G a la) (h : BigV D a la z) {post : Int32 → Dat → Prop} (k : post (if z = 0 then 1 else 0) D) : X0_isZero_wp G D a post := by
  obtain ⟨n, hn, h1, hd, ht, hb, h0, rfl⟩ := h
  refine ⟨hG.1, ?_⟩
  unfold X0_isZero_j12
  rw [h1]
  have key : (sg (D.1 a 2) * pv 134217728 (lm D la) n = 0) ↔ n = 0 := by
    constructor
    · intro q
      by_cases hn0 : n = 0
      · exact hn0
      · have h2 := pv_pos (B := 134217728) (by decide) (by omega) hd (ht (by omega))
        have h3 : (0 : Int) < 134217728 ^ (n - 1) := Int.pow_pos (by decide)
        rcases hb with e | e <;> rw [e] at q
        · rw [sg_0] at q; omega
        · rw [sg_1] at q; omega
    · intro q; subst q; simp [pv]
  refine ⟨fun q => ⟨isB_0, ?_⟩, fun q => ⟨isB_1, ?_⟩⟩
  · rw [if_neg (fun w => q (by rw [key.mp w]; exact nI_0))] at k
    exact k
  · have hn0 : n = 0 := by
      by_cases w : n = 0
      · exact w
      · exact absurd q (nI_ne0 (by omega) (by omega))
    rw [if_pos (key.mpr hn0)] at k
    exact k
/-- the value is 0 just if nothing counts -/
theorem BigV.zero_iff {D : Dat} {a la : Nat} {z : Int} (h : BigV D a la z) : D.1 a 1 = nI 0 ↔ z = 0 := by
  obtain ⟨n, hn, h1, hd, ht, hb, h0, rfl⟩ := h
  constructor
  · intro q
    rw [h1, nI_eq (by omega) (by omega)] at q
    subst q
    simp [pv]
  · intro q
    by_cases hn0 : n = 0
    · rw [h1, hn0]
    · have h2 := pv_pos (B := 134217728) (by decide) (by omega) hd (ht (by omega))
      have h3 : (0 : Int) < 134217728 ^ (n - 1) := Int.pow_pos (by decide)
      rcases hb with e | e <;> rw [e] at q
      · rw [sg_0] at q; omega
      · rw [sg_1] at q; omega
/-- the sign -/
theorem BigV.below {D : Dat} {a la : Nat} {z : Int} (h : BigV D a la z) : D.1 a 2 = if z < 0 then 1 else 0 := by
  obtain ⟨n, hn, h1, hd, ht, hb, h0, rfl⟩ := h
  have h2 := pv_nn (B := 134217728) (by decide) (n := n) (f := lm D la) (fun i hi => (hd i hi).1)
  rcases hb with e | e <;> rw [e]
  · rw [sg_0, if_neg (by omega)]
  · have hn0 : n ≠ 0 := fun q => by
      rw [h0 q] at e
      exact absurd e (by decide)
    have h2 := pv_pos (B := 134217728) (by decide) (by omega) hd (ht (by omega))
    have h3 : (0 : Int) < 134217728 ^ (n - 1) := Int.pow_pos (by decide)
    rw [sg_1, if_pos (by omega)]
