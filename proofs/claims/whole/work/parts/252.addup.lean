/-! Parting: numbers, sums -/
def yv (A : AR) (u : Option Nat) (t : Nat) : Int := match u with
  | none => aN A t
  | some u => if t = u then 1 else 0
def uI (u : Option Nat) : Int32 := match u with
  | none => -1
  | some u => nI u
def uOK (u : Option Nat) : Prop := ∀ x, u = some x → x < 40
/-- column i at a tick: an unknown's, or the numbers' behind them -/
def cf (A : AR) (u : Option Nat) (i t : Nat) : Int := if i < nU A then lc (uc A) i t else yv A u t
theorem cf_def (A : AR) (u : Option Nat) (i t : Nat) : cf A u i t = if i < nU A then lc (uc A) i t else yv A u t := rfl
def si (f : Nat → Int) : Nat → Int
  | 0 => 0
  | n + 1 => si f n + f n
theorem si_congr {f g : Nat → Int} : ∀ {n : Nat}, (∀ i, i < n → f i = g i) → si f n = si g n
  | 0, _ => rfl
  | n + 1, h => by
    show si f n + f n = si g n + g n
    rw [si_congr (fun i hi => h i (by omega)), h n (by omega)]
theorem si_abs {f : Nat → Int} {M : Int} (hM : 0 ≤ M) : ∀ {n : Nat}, (∀ i, i < n → -M ≤ f i ∧ f i ≤ M) → -(n * M) ≤ si f n ∧ si f n ≤ n * M
  | 0, _ => by simp [si]
  | n + 1, h => by
    have ih := si_abs hM (n := n) (fun i hi => h i (by omega))
    have hn := h n (by omega)
    show _ ≤ si f n + f n ∧ si f n + f n ≤ _
    have e : ((n + 1 : Nat) : Int) * M = n * M + M := by rw [Int.natCast_add]; grind
    rw [e]
    generalize (n : Int) * M = x at *
    omega
theorem uc_b {A : AR} : ∀ f, f ∈ uc A → ∀ t, t < 40 → -39 ≤ f t ∧ f t ≤ 39 := by
  intro f hf t ht
  unfold uc at hf
  rcases List.mem_append.mp hf with hf | hf
  · rcases List.mem_append.mp hf with hf | hf
    · unfold rmp at hf
      split at hf
      · rw [List.mem_singleton.mp hf]; unfold rampc; omega
      · cases hf
    · obtain ⟨s, -, rfl⟩ := List.mem_map.mp hf
      unfold stepc; split <;> omega
  · obtain ⟨s, -, rfl⟩ := List.mem_map.mp hf
    unfold feastc; split <;> omega
theorem lc_mem {L : List (Nat → Int)} {i : Nat} (h : i < L.length) : ∃ f, f ∈ L ∧ ∀ t, lc L i t = f t := by
  refine ⟨L[i], List.getElem_mem h, fun t => ?_⟩
  unfold lc
  rw [List.getD_eq_getElem?_getD, List.getElem?_eq_getElem h]
  rfl
theorem cf_b {A : AR} (hA : RowOK A) (u : Option Nat) {i t : Nat} (ht : t < 40) : -10000 ≤ cf A u i t ∧ cf A u i t ≤ 10000 := by
  unfold cf
  split
  · next h =>
    obtain ⟨f, hf, e⟩ := lc_mem h
    rw [e]
    have := uc_b f hf t ht
    omega
  · unfold yv
    cases u with
    | none => exact hA.1 t
    | some u => show _ ≤ (if t = u then (1 : Int) else 0) ∧ (if t = u then (1 : Int) else 0) ≤ _; split <;> omega
/-- the numbers stand behind the unknowns' columns -/
def PnV (ad : Nat → Nat) (D : Dat) (A : AR) (u : Option Nat) : Prop := PmV ad D A ∧ ∀ t, t < 40 → (D.2 (ad (20 + nU A)) t).toInt = yv A u t
theorem PnV.col {ad : Nat → Nat} {D : Dat} {A : AR} {u : Option Nat} (h : PnV ad D A u) {i : Nat} (hi : i ≤ nU A) {t : Nat} (ht : t < 40) : (D.2 (ad (20 + i)) t).toInt = cf A u i t := by
  rw [cf_def]
  by_cases q : i < nU A
  · rw [if_pos q]; exact h.1.1.2.2 i q t (by omega)
  · have : i = nU A := by omega
    subst this
    rw [if_neg (by omega)]; exact h.2 t ht
section AU
variable {G : Shp} {ad ro : Nat → Nat} {D : Dat} {r : Nat} {A : AR} {u : Option Nat}
theorem layNumbers_sp (H : CS G ad ro) (hr : r < 4) (h : RowV ad D r A) (hA : RowOK A) (hu : uOK u) (hp : PmV ad D A) {post : Dat → Prop} (k : ∀ D', PnV ad D' A u → FrP ro D D' pC → post D') : X2_layNumbers_wp G D (ad 2) (ad (rb r)) (uI u) post := by
  have h6 := nU_le hA
  refine ⟨H.p_, H.row_ r hr, _, H.p1_, H.co_, _, H.row0_ r hr, H.num_ r hr, ?_⟩
  have key := up_loop (L := fun m i (E : Dat) => X2_layNumbers_l2 G post (ad 2) (ad (rb r)) (uI u) (ad 9) (ad (rb r + 1)) m (nI i) E) 40 (fun i E => E.1 = D.1 ∧ (∀ x, x ≠ ad (20 + nU A) → E.2 x = D.2 x) ∧ ∀ t, t < i → (E.2 (ad (20 + nU A)) t).toInt = yv A u t) ?_ ?_ 0 D (by omega) ⟨rfl, fun _ _ => rfl, fun t ht => by omega⟩
  · exact ⟨_, key⟩
  · intro m E hE
    show X2_layNumbers_l2_b G post (ad 2) (ad (rb r)) (uI u) (ad 9) (ad (rb r + 1)) _ _ _
    refine ⟨fun _ => k E ⟨⟨⟨by rw [hE.1]; exact hp.1.1, hp.1.2.1, fun i hi t ht => ?_⟩, by rw [hE.1]; exact hp.2.1, by rw [hE.1]; exact hp.2.2.1, by rw [hE.1]; exact hp.2.2.2⟩, hE.2.2⟩ (fun a ha => ⟨by rw [hE.1], hE.2.1 a (fun q => ha (by rw [q, H.inj_ _ (by omega)]; right; omega))⟩), fun q => absurd (by decide) q⟩
    have hi : i < nU A := hi
    rw [hE.2.1 _ (H.ne (by omega) (by omega) (by omega))]
    exact hp.1.2.2 i hi t ht
  · intro m i E hi hE hk
    show X2_layNumbers_l2_b G post (ad 2) (ad (rb r)) (uI u) (ad 9) (ad (rb r + 1)) _ _ _
    have e11 : E.1 (ad 2) 11 = nI (nU A) := by rw [hE.1]; exact hp.1.1
    refine ⟨fun q => absurd q (by rw [show (40 : Int32) = nI 40 by decide]; exact nI_ge hi (by omega)), fun _ => ?_⟩
    rw [e11]
    unfold X2_layNumbers_j54 X2_layNumbers_j55
    have main : ∀ v : Int64, v.toInt = yv A u i → X2_layNumbers_l2 G post (ad 2) (ad (rb r)) (uI u) (ad 9) (ad (rb r + 1)) m (nI i + 1) (dJ E (ad (20 + nU A)) (nI i).toNatClampNeg v) := fun v hv => by
      rw [nI_1, nI_clamp (by omega)]
      refine hk _ ⟨hE.1, fun x hx => by rw [dJ_n _ _ _ hx]; exact hE.2.1 x hx, fun t ht => ?_⟩
      by_cases q : t = i
      · rw [q, dJ_s]; exact hv
      · rw [dJ_o _ _ _ q]; exact hE.2.2 t (by omega)
    have hvp : vp_in (nI (nU A)) (G.2.2.1 (ad 9)) := by rw [H.col_]; exact vp_in_nI (by omega) (by omega)
    have hrf : G.2.2.2 (ad 9) (nI (nU A)).toNatClampNeg = some (ad (20 + nU A)) := by rw [nI_clamp (by omega)]; exact H.cor_ _ (by omega)
    have hvi : vp_in (nI i) (G.2.2.1 (ad (20 + nU A))) := by rw [H.cil_ _ (by omega)]; exact vp_in_nI (by omega) (by omega)
    cases u with
    | none =>
      refine ⟨fun q => absurd rfl q, fun _ => ⟨hvp, _, hrf, H.ci_ _ (by omega), by rw [H.numl_ r hr]; exact vp_in_nI hi (by omega), hvi, main _ ?_⟩⟩
      rw [L_i2l, hE.1, nI_clamp (by omega)]
      exact h.1 i hi
    | some x =>
      have hx := hu x rfl
      refine ⟨fun _ => ⟨hvp, _, hrf, H.ci_ _ (by omega), fun q => ⟨H.ci_ _ (by omega), hvi, main 0 ?_⟩, fun q => ⟨H.ci_ _ (by omega), hvi, main 1 ?_⟩⟩, fun q => ?_⟩
      · have : i ≠ x := fun e => q (by rw [e]; rfl)
        show _ = if i = x then (1 : Int) else 0
        rw [if_neg this]; rfl
      · have : i = x := (nI_eq (by omega) (by omega)).mp q
        show _ = if i = x then (1 : Int) else 0
        rw [if_pos this]; rfl
      · exfalso
        have q : nI x = -1 := q
        have := congrArg Int32.toInt q
        rw [nI_toInt (by omega)] at this
        have e : (-1 : Int32).toInt = -1 := rfl
        omega
end AU
