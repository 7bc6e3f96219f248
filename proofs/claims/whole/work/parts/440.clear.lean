/-! the reference: clear -/
def colN (N b : Nat) : Nat := if b = 19 then N else b
def okc (N b : Nat) : Prop := b < N ∨ b = 19
def Ent (ad : Nat → Nat) (D : Dat) (T a b : Nat) (z : Int) : Prop := ∃ p n, n ≤ 17 ∧ D.1 (ad 524) (20 * a + b) = nI p ∧ Nm ad D T p z n
def CrF (ad ro : Nat → Nat) (D D' : Dat) : Prop := FrP ro D D' (fun q => pG q ∨ q = 524 ∨ q = 526) ∧ (∀ s, s ≠ 2 → s ≠ 6 → s ≠ 7 → D'.1 (ad 500) s = D.1 (ad 500) s) ∧ D'.2 (ad 500) = D.2 (ad 500) ∧ ∀ i, 1200 ≤ i → D'.1 (ad 526) i = D.1 (ad 526) i
theorem CrF.rf {ad ro : Nat → Nat} {D : Dat} : CrF ad ro D D := ⟨FrP.rf, fun _ _ _ _ => rfl, rfl, fun _ _ => rfl⟩
theorem CrF.tr {ad ro : Nat → Nat} {D D1 D2 : Dat} (h : CrF ad ro D D1) (h2 : CrF ad ro D1 D2) : CrF ad ro D D2 := ⟨h.1.tr h2.1, fun s a b c => (h2.2.1 s a b c).trans (h.2.1 s a b c), h2.2.2.1.trans h.2.2.1, fun i hi => (h2.2.2.2 i hi).trans (h.2.2.2 i hi)⟩
section CR
variable {G : Shp} {ad ro : Nat → Nat} {D D' : Dat} {T T' a b N : Nat} {z : Int}
theorem BgF.cr (H : RG G ad ro) (h : BgF ad ro D D' T) : CrF ad ro D D' := ⟨h.1.up (fun q hq => Or.inl hq), h.2.2.1, h.2.2.2, fun i _ => by rw [h.1.mi H (by omega) (by unfold pG; omega)]⟩
theorem crR (H : RG G ad ro) {i : Nat} {v : Int32} : CrF ad ro D (dI D (ad 524) i v) := ⟨FrP.dI (by rw [H.inj_ 524 (by omega) (by omega)]; exact Or.inr (Or.inl rfl)), fun s _ _ _ => by rw [dI_n _ _ _ (H.ne (by omega) (by omega) (by omega))], rfl, fun i _ => by rw [dI_n _ _ _ (H.ne (by omega) (by omega) (by omega))]⟩
theorem KsF.cr (H : RG G ad ro) {p : Nat} (hp : p < 20) (h : KsF ad D D' p) : CrF ad ro D D' := ⟨fun q hq => ⟨h.2.1 q (fun e => hq (by rw [e, H.inj_ 526 (by omega) (by omega)]; exact Or.inr (Or.inr rfl))), by rw [h.1]⟩, fun s _ _ _ => by rw [h.2.1 _ (H.ne (by omega) (by omega) (by omega))], by rw [h.1], fun i hi => h.2.2 i (by omega)⟩
theorem Ent.fr (H : RG G ad ro) (h : Ent ad D T a b z) (f : BgF ad ro D D' T) (hT : T ≤ T') : Ent ad D' T' a b z := by
  obtain ⟨p, n, h1, h2, h3⟩ := h
  exact ⟨p, n, h1, by rw [f.1.mi H (by omega) (by unfold pG; omega)]; exact h2, h3.fr f hT⟩
theorem Nm.row (H : RG G ad ro) {p n i : Nat} {v : Int32} (h : Nm ad D T p z n) : Nm ad (dI D (ad 524) i v) T p z n := h.cells (fun j _ => by rw [dI_n _ _ _ (H.ne (by omega) (by omega) (by omega))]) h.1
theorem Ent.row (H : RG G ad ro) (h : Ent ad D T a b z) {i : Nat} (hi : 20 * a + b ≠ i) {v : Int32} : Ent ad (dI D (ad 524) i v) T a b z := by
  obtain ⟨p, n, h1, h2, h3⟩ := h
  exact ⟨p, n, h1, by rw [dI_o _ _ _ hi]; exact h2, h3.row H⟩
theorem Ent.set (H : RG G ad ro) {p n : Nat} (hn : n ≤ 17) (h : Nm ad D T p z n) : Ent ad (dI D (ad 524) (20 * a + b) (nI p)) T a b z := ⟨p, n, hn, dI_s _ _ _ _, h.row H⟩
theorem TopV.row (H : RG G ad ro) (h : TopV ad D T) {i : Nat} {v : Int32} : TopV ad (dI D (ad 524) i v) T := ⟨by rw [dI_n _ _ _ (H.ne (by omega) (by omega) (by omega))]; exact h.1, h.2⟩
theorem r_in (H : RG G ad ro) {i : Nat} (hi : i < 380) : vp_in (nI i) (G.2.2.1 (ad 524)) := by rw [H.row_.2.2]; exact vp_in_nI hi (by omega)
theorem r_e {i j : Nat} : (20 : Int32) * nI i + nI j = nI (20 * i + j) := by rw [show (20 : Int32) = nI 20 by decide, nI_mul', nI_add]
theorem r_19 {i : Nat} : (20 : Int32) * nI i + 19 = nI (20 * i + 19) := by rw [show (19 : Int32) = nI 19 by decide]; exact r_e
variable {w : Nat → Rat} {C : Nat → Nat → Rat} {post : Int32 → Dat → Prop}
/-- what is kept at the end -/
theorem clear_keep (H : RG G ad ro) (hN : N ≤ 13) (e21 : D.1 (ad 500) 21 = nI N) (hT : T ≤ 600000) {Vx : Nat → Int} (he : ∀ i, i < N → Ent ad D T i 19 (Vx i)) {p n : Nat} {L : Int} (hn : n ≤ 17) (hl : Nm ad D T p L n) (k : ∀ D', CrF ad ro D D' → TopV ad D' 0 → (∀ i, i < N → ∃ m, m ≤ 17 ∧ KpV ad D' i (Vx i) m) → (∃ m, m ≤ 17 ∧ KpV ad D' 19 L m) → post 1 D') : ∃ f, X9_clear_l266 G post (ad 500) (ad 524) (ad 523) (ad 522) f (nI p) 0 D := by
  have n06 : ad 500 ≠ ad 526 := H.ne (by omega) (by omega) (by omega)
  have n16 : ad 501 ≠ ad 526 := H.ne (by omega) (by omega) (by omega)
  have n46 : ad 524 ≠ ad 526 := H.ne (by omega) (by omega) (by omega)
  have n60 : ad 526 ≠ ad 500 := H.ne (by omega) (by omega) (by omega)
  have key := up_loop (L := fun f i (E : Dat) => X9_clear_l266 G post (ad 500) (ad 524) (ad 523) (ad 522) f (nI p) (nI i) E) N (fun i E => CrF ad ro D E ∧ (∀ q, q ≠ ad 526 → E.1 q = D.1 q) ∧ ∀ j, j < i → ∃ m, m ≤ 17 ∧ KpV ad E j (Vx j) m) ?_ ?_ 0 D (by omega) ⟨CrF.rf, fun _ _ => rfl, fun j hj => by omega⟩
  · exact ⟨_, key⟩
  · intro f E hE
    obtain ⟨fE, eo, ek⟩ := hE
    show X9_clear_l266_b G post (ad 500) (ad 524) (ad 523) (ad 522) _ _ _ _
    unfold X9_clear_l266_b
    rw [eo _ n06, e21]
    refine ⟨fun _ => ?_, fun q => absurd (nI_le (Nat.le_refl _) (by omega)) q⟩
    have lE : Nm ad E T p L n := hl.cells (fun j _ => by rw [eo _ n16]) hl.1
    rw [show (19 : Int32) = nI 19 by decide]
    refine keep9_sp H lE (by omega) (by omega) (p := 19) (by omega) (fun D' f' k' => ⟨isB_1, ?_⟩)
    have f2 : CrF ad ro D' (dI D' (ad 500) 2 0) := (bgT H).cr H
    have ke : ∀ i, (dI D' (ad 500) 2 0).1 (ad 526) i = D'.1 (ad 526) i := fun i => by rw [dI_n _ _ _ n60]
    refine k _ ((fE.tr (f'.cr H (by omega))).tr f2) ⟨dI_s _ _ _ _, by omega⟩ (fun i hi => ?_) ⟨n, hn, k'.kept (fun i _ => ke _)⟩
    obtain ⟨m, hm, hk⟩ := ek i hi
    exact ⟨m, hm, hk.kept (fun j hj => by rw [ke, f'.2.2 _ (by omega)])⟩
  · intro f i E hi hE hk
    obtain ⟨fE, eo, ek⟩ := hE
    show X9_clear_l266_b G post (ad 500) (ad 524) (ad 523) (ad 522) _ _ _ _
    unfold X9_clear_l266_b
    obtain ⟨pe, ne, hne, hpe, hNe⟩ := he i hi
    rw [eo _ n06, e21, r_19, nI_clamp (n := 20 * i + 19) (by omega), eo _ n46, hpe, nI_1]
    refine ⟨fun q => absurd q (nI_ge hi (by omega)), fun _ => ⟨r_in H (by omega), ?_⟩⟩
    have lE : Nm ad E T pe (Vx i) ne := hNe.cells (fun j _ => by rw [eo _ n16]) hNe.1
    refine keep9_sp H lE (by omega) (by omega) (by omega) (fun D' f' k' => hk D' ⟨fE.tr (f'.cr H (by omega)), fun q hq => by rw [f'.2.1 q hq]; exact eo q hq, fun j hj => ?_⟩)
    by_cases u : j = i
    · rw [u]; exact ⟨ne, hne, k'⟩
    · obtain ⟨m, hm, hkj⟩ := ek j (by omega)
      exact ⟨m, hm, hkj.kept (fun l hl => f'.2.2 _ (by omega))⟩
/-- one cell is made anew -/
theorem clear_cell (H : RG G ad ro) (hTT : T ≤ 600000) (h : TopV ad D T) {h1 nh pl nl pi ni i j k0 pe ne pk nk : Nat} {hd l y x v r : Int} (hnh : nh ≤ 17) (hh : Nm ad D T h1 hd nh) (hl : Nm ad D T pl l nl) (hni : ni ≤ 17) (hi : Nm ad D T pi y ni) (hne : ne ≤ 17) (hpe : D.1 (ad 524) (20 * i + j) = nI pe) (hx : Nm ad D T pe x ne) (hnk : nk ≤ 17) (hpk : D.1 (ad 524) (20 * k0 + j) = nI pk) (hv : Nm ad D T pk v nk) (hi19 : i < 19) (hk19 : k0 < 19) (hj : j < 20) (hl0 : l ≠ 0) (hr : hd * x - y * v = l * r) (hrb : az r < 1073741824 ^ 17) {k93 : Int32 → Int32 → Dat → Prop} {k126 : Int32 → Int32 → Int32 → Int32 → Dat → Prop} {k163 : Int32 → Int32 → Int32 → Int32 → Int32 → Int32 → Dat → Prop} (k : ∀ D' T' p n, T ≤ T' → T' ≤ T + 159 → BgF ad ro D D' T → TopV ad D' T' → n ≤ 17 → Nm ad D' T' p r n → k163 (nI pl) (nI k0) (nI h1) (nI i) (nI pi) (nI (j + 1)) (dI D' (ad 524) (20 * i + j) (nI p))) : X9_clear_j186 G post (ad 500) (ad 524) (ad 523) (ad 522) k93 k126 k163 (nI pl) (nI k0) (nI h1) (nI i) (nI pi) (nI j) D := by
  have n4 : ∀ {D D' : Dat} {T : Nat}, BgF ad ro D D' T → D'.1 (ad 524) = D.1 (ad 524) := fun f => f.1.mi H (by omega) (by unfold pG; omega)
  unfold X9_clear_j186 X9_clear_j244
  rw [r_e, r_e, nI_clamp (n := 20 * i + j) (by omega), nI_clamp (n := 20 * k0 + j) (by omega), hpe, nI_1]
  refine ⟨r_in H (by omega), times_sp H h hh hx (by omega) (fun D1 n1 hn1 f1 t1 w1 => ⟨r_in H (by omega), ?_⟩)⟩
  rw [n4 f1, hpk]
  refine times_sp H t1 (hi.fr f1 (by omega)) (hv.fr f1 (by omega)) (by omega) (fun D2 n2 hn2 f2 t2 w2 => ?_)
  have hm2 : mxN n1 n2 ≤ 34 := by unfold mxN; split <;> omega
  refine less_sp H t2 (w1.fr f2 (by omega)) w2 (by omega) (fun D3 n3 hn3 f3 t3 w3 => ?_)
  have f13 := (f1.tr f2 (by omega)).tr f3 (by omega)
  refine divided_sp H t3 w3 (hl.fr f13 (by omega)) (by omega) (by omega) hl0 hr (fun D4 n4' hn4 f4 t4 w4 => ⟨r_in H (by omega), ?_⟩)
  have hn17 := w4.sz hrb
  exact k D4 _ _ n4' (by omega) (by omega) (f13.tr f4 (by omega)) t4 hn17 w4
/-- how many cells of a row are made -/
def cj (N j : Nat) : Nat := if j ≤ N then j else if j ≤ 19 then N else N + 1
def stg (k i j a b : Nat) : Nat := if a < i ∨ (a = i ∧ b < j) then k + 1 else k
/-- the cells in the midst of a turn -/
def EntK (ad : Nat → Nat) (D : Dat) (T : Nat) (w : Nat → Rat) (C : Nat → Nat → Rat) (N k i j : Nat) : Prop := ∀ a b, a < N → okc N b → k < b → Ent ad D T a b (zz (Vk w C (stg k i j a b) a (colN N b)))
def EntC (ad : Nat → Nat) (D : Dat) (T : Nat) (w : Nat → Rat) (C : Nat → Nat → Rat) (N k i : Nat) : Prop := ∀ a, a < N → i ≤ a → Ent ad D T a k (zz (Vk w C k a k))
theorem EntK.fr (H : RG G ad ro) {k i j : Nat} (h : EntK ad D T w C N k i j) (f : BgF ad ro D D' T) (hT : T ≤ T') : EntK ad D' T' w C N k i j := fun a b h1 h2 h3 => (h a b h1 h2 h3).fr H f hT
theorem EntC.fr (H : RG G ad ro) {k i : Nat} (h : EntC ad D T w C N k i) (f : BgF ad ro D D' T) (hT : T ≤ T') : EntC ad D' T' w C N k i := fun a h1 h2 => (h a h1 h2).fr H f hT
end CR
