/-! OUT -/
def dgf : Nat → Nat → List Nat
  | 0, _ => []
  | f + 1, n => (48 + n % 10) :: (if n / 10 = 0 then [] else dgf f (n / 10))
theorem dgf_len : ∀ f n, (dgf f n).length ≤ f
  | 0, n => Nat.le_refl 0
  | f + 1, n => by
    unfold dgf
    split
    · simp
    · have := dgf_len f (n / 10)
      simp
      exact this
/-- the bytes of a fraction: top and bottom -/
def frB (z : Int) (d : Int) : List Nat := (if z < 0 then [45] else []) ++ ((dgf 100 z.natAbs).reverse ++ (47 :: (dgf 100 d.natAbs).reverse))
def SheetV (ad : Nat → Nat) (D : Dat) (L : List Nat) : Prop := D.1 (ad 5) 1 = nI (256 - L.length) ∧ L.length ≤ 256 ∧ ∀ k, k < L.length → D.1 (ad 7) (256 - L.length + k) = nI (L.getD k 0)
def pS (q : Nat) : Prop := q = 5 ∨ q = 7
theorem byte_id : ∀ c, c < 128 → vp_nar .byte (nI c).toInt8.toInt32 = nI c := by decide +kernel
section SH
variable {G : Shp} {ad ro : Nat → Nat} {D : Dat}
theorem SheetV.fr (H : CS G ad ro) {D' : Dat} {P : Nat → Prop} {L : List Nat} (h : SheetV ad D L) (f : FrP ro D D' P) (hP : ∀ q, pS q → ¬ P q) : SheetV ad D' L := by
  refine ⟨?_, h.2.1, fun k hk => ?_⟩
  · rw [f.i H (by omega) (hP 5 (Or.inl rfl))]; exact h.1
  · rw [f.i H (by omega) (hP 7 (Or.inr rfl))]; exact h.2.2 k hk
theorem writeByte_sp (H : CS G ad ro) {L : List Nat} (h : SheetV ad D L) (hL : L.length < 256) {c : Nat} (hc : c < 128) {post : Dat → Prop} (k : ∀ D', FrP ro D D' pS → SheetV ad D' (c :: L) → post D') : X4_writeByte_wp G D (ad 5) (nI c) post := by
  refine ⟨H.sh_, _, H.sh0_, H.by_, ?_⟩
  have ne : ad 5 ≠ ad 7 := H.ne (by omega) (by omega) (by omega)
  rw [dI_s, h.1, nI_sub1 (by omega), nI_clamp (by omega), byte_id c hc]
  refine ⟨fun q => absurd q (nI_nle (by omega) (by omega)), fun _ => ⟨by rw [H.byl_]; exact vp_in_nI (by omega) (by omega), ?_⟩⟩
  refine k _ ((FrP.dI (by rw [H.inj_ 5 (by omega)]; exact Or.inl rfl)).tr (FrP.dI (by rw [H.inj_ 7 (by omega)]; exact Or.inr rfl))) ⟨?_, ?_, fun j hj => ?_⟩
  · rw [dI_n _ _ _ ne, dI_s]
    rw [show 256 - (c :: L).length = 256 - L.length - 1 by simp; omega]
  · simp; omega
  · have e : 256 - (c :: L).length = 256 - L.length - 1 := by simp; omega
    rw [e]
    cases j with
    | zero => rw [Nat.add_zero, dI_s]; rfl
    | succ j =>
      have hj2 : j < L.length := by simp at hj; omega
      rw [dI_o _ _ _ (by omega), dI_n _ _ _ (fun q => ne q.symm)]
      have := h.2.2 j hj2
      rw [show 256 - L.length - 1 + (j + 1) = 256 - L.length + j by omega, this]
      rfl
theorem writeDigits_sp (H : CS G ad ro) {L : List Nat} (h : SheetV ad D L) (hL : L.length + 100 ≤ 256) {b : Nat} (hb : okb b) {z : Int} (hz : BigR ad D b z) {post : Dat → Prop} (k : ∀ D', FrP ro D D' (fun q => pS q ∨ pB b q) → SheetV ad D' ((dgf 100 z.natAbs).reverse ++ L) → post D') : X4_writeDigits_wp G D (ad 5) (ad (bg b)) post := by
  refine ⟨H.sh_, (H.big_ b hb).1, ?_⟩
  have nS : ∀ q, pS q → ¬ pB b q := fun q a c => by unfold pS at a; unfold pB bg at c; omega
  have key := up_loop (L := fun n i (E : Dat) => X4_writeDigits_l2 G post (ad 5) (ad (bg b)) n (nI i) E) 100 (fun i E => FrP ro D E (fun q => pS q ∨ pB b q) ∧ ∃ (x : Int) (M : List Nat), BigR ad E b x ∧ SheetV ad E M ∧ M.length ≤ L.length + i ∧ (if i = 0 ∨ x ≠ 0 then (dgf (100 - i) x.natAbs) else []).reverse ++ M = (dgf 100 z.natAbs).reverse ++ L) ?_ ?_ 0 D (by omega) ⟨FrP.rf, z, L, hz, h, by omega, by rw [if_pos (Or.inl rfl)]⟩
  · exact ⟨_, key⟩
  · intro n E hE
    obtain ⟨fE, x, M, hx, hM, hl, he⟩ := hE
    show X4_writeDigits_l2_b G post (ad 5) (ad (bg b)) _ _ _
    refine ⟨fun _ => k E fE ?_, fun q => absurd (by decide) q⟩
    have e : (if 100 = 0 ∨ x ≠ 0 then (dgf (100 - 100) x.natAbs) else []) = [] := by split <;> rfl
    rw [e] at he
    rw [← he]
    exact hM
  · intro n i E hi hE hk
    obtain ⟨fE, x, M, hx, hM, hl, he⟩ := hE
    show X4_writeDigits_l2_b G post (ad 5) (ad (bg b)) _ _ _
    refine ⟨fun q => absurd q (by rw [show (100 : Int32) = nI 100 by decide]; exact nI_ge hi (by omega)), fun _ => ?_⟩
    have go : (i = 0 ∨ x ≠ 0) → X4_writeDigits_j19 G post (ad 5) (ad (bg b)) (X4_writeDigits_l2 G post (ad 5) (ad (bg b)) n) (nI i) E := by
      intro hc
      rw [if_pos hc] at he
      have e10 : (10 : Int64).toInt = 10 := rfl
      refine divideR H hb hx (by rw [e10]; omega) (by rw [e10]; omega) (fun D1 v f1 b1 hv => ?_)
      rw [e10] at b1 hv
      have hn : az x = (x.natAbs : Int) := by unfold az; split <;> omega
      have hm : x.natAbs % 10 < 10 := Nat.mod_lt _ (by omega)
      have hv2 : v.toInt = ((x.natAbs % 10 : Nat) : Int) := by rw [hv, hn]; omega
      have e48 : (48 : Int64).toInt = 48 := rfl
      have es : (48 + v).toInt = ((48 + x.natAbs % 10 : Nat) : Int) := by
        rw [L_add (by rw [e48]; omega) (by rw [e48]; omega), e48, hv2]; omega
      have ec : (48 + v).toInt32 = nI (48 + x.natAbs % 10) := nI_of_int (by rw [L_l2i (by omega) (by omega), es]) (by omega)
      rw [ec]
      refine writeByte_sp H (hM.fr H f1 nS) (by omega) (by omega) (fun D2 f2 s2 => ?_)
      rw [nI_1]
      have b2 : BigR ad D2 b (x.tdiv 10) := b1.fr H hb f2 (fun w => by unfold pS bg at w; omega) (fun w => by unfold pS bg at w; omega)
      refine hk D2 ⟨fE.tr ((f1.up (fun q a => Or.inr a)).tr (f2.up (fun q a => Or.inl a))), x.tdiv 10, _, b2, s2, by simp; omega, ?_⟩
      have ea : (x.tdiv 10).natAbs = x.natAbs / 10 := by
        rw [Int.natAbs_tdiv]
        rfl
      rw [← he]
      have e99 : 100 - i = (100 - (i + 1)) + 1 := by omega
      rw [e99]
      show _ = ((48 + x.natAbs % 10) :: (if x.natAbs / 10 = 0 then [] else dgf (100 - (i + 1)) (x.natAbs / 10))).reverse ++ M
      rw [List.reverse_cons, List.append_assoc]
      show _ = _ ++ ((48 + x.natAbs % 10) :: M)
      congr 2
      rw [ea]
      by_cases q : x.natAbs / 10 = 0
      · rw [if_pos q, if_neg (by omega)]
      · rw [if_neg q, if_pos (Or.inr (by omega))]
    refine ⟨fun q => ?_, fun q => ?_⟩
    · exact go (Or.inl (by
        rw [nI_0', nI_eq (by omega) (by omega)] at q
        exact q))
    · have hi0 : i ≠ 0 := fun w => q (by rw [w]; exact nI_0)
      refine isZeroR H hb hx ⟨fun q => ?_, fun q => ?_⟩
      · have hx0 : x = 0 := by
          by_cases w : x = 0
          · exact w
          · rw [if_neg w] at q; exact absurd rfl q
        have e : (if i = 0 ∨ x ≠ 0 then (dgf (100 - i) x.natAbs) else []) = [] := by rw [if_neg (by omega)]
        rw [e] at he
        refine k E fE ?_
        rw [← he]
        exact hM
      · refine go (Or.inr (fun w => ?_))
        rw [if_pos w] at q
        exact absurd q (by decide)
/-- a fraction is written -/
theorem write_sp (H : CS G ad ro) {z d : Int} (hz : BigR ad D 7 z) (hd : BigR ad D 8 d) {post : Dat → Prop} (k : ∀ D', FrP ro D D' (fun q => pS q ∨ pB 7 q ∨ pB 8 q) → SheetV ad D' (frB z d) → post D') : X4_write_wp G D (ad 5) (ad 4) post := by
  have ok7 : okb 7 := by unfold okb; omega
  have ok8 : okb 8 := by unfold okb; omega
  refine ⟨H.sh_, H.a_, _, H.a1_, (H.big_ 7 ok7).1, _, H.a2_, (H.big_ 8 ok8).1, ?_⟩
  generalize hD0 : dI D (ad 5) 1 256 = D0
  have f0 : FrP ro D D0 pS := by rw [← hD0]; exact FrP.dI (by rw [H.inj_ 5 (by omega)]; exact Or.inl rfl)
  have s0 : SheetV ad D0 [] := by
    rw [← hD0]
    exact ⟨by rw [dI_s]; rfl, by simp, fun k hk => by simp at hk⟩
  have z0 : BigR ad D0 7 z := hz.fr H ok7 f0 (fun w => by unfold pS bg at w; omega) (fun w => by unfold pS bg at w; omega)
  have d0 : BigR ad D0 8 d := hd.fr H ok8 f0 (fun w => by unfold pS bg at w; omega) (fun w => by unfold pS bg at w; omega)
  rw [BigV.below z0]
  refine writeDigits_sp H s0 (by simp) ok8 d0 (fun D1 f1 s1 => ?_)
  have l1 := dgf_len 100 d.natAbs
  rw [List.append_nil] at s1
  have z1 : BigR ad D1 7 z := z0.fr H ok7 f1 (fun w => by unfold pS pB bg at w; omega) (fun w => by unfold pS pB bg at w; omega)
  refine writeByte_sp (c := 47) H s1 (by simp; omega) (by omega) (fun D2 f2 s2 => ?_)
  have z2 : BigR ad D2 7 z := z1.fr H ok7 f2 (fun w => by unfold pS bg at w; omega) (fun w => by unfold pS bg at w; omega)
  refine writeDigits_sp H s2 (by simp; omega) ok7 z2 (fun D3 f3 s3 => ?_)
  have l2 := dgf_len 100 z.natAbs
  have F3 : FrP ro D D3 (fun q => pS q ∨ pB 7 q ∨ pB 8 q) := (((f0.up (fun q a => Or.inl a)).tr (f1.up (fun q a => a.elim Or.inl (fun a => Or.inr (Or.inr a))))).tr (f2.up (fun q a => Or.inl a))).tr (f3.up (fun q a => a.elim Or.inl (fun a => Or.inr (Or.inl a))))
  refine ⟨fun q => ?_, fun q => ?_⟩
  · have hz0 : ¬ z < 0 := fun w => by rw [if_pos w] at q; exact absurd q (by decide)
    refine k D3 F3 ?_
    unfold frB
    rw [if_neg hz0]
    exact s3
  · have hz0 : z < 0 := by
      by_cases w : z < 0
      · exact w
      · rw [if_neg w] at q; exact absurd rfl q
    refine writeByte_sp (c := 45) H s3 (by simp; omega) (by omega) (fun D4 f4 s4 => k D4 (F3.tr (f4.up (fun q a => Or.inl a))) ?_)
    unfold frB
    rw [if_pos hz0]
    exact s4
theorem byteAt_sp (H : CS G ad ro) {L : List Nat} (h : SheetV ad D L) {v : Int32} {post : Int32 → Dat → Prop} (k : post (if 0 ≤ v.toInt ∧ v.toInt < L.length then nI (L.getD v.toInt.toNat 0) else -1) D) : X4_byteAt_wp G D (ad 5) v post := by
  refine ⟨H.sh_, _, H.sh0_, H.by_, fun q => ?_, fun q => ?_⟩
  · have : v.toInt < (0 : Int32).toInt := (I_lt _ _).mp q
    have e0 : (0 : Int32).toInt = 0 := rfl
    rw [if_neg (by omega)] at k
    exact k
  · have hv : ¬ v.toInt < (0 : Int32).toInt := fun w => q ((I_lt _ _).mpr w)
    have e0 : (0 : Int32).toInt = 0 := rfl
    refine ⟨H.sh_, ?_⟩
    rw [h.1]
    have hl := h.2.1
    have e : 256 - nI (256 - L.length) = nI L.length := by
      apply Int32.toInt_inj.mp
      have e1 : (256 : Int32).toInt = 256 := rfl
      have e2 : (nI (256 - L.length)).toInt = ((256 - L.length : Nat) : Int) := nI_toInt (by omega)
      rw [I_sub (by rw [e1, e2]; omega) (by rw [e1, e2]; omega), e1, e2, nI_toInt (by omega)]
      omega
    rw [e]
    have el : (nI L.length).toInt = (L.length : Int) := nI_toInt (by omega)
    refine ⟨fun q => ?_, fun q => ?_⟩
    · have : (nI L.length).toInt ≤ v.toInt := (I_le _ _).mp q
      rw [if_neg (by omega)] at k
      exact k
    · have : ¬ (nI L.length).toInt ≤ v.toInt := fun w => q ((I_le _ _).mpr w)
      rw [if_pos (by omega)] at k
      have ev : v = nI v.toInt.toNat := nI_of_int (by omega) (by omega)
      have hn : v.toInt.toNat < L.length := by omega
      generalize v.toInt.toNat = n at hn k ev
      clear this q hv
      subst ev
      rw [h.1, nI_add]
      refine ⟨by rw [H.byl_]; exact vp_in_nI (by omega) (by omega), ?_⟩
      rw [nI_clamp (by omega)]
      unfold X4_byteAt_j27
      rw [h.2.2 n (by omega)]
      exact k
theorem length_sp (H : CS G ad ro) {L : List Nat} (h : SheetV ad D L) {post : Int32 → Dat → Prop} (k : post (nI L.length) D) : X4_length_wp G D (ad 5) post := by
  refine ⟨H.sh_, ?_⟩
  rw [h.1]
  have hl := h.2.1
  have e : 256 - nI (256 - L.length) = nI L.length := by
    apply Int32.toInt_inj.mp
    have e1 : (256 : Int32).toInt = 256 := rfl
    have e2 : (nI (256 - L.length)).toInt = ((256 - L.length : Nat) : Int) := nI_toInt (by omega)
    rw [I_sub (by rw [e1, e2]; omega) (by rw [e1, e2]; omega), e1, e2, nI_toInt (by omega)]
    omega
  rw [e]
  exact k
end SH
