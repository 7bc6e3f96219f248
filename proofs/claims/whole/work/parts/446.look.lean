/-! the reference: look -/
def seac (p k t : Nat) : Int := if t % p = k then 1 else if t % p = p - 1 then -1 else 0
def onec : Nat → Int := fun _ => 1
def rcl (A : AR) : List (Nat → Int) := ((([onec] ++ rmp A) ++ (stl A 40).map stepc) ++ fsl A (aC A)) ++ (List.range (aP A - 1)).map (seac (aP A))
/-- the kind of a part: 0 trend, 2 feast, 1 season -/
def kd (A : AR) (i : Nat) : Nat := if i ≤ fFr A then 0 else if i ≤ nU A then 2 else 1
def NN (A : AR) : Nat := (rcl A).length
theorem tk_succ {l : List Nat} {k : Nat} (h : k < l.length) : l.take (k + 1) = l.take k ++ [l.getD k 0] := by
  rw [List.take_add_one, List.getElem?_eq_getElem h, List.getD_eq_getElem?_getD, List.getElem?_eq_getElem h]
  rfl
theorem rcl_eq (A : AR) : rcl A = onec :: (uc A ++ (List.range (aP A - 1)).map (seac (aP A))) := by
  unfold rcl uc
  simp [List.append_assoc]
theorem NN_eq {A : AR} (hA : RowOK A) : NN A = plc A + nU A := by
  have h := hA.2.2.2.2.2.2
  have h1 : NN A = 1 + (nU A + (aP A - 1)) := by
    unfold NN nU
    rw [rcl_eq, List.length_cons, List.length_append, List.length_map, List.length_range]
    omega
  unfold plc
  rw [h1]
  split <;> omega
theorem NN_le {A : AR} (hA : RowOK A) : NN A ≤ 13 := by
  have h := hA.2.2.2.2.2.2
  have h2 := nU_le hA
  have h3 : plc A ≤ 7 := by unfold plc; split <;> omega
  have := NN_eq hA
  omega
theorem fFr_len (A : AR) : fFr A = (rmp A).length + (stl A 40).length := by unfold fFr; rw [List.length_append, List.length_map]
theorem nU_len (A : AR) : nU A = fFr A + aC A := by unfold nU uc; rw [List.length_append, fsl_len]; rfl
def LkL (ad : Nat → Nat) (D : Dat) (A : AR) (t : Nat) (L : List (Nat → Int)) : Prop := D.1 (ad 500) 21 = nI L.length ∧ ∀ i, i < L.length → (D.1 (ad 519) i).toInt = lc L i t ∧ D.1 (ad 520) i = nI (kd A i)
def LoF (ad : Nat → Nat) (D D' : Dat) : Prop := D'.2 = D.2 ∧ (∀ x, x ≠ ad 500 → x ≠ ad 519 → x ≠ ad 520 → D'.1 x = D.1 x) ∧ ∀ s, s ≠ 21 → D'.1 (ad 500) s = D.1 (ad 500) s
theorem LoF.rf {ad : Nat → Nat} {D : Dat} : LoF ad D D := ⟨rfl, fun _ _ _ _ => rfl, fun _ _ => rfl⟩
theorem LoF.tr {ad : Nat → Nat} {D D1 D2 : Dat} (h : LoF ad D D1) (h2 : LoF ad D1 D2) : LoF ad D D2 := ⟨h2.1.trans h.1, fun x a b c => (h2.2.1 x a b c).trans (h.2.1 x a b c), fun s hs => (h2.2.2 s hs).trans (h.2.2 s hs)⟩
section LK
variable {G : Shp} {ad ro : Nat → Nat} {D D' : Dat} {r : Nat} {A : AR} {t : Nat} {post : Dat → Prop}
theorem LoF.p (H : RG G ad ro) (h : LoF ad D D') {q : Nat} (hq : 500 ≤ q ∧ q < 530) (h0 : q ≠ 500) (h1 : q ≠ 519) (h2 : q ≠ 520) : D'.1 (ad q) = D.1 (ad q) := h.2.1 _ (H.ne hq (by omega) h0) (H.ne hq (by omega) h1) (H.ne hq (by omega) h2)
theorem LoF.fr (H : RG G ad ro) (h : LoF ad D D') : FrP ro D D' (fun q => q = 500 ∨ q = 519 ∨ q = 520) := fun a ha => ⟨h.2.1 a (fun e => ha (by rw [e, H.inj_ 500 (by omega) (by omega)]; exact Or.inl rfl)) (fun e => ha (by rw [e, H.inj_ 519 (by omega) (by omega)]; exact Or.inr (Or.inl rfl))) (fun e => ha (by rw [e, H.inj_ 520 (by omega) (by omega)]; exact Or.inr (Or.inr rfl))), by rw [h.1]⟩
theorem LoF.wk (H : RG G ad ro) (h : LoF ad D D') : WkF ad ro D D' := ⟨(h.fr H).up (fun q hq => by unfold pW; omega), h.2.2 0 (by omega), h.2.2 9 (by omega)⟩
theorem LoF.rr (H : RG G ad ro) (h : LoF ad D D') (hR : RrV ad D r A) : RrV ad D' r A := hR.wk H (h.wk H)
theorem LoF.nm (H : RG G ad ro) (h : LoF ad D D') {T a n : Nat} {z : Int} (hN : Nm ad D T a z n) : Nm ad D' T a z n := hN.cells (fun i _ => by rw [h.p H (q := 501) (by omega) (by omega) (by omega) (by omega)]) hN.1
theorem LoF.top (h : LoF ad D D') {T : Nat} (ht : TopV ad D T) : TopV ad D' T := ⟨by rw [h.2.2 2 (by omega)]; exact ht.1, ht.2⟩
theorem LoF.kp (H : RG G ad ro) (h : LoF ad D D') {p n : Nat} {z : Int} (hk : KpV ad D p z n) : KpV ad D' p z n := hk.kept (fun i _ => by rw [h.p H (q := 526) (by omega) (by omega) (by omega) (by omega)])
theorem part0_sp (H : RG G ad ro) {L : List (Nat → Int)} (h : LkL ad D A t L) (hL : L.length < 19) {f : Nat → Int} {v w : Int32} (hv : v.toInt = f t) (hw : w = nI (kd A L.length)) (k : ∀ D', LoF ad D D' → LkL ad D' A t (L ++ [f]) → post D') : X9_part0_wp G D (ad 500) v w post := by
  have n09 : ad 500 ≠ ad 519 := H.ne (by omega) (by omega) (by omega)
  have n00 : ad 500 ≠ ad 520 := H.ne (by omega) (by omega) (by omega)
  have n90 : ad 519 ≠ ad 520 := H.ne (by omega) (by omega) (by omega)
  refine ⟨H.x_, _, H.ha0_.1, H.ha0_.2.1, _, H.kin_.1, H.kin_.2.1, ?_⟩
  obtain ⟨h1, h2⟩ := h
  rw [dI_n _ _ _ n00, dI_n _ _ _ n09, h1, nI_clamp (by omega), nI_1]
  have hl : (L ++ [f]).length = L.length + 1 := by rw [List.length_append]; rfl
  refine ⟨by rw [H.ha0_.2.2]; exact vp_in_nI hL (by omega), by rw [H.kin_.2.2]; exact vp_in_nI hL (by omega), k _ ⟨rfl, fun x a b c => by rw [dI_n _ _ _ a, dI_n _ _ _ c, dI_n _ _ _ b], fun s hs => by rw [dI_o _ _ _ hs, dI_n _ _ _ n00, dI_n _ _ _ n09]⟩ ⟨by rw [dI_s, hl], fun i hi => ?_⟩⟩
  rw [hl] at hi
  rw [dI_n _ _ _ (fun q => n09 q.symm), dI_n _ _ _ n90, dI_n _ _ _ (fun q => n00 q.symm)]
  by_cases u : i = L.length
  · rw [u, dI_s, dI_s, lc_last]
    exact ⟨hv, hw⟩
  · rw [dI_o _ _ _ u, dI_o _ _ _ u, lc_app (by omega), dI_n _ _ _ (fun q => n90 q.symm)]
    exact h2 i (by omega)
theorem look_sp (H : RG G ad ro) (hr : r < 4) (h : RrV ad D r A) (hA : RowOK A) (ht : t < 80) (k : ∀ D', LoF ad D D' → LkL ad D' A t (rcl A) → post D') : X9_look_wp G D (ad 500) (nI r) (nI t) post := by
  have hP := hA.2.2.2.2.2.2
  have hC := hA.2.2.2.2.2.1
  have h3 := hA.2.2.1
  have hsl := stl_len A 40
  have hfr := fFr_len A
  have hnu := nU_len A
  have hrl := rmp_len A
  have hrl1 : (rmp A).length ≤ 1 := by rw [hrl]; split <;> omega
  refine ⟨H.x_, _, H.lin_.1, H.lin_.2.1, _, H.stp_.1, H.stp_.2.1, _, H.sta_.1, H.sta_.2.1, _, H.fea_.1, H.fea_.2.1, _, H.per_.1, H.per_.2.1, _, H.ion_.1, H.ion_.2.1, ?_⟩
  have f0 : LoF ad D (dI D (ad 500) 21 0) := ⟨rfl, fun x a _ _ => dI_n _ _ _ a, fun s hs => dI_o _ _ _ hs⟩
  have l0 : LkL ad (dI D (ad 500) 21 0) A t [] := ⟨dI_s _ _ _ _, fun i hi => absurd hi (Nat.not_lt_zero i)⟩
  generalize dI D (ad 500) 21 0 = D0 at *
  refine part0_sp (f := onec) H l0 (by show 0 < 19; omega) rfl (by show (0 : Int32) = nI (kd A 0); unfold kd; rw [if_pos (by omega)]; rfl) (fun D1 f1 l1 => ?_)
  have f01 := f0.tr f1
  -- seasons
  have seas : ∀ E : Dat, LoF ad D E → LkL ad E A t ((([onec] ++ rmp A) ++ (stl A 40).map stepc) ++ fsl A (aC A)) → ∃ n, X9_look_l130 G post (ad 500) (nI r) (nI t) (ad 517) (ad 512) (ad 513) (ad 514) (ad 511) (ad 518) n (nI (aP A)) 0 E := by
    intro E fE lE
    have hbase : ((([onec] ++ rmp A) ++ (stl A 40).map stepc) ++ fsl A (aC A)).length = 1 + nU A := by
      rw [List.length_append, List.length_append, List.length_append, List.length_map, fsl_len, hnu, hfr]
      show 1 + _ + _ + _ = _
      omega
    have key := up_loop (L := fun n i (F : Dat) => X9_look_l130 G post (ad 500) (nI r) (nI t) (ad 517) (ad 512) (ad 513) (ad 514) (ad 511) (ad 518) n (nI (aP A)) (nI i) F) (aP A - 1) (fun i F => LoF ad D F ∧ LkL ad F A t (((([onec] ++ rmp A) ++ (stl A 40).map stepc) ++ fsl A (aC A)) ++ (List.range i).map (seac (aP A)))) ?_ ?_ 0 E (by omega) ⟨fE, by rw [List.range_zero, List.map_nil, List.append_nil]; exact lE⟩
    · exact ⟨_, key⟩
    · intro n F hF
      show X9_look_l130_b G post (ad 500) (nI r) (nI t) (ad 517) (ad 512) (ad 513) (ad 514) (ad 511) (ad 518) _ _ _ _
      refine ⟨fun _ => k F hF.1 hF.2, fun q => absurd ?_ q⟩
      by_cases w : aP A = 0
      · rw [w]; decide
      · rw [nI_sub1 (by omega)]; exact nI_le (Nat.le_refl _) (by omega)
    · intro n i F hi hF hk
      show X9_look_l130_b G post (ad 500) (nI r) (nI t) (ad 517) (ad 512) (ad 513) (ad 514) (ad 511) (ad 518) _ _ _ _
      unfold X9_look_l130_b X9_look_j165
      rw [pk_rem (by omega) (by omega) (by omega), nI_sub1 (n := aP A) (by omega), nI_1 i]
      have hm : t % aP A < aP A := Nat.mod_lt _ (by omega)
      have go : ∀ v : Int32, v.toInt = seac (aP A) i t → X9_part0_wp G F (ad 500) v 1 (fun D3 => X9_look_l130 G post (ad 500) (nI r) (nI t) (ad 517) (ad 512) (ad 513) (ad 514) (ad 511) (ad 518) n (nI (aP A)) (nI (i + 1)) D3) := by
        intro v hv
        have hlen : (((([onec] ++ rmp A) ++ (stl A 40).map stepc) ++ fsl A (aC A)) ++ (List.range i).map (seac (aP A))).length = 1 + nU A + i := by rw [List.length_append, hbase, List.length_map, List.length_range]
        refine part0_sp H hF.2 (by rw [hlen]; omega) hv (by rw [hlen]; unfold kd; rw [if_neg (by omega), if_neg (by omega)]; rfl) (fun D3 f3 l3 => hk D3 ⟨hF.1.tr f3, ?_⟩)
        rw [List.range_succ, List.map_append, ← List.append_assoc]
        exact l3
      refine ⟨fun q => absurd q (nI_ge hi (by omega)), fun _ => ⟨nI_ne0 (by omega) (by omega), fun q => ⟨nI_ne0 (by omega) (by omega), fun q2 => ⟨H.x_, go 0 ?_⟩, fun q2 => ⟨H.x_, go (-1) ?_⟩⟩, fun q => ⟨H.x_, go 1 ?_⟩⟩⟩
      · rw [nI_eq (by omega) (by omega)] at q q2
        unfold seac
        rw [if_neg q, if_neg q2]; rfl
      · rw [nI_eq (by omega) (by omega)] at q q2
        unfold seac
        rw [if_neg q, if_pos q2]; rfl
      · rw [nI_eq (by omega) (by omega)] at q
        unfold seac
        rw [if_pos q]; rfl
  -- feasts
  have feas : ∀ E : Dat, LoF ad D E → LkL ad E A t (([onec] ++ rmp A) ++ (stl A 40).map stepc) → ∃ n, X9_look_l70 G post (ad 500) (nI r) (nI t) (ad 517) (ad 512) (ad 513) (ad 514) (ad 511) (ad 518) n 0 E := by
    intro E fE lE
    have hbase : (([onec] ++ rmp A) ++ (stl A 40).map stepc).length = 1 + fFr A := by
      rw [List.length_append, List.length_append, List.length_map, hfr]
      show 1 + _ + _ = _
      omega
    have key := up_loop (L := fun n i (F : Dat) => X9_look_l70 G post (ad 500) (nI r) (nI t) (ad 517) (ad 512) (ad 513) (ad 514) (ad 511) (ad 518) n (nI i) F) (aC A) (fun i F => LoF ad D F ∧ LkL ad F A t ((([onec] ++ rmp A) ++ (stl A 40).map stepc) ++ fsl A i)) ?_ ?_ 0 E (by omega) ⟨fE, by show LkL ad E A t (_ ++ []); rw [List.append_nil]; exact lE⟩
    · exact ⟨_, key⟩
    · intro n F hF
      have hR := hF.1.rr H h
      show X9_look_l70_b G post (ad 500) (nI r) (nI t) (ad 517) (ad 512) (ad 513) (ad 514) (ad 511) (ad 518) _ _ _
      unfold X9_look_l70_b
      rw [nI_clamp (n := r) (by omega), hR.2.2.2.2.1, hR.2.1]
      exact ⟨in4 H H.fea_ hr, fun _ => ⟨in4 H H.per_ hr, seas F hF.1 hF.2⟩, fun q => absurd (nI_le (Nat.le_refl _) (by omega)) q⟩
    · intro n i F hi hF hk
      have hR := hF.1.rr H h
      show X9_look_l70_b G post (ad 500) (nI r) (nI t) (ad 517) (ad 512) (ad 513) (ad 514) (ad 511) (ad 518) _ _ _
      have go : ∀ v : Int32, v.toInt = feastc (aE A i) t → X9_part0_wp G F (ad 500) v 2 (fun D3 => X9_look_l70 G post (ad 500) (nI r) (nI t) (ad 517) (ad 512) (ad 513) (ad 514) (ad 511) (ad 518) n (nI (i + 1)) D3) := by
        intro v hv
        have hlen : ((([onec] ++ rmp A) ++ (stl A 40).map stepc) ++ fsl A i).length = 1 + fFr A + i := by rw [List.length_append, hbase, fsl_len]
        refine part0_sp H hF.2 (by rw [hlen]; omega) hv (by rw [hlen]; unfold kd; rw [if_neg (by omega), if_pos (by omega)]; rfl) (fun D3 f3 l3 => hk D3 ⟨hF.1.tr f3, ?_⟩)
        rw [fsl_succ, ← List.append_assoc]
        exact l3
      unfold X9_look_l70_b X9_look_j109 X9_look_j110
      rw [nI_clamp (n := r) (by omega), hR.2.2.2.2.1, on_e, nI_1 i]
      refine ⟨in4 H H.fea_ hr, fun q => absurd q (nI_ge hi (by omega)), fun _ => ⟨fun q => ⟨H.x_, go 0 ?_⟩, fun q => ?_⟩⟩
      · have h40 : ¬ t < 40 := fun u => absurd q (by rw [show (40 : Int32) = nI 40 by decide]; exact nI_ge u (by omega))
        unfold feastc
        rw [decide_eq_false h40, Bool.false_and, if_neg (by decide)]; rfl
      · have h40 : t < 40 := by
          by_cases u : t < 40
          · exact u
          · exact absurd (by rw [show (40 : Int32) = nI 40 by decide]; exact nI_le (by omega) (by omega)) q
        rw [nI_clamp (n := 40 * (2 * r + i) + t) (by omega), hR.2.2.2.2.2.2 i hi t h40]
        refine ⟨in320 H (by omega), fun q2 => ⟨H.x_, go 0 ?_⟩, fun q2 => ⟨H.x_, go 1 ?_⟩⟩
        · unfold feastc
          rw [bI_0.mp q2, Bool.and_false, if_neg (by decide)]; rfl
        · unfold feastc
          rw [bI_n0.mp q2, decide_eq_true h40, Bool.true_and, if_pos rfl]; rfl
  -- steps
  have step : ∀ E : Dat, LoF ad D E → LkL ad E A t ([onec] ++ rmp A) → X9_look_j26 G post (ad 500) (nI r) (nI t) (ad 517) (ad 512) (ad 513) (ad 514) (ad 511) (ad 518) E := by
    intro E fE lE
    have hbase : ([onec] ++ rmp A).length = 1 + (rmp A).length := by rw [List.length_append]; rfl
    have key := up_loop (L := fun n i (F : Dat) => X9_look_l28 G post (ad 500) (nI r) (nI t) (ad 517) (ad 512) (ad 513) (ad 514) (ad 511) (ad 518) n (nI i) F) (ct (aS A) 40) (fun i F => LoF ad D F ∧ LkL ad F A t (([onec] ++ rmp A) ++ ((stl A 40).take i).map stepc)) ?_ ?_ 0 E (by omega) ⟨fE, by rw [List.take_zero, List.map_nil, List.append_nil]; exact lE⟩
    · exact ⟨_, key⟩
    · intro n F hF
      have hR := hF.1.rr H h
      show X9_look_l28_b G post (ad 500) (nI r) (nI t) (ad 517) (ad 512) (ad 513) (ad 514) (ad 511) (ad 518) _ _ _
      unfold X9_look_l28_b
      rw [nI_clamp (n := r) (by omega), hR.2.2.1]
      refine ⟨in4 H H.stp_ hr, fun _ => feas F hF.1 ?_, fun q => absurd (nI_le (Nat.le_refl _) (by omega)) q⟩
      have e : (stl A 40).take (ct (aS A) 40) = stl A 40 := by rw [← hsl]; exact List.take_length
      have := hF.2
      rw [e] at this
      exact this
    · intro n i F hi hF hk
      have hR := hF.1.rr H h
      show X9_look_l28_b G post (ad 500) (nI r) (nI t) (ad 517) (ad 512) (ad 513) (ad 514) (ad 511) (ad 518) _ _ _
      have hs40 : (stl A 40).getD i 0 < 40 := stl_lt (gd_mem (by omega))
      have go : ∀ v : Int32, v.toInt = stepc ((stl A 40).getD i 0) t → X9_part0_wp G F (ad 500) v 0 (fun D3 => X9_look_l28 G post (ad 500) (nI r) (nI t) (ad 517) (ad 512) (ad 513) (ad 514) (ad 511) (ad 518) n (nI (i + 1)) D3) := by
        intro v hv
        have hlen : (([onec] ++ rmp A) ++ ((stl A 40).take i).map stepc).length = 1 + (rmp A).length + i := by rw [List.length_append, hbase, List.length_map, List.length_take]; omega
        refine part0_sp H hF.2 (by rw [hlen]; omega) hv (by rw [hlen]; unfold kd; rw [if_pos (by omega)]; rfl) (fun D3 f3 l3 => hk D3 ⟨hF.1.tr f3, ?_⟩)
        rw [tk_succ (by omega), List.map_append, ← List.append_assoc]
        exact l3
      unfold X9_look_l28_b X9_look_j58
      rw [nI_clamp (n := r) (by omega), hR.2.2.1, st_e, nI_clamp (n := 3 * r + i) (by omega), hR.2.2.2.1 i hi, nI_1 i]
      refine ⟨in4 H H.stp_ hr, fun q => absurd q (nI_ge hi (by omega)), fun _ => ⟨in12 H (by omega), fun q => ⟨H.x_, go 0 ?_⟩, fun q => ⟨H.x_, go 1 ?_⟩⟩⟩
      · have := (I_lt _ _).mp q
        rw [nI_toInt (by omega), nI_toInt (by omega)] at this
        unfold stepc
        rw [if_neg (by omega)]; rfl
      · have : ¬ t < (stl A 40).getD i 0 := fun u => q (nI_lt u (by omega))
        unfold stepc
        rw [if_pos (by omega)]; rfl
  have hR1 := f01.rr H h
  rw [nI_clamp (by omega), hR1.2.2.2.2.2.1]
  refine ⟨in4 H H.lin_ hr, fun q => step D1 f01 ?_, fun q => ?_⟩
  · have e : rmp A = [] := if_neg (by rw [bI_0.mp q]; decide)
    rw [e, List.append_nil]
    exact l1
  · have e : rmp A = [rampc] := if_pos (bI_n0.mp q)
    have e1 : (rmp A).length = 1 := by rw [e]; rfl
    refine part0_sp (f := rampc) H l1 (by show 1 < 19; omega) (by rw [nI_toInt (by omega)]; rfl) (by show (0 : Int32) = nI (kd A 1); unfold kd; rw [if_pos (by omega)]; rfl) (fun D2 f2 l2 => step D2 (f01.tr f2) ?_)
    rw [e]
    exact l2
end LK
