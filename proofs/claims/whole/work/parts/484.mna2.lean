/-! new long[n][m], over the pool -/
def gM (G : Shp) (q : Nat) (r : Nat → Nat) (N K : Nat) : Shp := (G.1 ++ (List.range N).map r ++ [q], va_up (vr_up G.2.1 ((List.range N).map r) 12) q 17, va_up (vr_up G.2.2.1 ((List.range N).map r) K) q N, va_up (vr_up G.2.2.2 ((List.range N).map r) (fun _ => none)) q (fun i => if i < N then some (r i) else none))
def dM (D : Dat) (q : Nat) (r : Nat → Nat) (N : Nat) : Dat := (va_up (vr_up D.1 ((List.range N).map r) (fun _ => 0)) q (fun _ => 0), va_up (vr_up D.2 ((List.range N).map r) (fun _ => 0)) q (fun _ => 0))
section JM
variable {κ : Ctx} {cells slots : Nat} {G : Shp} {D : Dat} {pc : Nat} {lv : List (Nat × Value)} {st : List Value} {cc : ByteArray} {own : String} {rm : Room} {mx : Nat}
theorem j_mna (C : Cx κ cc own rm mx) (Cw : Cc κ) {index : Nat} (w1 : Cond.classLink own index "[[J" ∈ tb) (w2 : Cond.arrayClass .long ∈ tb) {n k : Int32} {N' K' : Nat} (hn : ¬ n < 0) (hk : ¬ k < 0) (hN : n.toNatClampNeg = N') (hM : k.toNatClampNeg = K') (hb1 : N' * 4 ≤ 536870912) (hb2 : K' * 8 ≤ 536870912) (hcs : cells + (1 + N') ≤ rm.cells ∧ slots + (N' + N' * K') ≤ rm.slots) (hd : decode cc pc = .ok (.multianewarray index 2, 4)) (kk : ∀ (q : Nat) (r : Nat → Nat), (∀ i j : Nat, i < N' → j < N' → r i = r j → i = j) → (∀ i : Nat, i < N' → r i ∉ G.1) → q ∉ G.1 ++ (List.range N').map r → J κ (cells + 1 + N') (slots + N' + N' * K') (gM G q r N' K') (dM D q r N') (pc + 4) lv (.ref q :: st)) : J κ cells slots G D pc lv (.int k :: .int n :: st) := by
  obtain ⟨p, l, e, R, s, m, args, below, meth, c, Q, Dc, Y, A, H0, nL⟩ := κ
  intro H locs ls hP hD hS hl
  obtain rfl : R = rm := C.2.2.2.2.2.2.2.1
  have hcy : s.vm.findClass (FieldType.array .long).toString = some (Y 2) := (C.2.2.2.2.2.1.2 2 (Y 2, .long) rfl).2
  refine va_mna (X := []) (L := G.1) (f := pE Y G D) (ty := .long) (z := (K', .inr (.inl (fun _ => 0)))) C.1 C.2.1 C.2.2.2.1 (C.2.2.2.2.1 _ w1) Cw.2.2.2.2 (C.2.2.2.2.1 _ w2) hcy C.2.2.2.2.2.1 hP hD hS C.2.2.2.2.2.2.1 hn hk hN hM hb1 hb2 (by omega) rfl rfl hcs.1 hcs.2 (fun c9 => by rw [vp_cell_l, ← arrV_new]; rfl) hd (fun q r cA H1 hr1 hr2 hK1 hP1 hD1 hS1 => ?_)
  have hD2 := va_D.swap hD1
  have hP2 := va_P.swap hP1
  rw [List.nil_append] at hP2 hD2
  have hq : q ∉ G.1 ++ (List.range N').map r := va_pl_fresh2 (X := []) hD2
  have e1 : s.vm.findClass ("[" ++ (FieldType.array .long).toString) = some cA := (hK1.2 (tyl Y).length (cA, .array .long) (by rw [List.getElem?_append_right (Nat.le_refl _), Nat.sub_self]; rfl)).2
  have e2 : s.vm.findClass ("[" ++ (FieldType.array .long).toString) = some (Y 7) := (C.2.2.2.2.2.1.2 7 (Y 7, .array .long) rfl).2
  have e3 : cA = Y 7 := Option.some.inj (e1.symm.trans e2)
  have key : va_pl (G.1 ++ (List.range N').map r) (vr_up (pE Y G D) ((List.range N').map r) (.inl (Y 2, K', .inr (.inl (fun _ => 0))))) ++ [(q, .inl (cA, N', .inr (.inr (.inr (.inr (fun i => if i < N' then some (r i) else none))))))] = PW Y (gM G q r N' K') (dM D q r N') := by
    unfold PW
    rw [List.nil_append, va_pl_push hq, e3]
    refine va_pl_congr (fun a => ?_)
    by_cases ea : a = q
    · subst ea
      rw [va_up_self]
      show _ = pE Y (gM G a r N' K') (dM D a r N') a
      unfold pE gM dM
      dsimp only
      rw [va_up_self, va_up_self, va_up_self, va_up_self, va_up_self]
      rfl
    · rw [va_up_ne _ _ ea]
      show _ = pE Y (gM G q r N' K') (dM D q r N') a
      unfold pE gM dM
      dsimp only
      rw [va_up_ne _ _ ea, va_up_ne _ _ ea, va_up_ne _ _ ea, va_up_ne _ _ ea, va_up_ne _ _ ea]
      by_cases ha : a ∈ (List.range N').map r
      · rw [vr_up_in ha, vr_up_in ha, vr_up_in ha, vr_up_in ha, vr_up_in ha, vr_up_in ha]
        rfl
      · rw [vr_up_ne ha, vr_up_ne ha, vr_up_ne ha, vr_up_ne ha, vr_up_ne ha, vr_up_ne ha]
  rw [key] at hP2 hD2
  exact kk q r hr1 hr2 hq H1 locs ls hP2 hD2 hS1 hl
end JM
