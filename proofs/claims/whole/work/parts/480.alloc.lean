/-! making: rows for new objects and arrays, over the pool -/
def gP (G : Shp) (q k n : Nat) : Shp := (G.1 ++ [q], va_up G.2.1 q k, va_up G.2.2.1 q n, va_up G.2.2.2 q (fun _ => none))
def dP (D : Dat) (q : Nat) : Dat := (va_up D.1 q (fun _ => 0), va_up D.2 q (fun _ => 0))
theorem PW_push {Y : Nat → ClassId} {G : Shp} {D : Dat} {q k n : Nat} (h : q ∉ G.1) : PW Y G D ++ [(q, pe Y k n (fun _ => none) (fun _ => 0) (fun _ => 0))] = PW Y (gP G q k n) (dP D q) := by
  unfold PW
  rw [List.nil_append, List.nil_append, va_pl_push h]
  refine va_pl_congr (fun a => ?_)
  by_cases e : a = q
  · subst e
    rw [va_up_self]
    show _ = pE Y (gP G a k n) (dP D a) a
    unfold pE gP dP
    dsimp only
    rw [va_up_self, va_up_self, va_up_self, va_up_self, va_up_self]
  · rw [va_up_ne _ _ e]
    show _ = pE Y (gP G q k n) (dP D q) a
    unfold pE gP dP
    dsimp only
    rw [va_up_ne _ _ e, va_up_ne _ _ e, va_up_ne _ _ e, va_up_ne _ _ e, va_up_ne _ _ e]
theorem PW_fresh {A : Nat → Prop} {Y : Nat → ClassId} {G : Shp} {D : Dat} {q : Nat} {e : va_E} (hD : va_D A (PW Y G D ++ [(q, e)])) : q ∉ G.1 := va_pl_fresh2 (X := []) hD
def va_AOA (ty : FieldType) (U : State) : Prop := (Cond.arrayOver (.array ty)).before #[] U = true
theorem va_AOA.use {ty : FieldType} {A : Array Value} {U : State} (h : va_AOA ty U) : (Cond.arrayOver (.array ty)).before A U = true := h
theorem va_AOA.moved {ty : FieldType} {u U : State} (hvm : u.vm.Alike U.vm) (h : va_AOA ty u) : va_AOA ty U := by
  unfold va_AOA Cond.before Cond.holds at *
  simp only [Cond.value] at *
  rw [hvm.findClass, hvm.findClass]
  cases hc : u.vm.findClass (FieldType.array ty).toString with
  | none => rw [hc] at h; simp at h
  | some comp =>
    rw [hc] at h
    rw [Option.bind_some] at h ⊢
    rw [hvm.findIdx?_eq _ (fun _ => rfl)]
    generalize Array.findIdx? _ u.vm.classes = o at h ⊢
    cases o with
    | none => simp at h
    | some c =>
      rw [Option.bind_some] at h ⊢
      cases hk : u.vm.classes[c]? with
      | none => rw [hk] at h; simp at h
      | some k =>
        obtain ⟨k', hk', he⟩ := hvm.2.2 _ _ hk
        rw [hk] at h
        rw [hk']
        have ek : k'.kind = k.kind := by rw [he]
        rw [Option.map_some] at h ⊢
        rw [ek]
        exact h
/-- the words of the tables that only the constructors need -/
def nwC : List Cond := [.methodLinkNest RX8 (17) yX4_init RX8, .methodLinkNest RX8 (24) yX0_init RX8, .methodLinkNest RX3 (17) yX7_init RX8, .methodLinkNest RX8 (42) yX6_init RX8, .methodLinkNest RX2 (38) yX0_init RX8, .methodLinkNest RX5 (19) yX7_init RX8, .methodLinkNest RX5 (24) yX0_init RX8, .methodLinkNest RX1 (11) yX0_init RX8]
def CW (U : State) : Prop := (∀ w ∈ nwC, va_Nw w U) ∧ va_AO RX3 U ∧ va_AO RX7 U ∧ va_AO RX0 U ∧ va_AOA .long U
theorem CW.warm {s U : State} (hW : s.WarmedH U.vm) (h : CW s) : CW U := by
  refine ⟨fun w hw => ?_, h.2.1.moved hW.alike, h.2.2.1.moved hW.alike, h.2.2.2.1.moved hW.alike, h.2.2.2.2.moved hW.alike⟩
  have h1 := h.1 w hw
  simp only [nwC, List.mem_cons, List.not_mem_nil, or_false] at hw
  rcases hw with rfl | rfl | rfl | rfl | rfl | rfl | rfl | rfl <;> exact va_Nw.warmM hW h1
theorem CW.call {U : State} {g : JFrame} {mk : MethodId} {a : Array Value} (h : CW U) : CW (U.calling g mk a) := by
  refine ⟨fun w hw => ?_, h.2.1.moved (Vm.Alike.refl U.vm), h.2.2.1.moved (Vm.Alike.refl U.vm), h.2.2.2.1.moved (Vm.Alike.refl U.vm), h.2.2.2.2.moved (Vm.Alike.refl U.vm)⟩
  have h1 := h.1 w hw
  simp only [nwC, List.mem_cons, List.not_mem_nil, or_false] at hw
  rcases hw with rfl | rfl | rfl | rfl | rfl | rfl | rfl | rfl <;> exact va_Nw.same rfl rfl h1
/-- the context of a constructor, and of the law -/
def Cc (κ : Ctx) : Prop := match κ with
  | (_, _, _, _, s, _, _, _, _, _, _, _, _, _, _, _) => CW s
def Ci (κ : Ctx) : Prop := match κ with
  | (_, _, _, _, _, _, _, _, meth, _, _, _, _, _, _, _) => meth.name = "<init>"
section JA
variable {κ : Ctx} {cells slots : Nat} {G : Shp} {D : Dat} {pc : Nat} {lv : List (Nat × Value)} {st : List Value} {cc : ByteArray} {own : String} {rm : Room} {mx : Nat}
theorem J.widen {k n : Nat} (h1 : cells ≤ k) (h2 : slots ≤ n) (h : J κ k n G D pc lv st) : J κ cells slots G D pc lv st := by
  obtain ⟨p, l, e, R, s, m, args, below, meth, c, Q, Dc, Y, A, H0, nL⟩ := κ
  intro H locs ls hP hD hS hl
  exact W.widen h1 h2 (h H locs ls hP hD hS hl)
theorem j_new (C : Cx κ cc own rm mx) {ci N index : Nat} {Cn : String} {T : u_T} (hc : vwCl[ci]? = some (Cn, T, N)) (hin : ∀ w ∈ u_ws Cn T N, w ∈ tb) (ty : Nat → FieldType) (hty : ∀ k, k < N → parseFieldDescriptor (T k).2.2.1 = some (ty k)) (w1 : Cond.classLink own index Cn ∈ tb) (w2 : Cond.instantiable Cn N ∈ tb) (w3 : Cond.initialized Cn ∈ tb) {fs : List Value} (hfs : ∀ j, j < N → defaultValue (ty j) = vp_V fs j) (hpe : ∀ Y : Nat → ClassId, pe Y ci 0 (fun _ => none) (fun _ => 0) (fun _ => 0) = .inr (ci, fs)) (hcs : cells + 1 ≤ rm.cells ∧ slots + N ≤ rm.slots) (hd : decode cc pc = .ok (.new index, 3)) (kk : ∀ q, q ∉ G.1 → J κ (cells + 1) (slots + N) (gP G q ci 0) (dP D q) (pc + 3) lv (.ref q :: st)) : J κ cells slots G D pc lv st := by
  obtain ⟨p, l, e, R, s, m, args, below, meth, c, Q, Dc, Y, A, H0, nL⟩ := κ
  intro H locs ls hP hD hS hl
  obtain rfl : R = rm := C.2.2.2.2.2.2.2.1
  refine va_new C.1 C.2.1 C.2.2.2.2.1 hin ty hty C.2.2.2.1 (C.2.2.2.2.1 _ w1) (C.2.2.2.2.1 _ w2) (C.2.2.2.2.1 _ w3) C.2.2.2.2.2.1 hP hD hS C.2.2.2.2.2.2.1 hc hfs hcs.1 hcs.2 hd (fun q H1 hP1 hD1 hS1 => ?_)
  have hq : q ∉ G.1 := PW_fresh hD1
  rw [← hpe Y, PW_push hq] at hP1 hD1
  exact kk q hq H1 locs ls hP1 hD1 hS1 hl
theorem j_newa (C : Cx κ cc own rm mx) {atype : ArrayType} {ty : FieldType} {kd t0 : Nat} (w1 : Cond.arrayClass ty ∈ tb) (hty : newarray.typeOf atype = ty) {n : Int32} {N' : Nat} {a0 : vp_A} (ha : ∀ cA : ClassId, vp_cell cA a0 = arrV cA N' (fun _ => defaultValue ty)) (hpe : ∀ Y : Nat → ClassId, pe Y kd N' (fun _ => none) (fun _ => 0) (fun _ => 0) = .inl (Y t0, a0)) (ht : ∀ Y : Nat → ClassId, (tyl Y)[t0]? = some (Y t0, ty)) (hra : ∀ (U : State) (c : ClassId), va_RA U c ty → U.vm.findClass ("[" ++ ty.toString) = some c) (hn : ¬ n < 0) (hN : n.toNatClampNeg = N') (hbytes : N' * componentBytes ty ≤ 536870912) (hcs : cells + 1 ≤ rm.cells ∧ slots + N' ≤ rm.slots) (hd : decode cc pc = .ok (.newarray atype, 2)) (kk : ∀ q, q ∉ G.1 → J κ (cells + 1) (slots + N') (gP G q kd N') (dP D q) (pc + 2) lv (.ref q :: st)) : J κ cells slots G D pc lv (.int n :: st) := by
  obtain ⟨p, l, e, R, s, m, args, below, meth, c, Q, Dc, Y, A, H0, nL⟩ := κ
  intro H locs ls hP hD hS hl
  obtain rfl : R = rm := C.2.2.2.2.2.2.2.1
  refine va_newa C.1 C.2.1 (by rw [hty]; exact C.2.2.2.2.1 _ w1) hty C.2.2.2.2.2.1 hP hD hS C.2.2.2.2.2.2.1 ha hn hN hbytes hcs.1 hcs.2 hd (fun q cA H1 hK1 hP1 hD1 hS1 => ?_)
  have hq : q ∉ G.1 := PW_fresh hD1
  have e1 := hra s cA (hK1.2 (tyl Y).length (cA, ty) (by rw [List.getElem?_append_right (Nat.le_refl _), Nat.sub_self]; rfl)).2
  have e2 := hra s (Y t0) (C.2.2.2.2.2.1.2 t0 (Y t0, ty) (ht Y)).2
  have e3 : cA = Y t0 := Option.some.inj (e1.symm.trans e2)
  rw [e3, ← hpe Y, PW_push hq] at hP1 hD1
  exact kk q hq H1 locs ls hP1 hD1 hS1 hl
theorem j_newq (C : Cx κ cc own rm mx) {Cn : String} {kd t0 index : Nat} (w1 : Cond.classLink own index Cn ∈ tb) (hover : ∀ κ' : Ctx, κ' = κ → match κ' with
  | (_, _, _, _, s, _, _, _, _, _, _, _, _, _, _, _) => va_AO Cn s) {n : Int32} {N' : Nat} (hpe : ∀ Y : Nat → ClassId, pe Y kd N' (fun _ => none) (fun _ => 0) (fun _ => 0) = .inl (Y t0, N', .inr (.inr (.inr (.inr (fun _ => none)))))) (ht : ∀ Y : Nat → ClassId, (tyl Y)[t0]? = some (Y t0, .object Cn)) (hn : ¬ n < 0) (hN : n.toNatClampNeg = N') (hbytes : N' * 4 ≤ 536870912) (hcs : cells + 1 ≤ rm.cells ∧ slots + N' ≤ rm.slots) (hd : decode cc pc = .ok (.anewarray index, 3)) (kk : ∀ q, q ∉ G.1 → J κ (cells + 1) (slots + N') (gP G q kd N') (dP D q) (pc + 3) lv (.ref q :: st)) : J κ cells slots G D pc lv (.int n :: st) := by
  obtain ⟨p, l, e, R, s, m, args, below, meth, c, Q, Dc, Y, A, H0, nL⟩ := κ
  intro H locs ls hP hD hS hl
  obtain rfl : R = rm := C.2.2.2.2.2.2.2.1
  refine va_newq C.1 C.2.1 C.2.2.2.1 (C.2.2.2.2.1 _ w1) (hover _ rfl) C.2.2.2.2.2.1 hP hD hS C.2.2.2.2.2.2.1 hn hN hbytes hcs.1 hcs.2 hd (fun q cA H1 hK1 hP1 hD1 hS1 => ?_)
  have hq : q ∉ G.1 := PW_fresh hD1
  obtain ⟨kA, comp, -, -, -, e1⟩ := (hK1.2 (tyl Y).length (cA, .object Cn) (by rw [List.getElem?_append_right (Nat.le_refl _), Nat.sub_self]; rfl)).2
  obtain ⟨kA2, comp2, -, -, -, e2⟩ := (C.2.2.2.2.2.1.2 t0 (Y t0, .object Cn) (ht Y)).2
  have e3 : cA = Y t0 := Option.some.inj (e1.symm.trans e2)
  rw [e3, ← hpe Y, PW_push hq] at hP1 hD1
  exact kk q hq H1 locs ls hP1 hD1 hS1 hl
theorem j_putF (C : Cx κ cc own rm mx) (Ck : Ci κ) {a ci : Nat} (ko : isO G a ci) {Cn ref : String} {T : u_T} {N index : Nat} (hc : vwCl[ci]? = some (Cn, T, N)) (hin : ∀ w ∈ u_ws Cn T N, w ∈ tb) (ty0 : Nat → FieldType) (hty : ∀ k, k < N → parseFieldDescriptor (T k).2.2.1 = some (ty0 k)) (hnm : ∀ a, a < N → ∀ b, b < N → a ≠ b → (T a).2.1 ≠ (T b).2.1) (k : Nat) (hk : k < N) (hlink : Cond.fieldLink own index ref (T k).2.1 (T k).2.2.1 ∈ tb) (hsame : (T k).1 = ref) (hown : (T k).1 = own) (hfin : (T k).2.2.2 = true) {ty : FieldType} {y : Nat} (hde : parseFieldDescriptor (T k).2.2.1 = some ty) (hn : narrow ty (.ref y) = .ref y) (hfit : fits ty (.ref y) = true) {fs : List Value} (hfs : ∀ Y : Nat → ClassId, pe Y ci (G.2.2.1 a) (G.2.2.2 a) (D.1 a) (D.2 a) = .inr (ci, fs)) (hfs2 : ∀ Y : Nat → ClassId, pe Y ci (G.2.2.1 a) (va_up (G.2.2.2 a) k (some y)) (D.1 a) (D.2 a) = .inr (ci, fs.set k (.ref y))) (hlen : k < fs.length) (hd : decode cc pc = .ok (.putfield index, 3)) (kk : J κ cells slots (gRf G a k (some y)) D (pc + 3) lv st) : J κ cells slots G D pc lv (.ref y :: .ref a :: st) := by
  obtain ⟨p, l, e, R, s, m, args, below, meth, c, Q, Dc, Y, A, H0, nL⟩ := κ
  intro H locs ls hP hD hS hl
  have he : pE Y G D a = .inr (ci, fs) := by unfold pE; rw [ko.2]; exact hfs Y
  have he2 : pE Y (gRf G a k (some y)) D a = .inr (ci, fs.set k (.ref y)) := by
    unfold pE gRf
    dsimp only
    rw [ko.2, va_up_self]
    exact hfs2 Y
  obtain ⟨q0, hq⟩ := PW_get ko.1 he
  refine va_putF C.1 C.2.1 C.2.2.2.2.1 hin ty0 hty hnm C.2.2.2.1 C.2.2.2.2.2.1 hP hD hS q0 hq hc k hk (C.2.2.2.2.1 _ hlink) (fun _ h => by rw [← hsame]; exact h) hfin Ck hown hde hn hfit hlen hd (fun H1 locs1 hP1 hD1 hS1 => ?_)
  rw [PW_set (G' := gRf G a k (some y)) hD ko.1 he hq rfl he2 (fun b hb => pE_gR b hb)] at hP1 hD1
  exact kk H1 locs1 ls hP1 hD1 hS1 hl
theorem j_obj (C : Cx κ cc own rm mx) {idx a : Nat} (w1 : Cond.methodLink own idx Lib.objectInit ∈ tb) (w2 : Cond.instanceMethod Lib.objectInit ∈ tb) (w3 : Cond.code Lib.objectInit ⟨#[0xb1]⟩ 1 none ∈ tb) (hd : decode cc pc = .ok (.invokespecial idx, 3)) (hR : 1 ≤ rm.frames ∧ (st.map fun v => v.category).sum + 12 ≤ rm.locals) (kk : J κ cells slots G D (pc + 3) lv st) : J κ cells slots G D pc lv (.ref a :: st) := by
  obtain ⟨p, l, e, R, s, m, args, below, meth, c, Q, Dc, Y, A, H0, nL⟩ := κ
  intro H locs ls hP hD hS hl
  obtain rfl : R = rm := C.2.2.2.2.2.2.2.1
  refine W.objInit C.1 C.2.1 C.2.2.2.1 (C.2.2.2.2.1 _ w1) (C.2.2.2.2.1 _ w2) (C.2.2.2.2.1 _ w3) rfl (hl.1.trans C.2.2.1.symm) rfl hd hR.1 ?_ (kk H locs ls hP hD hS hl)
  have := hR.2
  show 2 * (F0 m pc ls (.ref a :: st)).monitorRoom + _ + 12 ≤ R.locals
  have e0 : (F0 m pc ls (.ref a :: st)).monitorRoom = 0 := rfl
  rw [e0]
  omega
end JA
