/-! constructors: contracts and calls -/
def CtC (l : Launch) (y : MethodName) (code : ByteArray) (maxL : Nat) (rm : Room) (av : List Value) (G : Shp) (D : Dat) (post : Shp → Dat → Prop) : Prop := ∀ (Dc : va_G) (Y : Nat → ClassId) (sz : Nat), Met l y (Cond.code y code maxL none :: tb) rm (va_Pc av (fun U => U.heap.size = sz ∧ va_P Dc vwCl (PW Y G D) U.heap ∧ va_K Dc vwCl (tyl Y) U ∧ va_D (fun _ => True) (PW Y G D) ∧ NW U ∧ CW U)) (va_Qv (fun (u : Shp × Dat) => post u.1 u.2) (fun (u : Shp × Dat) t => va_P Dc vwCl (PW Y u.1 u.2) t.heap ∧ va_K Dc vwCl (tyl Y) t ∧ va_D (va_A (PW Y G D) sz) (PW Y u.1 u.2)) (va_A (PW Y G D) sz)) rm.cells rm.slots (va_A (PW Y G D) sz)
def rmC (n c s : Nat) : Room := { frames := n, cells := c, slots := s, locals := 40 * n }
theorem blindC {Dc : va_G} {Y : Nat → ClassId} {G : Shp} {D : Dat} {sz : Nat} {av : List Value} : FrameBlind (va_Pc av (fun U => U.heap.size = sz ∧ va_P Dc vwCl (PW Y G D) U.heap ∧ va_K Dc vwCl (tyl Y) U ∧ va_D (fun _ => True) (PW Y G D) ∧ NW U ∧ CW U)) := fun a U g mk q => by
  obtain ⟨q0, q1, qP, qK, qD, qN, qC⟩ := q
  exact ⟨q0, q1, qP, va_K.moved (u := U) (U := U.calling g mk a) (Vm.Alike.refl U.vm) qK, qD, qN.call, qC.call⟩
def MI (y : MethodName) (code : ByteArray) (maxL : Nat) (n : Nat) : Prop := Cond.instanceMethod y ∈ tb ∧ Cond.initialized y.cls ∈ tb ∧ Cond.code y code maxL none ∈ tb ∧ y.name = "<init>" ∧ (y.cls ≠ "java/lang/invoke/MethodHandle" ∧ y.cls ≠ "java/lang/invoke/VarHandle" ∧ (parseMethodDescriptor y.desc).map (fun d => d.parameters.length) = some n)
section JC
variable {κ : Ctx} {cells slots : Nat} {G : Shp} {D : Dat} {pc : Nat} {lv : List (Nat × Value)} {st stk : List Value} {cc : ByteArray} {own : String} {rm : Room} {mx : Nat}
variable {y : MethodName} {code : ByteArray} {maxL index n : Nat} {rm' : Room} {As : List Value}
theorem j_cIC (C : Cx κ cc own rm mx) (Cw : Cc κ) {b : Nat} {post : Shp → Dat → Prop} (M : CtC κ.2.1 y code maxL rm' (.ref b :: As) G D post) (w1 : Cond.methodLink own index y ∈ tb) (mv : MI y code maxL n) (hR : rm'.frames + 1 ≤ rm.frames ∧ 8 + (maxL + 11) + rm'.locals ≤ rm.locals) (hcs : cells + rm'.cells ≤ rm.cells ∧ slots + rm'.slots ≤ rm.slots) (hn : As.length = n) (hst : stk = As.reverse ++ .ref b :: st) (hW : (st.map fun v => v.category).sum ≤ 8) (hd : decode cc pc = .ok (.invokespecial index, 3)) (kk : ∀ G' D', post G' D' → J κ (cells + rm'.cells) (slots + rm'.slots) G' D' (pc + 3) lv st) : J κ cells slots G D pc lv stk := by
  obtain ⟨p, l, e, R, s, m, args, below, meth, c, Q, Dc, Y, A, H0, nL⟩ := κ
  intro H locs ls hP hD hS hl
  subst hst
  obtain rfl : R = rm := C.2.2.2.2.2.2.2.1
  have hF := A_sub hD hS C.2.2.2.2.2.2.1
  refine va_callv (va_runI (As := As) (rest := st) ⟨C.1, C.2.1, C.2.2.1, C.2.2.2.1, C.2.2.2.2.1⟩ (M Dc Y H.size) (cwI n C.2.2.2.2.1 (good_cons mv.2.2.1) rfl rfl rfl (C.2.2.2.2.1 _ mv.2.1) (C.2.2.2.2.1 _ w1) (C.2.2.2.2.1 _ mv.1) mv.2.2.2.1 mv.2.2.2.2 hR) ⟨blindC, fun U hU hW => ⟨rfl, by rw [hU], by rw [hU]; exact hP, va_K.moved hW.alike C.2.2.2.2.2.1, hD.weaken (fun _ _ _ _ => trivial), C.2.2.2.2.2.2.2.2.2.2.warm hW, CW.warm hW Cw⟩⟩ rfl hn hl.1 rfl (lv_room hW) hd hcs) hS (fun q _ h => hF q h) hF (fun u t H1 locs1 ht hvm hw hB hz1 hk1 hS1 => ?_)
  obtain ⟨hP1, hK1, hD1⟩ := hB
  rw [ht] at hP1
  exact kk u.1 u.2 hw H1 locs1 ls hP1 (hD1.weaken (fun k q hq h => hF _ h)) hS1 hl
theorem j_cIN (C : Cx κ cc own rm mx) (Cw : Cc κ) {host : String} {b : Nat} {post : Shp → Dat → Prop} (M : CtC κ.2.1 y code maxL rm' (.ref b :: As) G D post) (w1 : Cond.methodLinkNest own index y host ∈ nwC) (mv : MI y code maxL n) (hR : rm'.frames + 1 ≤ rm.frames ∧ 8 + (maxL + 11) + rm'.locals ≤ rm.locals) (hcs : cells + rm'.cells ≤ rm.cells ∧ slots + rm'.slots ≤ rm.slots) (hn : As.length = n) (hst : stk = As.reverse ++ .ref b :: st) (hW : (st.map fun v => v.category).sum ≤ 8) (hd : decode cc pc = .ok (.invokespecial index, 3)) (kk : ∀ G' D', post G' D' → J κ (cells + rm'.cells) (slots + rm'.slots) G' D' (pc + 3) lv st) : J κ cells slots G D pc lv stk := by
  obtain ⟨p, l, e, R, s, m, args, below, meth, c, Q, Dc, Y, A, H0, nL⟩ := κ
  intro H locs ls hP hD hS hl
  subst hst
  obtain rfl : R = rm := C.2.2.2.2.2.2.2.1
  have hF := A_sub hD hS C.2.2.2.2.2.2.1
  refine va_callv (va_runIN (host := host) (As := As) (rest := st) ⟨C.1, C.2.1, C.2.2.1, C.2.2.2.1, C.2.2.2.2.1⟩ (M Dc Y H.size) ⟨va_cnB n C.2.2.2.2.1 (good_cons mv.2.2.1) rfl rfl rfl (Cw.1 _ w1) (C.2.2.2.2.1 _ mv.2.1) mv.2.2.2.2 hR, mv.2.2.2.1, C.2.2.2.2.1 _ mv.1⟩ ⟨blindC, fun U hU hW => ⟨rfl, by rw [hU], by rw [hU]; exact hP, va_K.moved hW.alike C.2.2.2.2.2.1, hD.weaken (fun _ _ _ _ => trivial), C.2.2.2.2.2.2.2.2.2.2.warm hW, CW.warm hW Cw⟩⟩ rfl hn hl.1 rfl (lv_room hW) hd hcs) hS (fun q _ h => hF q h) hF (fun u t H1 locs1 ht hvm hw hB hz1 hk1 hS1 => ?_)
  obtain ⟨hP1, hK1, hD1⟩ := hB
  rw [ht] at hP1
  exact kk u.1 u.2 hw H1 locs1 ls hP1 (hD1.weaken (fun k q hq h => hF _ h)) hS1 hl
theorem j_astq (C : Cx κ cc own rm mx) {a v kd t0 ci N : Nat} {Cn : String} {T : u_T} (ko : isO G a kd) (kv : isO G v ci) (hc : vwCl[ci]? = some (Cn, T, N)) (hpe : ∀ (Y : Nat → ClassId) (n : Nat) (r : Nat → Option Nat) (i : Nat → Int32) (j : Nat → Int64), pe Y kd n r i j = .inl (Y t0, n, .inr (.inr (.inr (.inr r))))) (ht : ∀ Y : Nat → ClassId, (tyl Y)[t0]? = some (Y t0, .object Cn)) {i : Int32} (hi : vp_in i (G.2.2.1 a)) (hd : decode cc pc = .ok (.aastore, 1)) (kk : J κ cells slots (gRf G a i.toNatClampNeg (some v)) D (pc + 1) lv st) : J κ cells slots G D pc lv (.ref v :: .int i :: .ref a :: st) := by
  obtain ⟨p, l, e, R, s, m, args, below, meth, c, Q, Dc, Y, A, H0, nL⟩ := κ
  intro H locs ls hP hD hS hl
  have he : pE Y G D a = .inl (Y t0, G.2.2.1 a, .inr (.inr (.inr (.inr (G.2.2.2 a))))) := by unfold pE; rw [ko.2]; exact hpe Y _ _ _ _
  have he2 : pE Y (gRf G a i.toNatClampNeg (some v)) D a = .inl (Y t0, G.2.2.1 a, .inr (.inr (.inr (.inr (va_up (G.2.2.2 a) i.toNatClampNeg (some v)))))) := by
    unfold pE gRf
    dsimp only
    rw [ko.2, va_up_self]
    exact hpe Y _ _ _ _
  obtain ⟨q0, hq⟩ := PW_get ko.1 he
  have : ∃ fs, pE Y G D v = .inr (ci, fs) := by
    have hlt := (List.getElem?_eq_some_iff.mp hc).1
    have hlt : ci < 10 := hlt
    unfold pE
    rw [kv.2]
    rcases (show ci = 0 ∨ ci = 1 ∨ ci = 2 ∨ ci = 3 ∨ ci = 4 ∨ ci = 5 ∨ ci = 6 ∨ ci = 7 ∨ ci = 8 ∨ ci = 9 by omega) with rfl | rfl | rfl | rfl | rfl | rfl | rfl | rfl | rfl | rfl <;> exact ⟨_, rfl⟩
  obtain ⟨fs, hfs⟩ := this
  obtain ⟨qv, hqv⟩ := PW_get kv.1 hfs
  refine va_astq C.1 C.2.1 C.2.2.2.2.2.1 hP hD hS q0 t0 qv ci hq (ht Y) hqv hc hi hd (fun H1 locs1 hP1 hD1 hS1 => ?_)
  rw [PW_set (G' := gRf G a i.toNatClampNeg (some v)) hD ko.1 he hq rfl he2 (fun b hb => pE_gR b hb)] at hP1 hD1
  exact kk H1 locs1 ls hP1 hD1 hS1 hl
end JC
def RtC (κ : Ctx) (cc : ByteArray) (rm : Room) (post : Shp → Dat → Prop) : Prop := ∀ (pc : Nat) (lv : List (Nat × Value)) (G' : Shp) (D' : Dat) (c s : Nat), c ≤ rm.cells → s ≤ rm.slots → decode cc pc = .ok (.return_, 1) → post G' D' → J κ c s G' D' pc lv []
theorem ctC_of {l : Launch} {y : MethodName} {code : ByteArray} {maxL : Nat} {rm : Room} {av : List Value} {G : Shp} {D : Dat} {lv : List (Nat × Value)} {post : Shp → Dat → Prop} (hy : plainName y.cls = true) (hyn : y.name = "<init>") (hlv : lv_args 0 av = lv) (hlen : (lg_sl av).length ≤ maxL) (body : ∀ κ : Ctx, κ.2.1 = l → Cx κ code y.cls rm maxL → Cc κ → Ci κ → RtC κ code rm post → J κ 0 0 G D 0 lv []) : CtC l y code maxL rm av G D post := by
  intro Dc Y sz
  refine Met.ofW (cc := code) (maxL := maxL) (ret := none) hy rfl ?_
  intro p e s m args below meth c s₁ B hml hv
  obtain ⟨rfl, hsz, hP, hK, hD0, hN, hC⟩ := hv
  subst hsz
  have hx := B.exec
  have hb := B.bytes
  have hr := B.returns
  have hts := atoms_spec (ws := Cond.code y code maxL none :: tb) B.pre
  have hown : s.vm.findClass y.cls = some m.cls := findClass_of_methodNamed B.named
  have hlocks := B.notSynchronized
  have hin : meth.name = "<init>" := (name_of_methodNamed B.named B.method).1.trans hyn
  have hD := hD0.self (sz := s.heap.size)
  have hA : ∀ q : Nat, s.heap.size ≤ q → va_A (PW Y G D) s.heap.size q := fun q h => Or.inr h
  rw [lg_entry_eq]
  refine body (p, l, e, rm, s, m, av.toArray, below, meth, c, _, Dc, Y, va_A (PW Y G D) s.heap.size, s.heap, maxL) rfl ⟨hx, hb, hml, hown, fun w h => hts w (List.mem_cons_of_mem _ h), hK, hA, rfl, hlocks, rfl, hN⟩ hC hin ?_ s.heap [] _ hP hD va_S.rf (hlv ▸ lv_entry av hlen)
  intro pc lv G' D' k n hk hn hd hp H locs ls hP hD hS hl
  refine W.widen hk hn ?_
  exact W.vret hx hb hr (fun t ht hW => ⟨⟨(G', D'), rfl, hp, by rw [ht]; exact hP, va_K.moved hW.alike hK, hD⟩, hS.F ht⟩) hS.2.2 hd (hlocks := hlocks)
