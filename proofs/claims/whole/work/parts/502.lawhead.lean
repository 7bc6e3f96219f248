/-! THE CLAIM OUT OF ONE WALK OF THE LAW'S BODY. Your part is whole_start (and what it stands on); all else here is the same for every law, but numbers. -/
def R_law : String := "SeasonRowsLaw"
def lw_P (b : Addr) (xs : List Int32) (args : Array Value) (s : State) : Prop := args = #[.ref b] ∧ s.IntsAt b xs ∧ xs.length ≤ 3584 ∧ (Jvm.Cond.and given_1 narrow_1).before args s = true
def lw_Q (_ : Array Value) (s : State) (o : Outcome) (t : State) : Prop := o = .returned (some (.int 1)) ∧ Framed s o t [] 600000 7302250
def lw_Z (below : List Frame) (a : Array Value) (s : State) : State → Prop := fun t => ∃ o, t.status = .running ∧ Ended t below o ∧ lw_Q a s o t
/-- the law's own end, with 1 on the stack, nothing written that was there before, its room as the claim has it -/
theorem lw_ret {p : Program} {l : Launch} {e : Env} {s : State} {m : MethodId} {below : List Frame} {meth : Method} {c : Code} {b : Nat} (hx : p.tables.exec = Jvm.exec) (hb : c.code = code) (hr : meth.sig.returnType = ret) (hlocks : meth.locks = false) {pc : Nat} {H : Heap} {ls : Array Slot} (hdg : decode code pc = .ok (.ireturn, 1)) : W p l e room_1 s m #[Value.ref b] below meth c H [] 600000 7302250 (lw_Z below #[Value.ref b] s) (F0 m pc ls [.int 1]) := by
  intro T hT X
  obtain ⟨fs, hret, hrun, hended, hW, hframe⟩ := X.leave (v := some (.int 1)) (hlocks := hlocks) (fun h => by rw [hr] at h; cases h)
  have hmeth' : T.vm.method? m = some meth := X.method'
  refine ⟨T.setFrames fs, ?_, .returned (some (.int 1)), hrun, hended, rfl, ⟨_, rfl⟩, hW, hframe⟩
  jvm_step X.here [X.here.top, hx, hb, hdg, hmeth', hr, ret, narrow_b1]
  (try refine ⟨rfl, ?_⟩); (try refine ⟨rfl, ?_⟩)
  first | (intro acts; rw [hret _ acts rfl rfl rfl]) | rw [hret _ _ rfl rfl rfl]
  exact Steps.refl _
/-- what holds at the law's entry: the machine, the code, the tables' words (any of lw_tbl by 'hts w (by decide +kernel)'), the script of L ints xs at the cell b, what the Statement gives of the start (any of its parts by flat_of_before) -/
def lw_At (p : Program) (s : State) (m : MethodId) (meth : Method) (c : Code) (b L : Nat) (xs : Nat → Int32) : Prop :=
  p.tables.exec = Jvm.exec ∧ c.code = code ∧ meth.sig.returnType = ret ∧ c.maxLocals = 4 ∧ s.vm.findClass R_law = some m.cls ∧ (∀ w ∈ lw_tbl, w.before #[Value.ref b] s = true) ∧ va_X b L xs s s.heap ∧ b < s.heap.size ∧ meth.locks = false ∧ (Jvm.Cond.and given_1 narrow_1).before #[Value.ref b] s = true
/-! the law: its script, both states side by side -/
def Sc (κ : Ctx) (b L : Nat) (xs : Nat → Int32) : Prop := match κ with
  | (_, _, _, _, s, _, _, _, _, _, _, _, _, A, H0, _) => va_X b L xs s H0 ∧ b < H0.size ∧ ¬ A b
section LW
variable {κ : Ctx} {cells slots : Nat} {G : Shp} {D : Dat} {pc : Nat} {lv : List (Nat × Value)} {st : List Value} {cc : ByteArray} {own : String} {rm : Room} {mx : Nat} {b L : Nat} {xs : Nat → Int32}
theorem j_sld (C : Cx κ cc own rm mx) (hX : Sc κ b L xs) {i : Int32} (hi : vp_in i L) (hd : decode cc pc = .ok (.iaload, 1)) (kk : J κ cells slots G D (pc + 1) lv (.int (xs i.toNatClampNeg) :: st)) : J κ cells slots G D pc lv (.int i :: .ref b :: st) := by
  obtain ⟨p, l, e, R, s, m, args, below, meth, c, Q, Dc, Y, A, H0, nL⟩ := κ
  intro H locs ls hP hD hS hl
  exact va_sld C.1 C.2.1 hX.1 hX.2.1 hX.2.2 hS hi hd (kk H locs ls hP hD hS hl)
theorem j_slen (C : Cx κ cc own rm mx) (hX : Sc κ b L xs) (hd : decode cc pc = .ok (.arraylength, 1)) (kk : J κ cells slots G D (pc + 1) lv (.int (Int32.ofNat L) :: st)) : J κ cells slots G D pc lv (.ref b :: st) := by
  obtain ⟨p, l, e, R, s, m, args, below, meth, c, Q, Dc, Y, A, H0, nL⟩ := κ
  intro H locs ls hP hD hS hl
  exact va_slen C.1 C.2.1 hX.1 hX.2.1 hX.2.2 hS hd (kk H locs ls hP hD hS hl)
/-- the law's locals -/
abbrev LV (b x8 x9 i : Nat) : List (Nat × Value) := [(3, .int (nI i)), (2, .ref x9), (1, .ref x8), (0, .ref b)]
/-- one of a call's arguments -/
theorem j_arg (C : Cx κ cc own rm mx) (hX : Sc κ b L xs) (hL : L ≤ 3584) {x8 x9 i k : Nat} (hk : i + k < L) {z : Int} (hz : Int32.ofInt z = nI k) (d1 : decode cc pc = .ok (.aload_n 0, 1)) (d2 : decode cc (pc + 1) = .ok (.iload_n 3, 1)) (d3 : decode cc (pc + 2) = .ok (.iconst z, 1)) (d4 : decode cc (pc + 3) = .ok (.iadd, 1)) (d5 : decode cc (pc + 4) = .ok (.iaload, 1)) (kk : J κ cells slots G D (pc + 5) (LV b x8 x9 i) (.int (xs (i + k)) :: st)) : J κ cells slots G D pc (LV b x8 x9 i) st := by
  refine j_aload_n C d1 rfl 3 rfl ?_
  refine j_iload_n C d2 rfl 0 rfl ?_
  refine j_iconst (v := nI k) C d3 hz ?_
  refine j_iadd C d4 ?_
  rw [nI_add]
  refine j_sld C hX (vp_in_nI hk (by omega)) d5 ?_
  rw [nI_clamp (by omega)]
  exact kk
theorem j_arg6 (C : Cx κ cc own rm mx) (hX : Sc κ b L xs) (hL : L ≤ 3584) {x8 x9 i : Nat} (hk : i + 6 < L) (d1 : decode cc pc = .ok (.aload_n 0, 1)) (d2 : decode cc (pc + 1) = .ok (.iload_n 3, 1)) (d3 : decode cc (pc + 2) = .ok (.bipush 6, 2)) (d4 : decode cc (pc + 4) = .ok (.iadd, 1)) (d5 : decode cc (pc + 5) = .ok (.iaload, 1)) (kk : J κ cells slots G D (pc + 6) (LV b x8 x9 i) (.int (xs (i + 6)) :: st)) : J κ cells slots G D pc (LV b x8 x9 i) st := by
  refine j_aload_n C d1 rfl 3 rfl ?_
  refine j_iload_n C d2 rfl 0 rfl ?_
  refine j_bipush (v := nI 6) C d3 (by decide) ?_
  refine j_iadd C d4 ?_
  rw [nI_add]
  refine j_sld C hX (vp_in_nI hk (by omega)) d5 ?_
  rw [nI_clamp (by omega)]
  exact kk
end LW
section TR
variable {G : Shp} {ad ro : Nat → Nat} {D D' : Dat} {S S' : AS} {Z : Dat}
theorem ClV.ok (h : ClV ad ro Z D S) : OKS S := fun r hr => (h.1 r hr).2
/-- what the class leaves alone: the reference's state -/
theorem RfV.by (H : RG G ad ro) (h : RfV ad ro D D S) (c : ClV ad ro D D' S') : RfV ad ro D' D' S := by
  have f : FrP ro D D' (fun q => q < 440) := fun a ha => c.2.2.2 a (by omega)
  refine ⟨fun r hr => (h.1 r hr).fr H f (fun q hq w => by unfold pRr at hq; omega), ⟨?_, h.2.1.2.1, fun k hk => ?_⟩, ?_, fun _ _ => ⟨rfl, rfl⟩⟩
  · rw [f.mi H (by omega) (by omega)]; exact h.2.1.1
  · rw [f.mi H (by omega) (by omega)]; exact h.2.1.2.2 k hk
  · rw [f.mi H (by omega) (by omega)]; exact h.2.2.1
/-- what the reference leaves alone: the class's state -/
theorem ClV.by (H : CS G ad ro) (h : ClV ad ro Z D S) (c : RfV ad ro D D' S') : ClV ad ro D' D' S := by
  have f : FrP ro D D' (fun q => 500 ≤ q ∧ q < 530) := fun a ha => c.2.2.2 a (by omega)
  refine ⟨fun r hr => ⟨(h.1 r hr).1.fr H hr f (fun q hq w => by unfold pR rb at hq; omega), (h.1 r hr).2⟩, h.2.1.fr H f (fun q hq w => by unfold pS at hq; omega), ?_, fun _ _ => ⟨rfl, rfl⟩⟩
  rw [f.i H (by omega) (by omega)]
  exact h.2.2.1
theorem RfV.self (h : RfV ad ro Z D S) : RfV ad ro D D S := ⟨h.1, h.2.1, h.2.2.1, fun _ _ => ⟨rfl, rfl⟩⟩
end TR
