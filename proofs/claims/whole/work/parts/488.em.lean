/-! the pool by the order of making: kind, length, references (by place), ints -/
abbrev Mk : Type := Nat × Nat × List (Nat × Nat) × List (Nat × Nat)
def gk (I : List Mk) (j : Nat) : Mk := I.getD j (0, 0, [], [])
def rfI (I : List Mk) (j s : Nat) : Option Nat := (gk I j).2.2.1.lookup s
def ivI (I : List Mk) (j s : Nat) : Nat := ((gk I j).2.2.2.lookup s).getD 0
def aG (G : Shp) (j : Nat) : Nat := G.1.getD j 0
def Em (G : Shp) (D : Dat) (I : List Mk) : Prop := G.1.length = I.length ∧ G.1.Nodup ∧ ∀ j, j < I.length → G.2.1 (aG G j) = (gk I j).1 ∧ G.2.2.1 (aG G j) = (gk I j).2.1 ∧ (∀ s, G.2.2.2 (aG G j) s = (rfI I j s).map (aG G)) ∧ (∀ s x, rfI I j s = some x → x < I.length) ∧ (∀ s, D.1 (aG G j) s = nI (ivI I j s)) ∧ ∀ s, D.2 (aG G j) s = 0
def sN (I : List Mk) (k n : Nat) : List Mk := I ++ [(k, n, [], [])]
def sR (I : List Mk) (i s j : Nat) : List Mk := I.set i ((gk I i).1, (gk I i).2.1, (s, j) :: (gk I i).2.2.1, (gk I i).2.2.2)
def sI (I : List Mk) (i s v : Nat) : List Mk := I.set i ((gk I i).1, (gk I i).2.1, (gk I i).2.2.1, (s, v) :: (gk I i).2.2.2)
section EM
variable {G : Shp} {D : Dat} {I : List Mk}
theorem aG_get {j : Nat} (h : j < G.1.length) : G.1[j]? = some (aG G j) := by
  unfold aG
  rw [List.getD_eq_getElem?_getD, List.getElem?_eq_getElem h]
  rfl
theorem Em.mem (h : Em G D I) {j : Nat} (hj : j < I.length) : aG G j ∈ G.1 := List.mem_of_getElem? (aG_get (by rw [h.1]; exact hj))
theorem Em.inj (h : Em G D I) {i j : Nat} (hi : i < I.length) (hj : j < I.length) (e : aG G i = aG G j) : i = j := by
  have h1 := aG_get (G := G) (j := i) (by rw [h.1]; exact hi)
  have h2 := aG_get (G := G) (j := j) (by rw [h.1]; exact hj)
  rw [e, ← h2] at h1
  exact (List.getElem?_inj (by rw [h.1]; exact hi) h.2.1).mp h1
theorem Em.o (h : Em G D I) {j k a : Nat} (hj : j < I.length) (hk : (gk I j).1 = k) (e : aG G j = a) : isO G a k := by
  subst e
  exact ⟨h.mem hj, (h.2.2 j hj).1.trans hk⟩
theorem Em.l (h : Em G D I) {j n a : Nat} (hj : j < I.length) (hk : (gk I j).2.1 = n) (e : aG G j = a) : G.2.2.1 a = n := by
  subst e
  exact (h.2.2 j hj).2.1.trans hk
theorem Em.r (h : Em G D I) {j s x a y : Nat} (hj : j < I.length) (hr : rfI I j s = some x) (e : aG G j = a) (e2 : aG G x = y) : G.2.2.2 a s = some y := by
  subst e e2
  rw [(h.2.2 j hj).2.2.1 s, hr]
  rfl
theorem gk_lt {e : Mk} {j : Nat} (h : j < I.length) : gk (I ++ [e]) j = gk I j := by
  unfold gk
  rw [List.getD_eq_getElem?_getD, List.getD_eq_getElem?_getD, List.getElem?_append_left h]
theorem gk_eq {e : Mk} : gk (I ++ [e]) I.length = e := by
  unfold gk
  rw [List.getD_eq_getElem?_getD, List.getElem?_append_right (Nat.le_refl _), Nat.sub_self]
  rfl
theorem gk_set_eq {e : Mk} {i : Nat} (h : i < I.length) : gk (I.set i e) i = e := by
  unfold gk
  rw [List.getD_eq_getElem?_getD, List.getElem?_set_self h]
  rfl
theorem gk_set_ne {e : Mk} {i j : Nat} (h : j ≠ i) : gk (I.set i e) j = gk I j := by
  unfold gk
  rw [List.getD_eq_getElem?_getD, List.getD_eq_getElem?_getD, List.getElem?_set_ne (Ne.symm h)]
theorem lk_cons (l : List (Nat × Nat)) (s j x : Nat) : List.lookup x ((s, j) :: l) = if x = s then some j else List.lookup x l := by
  by_cases e : x = s
  · subst e
    rw [if_pos rfl, List.lookup_cons]
    simp
  · rw [if_neg e, List.lookup_cons]
    have : (x == s) = false := by simpa using e
    rw [this]
theorem aG_old {q k n : Nat} {j : Nat} (h : j < G.1.length) : aG (gP G q k n) j = aG G j := by
  unfold aG gP
  rw [List.getD_eq_getElem?_getD, List.getD_eq_getElem?_getD, List.getElem?_append_left h]
theorem aG_new {q k n : Nat} : aG (gP G q k n) G.1.length = q := by
  unfold aG gP
  rw [List.getD_eq_getElem?_getD, List.getElem?_append_right (Nat.le_refl _), Nat.sub_self]
  rfl
theorem Em.new (h : Em G D I) {q k n : Nat} (hq : q ∉ G.1) : Em (gP G q k n) (dP D q) (sN I k n) ∧ (∀ j, j < I.length → aG (gP G q k n) j = aG G j) ∧ aG (gP G q k n) I.length = q := by
  have hold : ∀ j, j < I.length → aG (gP G q k n) j = aG G j := fun j hj => aG_old (by rw [h.1]; exact hj)
  have hnew : aG (gP G q k n) I.length = q := by rw [← h.1]; exact aG_new
  refine ⟨⟨?_, ?_, fun j hj => ?_⟩, hold, hnew⟩
  · show (G.1 ++ [q]).length = (I ++ [(k, n, [], [])]).length
    rw [List.length_append, List.length_append, h.1]
    rfl
  · show (G.1 ++ [q]).Nodup
    rw [List.nodup_append]
    exact ⟨h.2.1, (by simp), fun a ha b hb => by rw [List.mem_singleton.mp hb]; exact fun e => hq (e ▸ ha)⟩
  · have hj' : j < I.length + 1 := by
      have : (sN I k n).length = I.length + 1 := by unfold sN; rw [List.length_append]; rfl
      omega
    by_cases e : j = I.length
    · subst e
      have eg : gk (sN I k n) I.length = (k, n, [], []) := gk_eq
      have er : ∀ s, rfI (sN I k n) I.length s = none := fun s => by unfold rfI; rw [eg]; rfl
      have ei : ∀ s, ivI (sN I k n) I.length s = 0 := fun s => by unfold ivI; rw [eg]; rfl
      rw [hnew, eg]
      refine ⟨va_up_self _ _ _, va_up_self _ _ _, fun s => ?_, fun s x hx => ?_, fun s => ?_, fun s => ?_⟩
      · rw [er]
        show va_up G.2.2.2 q (fun _ => none) q s = _
        rw [va_up_self]
        rfl
      · rw [er] at hx; cases hx
      · rw [ei]
        show va_up D.1 q (fun _ => 0) q s = _
        rw [va_up_self]
        rfl
      · show va_up D.2 q (fun _ => 0) q s = _
        rw [va_up_self]
    · have hl : j < I.length := by omega
      have hne : aG G j ≠ q := fun w => hq (w ▸ h.mem hl)
      obtain ⟨h1, h2, h3, h4, h5, h6⟩ := h.2.2 j hl
      have eg : gk (sN I k n) j = gk I j := gk_lt hl
      have er : ∀ s, rfI (sN I k n) j s = rfI I j s := fun s => by unfold rfI; rw [eg]
      have ei : ∀ s, ivI (sN I k n) j s = ivI I j s := fun s => by unfold ivI; rw [eg]
      rw [hold j hl, eg]
      refine ⟨(va_up_ne _ _ hne).trans h1, (va_up_ne _ _ hne).trans h2, fun s => ?_, fun s x hx => ?_, fun s => ?_, fun s => ?_⟩
      · rw [er]
        show va_up G.2.2.2 q (fun _ => none) (aG G j) s = _
        rw [va_up_ne _ _ hne, h3 s]
        cases hr : rfI I j s with
        | none => rfl
        | some x =>
          show some (aG G x) = some (aG (gP G q k n) x)
          rw [hold x (h4 s x hr)]
      · rw [er] at hx
        have := h4 s x hx
        show x < (I ++ [(k, n, [], [])]).length
        rw [List.length_append]
        omega
      · rw [ei]
        show va_up D.1 q (fun _ => 0) (aG G j) s = _
        rw [va_up_ne _ _ hne]
        exact h5 s
      · show va_up D.2 q (fun _ => 0) (aG G j) s = _
        rw [va_up_ne _ _ hne]
        exact h6 s
theorem Em.ref (h : Em G D I) {i s j : Nat} (hi : i < I.length) (hj : j < I.length) : Em (gRf G (aG G i) s (some (aG G j))) D (sR I i s j) := by
  have ea : ∀ x, aG (gRf G (aG G i) s (some (aG G j))) x = aG G x := fun _ => rfl
  have hlen : (sR I i s j).length = I.length := List.length_set
  refine ⟨by rw [hlen]; exact h.1, h.2.1, fun x hx => ?_⟩
  rw [hlen] at hx
  obtain ⟨h1, h2, h3, h4, h5, h6⟩ := h.2.2 x hx
  rw [ea]
  by_cases e : x = i
  · subst e
    have eg : gk (sR I x s j) x = ((gk I x).1, (gk I x).2.1, (s, j) :: (gk I x).2.2.1, (gk I x).2.2.2) := gk_set_eq hx
    have er : ∀ t, rfI (sR I x s j) x t = if t = s then some j else rfI I x t := fun t => by
      unfold rfI
      rw [eg]
      exact lk_cons _ _ _ _
    have ei : ∀ t, ivI (sR I x s j) x t = ivI I x t := fun t => by unfold ivI; rw [eg]
    rw [eg]
    refine ⟨h1, h2, fun t => ?_, fun t y hy => ?_, fun t => ?_, h6⟩
    · rw [er]
      show va_up G.2.2.2 (aG G x) (va_up (G.2.2.2 (aG G x)) s (some (aG G j))) (aG G x) t = _
      rw [va_up_self]
      by_cases q : t = s
      · subst q
        rw [va_up_self, if_pos rfl]
        rfl
      · rw [va_up_ne _ _ q, if_neg q]
        exact h3 t
    · rw [hlen]
      rw [er] at hy
      by_cases q : t = s
      · rw [if_pos q] at hy
        cases hy
        exact hj
      · rw [if_neg q] at hy
        exact h4 t y hy
    · rw [ei]
      exact h5 t
  · have hne : aG G x ≠ aG G i := fun w => e (h.inj hx hi w)
    have eg : gk (sR I i s j) x = gk I x := gk_set_ne e
    have er : ∀ t, rfI (sR I i s j) x t = rfI I x t := fun t => by unfold rfI; rw [eg]
    have ei : ∀ t, ivI (sR I i s j) x t = ivI I x t := fun t => by unfold ivI; rw [eg]
    rw [eg]
    refine ⟨h1, h2, fun t => ?_, fun t y hy => ?_, fun t => ?_, h6⟩
    · rw [er]
      show va_up G.2.2.2 (aG G i) _ (aG G x) t = _
      rw [va_up_ne _ _ hne]
      exact h3 t
    · rw [hlen]
      rw [er] at hy
      exact h4 t y hy
    · rw [ei]
      exact h5 t
theorem Em.int (h : Em G D I) {i s v : Nat} (hi : i < I.length) : Em G (dI D (aG G i) s (nI v)) (sI I i s v) := by
  have hlen : (sI I i s v).length = I.length := List.length_set
  refine ⟨by rw [hlen]; exact h.1, h.2.1, fun x hx => ?_⟩
  rw [hlen] at hx
  obtain ⟨h1, h2, h3, h4, h5, h6⟩ := h.2.2 x hx
  by_cases e : x = i
  · subst e
    have eg : gk (sI I x s v) x = ((gk I x).1, (gk I x).2.1, (gk I x).2.2.1, (s, v) :: (gk I x).2.2.2) := gk_set_eq hx
    have er : ∀ t, rfI (sI I x s v) x t = rfI I x t := fun t => by unfold rfI; rw [eg]
    have ei : ∀ t, ivI (sI I x s v) x t = if t = s then v else ivI I x t := fun t => by
      unfold ivI
      rw [eg]
      show (List.lookup t ((s, v) :: _)).getD 0 = _
      rw [lk_cons]
      by_cases q : t = s
      · rw [if_pos q, if_pos q]; rfl
      · rw [if_neg q, if_neg q]
    rw [eg]
    refine ⟨h1, h2, fun t => by rw [er]; exact h3 t, fun t y hy => by rw [er] at hy; rw [hlen]; exact h4 t y hy, fun t => ?_, h6⟩
    rw [ei]
    by_cases q : t = s
    · subst q
      rw [dI_s, if_pos rfl]
    · rw [dI_o _ _ _ q, if_neg q]
      exact h5 t
  · have hne : aG G x ≠ aG G i := fun w => e (h.inj hx hi w)
    have eg : gk (sI I i s v) x = gk I x := gk_set_ne e
    have er : ∀ t, rfI (sI I i s v) x t = rfI I x t := fun t => by unfold rfI; rw [eg]
    have ei : ∀ t, ivI (sI I i s v) x t = ivI I x t := fun t => by unfold ivI; rw [eg]
    rw [eg]
    refine ⟨h1, h2, fun t => by rw [er]; exact h3 t, fun t y hy => by rw [er] at hy; rw [hlen]; exact h4 t y hy, fun t => ?_, h6⟩
    rw [ei, dI_n _ _ _ hne]
    exact h5 t
end EM
