/-! new long[n][m], by the order of making -/
def sM (I : List Mk) (N K : Nat) : List Mk := (I ++ List.replicate N (12, K, [], [])) ++ [(17, N, (List.range N).map (fun i => (i, I.length + i)), [])]
theorem lk_range (b : Nat) : ∀ (l : List Nat) (s : Nat), List.lookup s (l.map (fun i => (i, b + i))) = if s ∈ l then some (b + s) else none
  | [], s => rfl
  | x :: l, s => by
    rw [List.map_cons, lk_cons, lk_range b l s]
    by_cases e : s = x
    · subst e
      rw [if_pos rfl, if_pos List.mem_cons_self]
    · rw [if_neg e]
      by_cases q : s ∈ l
      · rw [if_pos q, if_pos (List.mem_cons_of_mem _ q)]
      · rw [if_neg q, if_neg (fun w => by rcases List.mem_cons.mp w with h | h; exact e h; exact q h)]
section EM2
variable {G : Shp} {D : Dat} {I : List Mk}
theorem Em.mna (h : Em G D I) {q N K : Nat} {r : Nat → Nat} (h1 : ∀ i j : Nat, i < N → j < N → r i = r j → i = j) (h2 : ∀ i : Nat, i < N → r i ∉ G.1) (hq : q ∉ G.1 ++ (List.range N).map r) : Em (gM G q r N K) (dM D q r N) (sM I N K) ∧ (∀ j, j < I.length → aG (gM G q r N K) j = aG G j) ∧ aG (gM G q r N K) (I.length + N) = q := by
  have hq1 : q ∉ G.1 := fun w => hq (List.mem_append_left _ w)
  have hq2 : q ∉ (List.range N).map r := fun w => hq (List.mem_append_right _ w)
  have hgl : (G.1 ++ (List.range N).map r).length = I.length + N := by rw [List.length_append, List.length_map, List.length_range, h.1]
  have ea0 : ∀ j, aG (gM G q r N K) j = (G.1 ++ (List.range N).map r ++ [q]).getD j 0 := fun _ => rfl
  have hold : ∀ j, j < I.length → aG (gM G q r N K) j = aG G j := fun j hj => by
    rw [ea0, List.getD_eq_getElem?_getD, List.getElem?_append_left (by rw [hgl]; omega), List.getElem?_append_left (by rw [h.1]; exact hj)]
    unfold aG
    rw [List.getD_eq_getElem?_getD]
  have hmid : ∀ i, i < N → aG (gM G q r N K) (I.length + i) = r i := fun i hi => by
    rw [ea0, List.getD_eq_getElem?_getD, List.getElem?_append_left (by rw [hgl]; omega), List.getElem?_append_right (by rw [h.1]; omega), h.1, Nat.add_sub_cancel_left, List.getElem?_map, List.getElem?_range hi]
    rfl
  have hnew : aG (gM G q r N K) (I.length + N) = q := by
    rw [ea0, List.getD_eq_getElem?_getD, List.getElem?_append_right (by rw [hgl]; omega), hgl, Nat.sub_self]
    rfl
  have hsl : (I ++ List.replicate N ((12, K, [], []) : Mk)).length = I.length + N := by rw [List.length_append, List.length_replicate]
  have hlen : (sM I N K).length = I.length + N + 1 := by
    unfold sM
    rw [List.length_append, hsl]
    rfl
  have hmem : ∀ i, i < N → r i ∈ (List.range N).map r := fun i hi => List.mem_map.mpr ⟨i, List.mem_range.mpr hi, rfl⟩
  refine ⟨⟨?_, ?_, fun j hj => ?_⟩, hold, hnew⟩
  · show (G.1 ++ (List.range N).map r ++ [q]).length = _
    rw [List.length_append, hgl, hlen]
    rfl
  · show (G.1 ++ (List.range N).map r ++ [q]).Nodup
    rw [List.nodup_append, List.nodup_append]
    refine ⟨⟨h.2.1, ?_, fun a ha b hb e => ?_⟩, by simp, fun a ha b hb => ?_⟩
    · rw [List.nodup_iff_pairwise_ne, List.pairwise_map]
      refine List.Pairwise.imp_of_mem ?_ List.nodup_range
      intro a b ha hb hab e
      exact hab (h1 a b (List.mem_range.mp ha) (List.mem_range.mp hb) e)
    · obtain ⟨i, hi, rfl⟩ := List.mem_map.mp hb
      exact h2 i (List.mem_range.mp hi) (e ▸ ha)
    · rw [List.mem_singleton.mp hb]
      exact fun e => hq (e ▸ ha)
  · rw [hlen] at hj
    by_cases c1 : j < I.length
    · have hne : aG G j ≠ q := fun w => hq1 (w ▸ h.mem c1)
      have hni : aG G j ∉ (List.range N).map r := fun w => by
        obtain ⟨i, hi, e⟩ := List.mem_map.mp w
        exact h2 i (List.mem_range.mp hi) (e ▸ h.mem c1)
      obtain ⟨g1, g2, g3, g4, g5, g6⟩ := h.2.2 j c1
      have eg : gk (sM I N K) j = gk I j := by
        unfold gk sM
        rw [List.getD_eq_getElem?_getD, List.getD_eq_getElem?_getD, List.getElem?_append_left (by rw [hsl]; omega), List.getElem?_append_left c1]
      have er : ∀ s, rfI (sM I N K) j s = rfI I j s := fun s => by unfold rfI; rw [eg]
      have ei : ∀ s, ivI (sM I N K) j s = ivI I j s := fun s => by unfold ivI; rw [eg]
      rw [hold j c1, eg]
      refine ⟨((va_up_ne _ _ hne).trans (vr_up_ne hni)).trans g1, ((va_up_ne _ _ hne).trans (vr_up_ne hni)).trans g2, fun s => ?_, fun s x hx => ?_, fun s => ?_, fun s => ?_⟩
      · rw [er]
        show va_up (vr_up G.2.2.2 ((List.range N).map r) (fun _ => none)) q _ (aG G j) s = _
        rw [va_up_ne _ _ hne, vr_up_ne hni, g3 s]
        cases hr : rfI I j s with
        | none => rfl
        | some x =>
          show some (aG G x) = some (aG (gM G q r N K) x)
          rw [hold x (g4 s x hr)]
      · rw [er] at hx
        have := g4 s x hx
        rw [hlen]
        omega
      · rw [ei]
        show va_up (vr_up D.1 ((List.range N).map r) (fun _ => 0)) q _ (aG G j) s = _
        rw [va_up_ne _ _ hne, vr_up_ne hni]
        exact g5 s
      · show va_up (vr_up D.2 ((List.range N).map r) (fun _ => 0)) q _ (aG G j) s = _
        rw [va_up_ne _ _ hne, vr_up_ne hni]
        exact g6 s
    by_cases c2 : j = I.length + N
    · subst c2
      have eg : gk (sM I N K) (I.length + N) = (17, N, (List.range N).map (fun i => (i, I.length + i)), []) := by
        unfold gk sM
        rw [List.getD_eq_getElem?_getD, List.getElem?_append_right (by rw [hsl]; omega), hsl, Nat.sub_self]
        rfl
      have er : ∀ s, rfI (sM I N K) (I.length + N) s = if s < N then some (I.length + s) else none := fun s => by
        unfold rfI
        rw [eg]
        show List.lookup s ((List.range N).map (fun i => (i, I.length + i))) = _
        rw [lk_range]
        by_cases q : s < N
        · rw [if_pos (List.mem_range.mpr q), if_pos q]
        · rw [if_neg (fun w => q (List.mem_range.mp w)), if_neg q]
      have ei : ∀ s, ivI (sM I N K) (I.length + N) s = 0 := fun s => by unfold ivI; rw [eg]; rfl
      rw [hnew, eg]
      refine ⟨va_up_self _ _ _, va_up_self _ _ _, fun s => ?_, fun s x hx => ?_, fun s => ?_, fun s => ?_⟩
      · rw [er]
        show va_up (vr_up G.2.2.2 ((List.range N).map r) (fun _ => none)) q (fun i => if i < N then some (r i) else none) q s = _
        rw [va_up_self]
        by_cases e : s < N
        · rw [if_pos e, if_pos e]
          show some (r s) = some (aG (gM G q r N K) (I.length + s))
          rw [hmid s e]
        · rw [if_neg e, if_neg e]
          rfl
      · rw [er] at hx
        rw [hlen]
        by_cases e : s < N
        · rw [if_pos e] at hx
          cases hx
          omega
        · rw [if_neg e] at hx
          cases hx
      · rw [ei]
        show va_up (vr_up D.1 ((List.range N).map r) (fun _ => 0)) q (fun _ => 0) q s = _
        rw [va_up_self]
        rfl
      · show va_up (vr_up D.2 ((List.range N).map r) (fun _ => 0)) q (fun _ => 0) q s = _
        rw [va_up_self]
    · obtain ⟨i, rfl⟩ : ∃ i, j = I.length + i := ⟨j - I.length, by omega⟩
      have hi : i < N := by omega
      have hne : r i ≠ q := fun w => hq2 (w ▸ hmem i hi)
      have hin := hmem i hi
      have eg : gk (sM I N K) (I.length + i) = (12, K, [], []) := by
        unfold gk sM
        rw [List.getD_eq_getElem?_getD, List.getElem?_append_left (by rw [hsl]; omega), List.getElem?_append_right (by omega), Nat.add_sub_cancel_left, List.getElem?_replicate, if_pos hi]
        rfl
      have er : ∀ s, rfI (sM I N K) (I.length + i) s = none := fun s => by unfold rfI; rw [eg]; rfl
      have ei : ∀ s, ivI (sM I N K) (I.length + i) s = 0 := fun s => by unfold ivI; rw [eg]; rfl
      rw [hmid i hi, eg]
      refine ⟨(va_up_ne _ _ hne).trans (vr_up_in hin), (va_up_ne _ _ hne).trans (vr_up_in hin), fun s => ?_, fun s x hx => ?_, fun s => ?_, fun s => ?_⟩
      · rw [er]
        show va_up (vr_up G.2.2.2 ((List.range N).map r) (fun _ => none)) q _ (r i) s = _
        rw [va_up_ne _ _ hne, vr_up_in hin]
        rfl
      · rw [er] at hx
        cases hx
      · rw [ei]
        show va_up (vr_up D.1 ((List.range N).map r) (fun _ => 0)) q _ (r i) s = _
        rw [va_up_ne _ _ hne, vr_up_in hin]
        rfl
      · show va_up (vr_up D.2 ((List.range N).map r) (fun _ => 0)) q _ (r i) s = _
        rw [va_up_ne _ _ hne, vr_up_in hin]
end EM2
