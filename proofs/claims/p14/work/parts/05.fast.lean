theorem hN_e {α : Type} (ws : List α) : ∀ (l : List Nat), (∀ i ∈ l, i < ws.length) → (l.filterMap (fun i => ws[i]?)).length = l.length ∧ ∀ m : Nat, (l.filterMap (fun i => ws[i]?))[m]? = (l[m]?).bind (fun i => ws[i]?)
  | [], _ => ⟨rfl, fun m => by simp⟩
  | a :: l, h => by
    obtain ⟨h1, h2⟩ := hN_e ws l (fun i hi => h i (List.mem_cons_of_mem _ hi))
    have ha : a < ws.length := h a List.mem_cons_self
    have e1 : ws[a]? = some ws[a] := List.getElem?_eq_getElem ha
    have e2 : (a :: l).filterMap (fun i => ws[i]?) = ws[a] :: l.filterMap (fun i => ws[i]?) := List.filterMap_cons_some e1
    rw [e2]
    refine ⟨by rw [List.length_cons, List.length_cons, h1], fun m => ?_⟩
    cases m with
    | zero => rw [List.getElem?_cons_zero, List.getElem?_cons_zero, Option.bind_some, e1]
    | succ m => rw [List.getElem?_cons_succ, List.getElem?_cons_succ, h2 m]
theorem hN_of {α : Type} {ws w1 wn : List α} {isR isN : List Nat} (nR nW : Nat) (hn : isR.length = nR) (hw : ws.length = nW) (hlt : isR.all (fun i => decide (i < nW)) = true) (h : isN.map (fun m => if m < nR then (isR[m]?).bind (fun i => ws[i]?) else w1[m - nR]?) = wn.map some) : isN.map (fun i => (isR.filterMap (fun i => ws[i]?) ++ w1)[i]?) = wn.map some := by
  subst hn
  subst hw
  have hl : ∀ i ∈ isR, i < ws.length := fun i hi => of_decide_eq_true (List.all_eq_true.mp hlt i hi)
  obtain ⟨e1, e2⟩ := hN_e ws isR hl
  rw [← h]
  apply List.map_congr_left
  intro m _
  by_cases c : m < isR.length
  · rw [if_pos c, List.getElem?_append_left (by rw [e1]; exact c), e2 m]
  · rw [if_neg c, List.getElem?_append_right (by rw [e1]; omega), e1]
