section QLaw0
def Ch (y : MethodName) (cy : ByteArray) (ny : Nat) (rt : Option FieldType) (hh : List (Nat × Nat × Nat × Nat)) (n : Nat) : Prop :=
  Cond.static y ∈ W0 ∧ Cond.initialized y.cls ∈ W0 ∧ Cond.codeWith y cy ny rt hh ∈ W0 ∧ (y.cls ≠ "java/lang/invoke/MethodHandle" ∧ y.cls ≠ "java/lang/invoke/VarHandle" ∧ (parseMethodDescriptor y.desc).map (fun d => d.parameters.length) = some n)
section
variable {p : Program} {l : Launch} {e : Env} {R : Room} {s : State} {m : MethodId} {args : Array Value} {below : List Frame} {meth : Method} {c : Code} {H : Heap} {locs : List Loc} {cells slots : Nat} {Q : State → Prop}
variable {cc : ByteArray} {pc nL idx : Nat} {ls : Array Slot} {rest st : List Value} {D : va_G} {A : Nat → Prop} {tys : List (ClassId × FieldType)} {ws wn : va_W} {own : String} {x0 : Cond}
variable {y : MethodName} {cy : ByteArray} {ny n : Nat} {rt : Option FieldType} {rm : Room} {As : List Value} {wc w1 : va_W} {rv : Option Value} {hh : List (Nat × Nat × Nat × Nat)}
/-- a helper of the law is called -/
theorem k_h (F : CallFix p m c cc nL s args (x0 :: W0) own) (hNw : nwOk s) (hex : exOk A s) (hK : va_K D vwCl tys s) (hP : va_P D vwCl ws H) (hD : va_D A ws) (hS : va_S A s.heap H locs) (hA : ∀ q, s.heap.size ≤ q → A q)
    (hM : Mh l y cy ny rt hh rm D tys As H.size wc rv w1) (hl : Cond.methodLink own idx y ∈ W0) (cw : Ch y cy ny rt hh n)
    (isC isR isN : List Nat) (hI : Ix isC isR isN ws.length) (hC : isC.map (fun i => ws[i]?) = wc.map some) (hN : isN.map (fun i => (isR.filterMap (fun i => ws[i]?) ++ w1)[i]?) = wn.map some)
    (hn : As.length = n) (hrm : rm.cells = 1 ∧ rm.slots = 6 ∧ rm.frames + 1 ≤ R.frames ∧ 8 + (ny + 11) + rm.locals ≤ R.locals) (hsz : ls.size = nL) (hst : st = As.reverse ++ rest) (hrest : (rest.map fun v => v.category).sum ≤ 8)
    (hcs : cells + 1 ≤ R.cells ∧ slots + 6 ≤ R.slots) (hdg : decode cc pc = .ok (.invokestatic idx, 3))
    (kk : ∀ (H1 : Heap) (locs1 : List Loc), va_P D vwCl wn H1 → va_D A wn → va_S A s.heap H1 locs1 → W p l e R s m args below meth c H1 locs1 (cells + 1) (slots + 6) Q (F0 m (pc + 3) ls (rv.toList ++ rest))) :
    W p l e R s m args below meth c H locs cells slots Q (F0 m pc ls st) := by
  have hPc := hP.sub (ws' := wc) isC (fm_map hC)
  have hDc := hD.sub (ws' := wc) isC hI.1 hC
  have hFc := va_free (wc := wc) hD hS hA isC hC
  obtain ⟨c1, c3, c4, c5⟩ := cw
  have hT : GoodIn (x0 :: W0) (va_wsS own idx y (Cond.codeWith y cy ny rt hh :: W0)) := by
    unfold va_wsS
    refine q_app ?_ (q_g1 x0 c4)
    intro w hw
    simp only [List.mem_cons, List.not_mem_nil, or_false] at hw
    rcases hw with rfl | rfl | rfl
    · exact q_g0 x0 _ hl
    · exact q_g0 x0 _ c1
    · exact q_g0 x0 _ c3
  have run := vx_runSW (p := p) (l := l) (e := e) (R := R) (s := s) (m := m) (args := args) (below := below) (meth := meth) (c := c) (H := H) (locs := locs) (cells := cells) (slots := slots) (As := As) (rest := rest) (g := F0 m pc ls st) F hM (vx_cwSW n F.2.2.2.2 hT rfl hrm.1 hrm.2.1 c5 hrm.2.2)
    ⟨xPre.blind, fun U hU hW => ⟨rfl, by rw [hU], by rw [hU]; exact hPc, va_K.moved hW.alike hK, hDc.weaken (fun _ _ _ _ => trivial), hNw.warm hW, hex.to hW (fun a h1 h2 => by rw [hU]; exact hS.2.1 a h1 h2) (fun q hq => hFc q hq)⟩⟩
    rfl hn hsz hst (lv_room hrest) hdg hcs
  intro T hT0 X
  obtain ⟨v, st₀, t, T', L, h0, X', hL, e1, e2, ⟨hv, hP1, hD1, hz, hk⟩, stp⟩ := run T hT0 X
  cases hv
  rw [h0] at hz hk
  rw [← e1] at hP1 hz
  have hk1 : ∀ q : Nat, q < H.size → ¬ va_A wc H.size q → T'.heap[q]? = H[q]? := fun q h1 h2 => by rw [e1]; exact hk q h1 h2
  obtain ⟨hP2, hD2⟩ := va_join (wr := isR.filterMap (fun i => ws[i]?)) (w1 := w1) hP hD isC isR hC (map_fm hI.2.2.2.2) hI.2.1 hI.2.2.2.1 hk1 hFc hP1 hD1
  obtain ⟨t2, a1, b1⟩ := kk T'.heap (locs ++ L) (hP2.sub isN (fm_map hN)) (hD2.sub isN hI.2.2.1 hN)
    ⟨Nat.le_trans hS.1 hz, fun q h1 h2 => by rw [hk1 q (Nat.lt_of_lt_of_le h1 hS.1) (fun z => h2 (hFc q z))]; exact hS.2.1 q h1 h2, fun q hq => by
      rcases List.mem_append.mp hq with h | h
      · exact hS.2.2 q h
      · exact hFc _ (hL q h)⟩ T' rfl X'
  exact ⟨t2, stp t2 a1, b1⟩
end
end QLaw0
