section QStart
/-- what the Statement gives at the law's entry, in the words of the contracts -/
theorem law_nw {p : Program} {s : State} {m : MethodId} {meth : Method} {c : Code} {b L : Nat} {xs : Nat → Int32} (C0 : lw_At p s m meth c b L xs) : nwOk s := by
  obtain ⟨hx, hb, hr, hml, hown, hts, hX, hbl, hlocks, hgv⟩ := C0
  have h1 : ∀ q ∈ NF, Cond.fieldLinkNest q.1 q.2.1 q.2.2.1 q.2.2.2.1 q.2.2.2.2.1 q.2.2.2.2.2 ∈ lw_tbl := by decide +kernel
  have h2 : ∀ q ∈ NM, Cond.methodLinkNest q.1 q.2.1 q.2.2.1 q.2.2.2 ∈ lw_tbl := by decide +kernel
  exact ⟨fun q hq => va_Nw.of rfl (hts _ (h1 q hq)), fun q hq => va_Nw.of rfl (hts _ (h2 q hq))⟩
theorem law_ex {p : Program} {s : State} {m : MethodId} {meth : Method} {c : Code} {b L : Nat} {xs : Nat → Int32} (C0 : lw_At p s m meth c b L xs) : exOk (fun q : Nat => s.heap.size ≤ q) s := by
  obtain ⟨hx, hb, hr, hml, hown, hts, hX, hbl, hlocks, hgv⟩ := C0
  have hfl := flat_of_before _ hgv
  have h3 : ∀ q ∈ exS, Cond.stringRef RX6 q.1 q.2 ∈ lw_tbl := by decide +kernel
  have h4 : ∀ q ∈ exC, Cond.castable q.1 q.2 ∈ lw_tbl := by decide +kernel
  have h5 : ∀ x ∈ exD, Cond.declares x ∈ lw_tbl := by decide +kernel
  refine ⟨⟨vx_Zqof (hts _ (by decide +kernel)) (hts _ (by decide +kernel)) (hfl _ (by decide +kernel)) (fun a h => Nat.not_le.mpr h), vx_Zqof (hts _ (by decide +kernel)) (hts _ (by decide +kernel)) (hfl _ (by decide +kernel)) (fun a h => Nat.not_le.mpr h)⟩, ?_, fun q hq => va_Nw.of rfl (hts _ (h4 q hq)), fun x hx => va_Nw.of rfl (hts _ (h5 x hx)), ?_⟩
  · intro q hq
    have h6 : (Cond.exactly (.string RX6 q.1) "java/lang/String").before #[Value.ref b] s = true := by
      have h7 : ∀ q ∈ exS, Cond.exactly (.string RX6 q.1) "java/lang/String" ∈ flatC (Jvm.Cond.and given_1 narrow_1) := by decide +kernel
      exact hfl _ (h7 q hq)
    obtain ⟨a2, c2, cA, kA, q1, -⟩ := Cond.exactly_spec (args := #[Value.ref b]) (first := s) (o := none) (s := s) (idx := []) (t := .string RX6 q.1) (cls := "java/lang/String") h6
    exact ⟨a2, vk_R.of (hts _ (h3 q hq)) q1⟩
  · intro q hq
    have h8 : ∀ q ∈ exNC, Cond.not (.castable q.1 q.2) ∈ flatC (Jvm.Cond.and given_1 narrow_1) := by decide +kernel
    exact va_Nc.of (hfl _ (h8 q hq))
theorem law_arr {p : Program} {s : State} {m : MethodId} {meth : Method} {c : Code} {b L : Nat} {xs : Nat → Int32} (C0 : lw_At p s m meth c b L xs) (ty : FieldType) (hty : ty = .int ∨ ty = .long ∨ ty = .byte) : ∃ cA : ClassId, ArrOfT s cA ty ∧ va_RA s cA ty := by
  obtain ⟨hx, hb, hr, hml, hown, hts, hX, hbl, hlocks, hgv⟩ := C0
  have hw : (Cond.arrayClass ty).before #[Value.ref b] s = true := by
    rcases hty with rfl | rfl | rfl <;> exact hts _ (by decide +kernel)
  obtain ⟨cA, kA, comp, h1, h2, h3⟩ := Cond.arrayClass_spec hw
  refine ⟨cA, fun n z => ⟨fun k h => (by cases h), kA, h2, comp, h3⟩, ?_⟩
  rcases hty with rfl | rfl | rfl <;> exact h1
theorem law_K {p : Program} {s : State} {m : MethodId} {meth : Method} {c : Code} {b L : Nat} {xs : Nat → Int32} (C0 : lw_At p s m meth c b L xs) : ∃ (D : va_G) (cI cJ cB : ClassId), va_K D vwCl (ty0 cI cJ cB) s := by
  obtain ⟨cI, a1, a2⟩ := law_arr C0 .int (Or.inl rfl)
  obtain ⟨cJ, b1, b2⟩ := law_arr C0 .long (Or.inr (Or.inl rfl))
  obtain ⟨cB, d1, d2⟩ := law_arr C0 .byte (Or.inr (Or.inr rfl))
  obtain ⟨hx, hb, hr, hml, hown, hts, hX, hbl, hlocks, hgv⟩ := C0
  have key : ∀ q ∈ vwCl, ∃ (cC : ClassId) (iS : Nat → Nat), u_Kn s q.1 q.2.1 q.2.2 cC iS := by
    have h1 : ∀ q ∈ vwCl, (∀ w ∈ u_ws q.1 q.2.1 q.2.2, w ∈ lw_tbl) ∧ Cond.instantiable q.1 q.2.2 ∈ lw_tbl := by decide +kernel
    exact fun q hq => u_known hts (h1 q hq).1 (hts _ (h1 q hq).2)
  have kc : ∀ k : Nat, ∃ (z : ClassId × (Nat → Nat)), ∀ q : vw_C, vwCl[k]? = some q → u_Kn s q.1 q.2.1 q.2.2 z.1 z.2 := by
    intro k
    cases hk : vwCl[k]? with
    | none => exact ⟨(0, fun _ => 0), fun q h => by cases h⟩
    | some q =>
      obtain ⟨cC, iS, h⟩ := key q (List.mem_of_getElem? hk)
      exact ⟨(cC, iS), fun q2 h2 => by cases h2; exact h⟩
  refine ⟨(fun k => ((kc k).choose).1, fun k => ((kc k).choose).2), cI, cJ, cB, fun k q hq => (kc k).choose_spec q hq, ?_⟩
  intro k q hq
  match k, hq with
  | 0, hq => cases hq; exact ⟨a1, a2⟩
  | 1, hq => cases hq; exact ⟨b1, b2⟩
  | 2, hq => cases hq; exact ⟨d1, d2⟩
  | k + 3, hq => simp [ty0] at hq
theorem law_fix {p : Program} {s : State} {m : MethodId} {meth : Method} {c : Code} {b L : Nat} {xs : Nat → Int32} (C0 : lw_At p s m meth c b L xs) : CallFix p m c cL_law 7 s #[Value.ref b] (Cond.initialized RL :: W0) RL := by
  obtain ⟨hx, hb, hr, hml, hown, hts, hX, hbl, hlocks, hgv⟩ := C0
  refine ⟨hx, hb, hml, hown, fun w hw => ?_⟩
  rcases List.mem_cons.mp hw with rfl | h
  · exact hts _ (by decide +kernel)
  · exact hts _ (List.mem_filter.mp h).1
end QStart
