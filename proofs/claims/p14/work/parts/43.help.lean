section QHelp
/-- a contract of a method with a table of its own: it returns rv; at most one cell of six slots comes -/
def Mh (l : Launch) (y : MethodName) (cc : ByteArray) (n : Nat) (rt : Option FieldType) (hh : List (Nat × Nat × Nat × Nat)) (rm : Room) (D : va_G) (tys : List (ClassId × FieldType)) (av : List Value) (sz : Nat) (ws : va_W) (rv : Option Value) (ws1 : va_W) : Prop :=
  Met l y (Cond.codeWith y cc n rt hh :: W0) rm (xPre D tys av sz ws) (gQ D sz ws ws1 rv) 1 6 (va_A ws sz)
theorem Mh.of {l : Launch} {y : MethodName} {cc : ByteArray} {n : Nat} {rt : Option FieldType} {hh : List (Nat × Nat × Nat × Nat)} {rm : Room} {D : va_G} {tys : List (ClassId × FieldType)} {av : List Value} {sz : Nat} {ws : va_W} {rv : Option Value} {ws1 : va_W}
    (hy : plainName y.cls = true) (hle : (lg_sl av).length ≤ n)
    (body : ∀ (p : Program) (e : Env) (s : State) (m : MethodId) (below : List Frame) (meth : Method) (c : Code), Cx p m c cc n s av.toArray (Cond.codeWith y cc n rt hh) y.cls meth rt → c.exceptionTable.toList = tableOf hh → exOk (va_A ws sz) s → va_K D vwCl tys s → s.heap.size = sz → va_P D vwCl ws s.heap → va_D (va_A ws sz) ws →
      ∀ ls : Array Slot, lv_has ls n (lv_args 0 av) → W p l e rm s m av.toArray below meth c s.heap [] 0 0 (MQ below (gQ D sz ws ws1 rv) av.toArray s 1 6 (va_A ws sz)) (F0 m 0 ls [])) :
    Mh l y cc n rt hh rm D tys av sz ws rv ws1 := by
  refine va_MetW (cc := cc) (maxL := n) (ret := rt) (hh := hh) hy rfl ?_
  intro p e s m args below meth c s₁ B hml hv
  obtain ⟨rfl, hsz, hP, hK, hD0, hN, hE⟩ := hv
  have hts := atoms_spec (ws := Cond.codeWith y cc n rt hh :: W0) B.pre
  have hown : s.vm.findClass y.cls = some m.cls := findClass_of_methodNamed B.named
  have hD := hD0.self (sz := sz)
  have htab := vx_table (x := y) B (hts _ List.mem_cons_self)
  rw [lg_entry_eq]
  exact body p e s m below meth c ⟨⟨B.exec, B.bytes, hml, hown, hts⟩, B.returns, B.notSynchronized, hN⟩ htab hE hK hsz hP hD _ (lv_entry av hle)
end QHelp
