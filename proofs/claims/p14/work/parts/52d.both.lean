section BOTH
variable {u : Nat} {ki le ri ma bi ro ta rs : Nat → Int32} {F : List (List Int32)}
theorem lb_read (N : Nat) (hN : 110000 ≤ N) {s : Nat} {t1 t2 : Nat → Int32} (T : TX t1 t2 s) {pa ro1 : Int32} {ce sa lo : Nat → Int32} (B : ∃ st, Be pa ro1 ce 2400 sa lo st) {fr : Int32} {fc : Nat → Int32} (C : CF fr fc F) (hF : FI F) (S : RefS u ki le ri ma bi ro ta rs F) (w a o p g : Int32) (nu : Nat → Int64) (wa : Nat → Int32) (th gr ap fa op wr : Int32) (mo : Nat → Int32) (row su : Nat → Int64) : ∃ F' an wt' at' op' pr' gr' pa' ro1' ce' sa' lo' nu' wa' fr' fc' u' gr2 ap2 fa2 op2 wr2 ki' le' ri' ma' bi' ro' ta' rs' mo' row' su', f_X6_read N (fv F) (Int32.ofNat s) w a o p g t1 pa ro1 ce 2400 sa lo nu wa fr fc 4000 = some (an, fv F', wt', at', op', pr', gr', pa', ro1', ce', sa', lo', nu', wa', fr', fc') ∧ f_X7_read N th (Int32.ofNat u) 1 (Int32.ofNat s) gr ap fa op wr ki le ri ma bi ro ta rs mo t2 row su = some (an, 0, Int32.ofNat u', gr2, ap2, fa2, op2, wr2, ki', le', ri', ma', bi', ro', ta', rs', mo', row', su') ∧ (∃ st, Be pa' ro1' ce' 2400 sa' lo' st) ∧ CF fr' fc' F' ∧ FI F' ∧ RefS u' ki' le' ri' ma' bi' ro' ta' rs' F' := by
  obtain ⟨st, B⟩ := B
  obtain ⟨los', wt', at', op', pr', gr', pa', ro1', ce', sa', lo', nu', wa', fr', fc', e1, B', hl, C'⟩ := y_read (t := t1) N hN T.1 B C w a o p g nu wa
  obtain ⟨u', gr2, ap2, fa2, op2, wr2, ki', le', ri', ma', bi', ro', ta', rs', mo', row', su', e2, S'⟩ := o_read7 N (by omega) T.1 T.tb S hF th gr ap fa op wr mo row su
  subst hl
  rw [T.read] at e1 C'
  exact ⟨_, _, wt', at', op', pr', gr', pa', ro1', ce', sa', lo', nu', wa', fr', fc', u', gr2, ap2, fa2, op2, wr2, ki', le', ri', ma', bi', ro', ta', rs', mo', row', su', e1, e2, B', C', fi_read T.1 hF, S'⟩
theorem lb_frees (N : Nat) (hN : 110000 ≤ N) {pa ro1 : Int32} {ce : Nat → Int32} {n : Nat} {sa lo : Nat → Int32} (B : ∃ st, Be pa ro1 ce n sa lo st) (hn : 12000 ≤ n) {fr : Int32} {fc : Nat → Int32} (C : CF fr fc F) (hF : FI F) (S : RefS u ki le ri ma bi ro ta rs F) (po pp tt br : Int32) (bc : Nat → Int32) (nu : Nat → Int64) (ps1 : Nat → Int32) (th pts tko gr : Int32) (by_ : Int64) (so va pc : Int32) (mo : Nat → Int32) (row pn : Nat → Int64) (pr ps : Nat → Int32) : ∃ F' an po' pp' tt' pa' ro1' ce' n' sa' lo' br' bc' nu' ps1' fr' fc' u' pts' tko' gr' by' so' va' pc' ki' le' ri' ma' bi' ro' ta' rs' mo' row' pn' pr' ps', f_X6_frees N (fv F) po pp tt pa ro1 ce n sa lo br bc 4000 nu ps1 fr fc 4000 = some (an, fv F', po', pp', tt', pa', ro1', ce', n', sa', lo', br', bc', nu', ps1', fr', fc') ∧ f_X7_frees N th (Int32.ofNat u) 1 pts tko gr by_ so va pc ki le ri ma bi ro ta rs mo row pn pr ps = some (an, 0, Int32.ofNat u', 1, pts', tko', gr', by', so', va', pc', ki', le', ri', ma', bi', ro', ta', rs', mo', row', pn', pr', ps') ∧ 12000 ≤ n' ∧ (∃ st, Be pa' ro1' ce' n' sa' lo' st) ∧ CF fr' fc' F' ∧ FI F' ∧ RefS u' ki' le' ri' ma' bi' ro' ta' rs' F' := by
  obtain ⟨st, B⟩ := B
  obtain ⟨an, los', po', pp', tt', pa', ro1', ce', n', sa', lo', br', bc', nu', ps1', fr', fc', e1, hn', B', hor⟩ := y_frees N hN C hF.run (fv F) po pp tt pa ro1 ce n sa lo br bc nu ps1 B hn
  obtain ⟨an2, u', pts', tko', gr', by', so', va', pc', ki', le', ri', ma', bi', ro', ta', rs', mo', row', pn', pr', ps', F', e2, S', hor2⟩ := o_frees7 N (by omega) S hF th pts tko gr by_ so va pc mo row pn pr ps
  rcases hor with ⟨g, h1, h2, h3, h4, h5⟩ | ⟨h1, h2, h3, h4, h5⟩
  · rcases hor2 with ⟨k1, k2⟩ | ⟨k1, k2, k3⟩
    · have : g = F' := by rw [h1] at k1; exact Option.some.inj k1
      subst this
      subst h4
      subst h3
      subst k2
      exact ⟨g, _, po', pp', tt', pa', ro1', ce', n', sa', lo', br', bc', nu', ps1', fr', fc', u', pts', tko', gr', by', so', va', pc', ki', le', ri', ma', bi', ro', ta', rs', mo', row', pn', pr', ps', e1, e2, hn', B', h5, hF.frd h1, S'⟩
    · rw [h1] at k1; exact absurd k1 (by simp)
  · rcases hor2 with ⟨k1, k2⟩ | ⟨k1, k2, k3⟩
    · rw [h1] at k1; exact absurd k1 (by simp)
    · subst h2; subst h3; subst h4; subst h5; subst k2; subst k3
      exact ⟨F', _, po', pp', tt', pa', ro1', ce', n', sa', lo', br', bc', nu', ps1', _, _, u', pts', tko', gr', by', so', va', pc', ki', le', ri', ma', bi', ro', ta', rs', mo', row', pn', pr', ps', e1, e2, hn', B', C, hF, S'⟩
theorem lb_not (N : Nat) (hN : 110000 ≤ N) {fr : Int32} {fc : Nat → Int32} (C : CF fr fc F) (hF : FI F) (S : RefS u ki le ri ma bi ro ta rs F) (th : Int32) (mo : Nat → Int32) (row : Nat → Int64) : ∃ F' an fc' u' ki' le' ri' ma' bi' ro' ta' rs' mo' row', f_X6_not N fr fc 4000 = some (an, fc') ∧ f_X7_not N th (Int32.ofNat u) 1 ki le ri ma bi ro ta rs mo row = some (an, 0, Int32.ofNat u', ki', le', ri', ma', bi', ro', ta', rs', mo', row') ∧ fv F = fv F' ∧ CF fr fc' F' ∧ FI F' ∧ RefS u' ki' le' ri' ma' bi' ro' ta' rs' F' := by
  obtain ⟨fc', e1, C'⟩ := y_not N (by omega) C
  obtain ⟨u', ki', le', ri', ma', bi', ro', ta', rs', mo', row', e2, S'⟩ := o_not7 N (by omega) S hF th mo row
  exact ⟨ng F, _, fc', u', ki', le', ri', ma', bi', ro', ta', rs', mo', row', e1, e2, (ng_fm hF.1).2.1.symm, C', hF.ng, S'⟩
theorem lb_decide (N : Nat) (hN : 110000 ≤ N) {ab be : Nat → Int32} (V : Vl ab be) {pa ro1 : Int32} {ce : Nat → Int32} {n : Nat} {sa lo : Nat → Int32} (B : ∃ st, Be pa ro1 ce n sa lo st) (hn : 12000 ≤ n) {fr : Int32} {fc : Nat → Int32} (C : CF fr fc F) (hF : FI F) (S : RefS u ki le ri ma bi ro ta rs F) (po pp tt br : Int32) (bc : Nat → Int32) (nu : Nat → Int64) (rp sp bo : Nat → Int32) (cr : Int32) (cc : Nat → Int32) (th pts tko gr : Int32) (by_ : Int64) (so va pc : Int32) (mo : Nat → Int32) (row pn : Nat → Int64) (pr ps : Nat → Int32) : ∃ an po' pp' tt' pa' ro1' ce' n' sa' lo' br' bc' nu' rp' sp' bo' cr' cc' u' pts' tko' gr' by' so' va' pc' ki' le' ri' ma' bi' ro' ta' rs' mo' row' pn' pr' ps', f_X6_decide N (fv F) po pp tt pa ro1 ce n sa lo br bc 4000 nu rp sp bo fr fc 4000 cr cc 4000 ab be = some (an, po', pp', tt', pa', ro1', ce', n', sa', lo', br', bc', nu', rp', sp', bo', cr', cc') ∧ f_X7_decide N th (Int32.ofNat u) 1 pts tko gr by_ so va pc ki le ri ma bi ro ta rs mo ab be row pn pr ps = some (an, 0, Int32.ofNat u', 1, pts', tko', gr', by', so', va', pc', ki', le', ri', ma', bi', ro', ta', rs', mo', row', pn', pr', ps') ∧ 12000 ≤ n' ∧ (∃ st, Be pa' ro1' ce' n' sa' lo' st) ∧ RefS u' ki' le' ri' ma' bi' ro' ta' rs' F := by
  obtain ⟨st, B⟩ := B
  obtain ⟨po', pp', tt', pa', ro1', ce', n', sa', lo', br', bc', nu', rp', sp', bo', cr', cc', e1, hn', B'⟩ := y_decide N hN V hF C po pp tt B hn br bc nu rp sp bo cr cc
  obtain ⟨u', pts', tko', gr', by', so', va', pc', ki', le', ri', ma', bi', ro', ta', rs', mo', row', pn', pr', ps', e2, S'⟩ := o_decide7 N (by omega) V hF S th pts tko gr by_ so va pc mo row pn pr ps
  exact ⟨_, po', pp', tt', pa', ro1', ce', n', sa', lo', br', bc', nu', rp', sp', bo', cr', cc', u', pts', tko', gr', by', so', va', pc', ki', le', ri', ma', bi', ro', ta', rs', mo', row', pn', pr', ps', e1, e2, hn', B', S'⟩
end BOTH
def LI (F : List (List Int32)) (u s : Nat) (rb : Nat → Int32) (rpa rro : Int32) (rce rsa rlo : Nat → Int32) (fpa fro : Int32) (fce : Nat → Int32) (fn : Nat) (fsa flo : Nat → Int32) (sl : Int32) (sk : Nat → Int32) (fr : Int32) (fc ab be ki le ri ma bi ro ta rs tx ou : Nat → Int32) : Prop :=
  TX rb tx s ∧ (∃ st, Be rpa rro rce 2400 rsa rlo st) ∧ (∃ st, Be fpa fro fce fn fsa flo st) ∧ 12000 ≤ fn ∧ OU2 sl sk ou ∧ CF fr fc F ∧ Vl ab be ∧ FI F ∧ RefS u ki le ri ma bi ro ta rs F
theorem ix_e {i : Int32} {n : Nat} {α : Type} {k : Option α} (j : Nat) (e : i = Int32.ofNat j) (h : j < n) (hi : j < 2147483648) : ix i n k = k := by subst e; exact ix_n j n k h hi
theorem L4 {L y : Nat} (hL : L ≤ 2048) (hy : y ≤ L) : (((Int32.ofNat L) - 4) < Int32.ofNat y) ↔ L < y + 4 := by
  rw [Int32.lt_iff_toInt_lt, Int32.toInt_sub, i_toInt _ (by omega), i_toInt _ (by omega), show (4 : Int32).toInt = 4 from rfl, Int.bmod_eq_of_le (by omega) (by omega)]
  omega
theorem sw13 {x : Int32} (h : ¬ (x.toInt < 0 ∨ 12 < x.toInt)) : ∃ n : Nat, n ≤ 12 ∧ x = Int32.ofNat n := by
  refine ⟨x.toInt.toNat, by omega, ?_⟩
  apply Int32.toInt_inj.mp
  rw [i_toInt _ (by omega)]; omega
abbrev q1_O : Nat → Int32 := fun _ => 0
abbrev q1_OL : Nat → Int64 := fun _ => 0
abbrev q1_K2 : Nat → Int32 := upd q1_O 1 1
abbrev q1_M2 : Nat → Int32 := upd (upd q1_O 0 1) 1 1
abbrev q1_T2 : Nat → Int32 := upd (upd q1_O 0 1) 1455 2
abbrev q1_B8 : Nat → Int32 := upd (upd (upd (upd (upd (upd (upd (upd q1_O 0 1) 1 1) 2 1) 3 1) 4 1) 5 1) 6 1) 7 1
theorem q1_v4 (k : Nat) : upd q1_O k 0 = q1_O := upd_same _ _ _ rfl
theorem q1_x_place1 (N : Nat) (h : 20 ≤ N) : f_X7_place N 0 q1_O q1_O q1_O q1_O q1_O q1_O q1_O q1_OL 0 0 0 = some (0, 1, upd q1_O 0 0, upd q1_O 0 0,upd q1_O 0 0,upd q1_O 0 1,upd q1_O 0 0, q1_O, upd q1_O 0 1) := by
  obtain ⟨M, rfl⟩ := Nat.exists_eq_add_of_le' h
  rfl
theorem q1_x_place2 (N : Nat) (h : 20 ≤ N) : f_X7_place N 1 (upd q1_O 0 0) (upd q1_O 0 0) (upd q1_O 0 0) (upd q1_O 0 1) (upd q1_O 0 0) q1_O (upd q1_O 0 1) q1_OL 1 0 0 = some (1, 2, upd (upd q1_O 0 0) 1 1, upd (upd q1_O 0 0) 1 0, upd (upd q1_O 0 0) 1 0, q1_M2, upd (upd q1_O 0 0) 1 0, q1_O, upd (upd q1_O 0 1) 1455 2) := by
  obtain ⟨M, rfl⟩ := Nat.exists_eq_add_of_le' h
  rfl
theorem q1_x_place2c (N : Nat) (h : 20 ≤ N) : f_X7_place N 1 (upd q1_O 0 0) (upd q1_O 0 0) (upd q1_O 0 0) (upd q1_O 0 1) (upd q1_O 0 0) q1_O (upd q1_O 0 1) q1_OL 1 0 0 = some (1, 2, q1_K2, q1_O, q1_O, q1_M2, q1_O, q1_O, q1_T2) := by
  rw [q1_x_place2 N h]
  simp only [q1_v4]
theorem q1_x_fill (N : Nat) (h : 20 ≤ N) : f_J7_fill_53178 N q1_O 8 1 = some q1_B8 := by
  obtain ⟨M, rfl⟩ := Nat.exists_eq_add_of_le' h
  rfl
theorem q1_x_add (N : Nat) (h : 20 ≤ N) : f_X5_add N 0 q1_O 4000 0 = some (1, q1_O) := by
  obtain ⟨M, rfl⟩ := Nat.exists_eq_add_of_le' h
  have e : f_X5_add (M + 20) 0 q1_O 4000 0 = some (1, upd (upd (upd (upd (upd (upd (upd (upd (upd (upd (upd q1_O 0 0) 1 0) 2 0) 3 0) 4 0) 5 0) 6 0) 7 0) 8 0) 9 0) 0 0) := rfl
  rw [e]; simp only [q1_v4]
theorem cn_zero0 (n : Nat) : cn q1_O n = 0 := cn_zero q1_O n (fun _ _ => rfl)
theorem q1_pool : Pool 2 q1_K2 q1_O q1_O q1_M2 q1_O q1_O q1_T2 := by
  have two : ∀ p : Nat, p < 2 → p = 0 ∨ p = 1 := fun p hp => by omega
  have d0 : dn q1_K2 q1_O q1_O q1_O 0 = fT := rfl
  have d1 : dn q1_K2 q1_O q1_O q1_O 1 = fF := rfl
  refine ⟨⟨by omega, by omega, ?_, ?_⟩, ⟨?_, ?_, ?_⟩, ?_⟩
  · intro p hp
    rcases two p hp with rfl | rfl
    · exact Or.inl ⟨rfl, rfl, rfl, rfl⟩
    · exact Or.inr (Or.inl ⟨rfl, rfl, rfl, rfl⟩)
  · intro p q hp hq h _ _ _
    rcases two p hp with rfl | rfl <;> rcases two q hq with rfl | rfl
    · rfl
    · exact absurd h (by decide)
    · exact absurd h (by decide)
    · rfl
  · intro h hh
    by_cases c1 : h = 1455
    · subst c1; right; exact ⟨1, by omega, rfl⟩
    · by_cases c0 : h = 0
      · subst c0; right; exact ⟨0, by omega, rfl⟩
      · left; show upd (upd q1_O 0 1) 1455 2 h = 0; rw [upd_ne _ _ _ _ c1, upd_ne _ _ _ _ c0]
  · show cn (upd (upd q1_O 0 1) 1455 2) 65536 = 2
    rw [cn_upd _ 1455 2 (by decide) (by decide) 65536 (by omega), cn_upd _ 0 1 (by decide) (by decide) 65536 (by omega), cn_zero0]
  · intro p hp
    rcases two p hp with rfl | rfl
    · have e : wn q1_K2 q1_O q1_O q1_O 0 = 0 := by decide +kernel
      exact ⟨0, by omega, by rw [e]; rfl, fun e he => absurd he (by omega)⟩
    · have e : wn q1_K2 q1_O q1_O q1_O 1 = 1455 := by decide +kernel
      exact ⟨0, by omega, by rw [e]; rfl, fun e he => absurd he (by omega)⟩
  · intro p hp
    rcases two p hp with rfl | rfl
    · rw [d0]; exact ⟨rfl, by decide +kernel, by decide⟩
    · rw [d1]; exact ⟨rfl, by decide +kernel, by decide⟩
theorem q1_LI : LI fT 2 0 q1_O 0 0 q1_O q1_O q1_O 0 0 q1_O 12000 q1_O q1_O 0 q1_O 1 q1_O q1_O q1_B8 q1_K2 q1_O q1_O q1_M2 q1_O q1_O q1_T2 q1_O q1_O q1_O := by
  have hFT : Fm fT := Fm.leaf (Or.inl rfl)
  refine ⟨⟨by omega, fun i hi => absurd hi (by omega)⟩, ⟨[], Be.nil (by omega)⟩, ⟨[], Be.nil (by omega)⟩, by omega, ⟨[], ⟨rfl, by simp, fun i hi => absurd hi (by simp)⟩, ⟨rfl, by simp, fun i hi => absurd hi (by simp)⟩⟩, ⟨⟨rfl, by decide, by omega, hFT.rows, ?_⟩, hFT, by decide⟩, ?_, ⟨hFT, by decide, Or.inl ?_⟩, q1_pool, 0, ⟨by simp, ?_, ?_⟩, rfl⟩
  · intro i j hi hj
    have : i = 0 := by have : fT.length = 1 := rfl; omega
    subst this
    have : j = 0 ∨ j = 1 ∨ j = 2 ∨ j = 3 ∨ j = 4 ∨ j = 5 ∨ j = 6 ∨ j = 7 ∨ j = 8 ∨ j = 9 := by omega
    rcases this with rfl | rfl | rfl | rfl | rfl | rfl | rfl | rfl | rfl | rfl <;> rfl
  · intro v hv
    have : v = 0 ∨ v = 1 ∨ v = 2 ∨ v = 3 ∨ v = 4 ∨ v = 5 ∨ v = 6 ∨ v = 7 := by omega
    rcases this with rfl | rfl | rfl | rfl | rfl | rfl | rfl | rfl <;> decide
  · intro r hr
    have : r = row0 0 := List.mem_singleton.mp hr
    subst this; decide
  · intro i hi
    have : i = 0 := by simp at hi; exact hi
    subst this; rfl
  · intro x hx
    have : x = 0 := List.mem_singleton.mp hx
    omega
theorem q1_fv : fv fT = 0 := by decide +kernel
