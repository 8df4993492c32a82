section RLS
variable {u : Nat} {rs : Nat → Int32} {L : List Nat}
theorem RLs.get (R : RLs u rs L) {i : Nat} (h : i < L.length) : rs i = Int32.ofNat (L.getD i 0) ∧ L.getD i 0 < u := by
  refine ⟨R.2.1 i h, R.2.2 _ ?_⟩
  rw [List.getD_eq_getElem?_getD, List.getElem?_eq_getElem h]
  exact List.getElem_mem h
theorem RLs.mono (R : RLs u rs L) {u' : Nat} (h : u ≤ u') : RLs u' rs L := ⟨R.1, R.2.1, fun x hx => by have := R.2.2 x hx; omega⟩
theorem RLs.set (R : RLs u rs L) {i x : Nat} (hx : x < u) : RLs u (upd rs i (Int32.ofNat x)) (L.set i x) := by
  refine ⟨by rw [List.length_set]; exact R.1, fun j hj => ?_, fun y hy => ?_⟩
  · rw [List.length_set] at hj
    by_cases e : j = i
    · subst e
      rw [upd_at, List.getD_eq_getElem?_getD, List.getElem?_set_self hj]; rfl
    · rw [upd_ne _ _ _ _ e, R.2.1 j hj, List.getD_eq_getElem?_getD, List.getD_eq_getElem?_getD, List.getElem?_set_ne (by omega)]
  · rcases List.mem_or_eq_of_mem_set hy with h | h
    · exact R.2.2 y h
    · rw [h]; exact hx
theorem RLs.push (R : RLs u rs L) {x : Nat} (hx : x < u) (h : L.length + 1 ≤ 2000) : RLs u (upd rs L.length (Int32.ofNat x)) (L ++ [x]) := by
  refine ⟨by simp; omega, fun j hj => ?_, fun y hy => ?_⟩
  · by_cases e : j = L.length
    · subst e; rw [upd_at]; simp
    · have : j < L.length := by simp at hj; omega
      rw [upd_ne _ _ _ _ e, R.2.1 j this, List.getD_eq_getElem?_getD, List.getD_eq_getElem?_getD, List.getElem?_append_left this]
  · rcases List.mem_append.mp hy with h | h
    · exact R.2.2 y h
    · rw [List.mem_singleton.mp h]; exact hx
theorem RLs.pop {M : List Nat} (R : RLs u rs (L ++ M)) : RLs u rs L := by
  refine ⟨by have := R.1; simp at this; omega, fun j hj => ?_, fun y hy => R.2.2 y (List.mem_append_left _ hy)⟩
  rw [R.2.1 j (by simp; omega), List.getD_eq_getElem?_getD, List.getD_eq_getElem?_getD, List.getElem?_append_left hj]
theorem map_getD {β : Type} (f : Nat → β) (d : β) {i : Nat} (h : i < L.length) : (L.map f).getD i d = f (L.getD i 0) := by
  rw [List.getD_eq_getElem?_getD, List.getD_eq_getElem?_getD, List.getElem?_map, List.getElem?_eq_getElem h]; rfl
theorem o_root (N : Nat) (R : RLs u rs L) {x : Nat} (hx : x < u) (h : L.length + 1 ≤ 2000) : f_X7_root N (Int32.ofNat L.length) rs (Int32.ofNat x) = some (Int32.ofNat L.length, Int32.ofNat (L.length + 1), upd rs L.length (Int32.ofNat x)) ∧ RLs u (upd rs L.length (Int32.ofNat x)) (L ++ [x]) := by
  refine ⟨?_, R.push hx h⟩
  unfold f_X7_root
  rw [ix_n _ _ _ (by omega) (by omega), i_cl _ (by omega), i_p1, i_m1 _ (by omega)]; rfl
variable {ki le ri ma bi ro ta ki' le' ri' ro' : Nat → Int32}
theorem map_ag (P : Po u ki le ri ro) (A : Ag u ki le ri ro ki' le' ri' ro') (hL : ∀ x ∈ L, x < u) : L.map (dn ki' le' ri' ro') = L.map (dn ki le ri ro) := by
  apply List.map_congr_left
  intro x hx
  exact dn_ag P.2.2.1 P.2.1 A (hL x hx)
end RLS
theorem Cov.mono {fs gs hs : List (List (List Int32))} (h : Cov fs gs) (hs' : ∀ g ∈ gs, g ∈ hs) : Cov fs hs := fun f hf => by
  obtain ⟨g, hg, e⟩ := h f hf
  exact ⟨g, hs' g hg, e⟩
theorem Cov.app {fs fs' gs gs' : List (List (List Int32))} (h : Cov fs gs) (h' : Cov fs' gs') : Cov (fs ++ fs') (gs ++ gs') := fun f hf => by
  rcases List.mem_append.mp hf with g | g
  · obtain ⟨x, hx, e⟩ := h f g; exact ⟨x, List.mem_append_left _ hx, e⟩
  · obtain ⟨x, hx, e⟩ := h' f g; exact ⟨x, List.mem_append_right _ hx, e⟩
theorem Cov.self (fs : List (List (List Int32))) : Cov fs fs := fun f hf => ⟨f, hf, [], [], by simp⟩
theorem sml_app (a b : List (List (List Int32))) : sml (a ++ b) = sml a + sml b := by unfold sml; simp
theorem sml_one (a : List (List Int32)) : sml [a] = a.length := by unfold sml; simp
def tkm (v : Nat) (body : List (List Int32)) : List (Option (List Int32)) → List (List Int32) → Option (List (List Int32))
  | [], acc => some acc
  | p :: ps, acc => if acc = fT then some acc else (subst v p body).bind (fun b => if (mk 7 acc b).length ≤ 400 then tkm v body ps (mk 7 acc b) else none)
theorem tkm_tkl (v : Nat) (body : List (List Int32)) : ∀ (ps : List (List Int32)) (acc : List (List Int32)), tkm v body (ps.map some) acc = tkl v body ps acc
  | [], acc => rfl
  | p :: ps, acc => by
    rw [List.map_cons]; unfold tkm tkl
    simp only [tkm_tkl v body ps]
theorem mk_F {b : List (List Int32)} (hb : Fm b) : mk 7 fF b = b := by
  unfold mk
  have e1 : enK 7 = 0 := rfl
  have e2 : idK 7 = 1 := rfl
  have f0 : lk fF = 1 := rfl
  rw [e1, e2, f0]
  by_cases h : lk b = 1
  · rw [if_pos (Or.inr (Or.inl h)), hb.lk1.mp h]
  · rw [if_neg ?_, if_pos (Or.inr rfl)]
    rintro (g | g | g)
    · exact absurd g (by decide)
    · exact h g
    · rw [← g] at h; exact h rfl
theorem tkm_tk0 {v : Nat} (hv : v < 8) {body : List (List Int32)} (F : Fm body) (qf : Qf body) : tkm v body (none :: (ptsOf v body).map some) fF = tk0 v body := by
  unfold tkm tk0
  rw [if_neg (by decide)]
  cases h : subst v none body with
  | none => rfl
  | some a =>
    have := subst_ok hv F qf h
    show (if (mk 7 fF a).length ≤ 400 then _ else none) = (if a.length ≤ 400 then _ else none)
    rw [mk_F this.1, tkm_tkl]
abbrev TOK := Int32 → Int32 → Int32 → Int32 → Int32 → Int64 → Int32 → Int32 → Int32 → (Nat → Int32) → (Nat → Int32) → (Nat → Int32) → (Nat → Int32) → (Nat → Int32) → (Nat → Int32) → (Nat → Int32) → (Nat → Int32) → (Nat → Int32) → (Nat → Int64) → (Nat → Int64) → (Nat → Int32) → (Nat → Int32) → Int32 → Int32 → Int32 → Int32 → Int32 → Option ((Int32) × (Int32) × (Int32) × (Int32) × (Int32) × (Int64) × (Int32) × (Int32) × (Int32) × (Nat → Int32) × (Nat → Int32) × (Nat → Int32) × (Nat → Int32) × (Nat → Int32) × (Nat → Int32) × (Nat → Int32) × (Nat → Int32) × (Nat → Int32) × (Nat → Int64) × (Nat → Int64) × (Nat → Int32) × (Nat → Int32))
theorem map_split {β : Type} {f : Nat → β} {L : List Nat} {A : List β} {b : β} (h : L.map f = A ++ [b]) : ∃ L0 q, L = L0 ++ [q] ∧ L0.map f = A ∧ f q = b := by
  obtain ⟨L0, L1, e, h1, h2⟩ := List.map_eq_append_iff.mp h
  obtain ⟨q, e2, h3⟩ := List.map_eq_singleton_iff.mp h2
  exact ⟨L0, q, by rw [e, e2], h1, h3⟩
section TK
variable {u : Nat} {ki le ri ma bi ro ta rs mo : Nat → Int32} {row pn : Nat → Int64} {L0 : List Nat} {q i v : Nat} {body acc : List (List Int32)} {gs : List (List (List Int32))}
theorem tk_step (K : TOK) (N : Nat) (hN : 70000 ≤ N) (P : Pool u ki le ri ma bi ro ta) (R : RLs u rs (L0 ++ [q])) (hi : i < L0.length) (hb : dn ki le ri ro (L0.getD i 0) = body) (qf : Qf body) (hbl : body.length ≤ 400) (ha : dn ki le ri ro q = acc) (hal : acc.length ≤ 400) (hc : Cov (L0.map (dn ki le ri ro)) gs) (hs : sml gs ≤ 15000) (hu : u ≤ 21000) (hv : v < 8) {pt : Option (List Int32)} {so : Int32} {s1 : Int64} (Q : PP v pt so s1 pn) (pts tko pc y3 y4 y6 : Int32) (by_ : Int64) (pr ps : Nat → Int32) : ∃ gr' u' ki' le' ri' ma' bi' ro' ta' rs' mo' row' L0' q', f_X7_takeOut_181 K N (Int32.ofNat u) (Int32.ofNat (L0.length + 1)) pts tko 0 by_ so (Int32.ofNat v) pc ki le ri ma bi ro ta rs mo row pn pr ps (Int32.ofNat i) y3 y4 (Int32.ofNat L0.length) y6 s1 = K (Int32.ofNat u') (Int32.ofNat (L0.length + 1)) (pts + 1) tko gr' s1 so (Int32.ofNat v) pc ki' le' ri' ma' bi' ro' ta' rs' mo' row' pn pr ps (Int32.ofNat i) y3 y4 (Int32.ofNat L0.length) (y6 + 1) ∧ Pool u' ki' le' ri' ma' bi' ro' ta' ∧ RLs u' rs' (L0' ++ [q']) ∧ L0'.map (dn ki' le' ri' ro') = L0.map (dn ki le ri ro) ∧ ((gr' = 0 ∧ ∃ b, subst v pt body = some b ∧ dn ki' le' ri' ro' q' = mk 7 acc b ∧ (mk 7 acc b).length ≤ 400 ∧ u' ≤ 20000) ∨ (gr' = 1 ∧ ∀ f : List (List Int32) → Option (List (List Int32)), (subst v pt body).bind (fun b => if (mk 7 acc b).length ≤ 400 then f b else none) = none)) := by
  have hR := R.1
  rw [List.length_append, List.length_singleton] at hR
  have hq : q < u := R.2.2 q (by simp)
  obtain ⟨g1, g2⟩ := R.get (i := i) (by simp; omega)
  have g3 : (L0 ++ [q]).getD i 0 = L0.getD i 0 := by rw [List.getD_eq_getElem?_getD, List.getD_eq_getElem?_getD, List.getElem?_append_left hi]
  rw [g3] at g1 g2
  obtain ⟨s, u1, gr1, ki1, le1, ri1, ma1, bi1, ro1, ta1, row1, e1, W, G1, hW, hg⟩ := o_putAll (pn := pn) N hN hv Q 450 row (L0.getD i 0) P g2 (by rw [hb]; omega) (by rw [hb]; exact hbl) (by rw [hb]; exact qf) (by rw [hb]; omega)
  rw [hb] at G1 hg
  obtain ⟨P1, A1, h11, h12, hs1, hd1⟩ := G1
  have hm1 : L0.map (dn ki1 le1 ri1 ro1) = L0.map (dn ki le ri ro) := map_ag P.1 A1 (fun x hx => R.2.2 x (List.mem_append_left _ hx))
  have hq1 : dn ki1 le1 ri1 ro1 q = acc := by rw [dn_ag P.1.2.2.1 P.1.2.1 A1 hq, ha]
  unfold f_X7_takeOut_181
  rw [ix_n _ _ _ (by omega) (by omega), i_cl _ (by omega), g1]
  unfold f_X7_putAll
  rw [bd e1]
  dsimp only
  rcases hg with ⟨rfl, hS⟩ | ⟨rfl, hS⟩
  · rw [ifb_f (by decide)]
    unfold f_X7_takeOut_265
    refine ⟨_, u1, _, _, _, _, _, _, _, _, _, _, L0, q, rfl, P1, R.mono h11, hm1, Or.inr ⟨rfl, fun f => by rw [hS]; rfl⟩⟩
  · have R1 := R.mono h11
    have g5 : rs L0.length = Int32.ofNat q := by
      have := R1.2.1 L0.length (by simp)
      rw [this]; simp
    have hl2 : (dn ki1 le1 ri1 ro1 q).length + (dn ki1 le1 ri1 ro1 s).length + 1 ≤ 1000 := by rw [hq1, hd1]; omega
    obtain ⟨s2, u2, ki2, le2, ri2, ma2, bi2, ro2, ta2, e2, P2, A2, h21, h22, hs2, hd2⟩ := o_both (rw_ := row1) N hN P1 (by omega) 0 (p := q) (q := s) (by omega) hs1 hl2
    rw [if_pos rfl, hq1, hd1] at hd2
    have R2 := (R1.mono h21).set (i := L0.length) hs2
    have es : (L0 ++ [q]).set L0.length s2 = L0 ++ [s2] := by simp
    rw [es] at R2
    have hm2 : L0.map (dn ki2 le2 ri2 ro2) = L0.map (dn ki le ri ro) := by rw [map_ag P1.1 A2 (fun x hx => (R1.2.2 x (List.mem_append_left _ hx))), hm1]
    have hlm := mk_len 7 acc W
    have hma := (P2.2.2 s2 hs2).1
    rw [hd2] at hma
    have hu2 := P2.1.2.1
    have cov2 : Cov ((L0 ++ [s2]).map (dn ki2 le2 ri2 ro2)) (gs ++ [mk 7 acc W]) := by
      rw [List.map_append, hm2, List.map_singleton, hd2]
      exact hc.app (Cov.self _)
    obtain ⟨u3, ki3, le3, ri3, ma3, bi3, ro3, ta3, rs3, mo3, L3, e3, ⟨P3, R3, hm3, hu3⟩, hu20⟩ := o_sweepIf (mo := mo) (rw_ := row1) N hN P2 R2 (gs ++ [mk 7 acc W]) cov2 (by rw [sml_app, sml_one]; omega)
    rw [List.map_append, hm2, List.map_singleton, hd2] at hm3
    obtain ⟨L0', q', rfl, hm4, hd4⟩ := map_split hm3
    rw [List.length_append, List.length_singleton] at e3
    rw [ifb_t rfl, ix_n _ _ _ (by omega) (by omega), i_cl _ (by omega), g5, bd e2]
    dsimp only
    rw [upd_at, ix_n _ _ _ (by omega) (by omega), ix_n _ _ _ (by omega) (by omega), ix_n _ _ _ (by omega) (by omega), i_cl _ (by omega)]
    unfold f_X7_takeOut_258 f_X7_takeOut_265
    by_cases h4 : (mk 7 acc W).length ≤ 400
    · rw [ifb_t (by show ma2 s2 ≤ 400; rw [hma, show (400 : Int32) = Int32.ofNat 400 from rfl, i_le _ _ (by omega) (by omega)]; exact h4), ckp_t (Or.inl rfl), bd e3]
      exact ⟨_, u3, _, _, _, _, _, _, _, _, _, _, L0', q', rfl, P3, R3, hm4, Or.inl ⟨rfl, W, hS, hd4, h4, hu20⟩⟩
    · rw [ifb_f (by show ¬ (ma2 s2 ≤ 400); rw [hma, show (400 : Int32) = Int32.ofNat 400 from rfl, i_le _ _ (by omega) (by omega)]; exact h4), ckp_t (Or.inr rfl), bd e3]
      refine ⟨_, u3, _, _, _, _, _, _, _, _, _, _, L0', q', rfl, P3, R3, hm4, Or.inr ⟨rfl, fun f => ?_⟩⟩
      rw [hS]; show (if (mk 7 acc W).length ≤ 400 then f W else none) = none
      rw [if_neg h4]
end TK
def TGot (fs : List (List (List Int32))) (i : Nat) (S : Option (List (List Int32))) (B : Nat) (gr' : Int32) (u' : Nat) (ki' le' ri' ma' bi' ro' ta' rs' : Nat → Int32) (L' : List Nat) : Prop := Pool u' ki' le' ri' ma' bi' ro' ta' ∧ RLs u' rs' L' ∧ ∃ g, L'.map (dn ki' le' ri' ro') = fs.set i g ∧ ((gr' = 0 ∧ S = some g ∧ u' ≤ B) ∨ (gr' = 1 ∧ S = none))
theorem map_set' {β : Type} (f : Nat → β) : ∀ (L : List Nat) (i x : Nat), (L.set i x).map f = (L.map f).set i (f x)
  | [], i, x => rfl
  | y :: L, 0, x => rfl
  | y :: L, i + 1, x => by
    show f y :: (L.set i x).map f = f y :: (L.map f).set i (f x)
    rw [map_set' f L i x]
theorem L_upd (f : Nat → Int64) (k : Nat) (x : Int64) : vp_updL f k x k = x := if_pos rfl
theorem L_updne (f : Nat → Int64) (k j : Nat) (x : Int64) (h : j ≠ k) : vp_updL f k x j = f j := if_neg h
section TKL
variable {v : Nat} {body : List (List Int32)} {gs : List (List (List Int32))} {i : Nat}
theorem tk_pt (K : TOK) (N : Nat) (U RD pts tko gr : Int32) (by_ : Int64) (so va pc : Int32) (ki le ri ma bi ro ta rs mo : Nat → Int32) (row : Nat → Int64) (pr ps : Nat → Int32) (y1 y4 y5 : Int32) (k : Nat) (hk : k < 1400) : ∀ (d m j : Nat) (pn : Nat → Int64), j + d = 9 → (∀ t, t < j → pn t = (pr (10 * k + t)).toInt64) → ∃ pn', (∀ t, t < 9 → pn' t = (pr (10 * k + t)).toInt64) ∧ f_X7_takeOut_116 K N (m + d + 1) U RD pts tko gr by_ so va pc ki le ri ma bi ro ta rs mo row pn pr ps y1 0 y4 y5 (Int32.ofNat k) (Int32.ofNat j) = f_X7_takeOut_156 K N U RD pts tko gr by_ so va pc ki le ri ma bi ro ta rs mo row pn' pr ps y1 0 y4 y5 (Int32.ofNat k)
  | 0, m, j, pn, h, hp => by
    have : j = 9 := by omega
    subst this
    refine ⟨pn, hp, ?_⟩
    rw [f_X7_takeOut_116]; dsimp only
    rw [ifb_t (by decide)]
  | d + 1, m, j, pn, h, hp => by
    rw [show m + (d + 1) + 1 = (m + d + 1) + 1 from by omega, f_X7_takeOut_116]; dsimp only
    rw [ifb_f (by rw [show (9 : Int32) = Int32.ofNat 9 from rfl, i_le _ _ (by omega) (by omega)]; omega), ifb_f (i_nn _ (by omega)), show (10 : Int32) * Int32.ofNat k = Int32.ofNat (10 * k) from i_mul 10 k, i_add, ix_n _ _ _ (by omega) (by omega), ix_n _ _ _ (by omega) (by omega), i_cl _ (by omega), i_cl _ (by omega), i_p1]
    apply tk_pt K N U RD pts tko gr by_ so va pc ki le ri ma bi ro ta rs mo row pr ps y1 y4 y5 k hk d m (j + 1) _ (by omega)
    intro t ht
    by_cases e : t = j
    · subst e; rw [L_upd]
    · rw [L_updne _ _ _ _ e]; exact hp t (by omega)
theorem tk_exit (N : Nat) {u : Nat} {ki le ri ma bi ro ta rs : Nat → Int32} {L0 : List Nat} {q : Nat} (P : Pool u ki le ri ma bi ro ta) (R : RLs u rs (L0 ++ [q])) (hi : i < L0.length) (mo : Nat → Int32) (row pn : Nat → Int64) (pts tko gr : Int32) (by_ : Int64) (so va pc : Int32) (pr ps : Nat → Int32) : f_X7_takeOut_271 N (Int32.ofNat u) (Int32.ofNat (L0.length + 1)) pts tko gr by_ so va pc ki le ri ma bi ro ta rs mo row pn pr ps (Int32.ofNat i) 0 (Int32.ofNat L0.length) = some (Int32.ofNat u, Int32.ofNat L0.length, pts, tko, gr, by_, so, va, 0, ki, le, ri, ma, bi, ro, ta, upd rs i (Int32.ofNat q), mo, row, pn, pr, ps) ∧ RLs u (upd rs i (Int32.ofNat q)) (L0.set i q) := by
  have hR := R.1
  rw [List.length_append, List.length_singleton] at hR
  have g5 : rs L0.length = Int32.ofNat q := by
    have := R.2.1 L0.length (by simp)
    rw [this]; simp
  refine ⟨?_, R.pop.set (R.2.2 q (by simp))⟩
  unfold f_X7_takeOut_271
  rw [ix_n _ _ _ (by omega) (by omega), ix_n _ _ _ (by omega) (by omega), i_cl _ (by omega), i_cl _ (by omega), g5, i_m1 _ (by omega)]; rfl
theorem tk_loop (N : Nat) (hN : 70000 ≤ N) (hv : v < 8) {Bd : Nat} (hB1 : 20000 ≤ Bd) (hB2 : Bd ≤ 21000) (F : Fm body) (qf : Qf body) (hbl : body.length ≤ 400) (hs : sml gs ≤ 15000) {fs : List (List (List Int32))} (hc : Cov fs gs) (hif : i < fs.length) (hfb : fs.getD i [] = body) {pr ps : Nat → Int32} (PR : RPts v pr ps (ptsOf v body)) (tko pc : Int32) : ∀ (d m k : Nat) (acc : List (List Int32)) (u : Nat) (ki le ri ma bi ro ta rs mo : Nat → Int32) (row pn : Nat → Int64) (L0 : List Nat) (q : Nat) (pts : Int32) (by_ : Int64) (so : Int32), k + d = (ptsOf v body).length + 1 → Pool u ki le ri ma bi ro ta → RLs u rs (L0 ++ [q]) → L0.map (dn ki le ri ro) = fs → dn ki le ri ro q = acc → acc.length ≤ 400 → u ≤ Bd → ∃ gr' u' ki' le' ri' ma' bi' ro' ta' rs' mo' row' pn' L' pts' by' so', f_X7_takeOut_68 N (m + d + 1) (Int32.ofNat u) (Int32.ofNat (fs.length + 1)) pts tko 0 by_ so (Int32.ofNat v) pc ki le ri ma bi ro ta rs mo row pn pr ps (Int32.ofNat i) 0 (Int32.ofNat (ptsOf v body).length) (Int32.ofNat fs.length) (Int32.ofNat k - 1) = some (Int32.ofNat u', Int32.ofNat fs.length, pts', tko, gr', by', so', Int32.ofNat v, 0, ki', le', ri', ma', bi', ro', ta', rs', mo', row', pn', pr, ps) ∧ TGot fs i (tkm v body ((none :: (ptsOf v body).map some).drop k) acc) Bd gr' u' ki' le' ri' ma' bi' ro' ta' rs' L' := by
  have hpl := (pts_bd F hv).2
  intro d
  induction d with
  | zero =>
    intro m k acc u ki le ri ma bi ro ta rs mo row pn L0 q pts by_ so h P R hm hq hal hu
    have hlen : fs.length = L0.length := by rw [← hm, List.length_map]
    rw [hlen] at hif ⊢
    obtain ⟨e, R'⟩ := tk_exit N P R hif mo row pn pts tko 0 by_ so (Int32.ofNat v) pc pr ps
    rw [f_X7_takeOut_68]; dsimp only
    rw [ifb_t (by rw [i_m1 _ (by omega), i_le _ _ (by omega) (by omega)]; omega)]
    refine ⟨_, u, _, _, _, _, _, _, _, _, _, _, _, _, _, _, _, e, P, R', acc, ?_, Or.inl ⟨rfl, ?_, hu⟩⟩
    · rw [map_set', hm, hq]
    · rw [List.drop_of_length_le (by simp; omega)]; rfl
  | succ d ih =>
    intro m k acc u ki le ri ma bi ro ta rs mo row pn L0 q pts by_ so h P R hm hq hal hu
    have hlen : fs.length = L0.length := by rw [← hm, List.length_map]
    have hu2 := P.1.2.1
    have hR := R.1
    rw [List.length_append, List.length_singleton] at hR
    have hi0 : i < L0.length := by omega
    have g5 : rs L0.length = Int32.ofNat q := by
      have := R.2.1 L0.length (by simp)
      rw [this]; simp
    have hq0 : q < u := R.2.2 q (by simp)
    rw [show m + (d + 1) + 1 = (m + d + 1) + 1 from by omega, f_X7_takeOut_68]; dsimp only
    have hno : ¬ (Int32.ofNat (ptsOf v body).length ≤ Int32.ofNat k - 1) := by
      by_cases hk : k = 0
      · subst hk
        intro hle
        have : (0 : Int32) ≤ Int32.ofNat (ptsOf v body).length := i_ge0 _ (by omega)
        rw [Int32.le_iff_toInt_le] at hle this
        rw [show (Int32.ofNat 0 - 1).toInt = -1 from rfl] at hle
        rw [show (0 : Int32).toInt = 0 from rfl] at this
        omega
      · rw [i_m1 _ (by omega), i_le _ _ (by omega) (by omega)]; omega
    rw [ifb_f hno, hlen, ix_n _ _ _ (by omega) (by omega), i_cl _ (by omega), g5]
    have hdrop : ∃ p, (none :: (ptsOf v body).map some).drop k = p :: (none :: (ptsOf v body).map some).drop (k + 1) ∧ (k = 0 ∧ p = none ∨ ∃ k', k = k' + 1 ∧ k' < (ptsOf v body).length ∧ p = some ((ptsOf v body).getD k' [])) := by
      cases k with
      | zero => exact ⟨none, rfl, Or.inl ⟨rfl, rfl⟩⟩
      | succ k' =>
        have hk' : k' < (ptsOf v body).length := by omega
        refine ⟨some ((ptsOf v body).getD k' []), ?_, Or.inr ⟨k', rfl, hk', rfl⟩⟩
        rw [List.drop_succ_cons, List.drop_succ_cons, List.drop_eq_getElem_cons (by simp; exact hk'), List.getElem_map, List.getD_eq_getElem?_getD, List.getElem?_eq_getElem hk']
        rfl
    obtain ⟨p, hd, hp⟩ := hdrop
    rw [hd]
    by_cases hT : q = 0
    · rw [ifb_t (by rw [hT]; rfl)]
      obtain ⟨e, R'⟩ := tk_exit N P R hi0 mo row pn pts tko 0 by_ so (Int32.ofNat v) pc pr ps
      have haT : acc = fT := by rw [← hq, hT, (node0 P.1).1]
      refine ⟨_, u, _, _, _, _, _, _, _, _, _, _, _, _, _, _, _, e, P, R', acc, ?_, Or.inl ⟨rfl, ?_, hu⟩⟩
      · rw [map_set', hm, hq]
      · unfold tkm; rw [if_pos haT]
    · have haT : acc ≠ fT := fun g => hT ((isT P.1 hq0).mp (by rw [hq, g]; rfl))
      rw [ifb_f (by rw [show (0 : Int32) = Int32.ofNat 0 from rfl, i_eq _ _ (by omega) (by omega)]; exact hT), ifb_t rfl]

      have step : ∀ (pn1 : Nat → Int64) (so1 : Int32) (s1 : Int64), PP v p so1 s1 pn1 → ∃ gr' u' ki' le' ri' ma' bi' ro' ta' rs' mo' row' pn' L' pts' by' so', f_X7_takeOut_181 (f_X7_takeOut_68 N (m + d + 1)) N (Int32.ofNat u) (Int32.ofNat (L0.length + 1)) pts tko 0 by_ so1 (Int32.ofNat v) pc ki le ri ma bi ro ta rs mo row pn1 pr ps (Int32.ofNat i) 0 (Int32.ofNat (ptsOf v body).length) (Int32.ofNat L0.length) (Int32.ofNat k - 1) s1 = some (Int32.ofNat u', Int32.ofNat L0.length, pts', tko, gr', by', so', Int32.ofNat v, 0, ki', le', ri', ma', bi', ro', ta', rs', mo', row', pn', pr, ps) ∧ TGot fs i (tkm v body (p :: (none :: (ptsOf v body).map some).drop (k + 1)) acc) Bd gr' u' ki' le' ri' ma' bi' ro' ta' rs' L' := by
        intro pn1 so1 s1 Q
        have hb : dn ki le ri ro (L0.getD i 0) = body := by rw [← map_getD (dn ki le ri ro) [] hi0, hm, hfb]
        obtain ⟨gr1, u1, ki1, le1, ri1, ma1, bi1, ro1, ta1, rs1, mo1, row1, L01, q1, e1, P1, R1, hm1, hh⟩ := tk_step (mo := mo) (row := row) (f_X7_takeOut_68 N (m + d + 1)) N hN P R hi0 hb qf hbl hq hal (by rw [hm]; exact hc) hs (by omega) hv Q pts tko pc 0 (Int32.ofNat (ptsOf v body).length) (Int32.ofNat k - 1) by_ pr ps
        rw [e1]
        have ey : Int32.ofNat k - 1 + 1 = Int32.ofNat (k + 1) - 1 := by
          rw [Int32.sub_add_cancel, i_m1 _ (by omega)]; rfl
        rw [ey]
        have hm1' : L01.map (dn ki1 le1 ri1 ro1) = fs := by rw [hm1, hm]
        have hl1 : fs.length = L01.length := by rw [← hm1', List.length_map]
        unfold tkm
        rw [if_neg haT]
        rcases hh with ⟨rfl, b, hb1, hb2, hb3, hu1⟩ | ⟨rfl, hno⟩
        · rw [hb1]
          show ∃ gr' u' ki' le' ri' ma' bi' ro' ta' rs' mo' row' pn' L' pts' by' so', _ ∧ TGot fs i (if (mk 7 acc b).length ≤ 400 then tkm v body ((none :: (ptsOf v body).map some).drop (k + 1)) (mk 7 acc b) else none) _ _ _ _ _ _ _ _ _ _ _ _
          rw [if_pos hb3, ← hlen]
          exact ih m (k + 1) (mk 7 acc b) u1 ki1 le1 ri1 ma1 bi1 ro1 ta1 rs1 mo1 row1 pn1 L01 q1 (pts + 1) s1 so1 (by omega) P1 R1 hm1' hb2 hb3 (by omega)
        · rw [hno]
          obtain ⟨e, R'⟩ := tk_exit N P1 R1 (i := i) (by omega) mo1 row1 pn1 (pts + 1) tko 1 s1 so1 (Int32.ofNat v) pc pr ps
          have g6 : rs1 L01.length = Int32.ofNat q1 := by
            have := R1.2.1 L01.length (by simp)
            rw [this]; simp
          have ec : f_X7_takeOut_68 N (m + d + 1) (Int32.ofNat u1) (Int32.ofNat (L0.length + 1)) (pts + 1) tko 1 s1 so1 (Int32.ofNat v) pc ki1 le1 ri1 ma1 bi1 ro1 ta1 rs1 mo1 row1 pn1 pr ps (Int32.ofNat i) 0 (Int32.ofNat (ptsOf v body).length) (Int32.ofNat L0.length) (Int32.ofNat (k + 1) - 1) = f_X7_takeOut_271 N (Int32.ofNat u1) (Int32.ofNat (L0.length + 1)) (pts + 1) tko 1 s1 so1 (Int32.ofNat v) pc ki1 le1 ri1 ma1 bi1 ro1 ta1 rs1 mo1 row1 pn1 pr ps (Int32.ofNat i) 0 (Int32.ofNat L0.length) := by
            rw [f_X7_takeOut_68]; dsimp only
            by_cases c1 : Int32.ofNat (ptsOf v body).length ≤ Int32.ofNat (k + 1) - 1
            · rw [ifb_t c1]
            · rw [ifb_f c1, ix_n _ _ _ (by omega) (by omega)]
              by_cases c2 : rs1 (Int32.ofNat L0.length).toNatClampNeg = 0
              · rw [ifb_t c2]
              · rw [ifb_f c2, ifb_f (by decide)]
          rw [ec, ← hlen, hl1, e]
          exact ⟨_, u1, _, _, _, _, _, _, _, _, _, _, _, _, _, _, _, rfl, P1, R', dn ki1 le1 ri1 ro1 q1, by rw [map_set', hm1'], Or.inr ⟨rfl, rfl⟩⟩
      rcases hp with ⟨rfl, rfl⟩ | ⟨k', rfl, hk', rfl⟩
      · rw [ifb_f (by decide)]
        unfold f_X7_takeOut_110
        obtain ⟨M, rfl⟩ : ∃ M, N = M + 1 := ⟨N - 1, by omega⟩
        conv => enter [1, gr', 1, u', 1, ki', 1, le', 1, ri', 1, ma', 1, bi', 1, ro', 1, ta', 1, rs', 1, mo', 1, row', 1, pn', 1, L', 1, pts', 1, by', 1, so', 1, 1]; rw [f_X7_takeOut_116]
        dsimp only
        rw [ifb_f (by decide), ifb_t (by decide)]
        unfold f_X7_takeOut_156
        rw [ifb_f (by decide)]
        exact step pn 0 1 rfl
      · rw [i_m1 _ (by omega), show k' + 1 - 1 = k' from by omega, ifb_t (i_ge0 _ (by omega)), ix_n _ _ _ (by omega) (by omega), i_cl _ (by omega)]
        unfold f_X7_takeOut_110
        obtain ⟨pn', hpn, e⟩ := tk_pt (f_X7_takeOut_68 N (m + d + 1)) N (Int32.ofNat u) (Int32.ofNat (L0.length + 1)) pts tko 0 by_ (ps k') (Int32.ofNat v) pc ki le ri ma bi ro ta rs mo row pr ps (Int32.ofNat i) (Int32.ofNat (ptsOf v body).length) (Int32.ofNat L0.length) k' (by omega) 9 (N - 10) 0 pn rfl (fun t ht => by omega)
        rw [show N - 10 + 9 + 1 = N from by omega] at e
        rw [show (0 : Int32) = Int32.ofNat 0 from rfl] at e ⊢
        rw [e]
        unfold f_X7_takeOut_156
        rw [ifb_t (by rw [i_le _ _ (by omega) (by omega)]; omega), show (10 : Int32) * Int32.ofNat k' = Int32.ofNat (10 * k') from i_mul 10 k', show (9 : Int32) = Int32.ofNat 9 from rfl, i_add, ix_n _ _ _ (by omega) (by omega), i_cl _ (by omega)]
        have hst := step pn' (ps k') (pr (10 * k' + 9)).toInt64 (by
          obtain ⟨⟨q1, q2, q3, q4⟩, e1, e2, e3⟩ := PR k' hk'
          refine ⟨q2, q4, ?_, ?_, fun j hj => ?_⟩
          · rcases q3 with g | g
            · left; refine ⟨g, ?_⟩; rw [e3, g]; rfl
            · right; refine ⟨g, ?_⟩; rw [e3, g]; rfl
          · rw [Int32.toInt_toInt64]; exact congrArg Int32.toInt e2
          · rw [hpn j hj, Int32.toInt_toInt64]; exact e1 j hj)
        rw [i_m1 _ (by omega), show k' + 1 - 1 = k' from by omega] at hst
        exact hst
end TKL
section TKO
variable {v i u : Nat} {gs : List (List (List Int32))} {ki le ri ma bi ro ta rs : Nat → Int32} {L0 : List Nat}
theorem set_same {β : Type} (d : β) : ∀ (l : List β) (i : Nat), i < l.length → l.set i (l.getD i d) = l
  | [], i, h => by simp at h
  | x :: l, 0, _ => rfl
  | x :: l, i + 1, h => by
    show x :: l.set i (l.getD i d) = x :: l
    rw [set_same d l i (by simpa using h)]
theorem o_takeOut (N : Nat) (hN : 70000 ≤ N) (hv : v < 8) {Bd : Nat} (hB1 : 20000 ≤ Bd) (hB2 : Bd ≤ 21000) (P : Pool u ki le ri ma bi ro ta) (R : RLs u rs L0) (hi : i < L0.length) (hL : L0.length + 1 ≤ 2000) (hu : u ≤ Bd) (qf : Qf (dn ki le ri ro (L0.getD i 0))) (hbl : (dn ki le ri ro (L0.getD i 0)).length ≤ 400) (hc : Cov (L0.map (dn ki le ri ro)) gs) (hs : sml gs ≤ 15000) (pts tko : Int32) (by_ : Int64) (so va : Int32) (mo : Nat → Int32) (row pn : Nat → Int64) (pr ps : Nat → Int32) : ∃ gr' u' ki' le' ri' ma' bi' ro' ta' rs' mo' row' pn' pr' ps' L' pts' tko' by' so' va', f_X7_takeOut N (Int32.ofNat u) (Int32.ofNat L0.length) pts tko 0 by_ so va 0 ki le ri ma bi ro ta rs mo row pn pr ps (Int32.ofNat i) (Int32.ofNat v) = some (Int32.ofNat u', Int32.ofNat L0.length, pts', tko', gr', by', so', va', 0, ki', le', ri', ma', bi', ro', ta', rs', mo', row', pn', pr', ps') ∧ TGot (L0.map (dn ki le ri ro)) i (if ((fv (dn ki le ri ro (L0.getD i 0)) >>> (Int32.ofNat v &&& 31)) &&& 1) = 0 then some (dn ki le ri ro (L0.getD i 0)) else tk0 v (dn ki le ri ro (L0.getD i 0))) Bd gr' u' ki' le' ri' ma' bi' ro' ta' rs' L' := by
  have hu2 := P.1.2.1
  obtain ⟨g1, g2⟩ := R.get hi
  have hb := (P.2.2 _ g2).2.1
  have F := dn_fm P.1 _ g2
  unfold f_X7_takeOut
  rw [ix_n _ _ _ (by omega) (by omega), i_cl _ (by omega), g1, ix_n _ _ _ (by omega) (by omega), i_cl _ (by omega), hb]
  by_cases h0 : ((fv (dn ki le ri ro (L0.getD i 0)) >>> (Int32.ofNat v &&& 31)) &&& 1) = 0
  · rw [ifb_t h0, if_pos h0]
    refine ⟨_, u, _, _, _, _, _, _, _, _, _, _, _, _, _, L0, _, _, _, _, _, rfl, P, R, dn ki le ri ro (L0.getD i 0), ?_, Or.inl ⟨rfl, rfl, hu⟩⟩
    rw [← map_getD (dn ki le ri ro) [] hi, set_same]
    rw [List.length_map]; exact hi
  · rw [ifb_f h0, if_neg h0, ix_n _ _ _ (by omega) (by omega)]
    obtain ⟨pr', ps', e1, PR, hpl⟩ := o_collect N (by omega) P hv 450 (L0.getD i 0) pr ps [] g2 (by omega) qf (fun j hj => absurd hj (by simp)) (by rw [List.length_nil]; omega)
    unfold f_X7_collect
    rw [show (Int32.ofNat ([] : List (List Int32)).length) = 0 from rfl] at e1
    rw [bd e1]
    have hu1 := P.1.1
    obtain ⟨e2, R2⟩ := o_root N R (x := 1) (by omega) hL
    rw [show (Int32.ofNat 1) = 1 from rfl] at e2
    rw [bd e2]
    dsimp only
    have hn1 : dn ki le ri ro 1 = fF := (node0 P.1).2
    have := tk_loop (gs := gs) (i := i) N hN hv hB1 hB2 F qf hbl hs hc (by rw [List.length_map]; exact hi) (map_getD (dn ki le ri ro) [] hi) PR (tko + 1) (Int32.ofNat (ptsOf v (dn ki le ri ro (L0.getD i 0))).length) ((ptsOf v (dn ki le ri ro (L0.getD i 0))).length + 1) (N - (ptsOf v (dn ki le ri ro (L0.getD i 0))).length - 2) 0 fF u ki le ri ma bi ro ta _ mo row pn L0 1 pts by_ so (by omega) P R2 rfl hn1 (by decide) hu
    have hpl2 := (pts_bd F hv).2
    rw [show N - (ptsOf v (dn ki le ri ro (L0.getD i 0))).length - 2 + ((ptsOf v (dn ki le ri ro (L0.getD i 0))).length + 1) + 1 = N from by omega, List.length_map, List.drop_zero, tkm_tk0 hv F qf] at this
    obtain ⟨gr', u', ki', le', ri', ma', bi', ro', ta', rs', mo', row', pn', L', pts', by', so', e, G⟩ := this
    exact ⟨gr', u', ki', le', ri', ma', bi', ro', ta', rs', mo', row', pn', pr', ps', L', pts', _, by', so', _, e, G⟩
end TKO
def wLf (r : List Int32) : Nat × Nat := if kd r < 2 then (1, 1) else (3, 3)
def wQu (_ : List Int32) (x : Nat × Nat) : Nat × Nat := (x.2 + 3, x.2 + 3)
def wBi (_ : List Int32) (x y : Nat × Nat) : Nat × Nat := (x.1 + y.1 + 1, x.1 + y.1 + 3)
def wB (l : List (List Int32)) : Nat := (cata wLf wQu wBi (0, 0) l).1
def wU (l : List (List Int32)) : Nat := (cata wLf wQu wBi (0, 0) l).2
theorem w_leaf {r : List Int32} (h : Leaf r) : wB [r] = (if kd r < 2 then 1 else 3) ∧ wU [r] = (if kd r < 2 then 1 else 3) := by
  unfold wB wU
  rw [cata_leaf _ _ _ _ h]
  unfold wLf
  split <;> exact ⟨rfl, rfl⟩
theorem w_qu {a : List (List Int32)} {k : Int32} (ha : Fm a) (hk : k = 8 ∨ k = 9) (v : Nat) : wB (a ++ [rowq k v]) = wU a + 3 ∧ wU (a ++ [rowq k v]) = wU a + 3 := by
  unfold wB wU
  rw [cata_qu _ _ _ _ ha hk]; exact ⟨rfl, rfl⟩
theorem w_bi {a b : List (List Int32)} {k : Int32} (ha : Fm a) (hb : Fm b) (hk : k = 6 ∨ k = 7) : wB (a ++ b ++ [row0 k]) = wB a + wB b + 1 ∧ wU (a ++ b ++ [row0 k]) = wB a + wB b + 3 := by
  unfold wB wU
  rw [cata_bi _ _ _ _ ha hb hk]; exact ⟨rfl, rfl⟩
theorem w_le {l : List (List Int32)} (h : Fm l) : l.length ≤ wB l ∧ wB l ≤ wU l ∧ wU l ≤ wB l + 2 := by
  refine Fm.ind (P := fun l => l.length ≤ wB l ∧ wB l ≤ wU l ∧ wU l ≤ wB l + 2) ?_ ?_ ?_ h
  · intro r hr
    rw [(w_leaf hr).1, (w_leaf hr).2]
    split
    · exact ⟨Nat.le_refl _, Nat.le_refl _, by omega⟩
    · exact ⟨by simp, Nat.le_refl _, by omega⟩
  · intro a k v ha ih hk _ _
    rw [(w_qu ha hk v).1, (w_qu ha hk v).2]
    simp; omega
  · intro a b k ha hb iha ihb hk _
    rw [(w_bi ha hb hk).1, (w_bi ha hb hk).2]
    simp; omega
theorem w_3 {l : List (List Int32)} (h : Fm l) (hT : l ≠ fT) (hF : l ≠ fF) : 3 ≤ wB l := by
  rcases h.cases with ⟨r, hr, rfl⟩ | ⟨a, k, v, ha, hk, _, _, rfl⟩ | ⟨a, b, k, ha, hb, hk, _, rfl⟩
  · rw [(w_leaf hr).1]
    rcases hr with rfl | rfl | A
    · exact absurd rfl hT
    · exact absurd rfl hF
    · rw [if_neg (by rcases A.2.1 with g | g | g | g <;> rw [g] <;> decide)]; omega
  · rw [(w_qu ha hk v).1]; omega
  · rw [(w_bi ha hb hk).1]
    have := (w_le ha).1; have := ha.pos; have := (w_le hb).1; have := hb.pos
    omega
theorem frd_leaf {r : List Int32} (h : Leaf r) : frd [r] = some [r] := cata_leaf _ _ _ _ h
theorem frd_qu {a : List (List Int32)} {k : Int32} (ha : Fm a) (hk : k = 8 ∨ k = 9) {v : Nat} (hv : v < 8) : frd (a ++ [rowq k v]) = (frd a).bind (tkq k v) := by
  have : frd (a ++ [rowq k v]) = (frd a).bind (rQu (rowq k v)) := cata_qu _ _ _ _ ha hk v
  rw [this]
  congr 1
  funext x
  unfold rQu
  have e1 : kd (rowq k v) = k := rfl
  have e2 : qv (rowq k v) = Int32.ofNat v := rfl
  rw [e1, e2, i_cl _ (by omega)]
theorem frd_bi {a b : List (List Int32)} {k : Int32} (ha : Fm a) (hb : Fm b) (hk : k = 6 ∨ k = 7) : frd (a ++ b ++ [row0 k]) = (frd a).bind (fun x => (frd b).bind (fun y => if (mk k x y).length ≤ 400 then some (mk k x y) else none)) := cata_bi _ _ _ _ ha hb hk
theorem frd_ok {l : List (List Int32)} (h : Fm l) : ∀ {f}, frd l = some f → Fm f ∧ Qf f ∧ f.length ≤ 400 := by
  refine Fm.ind (P := fun l => ∀ {f}, frd l = some f → Fm f ∧ Qf f ∧ f.length ≤ 400) ?_ ?_ ?_ h
  · intro r hr f hf
    rw [frd_leaf hr] at hf; cases hf
    exact ⟨Fm.leaf hr, Qf.leaf hr, by simp⟩
  · intro a k v ha ih hk hv _ f hf
    rw [frd_qu ha hk hv] at hf
    obtain ⟨x, ex, hf⟩ := Option.bind_eq_some_iff.mp hf
    obtain ⟨x1, x2, x3⟩ := ih ex
    exact tkq_ok hv x1 x2 x3 hf
  · intro a b k ha hb iha ihb hk _ f hf
    rw [frd_bi ha hb hk] at hf
    obtain ⟨x, ex, hf⟩ := Option.bind_eq_some_iff.mp hf
    obtain ⟨y, ey, hf⟩ := Option.bind_eq_some_iff.mp hf
    obtain ⟨x1, x2, x3⟩ := iha ex
    obtain ⟨y1, y2, y3⟩ := ihb ey
    by_cases hl : (mk k x y).length ≤ 400
    · rw [if_pos hl] at hf
      cases hf; exact ⟨mk_fm x1 y1 hk, x2.mk y2 hk, hl⟩
    · rw [if_neg hl] at hf; cases hf
theorem tk_one0 {v : Nat} (hv : v < 8) {a f : List (List Int32)} (F : Fm a) (qf : Qf a) (h1 : a.length = 1) (hb : bt (fv a) v ≠ 0) (h : tk0 v a = some f) : f.length = 1 := by
  obtain ⟨r, hr, rfl⟩ : ∃ r, Leaf r ∧ a = [r] := by
    rcases F.cases with ⟨r, hr, rfl⟩ | ⟨a, k, v, ha, hk, _, _, rfl⟩ | ⟨a, b, k, ha, hb, hk, _, rfl⟩
    · exact ⟨r, hr, rfl⟩
    · have := ha.pos; rw [List.length_append, List.length_singleton] at h1; omega
    · have := ha.pos; rw [List.length_append, List.length_append, List.length_singleton] at h1; omega
  rw [fv_leaf hr] at hb
  have hz : ¬ (r.getD (1 + v) 0 = 0) := fun g => hb ((rb_bit r v hv).mpr g)
  unfold tk0 at h
  have es : subst v none [r] = some (if kd r = 3 ∨ (4 ≤ kd r ∧ ¬ (r.getD (1 + v) 0 ≤ 0)) then fT else fF) := by
    rw [subst_leaf hr]; unfold subLeaf; rw [if_neg hz]
  have hacc : ∀ acc, acc = (if kd r = 3 ∨ (4 ≤ kd r ∧ ¬ (r.getD (1 + v) 0 ≤ 0)) then fT else fF) → acc = fT ∨ acc = fF := by
    intro acc e
    rw [e]; split
    · exact Or.inl rfl
    · exact Or.inr rfl
  generalize (if kd r = 3 ∨ (4 ≤ kd r ∧ ¬ (r.getD (1 + v) 0 ≤ 0)) then fT else fF) = acc at es hacc
  have hacc := hacc acc rfl
  rw [es] at h
  have hp := (pts_bd F hv).2
  have h4 : acc.length ≤ 400 := by rcases hacc with e | e <;> rw [e] <;> decide
  have ha1 : acc.length = 1 := by rcases hacc with e | e <;> rw [e] <;> rfl
  have h' : tkl v [r] (ptsOf v [r]) acc = some f := by
    have h2 : (if acc.length ≤ 400 then tkl v [r] (ptsOf v [r]) acc else none) = some f := h
    rw [if_pos h4] at h2; exact h2
  generalize ptsOf v [r] = pl at h' hp
  cases pl with
  | nil =>
    cases h'
    exact ha1
  | cons p pl =>
    have : pl = [] := by cases pl with
      | nil => rfl
      | cons => simp at hp
    subst this
    unfold tkl at h'
    by_cases hT : acc = fT
    · rw [if_pos hT] at h'; cases h'; exact ha1
    · rw [if_neg hT] at h'
      obtain ⟨b, eb, h3⟩ := Option.bind_eq_some_iff.mp h'
      obtain ⟨b1, b2, b3⟩ := subst_ok hv F qf eb
      rw [hacc.resolve_left hT, mk_F b1] at h3
      by_cases hl : b.length ≤ 400
      · rw [if_pos hl] at h3
        cases h3
        have := b1.pos
        rw [List.length_singleton] at b3; omega
      · rw [if_neg hl] at h3; cases h3
theorem tk_one {k : Int32} {v : Nat} (hv : v < 8) {a f : List (List Int32)} (F : Fm a) (qf : Qf a) (h1 : a.length = 1) (h : tkq k v a = some f) : f.length = 1 := by
  unfold tkq at h
  split at h
  · cases h; exact h1
  · rename_i hb
    obtain ⟨n1, n2, n3⟩ := ng_fm F
    split at h
    · obtain ⟨x, ex, rfl⟩ := Option.map_eq_some_iff.mp h
      rw [ng_len]
      exact tk_one0 hv n1 (qf.ng F) (by rw [ng_len]; exact h1) (by rw [n2]; exact hb) ex
    · exact tk_one0 hv F qf h1 hb h
theorem frd_w {l : List (List Int32)} (h : Fm l) : ∀ {f}, frd l = some f → f.length ≤ 34 * wB l ∧ (2 ≤ f.length → 9 ≤ wU l) := by
  refine Fm.ind (P := fun l => ∀ {f}, frd l = some f → f.length ≤ 34 * wB l ∧ (2 ≤ f.length → 9 ≤ wU l)) ?_ ?_ ?_ h
  · intro r hr f hf
    rw [frd_leaf hr] at hf; cases hf
    have := (w_le (Fm.leaf hr)).1
    simp at this ⊢; omega
  · intro a k v ha ih hk hv _ f hf
    rw [frd_qu ha hk hv] at hf
    obtain ⟨x, ex, hf⟩ := Option.bind_eq_some_iff.mp hf
    obtain ⟨x1, x2, x3⟩ := frd_ok ha ex
    obtain ⟨f1, f2, f3⟩ := tkq_ok hv x1 x2 x3 hf
    obtain ⟨i1, i2⟩ := ih ex
    rw [(w_qu ha hk v).1, (w_qu ha hk v).2]
    by_cases hx : x.length = 1
    · have := tk_one hv x1 x2 hx hf
      omega
    · have := x1.pos
      have := i2 (by omega)
      omega
  · intro a b k ha hb iha ihb hk ho f hf
    rw [frd_bi ha hb hk] at hf
    obtain ⟨x, ex, hf⟩ := Option.bind_eq_some_iff.mp hf
    obtain ⟨y, ey, hf⟩ := Option.bind_eq_some_iff.mp hf
    have := (iha ex).1
    have := (ihb ey).1
    split at hf
    · cases hf
      have := mk_len k x y
      have := w_3 ha ho.1 ho.2.1
      have := w_3 hb ho.2.2.1 ho.2.2.2.1
      rw [(w_bi ha hb hk).1, (w_bi ha hb hk).2]
      omega
    · cases hf
def qfb (l : List (List Int32)) : Bool := l.all (fun r => decide (kd r < 8))
theorem qfb_iff (l : List (List Int32)) : qfb l = true ↔ Qf l := by unfold qfb Qf; simp [List.all_eq_true]
def wX (l : List (List Int32)) : Nat := if qfb l = true then l.length else 34 * wB l
theorem wX_le {l : List (List Int32)} (h : Fm l) : wX l ≤ 34 * wB l := by
  unfold wX; split
  · have := (w_le h).1; omega
  · exact Nat.le_refl _
theorem wX_bi {a b : List (List Int32)} {k : Int32} (ha : Fm a) (hb : Fm b) (hk : k = 6 ∨ k = 7) : wX a + wX b + 1 ≤ wX (a ++ b ++ [row0 k]) := by
  by_cases h : Qf (a ++ b ++ [row0 k])
  · have e1 : wX (a ++ b ++ [row0 k]) = (a ++ b ++ [row0 k]).length := by unfold wX; rw [if_pos ((qfb_iff _).mpr h)]
    have e2 : wX a = a.length := by unfold wX; rw [if_pos ((qfb_iff _).mpr h.left.left)]
    have e3 : wX b = b.length := by unfold wX; rw [if_pos ((qfb_iff _).mpr h.left.right)]
    rw [e1, e2, e3]; simp; omega
  · have e1 : wX (a ++ b ++ [row0 k]) = 34 * wB (a ++ b ++ [row0 k]) := by unfold wX; rw [if_neg (fun g => h ((qfb_iff _).mp g))]
    have := wX_le ha
    have := wX_le hb
    rw [e1, (w_bi ha hb hk).1]; omega
theorem wX_qu {a : List (List Int32)} {k : Int32} (ha : Fm a) (hk : k = 8 ∨ k = 9) (v : Nat) : wX a ≤ wX (a ++ [rowq k v]) := by
  have e1 : wX (a ++ [rowq k v]) = 34 * wB (a ++ [rowq k v]) := by unfold wX; rw [if_neg (fun g => ((qfb_iff _).mp g).no hk)]
  have := wX_le ha
  have := (w_le ha).2.1
  rw [e1, (w_qu ha hk v).1]; omega
theorem frd_qf {l : List (List Int32)} (h : Fm l) : Qf l → ∀ {f}, frd l = some f → f.length ≤ l.length := by
  refine Fm.ind (P := fun l => Qf l → ∀ {f}, frd l = some f → f.length ≤ l.length) ?_ ?_ ?_ h
  · intro r hr _ f hf
    rw [frd_leaf hr] at hf; cases hf; exact Nat.le_refl _
  · intro a k v ha ih hk hv _ q f hf; exact (q.no hk).elim
  · intro a b k ha hb iha ihb hk ho q f hf
    rw [frd_bi ha hb hk] at hf
    obtain ⟨x, ex, hf⟩ := Option.bind_eq_some_iff.mp hf
    obtain ⟨y, ey, hf⟩ := Option.bind_eq_some_iff.mp hf
    have := iha q.left.left ex
    have := ihb q.left.right ey
    split at hf
    · cases hf
      have := mk_len k x y
      simp; omega
    · cases hf
theorem frd_x {l : List (List Int32)} (h : Fm l) {f : List (List Int32)} (hf : frd l = some f) : f.length ≤ wX l := by
  unfold wX; split
  · rename_i hq; exact frd_qf h ((qfb_iff l).mp hq) hf
  · exact (frd_w h hf).1
theorem fold_base {β : Type} (lf : List Int32 → Option β) (qu : List Int32 → Option β → Option β) (bi : List Int32 → Option β → Option β → Option β) {l : List (List Int32)} (h : Fm l) : ∀ (k : Nat) (S : List (Option β)), (l.take k).foldl (stp lf qu bi) S = (l.take k).foldl (stp lf qu bi) [] ++ S := by
  have full : ∀ {l : List (List Int32)}, Fm l → ∀ (S : List (Option β)), l.foldl (stp lf qu bi) S = l.foldl (stp lf qu bi) [] ++ S := by
    intro l F S
    rw [cata_push lf qu bi none F S, cata_push lf qu bi none F []]; rfl
  refine Fm.ind (P := fun l => ∀ (k : Nat) (S : List (Option β)), (l.take k).foldl (stp lf qu bi) S = (l.take k).foldl (stp lf qu bi) [] ++ S) ?_ ?_ ?_ h
  · intro r hr k S
    by_cases h0 : k = 0
    · subst h0; rfl
    · rw [List.take_of_length_le (by simp; omega)]
      exact full (Fm.leaf hr) S
  · intro a kk v ha ih hkk hv ho k S
    by_cases h0 : k ≤ a.length
    · rw [List.take_append_of_le_length h0]; exact ih k S
    · rw [List.take_of_length_le (by simp; omega)]
      exact full (Fm.qu ha hkk hv ho) S
  · intro a b kk ha hb iha ihb hkk ho k S
    by_cases h0 : k ≤ a.length
    · rw [List.append_assoc, List.take_append_of_le_length h0]; exact iha k S
    · by_cases h1 : k ≤ a.length + b.length
      · have et : (a ++ b ++ [row0 kk]).take k = a ++ b.take (k - a.length) := by
          rw [List.take_append_of_le_length (by simp; omega), List.take_append, List.take_of_length_le (by omega)]
        rw [et, List.foldl_append, List.foldl_append, cata_push lf qu bi none ha S, cata_push lf qu bi none ha [], ihb (k - a.length) (cata lf qu bi none a :: S), ihb (k - a.length) [cata lf qu bi none a]]
        simp
      · rw [List.take_of_length_le (by simp; omega)]
        exact full (Fm.bi ha hb hkk ho) S
theorem rev_none {F : Type} {it : List F} {st : List (Option F)} : (it.map some).reverse ++ st = none :: st → False := by
  intro h
  cases hr : it.reverse with
  | nil =>
    have : it = [] := by simpa using hr
    subst this
    have := congrArg List.length h
    simp at this
  | cons x t =>
    rw [← List.map_reverse, hr] at h
    simp at h
theorem frd_peak {l : List (List Int32)} (h : Fm l) : ∀ (k : Nat) (st : List (Option (List (List Int32)))) (it : List (List (List Int32))), k ≤ l.length → (l.take k).foldl (stp rLeaf (oQu rQu) (oBi rBi)) st = (it.map some).reverse ++ st → it.flatten.length ≤ wX l := by
  have top : ∀ {l : List (List Int32)}, Fm l → ∀ (st : List (Option (List (List Int32)))) (it : List (List (List Int32))), l.foldl (stp rLeaf (oQu rQu) (oBi rBi)) st = (it.map some).reverse ++ st → ∃ f, frd l = some f ∧ it = [f] := by
    intro l F st it e
    rw [cata_push rLeaf (oQu rQu) (oBi rBi) none F st] at e
    have e0 : cata rLeaf (oQu rQu) (oBi rBi) none l = frd l := rfl
    rw [e0] at e
    cases hf : frd l with
    | none => rw [hf] at e; exact (rev_none e.symm).elim
    | some f =>
      rw [hf] at e
      refine ⟨f, rfl, ?_⟩
      have e2 : (it.map some).reverse ++ st = [some f] ++ st := e.symm
      have e3 := List.append_cancel_right e2
      have e4 : (it.map some) = [some f] := by rw [← List.reverse_reverse (it.map some), e3]; rfl
      obtain ⟨x, rfl, hx⟩ := List.map_eq_singleton_iff.mp e4
      cases hx; rfl
  have one : ∀ {l : List (List Int32)}, Fm l → ∀ (st : List (Option (List (List Int32)))) (it : List (List (List Int32))), l.foldl (stp rLeaf (oQu rQu) (oBi rBi)) st = (it.map some).reverse ++ st → it.flatten.length ≤ wX l := by
    intro l F st it e
    obtain ⟨f, hf, rfl⟩ := top F st it e
    have := frd_x F hf
    simpa using this
  have zero : ∀ (l : List (List Int32)) (st : List (Option (List (List Int32)))) (it : List (List (List Int32))), (l.take 0).foldl (stp rLeaf (oQu rQu) (oBi rBi)) st = (it.map some).reverse ++ st → it.flatten.length = 0 := by
    intro l st it e
    have := congrArg List.length e
    simp at this
    subst this; rfl
  refine Fm.ind (P := fun l => ∀ (k : Nat) (st : List (Option (List (List Int32)))) (it : List (List (List Int32))), k ≤ l.length → (l.take k).foldl (stp rLeaf (oQu rQu) (oBi rBi)) st = (it.map some).reverse ++ st → it.flatten.length ≤ wX l) ?_ ?_ ?_ h
  · intro r hr k st it hk e
    by_cases h0 : k = 0
    · subst h0; have := zero [r] st it e; omega
    · rw [List.take_of_length_le (by simp; omega)] at e
      exact one (Fm.leaf hr) st it e
  · intro a kk v ha ih hkk hv ho k st it hk e
    by_cases h0 : k ≤ a.length
    · rw [List.take_append_of_le_length h0] at e
      have := ih k st it h0 e
      have := wX_qu ha hkk v
      omega
    · rw [List.take_of_length_le (by simp; omega)] at e
      exact one (Fm.qu ha hkk hv ho) st it e
  · intro a b kk ha hb iha ihb hkk ho k st it hk e
    have hx := wX_bi ha hb hkk
    by_cases h0 : k ≤ a.length
    · rw [List.append_assoc, List.take_append_of_le_length h0] at e
      have := iha k st it h0 e
      omega
    · by_cases h1 : k ≤ a.length + b.length
      · have et : (a ++ b ++ [row0 kk]).take k = a ++ b.take (k - a.length) := by
          rw [List.take_append_of_le_length (by simp; omega), List.take_append, List.take_of_length_le (by omega)]
        rw [et, List.foldl_append, cata_push rLeaf (oQu rQu) (oBi rBi) none ha st] at e

        have key : ∀ (t : List (List Int32)) (x : Option (List (List Int32))) (S : List (Option (List (List Int32)))), (∃ n, n ≤ b.length ∧ t = b.take n) → ∃ S', t.foldl (stp rLeaf (oQu rQu) (oBi rBi)) S = S' ++ S := by
          intro t x S ⟨n, hn, ht⟩
          exact ⟨(t.foldl (stp rLeaf (oQu rQu) (oBi rBi)) []), by rw [ht]; exact fold_base rLeaf (oQu rQu) (oBi rBi) hb n S⟩
        obtain ⟨S', hS⟩ := key (b.take (k - a.length)) none (cata rLeaf (oQu rQu) (oBi rBi) none a :: st) ⟨k - a.length, by omega, rfl⟩
        rw [hS] at e
        have e0 : cata rLeaf (oQu rQu) (oBi rBi) none a = frd a := rfl
        rw [e0] at e hS

        have e2 : S' ++ [frd a] = (it.map some).reverse := by
          have : (S' ++ [frd a]) ++ st = (it.map some).reverse ++ st := by rw [← e]; simp
          exact List.append_cancel_right this
        have e3 : it.map some = frd a :: S'.reverse := by
          rw [← List.reverse_reverse (it.map some), ← e2]; simp
        cases it with
        | nil => simp at e3
        | cons fa itb =>
          simp only [List.map_cons, List.cons.injEq] at e3
          have hfa := frd_x ha e3.1.symm
          have := ihb (k - a.length) (frd a :: st) itb (by omega) (by rw [hS, e3.2]; simp)
          simp only [List.flatten_cons, List.length_append]
          omega
      · rw [List.take_of_length_le (by simp; omega)] at e
        exact one (Fm.bi ha hb hkk ho) st it e
theorem run_ok {l : List (List Int32)} (F : Fm l) (h4 : l.length ≤ 400) (hx : wX l ≤ 9100) (hq : Qf l ∨ l.length ≤ 390) : RunOk l := by
  refine ⟨h4, fun k it hk S => ?_, hq⟩
  have := frd_peak F k [] it hk (by rw [List.append_nil]; exact S)
  omega
abbrev RT := (Int32) × (Int32) × (Int32) × (Int32) × (Int32) × (Int64) × (Int32) × (Int32) × (Int32) × (Nat → Int32) × (Nat → Int32) × (Nat → Int32) × (Nat → Int32) × (Nat → Int32) × (Nat → Int32) × (Nat → Int32) × (Nat → Int32) × (Nat → Int32) × (Nat → Int64) × (Nat → Int64) × (Nat → Int32) × (Nat → Int32)
def FRes (o : Option RT) (n : Nat) (fs : List (List (List Int32))) (i : Nat) (S : Option (List (List Int32))) (B : Nat) : Prop := ∃ gr' u' ki' le' ri' ma' bi' ro' ta' rs' mo' row' pn' pr' ps' L' pts' tko' by' so' va', o = some (Int32.ofNat u', Int32.ofNat n, pts', tko', gr', by', so', va', 0, ki', le', ri', ma', bi', ro', ta', rs', mo', row', pn', pr', ps') ∧ TGot fs i S B gr' u' ki' le' ri' ma' bi' ro' ta' rs' L'
def CovX (fs : List (List (List Int32))) (i : Nat) (gs : List (List (List Int32))) : Prop := ∀ j, j < fs.length → j ≠ i → ∃ g ∈ gs, ∃ s t, g = s ++ fs.getD j [] ++ t
theorem mem_getD {β : Type} (d : β) {l : List β} {x : β} (h : x ∈ l) : ∃ j, j < l.length ∧ l.getD j d = x := by
  obtain ⟨j, hj, e⟩ := List.mem_iff_getElem.mp h
  exact ⟨j, hj, by rw [List.getD_eq_getElem?_getD, List.getElem?_eq_getElem hj]; exact e⟩
theorem getD_set_ne {β : Type} (d : β) {l : List β} {i j : Nat} {x : β} (h : j ≠ i) : (l.set i x).getD j d = l.getD j d := by
  rw [List.getD_eq_getElem?_getD, List.getD_eq_getElem?_getD, List.getElem?_set_ne (by omega)]
theorem getD_set_eq {β : Type} (d : β) {l : List β} {i : Nat} {x : β} (h : i < l.length) : (l.set i x).getD i d = x := by
  rw [List.getD_eq_getElem?_getD, List.getElem?_set_self h]; rfl
theorem CovX.set {fs : List (List (List Int32))} {i : Nat} {gs : List (List (List Int32))} (h : CovX fs i gs) (g : List (List Int32)) : Cov (fs.set i g) (gs ++ [g]) := by
  intro f hf
  obtain ⟨j, hj, e⟩ := mem_getD [] hf
  rw [List.length_set] at hj
  by_cases c : j = i
  · subst c
    rw [getD_set_eq _ hj] at e
    exact ⟨g, by simp, [], [], by simp [e]⟩
  · rw [getD_set_ne _ c] at e
    obtain ⟨x, hx, s, t, h2⟩ := h j hj c
    exact ⟨x, by simp [hx], s, t, by rw [h2, e]⟩
theorem CovX.set2 {fs : List (List (List Int32))} {i : Nat} {gs : List (List (List Int32))} (h : CovX fs i gs) (g : List (List Int32)) : CovX (fs.set i g) i gs := by
  intro j hj c
  rw [List.length_set] at hj
  rw [getD_set_ne _ c]
  exact h j hj c
theorem CovX.push {fs : List (List (List Int32))} {i : Nat} {gs : List (List (List Int32))} (h : CovX fs i gs) (hi : ∃ g ∈ gs, ∃ s t, g = s ++ fs.getD i [] ++ t) {a b : List (List Int32)} (hb : ∃ g ∈ gs, ∃ s t, g = s ++ b ++ t) : CovX (fs ++ [a, b]) fs.length gs := by
  intro j hj c
  by_cases c1 : j < fs.length
  · have e : (fs ++ [a, b]).getD j [] = fs.getD j [] := by rw [List.getD_eq_getElem?_getD, List.getD_eq_getElem?_getD, List.getElem?_append_left c1]
    rw [e]
    by_cases c2 : j = i
    · rw [c2]; exact hi
    · exact h j c1 c2
  · have : j = fs.length + 1 := by simp at hj; omega
    subst this
    have e : (fs ++ [a, b]).getD (fs.length + 1) [] = b := by simp
    rw [e]; exact hb
theorem CovX.push2 {fs : List (List (List Int32))} {i : Nat} {gs : List (List (List Int32))} (h : CovX fs i gs) (hi : ∃ g ∈ gs, ∃ s t, g = s ++ fs.getD i [] ++ t) {a b : List (List Int32)} : CovX (fs ++ [a, b]) (fs.length + 1) (gs ++ [a]) := by
  intro j hj c
  by_cases c1 : j < fs.length
  · have e : (fs ++ [a, b]).getD j [] = fs.getD j [] := by rw [List.getD_eq_getElem?_getD, List.getD_eq_getElem?_getD, List.getElem?_append_left c1]
    rw [e]
    have : ∃ g ∈ gs, ∃ s t, g = s ++ fs.getD j [] ++ t := by
      by_cases c2 : j = i
      · rw [c2]; exact hi
      · exact h j c1 c2
    obtain ⟨g, hg, r⟩ := this
    exact ⟨g, by simp [hg], r⟩
  · have : j = fs.length := by simp at hj; omega
    subst this
    have e : (fs ++ [a, b]).getD fs.length [] = a := by simp
    rw [e]; exact ⟨a, by simp, [], [], by simp⟩
theorem freed_gr (N d : Nat) (U RD pts tko : Int32) (by_ : Int64) (so va pc : Int32) (ki le ri ma bi ro ta rs mo : Nat → Int32) (row pn : Nat → Int64) (pr ps : Nat → Int32) {i x : Nat} (hi : i < 2000) (hr : rs i = Int32.ofNat x) (hx : x < 24000) : fg_freed N (d + 1) U RD pts tko 1 by_ so va pc ki le ri ma bi ro ta rs mo row pn pr ps (Int32.ofNat i) = some (U, RD, pts, tko, 1, by_, so, va, pc, ki, le, ri, ma, bi, ro, ta, rs, mo, row, pn, pr, ps) := by
  show F_X7_freed (fg_freed N d) N U RD pts tko 1 by_ so va pc ki le ri ma bi ro ta rs mo row pn pr ps (Int32.ofNat i) = _
  unfold F_X7_freed f_X7_freed_24
  rw [ix_n _ _ _ (by omega) (by omega), i_cl _ (by omega), hr, ix_n _ _ _ (by omega) (by omega)]
  by_cases h3 : ki (Int32.ofNat x).toNatClampNeg < 3
  · rw [ifb_t h3]
  · rw [ifb_f h3, ifb_f (by decide)]
theorem two_split {β : Type} {f : Nat → β} {L : List Nat} {A : List β} {a b : β} (h : L.map f = A ++ [a, b]) : ∃ L0 x y, L = L0 ++ [x, y] ∧ L0.map f = A ∧ f x = a ∧ f y = b := by
  have h' : L.map f = (A ++ [a]) ++ [b] := by rw [h]; simp
  obtain ⟨L1, y, rfl, h1, h2⟩ := map_split h'
  obtain ⟨L0, x, rfl, h3, h4⟩ := map_split h1
  exact ⟨L0, x, y, by simp, h3, h4, h2⟩
theorem set_len0 {β : Type} (A : List β) (a b g : β) : (A ++ [a, b]).set A.length g = A ++ [g, b] := by simp
theorem set_len1 {β : Type} (A : List β) (a b g : β) : (A ++ [a, b]).set (A.length + 1) g = A ++ [a, g] := by
  rw [List.set_append_right _ _ (by omega), show A.length + 1 - A.length = 1 from by omega]; rfl
section QUP
variable {u i v : Nat} {gs : List (List (List Int32))} {ki le ri ma bi ro ta rs : Nat → Int32} {L : List Nat}
theorem fr_108 (R_ : Int32 → Int32 → Int32 → Int32 → Int32 → Int64 → Int32 → Int32 → Int32 → (Nat → Int32) → (Nat → Int32) → (Nat → Int32) → (Nat → Int32) → (Nat → Int32) → (Nat → Int32) → (Nat → Int32) → (Nat → Int32) → (Nat → Int32) → (Nat → Int64) → (Nat → Int64) → (Nat → Int32) → (Nat → Int32) → Int32 → Option RT) (N : Nat) (hN : 70000 ≤ N) (hv : v < 8) (P : Pool u ki le ri ma bi ro ta) (R : RLs u rs L) (hi : i < L.length) (hL : L.length + 1 ≤ 2000) (hu : u ≤ 20400) (hX : CovX (L.map (dn ki le ri ro)) i gs) (hs : sml gs ≤ 14000) (s0 : Int32) (hs0 : s0 = 1 ∨ s0 = 0) {g : List (List Int32)} (Fg : Fm g) (qg : Qf g) (lg : g.length ≤ 400) (hb : dn ki le ri ro (L.getD i 0) = if s0 = 0 then ng g else g) (pts tko : Int32) (by_ : Int64) (so va : Int32) (mo : Nat → Int32) (row pn : Nat → Int64) (pr ps : Nat → Int32) : FRes (f_X7_freed_108 R_ N (Int32.ofNat u) (Int32.ofNat L.length) pts tko 0 by_ so va 0 ki le ri ma bi ro ta rs mo row pn pr ps (Int32.ofNat i) s0 (Int32.ofNat v)) L.length (L.map (dn ki le ri ro)) i (tkq (if s0 = 0 then 9 else 8) v g) 21000 := by
  obtain ⟨n1, n2, n3⟩ := ng_fm Fg
  have hbq : Qf (dn ki le ri ro (L.getD i 0)) ∧ (dn ki le ri ro (L.getD i 0)).length ≤ 400 ∧ fv (dn ki le ri ro (L.getD i 0)) = fv g := by
    rw [hb]; split
    · exact ⟨qg.ng Fg, by rw [ng_len]; exact lg, n2⟩
    · exact ⟨qg, lg, rfl⟩
  have hcov : Cov (L.map (dn ki le ri ro)) (gs ++ [dn ki le ri ro (L.getD i 0)]) := by
    have := hX.set (dn ki le ri ro (L.getD i 0))
    rw [← map_getD (dn ki le ri ro) [] hi, set_same] at this
    · rw [map_getD (dn ki le ri ro) [] hi] at this; exact this
    · rw [List.length_map]; exact hi
  obtain ⟨gr1, u1, ki1, le1, ri1, ma1, bi1, ro1, ta1, rs1, mo1, row1, pn1, pr1, ps1, L1, pts1, tko1, by1, so1, va1, e1, P1, R1, g1, hm1, hh⟩ := o_takeOut (Bd := 20400) N hN hv (by omega) (by omega) P R hi hL hu hbq.1 hbq.2.1 hcov (by rw [sml_app, sml_one]; omega) pts tko by_ so va mo row pn pr ps
  have hR := R.1
  have hl1 : L1.length = L.length := by
    have := congrArg List.length hm1
    rw [List.length_map, List.length_set, List.length_map] at this; exact this
  unfold f_X7_freed_108 f_X7_freed_142
  rw [bd e1]
  dsimp only
  rw [hbq.2.2, hb] at hh
  rcases hs0 with rfl | rfl
  · rw [ifb_f (by decide)]
    have e0 : (if (1 : Int32) = 0 then ng g else g) = g := if_neg (by decide)
    have e8 : (if (1 : Int32) = 0 then (9 : Int32) else 8) = 8 := if_neg (by decide)
    rw [e0] at hh
    rw [e8]
    refine ⟨gr1, u1, ki1, le1, ri1, ma1, bi1, ro1, ta1, rs1, mo1, row1, pn1, pr1, ps1, L1, _, _, _, _, _, rfl, P1, R1, g1, hm1, ?_⟩
    unfold tkq
    rw [if_neg (show ¬ ((8 : Int32) = 9) by decide)]
    rcases hh with ⟨h1, h2, h3⟩ | ⟨h1, h2⟩
    · exact Or.inl ⟨h1, h2, by omega⟩
    · exact Or.inr ⟨h1, h2⟩
  · rw [ifb_t rfl]
    have e0 : (if (0 : Int32) = 0 then ng g else g) = ng g := if_pos rfl
    have e8 : (if (0 : Int32) = 0 then (9 : Int32) else 8) = 9 := if_pos rfl
    rw [e0] at hh
    rw [e8]
    have es : tkq 9 v g = (if ((fv g >>> (Int32.ofNat v &&& 31)) &&& 1) = 0 then some (ng g) else tk0 v (ng g)).map ng := by
      unfold tkq
      rw [if_pos (show ((9 : Int32) = 9) from rfl)]
      split
      · rw [Option.map_some, n3]
      · rfl
    rw [es]
    rcases hh with ⟨rfl, h2, h3⟩ | ⟨rfl, h2⟩
    · rw [ifb_t rfl]
      have g1l : g1.length ≤ 400 := by
        split at h2
        · cases h2; rw [ng_len]; exact lg
        · exact (tk0_ok hv n1 (qg.ng Fg) h2).2.2
      obtain ⟨r1, r2⟩ := R1.get (i := i) (by omega)
      have hd1 : dn ki1 le1 ri1 ro1 (L1.getD i 0) = g1 := by
        rw [← map_getD (dn ki1 le1 ri1 ro1) [] (by omega), hm1, getD_set_eq]
        rw [List.length_map]; exact hi
      obtain ⟨s, u2, ki2, le2, ri2, ma2, bi2, ro2, ta2, row2, e2, P2, A2, h21, h22, hs2, hd2⟩ := o_turned N hN 450 u1 ki1 le1 ri1 ma1 bi1 ro1 ta1 row1 (L1.getD i 0) P1 r2 (by rw [hd1]; omega) (by rw [hd1]; omega)
      rw [hd1] at hd2 h22
      rw [ix_n _ _ _ (by omega) (by omega), i_cl _ (by omega), r1]
      unfold f_X7_turned
      rw [bd e2]
      dsimp only
      rw [ix_n _ _ _ (by omega) (by omega)]
      refine ⟨0, u2, ki2, le2, ri2, ma2, bi2, ro2, ta2, _, mo1, row2, pn1, pr1, ps1, L1.set i s, _, _, _, _, _, rfl, P2, (R1.mono h21).set hs2, ng g1, ?_, Or.inl ⟨rfl, by rw [h2]; rfl, by omega⟩⟩
      rw [map_set', map_ag P1.1 A2 R1.2.2, hm1, hd2, List.set_set]
    · rw [ifb_f (by decide)]
      exact ⟨1, u1, ki1, le1, ri1, ma1, bi1, ro1, ta1, rs1, mo1, row1, pn1, pr1, ps1, L1, _, _, _, _, _, rfl, P1, R1, g1, hm1, Or.inr ⟨rfl, by rw [h2]; rfl⟩⟩
end QUP
theorem o_freed (N : Nat) (hN : 70000 ≤ N) : ∀ (d u : Nat) (ki le ri ma bi ro ta rs mo : Nat → Int32) (row pn : Nat → Int64) (pr ps : Nat → Int32) (L : List Nat) (i : Nat) (gs : List (List (List Int32))) (pts tko : Int32) (by_ : Int64) (so va : Int32), Pool u ki le ri ma bi ro ta → RLs u rs L → i < L.length → (dn ki le ri ro (L.getD i 0)).length ≤ d → L.length + 2 * (dn ki le ri ro (L.getD i 0)).length + 2 ≤ 2000 → u ≤ 21000 → CovX (L.map (dn ki le ri ro)) i gs → (∃ g ∈ gs, ∃ s t, g = s ++ dn ki le ri ro (L.getD i 0) ++ t) → sml gs + wX (dn ki le ri ro (L.getD i 0)) ≤ 13000 → FRes (fg_freed N d (Int32.ofNat u) (Int32.ofNat L.length) pts tko 0 by_ so va 0 ki le ri ma bi ro ta rs mo row pn pr ps (Int32.ofNat i)) L.length (L.map (dn ki le ri ro)) i (frd (dn ki le ri ro (L.getD i 0))) 21000 := by
  intro d
  induction d with
  | zero =>
    intro u ki le ri ma bi ro ta rs mo row pn pr ps L i gs pts tko by_ so va P R hi hd
    obtain ⟨_, h2⟩ := R.get hi
    have := (dn_fm P.1 _ h2).pos
    omega
  | succ d ih =>
    intro u ki le ri ma bi ro ta rs mo row pn pr ps L i gs pts tko by_ so va P R hi hd hL hu hX hV hs
    have hR := R.1
    have hu2 := P.1.2.1
    obtain ⟨g1, g2⟩ := R.get hi
    have hfi : (L.map (dn ki le ri ro)).getD i [] = dn ki le ri ro (L.getD i 0) := map_getD (dn ki le ri ro) [] hi
    have hsame : (L.map (dn ki le ri ro)).set i (dn ki le ri ro (L.getD i 0)) = L.map (dn ki le ri ro) := by
      rw [← hfi, set_same]; rw [List.length_map]; exact hi
    generalize hx : L.getD i 0 = x at *
    show FRes (F_X7_freed (fg_freed N d) N (Int32.ofNat u) (Int32.ofNat L.length) pts tko 0 by_ so va 0 ki le ri ma bi ro ta rs mo row pn pr ps (Int32.ofNat i)) L.length (L.map (dn ki le ri ro)) i (frd (dn ki le ri ro x)) 21000
    unfold F_X7_freed
    rw [ix_n _ _ _ (by omega) (by omega), i_cl _ (by omega), g1, ix_n _ _ _ (by omega) (by omega), i_cl _ (by omega)]
    have leaf : ki x < 3 → (∃ r, Leaf r ∧ dn ki le ri ro x = [r]) → FRes (ifb (ki x < 3) (f_X7_freed_24 (fg_freed N d) N (Int32.ofNat u) (Int32.ofNat L.length) pts tko 0 by_ so va 0 ki le ri ma bi ro ta rs mo row pn pr ps) (ifb ((0 : Int32) = 0) (ix (Int32.ofNat x) 24000 (ifb ((ki x) < 5) (ix (Int32.ofNat x) 24000 (ifb ((ki x) = 3) (f_X7_freed_158 (fg_freed N d) N (Int32.ofNat u) (Int32.ofNat L.length) pts tko 0 by_ so va 0 ki le ri ma bi ro ta rs mo row pn pr ps (Int32.ofNat i) (Int32.ofNat x) 1) (f_X7_freed_158 (fg_freed N d) N (Int32.ofNat u) (Int32.ofNat L.length) pts tko 0 by_ so va 0 ki le ri ma bi ro ta rs mo row pn pr ps (Int32.ofNat i) (Int32.ofNat x) 0))) (ix (Int32.ofNat x) 24000 (ifb ((ki x) = 5) (f_X7_freed_50 (fg_freed N d) N (Int32.ofNat u) (Int32.ofNat L.length) pts tko 0 by_ so va 0 ki le ri ma bi ro ta rs mo row pn pr ps (Int32.ofNat i) (Int32.ofNat x) 1) (f_X7_freed_50 (fg_freed N d) N (Int32.ofNat u) (Int32.ofNat L.length) pts tko 0 by_ so va 0 ki le ri ma bi ro ta rs mo row pn pr ps (Int32.ofNat i) (Int32.ofNat x) 0))))) (f_X7_freed_24 (fg_freed N d) N (Int32.ofNat u) (Int32.ofNat L.length) pts tko 0 by_ so va 0 ki le ri ma bi ro ta rs mo row pn pr ps))) L.length (L.map (dn ki le ri ro)) i (frd (dn ki le ri ro x)) 21000 := by
      intro h3 ⟨r, hr, e⟩
      rw [ifb_t h3]
      unfold f_X7_freed_24
      refine ⟨0, u, ki, le, ri, ma, bi, ro, ta, rs, mo, row, pn, pr, ps, L, _, _, _, _, _, rfl, P, R, dn ki le ri ro x, hsame.symm, Or.inl ⟨rfl, ?_, hu⟩⟩
      rw [e, frd_leaf hr]
    rcases P.1.2.2.1 x g2 with ⟨_, h, _⟩ | ⟨_, h, _⟩ | ⟨_, h, _, _, hA⟩ | ⟨a, b, _, ha, hb, hk, e1, e2, ho⟩ | ⟨v, b, _, hv, hb, hk, e1, e2, ho⟩
    · exact leaf (by rw [h]; decide) ⟨_, Or.inl rfl, dn0 h⟩
    · exact leaf (by rw [h]; decide) ⟨_, Or.inr (Or.inl rfl), dn1 h⟩
    · exact leaf (by rw [h]; decide) ⟨_, Or.inr (Or.inr hA), dn2 h⟩
    ·
      clear leaf
      have hk3 : ki x + 3 = 6 ∨ ki x + 3 = 7 := by rcases hk with h | h <;> rw [h] <;> decide
      have eD := dnb P.1 g2 ha hb hk e1 e2
      have Fa := dn_fm P.1 a (by omega)
      have Fb := dn_fm P.1 b (by omega)
      have lD : (dn ki le ri ro x).length = (dn ki le ri ro a).length + (dn ki le ri ro b).length + 1 := by rw [eD]; simp; omega
      have pa := Fa.pos
      have pb := Fb.pos
      have wD : wX (dn ki le ri ro a) + wX (dn ki le ri ro b) + 1 ≤ wX (dn ki le ri ro x) := by rw [eD]; exact wX_bi Fa Fb hk3
      obtain ⟨V, hV1, vs, vt, hV2⟩ := hV
      have hVa : ∃ g ∈ gs, ∃ s t, g = s ++ dn ki le ri ro a ++ t := ⟨V, hV1, vs, dn ki le ri ro b ++ [row0 (ki x + 3)] ++ vt, by rw [hV2, eD]; simp⟩
      have hVb : ∃ g ∈ gs, ∃ s t, g = s ++ dn ki le ri ro b ++ t := ⟨V, hV1, vs ++ dn ki le ri ro a, [row0 (ki x + 3)] ++ vt, by rw [hV2, eD]; simp⟩
      have hVi : ∃ g ∈ gs, ∃ s t, g = s ++ (L.map (dn ki le ri ro)).getD i [] ++ t := ⟨V, hV1, vs, vt, by rw [hfi]; exact hV2⟩
      obtain ⟨r1, R1⟩ := o_root N R (x := a) (by omega) (by omega)
      have hl1 : (L ++ [a]).length = L.length + 1 := by simp
      obtain ⟨r2, R2⟩ := o_root N R1 (x := b) (by omega) (by omega)
      have eL : L ++ [a] ++ [b] = L ++ [a, b] := by simp
      rw [eL] at R2
      rw [hl1] at r2 R2
      have hl2 : (L ++ [a, b]).length = L.length + 2 := by simp
      have ga : (L ++ [a, b]).getD L.length 0 = a := by simp
      have gb : (L ++ [a, b]).getD (L.length + 1) 0 = b := by simp
      have em : (L ++ [a, b]).map (dn ki le ri ro) = L.map (dn ki le ri ro) ++ [dn ki le ri ro a, dn ki le ri ro b] := by simp
      have lm : (L.map (dn ki le ri ro)).length = L.length := List.length_map ..
      have cx := hX.push hVi (a := dn ki le ri ro a) hVb
      rw [← em, lm] at cx
      have fa := ih u ki le ri ma bi ro ta _ mo row pn pr ps (L ++ [a, b]) L.length gs pts tko by_ so va P R2 (by omega) (by rw [ga]; omega) (by rw [ga, hl2]; omega) hu cx (by rw [ga]; exact hVa) (by rw [ga]; omega)
      rw [ga, hl2, em] at fa
      obtain ⟨gr3, u3, ki3, le3, ri3, ma3, bi3, ro3, ta3, rs3, mo3, row3, pn3, pr3, ps3, L3, pts3, tko3, by3, so3, va3, e3, P3, R3, f1, hm3, hh3⟩ := fa
      rw [show L.length = (L.map (dn ki le ri ro)).length from lm.symm, set_len0] at hm3
      have hl3 : L3.length = L.length + 2 := by
        have := congrArg List.length hm3
        rw [List.length_map] at this; rw [this]; simp
      have hm3' := hm3
      obtain ⟨L30, x3, y3, rfl, hm30, hx3, hy3⟩ := two_split hm3'
      have hl30 : L30.length = L.length := by simp at hl3; omega

      have main : ∀ s0 : Int32, (s0 = 1 ∧ ki x = 3 ∨ s0 = 0 ∧ ki x = 4) → FRes (f_X7_freed_158 (fg_freed N d) N (Int32.ofNat u) (Int32.ofNat L.length) pts tko 0 by_ so va 0 ki le ri ma bi ro ta rs mo row pn pr ps (Int32.ofNat i) (Int32.ofNat x) s0) L.length (L.map (dn ki le ri ro)) i (frd (dn ki le ri ro x)) 21000 := by
        intro s0 hs0
        have hmk : (if s0 = 0 then (7 : Int32) else 6) = ki x + 3 := by
          rcases hs0 with ⟨rfl, h⟩ | ⟨rfl, h⟩ <;> rw [h] <;> decide
        unfold f_X7_freed_158
        rw [ix_n _ _ _ (by omega) (by omega), i_cl _ (by omega), e1, bd r1]
        dsimp only
        rw [ix_n _ _ _ (by omega) (by omega), e2, bd r2]
        dsimp only
        rw [bd e3]
        dsimp only
        have h2000 := R3.1
        obtain ⟨q1, q2⟩ := R3.get (i := L.length + 1) (by omega)
        have hu3 := P3.1.2.1
        unfold f_X7_freed_250 f_X7_freed_257
        rw [eD, frd_bi Fa Fb hk3]
        obtain ⟨d', rfl⟩ : ∃ d', d = d' + 1 := ⟨d - 1, by omega⟩
        have em2 : Int32.ofNat (L.length + 2) - 2 = Int32.ofNat L.length := by rw [i_m2 _ (by omega)]; rfl
        have hsame3 : L30.map (dn ki3 le3 ri3 ro3) = (L.map (dn ki le ri ro)).set i (dn ki le ri ro x) := by rw [hsame, hm30]
        rcases hh3 with ⟨rfl, hf1, hu3'⟩ | ⟨rfl, hf1⟩
        ·
          have F1 := frd_ok Fa hf1
          have w1 := frd_x Fa hf1
          have gb3 : dn ki3 le3 ri3 ro3 ((L30 ++ [x3, y3]).getD (L.length + 1) 0) = dn ki le ri ro b := by
            rw [← hl30]; simp [hy3]
          have cx2 := hX.push2 hVi (a := f1) (b := dn ki le ri ro b)
          rw [← hm3, lm] at cx2
          have fb := ih u3 ki3 le3 ri3 ma3 bi3 ro3 ta3 rs3 mo3 row3 pn3 pr3 ps3 (L30 ++ [x3, y3]) (L.length + 1) (gs ++ [f1]) pts3 tko3 by3 so3 va3 P3 R3 (by omega) (by rw [gb3]; omega) (by rw [gb3, hl3]; omega) hu3' cx2 (by
            rw [gb3]; obtain ⟨g, hg, r⟩ := hVb; exact ⟨g, by simp [hg], r⟩) (by rw [gb3, sml_app, sml_one]; omega)
          rw [gb3, hl3, hm3] at fb
          obtain ⟨gr4, u4, ki4, le4, ri4, ma4, bi4, ro4, ta4, rs4, mo4, row4, pn4, pr4, ps4, L4, pts4, tko4, by4, so4, va4, e4, P4, R4, f2, hm4, hh4⟩ := fb
          rw [show L.length + 1 = (L.map (dn ki le ri ro)).length + 1 from by rw [lm], set_len1] at hm4
          have hl4 : L4.length = L.length + 2 := by
            have := congrArg List.length hm4
            rw [List.length_map] at this; rw [this]; simp
          have hm4' := hm4
          obtain ⟨L40, x4, y4, rfl, hm40, hx4, hy4⟩ := two_split hm4'
          have hl40 : L40.length = L.length := by simp at hl4; omega
          have hsame4 : L40.map (dn ki4 le4 ri4 ro4) = (L.map (dn ki le ri ro)).set i (dn ki le ri ro x) := by rw [hsame, hm40]
          have hu4 := P4.1.2.1
          have h2004 := R4.1
          rw [bd e4]
          dsimp only
          rw [hf1]
          rcases hh4 with ⟨rfl, hf2, hu4'⟩ | ⟨rfl, hf2⟩
          · have F2 := frd_ok Fb hf2
            rw [hf2, ifb_t rfl]
            obtain ⟨p1, p2⟩ := R4.get (i := L.length) (by omega)
            obtain ⟨p3, p4⟩ := R4.get (i := L.length + 1) (by omega)
            have px : (L40 ++ [x4, y4]).getD L.length 0 = x4 := by rw [← hl40]; simp
            have py : (L40 ++ [x4, y4]).getD (L.length + 1) 0 = y4 := by rw [← hl40]; simp
            rw [px] at p1 p2
            rw [py] at p3 p4
            have ll : (dn ki4 le4 ri4 ro4 x4).length + (dn ki4 le4 ri4 ro4 y4).length + 1 ≤ 1000 := by rw [hx4, hy4]; omega
            obtain ⟨s5, u5, ki5, le5, ri5, ma5, bi5, ro5, ta5, e5, P5, A5, h51, h52, hs5, hd5⟩ := o_both (rw_ := row4) N hN P4 (by omega) s0 p2 p4 ll
            rw [hx4, hy4, hmk] at hd5
            rw [ix_n _ _ _ (by omega) (by omega), ix_n _ _ _ (by omega) (by omega), i_cl _ (by omega), i_cl _ (by omega), p1, p3, bd e5]
            dsimp only
            have hu5 := P5.1.2.1
            have hma := (P5.2.2 s5 hs5).1
            rw [hd5] at hma
            have hlm := mk_len (ki x + 3) f1 f2
            have R5 := (R4.mono h51).set (i := i) hs5
            have es5 : (L40 ++ [x4, y4]).set i s5 = L40.set i s5 ++ [x4, y4] := List.set_append_left _ _ (by omega)
            have hm5 : ((L40 ++ [x4, y4]).set i s5).map (dn ki5 le5 ri5 ro5) = (L.map (dn ki le ri ro)).set i (mk (ki x + 3) f1 f2) ++ [f1, f2] := by
              rw [map_set', map_ag P4.1 A5 R4.2.2, hm4, hd5, List.set_append_left _ _ (by rw [lm]; omega)]
            have cov5 : Cov (((L40 ++ [x4, y4]).set i s5).map (dn ki5 le5 ri5 ro5)) ((gs ++ [mk (ki x + 3) f1 f2]) ++ [f1, f2]) := by
              rw [hm5]; exact (hX.set _).app (Cov.self _)
            have hs5' : sml ((gs ++ [mk (ki x + 3) f1 f2]) ++ [f1, f2]) ≤ 19998 := by
              rw [sml_app, sml_app, sml_one, show sml [f1, f2] = f1.length + f2.length from by unfold sml; simp]
              omega
            obtain ⟨u6, ki6, le6, ri6, ma6, bi6, ro6, ta6, rs6, mo6, L6, e6, ⟨P6, R6, hm6, hu6⟩, hu20⟩ := o_sweepIf (mo := mo4) (rw_ := row4) N hN P5 R5 _ cov5 hs5'
            rw [hm5] at hm6
            obtain ⟨L60, x6, y6, rfl, hm60, hx6, hy6⟩ := two_split hm6
            rw [List.length_set, hl4] at e6
            rw [upd_at, ix_n _ _ _ (by omega) (by omega), ix_n _ _ _ (by omega) (by omega), ix_n _ _ _ (by omega) (by omega), i_cl _ (by omega), i_cl _ (by omega)]
            show FRes _ _ _ _ (if (mk (ki x + 3) f1 f2).length ≤ 400 then some (mk (ki x + 3) f1 f2) else none) _
            by_cases h4 : (mk (ki x + 3) f1 f2).length ≤ 400
            · rw [ifb_t (by show ma5 s5 ≤ 400; rw [hma, show (400 : Int32) = Int32.ofNat 400 from rfl, i_le _ _ (by omega) (by omega)]; exact h4), ckp_t (Or.inl rfl), bd e6, if_pos h4, em2]
              exact ⟨0, u6, ki6, le6, ri6, ma6, bi6, ro6, ta6, rs6, mo6, row4, pn4, pr4, ps4, L60, _, _, _, _, _, rfl, P6, R6.pop, _, hm60, Or.inl ⟨rfl, rfl, by omega⟩⟩
            · rw [ifb_f (by show ¬ (ma5 s5 ≤ 400); rw [hma, show (400 : Int32) = Int32.ofNat 400 from rfl, i_le _ _ (by omega) (by omega)]; exact h4), ckp_t (Or.inr rfl), bd e6, if_neg h4, em2]
              exact ⟨1, u6, ki6, le6, ri6, ma6, bi6, ro6, ta6, rs6, mo6, row4, pn4, pr4, ps4, L60, _, _, _, _, _, rfl, P6, R6.pop, _, hm60, Or.inr ⟨rfl, rfl⟩⟩
          · rw [hf2, ifb_f (by decide), em2]
            exact ⟨1, u4, ki4, le4, ri4, ma4, bi4, ro4, ta4, rs4, mo4, row4, pn4, pr4, ps4, L40, _, _, _, _, _, rfl, P4, R4.pop, _, hsame4, Or.inr ⟨rfl, rfl⟩⟩
        · rw [hf1, freed_gr N d' _ _ _ _ _ _ _ _ _ _ _ _ _ _ _ _ _ _ _ _ _ (by omega) q1 (by omega)]
          show FRes (ifb ((1 : Int32) = 0) _ _) _ _ _ _ _
          rw [ifb_f (by decide)]
          dsimp only
          rw [em2]
          exact ⟨1, u3, ki3, le3, ri3, ma3, bi3, ro3, ta3, rs3, mo3, row3, pn3, pr3, ps3, L30, _, _, _, _, _, rfl, P3, R3.pop, _, hsame3, Or.inr ⟨rfl, rfl⟩⟩
      rcases hk with h | h
      · rw [ifb_f (by rw [h]; decide), ifb_t rfl, ix_n _ _ _ (by omega) (by omega), ifb_t (by rw [h]; decide), ix_n _ _ _ (by omega) (by omega), ifb_t h]
        exact main 1 (Or.inl ⟨rfl, h⟩)
      · rw [ifb_f (by rw [h]; decide), ifb_t rfl, ix_n _ _ _ (by omega) (by omega), ifb_t (by rw [h]; decide), ix_n _ _ _ (by omega) (by omega), ifb_f (by rw [h]; decide)]
        exact main 0 (Or.inr ⟨rfl, h⟩)
    ·
      clear leaf
      have hk3 : ki x + 3 = 8 ∨ ki x + 3 = 9 := by rcases hk with h | h <;> rw [h] <;> decide
      have eD := dnq P.1 g2 hv hb hk e1 e2
      have Fb := dn_fm P.1 b (by omega)
      have lD : (dn ki le ri ro x).length = (dn ki le ri ro b).length + 1 := by rw [eD]; simp
      have wD : wX (dn ki le ri ro b) ≤ wX (dn ki le ri ro x) := by rw [eD]; exact wX_qu Fb hk3 v
      obtain ⟨V, hV1, vs, vt, hV2⟩ := hV
      have R1 := R.set (i := i) (x := b) (by omega)
      have hl1 : (L.set i b).length = L.length := List.length_set ..
      have hg1 : (L.set i b).getD i 0 = b := getD_set_eq 0 hi
      have em : (L.set i b).map (dn ki le ri ro) = (L.map (dn ki le ri ro)).set i (dn ki le ri ro b) := map_set' _ _ _ _
      have lm : (L.map (dn ki le ri ro)).length = L.length := List.length_map ..
      have fb := ih u ki le ri ma bi ro ta _ mo row pn pr ps (L.set i b) i gs pts tko by_ so va P R1 (by omega) (by rw [hg1]; omega) (by rw [hg1, hl1]; omega) hu (by rw [em]; exact hX.set2 _) (by rw [hg1]; exact ⟨V, hV1, vs, [rowq (ki x + 3) v] ++ vt, by rw [hV2, eD]; simp⟩) (by rw [hg1]; omega)
      rw [hg1, hl1, em] at fb
      obtain ⟨gr3, u3, ki3, le3, ri3, ma3, bi3, ro3, ta3, rs3, mo3, row3, pn3, pr3, ps3, L3, pts3, tko3, by3, so3, va3, e3, P3, R3, f1, hm3, hh3⟩ := fb
      rw [List.set_set] at hm3
      have hl3 : L3.length = L.length := by
        have := congrArg List.length hm3
        rw [List.length_map, List.length_set] at this; rw [this, lm]
      have main : ∀ s0 : Int32, (s0 = 1 ∧ ki x = 5 ∨ s0 = 0 ∧ ki x = 6) → FRes (f_X7_freed_50 (fg_freed N d) N (Int32.ofNat u) (Int32.ofNat L.length) pts tko 0 by_ so va 0 ki le ri ma bi ro ta rs mo row pn pr ps (Int32.ofNat i) (Int32.ofNat x) s0) L.length (L.map (dn ki le ri ro)) i (frd (dn ki le ri ro x)) 21000 := by
        intro s0 hs0
        have hmk : (if s0 = 0 then (9 : Int32) else 8) = ki x + 3 := by
          rcases hs0 with ⟨rfl, h⟩ | ⟨rfl, h⟩ <;> rw [h] <;> decide
        unfold f_X7_freed_50
        rw [ix_n _ _ _ (by omega) (by omega), ix_n _ _ _ (by omega) (by omega), ix_n _ _ _ (by omega) (by omega), i_cl _ (by omega), i_cl _ (by omega), e1, e2, bd e3]
        dsimp only
        rw [eD, frd_qu Fb hk3 hv]
        rcases hh3 with ⟨rfl, hf1, hu3'⟩ | ⟨rfl, hf1⟩
        · obtain ⟨F1, F2, F3⟩ := frd_ok Fb hf1
          rw [hf1, ifb_t rfl]
          show FRes _ _ _ _ (tkq (ki x + 3) v f1) _
          have cov3 : Cov (L3.map (dn ki3 le3 ri3 ro3)) (gs ++ [f1]) := by rw [hm3]; exact hX.set f1
          obtain ⟨u4, ki4, le4, ri4, ma4, bi4, ro4, ta4, rs4, mo4, L4, e4, ⟨P4, R4, hm4, hu4⟩, hu20⟩ := o_sweepIf (mo := mo3) (rw_ := row3) N hN P3 R3 _ cov3 (by rw [sml_app, sml_one]; omega)
          rw [hl3] at e4
          rw [bd e4]
          dsimp only
          rw [hm3] at hm4
          have hl4 : L4.length = L.length := by
            have := congrArg List.length hm4
            rw [List.length_map, List.length_set] at this; rw [this, lm]
          obtain ⟨q1, q2⟩ := R4.get (i := i) (by omega)
          have hd4 : dn ki4 le4 ri4 ro4 (L4.getD i 0) = f1 := by
            rw [← map_getD (dn ki4 le4 ri4 ro4) [] (by omega), hm4, getD_set_eq]
            rw [lm]; exact hi
          have hu4' := P4.1.2.1
          have fin : ∀ {u5 : Nat} {ki5 le5 ri5 ma5 bi5 ro5 ta5 rs5 : Nat → Int32} {L5 : List Nat} {gg : List (List Int32)} (row5 : Nat → Int64), Pool u5 ki5 le5 ri5 ma5 bi5 ro5 ta5 → RLs u5 rs5 L5 → u5 ≤ 20400 → L5.map (dn ki5 le5 ri5 ro5) = (L.map (dn ki le ri ro)).set i gg → gg = (if s0 = 0 then ng f1 else f1) → FRes (f_X7_freed_108 (fg_freed N d) N (Int32.ofNat u5) (Int32.ofNat L.length) pts3 tko3 0 by3 so3 va3 0 ki5 le5 ri5 ma5 bi5 ro5 ta5 rs5 mo4 row5 pn3 pr3 ps3 (Int32.ofNat i) s0 (Int32.ofNat v)) L.length (L.map (dn ki le ri ro)) i (tkq (ki x + 3) v f1) 21000 := by
            intro u5 ki5 le5 ri5 ma5 bi5 ro5 ta5 rs5 L5 gg row5 P5 R5 hu5 hm5 hgg
            have hl5 : L5.length = L.length := by
              have := congrArg List.length hm5
              rw [List.length_map, List.length_set] at this; rw [this, lm]
            have := fr_108 (v := v) (fg_freed N d) N hN hv P5 R5 (i := i) (gs := gs) (by omega) (by omega) hu5 (by rw [hm5]; exact hX.set2 _) (by omega) s0 (by rcases hs0 with ⟨h, _⟩ | ⟨h, _⟩ <;> simp [h]) F1 F2 F3 (by rw [← map_getD (dn ki5 le5 ri5 ro5) [] (by omega), hm5, getD_set_eq _ (by rw [lm]; exact hi)]; exact hgg) pts3 tko3 by3 so3 va3 mo4 row5 pn3 pr3 ps3
            rw [hmk, hl5, hm5] at this
            obtain ⟨gr', u', ki', le', ri', ma', bi', ro', ta', rs', mo', row', pn', pr', ps', L', pts', tko', by', so', va', e', P', R', g', hm', hh'⟩ := this
            rw [List.set_set] at hm'
            exact ⟨gr', u', ki', le', ri', ma', bi', ro', ta', rs', mo', row', pn', pr', ps', L', pts', tko', by', so', va', e', P', R', g', hm', hh'⟩
          by_cases h0 : s0 = 0
          · obtain ⟨s, u5, ki5, le5, ri5, ma5, bi5, ro5, ta5, row5, e5, P5, A5, h51, h52, hs5, hd5⟩ := o_turned N hN 450 u4 ki4 le4 ri4 ma4 bi4 ro4 ta4 row3 (L4.getD i 0) P4 q2 (by rw [hd4]; omega) (by rw [hd4]; omega)
            rw [hd4] at hd5 h52
            rw [ifb_t h0, ix_n _ _ _ (by omega) (by omega), q1]
            unfold f_X7_turned
            rw [bd e5]
            dsimp only
            rw [ix_n _ _ _ (by omega) (by omega)]
            refine fin row5 P5 ((R4.mono h51).set hs5) (by omega) ?_ (gg := ng f1) (by rw [if_pos h0])
            rw [map_set', map_ag P4.1 A5 R4.2.2, hm4, hd5, List.set_set]
          · rw [ifb_f h0]
            exact fin row3 P4 R4 (by omega) hm4 (by rw [if_neg h0])
        · rw [hf1, ifb_f (by decide)]
          exact ⟨1, u3, ki3, le3, ri3, ma3, bi3, ro3, ta3, rs3, mo3, row3, pn3, pr3, ps3, L3, _, _, _, _, _, rfl, P3, R3, f1, hm3, Or.inr ⟨rfl, rfl⟩⟩
      rcases hk with h | h
      · rw [ifb_f (by rw [h]; decide), ifb_t rfl, ix_n _ _ _ (by omega) (by omega), ifb_f (by rw [h]; decide), ix_n _ _ _ (by omega) (by omega), ifb_t h]
        exact main 1 (Or.inl ⟨rfl, h⟩)
      · rw [ifb_f (by rw [h]; decide), ifb_t rfl, ix_n _ _ _ (by omega) (by omega), ifb_f (by rw [h]; decide), ix_n _ _ _ (by omega) (by omega), ifb_f (by rw [h]; decide)]
        exact main 0 (Or.inr ⟨rfl, h⟩)
