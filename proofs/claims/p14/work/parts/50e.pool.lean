def aRow (le ro : Nat → Int32) (p : Nat) : List Int32 := (2 + le p) :: (List.range 9).map (fun i => ro (9 * p + i))
def den (ki le ri ro : Nat → Int32) : Nat → Nat → List (List Int32)
  | 0, _ => []
  | f + 1, p => if ki p = 0 then fT else if ki p = 1 then fF else if ki p = 2 then [aRow le ro p] else if ki p = 3 then den ki le ri ro f (le p).toNatClampNeg ++ den ki le ri ro f (ri p).toNatClampNeg ++ [row0 6] else if ki p = 4 then den ki le ri ro f (le p).toNatClampNeg ++ den ki le ri ro f (ri p).toNatClampNeg ++ [row0 7] else den ki le ri ro f (ri p).toNatClampNeg ++ [rowq (if ki p = 5 then 8 else 9) (le p).toNatClampNeg]
def dn (ki le ri ro : Nat → Int32) (p : Nat) : List (List Int32) := den ki le ri ro (p + 1) p
def Nd (ki le ri ro : Nat → Int32) (p : Nat) : Prop :=
  (p = 0 ∧ ki p = 0 ∧ le p = 0 ∧ ri p = 0) ∨ (p = 1 ∧ ki p = 1 ∧ le p = 0 ∧ ri p = 0) ∨ (2 ≤ p ∧ ki p = 2 ∧ (le p = 0 ∨ le p = 1 ∨ le p = 2 ∨ le p = 3) ∧ ri p = 0 ∧ Atm (aRow le ro p)) ∨
  (∃ a b, 2 ≤ p ∧ a < p ∧ b < p ∧ (ki p = 3 ∨ ki p = 4) ∧ le p = Int32.ofNat a ∧ ri p = Int32.ofNat b ∧ okBi (dn ki le ri ro a) (dn ki le ri ro b)) ∨
  (∃ v b, 2 ≤ p ∧ v < 8 ∧ b < p ∧ (ki p = 5 ∨ ki p = 6) ∧ le p = Int32.ofNat v ∧ ri p = Int32.ofNat b ∧ okQu v (dn ki le ri ro b))
def Po (u : Nat) (ki le ri ro : Nat → Int32) : Prop := 2 ≤ u ∧ u ≤ 24000 ∧ (∀ p, p < u → Nd ki le ri ro p) ∧ ∀ p q, p < u → q < u → ki p = ki q → le p = le q → ri p = ri q → (ki p = 2 → ∀ i, i < 9 → ro (9 * p + i) = ro (9 * q + i)) → p = q
section POOL
variable {u : Nat} {ki le ri ro : Nat → Int32}
theorem den_fuel (H : ∀ p, p < u → Nd ki le ri ro p) (hu : u ≤ 24000) : ∀ p, p < u → ∀ f, p < f → den ki le ri ro f p = dn ki le ri ro p := by
  intro p
  induction p using Nat.strongRecOn with
  | ind p ih =>
    intro hp f hf
    obtain ⟨f, rfl⟩ : ∃ g, f = g + 1 := ⟨f - 1, by omega⟩
    unfold dn
    rcases H p hp with ⟨_, h, _⟩ | ⟨_, h, _⟩ | ⟨_, h, _⟩ | ⟨a, b, _, ha, hb, hk, e1, e2, _⟩ | ⟨v, b, _, hv, hb, hk, e1, e2, _⟩
    · unfold den; rw [if_pos h, if_pos h]
    · unfold den
      have h0 : ¬ (ki p = 0) := by rw [h]; decide
      rw [if_neg h0, if_neg h0, if_pos h, if_pos h]
    · unfold den
      have h0 : ¬ (ki p = 0) := by rw [h]; decide
      have h1 : ¬ (ki p = 1) := by rw [h]; decide
      rw [if_neg h0, if_neg h0, if_neg h1, if_neg h1, if_pos h, if_pos h]
    · have ea : (le p).toNatClampNeg = a := by rw [e1, i_cl _ (by omega)]
      have eb : (ri p).toNatClampNeg = b := by rw [e2, i_cl _ (by omega)]
      have g1 := ih a ha (by omega) f (by omega)
      have g2 := ih b hb (by omega) f (by omega)
      have g3 := ih a ha (by omega) p ha
      have g4 := ih b hb (by omega) p hb
      conv => lhs; unfold den
      conv => rhs; unfold den
      rw [ea, eb, g1, g2, g3, g4]
    · have eb : (ri p).toNatClampNeg = b := by rw [e2, i_cl _ (by omega)]
      have g2 := ih b hb (by omega) f (by omega)
      have g4 := ih b hb (by omega) p hb
      have k0 : ¬ (ki p = 0) := by rcases hk with h | h <;> rw [h] <;> decide
      have k1 : ¬ (ki p = 1) := by rcases hk with h | h <;> rw [h] <;> decide
      have k2 : ¬ (ki p = 2) := by rcases hk with h | h <;> rw [h] <;> decide
      have k3 : ¬ (ki p = 3) := by rcases hk with h | h <;> rw [h] <;> decide
      have k4 : ¬ (ki p = 4) := by rcases hk with h | h <;> rw [h] <;> decide
      conv => lhs; unfold den
      conv => rhs; unfold den
      rw [if_neg k0, if_neg k1, if_neg k2, if_neg k3, if_neg k4, if_neg k0, if_neg k1, if_neg k2, if_neg k3, if_neg k4, eb, g2, g4]
theorem dn0 {p : Nat} (h : ki p = 0) : dn ki le ri ro p = fT := by unfold dn den; rw [if_pos h]
theorem dn1 {p : Nat} (h : ki p = 1) : dn ki le ri ro p = fF := by
  unfold dn den; rw [if_neg (by rw [h]; decide), if_pos h]
theorem dn2 {p : Nat} (h : ki p = 2) : dn ki le ri ro p = [aRow le ro p] := by
  unfold dn den; rw [if_neg (by rw [h]; decide), if_neg (by rw [h]; decide), if_pos h]
theorem dnb (P : Po u ki le ri ro) {p a b : Nat} (hp : p < u) (ha : a < p) (hb : b < p) (hk : ki p = 3 ∨ ki p = 4) (e1 : le p = Int32.ofNat a) (e2 : ri p = Int32.ofNat b) : dn ki le ri ro p = dn ki le ri ro a ++ dn ki le ri ro b ++ [row0 (ki p + 3)] := by
  have hu := P.2.1
  have ea : (le p).toNatClampNeg = a := by rw [e1, i_cl _ (by omega)]
  have eb : (ri p).toNatClampNeg = b := by rw [e2, i_cl _ (by omega)]
  have g3 := den_fuel P.2.2.1 hu a (by omega) p ha
  have g4 := den_fuel P.2.2.1 hu b (by omega) p hb
  conv => lhs; unfold dn den
  rw [ea, eb, g3, g4]
  rcases hk with h | h
  · rw [if_neg (by rw [h]; decide), if_neg (by rw [h]; decide), if_neg (by rw [h]; decide), if_pos h, h]; rfl
  · rw [if_neg (by rw [h]; decide), if_neg (by rw [h]; decide), if_neg (by rw [h]; decide), if_neg (by rw [h]; decide), if_pos h, h]; rfl
theorem dnq (P : Po u ki le ri ro) {p v b : Nat} (hp : p < u) (hv : v < 8) (hb : b < p) (hk : ki p = 5 ∨ ki p = 6) (e1 : le p = Int32.ofNat v) (e2 : ri p = Int32.ofNat b) : dn ki le ri ro p = dn ki le ri ro b ++ [rowq (ki p + 3) v] := by
  have hu := P.2.1
  have ea : (le p).toNatClampNeg = v := by rw [e1, i_cl _ (by omega)]
  have eb : (ri p).toNatClampNeg = b := by rw [e2, i_cl _ (by omega)]
  have g4 := den_fuel P.2.2.1 hu b (by omega) p hb
  conv => lhs; unfold dn den
  rw [ea, eb, g4]
  rcases hk with h | h
  · rw [if_neg (by rw [h]; decide), if_neg (by rw [h]; decide), if_neg (by rw [h]; decide), if_neg (by rw [h]; decide), if_neg (by rw [h]; decide), if_pos h, h]; rfl
  · rw [if_neg (by rw [h]; decide), if_neg (by rw [h]; decide), if_neg (by rw [h]; decide), if_neg (by rw [h]; decide), if_neg (by rw [h]; decide), if_neg (by rw [h]; decide), h]; rfl
theorem dn_fm (P : Po u ki le ri ro) : ∀ p, p < u → Fm (dn ki le ri ro p) := by
  intro p
  induction p using Nat.strongRecOn with
  | ind p ih =>
    intro hp
    rcases P.2.2.1 p hp with ⟨_, h, _⟩ | ⟨_, h, _⟩ | ⟨_, h, _, _, hA⟩ | ⟨a, b, _, ha, hb, hk, e1, e2, ho⟩ | ⟨v, b, _, hv, hb, hk, e1, e2, ho⟩
    · rw [dn0 h]; exact Fm.leaf (Or.inl rfl)
    · rw [dn1 h]; exact Fm.leaf (Or.inr (Or.inl rfl))
    · rw [dn2 h]; exact Fm.leaf (Or.inr (Or.inr hA))
    · rw [dnb P hp ha hb hk e1 e2]
      exact Fm.bi (ih a ha (by omega)) (ih b hb (by omega)) (by rcases hk with h | h <;> rw [h] <;> decide) ho
    · rw [dnq P hp hv hb hk e1 e2]
      exact Fm.qu (ih b hb (by omega)) (by rcases hk with h | h <;> rw [h] <;> decide) hv ho
theorem range9_inj {f g : Nat → Int32} (h : (List.range 9).map f = (List.range 9).map g) : ∀ i, i < 9 → f i = g i := by
  intro i hi
  have := congrArg (fun l => l.getD i 0) h
  simpa [List.getD_eq_getElem?_getD, hi] using this
theorem dn_inj (P : Po u ki le ri ro) : ∀ p, p < u → ∀ q, q < u → dn ki le ri ro p = dn ki le ri ro q → p = q := by
  intro p
  induction p using Nat.strongRecOn with
  | ind p ih =>
    intro hp q hq e
    have fp := dn_fm P p hp
    have fq := dn_fm P q hq
    have hu := P.2.1
    rcases P.2.2.1 p hp with ⟨h0, h, _⟩ | ⟨h0, h, _⟩ | ⟨_, h, hl, hr, hA⟩ | ⟨a, b, _, ha, hb, hk, e1, e2, ho⟩ | ⟨v, b, _, hv, hb, hk, e1, e2, ho⟩ <;> rcases P.2.2.1 q hq with ⟨g0, g, _⟩ | ⟨g0, g, _⟩ | ⟨_, g, gl, gr, gA⟩ | ⟨c, d, _, hc, hd, gk, f1, f2, go⟩ | ⟨w, d, _, hw, hd, gk, f1, f2, go⟩
    · omega
    · rw [dn0 h, dn1 g] at e; exact absurd e (by decide)
    · rw [dn0 h, dn2 g] at e
      have := congrArg lk e
      obtain ⟨_, hk, _⟩ := gA
      have e3 : kd (aRow le ro q) = 0 := this.symm
      rw [e3] at hk
      rcases hk with h | h | h | h <;> exact absurd h (by decide)
    · rw [dn0 h, dnb P hq hc hd gk f1 f2] at e
      have := congrArg List.length e
      have hcp := (dn_fm P c (by omega)).pos
      simp [fT] at this; omega
    · rw [dn0 h, dnq P hq hw hd gk f1 f2] at e
      have := congrArg List.length e
      have hcp := (dn_fm P d (by omega)).pos
      rw [List.length_append] at this; simp only [fT, fF, List.length_singleton, List.length_cons, List.length_nil] at this; omega
    · rw [dn1 h, dn0 g] at e; exact absurd e (by decide)
    · omega
    · rw [dn1 h, dn2 g] at e
      have := congrArg lk e
      obtain ⟨_, hk, _⟩ := gA
      have e3 : kd (aRow le ro q) = 1 := this.symm
      rw [e3] at hk
      rcases hk with h | h | h | h <;> exact absurd h (by decide)
    · rw [dn1 h, dnb P hq hc hd gk f1 f2] at e
      have := congrArg List.length e
      have hcp := (dn_fm P c (by omega)).pos
      simp [fF] at this; omega
    · rw [dn1 h, dnq P hq hw hd gk f1 f2] at e
      have := congrArg List.length e
      have hcp := (dn_fm P d (by omega)).pos
      rw [List.length_append] at this; simp only [fT, fF, List.length_singleton, List.length_cons, List.length_nil] at this; omega
    · rw [dn2 h, dn0 g] at e
      have := congrArg lk e
      obtain ⟨_, hk, _⟩ := hA
      have e3 : kd (aRow le ro p) = 0 := this
      rw [e3] at hk
      rcases hk with h | h | h | h <;> exact absurd h (by decide)
    · rw [dn2 h, dn1 g] at e
      have := congrArg lk e
      obtain ⟨_, hk, _⟩ := hA
      have e3 : kd (aRow le ro p) = 1 := this
      rw [e3] at hk
      rcases hk with h | h | h | h <;> exact absurd h (by decide)
    · rw [dn2 h, dn2 g] at e
      have e3 := (List.cons.inj e).1
      unfold aRow at e3
      obtain ⟨e4, e5⟩ := List.cons.inj e3
      refine P.2.2.2 p q hp hq (by rw [h, g]) ?_ (by rw [hr, gr]) (fun _ => range9_inj e5)
      have := congrArg (fun x => x - 2) e4
      simpa [Int32.add_comm 2, Int32.add_sub_cancel] using this
    · rw [dn2 h, dnb P hq hc hd gk f1 f2] at e
      have := congrArg List.length e
      have hcp := (dn_fm P c (by omega)).pos
      simp at this; omega
    · rw [dn2 h, dnq P hq hw hd gk f1 f2] at e
      have := congrArg List.length e
      have hcp := (dn_fm P d (by omega)).pos
      rw [List.length_append] at this; simp only [fT, fF, List.length_singleton, List.length_cons, List.length_nil] at this; omega
    · rw [dnb P hp ha hb hk e1 e2, dn0 g] at e
      have := congrArg List.length e
      have hcp := (dn_fm P a (by omega)).pos
      simp [fT] at this; omega
    · rw [dnb P hp ha hb hk e1 e2, dn1 g] at e
      have := congrArg List.length e
      have hcp := (dn_fm P a (by omega)).pos
      simp [fF] at this; omega
    · rw [dnb P hp ha hb hk e1 e2, dn2 g] at e
      have := congrArg List.length e
      have hcp := (dn_fm P a (by omega)).pos
      simp at this; omega
    · rw [dnb P hp ha hb hk e1 e2, dnb P hq hc hd gk f1 f2] at e
      obtain ⟨t1, t2⟩ := List.append_inj' e rfl
      obtain ⟨t3, t4⟩ := (dn_fm P b (by omega)).tail (dn_fm P d (by omega)) t1
      have ab := ih a ha (by omega) c (by omega) t4
      have bd' := ih b hb (by omega) d (by omega) t3
      have kk : ki p + 3 = ki q + 3 := (List.cons.inj (List.cons.inj t2).1).1
      have kk2 : ki p = ki q := by
        have := congrArg (fun x => x - 3) kk
        simpa [Int32.add_sub_cancel] using this
      exact P.2.2.2 p q hp hq kk2 (by rw [e1, f1, ab]) (by rw [e2, f2, bd']) (fun g2 => by
        rcases hk with h | h <;> rw [h] at g2 <;> exact absurd g2 (by decide))
    · rw [dnb P hp ha hb hk e1 e2, dnq P hq hw hd gk f1 f2] at e
      obtain ⟨t1, t2⟩ := List.append_inj' e rfl
      have kk : ki p + 3 = ki q + 3 := (List.cons.inj (List.cons.inj t2).1).1
      rcases hk with h | h <;> rcases gk with g | g <;> rw [h, g] at kk <;> exact absurd kk (by decide)
    · rw [dnq P hp hv hb hk e1 e2, dn0 g] at e
      have := congrArg List.length e
      have hcp := (dn_fm P b (by omega)).pos
      rw [List.length_append] at this; simp only [fT, fF, List.length_singleton, List.length_cons, List.length_nil] at this; omega
    · rw [dnq P hp hv hb hk e1 e2, dn1 g] at e
      have := congrArg List.length e
      have hcp := (dn_fm P b (by omega)).pos
      rw [List.length_append] at this; simp only [fT, fF, List.length_singleton, List.length_cons, List.length_nil] at this; omega
    · rw [dnq P hp hv hb hk e1 e2, dn2 g] at e
      have := congrArg List.length e
      have hcp := (dn_fm P b (by omega)).pos
      rw [List.length_append] at this; simp only [fT, fF, List.length_singleton, List.length_cons, List.length_nil] at this; omega
    · rw [dnq P hp hv hb hk e1 e2, dnb P hq hc hd gk f1 f2] at e
      obtain ⟨t1, t2⟩ := List.append_inj' e rfl
      have kk : ki p + 3 = ki q + 3 := (List.cons.inj (List.cons.inj t2).1).1
      rcases hk with h | h <;> rcases gk with g | g <;> rw [h, g] at kk <;> exact absurd kk (by decide)
    · rw [dnq P hp hv hb hk e1 e2, dnq P hq hw hd gk f1 f2] at e
      obtain ⟨t1, t2⟩ := List.append_inj' e rfl
      have bd' := ih b hb (by omega) d (by omega) t1
      have t3 := (List.cons.inj t2).1
      unfold rowq at t3
      obtain ⟨kk, t4⟩ := List.cons.inj t3
      have kk2 : ki p = ki q := by
        have := congrArg (fun x => x - 3) kk
        simpa [Int32.add_sub_cancel] using this
      have vv := (List.cons.inj t4).1
      exact P.2.2.2 p q hp hq kk2 (by rw [e1, f1, vv]) (by rw [e2, f2, bd']) (fun g2 => by
        rcases hk with h | h <;> rw [h] at g2 <;> exact absurd g2 (by decide))
end POOL
def hk (c : Nat → Int32) : Nat → Int32 → Int32
  | 0, y => y
  | i + 1, y => hk c i y * 1000003 + c i
def hfin (y : Int32) : Int32 := (y ^^^ ((y.toUInt32 >>> ((15 : Int32).toUInt32 &&& Int32.toUInt32 31)).toInt32)) &&& 65535
def hs (k l r : Int32) (c : Nat → Int32) : Int32 := hfin (if k = 2 then hk c 9 (((k * 31) + l) * 1000003 + r) else ((k * 31) + l) * 1000003 + r)
theorem and_lt (x : Int32) : ∃ n : Nat, n < 65536 ∧ x &&& 65535 = Int32.ofNat n := by
  have h : (x &&& 65535).toBitVec.toNat ≤ 65535 := by
    rw [Int32.toBitVec_and, BitVec.toNat_and]
    exact Nat.and_le_right
  refine ⟨(x &&& 65535).toBitVec.toNat, by omega, ?_⟩
  apply Int32.toBitVec_inj.mp
  apply BitVec.eq_of_toNat_eq
  show _ = (BitVec.ofNat 32 _).toNat
  rw [BitVec.toNat_ofNat, Nat.mod_eq_of_lt (by omega)]
theorem and_mod (n : Nat) (h : n ≤ 65536) : Int32.ofNat n &&& 65535 = Int32.ofNat (n % 65536) := by
  apply Int32.toBitVec_inj.mp
  apply BitVec.eq_of_toNat_eq
  rw [Int32.toBitVec_and, BitVec.toNat_and]
  show (BitVec.ofNat 32 n).toNat &&& 65535 = (BitVec.ofNat 32 (n % 65536)).toNat
  rw [BitVec.toNat_ofNat, BitVec.toNat_ofNat, Nat.mod_eq_of_lt (show n < 2 ^ 32 by omega), Nat.mod_eq_of_lt (show n % 65536 < 2 ^ 32 by omega)]
  exact Nat.and_two_pow_sub_one_eq_mod n 16
theorem hash_loop (N : Nat) (ro : Nat → Int32) (rw_ : Nat → Int64) (fr : Int32) (c : Nat → Int32) (hc : (∃ p : Nat, p < 24000 ∧ fr = Int32.ofNat p ∧ ∀ i, i < 9 → ro (9 * p + i) = c i) ∨ (fr = -1 ∧ ∀ i, i < 9 → (rw_ i).toInt32 = c i)) (y0 : Int32) : ∀ (d m k : Nat), k + d = 9 → f_X7_hashOf_20 N (m + d + 1) ro rw_ 1 fr (hk c k y0) (Int32.ofNat k) = some (hfin (hk c 9 y0))
  | 0, m, k, h => by
    have : k = 9 := by omega
    subst this
    rw [f_X7_hashOf_20]; dsimp only
    rw [ifb_t (by decide)]; rfl
  | d + 1, m, k, h => by
    rw [show m + (d + 1) + 1 = (m + d + 1) + 1 from by omega, f_X7_hashOf_20]; dsimp only
    rw [ifb_f (by rw [show (9 : Int32) = Int32.ofNat 9 from rfl, i_le _ _ (by omega) (by omega)]; omega), ifb_f (by decide)]
    unfold f_X7_hashOf_66
    have ih := hash_loop N ro rw_ fr c hc y0 d m (k + 1) (by omega)
    rcases hc with ⟨p, hp, hf, hr⟩ | ⟨hf, hr⟩
    · rw [hf, ifb_t (i_ge0 _ (by omega)), show (9 : Int32) * Int32.ofNat p = Int32.ofNat (9 * p) from i_mul 9 p, i_add, ix_n _ _ _ (by omega) (by omega), i_cl _ (by omega), hr k (by omega), i_p1, ← hf]
      exact ih
    · rw [hf, ifb_f (by decide), ix_n _ _ _ (by omega) (by omega), i_cl _ (by omega), hr k (by omega), i_p1, ← hf]
      exact ih
theorem o_hash (N : Nat) (hN : 20 ≤ N) (ro : Nat → Int32) (rw_ : Nat → Int64) (fr k l r : Int32) (c : Nat → Int32) (hc : k = 2 → ((∃ p : Nat, p < 24000 ∧ fr = Int32.ofNat p ∧ ∀ i, i < 9 → ro (9 * p + i) = c i) ∨ (fr = -1 ∧ ∀ i, i < 9 → (rw_ i).toInt32 = c i))) : f_X7_hashOf N ro rw_ k l r (if k = 2 then 1 else 0) fr = some (hs k l r c) := by
  unfold f_X7_hashOf hs
  by_cases h2 : k = 2
  · rw [if_pos h2, if_pos h2]
    have := hash_loop N ro rw_ fr c (hc h2) ((((k * 31) + l) * 1000003) + r) 9 (N - 10) 0 (by omega)
    rw [show N - 10 + 9 + 1 = N from by omega] at this
    exact this
  · rw [if_neg h2, if_neg h2]
    obtain ⟨M, rfl⟩ : ∃ M, N = M + 1 := ⟨N - 1, by omega⟩
    rw [f_X7_hashOf_20]; dsimp only
    rw [ifb_f (by decide), ifb_t rfl]; rfl
theorem hs_lt (k l r : Int32) (c : Nat → Int32) : ∃ n : Nat, n < 65536 ∧ hs k l r c = Int32.ofNat n := and_lt _
def cn (t : Nat → Int32) : Nat → Nat
  | 0 => 0
  | n + 1 => cn t n + (if t n ≤ 0 then 0 else 1)
theorem cn_full (t : Nat → Int32) : ∀ n, (∀ i, i < n → ¬ (t i ≤ 0)) → cn t n = n
  | 0, _ => rfl
  | n + 1, h => by
    unfold cn
    rw [cn_full t n (fun i hi => h i (by omega)), if_neg (h n (by omega))]
theorem cn_out (t : Nat → Int32) (k : Nat) (x : Int32) : ∀ n, n ≤ k → cn (upd t k x) n = cn t n
  | 0, _ => rfl
  | n + 1, h => by
    unfold cn
    rw [cn_out t k x n (by omega), upd_ne _ _ _ _ (by omega)]
theorem cn_upd (t : Nat → Int32) (k : Nat) (x : Int32) (h0 : t k ≤ 0) (hx : ¬ (x ≤ 0)) : ∀ n, k < n → cn (upd t k x) n = cn t n + 1
  | 0, h => by omega
  | n + 1, h => by
    unfold cn
    by_cases hk : k = n
    · subst hk
      rw [cn_out t k x k (Nat.le_refl _), upd_at, if_neg hx, if_pos h0]
    · rw [cn_upd t k x h0 hx n (by omega), upd_ne _ _ _ _ (by omega)]; omega
theorem cn_room (t : Nat → Int32) (n : Nat) (h : cn t n < n) : ∃ i, i < n ∧ t i ≤ 0 := by
  rcases Classical.em (∃ i, i < n ∧ t i ≤ 0) with g | g
  · exact g
  · exfalso
    have := cn_full t n (fun i hi hle => g ⟨i, hi, hle⟩)
    omega
def wn (ki le ri ro : Nat → Int32) (p : Nat) : Nat := (hs (ki p) (le p) (ri p) (fun i => ro (9 * p + i))).toNatClampNeg
def Tb (u : Nat) (ki le ri ro ta : Nat → Int32) : Prop :=
  (∀ h, h < 65536 → ta h = 0 ∨ ∃ p, p < u ∧ ta h = Int32.ofNat (p + 1)) ∧ cn ta 65536 = u ∧
  ∀ p, p < u → ∃ d, d < 65536 ∧ ta ((wn ki le ri ro p + d) % 65536) = Int32.ofNat (p + 1) ∧ ∀ e, e < d → ¬ (ta ((wn ki le ri ro p + e) % 65536) ≤ 0)
theorem wn_lt (ki le ri ro : Nat → Int32) (p : Nat) : wn ki le ri ro p < 65536 := by
  obtain ⟨n, hn, e⟩ := hs_lt (ki p) (le p) (ri p) (fun i => ro (9 * p + i))
  unfold wn; rw [e, i_cl _ (by omega)]; exact hn
theorem i_pos (p : Nat) (h : p < 24001) : ¬ (Int32.ofNat (p + 1) ≤ 0) := by
  rw [show (0 : Int32) = Int32.ofNat 0 from rfl, i_le _ _ (by omega) (by omega)]; omega
theorem Tb.room {u : Nat} {ki le ri ro ta : Nat → Int32} (T : Tb u ki le ri ro ta) (hu : u ≤ 24000) (h : Nat) (hh : h < 65536) : ∃ d, d < 65536 ∧ ta ((h + d) % 65536) ≤ 0 ∧ ∀ e, e < d → ¬ (ta ((h + e) % 65536) ≤ 0) := by
  obtain ⟨i, hi, hle⟩ := cn_room ta 65536 (by rw [T.2.1]; omega)
  have ex : ∃ d, d < 65536 ∧ ta ((h + d) % 65536) ≤ 0 := by
    by_cases hc : h ≤ i
    · exact ⟨i - h, by omega, by rw [show (h + (i - h)) % 65536 = i from by omega]; exact hle⟩
    · exact ⟨i + 65536 - h, by omega, by rw [show (h + (i + 65536 - h)) % 65536 = i from by omega]; exact hle⟩
  obtain ⟨d, hd, hdl⟩ := ex

  induction d using Nat.strongRecOn with
  | ind d ih =>
    rcases Classical.em (∃ e, e < d ∧ ta ((h + e) % 65536) ≤ 0) with ⟨e, he, hel⟩ | g
    · exact ih e he (by omega) hel
    · exact ⟨d, hd, hdl, fun e he hel => g ⟨e, he, hel⟩⟩
section PLACE
variable {u : Nat} {ki le ri ma bi ro ta : Nat → Int32} {rw_ : Nat → Int64}
def Sm2 (ki le ri ro : Nat → Int32) (k l r : Int32) (c : Nat → Int32) (p : Nat) : Prop := ki p = k ∧ le p = l ∧ ri p = r ∧ (k = 2 → ∀ i, i < 9 → ro (9 * p + i) = c i)
def Rw (rw_ : Nat → Int64) (c : Nat → Int32) : Prop := ∀ i, i < 9 → (rw_ i).toInt = (c i).toInt
theorem same_loop (K : Int32 → (Nat → Int32) → (Nat → Int32) → (Nat → Int32) → (Nat → Int32) → (Nat → Int32) → (Nat → Int32) → (Nat → Int32) → (Nat → Int64) → Int32 → Int32 → Int32 → Int32 → Int32 → Option (Int32 × (Int32) × (Nat → Int32) × (Nat → Int32) × (Nat → Int32) × (Nat → Int32) × (Nat → Int32) × (Nat → Int32) × (Nat → Int32))) (N : Nat) (U k l r h : Int32) (p : Nat) (hp : p < 24000) {c : Nat → Int32} (R : Rw rw_ c) : ∀ (d m i : Nat), i + d = 9 → ((∀ j, i ≤ j → j < 9 → ro (9 * p + j) = c j) ∧ f_X7_place_88 K N (m + d + 2) U ki le ri ma bi ro ta rw_ k l r 1 h (Int32.ofNat p) 1 (Int32.ofNat i) = f_X7_place_143 K N U ki le ri ma bi ro ta rw_ k l r 1 h (Int32.ofNat p) 1) ∨ ((¬ ∀ j, i ≤ j → j < 9 → ro (9 * p + j) = c j) ∧ f_X7_place_88 K N (m + d + 2) U ki le ri ma bi ro ta rw_ k l r 1 h (Int32.ofNat p) 1 (Int32.ofNat i) = f_X7_place_143 K N U ki le ri ma bi ro ta rw_ k l r 1 h (Int32.ofNat p) 0)
  | 0, m, i, hd => by
    have : i = 9 := by omega
    subst this
    left
    refine ⟨fun j h1 h2 => by omega, ?_⟩
    rw [show m + 0 + 2 = (m + 1) + 1 from by omega, f_X7_place_88]; dsimp only
    rw [ifb_t (by decide)]
  | d + 1, m, i, hd => by
    rw [show m + (d + 1) + 2 = (m + d + 2) + 1 from by omega, f_X7_place_88]; dsimp only
    rw [ifb_f (by rw [show (9 : Int32) = Int32.ofNat 9 from rfl, i_le _ _ (by omega) (by omega)]; omega), ifb_f (by decide), ifb_f (by decide), show (9 : Int32) * Int32.ofNat p = Int32.ofNat (9 * p) from i_mul 9 p, i_add, ix_n _ _ _ (by omega) (by omega), ix_n _ _ _ (by omega) (by omega), i_cl _ (by omega), i_cl _ (by omega)]
    unfold f_X7_place_135
    rw [i_p1]
    have hiff : lg_cmp (ro (9 * p + i)).toInt64 (rw_ i) = 0 ↔ ro (9 * p + i) = c i := by
      rw [lg_eq0, Int32.toInt_toInt64, R i (by omega), Int32.toInt_inj]
    by_cases hc : ro (9 * p + i) = c i
    · rw [ifb_t (hiff.mpr hc)]
      rcases same_loop K N U k l r h p hp R d m (i + 1) (by omega) with ⟨g, e⟩ | ⟨g, e⟩
      · refine Or.inl ⟨fun j h1 h2 => ?_, e⟩
        by_cases hj : j = i
        · rw [hj]; exact hc
        · exact g j (by omega) h2
      · exact Or.inr ⟨fun q => g (fun j h1 h2 => q j (by omega) h2), e⟩
    · rw [ifb_f (fun g => hc (hiff.mp g))]
      refine Or.inr ⟨fun q => hc (q i (Nat.le_refl _) (by omega)), ?_⟩
      rw [show m + d + 2 = (m + d + 1) + 1 from by omega, f_X7_place_88]; dsimp only
      by_cases h9 : (9 : Int32) ≤ Int32.ofNat (i + 1)
      · rw [ifb_t h9]
      · rw [ifb_f h9, ifb_f (by decide), ifb_t (by decide)]
theorem pl_step (N : Nat) (hN : 20 ≤ N) (n : Nat) (U k l r : Int32) {c : Nat → Int32} (R : k = 2 → Rw rw_ c) (h p : Nat) (hh : h < 65536) (hp : p < 24000) (ht : ta h = Int32.ofNat (p + 1)) : (Sm2 ki le ri ro k l r c p ∧ f_X7_place_24 N (n + 1) U ki le ri ma bi ro ta rw_ k l r (if k = 2 then 1 else 0) (Int32.ofNat h) = some (Int32.ofNat p, U, ki, le, ri, ma, bi, ro, ta)) ∨ (¬ Sm2 ki le ri ro k l r c p ∧ f_X7_place_24 N (n + 1) U ki le ri ma bi ro ta rw_ k l r (if k = 2 then 1 else 0) (Int32.ofNat h) = f_X7_place_24 N n U ki le ri ma bi ro ta rw_ k l r (if k = 2 then 1 else 0) (Int32.ofNat ((h + 1) % 65536))) := by
  have e1 : ta h - 1 = Int32.ofNat p := by rw [ht, i_m1 _ (by omega)]; rfl
  have hnx : (Int32.ofNat h + 1) &&& 65535 = Int32.ofNat ((h + 1) % 65536) := by rw [i_p1, and_mod _ (by omega)]
  rw [f_X7_place_24]; dsimp only
  rw [ix_n _ _ _ (by omega) (by omega), i_cl _ (by omega), ifb_f (by rw [ht]; exact i_pos p (by omega)), ix_n _ _ _ (by omega) (by omega), e1, ix_n _ _ _ (by omega) (by omega), i_cl _ (by omega)]
  unfold f_X7_place_82 f_X7_place_83
  obtain ⟨M, hM⟩ : ∃ M, N = M + 1 := ⟨N - 1, by omega⟩

  have no : f_X7_place_88 (f_X7_place_24 N n) N N U ki le ri ma bi ro ta rw_ k l r (if k = 2 then 1 else 0) (Int32.ofNat h) (Int32.ofNat p) 0 0 = f_X7_place_24 N n U ki le ri ma bi ro ta rw_ k l r (if k = 2 then 1 else 0) (Int32.ofNat ((h + 1) % 65536)) := by
    have e : f_X7_place_88 (f_X7_place_24 N n) N N U ki le ri ma bi ro ta rw_ k l r (if k = 2 then 1 else 0) (Int32.ofNat h) (Int32.ofNat p) 0 0 = f_X7_place_88 (f_X7_place_24 N n) N (M + 1) U ki le ri ma bi ro ta rw_ k l r (if k = 2 then 1 else 0) (Int32.ofNat h) (Int32.ofNat p) 0 0 := by rw [← hM]
    rw [e, f_X7_place_88]; dsimp only
    have e143 : f_X7_place_143 (f_X7_place_24 N n) N U ki le ri ma bi ro ta rw_ k l r (if k = 2 then 1 else 0) (Int32.ofNat h) (Int32.ofNat p) 0 = f_X7_place_24 N n U ki le ri ma bi ro ta rw_ k l r (if k = 2 then 1 else 0) (Int32.ofNat ((h + 1) % 65536)) := by
      unfold f_X7_place_143
      rw [ifb_t rfl, hnx]
    rw [ifb_f (by decide)]
    by_cases h2 : k = 2
    · rw [ifb_f (by rw [if_pos h2]; decide), ifb_t rfl, e143]
    · rw [ifb_t (by rw [if_neg h2]), e143]
  by_cases c1 : ki p = k
  · rw [ifb_t c1, ix_n _ _ _ (by omega) (by omega)]
    by_cases c2 : le p = l
    · rw [ifb_t c2, ix_n _ _ _ (by omega) (by omega)]
      by_cases c3 : ri p = r
      · rw [ifb_t c3]
        by_cases h2 : k = 2
        · have := same_loop (ki := ki) (le := le) (ri := ri) (ma := ma) (bi := bi) (ro := ro) (ta := ta) (f_X7_place_24 N n) N U k l r (Int32.ofNat h) p hp (R h2) 9 (N - 11) 0 (by omega)
          rw [show N - 11 + 9 + 2 = N from by omega] at this
          rw [if_pos h2]
          rcases this with ⟨g, e⟩ | ⟨g, e⟩
          · left
            refine ⟨⟨c1, c2, c3, fun _ i hi => g i (by omega) hi⟩, ?_⟩
            rw [show (0 : Int32) = Int32.ofNat 0 from rfl, e]
            unfold f_X7_place_143
            rw [ifb_f (by decide)]
          · right
            refine ⟨fun s => g (fun j _ hj => s.2.2.2 h2 j hj), ?_⟩
            rw [show (0 : Int32) = Int32.ofNat 0 from rfl, e]
            unfold f_X7_place_143
            rw [ifb_t rfl, hnx]
        · left
          refine ⟨⟨c1, c2, c3, fun g => absurd g h2⟩, ?_⟩
          rw [if_neg h2]
          have e : f_X7_place_88 (f_X7_place_24 N n) N N U ki le ri ma bi ro ta rw_ k l r 0 (Int32.ofNat h) (Int32.ofNat p) 1 0 = f_X7_place_88 (f_X7_place_24 N n) N (M + 1) U ki le ri ma bi ro ta rw_ k l r 0 (Int32.ofNat h) (Int32.ofNat p) 1 0 := by rw [← hM]
          rw [e, f_X7_place_88]; dsimp only
          rw [ifb_f (by decide), ifb_t rfl]
          unfold f_X7_place_143
          rw [ifb_f (by decide)]
      · rw [ifb_f c3]
        exact Or.inr ⟨fun s => c3 s.2.2.1, no⟩
    · rw [ifb_f c2]
      exact Or.inr ⟨fun s => c2 s.2.1, no⟩
  · rw [ifb_f c1]
    exact Or.inr ⟨fun s => c1 s.1, no⟩
end PLACE
def rowc (k : Int32) (c : Nat → Int32) : List Int32 := k :: (List.range 9).map c
theorem rowc_get (k : Int32) (c : Nat → Int32) (i : Nat) (h : i < 9) : (rowc k c).getD (1 + i) 0 = c i := range9 c k i h
theorem rbk_ext {r r' : List Int32} (h : ∀ i, i < 8 → r.getD (1 + i) 0 = r'.getD (1 + i) 0) : ∀ k, k ≤ 8 → ∀ b, rbk r k b = rbk r' k b
  | 0, _, b => rfl
  | k + 1, hk, b => by rw [rbk_step, rbk_step, rbk_ext h k (by omega) b, h k (by omega)]
theorem rb_ext {r r' : List Int32} (h : ∀ i, i < 8 → r.getD (1 + i) 0 = r'.getD (1 + i) 0) : rb r = rb r' := rbk_ext h 8 (Nat.le_refl _) 0
section PLACE2
variable {ki le ri ma ta : Nat → Int32} {rw_ : Nat → Int64}
def wrR (ro c : Nat → Int32) (u n : Nat) : Nat → Int32 := fun q => if 9 * u ≤ q ∧ q < 9 * u + n then c (q - 9 * u) else ro q
theorem wr0 (ro c : Nat → Int32) (u : Nat) : wrR ro c u 0 = ro := by funext q; unfold wrR; rw [if_neg (by omega)]
theorem wr_step (ro c : Nat → Int32) (u n : Nat) : upd (wrR ro c u n) (9 * u + n) (c n) = wrR ro c u (n + 1) := by
  funext q
  by_cases h : q = 9 * u + n
  · subst h; rw [upd_at]; unfold wrR; rw [if_pos (by omega)]; congr 1; omega
  · rw [upd_ne _ _ _ _ h]; unfold wrR
    by_cases h2 : 9 * u ≤ q ∧ q < 9 * u + n
    · rw [if_pos h2, if_pos (by omega)]
    · rw [if_neg h2, if_neg (by omega)]
theorem upd_upd (f : Nat → Int32) (k : Nat) (x y : Int32) : upd (upd f k x) k y = upd f k y := by
  funext j
  by_cases h : j = k
  · subst h; rw [upd_at, upd_at]
  · rw [upd_ne _ _ _ _ h, upd_ne _ _ _ _ h, upd_ne _ _ _ _ h]
theorem new_loop (N : Nat) (U : Int32) (u : Nat) (hu : u < 24000) {c : Nat → Int32} (R : Rw rw_ c) (bi ro : Nat → Int32) : ∀ (d m i : Nat), i + d = 9 → f_X7_place_321 N (m + d + 1) U ki le ri ma (upd bi u (rbk (rowc 2 c) (min i 8) 0)) (wrR ro c u i) ta rw_ 1 (Int32.ofNat u) (Int32.ofNat i) = some (Int32.ofNat u, U, ki, le, ri, ma, upd bi u (rb (rowc 2 c)), wrR ro c u 9, ta)
  | 0, m, i, h => by
    have : i = 9 := by omega
    subst this
    rw [f_X7_place_321]; dsimp only
    rw [ifb_t (by decide)]; rfl
  | d + 1, m, i, h => by
    rw [show m + (d + 1) + 1 = (m + d + 1) + 1 from by omega, f_X7_place_321]; dsimp only
    have ec : (rw_ i).toInt32 = c i := L_i32 _ _ (R i (by omega))
    rw [ifb_f (by rw [show (9 : Int32) = Int32.ofNat 9 from rfl, i_le _ _ (by omega) (by omega)]; omega), ifb_f (by decide), ix_n _ _ _ (by omega) (by omega), show (9 : Int32) * Int32.ofNat u = Int32.ofNat (9 * u) from i_mul 9 u, i_add, ix_n _ _ _ (by omega) (by omega), ix_n _ _ _ (by omega) (by omega), i_cl _ (by omega), i_cl _ (by omega), i_cl _ (by omega), ec, wr_step, upd_at]
    unfold f_X7_place_388 f_X7_place_389
    rw [ix_n _ _ _ (by omega) (by omega), i_cl _ (by omega), i_p1]
    have ih := new_loop N U u hu R bi ro d m (i + 1) (by omega)
    by_cases h8 : 8 ≤ i
    · rw [ifb_t (by rw [show (8 : Int32) = Int32.ofNat 8 from rfl, i_le _ _ (by omega) (by omega)]; exact h8), upd_upd, Int32.or_zero]
      rw [show min (i + 1) 8 = 8 from by omega] at ih
      rw [show min i 8 = 8 from by omega]
      exact ih
    · rw [ifb_f (by rw [show (8 : Int32) = Int32.ofNat 8 from rfl, i_le _ _ (by omega) (by omega)]; exact h8), ix_n _ _ _ (by omega) (by omega)]
      rw [show min (i + 1) 8 = i + 1 from by omega, rbk_step, rowc_get _ _ _ (by omega)] at ih
      rw [show min i 8 = i from by omega]
      have hz : lg_cmp (rw_ i) 0 = 0 ↔ c i = 0 := by
        rw [lg_eq0, R i (by omega), show (0 : Int64).toInt = (0 : Int32).toInt from rfl, Int32.toInt_inj]
      by_cases hc : c i = 0
      · rw [ifb_t (hz.mpr hc), upd_upd, Int32.or_zero]
        rw [if_neg (fun g => g hc)] at ih
        exact ih
      · rw [ifb_f (fun g => hc (hz.mp g)), ix_n _ _ _ (by omega) (by omega), upd_upd]
        rw [if_pos hc] at ih
        exact ih
def nMa (ma : Nat → Int32) (k l r : Int32) : Int32 := if k = 3 ∨ k = 4 then ma l.toNatClampNeg + ma r.toNatClampNeg else if k < 5 then 0 else ma r.toNatClampNeg
def nBi (bi : Nat → Int32) (k l r : Int32) (c : Nat → Int32) : Int32 := if k = 3 ∨ k = 4 then bi l.toNatClampNeg ||| bi r.toNatClampNeg else if k = 2 then rb (rowc 2 c) else if k < 5 then 0 else bi r.toNatClampNeg &&& ((1 <<< (l &&& 31)) ^^^ (-1))
theorem pl_new (N : Nat) (hN : 20 ≤ N) (n u : Nat) (hu : u < 24000) (k l r : Int32) {c : Nat → Int32} (R : k = 2 → Rw rw_ c) (h : Nat) (hh : h < 65536) (ht : ta h ≤ 0) {bi ro : Nat → Int32} (hlr : (k = 3 ∨ k = 4) → (∃ a, a < 24000 ∧ l = Int32.ofNat a) ∧ ∃ b, b < 24000 ∧ r = Int32.ofNat b) (hq : ¬ (k < 5) → ∃ b, b < u ∧ r = Int32.ofNat b) (hlr2 : (k = 3 ∨ k = 4) → l.toNatClampNeg ≠ u ∧ r.toNatClampNeg ≠ u) : f_X7_place_24 N (n + 1) (Int32.ofNat u) ki le ri ma bi ro ta rw_ k l r (if k = 2 then 1 else 0) (Int32.ofNat h) = some (Int32.ofNat u, Int32.ofNat (u + 1), upd ki u k, upd le u l, upd ri u r, upd ma u (1 + nMa ma k l r), upd bi u (nBi bi k l r c), (if k = 2 then wrR ro c u 9 else ro), upd ta h (Int32.ofNat (u + 1))) := by
  rw [f_X7_place_24]; dsimp only
  rw [ix_n _ _ _ (by omega) (by omega), i_cl _ (by omega), ifb_t ht, ix_n _ _ _ (by omega) (by omega), ix_n _ _ _ (by omega) (by omega), ix_n _ _ _ (by omega) (by omega), ix_n _ _ _ (by omega) (by omega), i_cl _ (by omega), i_p1]
  unfold f_X7_place_231 f_X7_place_262 f_X7_place_280 f_X7_place_317 nMa nBi
  have notatom : ∀ (ki le ri ma bi ta : Nat → Int32), f_X7_place_321 N N (Int32.ofNat (u + 1)) ki le ri ma bi ro ta rw_ 0 (Int32.ofNat u) 0 = some (Int32.ofNat u, Int32.ofNat (u + 1), ki, le, ri, ma, bi, ro, ta) := by
    intro ki le ri ma bi ta
    obtain ⟨M, hM⟩ : ∃ M, N = M + 1 := ⟨N - 1, by omega⟩
    have e : f_X7_place_321 N N (Int32.ofNat (u + 1)) ki le ri ma bi ro ta rw_ 0 (Int32.ofNat u) 0 = f_X7_place_321 N (M + 1) (Int32.ofNat (u + 1)) ki le ri ma bi ro ta rw_ 0 (Int32.ofNat u) 0 := by rw [← hM]
    rw [e, f_X7_place_321]; dsimp only
    rw [ifb_f (by decide), ifb_t rfl]; rfl
  by_cases h34 : k = 3 ∨ k = 4
  · obtain ⟨⟨a, ha, rfl⟩, b, hb, rfl⟩ := hlr h34
    have hne := hlr2 h34
    rw [i_cl _ (by omega), i_cl _ (by omega)] at hne
    have h2 : ¬ (k = 2) := by rcases h34 with h | h <;> rw [h] <;> decide
    rw [if_pos h34, if_pos h34, if_neg h2, if_neg h2]
    rcases h34 with h3 | h4
    · rw [ifb_t h3, ix_n _ _ _ ha (by omega), ix_n _ _ _ hb (by omega), ix_n _ _ _ (by omega) (by omega), ifb_t h3, ix_n _ _ _ ha (by omega), ix_n _ _ _ hb (by omega), ix_n _ _ _ (by omega) (by omega), i_cl _ (by omega), i_cl _ (by omega), i_cl _ (by omega)]
      exact notatom _ _ _ _ _ _
    · have h3 : ¬ (k = 3) := by rw [h4]; decide
      rw [ifb_f h3, ifb_t h4, ix_n _ _ _ ha (by omega), ix_n _ _ _ hb (by omega), ix_n _ _ _ (by omega) (by omega), ifb_f h3, ifb_t h4, ix_n _ _ _ ha (by omega), ix_n _ _ _ hb (by omega), ix_n _ _ _ (by omega) (by omega), i_cl _ (by omega), i_cl _ (by omega), i_cl _ (by omega)]
      exact notatom _ _ _ _ _ _
  · have h3 : ¬ (k = 3) := fun g => h34 (Or.inl g)
    have h4 : ¬ (k = 4) := fun g => h34 (Or.inr g)
    rw [if_neg h34, if_neg h34, ifb_f h3, ifb_f h4]
    by_cases h5 : k < 5
    · rw [ifb_t h5, ix_n _ _ _ (by omega) (by omega), ifb_f h3, ifb_f h4, ifb_t h5, ix_n _ _ _ (by omega) (by omega), i_cl _ (by omega), if_pos h5]
      by_cases h2 : k = 2
      · rw [if_pos h2, if_pos h2, if_pos h2]
        have := new_loop (ki := upd ki u k) (le := upd le u l) (ri := upd ri u r) (ma := upd ma u (1 + 0)) (ta := upd ta h (Int32.ofNat (u + 1))) N (Int32.ofNat (u + 1)) u hu (R h2) bi ro 9 (N - 10) 0 (by omega)
        rw [show N - 10 + 9 + 1 = N from by omega, wr0] at this
        exact this
      · rw [if_neg h2, if_neg h2, if_neg h2, if_pos h5]
        exact notatom _ _ _ _ _ _
    · obtain ⟨b, hb, rfl⟩ := hq h5
      have h2 : ¬ (k = 2) := fun g => h5 (by rw [g]; decide)
      rw [ifb_f h5, ix_n _ _ _ (by omega) (by omega), ix_n _ _ _ (by omega) (by omega), ifb_f h3, ifb_f h4, ifb_f h5, ix_n _ _ _ (by omega) (by omega), ix_n _ _ _ (by omega) (by omega), i_cl _ (by omega), i_cl _ (by omega), if_neg h5, if_neg h2, if_neg h2, if_neg h2, if_neg h5]
      exact notatom _ _ _ _ _ _
end PLACE2
def Ag (u : Nat) (ki le ri ro ki' le' ri' ro' : Nat → Int32) : Prop := ∀ p, p < u → ki' p = ki p ∧ le' p = le p ∧ ri' p = ri p ∧ ∀ i, i < 9 → ro' (9 * p + i) = ro (9 * p + i)
def Mb (u : Nat) (ki le ri ro ma bi : Nat → Int32) : Prop := ∀ p, p < u → ma p = Int32.ofNat (dn ki le ri ro p).length ∧ bi p = fv (dn ki le ri ro p) ∧ (dn ki le ri ro p).length ≤ 1000
section EXT
variable {u : Nat} {ki le ri ro ki' le' ri' ro' : Nat → Int32}
theorem aRow_ag {p : Nat} (h : le' p = le p) (hr : ∀ i, i < 9 → ro' (9 * p + i) = ro (9 * p + i)) : aRow le' ro' p = aRow le ro p := by
  unfold aRow
  rw [h]
  congr 1
  apply List.map_congr_left
  intro i hi
  exact hr i (List.mem_range.mp hi)
theorem den_ag (H : ∀ p, p < u → Nd ki le ri ro p) (hu : u ≤ 24000) (A : Ag u ki le ri ro ki' le' ri' ro') : ∀ f p, p < u → den ki' le' ri' ro' f p = den ki le ri ro f p := by
  intro f
  induction f with
  | zero => intro p _; rfl
  | succ f ih =>
    intro p hp
    obtain ⟨a1, a2, a3, a4⟩ := A p hp
    conv => lhs; unfold den
    conv => rhs; unfold den
    rw [a1, a2, a3, aRow_ag a2 a4]
    rcases H p hp with ⟨_, h, _⟩ | ⟨_, h, _⟩ | ⟨_, h, _⟩ | ⟨a, b, _, ha, hb, hk, e1, e2, _⟩ | ⟨v, b, _, hv, hb, hk, e1, e2, _⟩
    · rw [if_pos h, if_pos h]
    · have h0 : ¬ (ki p = 0) := by rw [h]; decide
      rw [if_neg h0, if_neg h0, if_pos h, if_pos h]
    · have h0 : ¬ (ki p = 0) := by rw [h]; decide
      have h1 : ¬ (ki p = 1) := by rw [h]; decide
      rw [if_neg h0, if_neg h0, if_neg h1, if_neg h1, if_pos h, if_pos h]
    · have ea : (le p).toNatClampNeg = a := by rw [e1, i_cl _ (by omega)]
      have eb : (ri p).toNatClampNeg = b := by rw [e2, i_cl _ (by omega)]
      rw [ea, eb, ih a (by omega), ih b (by omega)]
    · have eb : (ri p).toNatClampNeg = b := by rw [e2, i_cl _ (by omega)]
      have k0 : ¬ (ki p = 0) := by rcases hk with h | h <;> rw [h] <;> decide
      have k1 : ¬ (ki p = 1) := by rcases hk with h | h <;> rw [h] <;> decide
      have k2 : ¬ (ki p = 2) := by rcases hk with h | h <;> rw [h] <;> decide
      have k3 : ¬ (ki p = 3) := by rcases hk with h | h <;> rw [h] <;> decide
      have k4 : ¬ (ki p = 4) := by rcases hk with h | h <;> rw [h] <;> decide
      rw [if_neg k0, if_neg k1, if_neg k2, if_neg k3, if_neg k4, if_neg k0, if_neg k1, if_neg k2, if_neg k3, if_neg k4, eb, ih b (by omega)]
theorem dn_ag (H : ∀ p, p < u → Nd ki le ri ro p) (hu : u ≤ 24000) (A : Ag u ki le ri ro ki' le' ri' ro') {p : Nat} (hp : p < u) : dn ki' le' ri' ro' p = dn ki le ri ro p := den_ag H hu A (p + 1) p hp
theorem nd_ag (H : ∀ p, p < u → Nd ki le ri ro p) (hu : u ≤ 24000) (A : Ag u ki le ri ro ki' le' ri' ro') {p : Nat} (hp : p < u) : Nd ki' le' ri' ro' p := by
  obtain ⟨a1, a2, a3, a4⟩ := A p hp
  unfold Nd
  rw [a1, a2, a3, aRow_ag a2 a4]
  rcases H p hp with h | h | h | ⟨a, b, h2, ha, hb, hk, e1, e2, ho⟩ | ⟨v, b, h2, hv, hb, hk, e1, e2, ho⟩
  · exact Or.inl h
  · exact Or.inr (Or.inl h)
  · exact Or.inr (Or.inr (Or.inl h))
  · exact Or.inr (Or.inr (Or.inr (Or.inl ⟨a, b, h2, ha, hb, hk, e1, e2, by rw [dn_ag H hu A (by omega), dn_ag H hu A (by omega)]; exact ho⟩)))
  · exact Or.inr (Or.inr (Or.inr (Or.inr ⟨v, b, h2, hv, hb, hk, e1, e2, by rw [dn_ag H hu A (by omega)]; exact ho⟩)))
theorem hk_ext {c c' : Nat → Int32} (h : ∀ i, i < 9 → c i = c' i) : ∀ k, k ≤ 9 → ∀ y, hk c k y = hk c' k y
  | 0, _, y => rfl
  | k + 1, hk', y => by unfold hk; rw [hk_ext h k (by omega) y, h k (by omega)]
theorem hs_ext {k l r : Int32} {c c' : Nat → Int32} (h : k = 2 → ∀ i, i < 9 → c i = c' i) : hs k l r c = hs k l r c' := by
  unfold hs
  by_cases h2 : k = 2
  · rw [if_pos h2, if_pos h2, hk_ext (h h2) 9 (Nat.le_refl _)]
  · rw [if_neg h2, if_neg h2]
theorem wn_ag (A : Ag u ki le ri ro ki' le' ri' ro') {p : Nat} (hp : p < u) : wn ki' le' ri' ro' p = wn ki le ri ro p := by
  obtain ⟨a1, a2, a3, a4⟩ := A p hp
  unfold wn
  rw [a1, a2, a3, hs_ext (fun _ i hi => a4 i hi)]
end EXT
section PLACE3
variable {u : Nat} {ki le ri ma bi ro ta : Nat → Int32} {rw_ : Nat → Int64}
theorem pl_walk (N : Nat) (hN : 20 ≤ N) (U k l r : Int32) {c : Nat → Int32} (R : k = 2 → Rw rw_ c) (hu : u ≤ 24000) (T : Tb u ki le ri ro ta) (h0 : Nat) (hh : h0 < 65536) : ∀ (d n e : Nat), (∀ x, e ≤ x → x < e + d → ¬ (ta ((h0 + x) % 65536) ≤ 0)) → (∀ x p, e ≤ x → x < e + d → p < u → ta ((h0 + x) % 65536) = Int32.ofNat (p + 1) → ¬ Sm2 ki le ri ro k l r c p) → f_X7_place_24 N (n + d) U ki le ri ma bi ro ta rw_ k l r (if k = 2 then 1 else 0) (Int32.ofNat ((h0 + e) % 65536)) = f_X7_place_24 N n U ki le ri ma bi ro ta rw_ k l r (if k = 2 then 1 else 0) (Int32.ofNat ((h0 + e + d) % 65536))
  | 0, n, e, h1, h2 => rfl
  | d + 1, n, e, h1, h2 => by
    have hne := h1 e (Nat.le_refl _) (by omega)
    rcases T.1 ((h0 + e) % 65536) (Nat.mod_lt _ (by omega)) with g | ⟨p, hp, g⟩
    · exact absurd (by rw [g]; decide) hne
    · rcases pl_step (ki := ki) (le := le) (ri := ri) (ma := ma) (bi := bi) (ro := ro) (ta := ta) N hN (n + d) U k l r R ((h0 + e) % 65536) p (Nat.mod_lt _ (by omega)) (by omega) g with ⟨s, _⟩ | ⟨_, e2⟩
      · exact absurd s (h2 e p (Nat.le_refl _) (by omega) hp g)
      · rw [show n + (d + 1) = n + d + 1 from by omega, e2, show ((h0 + e) % 65536 + 1) % 65536 = (h0 + (e + 1)) % 65536 from by omega, pl_walk N hN U k l r R hu T h0 hh d n (e + 1) (fun x a b => h1 x (by omega) (by omega)) (fun x p a b => h2 x p (by omega) (by omega)), show h0 + (e + 1) + d = h0 + e + (d + 1) from by omega]
theorem pl_found (N : Nat) (hN : 70000 ≤ N) (P : Po u ki le ri ro) (T : Tb u ki le ri ro ta) (U k l r : Int32) {c : Nat → Int32} (R : k = 2 → Rw rw_ c) {q : Nat} (hq : q < u) (S : Sm2 ki le ri ro k l r c q) : f_X7_place N U ki le ri ma bi ro ta rw_ k l r = some (Int32.ofNat q, U, ki, le, ri, ma, bi, ro, ta) := by
  have hu := P.2.1
  have hh : f_X7_hashOf N ro rw_ k l r (if k = 2 then 1 else 0) (-1) = some (hs k l r c) := o_hash N (by omega) ro rw_ (-1) k l r c (fun h2 => Or.inr ⟨rfl, fun i hi => L_i32 _ _ (R h2 i hi)⟩)
  obtain ⟨h0, hlt, eh⟩ := hs_lt k l r c
  have ew : wn ki le ri ro q = h0 := by
    obtain ⟨s1, s2, s3, s4⟩ := S
    unfold wn
    rw [s1, s2, s3, hs_ext (c' := c) s4, eh, i_cl _ (by omega)]
  obtain ⟨d, hd, hd1, hd2⟩ := T.2.2 q hq
  rw [ew] at hd1 hd2
  have main : f_X7_place_24 N N U ki le ri ma bi ro ta rw_ k l r (if k = 2 then 1 else 0) (Int32.ofNat h0) = some (Int32.ofNat q, U, ki, le, ri, ma, bi, ro, ta) := by

    have uniq : ∀ p, p < u → Sm2 ki le ri ro k l r c p → p = q := fun p hp s => P.2.2.2 p q hp hq (by rw [s.1, S.1]) (by rw [s.2.1, S.2.1]) (by rw [s.2.2.1, S.2.2.1]) (fun h2 i hi => by
      have hk2 : k = 2 := by rw [← s.1]; exact h2
      rw [s.2.2.2 hk2 i hi, S.2.2.2 hk2 i hi])
    have least : ∃ x, x ≤ d ∧ ta ((h0 + x) % 65536) = Int32.ofNat (q + 1) ∧ ∀ y, y < x → ta ((h0 + y) % 65536) ≠ Int32.ofNat (q + 1) := by
      clear hd2
      induction d using Nat.strongRecOn with
      | ind d ih =>
        rcases Classical.em (∃ y, y < d ∧ ta ((h0 + y) % 65536) = Int32.ofNat (q + 1)) with ⟨y, hy, g⟩ | g
        · obtain ⟨x, hx, a, b⟩ := ih y hy (by omega) g
          exact ⟨x, by omega, a, b⟩
        · exact ⟨d, Nat.le_refl _, hd1, fun y hy e => g ⟨y, hy, e⟩⟩
    obtain ⟨x, hx, ex, hmin⟩ := least
    have e1 := pl_walk (ki := ki) (le := le) (ri := ri) (ma := ma) (bi := bi) N (by omega) U k l r R hu T h0 hlt x (N - x) 0 (fun y _ hy => hd2 y (by omega)) (fun y p _ hy hp g s => hmin y (by omega) (by rw [g, uniq p hp s]))
    rw [show N - x + x = N from by omega, Nat.add_zero, Nat.mod_eq_of_lt hlt] at e1
    rw [e1]
    rcases pl_step (ki := ki) (le := le) (ri := ri) (ma := ma) (bi := bi) (ro := ro) (ta := ta) N (by omega) (N - x - 1) U k l r R ((h0 + x) % 65536) q (Nat.mod_lt _ (by omega)) (by omega) ex with ⟨_, e2⟩ | ⟨s, _⟩
    · rw [show N - x - 1 + 1 = N - x from by omega] at e2
      exact e2
    · exact absurd S s
  unfold f_X7_place f_X7_place_10
  by_cases h2 : k = 2
  · rw [if_pos h2] at hh main
    rw [ifb_t h2, bd hh, eh]; exact main
  · rw [if_neg h2] at hh main
    rw [ifb_f h2, bd hh, eh]; exact main
end PLACE3
def Ky (u : Nat) (ki le ri ro : Nat → Int32) (k l r : Int32) (c : Nat → Int32) (W : List (List Int32)) : Prop :=
  (k = 2 ∧ (l = 0 ∨ l = 1 ∨ l = 2 ∨ l = 3) ∧ r = 0 ∧ Atm (rowc (2 + l) c) ∧ W = [rowc (2 + l) c]) ∨
  (∃ a b, a < u ∧ b < u ∧ (k = 3 ∨ k = 4) ∧ l = Int32.ofNat a ∧ r = Int32.ofNat b ∧ okBi (dn ki le ri ro a) (dn ki le ri ro b) ∧ W = dn ki le ri ro a ++ dn ki le ri ro b ++ [row0 (k + 3)]) ∨
  (∃ v b, v < 8 ∧ b < u ∧ (k = 5 ∨ k = 6) ∧ l = Int32.ofNat v ∧ r = Int32.ofNat b ∧ okQu v (dn ki le ri ro b) ∧ W = dn ki le ri ro b ++ [rowq (k + 3) v])
section MAKE
variable {u : Nat} {ki le ri ma bi ro ta : Nat → Int32} {rw_ : Nat → Int64}
theorem ag_new (ki le ri ro : Nat → Int32) (u : Nat) (k l r : Int32) (c : Nat → Int32) : Ag u ki le ri ro (upd ki u k) (upd le u l) (upd ri u r) (if k = 2 then wrR ro c u 9 else ro) := by
  intro p hp
  refine ⟨upd_ne _ _ _ _ (by omega), upd_ne _ _ _ _ (by omega), upd_ne _ _ _ _ (by omega), fun i hi => ?_⟩
  split
  · unfold wrR; rw [if_neg (by omega)]
  · rfl
theorem pl_make (N : Nat) (hN : 70000 ≤ N) (P : Po u ki le ri ro) (T : Tb u ki le ri ro ta) (M : Mb u ki le ri ro ma bi) (hu : u < 24000) {k l r : Int32} {c : Nat → Int32} (R : k = 2 → Rw rw_ c) {W : List (List Int32)} (K : Ky u ki le ri ro k l r c W) (hW : W.length ≤ 1000) (no : ∀ q, q < u → ¬ Sm2 ki le ri ro k l r c q) : ∃ ki' le' ri' ma' bi' ro' ta', f_X7_place N (Int32.ofNat u) ki le ri ma bi ro ta rw_ k l r = some (Int32.ofNat u, Int32.ofNat (u + 1), ki', le', ri', ma', bi', ro', ta') ∧ Po (u + 1) ki' le' ri' ro' ∧ Tb (u + 1) ki' le' ri' ro' ta' ∧ Mb (u + 1) ki' le' ri' ro' ma' bi' ∧ Ag u ki le ri ro ki' le' ri' ro' ∧ dn ki' le' ri' ro' u = W := by
  have hu2 := P.2.1
  have h2u := P.1
  have hh : f_X7_hashOf N ro rw_ k l r (if k = 2 then 1 else 0) (-1) = some (hs k l r c) := o_hash N (by omega) ro rw_ (-1) k l r c (fun h2 => Or.inr ⟨rfl, fun i hi => L_i32 _ _ (R h2 i hi)⟩)
  obtain ⟨h0, hlt, eh⟩ := hs_lt k l r c
  obtain ⟨d, hd, hd1, hd2⟩ := T.room hu2 h0 hlt
  have e1 := pl_walk (ki := ki) (le := le) (ri := ri) (ma := ma) (bi := bi) N (by omega) (Int32.ofNat u) k l r R hu2 T h0 hlt d (N - d) 0 (fun y _ hy => hd2 y (by omega)) (fun y p _ hy hp g s => no p hp s)
  rw [show N - d + d = N from by omega, Nat.add_zero, Nat.mod_eq_of_lt hlt] at e1
  have ku : ki u = ki u := rfl
  have e2 := pl_new (ki := ki) (le := le) (ri := ri) (ma := ma) (ta := ta) (bi := bi) (ro := ro) N (by omega) (N - d - 1) u hu k l r R ((h0 + d) % 65536) (Nat.mod_lt _ (by omega)) hd1 (fun h34 => by
      rcases K with ⟨h, _⟩ | ⟨a, b, ha, hb, _, e1, e2, _⟩ | ⟨v, b, _, _, h, _⟩
      · rcases h34 with g | g <;> rw [h] at g <;> exact absurd g (by decide)
      · exact ⟨⟨a, by omega, e1⟩, b, by omega, e2⟩
      · rcases h34 with g | g <;> rcases h with h | h <;> rw [h] at g <;> exact absurd g (by decide)) (fun h5 => by
      rcases K with ⟨h, _⟩ | ⟨a, b, ha, hb, h, e1, e2, _⟩ | ⟨v, b, _, hb, h, _, e2, _⟩
      · rw [h] at h5; exact absurd (by decide) h5
      · exact ⟨b, hb, e2⟩
      · exact ⟨b, hb, e2⟩) (fun h34 => by
      rcases K with ⟨h, _⟩ | ⟨a, b, ha, hb, _, e1, e2, _⟩ | ⟨v, b, _, _, h, _⟩
      · rcases h34 with g | g <;> rw [h] at g <;> exact absurd g (by decide)
      · rw [e1, e2, i_cl _ (by omega), i_cl _ (by omega)]; omega
      · rcases h34 with g | g <;> rcases h with h | h <;> rw [h] at g <;> exact absurd g (by decide))
  rw [show N - d - 1 + 1 = N - d from by omega] at e2
  have e3 := e1.trans e2
  have A := ag_new ki le ri ro u k l r c
  generalize hki : upd ki u k = ki' at e3 A
  generalize hle : upd le u l = le' at e3 A
  generalize hri : upd ri u r = ri' at e3 A
  generalize hro : (if k = 2 then wrR ro c u 9 else ro) = ro' at e3 A
  have k1 : ki' u = k := by rw [← hki, upd_at]
  have l1 : le' u = l := by rw [← hle, upd_at]
  have r1 : ri' u = r := by rw [← hri, upd_at]
  have c1 : k = 2 → ∀ i, i < 9 → ro' (9 * u + i) = c i := fun h2 i hi => by
    rw [← hro, if_pos h2]; unfold wrR; rw [if_pos (by omega)]; congr 1; omega
  have ar : k = 2 → aRow le' ro' u = rowc (2 + l) c := fun h2 => by
    unfold aRow rowc
    rw [l1]; congr 1
    apply List.map_congr_left
    intro i hi
    exact c1 h2 i (List.mem_range.mp hi)
  have dnA : ∀ p, p < u → dn ki' le' ri' ro' p = dn ki le ri ro p := fun p hp => dn_ag P.2.2.1 hu2 A hp
  have ndU : Nd ki' le' ri' ro' u := by
    unfold Nd
    rcases K with ⟨h, hl, hr, hA, _⟩ | ⟨a, b, ha, hb, h, e1, e2, ho, _⟩ | ⟨v, b, hv, hb, h, e1, e2, ho, _⟩
    · refine Or.inr (Or.inr (Or.inl ⟨h2u, by rw [k1, h], by rw [l1]; exact hl, by rw [r1, hr], ?_⟩))
      rw [ar h]; exact hA
    · exact Or.inr (Or.inr (Or.inr (Or.inl ⟨a, b, h2u, ha, hb, by rw [k1]; exact h, by rw [l1, e1], by rw [r1, e2], by rw [dnA a ha, dnA b hb]; exact ho⟩)))
    · exact Or.inr (Or.inr (Or.inr (Or.inr ⟨v, b, h2u, hv, hb, by rw [k1]; exact h, by rw [l1, e1], by rw [r1, e2], by rw [dnA b hb]; exact ho⟩)))
  have H' : ∀ p, p < u + 1 → Nd ki' le' ri' ro' p := fun p hp => by
    by_cases h : p = u
    · rw [h]; exact ndU
    · exact nd_ag P.2.2.1 hu2 A (by omega)
  have smU : ∀ q, q < u → ki' u = ki' q → le' u = le' q → ri' u = ri' q → (ki' u = 2 → ∀ i, i < 9 → ro' (9 * u + i) = ro' (9 * q + i)) → False := fun q hq a1 a2 a3 a4 => by
    obtain ⟨b1, b2, b3, b4⟩ := A q hq
    refine no q hq ⟨by rw [← b1, ← a1, k1], by rw [← b2, ← a2, l1], by rw [← b3, ← a3, r1], fun h2 i hi => ?_⟩
    rw [← b4 i hi, ← a4 (by rw [k1, h2]) i hi, c1 h2 i hi]
  have P' : Po (u + 1) ki' le' ri' ro' := by
    refine ⟨by omega, by omega, H', ?_⟩
    intro p q hp hq a1 a2 a3 a4
    by_cases hpu : p = u
    · by_cases hqu : q = u
      · omega
      · subst hpu
        exact (smU q (by omega) a1 a2 a3 a4).elim
    · by_cases hqu : q = u
      · subst hqu
        exact (smU p (by omega) a1.symm a2.symm a3.symm (fun h2 i hi => (a4 (by rw [a1]; exact h2) i hi).symm)).elim
      · obtain ⟨b1, b2, b3, b4⟩ := A p (by omega)
        obtain ⟨d1, d2, d3, d4⟩ := A q (by omega)
        exact P.2.2.2 p q (by omega) (by omega) (by rw [← b1, ← d1]; exact a1) (by rw [← b2, ← d2]; exact a2) (by rw [← b3, ← d3]; exact a3) (fun h2 i hi => by rw [← b4 i hi, ← d4 i hi]; exact a4 (by rw [b1]; exact h2) i hi)
  have dU : dn ki' le' ri' ro' u = W := by
    rcases K with ⟨h, hl, hr, hA, hw⟩ | ⟨a, b, ha, hb, h, e1, e2, ho, hw⟩ | ⟨v, b, hv, hb, h, e1, e2, ho, hw⟩
    · rw [dn2 (by rw [k1, h]), ar h, hw]
    · rw [dnb P' (by omega) ha hb (by rw [k1]; exact h) (by rw [l1, e1]) (by rw [r1, e2]), dnA a ha, dnA b hb, k1, hw]
    · rw [dnq P' (by omega) hv hb (by rw [k1]; exact h) (by rw [l1, e1]) (by rw [r1, e2]), dnA b hb, k1, hw]
  refine ⟨ki', le', ri', upd ma u (1 + nMa ma k l r), upd bi u (nBi bi k l r c), ro', upd ta ((h0 + d) % 65536) (Int32.ofNat (u + 1)), ?_, P', ?_, ?_, A, dU⟩
  · unfold f_X7_place f_X7_place_10
    by_cases h2 : k = 2
    · rw [if_pos h2] at hh e3
      rw [ifb_t h2, bd hh, eh]; exact e3
    · rw [if_neg h2] at hh e3
      rw [ifb_f h2, bd hh, eh]; exact e3
  · refine ⟨?_, ?_, ?_⟩
    · intro h hh'
      by_cases hx : h = (h0 + d) % 65536
      · rw [hx, upd_at]; exact Or.inr ⟨u, by omega, rfl⟩
      · rw [upd_ne _ _ _ _ hx]
        rcases T.1 h hh' with g | ⟨p, hp, g⟩
        · exact Or.inl g
        · exact Or.inr ⟨p, by omega, g⟩
    · rw [cn_upd ta _ _ hd1 (i_pos u (by omega)) 65536 (Nat.mod_lt _ (by omega)), T.2.1]
    · intro p hp
      by_cases hpu : p = u
      · subst hpu
        have ew : wn ki' le' ri' ro' p = h0 := by
          unfold wn
          rw [k1, l1, r1, hs_ext (c' := c) c1, eh, i_cl _ (by omega)]
        refine ⟨d, hd, by rw [ew, upd_at], fun e he => ?_⟩
        rw [ew]
        have := hd2 e he
        by_cases hx : (h0 + e) % 65536 = (h0 + d) % 65536
        · rw [hx] at this; exact absurd hd1 this
        · rw [upd_ne _ _ _ _ hx]; exact this
      · obtain ⟨d', hd', g1, g2⟩ := T.2.2 p (by omega)
        rw [wn_ag A (by omega)]
        refine ⟨d', hd', ?_, fun e he => ?_⟩
        · by_cases hx : (wn ki le ri ro p + d') % 65536 = (h0 + d) % 65536
          · rw [hx] at g1
            rw [g1] at hd1
            exact absurd hd1 (i_pos p (by omega))
          · rw [upd_ne _ _ _ _ hx]; exact g1
        · by_cases hx : (wn ki le ri ro p + e) % 65536 = (h0 + d) % 65536
          · rw [hx, upd_at]; exact i_pos u (by omega)
          · rw [upd_ne _ _ _ _ hx]; exact g2 e he
  · intro p hp
    by_cases hpu : p = u
    · subst hpu
      rw [dU, upd_at, upd_at]
      rcases K with ⟨h, hl, hr, hA, hw⟩ | ⟨a, b, ha, hb, h, e1, e2, ho, hw⟩ | ⟨v, b, hv, hb, h, e1, e2, ho, hw⟩
      · refine ⟨?_, ?_, hW⟩
        · unfold nMa
          rw [hw, h, if_neg (by decide), if_pos (by decide)]; rfl
        · unfold nBi
          rw [hw, fv_leaf (Or.inr (Or.inr hA)), h, if_neg (by decide), if_pos rfl]
          exact rb_ext (fun i hi => by rw [rowc_get _ _ _ (by omega), rowc_get _ _ _ (by omega)])
      · obtain ⟨m1, m2, m3⟩ := M a ha
        obtain ⟨n1, n2, n3⟩ := M b hb
        refine ⟨?_, ?_, hW⟩
        · unfold nMa
          rw [if_pos h, e1, e2, i_cl _ (by omega), i_cl _ (by omega), m1, n1, hw, i_add, show (1 : Int32) = Int32.ofNat 1 from rfl, i_add]
          congr 1; simp; omega
        · unfold nBi
          rw [if_pos h, e1, e2, i_cl _ (by omega), i_cl _ (by omega), m2, n2, hw, fv_bi (dn_fm P a ha) (dn_fm P b hb) (by rcases h with h | h <;> rw [h] <;> decide)]
      · obtain ⟨n1, n2, n3⟩ := M b hb
        have h34 : ¬ (k = 3 ∨ k = 4) := by rcases h with h | h <;> rw [h] <;> decide
        have h5 : ¬ (k < 5) := by rcases h with h | h <;> rw [h] <;> decide
        have h2 : ¬ (k = 2) := by rcases h with h | h <;> rw [h] <;> decide
        refine ⟨?_, ?_, hW⟩
        · unfold nMa
          rw [if_neg h34, if_neg h5, e2, i_cl _ (by omega), n1, hw, show (1 : Int32) = Int32.ofNat 1 from rfl, i_add]
          congr 1; simp; omega
        · unfold nBi
          rw [if_neg h34, if_neg h2, if_neg h5, e1, e2, i_cl _ (by omega), n2, hw, fv_qu (dn_fm P b hb) (by rcases h with h | h <;> rw [h] <;> decide)]
    · rw [dnA p (by omega), upd_ne _ _ _ _ hpu, upd_ne _ _ _ _ hpu]
      exact M p (by omega)
end MAKE
def Pool (u : Nat) (ki le ri ma bi ro ta : Nat → Int32) : Prop := Po u ki le ri ro ∧ Tb u ki le ri ro ta ∧ Mb u ki le ri ro ma bi
def Got (u k : Nat) (ki le ri ro : Nat → Int32) (p : Nat) (W : List (List Int32)) (u' : Nat) (ki' le' ri' ma' bi' ro' ta' : Nat → Int32) : Prop := Pool u' ki' le' ri' ma' bi' ro' ta' ∧ Ag u ki le ri ro ki' le' ri' ro' ∧ u ≤ u' ∧ u' ≤ u + k ∧ p < u' ∧ dn ki' le' ri' ro' p = W
section POOL2
variable {u : Nat} {ki le ri ma bi ro ta : Nat → Int32} {rw_ : Nat → Int64}
theorem Ag.rf : Ag u ki le ri ro ki le ri ro := fun p hp => ⟨rfl, rfl, rfl, fun i hi => rfl⟩
theorem Ag.tr {u' : Nat} {k1 l1 r1 o1 k2 l2 r2 o2 : Nat → Int32} (A : Ag u ki le ri ro k1 l1 r1 o1) (B : Ag u' k1 l1 r1 o1 k2 l2 r2 o2) (h : u ≤ u') : Ag u ki le ri ro k2 l2 r2 o2 := fun p hp => by
  obtain ⟨a1, a2, a3, a4⟩ := A p hp
  obtain ⟨b1, b2, b3, b4⟩ := B p (by omega)
  exact ⟨b1.trans a1, b2.trans a2, b3.trans a3, fun i hi => (b4 i hi).trans (a4 i hi)⟩
theorem Pool.here (P : Pool u ki le ri ma bi ro ta) {p k : Nat} (hp : p < u) : Got u k ki le ri ro p (dn ki le ri ro p) u ki le ri ma bi ro ta := ⟨P, Ag.rf, Nat.le_refl _, by omega, hp, rfl⟩
theorem Ky.len (P : Pool u ki le ri ma bi ro ta) {k l r : Int32} {c : Nat → Int32} {W : List (List Int32)} (K : Ky u ki le ri ro k l r c W) : True := trivial
theorem o_place (N : Nat) (hN : 70000 ≤ N) (P : Pool u ki le ri ma bi ro ta) (hu : u < 24000) {k l r : Int32} {c : Nat → Int32} (R : k = 2 → Rw rw_ c) {W : List (List Int32)} (K : Ky u ki le ri ro k l r c W) (hW : W.length ≤ 1000) : ∃ p u' ki' le' ri' ma' bi' ro' ta', f_X7_place N (Int32.ofNat u) ki le ri ma bi ro ta rw_ k l r = some (Int32.ofNat p, Int32.ofNat u', ki', le', ri', ma', bi', ro', ta') ∧ Got u 1 ki le ri ro p W u' ki' le' ri' ma' bi' ro' ta' := by
  obtain ⟨Po', Tb', Mb'⟩ := P
  rcases Classical.em (∃ q, q < u ∧ Sm2 ki le ri ro k l r c q) with ⟨q, hq, S⟩ | no
  · have e := pl_found (ma := ma) (bi := bi) N hN Po' Tb' (Int32.ofNat u) k l r R hq S
    refine ⟨q, u, ki, le, ri, ma, bi, ro, ta, e, ⟨Po', Tb', Mb'⟩, Ag.rf, Nat.le_refl _, by omega, hq, ?_⟩
    obtain ⟨s1, s2, s3, s4⟩ := S
    have hu2 := Po'.2.1
    rcases K with ⟨h, hl, hr, hA, hw⟩ | ⟨a, b, ha, hb, h, e1, e2, ho, hw⟩ | ⟨v, b, hv, hb, h, e1, e2, ho, hw⟩
    · rw [dn2 (by rw [s1, h]), hw]
      unfold aRow rowc
      rw [s2]
      congr 2
      apply List.map_congr_left
      intro i hi
      exact s4 h i (List.mem_range.mp hi)
    · rcases Po'.2.2.1 q hq with ⟨_, g, _⟩ | ⟨_, g, _⟩ | ⟨_, g, _⟩ | ⟨a', b', _, ha', hb', hk', f1, f2, _⟩ | ⟨v', b', _, _, _, g, _⟩
      · rw [s1] at g; rcases h with h | h <;> rw [h] at g <;> exact absurd g (by decide)
      · rw [s1] at g; rcases h with h | h <;> rw [h] at g <;> exact absurd g (by decide)
      · rw [s1] at g; rcases h with h | h <;> rw [h] at g <;> exact absurd g (by decide)
      · have ea : a' = a := by rw [s2, e1, i_eq _ _ (by omega) (by omega)] at f1; exact f1.symm
        have eb : b' = b := by rw [s3, e2, i_eq _ _ (by omega) (by omega)] at f2; exact f2.symm
        subst ea; subst eb
        rw [dnb Po' hq ha' hb' hk' f1 f2, s1, hw]
      · rw [s1] at g; rcases h with h | h <;> rcases g with g | g <;> rw [h] at g <;> exact absurd g (by decide)
    · rcases Po'.2.2.1 q hq with ⟨_, g, _⟩ | ⟨_, g, _⟩ | ⟨_, g, _⟩ | ⟨a', b', _, _, _, g, _⟩ | ⟨v', b', _, hv', hb', hk', f1, f2, _⟩
      · rw [s1] at g; rcases h with h | h <;> rw [h] at g <;> exact absurd g (by decide)
      · rw [s1] at g; rcases h with h | h <;> rw [h] at g <;> exact absurd g (by decide)
      · rw [s1] at g; rcases h with h | h <;> rw [h] at g <;> exact absurd g (by decide)
      · rw [s1] at g; rcases h with h | h <;> rcases g with g | g <;> rw [h] at g <;> exact absurd g (by decide)
      · have ea : v' = v := by rw [s2, e1, i_eq _ _ (by omega) (by omega)] at f1; exact f1.symm
        have eb : b' = b := by rw [s3, e2, i_eq _ _ (by omega) (by omega)] at f2; exact f2.symm
        subst ea; subst eb
        rw [dnq Po' hq hv' hb' hk' f1 f2, s1, hw]
  · obtain ⟨ki', le', ri', ma', bi', ro', ta', e, P', T', M', A, hd⟩ := pl_make N hN Po' Tb' Mb' hu R K hW (fun q hq S => no ⟨q, hq, S⟩)
    exact ⟨u, u + 1, ki', le', ri', ma', bi', ro', ta', e, ⟨P', T', M'⟩, A, by omega, by omega, by omega, hd⟩
theorem node0 (P : Po u ki le ri ro) : dn ki le ri ro 0 = fT ∧ dn ki le ri ro 1 = fF := by
  have h2 := P.1
  constructor
  · rcases P.2.2.1 0 (by omega) with ⟨_, h, _⟩ | ⟨h, _⟩ | ⟨h, _⟩ | ⟨a, b, h, _⟩ | ⟨v, b, h, _⟩
    · exact dn0 h
    · omega
    · omega
    · omega
    · omega
  · rcases P.2.2.1 1 (by omega) with ⟨h, _⟩ | ⟨_, h, _⟩ | ⟨h, _⟩ | ⟨a, b, h, _⟩ | ⟨v, b, h, _⟩
    · omega
    · exact dn1 h
    · omega
    · omega
    · omega
theorem isT (P : Po u ki le ri ro) {p : Nat} (hp : p < u) : lk (dn ki le ri ro p) = 0 ↔ p = 0 := by
  have h2 := P.1
  rw [(dn_fm P p hp).lk0]
  constructor
  · intro h; exact dn_inj P p hp 0 (by omega) (by rw [h, (node0 P).1])
  · intro h; rw [h, (node0 P).1]
theorem isF (P : Po u ki le ri ro) {p : Nat} (hp : p < u) : lk (dn ki le ri ro p) = 1 ↔ p = 1 := by
  have h2 := P.1
  rw [(dn_fm P p hp).lk1]
  constructor
  · intro h; exact dn_inj P p hp 1 (by omega) (by rw [h, (node0 P).2])
  · intro h; rw [h, (node0 P).2]
theorem o_both (N : Nat) (hN : 70000 ≤ N) (P : Pool u ki le ri ma bi ro ta) (hu : u < 24000) (x1 : Int32) {p q : Nat} (hp : p < u) (hq : q < u) (hl : (dn ki le ri ro p).length + (dn ki le ri ro q).length + 1 ≤ 1000) : ∃ s u' ki' le' ri' ma' bi' ro' ta', f_X7_both N (Int32.ofNat u) ki le ri ma bi ro ta rw_ x1 (Int32.ofNat p) (Int32.ofNat q) = some (Int32.ofNat s, Int32.ofNat u', ki', le', ri', ma', bi', ro', ta') ∧ Got u 1 ki le ri ro s (mk (if x1 = 0 then 7 else 6) (dn ki le ri ro p) (dn ki le ri ro q)) u' ki' le' ri' ma' bi' ro' ta' := by
  have hu2 := P.1.2.1
  have h2u := P.1.1
  have pT := isT P.1 hp
  have pF := isF P.1 hp
  have qT := isT P.1 hq
  have qF := isF P.1 hq
  have fp := dn_fm P.1 p hp
  have fq := dn_fm P.1 q hq
  have pq : dn ki le ri ro p = dn ki le ri ro q ↔ p = q := ⟨dn_inj P.1 p hp q hq, fun h => by rw [h]⟩

  have go : ∀ (lo ow : Nat) (k : Int32), ((lo = 1 ∧ ow = 0 ∧ k = 6 ∧ ¬ (x1 = 0)) ∨ (lo = 0 ∧ ow = 1 ∧ k = 7 ∧ x1 = 0)) → ∃ s u' ki' le' ri' ma' bi' ro' ta', f_X7_both_9 N (Int32.ofNat u) ki le ri ma bi ro ta rw_ x1 (Int32.ofNat p) (Int32.ofNat q) (Int32.ofNat lo) = some (Int32.ofNat s, Int32.ofNat u', ki', le', ri', ma', bi', ro', ta') ∧ Got u 1 ki le ri ro s (mk k (dn ki le ri ro p) (dn ki le ri ro q)) u' ki' le' ri' ma' bi' ro' ta' := by
    intro lo ow k hk
    have hlo : lo < 2 ∧ ow < 2 ∧ lo ≠ ow ∧ lo + ow = 1 := by omega
    have ea : lk (dn ki le ri ro p) = enK k ↔ p = lo := by
      rcases hk with ⟨rfl, _, rfl, _⟩ | ⟨rfl, _, rfl, _⟩
      · exact pF
      · exact pT
    have ea' : lk (dn ki le ri ro p) = idK k ↔ p = ow := by
      rcases hk with ⟨_, rfl, rfl, _⟩ | ⟨_, rfl, rfl, _⟩
      · exact pT
      · exact pF
    have eb : lk (dn ki le ri ro q) = enK k ↔ q = lo := by
      rcases hk with ⟨rfl, _, rfl, _⟩ | ⟨rfl, _, rfl, _⟩
      · exact qF
      · exact qT
    have eb' : lk (dn ki le ri ro q) = idK k ↔ q = ow := by
      rcases hk with ⟨_, rfl, rfl, _⟩ | ⟨_, rfl, rfl, _⟩
      · exact qT
      · exact qF
    have e1 : (1 : Int32) - Int32.ofNat lo = Int32.ofNat ow := by
      rw [show (1 : Int32) = Int32.ofNat 1 from rfl, i_sub _ _ (by omega)]; congr 1; omega
    unfold f_X7_both_9 f_X7_both_23 f_X7_both_39 f_X7_both_68
    rw [e1]
    unfold mk
    by_cases c1 : p = lo
    · rw [ifb_t (by rw [c1]), if_pos (Or.inl (ea.mpr c1)), ← c1]
      exact ⟨_, _, _, _, _, _, _, _, _, rfl, P.here hp⟩
    · rw [ifb_f (by rw [i_eq _ _ (by omega) (by omega)]; exact c1)]
      by_cases c2 : q = lo
      · rw [ifb_t (by rw [c2]), ← c2]
        have n1 : ¬ (lk (dn ki le ri ro p) = enK k ∨ lk (dn ki le ri ro q) = idK k ∨ dn ki le ri ro p = dn ki le ri ro q) := by
          rw [ea, eb', pq]; omega
        rw [if_neg n1, if_pos (Or.inl (eb.mpr c2))]
        exact ⟨_, _, _, _, _, _, _, _, _, rfl, P.here hq⟩
      · rw [ifb_f (by rw [i_eq _ _ (by omega) (by omega)]; exact c2)]
        by_cases c3 : p = ow
        · rw [ifb_t (by rw [c3])]
          have er : (if lk (dn ki le ri ro p) = enK k ∨ lk (dn ki le ri ro q) = idK k ∨ dn ki le ri ro p = dn ki le ri ro q then dn ki le ri ro p else if lk (dn ki le ri ro q) = enK k ∨ lk (dn ki le ri ro p) = idK k then dn ki le ri ro q else dn ki le ri ro p ++ dn ki le ri ro q ++ [row0 k]) = dn ki le ri ro q := by
            by_cases c4 : p = q
            · rw [if_pos (Or.inr (Or.inr (pq.mpr c4))), c4]
            · have n1 : ¬ (lk (dn ki le ri ro p) = enK k ∨ lk (dn ki le ri ro q) = idK k ∨ dn ki le ri ro p = dn ki le ri ro q) := by
                rw [ea, eb', pq]; omega
              rw [if_neg n1, if_pos (Or.inr (ea'.mpr c3))]
          rw [er]
          exact ⟨_, _, _, _, _, _, _, _, _, rfl, P.here hq⟩
        · rw [ifb_f (by rw [i_eq _ _ (by omega) (by omega)]; exact c3)]
          by_cases c4 : p = q
          · rw [ifb_t (by rw [c4]), if_pos (Or.inr (Or.inr (pq.mpr c4))), pq.mpr c4]
            exact ⟨_, _, _, _, _, _, _, _, _, rfl, P.here hq⟩
          · rw [ifb_f (by rw [i_eq _ _ (by omega) (by omega)]; exact c4)]
            by_cases c5 : q = ow
            · rw [ifb_t (by rw [c5]), if_pos (Or.inr (Or.inl (eb'.mpr c5)))]
              exact ⟨_, _, _, _, _, _, _, _, _, rfl, P.here hp⟩
            · have n1 : ¬ (lk (dn ki le ri ro p) = enK k ∨ lk (dn ki le ri ro q) = idK k ∨ dn ki le ri ro p = dn ki le ri ro q) := by
                rw [ea, eb', pq]; omega
              have n2 : ¬ (lk (dn ki le ri ro q) = enK k ∨ lk (dn ki le ri ro p) = idK k) := by
                rw [eb, ea']; omega
              rw [ifb_f (by rw [i_eq _ _ (by omega) (by omega)]; exact c5), if_neg n1, if_neg n2]
              have tr : ∀ x, x < u → (dn ki le ri ro x = fT ↔ x = 0) ∧ (dn ki le ri ro x = fF ↔ x = 1) := fun x hx => ⟨by rw [← (dn_fm P.1 x hx).lk0]; exact isT P.1 hx, by rw [← (dn_fm P.1 x hx).lk1]; exact isF P.1 hx⟩
              have ok : okBi (dn ki le ri ro p) (dn ki le ri ro q) := by
                refine ⟨fun h => ?_, fun h => ?_, fun h => ?_, fun h => ?_, fun h => c4 (pq.mp h)⟩
                · have := (tr p hp).1.mp h; omega
                · have := (tr p hp).2.mp h; omega
                · have := (tr q hq).1.mp h; omega
                · have := (tr q hq).2.mp h; omega
              unfold f_X7_both_63 f_X7_both_68
              rcases hk with ⟨_, _, rfl, hx⟩ | ⟨_, _, rfl, hx⟩
              · obtain ⟨s, u', ki', le', ri', ma', bi', ro', ta', e, G⟩ := o_place (rw_ := rw_) (k := 3) (l := Int32.ofNat p) (r := Int32.ofNat q) (c := fun _ => 0) N hN P hu (fun h => absurd h (by decide)) (Or.inr (Or.inl ⟨p, q, hp, hq, Or.inl rfl, rfl, rfl, ok, rfl⟩)) (by simp; omega)
                rw [ifb_f hx, bd e]
                exact ⟨_, _, _, _, _, _, _, _, _, rfl, G⟩
              · obtain ⟨s, u', ki', le', ri', ma', bi', ro', ta', e, G⟩ := o_place (rw_ := rw_) (k := 4) (l := Int32.ofNat p) (r := Int32.ofNat q) (c := fun _ => 0) N hN P hu (fun h => absurd h (by decide)) (Or.inr (Or.inl ⟨p, q, hp, hq, Or.inr rfl, rfl, rfl, ok, rfl⟩)) (by simp; omega)
                rw [ifb_t hx, bd e]
                exact ⟨_, _, _, _, _, _, _, _, _, rfl, G⟩
  unfold f_X7_both
  by_cases hx : x1 = 0
  · rw [ifb_t hx, if_pos hx]
    exact go 0 1 7 (Or.inr ⟨rfl, rfl, rfl, hx⟩)
  · rw [ifb_f hx, if_neg hx]
    exact go 1 0 6 (Or.inl ⟨rfl, rfl, rfl, hx⟩)
theorem o_quantified (N : Nat) (hN : 70000 ≤ N) (P : Pool u ki le ri ma bi ro ta) (hu : u < 24000) (x1 : Int32) {v q : Nat} (hv : v < 8) (hq : q < u) (hl : (dn ki le ri ro q).length + 1 ≤ 1000) : ∃ s u' ki' le' ri' ma' bi' ro' ta', f_X7_quantified N (Int32.ofNat u) ki le ri ma bi ro ta rw_ x1 (Int32.ofNat v) (Int32.ofNat q) = some (Int32.ofNat s, Int32.ofNat u', ki', le', ri', ma', bi', ro', ta') ∧ Got u 1 ki le ri ro s (bq (if x1 = 0 then 9 else 8) v (dn ki le ri ro q)) u' ki' le' ri' ma' bi' ro' ta' := by
  have hu2 := P.1.2.1
  obtain ⟨m1, m2, m3⟩ := P.2.2 q hq
  unfold f_X7_quantified f_X7_quantified_28 f_X7_quantified_33 bq
  rw [ix_n _ _ _ (by omega) (by omega), i_cl _ (by omega), m2]
  by_cases hz : ((fv (dn ki le ri ro q) >>> (Int32.ofNat v &&& 31)) &&& 1) = 0
  · rw [ifb_t hz, if_pos hz]
    exact ⟨_, _, _, _, _, _, _, _, _, rfl, P.here hq⟩
  · rw [ifb_f hz, if_neg hz]
    by_cases hx : x1 = 0
    · obtain ⟨s, u', ki', le', ri', ma', bi', ro', ta', e, G⟩ := o_place (rw_ := rw_) (k := 6) (l := Int32.ofNat v) (r := Int32.ofNat q) (c := fun _ => 0) N hN P hu (fun h => absurd h (by decide)) (Or.inr (Or.inr ⟨v, q, hv, hq, Or.inr rfl, rfl, rfl, hz, rfl⟩)) (by simp; omega)
      rw [ifb_t hx, if_pos hx, bd e]
      exact ⟨_, _, _, _, _, _, _, _, _, rfl, G⟩
    · obtain ⟨s, u', ki', le', ri', ma', bi', ro', ta', e, G⟩ := o_place (rw_ := rw_) (k := 5) (l := Int32.ofNat v) (r := Int32.ofNat q) (c := fun _ => 0) N hN P hu (fun h => absurd h (by decide)) (Or.inr (Or.inr ⟨v, q, hv, hq, Or.inl rfl, rfl, rfl, hz, rfl⟩)) (by simp; omega)
      rw [ifb_f hx, if_neg hx, bd e]
      exact ⟨_, _, _, _, _, _, _, _, _, rfl, G⟩
end POOL2
theorem mk_ok {a b : List (List Int32)} (ha : Fm a) (hb : Fm b) (ho : okBi a b) {k : Int32} (hk : k = 6 ∨ k = 7) : mk k a b = a ++ b ++ [row0 k] := by
  obtain ⟨o1, o2, o3, o4, o5⟩ := ho
  have a0 : lk a ≠ 0 := fun h => o1 (ha.lk0.mp h)
  have a1 : lk a ≠ 1 := fun h => o2 (ha.lk1.mp h)
  have b0 : lk b ≠ 0 := fun h => o3 (hb.lk0.mp h)
  have b1 : lk b ≠ 1 := fun h => o4 (hb.lk1.mp h)
  unfold mk
  rcases hk with rfl | rfl
  · rw [if_neg (fun h => h.elim a1 (fun h => h.elim b0 o5)), if_neg (fun h => h.elim b1 a0)]
  · rw [if_neg (fun h => h.elim a0 (fun h => h.elim b1 o5)), if_neg (fun h => h.elim b0 a1)]
theorem ng_app (a b : List (List Int32)) : ng (a ++ b) = ng a ++ ng b := by unfold ng; exact List.map_append
theorem ng_ok {a b : List (List Int32)} (ha : Fm a) (hb : Fm b) (ho : okBi a b) : okBi (ng a) (ng b) := by
  obtain ⟨o1, o2, o3, o4, o5⟩ := ho
  obtain ⟨_, _, i3⟩ := ng_fm ha
  obtain ⟨_, _, j3⟩ := ng_fm hb
  have inj : ∀ {x y : List (List Int32)}, ng x = y → ng (ng x) = x → x = ng y := fun h1 h2 => by rw [← h1, h2]
  exact ⟨fun h => o2 (inj h i3), fun h => o1 (inj h i3), fun h => o4 (inj h j3), fun h => o3 (inj h j3), fun h => o5 (by rw [inj h i3, j3])⟩
section TURN
variable {u : Nat} {ki le ri ma bi ro ta : Nat → Int32} {rw_ : Nat → Int64}
def trc (le ro : Nat → Int32) (p i : Nat) : Int32 := if 2 ≤ le p then -(ro (9 * p + i)) else ro (9 * p + i)
theorem neg_aRow {p : Nat} (hl : le p = 0 ∨ le p = 1 ∨ le p = 2 ∨ le p = 3) : negRow (aRow le ro p) = rowc (2 + (if 2 ≤ le p then 5 - le p else 1 - le p)) (trc le ro p) := by
  unfold negRow rowc aRow trc
  rcases hl with h | h | h | h <;> rw [h] <;> simp <;> decide
theorem turn_loop (R_ : Int32 → (Nat → Int32) → (Nat → Int32) → (Nat → Int32) → (Nat → Int32) → (Nat → Int32) → (Nat → Int32) → (Nat → Int32) → (Nat → Int64) → Int32 → Option (Int32 × (Int32) × (Nat → Int32) × (Nat → Int32) × (Nat → Int32) × (Nat → Int32) × (Nat → Int32) × (Nat → Int32) × (Nat → Int32) × (Nat → Int64))) (N : Nat) (U : Int32) {p : Nat} (hp : p < 24000) : ∀ (d m i : Nat) (rw_ : Nat → Int64), i + d = 9 → (∀ j, j < i → (rw_ j).toInt = (trc le ro p j).toInt) → ∃ rw', Rw rw' (trc le ro p) ∧ f_X7_turned_28 R_ N (m + d + 1) U ki le ri ma bi ro ta rw_ (Int32.ofNat p) (le p) (Int32.ofNat i) = f_X7_turned_95 R_ N U ki le ri ma bi ro ta rw' 2 (if 2 ≤ le p then 5 - le p else 1 - le p)
  | 0, m, i, rw_, h, hr => by
    have : i = 9 := by omega
    subst this
    refine ⟨rw_, hr, ?_⟩
    rw [f_X7_turned_28]; dsimp only
    rw [ifb_t (by decide)]
    by_cases h2 : 2 ≤ le p
    · rw [ifb_t h2, if_pos h2]
    · rw [ifb_f h2, if_neg h2]
  | d + 1, m, i, rw_, h, hr => by
    rw [show m + (d + 1) + 1 = (m + d + 1) + 1 from by omega, f_X7_turned_28]; dsimp only
    rw [ifb_f (by rw [show (9 : Int32) = Int32.ofNat 9 from rfl, i_le _ _ (by omega) (by omega)]; omega), show (9 : Int32) * Int32.ofNat p = Int32.ofNat (9 * p) from i_mul 9 p, i_add, i_cl _ (by omega)]
    unfold f_X7_turned_72
    have next : ∀ x : Int64, x.toInt = (trc le ro p i).toInt → ∃ rw', Rw rw' (trc le ro p) ∧ ix (Int32.ofNat (9 * p + i)) 216000 (ix (Int32.ofNat i) 9 (f_X7_turned_28 R_ N (m + d + 1) U ki le ri ma bi ro ta (vp_updL rw_ (Int32.ofNat i).toNatClampNeg x) (Int32.ofNat p) (le p) (Int32.ofNat i + 1))) = f_X7_turned_95 R_ N U ki le ri ma bi ro ta rw' 2 (if 2 ≤ le p then 5 - le p else 1 - le p) := by
      intro x hx
      rw [ix_n _ _ _ (by omega) (by omega), ix_n _ _ _ (by omega) (by omega), i_cl _ (by omega), i_p1]
      apply turn_loop R_ N U hp d m (i + 1) _ (by omega)
      intro j hj
      by_cases hji : j = i
      · subst hji; rw [updL_at]; exact hx
      · rw [updL_ne _ _ _ _ hji]; exact hr j (by omega)
    by_cases h2 : 2 ≤ le p
    · rw [ifb_t h2]
      exact next _ (by rw [Int32.toInt_toInt64]; unfold trc; rw [if_pos h2])
    · rw [ifb_f h2]
      exact next _ (by rw [Int32.toInt_toInt64]; unfold trc; rw [if_neg h2])
theorem o_turned (N : Nat) (hN : 70000 ≤ N) : ∀ (d u : Nat) (ki le ri ma bi ro ta : Nat → Int32) (rw_ : Nat → Int64) (p : Nat), Pool u ki le ri ma bi ro ta → p < u → (dn ki le ri ro p).length ≤ d → u + (dn ki le ri ro p).length ≤ 24000 → ∃ s u' ki' le' ri' ma' bi' ro' ta' rw', fg_turned N d (Int32.ofNat u) ki le ri ma bi ro ta rw_ (Int32.ofNat p) = some (Int32.ofNat s, Int32.ofNat u', ki', le', ri', ma', bi', ro', ta', rw') ∧ Got u (dn ki le ri ro p).length ki le ri ro s (ng (dn ki le ri ro p)) u' ki' le' ri' ma' bi' ro' ta' := by
  intro d
  induction d with
  | zero =>
    intro u ki le ri ma bi ro ta rw_ p P hp hd hc
    have := (dn_fm P.1 p hp).pos
    omega
  | succ d ih =>
    intro u ki le ri ma bi ro ta rw_ p P hp hd hc
    have hu2 := P.1.2.1
    have h2u := P.1.1
    have fp := dn_fm P.1 p hp
    have ppos := fp.pos
    have plen := (P.2.2 p hp).2.2
    rw [fg_turned]
    unfold F_X7_turned
    rcases P.1.2.2.1 p hp with ⟨h0, h, _⟩ | ⟨h0, h, _⟩ | ⟨hp2, h, hl, hr, hA⟩ | ⟨a, b, hp2, ha, hb, hk, e1, e2, ho⟩ | ⟨v, b, hp2, hv, hb, hk, e1, e2, ho⟩
    · subst h0
      rw [ifb_f (by decide), (node0 P.1).1]
      refine ⟨1, u, ki, le, ri, ma, bi, ro, ta, rw_, rfl, P, Ag.rf, Nat.le_refl _, by omega, by omega, ?_⟩
      rw [(node0 P.1).2]; rfl
    · subst h0
      rw [ifb_f (by decide), (node0 P.1).2]
      refine ⟨0, u, ki, le, ri, ma, bi, ro, ta, rw_, rfl, P, Ag.rf, Nat.le_refl _, by omega, by omega, ?_⟩
      rw [(node0 P.1).1]; rfl
    · rw [ifb_t (by rw [show (2 : Int32) = Int32.ofNat 2 from rfl, i_le _ _ (by omega) (by omega)]; exact hp2), ix_n _ _ _ (by omega) (by omega), i_cl _ (by omega), ifb_t h, ix_n _ _ _ (by omega) (by omega)]
      obtain ⟨rw', R', e⟩ := turn_loop (ki := ki) (le := le) (ri := ri) (ma := ma) (bi := bi) (ro := ro) (ta := ta) (fg_turned N d) N (Int32.ofNat u) (p := p) (by omega) 9 (N - 10) 0 rw_ (by omega) (fun j hj => by omega)
      rw [show N - 10 + 9 + 1 = N from by omega, show Int32.ofNat 0 = 0 from rfl] at e
      rw [e]
      unfold f_X7_turned_95
      rw [dn2 h] at hc hd ⊢
      have hnl : Leaf (negRow (aRow le ro p)) := negRow_leaf (Or.inr (Or.inr hA))
      have hW : ng [aRow le ro p] = [rowc (2 + (if 2 ≤ le p then 5 - le p else 1 - le p)) (trc le ro p)] := by
        show [negRow (aRow le ro p)] = _
        rw [neg_aRow hl]
      have hAn : Atm (rowc (2 + (if 2 ≤ le p then 5 - le p else 1 - le p)) (trc le ro p)) := by
        rw [neg_aRow hl] at hnl
        rcases hnl with g | g | g
        · have := congrArg kd g
          have e3 : 2 + (if 2 ≤ le p then 5 - le p else 1 - le p) = 0 := this
          rcases hl with h | h | h | h <;> rw [h] at e3 <;> exact absurd e3 (by decide)
        · have := congrArg kd g
          have e3 : 2 + (if 2 ≤ le p then 5 - le p else 1 - le p) = 1 := this
          rcases hl with h | h | h | h <;> rw [h] at e3 <;> exact absurd e3 (by decide)
        · exact g
      obtain ⟨s, u', ki', le', ri', ma', bi', ro', ta', e4, G⟩ := o_place (rw_ := rw') (k := 2) (l := if 2 ≤ le p then 5 - le p else 1 - le p) (r := 0) (c := trc le ro p) N hN P (by simp at hc; omega) (fun _ => R') (Or.inl ⟨rfl, by rcases hl with h | h | h | h <;> rw [h] <;> decide, rfl, hAn, rfl⟩) (by simp)
      rw [bd e4, hW]
      exact ⟨s, u', ki', le', ri', ma', bi', ro', ta', rw', rfl, G⟩
    · have ek2 : ¬ (ki p = 2) := by rcases hk with h | h <;> rw [h] <;> decide
      have ek5 : ki p < 5 := by rcases hk with h | h <;> rw [h] <;> decide
      have ed := dnb P.1 hp ha hb hk e1 e2
      have fa := dn_fm P.1 a (by omega)
      have fb := dn_fm P.1 b (by omega)
      have hlen : (dn ki le ri ro p).length = (dn ki le ri ro a).length + (dn ki le ri ro b).length + 1 := by rw [ed]; simp; omega
      rw [ifb_t (by rw [show (2 : Int32) = Int32.ofNat 2 from rfl, i_le _ _ (by omega) (by omega)]; exact hp2), ix_n _ _ _ (by omega) (by omega), i_cl _ (by omega), ifb_f ek2, ix_n _ _ _ (by omega) (by omega), ifb_t ek5, ix_n _ _ _ (by omega) (by omega), e1]
      obtain ⟨s1, u1, k1, l1, r1, m1, b1, o1, t1, w1, g1, G1⟩ := ih u ki le ri ma bi ro ta rw_ a P (by omega) (by omega) (by omega)
      obtain ⟨P1, A1, c1, c2, c3, c4⟩ := G1
      rw [bd g1, ix_n _ _ _ (by omega) (by omega)]
      have hr1 : r1 p = Int32.ofNat b := by rw [(A1 p hp).2.2.1, e2]
      dsimp only
      rw [hr1]
      have d1b : dn k1 l1 r1 o1 b = dn ki le ri ro b := dn_ag P.1.2.2.1 hu2 A1 (by omega)
      obtain ⟨s2, u2, k2, l2, r2, m2, b2, o2, t2, w2, g2, G2⟩ := ih u1 k1 l1 r1 m1 b1 o1 t1 w1 b P1 (by omega) (by rw [d1b]; omega) (by rw [d1b]; omega)
      obtain ⟨P2, A2, f1, f2, f3, f4⟩ := G2
      rw [d1b] at f2 f4
      rw [bd g2, ix_n _ _ _ (by omega) (by omega)]
      have hk2' : k2 p = ki p := by rw [(A2 p (by omega)).1, (A1 p hp).1]
      have d2s : dn k2 l2 r2 o2 s1 = ng (dn ki le ri ro a) := by rw [dn_ag P1.1.2.2.1 P1.1.2.1 A2 (by omega), c4]
      have hokn := ng_ok fa fb ho
      have na := (ng_fm fa).1
      have nb := (ng_fm fb).1
      have fin : ∀ x1 : Int32, (if x1 = 0 then (7 : Int32) else 6) = (ki p + 3) ^^^ 1 → ∃ s u' ki' le' ri' ma' bi' ro' ta' rw', f_X7_turned_178 (fg_turned N d) N (Int32.ofNat u2) k2 l2 r2 m2 b2 o2 t2 w2 (Int32.ofNat s1) (Int32.ofNat s2) x1 = some (Int32.ofNat s, Int32.ofNat u', ki', le', ri', ma', bi', ro', ta', rw') ∧ Got u (dn ki le ri ro p).length ki le ri ro s (ng (dn ki le ri ro p)) u' ki' le' ri' ma' bi' ro' ta' := by
        intro x1 hx
        unfold f_X7_turned_178
        obtain ⟨s, u', ki', le', ri', ma', bi', ro', ta', e, Q1, Q2, Q3, Q4, Q5, Q6⟩ := o_both (rw_ := w2) N hN P2 (by omega) x1 (p := s1) (q := s2) (by omega) f3 (by rw [d2s, f4, ng_len, ng_len]; omega)
        rw [bd e]
        refine ⟨s, u', ki', le', ri', ma', bi', ro', ta', w2, rfl, Q1, (A1.tr A2 c1).tr Q2 (by omega), by omega, by omega, Q5, ?_⟩
        have hkk : ki p + 3 = 6 ∨ ki p + 3 = 7 := by rcases hk with h | h <;> rw [h] <;> decide
        rw [Q6, d2s, f4, hx, mk_ok na nb hokn (xor6 hkk), ed, ng_app, ng_app]
        congr 1
        show _ = [negRow (row0 (ki p + 3))]
        rw [negRow_b _ hkk]
      by_cases h4 : ki p = 4
      · refine Eq.mp ?_ (fin 1 (by rw [h4]; decide))
        rw [ifb_t (show k2 p = 4 by rw [hk2', h4])]
      · have h3 : ki p = 3 := hk.resolve_right h4
        refine Eq.mp ?_ (fin 0 (by rw [h3]; decide))
        rw [ifb_f (show ¬ (k2 p = 4) by rw [hk2']; exact h4)]
    · have ek2 : ¬ (ki p = 2) := by rcases hk with h | h <;> rw [h] <;> decide
      have ek5 : ¬ (ki p < 5) := by rcases hk with h | h <;> rw [h] <;> decide
      have ed := dnq P.1 hp hv hb hk e1 e2
      have fb := dn_fm P.1 b (by omega)
      have hlen : (dn ki le ri ro p).length = (dn ki le ri ro b).length + 1 := by rw [ed]; simp
      rw [ifb_t (by rw [show (2 : Int32) = Int32.ofNat 2 from rfl, i_le _ _ (by omega) (by omega)]; exact hp2), ix_n _ _ _ (by omega) (by omega), i_cl _ (by omega), ifb_f ek2, ix_n _ _ _ (by omega) (by omega), ifb_f ek5, ix_n _ _ _ (by omega) (by omega), ix_n _ _ _ (by omega) (by omega), ix_n _ _ _ (by omega) (by omega), e2]
      obtain ⟨s1, u1, k1, l1, r1, m1, b1, o1, t1, w1, g1, P1, A1, c1, c2, c3, c4⟩ := ih u ki le ri ma bi ro ta rw_ b P (by omega) (by omega) (by omega)
      rw [bd g1, e1]
      obtain ⟨n1, n2, n3⟩ := ng_fm fb
      have hkk : ki p + 3 = 8 ∨ ki p + 3 = 9 := by rcases hk with h | h <;> rw [h] <;> decide
      obtain ⟨s, u', ki', le', ri', ma', bi', ro', ta', e, Q1, Q2, Q3, Q4, Q5, Q6⟩ := o_place (rw_ := w1) (k := 11 - ki p) (l := Int32.ofNat v) (r := Int32.ofNat s1) (c := fun _ => 0) N hN P1 (by omega) (fun h => by
        rcases hk with g | g <;> rw [g] at h <;> exact absurd h (by decide)) (Or.inr (Or.inr ⟨v, s1, hv, c3, by rcases hk with g | g <;> rw [g] <;> decide, rfl, rfl, by unfold okQu at *; rw [c4, n2]; exact ho, rfl⟩)) (by rw [c4, List.length_append, ng_len]; simp; omega)
      rw [bd e]
      refine ⟨s, u', ki', le', ri', ma', bi', ro', ta', w1, rfl, Q1, A1.tr Q2 c1, by omega, by omega, Q5, ?_⟩
      rw [Q6, c4, ed, ng_app]
      congr 1
      show _ = [negRow (rowq (ki p + 3) v)]
      rw [negRow_q _ v hkk]
      rcases hk with g | g <;> rw [g] <;> rfl
end TURN
