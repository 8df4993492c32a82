def qV (a b : Int32) : List Int32 := [0, 0, 0, 0, 0, 0, 0, 0, 0, a, b]
def vLf (v : Nat) (q : List Int32) (r : List Int32) : List (List Int32) × Option (List (List Int32)) := ([r], subLeaf v (some q) r)
def vQu (v : Nat) (r : List Int32) (x : List (List Int32) × Option (List (List Int32))) : List (List Int32) × Option (List (List Int32)) := (x.1 ++ [r], if qv r = Int32.ofNat v then some (x.1 ++ [r]) else x.2.bind (fun y => some (bq (kd r) (qv r).toNatClampNeg y)))
def vBi (r : List Int32) (x y : List (List Int32) × Option (List (List Int32))) : List (List Int32) × Option (List (List Int32)) := (x.1 ++ y.1 ++ [r], x.2.bind (fun a => y.2.bind (fun b => some (mk (kd r) a b))))
def valP (v : Nat) (q : List Int32) (l : List (List Int32)) : List (List Int32) × Option (List (List Int32)) := cata (vLf v q) (vQu v) vBi ([], none) l
def val (v : Nat) (q : List Int32) (l : List (List Int32)) : Option (List (List Int32)) := (valP v q l).2
theorem valP_1 {v : Nat} {q : List Int32} {l : List (List Int32)} (F : Fm l) : (valP v q l).1 = l := by
  refine Fm.ind (P := fun l => (valP v q l).1 = l) ?_ ?_ ?_ F
  · intro r hr
    unfold valP; rw [cata_leaf _ _ _ _ hr]; rfl
  · intro a k w ha ih hk hw _
    have : valP v q (a ++ [rowq k w]) = vQu v (rowq k w) (valP v q a) := cata_qu _ _ _ _ ha hk w
    rw [this]
    show (valP v q a).1 ++ [rowq k w] = _
    rw [ih]
  · intro a b k ha hb iha ihb hk _
    have : valP v q (a ++ b ++ [row0 k]) = vBi (row0 k) (valP v q a) (valP v q b) := cata_bi _ _ _ _ ha hb hk
    rw [this]
    show (valP v q a).1 ++ (valP v q b).1 ++ [row0 k] = _
    rw [iha, ihb]
theorem val_leaf {v : Nat} {q : List Int32} {r : List Int32} (h : Leaf r) : val v q [r] = subLeaf v (some q) r := by
  unfold val valP; rw [cata_leaf _ _ _ _ h]; rfl
theorem val_qu {v : Nat} {q : List Int32} {a : List (List Int32)} {k : Int32} (ha : Fm a) (hk : k = 8 ∨ k = 9) {w : Nat} (hw : w < 8) (hv : v < 8) : val v q (a ++ [rowq k w]) = if w = v then some (a ++ [rowq k w]) else (val v q a).bind (fun y => some (bq k w y)) := by
  unfold val
  have : valP v q (a ++ [rowq k w]) = vQu v (rowq k w) (valP v q a) := cata_qu _ _ _ _ ha hk w
  rw [this]
  show (if qv (rowq k w) = Int32.ofNat v then some ((valP v q a).1 ++ [rowq k w]) else (valP v q a).2.bind (fun y => some (bq (kd (rowq k w)) (qv (rowq k w)).toNatClampNeg y))) = _
  have e1 : kd (rowq k w) = k := rfl
  have e2 : qv (rowq k w) = Int32.ofNat w := rfl
  rw [e1, e2, valP_1 ha, i_cl _ (by omega)]
  by_cases h : w = v
  · rw [if_pos (by rw [h]), if_pos h]
  · rw [if_neg (by rw [i_eq _ _ (by omega) (by omega)]; exact h), if_neg h]
theorem val_bi {v : Nat} {q : List Int32} {a b : List (List Int32)} {k : Int32} (ha : Fm a) (hb : Fm b) (hk : k = 6 ∨ k = 7) : val v q (a ++ b ++ [row0 k]) = (val v q a).bind (fun x => (val v q b).bind (fun y => some (mk k x y))) := by
  unfold val
  have : valP v q (a ++ b ++ [row0 k]) = vBi (row0 k) (valP v q a) (valP v q b) := cata_bi _ _ _ _ ha hb hk
  rw [this]; rfl
theorem bq_ok {k : Int32} {v : Nat} {a : List (List Int32)} (ho : okQu v a) : bq k v a = a ++ [rowq k v] := by
  unfold bq; rw [if_neg ho]
theorem val_id {v : Nat} (hv : v < 8) {q : List Int32} {l : List (List Int32)} (F : Fm l) : bt (fv l) v = 0 → val v q l = some l := by
  refine Fm.ind (P := fun l => bt (fv l) v = 0 → val v q l = some l) ?_ ?_ ?_ F
  · intro r hr h
    rw [fv_leaf hr] at h
    rw [val_leaf hr]; unfold subLeaf
    rw [if_pos ((rb_bit r v hv).mp h)]
  · intro a k w ha ih hk hw ho h
    rw [val_qu ha hk hw hv]
    by_cases c : w = v
    · rw [if_pos c]
    · rw [if_neg c]
      rw [fv_qu ha hk, bt_clear _ _ _ hw hv] at h
      rw [ih (h.resolve_left c)]
      show some (bq k w a) = _
      rw [bq_ok ho]
  · intro a b k ha hb iha ihb hk ho h
    rw [fv_bi ha hb hk, bt_or _ _ _ hv] at h
    rw [val_bi ha hb hk, iha h.1, ihb h.2]
    show some (mk k a b) = _
    rw [mk_ok ha hb ho hk]
theorem w_mk {a b : List (List Int32)} (ha : Fm a) (hb : Fm b) {k : Int32} (hk : k = 6 ∨ k = 7) : wB (mk k a b) ≤ wB a + wB b + 1 ∧ wU (mk k a b) ≤ wB a + wB b + 3 := by
  have := w_le ha
  have := w_le hb
  unfold mk; split
  · omega
  · split
    · omega
    · rw [(w_bi ha hb hk).1, (w_bi ha hb hk).2]; omega
theorem w_bq {a : List (List Int32)} (ha : Fm a) {k : Int32} (hk : k = 8 ∨ k = 9) (v : Nat) : wB (bq k v a) ≤ wU a + 3 ∧ wU (bq k v a) ≤ wU a + 3 := by
  have := w_le ha
  unfold bq; split
  · omega
  · rw [(w_qu ha hk v).1, (w_qu ha hk v).2]; omega
theorem bq_len (k : Int32) (v : Nat) (a : List (List Int32)) : (bq k v a).length ≤ a.length + 1 := by
  unfold bq; split
  · omega
  · simp
theorem w_leaf_le {r r' : List Int32} (A : Atm r) (h : Leaf r') : wB [r'] ≤ wB [r] ∧ wU [r'] ≤ wU [r] := by
  have hr : Leaf r := Or.inr (Or.inr A)
  rw [(w_leaf h).1, (w_leaf h).2, (w_leaf hr).1, (w_leaf hr).2, if_neg (show ¬ (kd r < 2) by rcases A.2.1 with g | g | g | g <;> rw [g] <;> decide)]
  split <;> omega
theorem val_ok {v : Nat} (hv : v < 8) {q : List Int32} {l : List (List Int32)} (F : Fm l) : ∀ {f}, val v q l = some f → Fm f ∧ f.length ≤ l.length ∧ (Qf l → Qf f) ∧ wB f ≤ wB l ∧ wU f ≤ wU l := by
  refine Fm.ind (P := fun l => ∀ {f}, val v q l = some f → Fm f ∧ f.length ≤ l.length ∧ (Qf l → Qf f) ∧ wB f ≤ wB l ∧ wU f ≤ wU l) ?_ ?_ ?_ F
  · intro r hr f h
    rw [val_leaf hr] at h
    unfold subLeaf at h
    by_cases hz : r.getD (1 + v) 0 = 0
    · rw [if_pos hz] at h; cases h
      exact ⟨Fm.leaf hr, Nat.le_refl _, fun g => g, Nat.le_refl _, Nat.le_refl _⟩
    · rw [if_neg hz] at h
      obtain ⟨r', e, rfl⟩ := Option.map_eq_some_iff.mp h
      have A := leaf_atm hr hv hz
      have hl := rep_leaf A e
      exact ⟨Fm.leaf hl, Nat.le_refl _, fun _ => Qf.leaf hl, w_leaf_le A hl⟩
  · intro a k w ha ih hk hw ho f h
    rw [val_qu ha hk hw hv] at h
    by_cases c : w = v
    · rw [if_pos c] at h; cases h
      exact ⟨Fm.qu ha hk hw ho, Nat.le_refl _, fun g => g, Nat.le_refl _, Nat.le_refl _⟩
    · rw [if_neg c] at h
      obtain ⟨y, ey, h⟩ := Option.bind_eq_some_iff.mp h
      cases h
      obtain ⟨y1, y2, y3, y4, y5⟩ := ih ey
      have b1 := w_bq y1 hk w
      have b2 := bq_len k w y
      rw [(w_qu ha hk w).1, (w_qu ha hk w).2]
      exact ⟨bq_fm y1 hk hw, by simp; omega, fun g => (g.no hk).elim, by omega, by omega⟩
  · intro a b k ha hb iha ihb hk ho f h
    rw [val_bi ha hb hk] at h
    obtain ⟨x, ex, h⟩ := Option.bind_eq_some_iff.mp h
    obtain ⟨y, ey, h⟩ := Option.bind_eq_some_iff.mp h
    cases h
    obtain ⟨x1, x2, x3, x4, x5⟩ := iha ex
    obtain ⟨y1, y2, y3, y4, y5⟩ := ihb ey
    have b1 := w_mk x1 y1 hk
    have b2 := mk_len k x y
    rw [(w_bi ha hb hk).1, (w_bi ha hb hk).2]
    exact ⟨mk_fm x1 y1 hk, by simp; omega, fun g => (x3 g.left.left).mk (y3 g.left.right) hk, by omega, by omega⟩
theorem qV_bd {a b : Int32} (h1 : -99 ≤ a.toInt) (h2 : a.toInt ≤ 99) (h3 : 1 ≤ b.toInt) (h4 : b.toInt ≤ 9) : PtB (qV a b) := by
  intro j hj
  unfold qV
  have : j = 0 ∨ j = 1 ∨ j = 2 ∨ j = 3 ∨ j = 4 ∨ j = 5 ∨ j = 6 ∨ j = 7 ∨ j = 8 ∨ j = 9 ∨ j = 10 := by omega
  rcases this with h | h | h | h | h | h | h | h | h | h | h <;> subst h
  all_goals first
    | (show -1000000000 ≤ (0 : Int32).toInt ∧ (0 : Int32).toInt ≤ 1000000000; decide)
    | (show -1000000000 ≤ a.toInt ∧ a.toInt ≤ 1000000000; omega)
    | (show -1000000000 ≤ b.toInt ∧ b.toInt ≤ 1000000000; omega)
section VALD
variable {u : Nat} {ki le ri ma bi ro ta : Nat → Int32}
abbrev VT := Int32 → Int32 → Int32 → (Nat → Int32) → (Nat → Int32) → (Nat → Int32) → (Nat → Int32) → (Nat → Int32) → (Nat → Int32) → (Nat → Int32) → (Nat → Int32) → (Nat → Int32) → (Nat → Int64) → Int32 → Option (Int32 × (Int32) × (Int32) × (Nat → Int32) × (Nat → Int32) × (Nat → Int32) × (Nat → Int32) × (Nat → Int32) × (Nat → Int32) × (Nat → Int32) × (Nat → Int64))
theorem vd_loop (R_ : VT) (N : Nat) (U gr : Int32) (ab be : Nat → Int32) {p v : Nat} (hp : p < 24000) (hv : v < 8) (A : Atm (aRow le ro p)) {a b : Int32} (ha1 : -99 ≤ a.toInt) (ha2 : a.toInt ≤ 99) (hb1 : 1 ≤ b.toInt) (hb2 : b.toInt ≤ 9) : ∀ (d m k : Nat) (row : Nat → Int64), k + d = 9 → (∀ j, j < k → (row j).toInt = sc (aRow le ro p) v (qV a b) j) → ∃ row', Sm row' (sc (aRow le ro p) v (qV a b)) ∧ f_X7_valued_78 R_ N (m + d + 1) U gr (Int32.ofNat v) ki le ri ma bi ro ta ab be row (Int32.ofNat p) a.toInt64 b.toInt64 (ro (9 * p + v)).toInt64 (Int32.ofNat k) = f_X7_valued_78 R_ N 1 U gr (Int32.ofNat v) ki le ri ma bi ro ta ab be row' (Int32.ofNat p) a.toInt64 b.toInt64 (ro (9 * p + v)).toInt64 9
  | 0, m, k, row, h, hr => by
    have : k = 9 := by omega
    subst this
    refine ⟨row, fun j hj => ⟨hr j hj, sc_bd A hv (qV_bd ha1 ha2 hb1 hb2) j hj⟩, ?_⟩
    rw [f_X7_valued_78, f_X7_valued_78]; dsimp only
    rw [show Int32.ofNat 9 = 9 from rfl, ifb_t (by decide), ifb_t (by decide)]
  | d + 1, m, k, row, h, hr => by
    rw [show m + (d + 1) + 1 = (m + d + 1) + 1 from by omega]
    have eu : ∀ n, f_X7_valued_78 R_ N (n + 1) U gr (Int32.ofNat v) ki le ri ma bi ro ta ab be row (Int32.ofNat p) a.toInt64 b.toInt64 (ro (9 * p + v)).toInt64 (Int32.ofNat k) = ifb (9 ≤ Int32.ofNat k) (ix (Int32.ofNat p) 24000 ((f_X7_atom N U gr ki le ri ma bi ro ta row (le (Int32.ofNat p).toNatClampNeg)).bind (fun z150 => some (z150.1, z150.2.1, z150.2.2.1, z150.2.2.2.1, z150.2.2.2.2.1, z150.2.2.2.2.2.1, z150.2.2.2.2.2.2.1, z150.2.2.2.2.2.2.2.1, z150.2.2.2.2.2.2.2.2.1, z150.2.2.2.2.2.2.2.2.2.1, z150.2.2.2.2.2.2.2.2.2.2)))) (ifb (Int32.ofNat k = Int32.ofNat v) (f_X7_valued_136 R_ (f_X7_valued_78 R_ N n) N U gr (Int32.ofNat v) ki le ri ma bi ro ta ab be row (Int32.ofNat p) a.toInt64 b.toInt64 (ro (9 * p + v)).toInt64 (Int32.ofNat k) (Int32.ofNat k) 0) (ix ((9 * Int32.ofNat p) + Int32.ofNat k) 216000 (ifb (Int32.ofNat k = 8) (f_X7_valued_135 R_ (f_X7_valued_78 R_ N n) N U gr (Int32.ofNat v) ki le ri ma bi ro ta ab be row (Int32.ofNat p) a.toInt64 b.toInt64 (ro (9 * p + v)).toInt64 (Int32.ofNat k) (Int32.ofNat k) (b.toInt64 * ((ro ((9 * Int32.ofNat p) + Int32.ofNat k).toNatClampNeg).toInt64)) (a.toInt64 * (ro (9 * p + v)).toInt64)) (f_X7_valued_135 R_ (f_X7_valued_78 R_ N n) N U gr (Int32.ofNat v) ki le ri ma bi ro ta ab be row (Int32.ofNat p) a.toInt64 b.toInt64 (ro (9 * p + v)).toInt64 (Int32.ofNat k) (Int32.ofNat k) (b.toInt64 * ((ro ((9 * Int32.ofNat p) + Int32.ofNat k).toNatClampNeg).toInt64)) 0)))) := fun n => rfl
    rw [eu, ifb_f (by rw [show (9 : Int32) = Int32.ofNat 9 from rfl, i_le _ _ (by omega) (by omega)]; omega)]
    have step : ∀ x : Int64, x.toInt = sc (aRow le ro p) v (qV a b) k → ∃ row', Sm row' (sc (aRow le ro p) v (qV a b)) ∧ f_X7_valued_136 R_ (f_X7_valued_78 R_ N (m + d + 1)) N U gr (Int32.ofNat v) ki le ri ma bi ro ta ab be row (Int32.ofNat p) a.toInt64 b.toInt64 (ro (9 * p + v)).toInt64 (Int32.ofNat k) (Int32.ofNat k) x = f_X7_valued_78 R_ N 1 U gr (Int32.ofNat v) ki le ri ma bi ro ta ab be row' (Int32.ofNat p) a.toInt64 b.toInt64 (ro (9 * p + v)).toInt64 9 := by
      intro x hx
      unfold f_X7_valued_136
      rw [ix_n _ _ _ (by omega) (by omega), i_cl _ (by omega), i_p1]
      apply vd_loop R_ N U gr ab be hp hv A ha1 ha2 hb1 hb2 d m (k + 1) _ (by omega)
      intro j hj
      by_cases hjk : j = k
      · rw [hjk, updL_at]; exact hx
      · rw [updL_ne _ _ _ _ hjk]; exact hr j (by omega)
    have hq0 : ∀ j, j < 8 → (qV a b).getD (1 + j) 0 = 0 := by
      intro j hj
      have : j = 0 ∨ j = 1 ∨ j = 2 ∨ j = 3 ∨ j = 4 ∨ j = 5 ∨ j = 6 ∨ j = 7 := by omega
      rcases this with h | h | h | h | h | h | h | h <;> subst h <;> rfl
    by_cases hkv : k = v
    · rw [ifb_t (by rw [hkv])]
      apply step
      unfold sc
      rw [if_pos hkv, hkv, hq0 v hv]
      show (0 : Int) = 0 + _ * 0
      omega
    · obtain ⟨_, _, hb, _⟩ := id A
      have h1 := hb (1 + k) (by omega) (by omega)
      have h2 := hb (1 + v) (by omega) (by omega)
      have e10 : (qV a b).getD 10 0 = b := rfl
      have m1 := mul_bd _ _ h1.1 h1.2 (show -1000000000 ≤ b.toInt by omega) (show b.toInt ≤ 1000000000 by omega)
      have m2 := mul_bd _ _ h2.1 h2.2 (show -1000000000 ≤ a.toInt by omega) (show a.toInt ≤ 1000000000 by omega)
      rw [ifb_f (by rw [i_eq _ _ (by omega) (by omega)]; exact hkv), show (9 : Int32) * Int32.ofNat p = Int32.ofNat (9 * p) from i_mul 9 p, i_add, ix_n _ _ _ (by omega) (by omega), i_cl _ (by omega)]
      rw [aRow_get _ _ _ _ (by omega)] at m1 m2
      rw [Int.mul_comm] at m1 m2
      have e1 := L_mul b.toInt64 (ro (9 * p + k)).toInt64 _ _ (Int32.toInt_toInt64 _) (Int32.toInt_toInt64 _) (by omega) (by omega)
      have e2 := L_mul a.toInt64 (ro (9 * p + v)).toInt64 _ _ (Int32.toInt_toInt64 _) (Int32.toInt_toInt64 _) (by omega) (by omega)
      unfold f_X7_valued_135
      by_cases h8 : k = 8
      · rw [ifb_t (by rw [h8]; rfl)]
        apply step
        rw [L_add _ _ _ _ e1 e2 (by omega) (by omega)]
        unfold sc
        rw [if_neg hkv, e10, aRow_get _ _ _ _ (by omega), aRow_get _ _ _ _ (by omega), h8, show (qV a b).getD (1 + 8) 0 = a from rfl, Int.mul_comm b.toInt, Int.mul_comm a.toInt]
      · rw [ifb_f (by rw [show (8 : Int32) = Int32.ofNat 8 from rfl, i_eq _ _ (by omega) (by omega)]; exact h8)]
        apply step
        rw [L_add _ _ _ _ e1 (show (0 : Int64).toInt = 0 from rfl) (by omega) (by omega)]
        unfold sc
        rw [if_neg hkv, e10, aRow_get _ _ _ _ (by omega), hq0 k (by omega), Int.mul_comm b.toInt]
        show _ = _ + _ * (0 : Int)
        omega
theorem valued_gr (N : Nat) (U va : Int32) (ab be : Nat → Int32) (row : Nat → Int64) (d p : Nat) (hp : p < 24000) : fg_valued N (d + 1) U 1 va ki le ri ma bi ro ta ab be row (Int32.ofNat p) = some (Int32.ofNat p, U, 1, ki, le, ri, ma, bi, ro, ta, row) := by
  rw [fg_valued]
  unfold F_X7_valued f_X7_valued_23
  rw [ix_n _ _ _ (by omega) (by omega), i_cl _ (by omega)]
  by_cases h : (((bi p) >>> (va &&& 31)) &&& 1) = 0
  · rw [ifb_t h]
  · rw [ifb_f h, ifb_f (by decide)]
end VALD
theorem o_valued (N : Nat) (hN : 70000 ≤ N) {v : Nat} (hv : v < 8) {ab be : Nat → Int32} (V : Vl ab be) : ∀ (d : Nat) {u : Nat} {ki le ri ma bi ro ta : Nat → Int32} (row : Nat → Int64) (p : Nat), Pool u ki le ri ma bi ro ta → p < u → (dn ki le ri ro p).length ≤ d → (dn ki le ri ro p).length ≤ 400 → u + (dn ki le ri ro p).length ≤ 24000 → ∃ s u' gr' ki' le' ri' ma' bi' ro' ta' row', fg_valued N d (Int32.ofNat u) 0 (Int32.ofNat v) ki le ri ma bi ro ta ab be row (Int32.ofNat p) = some (Int32.ofNat s, Int32.ofNat u', gr', ki', le', ri', ma', bi', ro', ta', row') ∧ OGot u (dn ki le ri ro p).length ki le ri ro s (val v (qV (ab v) (be v)) (dn ki le ri ro p)) u' gr' ki' le' ri' ma' bi' ro' ta' := by
  obtain ⟨v1, v2, v3, v4⟩ := V v hv
  intro d
  induction d with
  | zero =>
    intro u ki le ri ma bi ro ta row p P hp hd _ _
    have := (dn_fm P.1 p hp).pos
    omega
  | succ d ih =>
    intro u ki le ri ma bi ro ta row p P hp hd h4 hc
    have hu2 := P.1.2.1
    have h2u := P.1.1
    have fp := dn_fm P.1 p hp
    have ppos := fp.pos
    obtain ⟨_, mbb, _⟩ := P.2.2 p hp
    rw [fg_valued]
    unfold F_X7_valued
    rw [ix_n _ _ _ (by omega) (by omega), i_cl _ (by omega)]
    by_cases hb0 : bt (fv (dn ki le ri ro p)) v = 0
    · rw [ifb_t (by rw [mbb]; exact hb0), val_id hv fp hb0]
      exact ⟨p, u, 0, ki, le, ri, ma, bi, ro, ta, row, rfl, _, P.here hp, h4, Or.inr ⟨rfl, rfl⟩⟩
    · rw [ifb_f (by rw [mbb]; exact hb0), ifb_t rfl, ix_n _ _ _ (by omega) (by omega)]
      rcases P.1.2.2.1 p hp with ⟨h0, h, _⟩ | ⟨h0, h, _⟩ | ⟨hp2, h, hl, hr, hA⟩ | ⟨a, b, hp2, ha, hb, hk, e1, e2, ho⟩ | ⟨w, b, hp2, hw, hb, hk, e1, e2, ho⟩
      · rw [dn0 h] at hb0
        exact absurd ((rb_bit (row0 0) v hv).mpr (by rw [row0_get _ _ (by omega), if_neg (by omega)])) hb0
      · rw [dn1 h] at hb0
        exact absurd ((rb_bit (row0 1) v hv).mpr (by rw [row0_get _ _ (by omega), if_neg (by omega)])) hb0
      · rw [ifb_t h]
        have hlf : Leaf (aRow le ro p) := Or.inr (Or.inr hA)
        have hz : (aRow le ro p).getD (1 + v) 0 ≠ 0 := by
          intro g
          rw [dn2 h, fv_leaf hlf, rb_bit _ v hv] at hb0
          exact hb0 g
        have hval : val v (qV (ab v) (be v)) (dn ki le ri ro p) = (stl (2 + le p) (sc (aRow le ro p) v (qV (ab v) (be v)))).map (fun x => [x]) := by
          rw [dn2 h, val_leaf hlf]
          unfold subLeaf
          rw [if_neg hz]
          show (rep v (qV (ab v) (be v)) (aRow le ro p)).map _ = _
          unfold rep
          rw [show (qV (ab v) (be v)).getD 0 0 = 0 from rfl, if_neg (by decide)]; rfl
        obtain ⟨row', S, e⟩ := vd_loop (ki := ki) (le := le) (ri := ri) (ma := ma) (bi := bi) (ro := ro) (ta := ta) (fg_valued N d) N (Int32.ofNat u) 0 ab be (show p < 24000 by omega) hv hA v1 v2 v3 v4 9 (N - 10) 0 row rfl (fun j hj => by omega)
        rw [show N - 10 + 9 + 1 = N from by omega] at e
        rw [ix_n _ _ _ (by omega) (by omega), ix_n _ _ _ (by omega) (by omega), show (9 : Int32) * Int32.ofNat p = Int32.ofNat (9 * p) from i_mul 9 p, i_add, ix_n _ _ _ (by omega) (by omega), i_cl _ (by omega), i_cl _ (by omega)]
        rw [show (0 : Int32) = Int32.ofNat 0 from rfl] at e ⊢
        rw [e]
        obtain ⟨s, u', gr', ki', le', ri', ma', bi', ro', ta', row'', ea, G⟩ := o_atom7 N hN P (by omega) S hl (gr := 0) (Or.inl rfl)
        rw [f_X7_valued_78]; dsimp only
        rw [ifb_t (by decide), ix_n _ _ _ (by omega) (by omega), i_cl _ (by omega), show Int32.ofNat 0 = 0 from rfl, bd ea]
        have hlen : (dn ki le ri ro p).length = 1 := by rw [dn2 h]; rfl
        rw [hlen, hval]
        exact ⟨s, u', gr', ki', le', ri', ma', bi', ro', ta', row'', rfl, G.og⟩
      · have ek2 : ¬ (ki p = 2) := by rcases hk with h | h <;> rw [h] <;> decide
        have ed := dnb P.1 hp ha hb hk e1 e2
        have fa := dn_fm P.1 a (by omega)
        have fb := dn_fm P.1 b (by omega)
        have hkk : ki p + 3 = 6 ∨ ki p + 3 = 7 := by rcases hk with h | h <;> rw [h] <;> decide
        have hlen : (dn ki le ri ro p).length = (dn ki le ri ro a).length + (dn ki le ri ro b).length + 1 := by rw [ed]; simp; omega
        have hsub : val v (qV (ab v) (be v)) (dn ki le ri ro p) = (val v (qV (ab v) (be v)) (dn ki le ri ro a)).bind (fun x => (val v (qV (ab v) (be v)) (dn ki le ri ro b)).bind (fun y => some (mk (ki p + 3) x y))) := by rw [ed]; exact val_bi fa fb hkk
        obtain ⟨s1, u1, g1, k1, l1, r1, m1, b1, o1, t1, w1, f1, W1, ⟨P1, A1, c1, c2, c3, c4⟩, c5, c6⟩ := ih row a P (by omega) (by omega) (by omega) (by omega)
        have apos := fa.pos
        have bpos := fb.pos
        obtain ⟨d, rfl⟩ : ∃ e, d = e + 1 := ⟨d - 1, by omega⟩
        rw [ifb_f ek2, ix_n _ _ _ (by omega) (by omega), ifb_t (by rcases hk with h | h <;> rw [h] <;> decide), ix_n _ _ _ (by omega) (by omega), e1, bd f1, ix_n _ _ _ (by omega) (by omega)]
        have hr1 : r1 p = Int32.ofNat b := by rw [(A1 p hp).2.2.1, e2]
        dsimp only
        rw [hr1]
        unfold f_X7_valued_267
        rcases c6 with ⟨rfl, hn⟩ | ⟨rfl, hs1⟩
        ·
          rw [bd (valued_gr N (Int32.ofNat u1) (Int32.ofNat v) ab be w1 d b (by omega)), ifb_f (show ¬ ((1 : Int32) = 0) by decide)]
          refine ⟨0, u1, 1, k1, l1, r1, m1, b1, o1, t1, w1, rfl, fT, ⟨P1, A1, c1, by omega, by have := P1.1.1; omega, (node0 P1.1).1⟩, by decide, Or.inl ⟨rfl, by rw [hsub, hn]; rfl⟩⟩
        · have d1b : dn k1 l1 r1 o1 b = dn ki le ri ro b := dn_ag P.1.2.2.1 hu2 A1 (by omega)
          obtain ⟨s2, u2, g2, k2, l2, r2, m2, b2, o2, t2, w2, f2, W2, ⟨P2, A2, q1, q2, q3, q4⟩, q5, q6⟩ := ih w1 b P1 (by omega) (by rw [d1b]; omega) (by rw [d1b]; omega) (by rw [d1b]; omega)
          rw [d1b] at q2 q6
          rw [bd f2]
          dsimp only
          rcases q6 with ⟨rfl, hn⟩ | ⟨rfl, hs2⟩
          · rw [ifb_f (by decide)]
            refine ⟨0, u2, 1, k2, l2, r2, m2, b2, o2, t2, w2, rfl, fT, ⟨P2, A1.tr A2 c1, by omega, by omega, by have := P2.1.1; omega, (node0 P2.1).1⟩, by decide, Or.inl ⟨rfl, by rw [hsub, hs1, hn]; rfl⟩⟩
          · rw [ifb_t rfl, ix_n _ _ _ (by omega) (by omega)]
            have hk2' : k2 p = ki p := by rw [(A2 p (by omega)).1, (A1 p hp).1]
            have d2s : dn k2 l2 r2 o2 s1 = W1 := by rw [dn_ag P1.1.2.2.1 P1.1.2.1 A2 (by omega), c4]
            have lw1 := (val_ok hv fa hs1).2.1
            have lw2 := (val_ok hv fb hs2).2.1
            have fin : ∀ x1 : Int32, (if x1 = 0 then (7 : Int32) else 6) = ki p + 3 → ∃ s u' gr' ki' le' ri' ma' bi' ro' ta' row', f_X7_valued_262 (fg_valued N (d + 1)) N (Int32.ofNat u2) 0 (Int32.ofNat v) k2 l2 r2 m2 b2 o2 t2 ab be w2 (Int32.ofNat s1) (Int32.ofNat s2) x1 = some (Int32.ofNat s, Int32.ofNat u', gr', ki', le', ri', ma', bi', ro', ta', row') ∧ OGot u (dn ki le ri ro p).length ki le ri ro s (val v (qV (ab v) (be v)) (dn ki le ri ro p)) u' gr' ki' le' ri' ma' bi' ro' ta' := by
              intro x1 hx
              unfold f_X7_valued_262 f_X7_valued_267
              obtain ⟨s, u', ki', le', ri', ma', bi', ro', ta', e, Q1, Q2, Q3, Q4, Q5, Q6⟩ := o_both (rw_ := w2) N hN P2 (by omega) x1 (p := s1) (q := s2) (by omega) q3 (by rw [d2s, q4]; omega)
              rw [bd e]
              rw [d2s, q4, hx] at Q6
              have hml := mk_len (ki p + 3) W1 W2
              refine ⟨s, u', 0, ki', le', ri', ma', bi', ro', ta', w2, rfl, mk (ki p + 3) W1 W2, ⟨Q1, (A1.tr A2 c1).tr Q2 (by omega), by omega, by omega, Q5, Q6⟩, by omega, Or.inr ⟨rfl, by rw [hsub, hs1, hs2]; rfl⟩⟩
            rcases hk with h | h
            · rw [ifb_t (by rw [hk2', h])]; exact fin 1 (by rw [h]; decide)
            · rw [ifb_f (by rw [hk2', h]; decide)]; exact fin 0 (by rw [h]; decide)
      · have ek2 : ¬ (ki p = 2) := by rcases hk with h | h <;> rw [h] <;> decide
        have ed := dnq P.1 hp hw hb hk e1 e2
        have fb := dn_fm P.1 b (by omega)
        have hkk : ki p + 3 = 8 ∨ ki p + 3 = 9 := by rcases hk with h | h <;> rw [h] <;> decide
        have hlen : (dn ki le ri ro p).length = (dn ki le ri ro b).length + 1 := by rw [ed]; simp
        have hwv : ¬ (w = v) := by
          intro g
          rw [ed, fv_qu fb hkk, bt_clear _ _ _ hw hv] at hb0
          exact hb0 (Or.inl g)
        have hsub : val v (qV (ab v) (be v)) (dn ki le ri ro p) = (val v (qV (ab v) (be v)) (dn ki le ri ro b)).bind (fun y => some (bq (ki p + 3) w y)) := by rw [ed, val_qu fb hkk hw hv, if_neg hwv]
        obtain ⟨s1, u1, g1, k1, l1, r1, m1, b1, o1, t1, w1, f1, W1, ⟨P1, A1, c1, c2, c3, c4⟩, c5, c6⟩ := ih row b P (by omega) (by omega) (by omega) (by omega)
        rw [ifb_f ek2, ix_n _ _ _ (by omega) (by omega), ifb_f (by rcases hk with h | h <;> rw [h] <;> decide), ix_n _ _ _ (by omega) (by omega), e2, bd f1]
        dsimp only
        unfold f_X7_valued_212
        rcases c6 with ⟨rfl, hn⟩ | ⟨rfl, hs1⟩
        · rw [ifb_f (by decide)]
          refine ⟨0, u1, 1, k1, l1, r1, m1, b1, o1, t1, w1, rfl, fT, ⟨P1, A1, c1, by omega, by have := P1.1.1; omega, (node0 P1.1).1⟩, by decide, Or.inl ⟨rfl, by rw [hsub, hn]; rfl⟩⟩
        · rw [ifb_t rfl, ix_n _ _ _ (by omega) (by omega)]
          have hk1 : k1 p = ki p := (A1 p hp).1
          have hl1 : l1 p = Int32.ofNat w := by rw [(A1 p hp).2.1, e1]
          have lw1 := (val_ok hv fb hs1).2.1
          have fin : ∀ x1 : Int32, (if x1 = 0 then (9 : Int32) else 8) = ki p + 3 → ∃ s u' gr' ki' le' ri' ma' bi' ro' ta' row', f_X7_valued_202 (fg_valued N d) N (Int32.ofNat u1) 0 (Int32.ofNat v) k1 l1 r1 m1 b1 o1 t1 ab be w1 (Int32.ofNat p) (Int32.ofNat s1) x1 = some (Int32.ofNat s, Int32.ofNat u', gr', ki', le', ri', ma', bi', ro', ta', row') ∧ OGot u (dn ki le ri ro p).length ki le ri ro s (val v (qV (ab v) (be v)) (dn ki le ri ro p)) u' gr' ki' le' ri' ma' bi' ro' ta' := by
            intro x1 hx
            unfold f_X7_valued_202 f_X7_valued_212
            obtain ⟨s, u', ki', le', ri', ma', bi', ro', ta', e, Q1, Q2, Q3, Q4, Q5, Q6⟩ := o_quantified (rw_ := w1) N hN P1 (by omega) x1 hw (q := s1) c3 (by rw [c4]; omega)
            rw [ix_n _ _ _ (by omega) (by omega), i_cl _ (by omega), hl1, bd e]
            rw [c4, hx] at Q6
            have hml := bq_len (ki p + 3) w W1
            refine ⟨s, u', 0, ki', le', ri', ma', bi', ro', ta', w1, rfl, bq (ki p + 3) w W1, ⟨Q1, A1.tr Q2 c1, by omega, by omega, Q5, Q6⟩, by omega, Or.inr ⟨rfl, by rw [hsub, hs1]; rfl⟩⟩
          rcases hk with h | h
          · rw [ifb_t (by rw [hk1, h])]; exact fin 1 (by rw [h]; decide)
          · rw [ifb_f (by rw [hk1, h]; decide)]; exact fin 0 (by rw [h]; decide)
def FI (F : List (List Int32)) : Prop := Fm F ∧ F.length ≤ 400 ∧ (Qf F ∨ wB F ≤ 240)
theorem FI.x {F : List (List Int32)} (h : FI F) : wX F ≤ 8160 := by
  obtain ⟨h1, h2, h3⟩ := h
  unfold wX; split
  · omega
  · rename_i hq
    rcases h3 with g | g
    · exact absurd ((qfb_iff F).mpr g) hq
    · omega
theorem FI.run {F : List (List Int32)} (h : FI F) : RunOk F := by
  have := h.x
  refine run_ok h.1 h.2.1 (by omega) ?_
  rcases h.2.2 with g | g
  · exact Or.inl g
  · have := (w_le h.1).1
    exact Or.inr (by omega)
theorem FI.frd {F f : List (List Int32)} (h : FI F) (e : frd F = some f) : FI f := by
  obtain ⟨a, b, c⟩ := frd_ok h.1 e
  exact ⟨a, c, Or.inl b⟩
theorem FI.val {v : Nat} (hv : v < 8) {q : List Int32} {F f : List (List Int32)} (h : FI F) (e : val v q F = some f) : FI f := by
  obtain ⟨a, b, c, d, _⟩ := val_ok hv h.1 e
  refine ⟨a, by have := h.2.1; omega, ?_⟩
  rcases h.2.2 with g | g
  · exact Or.inl (c g)
  · exact Or.inr (by omega)
theorem w_ng {l : List (List Int32)} (h : Fm l) : wB (ng l) = wB l ∧ wU (ng l) = wU l := by
  refine Fm.ind (P := fun l => wB (ng l) = wB l ∧ wU (ng l) = wU l) ?_ ?_ ?_ h
  · intro r hr
    have hn := negRow_leaf hr
    show wB [negRow r] = wB [r] ∧ wU [negRow r] = wU [r]
    rw [(w_leaf hn).1, (w_leaf hn).2, (w_leaf hr).1, (w_leaf hr).2]
    have : kd (negRow r) < 2 ↔ kd r < 2 := by
      rcases hr with rfl | rfl | A
      · decide
      · decide
      · have hk : kd (negRow r) = kd r ^^^ 1 := by
          have := hn
          unfold negRow kd; rfl
        rw [hk]
        rcases A.2.1 with g | g | g | g <;> rw [g] <;> decide
    by_cases c : kd r < 2
    · rw [if_pos c, if_pos (this.mpr c)]; exact ⟨rfl, rfl⟩
    · rw [if_neg c, if_neg (fun g => c (this.mp g))]; exact ⟨rfl, rfl⟩
  · intro a k v ha ih hk hv _
    have e : ng (a ++ [rowq k v]) = ng a ++ [rowq (k ^^^ 1) v] := by rw [ng_app]; show ng a ++ [negRow (rowq k v)] = _; rw [negRow_q k v hk]
    rw [e, (w_qu (ng_fm ha).1 (xor8 hk) v).1, (w_qu (ng_fm ha).1 (xor8 hk) v).2, (w_qu ha hk v).1, (w_qu ha hk v).2, ih.2]; exact ⟨rfl, rfl⟩
  · intro a b k ha hb iha ihb hk _
    have e : ng (a ++ b ++ [row0 k]) = ng a ++ ng b ++ [row0 (k ^^^ 1)] := by rw [ng_app, ng_app]; show ng a ++ ng b ++ [negRow (row0 k)] = _; rw [negRow_b k hk]
    rw [e, (w_bi (ng_fm ha).1 (ng_fm hb).1 (xor6 hk)).1, (w_bi (ng_fm ha).1 (ng_fm hb).1 (xor6 hk)).2, (w_bi ha hb hk).1, (w_bi ha hb hk).2, iha.1, ihb.1]; exact ⟨rfl, rfl⟩
theorem FI.ng {F : List (List Int32)} (h : FI F) : FI (ng F) := by
  refine ⟨(ng_fm h.1).1, by rw [ng_len]; exact h.2.1, ?_⟩
  rcases h.2.2 with g | g
  · exact Or.inl (g.ng h.1)
  · rw [(w_ng h.1).1]; exact Or.inr g
def RefS (u : Nat) (ki le ri ma bi ro ta rs : Nat → Int32) (F : List (List Int32)) : Prop := Pool u ki le ri ma bi ro ta ∧ ∃ x, RLs u rs [x] ∧ dn ki le ri ro x = F
section FREES7
variable {u : Nat} {ki le ri ma bi ro ta rs : Nat → Int32} {F : List (List Int32)}
theorem r_sweep (N : Nat) (hN : 70000 ≤ N) (S : RefS u ki le ri ma bi ro ta rs F) (mo : Nat → Int32) (row : Nat → Int64) : ∃ u' ki' le' ri' ma' bi' ro' ta' rs' mo', f_X7_sweep N (Int32.ofNat u) 1 ki le ri ma bi ro ta rs mo row = some (Int32.ofNat u', ki', le', ri', ma', bi', ro', ta', rs', mo') ∧ RefS u' ki' le' ri' ma' bi' ro' ta' rs' F ∧ u' ≤ 2 + F.length := by
  obtain ⟨P, x, R, hd⟩ := S
  obtain ⟨u', ki', le', ri', ma', bi', ro', ta', rs', mo', L', e, ⟨P', R', hm, _⟩, hb⟩ := o_sweep (mo := mo) (rw_ := row) N hN P R
  have hm' : L'.map (dn ki' le' ri' ro') = [F] := by rw [hm]; show [dn ki le ri ro x] = [F]; rw [hd]
  obtain ⟨y, rfl, hy⟩ := List.map_eq_singleton_iff.mp hm'
  have := hb [F] (by rw [List.map_singleton, hd]; exact Cov.self _)
  rw [sml_one] at this
  exact ⟨u', ki', le', ri', ma', bi', ro', ta', rs', mo', e, ⟨P', y, R', hy⟩, this⟩
theorem o_frees7 (N : Nat) (hN : 70000 ≤ N) (S : RefS u ki le ri ma bi ro ta rs F) (hF : FI F) (th pts tko gr : Int32) (by_ : Int64) (so va pc : Int32) (mo : Nat → Int32) (row pn : Nat → Int64) (pr ps : Nat → Int32) : ∃ an u' pts' tko' gr' by' so' va' pc' ki' le' ri' ma' bi' ro' ta' rs' mo' row' pn' pr' ps' F', f_X7_frees N th (Int32.ofNat u) 1 pts tko gr by_ so va pc ki le ri ma bi ro ta rs mo row pn pr ps = some (an, 0, Int32.ofNat u', 1, pts', tko', gr', by', so', va', pc', ki', le', ri', ma', bi', ro', ta', rs', mo', row', pn', pr', ps') ∧ RefS u' ki' le' ri' ma' bi' ro' ta' rs' F' ∧ ((frd F = some F' ∧ an = Int32.ofNat F'.length) ∨ (frd F = none ∧ an = -2 ∧ F' = F)) := by
  obtain ⟨u1, ki1, le1, ri1, ma1, bi1, ro1, ta1, rs1, mo1, e1, ⟨P1, x, R1, hd⟩, hu1⟩ := r_sweep N hN S mo row
  obtain ⟨F1, F2, F3⟩ := id hF
  have hx := hF.x
  unfold f_X7_frees f_X7_beginFreed
  rw [bd e1]
  dsimp only
  rw [Option.bind_some]
  dsimp only
  obtain ⟨r1, r2⟩ := R1.get (i := 0) (by simp)
  have r2' : x < u1 := r2
  have r1' : rs1 0 = Int32.ofNat x := r1
  rw [show (0 : Int32) = Int32.ofNat 0 from rfl, ix_n _ _ _ (by omega) (by omega), i_cl _ (by omega), r1']
  obtain ⟨e2, R2⟩ := o_root N R1 (x := x) r2' (by simp)
  rw [show Int32.ofNat [x].length = 1 from rfl] at e2
  rw [bd e2]
  dsimp only
  have hl : (dn ki1 le1 ri1 ro1 (([x] ++ [x]).getD 1 0)) = F := hd
  have em : ([x] ++ [x]).map (dn ki1 le1 ri1 ro1) = [F, F] := by show [dn ki1 le1 ri1 ro1 x, dn ki1 le1 ri1 ro1 x] = _; rw [hd]
  have cx : CovX [F, F] 1 [F] := by
    intro j hj hc
    have : j = 0 := by simp at hj; omega
    subst this
    exact ⟨F, by simp, [], [], by simp⟩
  have fr := o_freed N hN 450 u1 ki1 le1 ri1 ma1 bi1 ro1 ta1 _ mo1 row pn pr ps ([x] ++ [x]) 1 [F] 0 0 by_ so va P1 R2 (by simp) (by rw [hl]; omega) (by rw [hl]; simp; omega) (by omega) (by rw [em]; exact cx) (by rw [hl]; exact ⟨F, by simp, [], [], by simp⟩) (by rw [hl, sml_one]; omega)
  rw [hl, em] at fr
  obtain ⟨gr3, u3, ki3, le3, ri3, ma3, bi3, ro3, ta3, rs3, mo3, row3, pn3, pr3, ps3, L3, pts3, tko3, by3, so3, va3, e3, P3, R3, f1, hm3, hh3⟩ := fr
  have hm3' : L3.map (dn ki3 le3 ri3 ro3) = [F] ++ [f1] := hm3
  obtain ⟨L0, y, rfl, h0, hy⟩ := map_split hm3'
  obtain ⟨x', rfl, hx'⟩ := List.map_eq_singleton_iff.mp h0
  have e3' : f_X7_freed N (Int32.ofNat u1) (Int32.ofNat ([x].length + 1)) (Int32.ofNat 0) (Int32.ofNat 0) (Int32.ofNat 0) by_ so va (Int32.ofNat 0) ki1 le1 ri1 ma1 bi1 ro1 ta1 (upd rs1 [x].length (Int32.ofNat x)) mo1 row pn pr ps 1 = some (Int32.ofNat u3, Int32.ofNat ([x] ++ [x]).length, pts3, tko3, gr3, by3, so3, va3, 0, ki3, le3, ri3, ma3, bi3, ro3, ta3, rs3, mo3, row3, pn3, pr3, ps3) := e3
  rw [bd e3']
  dsimp only
  obtain ⟨q1, q2⟩ := R3.get (i := 1) (by simp)
  have q1' : rs3 1 = Int32.ofNat y := q1
  have q2' : y < u3 := q2
  have hu3 := P3.1.2.1
  rw [show (1 : Int32) = Int32.ofNat 1 from rfl, ix_n _ _ _ (by omega) (by omega), i_cl _ (by omega)]
  rcases hh3 with ⟨rfl, hf, _⟩ | ⟨rfl, hf⟩
  · have hma := (P3.2.2 y q2').1
    rw [hy] at hma
    rw [ifb_t (show (0 : Int32) = Int32.ofNat 0 from rfl), ix_n _ _ _ (by omega) (by omega), q1', ix_n _ _ _ (by omega) (by omega), i_cl _ (by omega), hma]
    refine ⟨_, u3, _, _, _, _, _, _, _, _, _, _, _, _, _, _, _, _, _, _, _, _, f1, rfl, ⟨P3, y, ?_, hy⟩, Or.inl ⟨hf, rfl⟩⟩
    have R4 : RLs u3 rs3 [x'] := R3.pop
    exact R4.set (i := 0) q2'
  · rw [ifb_f (by decide)]
    exact ⟨_, u3, _, _, _, _, _, _, _, _, _, _, _, _, _, _, _, _, _, _, _, _, F, rfl, ⟨P3, x', R3.pop, hx'⟩, Or.inr ⟨hf, rfl, rfl⟩⟩
theorem o_not7 (N : Nat) (hN : 70000 ≤ N) (S : RefS u ki le ri ma bi ro ta rs F) (hF : FI F) (th : Int32) (mo : Nat → Int32) (row : Nat → Int64) : ∃ u' ki' le' ri' ma' bi' ro' ta' rs' mo' row', f_X7_not N th (Int32.ofNat u) 1 ki le ri ma bi ro ta rs mo row = some (Int32.ofNat F.length, 0, Int32.ofNat u', ki', le', ri', ma', bi', ro', ta', rs', mo', row') ∧ RefS u' ki' le' ri' ma' bi' ro' ta' rs' (ng F) := by
  obtain ⟨u1, ki1, le1, ri1, ma1, bi1, ro1, ta1, rs1, mo1, e1, ⟨P1, x, R1, hd⟩, hu1⟩ := r_sweep N hN S mo row
  obtain ⟨F1, F2, F3⟩ := id hF
  unfold f_X7_not
  rw [bd e1]
  dsimp only
  obtain ⟨r1, r2⟩ := R1.get (i := 0) (by simp)
  have r2' : x < u1 := r2
  have r1' : rs1 0 = Int32.ofNat x := r1
  obtain ⟨s, u2, ki2, le2, ri2, ma2, bi2, ro2, ta2, row2, e2, P2, A2, h21, h22, hs2, hd2⟩ := o_turned N hN 450 u1 ki1 le1 ri1 ma1 bi1 ro1 ta1 row x P1 r2' (by rw [hd]; omega) (by rw [hd]; omega)
  rw [hd] at hd2
  have hu2 := P2.1.2.1
  have hma := (P2.2.2 s hs2).1
  rw [hd2, ng_len] at hma
  unfold f_X7_turned
  rw [show (0 : Int32) = Int32.ofNat 0 from rfl, ix_n _ _ _ (by omega) (by omega), i_cl _ (by omega), r1', bd e2]
  dsimp only
  rw [ix_n _ _ _ (by omega) (by omega), ix_n _ _ _ (by omega) (by omega), upd_at, ix_n _ _ _ (by omega) (by omega), i_cl _ (by omega), hma]
  exact ⟨u2, _, _, _, _, _, _, _, _, _, _, rfl, P2, s, (R1.mono h21).set (i := 0) hs2, hd2⟩
end FREES7
def vall (ab be : Nat → Int32) (F : List (List Int32)) : Nat → Option (List (List Int32))
  | 0 => some F
  | k + 1 => (vall ab be F k).bind (val k (qV (ab k) (be k)))
def dcd (ab be : Nat → Int32) (F : List (List Int32)) : Int32 := match (vall ab be F 8).bind frd with
  | none => -2
  | some f => if f = fT then 1 else 0
theorem vall_none {ab be : Nat → Int32} {F : List (List Int32)} {k : Nat} (h : vall ab be F k = none) : ∀ d, vall ab be F (k + d) = none
  | 0 => h
  | d + 1 => by
    show (vall ab be F (k + d)).bind _ = none
    rw [vall_none h d]; rfl
theorem vall_fi {ab be : Nat → Int32} {F : List (List Int32)} (hF : FI F) : ∀ k, k ≤ 8 → ∀ {G}, vall ab be F k = some G → FI G ∧ G.length ≤ F.length
  | 0, _, G, h => by cases h; exact ⟨hF, Nat.le_refl _⟩
  | k + 1, hk, G, h => by
    obtain ⟨x, ex, h⟩ := Option.bind_eq_some_iff.mp (show (vall ab be F k).bind (val k (qV (ab k) (be k))) = some G from h)
    obtain ⟨h1, h2⟩ := vall_fi hF k (by omega) ex
    have h3 := val_ok (show k < 8 by omega) h1.1 h
    exact ⟨h1.val (by omega) h, by omega⟩
section DEC7
variable {ab be : Nat → Int32} {F : List (List Int32)}
theorem dec_end (N : Nat) (hN : 70000 ≤ N) (V : Vl ab be) (hF : FI F) (th : Int32) {u : Nat} {ki le ri ma bi ro ta rs : Nat → Int32} {L : List Nat} {gr : Int32} {G : List (List Int32)} (P : Pool u ki le ri ma bi ro ta) (R : RLs u rs L) (hm : L.map (dn ki le ri ro) = [F, G]) (hu : u ≤ 21000) (hg : (gr = 0 ∧ vall ab be F 8 = some G) ∨ (gr = 1 ∧ vall ab be F 8 = none)) (pts tko : Int32) (by_ : Int64) (so va : Int32) (mo : Nat → Int32) (row pn : Nat → Int64) (pr ps : Nat → Int32) : ∃ u' pts' tko' gr' by' so' va' pc' ki' le' ri' ma' bi' ro' ta' rs' mo' row' pn' pr' ps', f_X7_decide_66 N th (Int32.ofNat u) 2 pts tko gr by_ so va 0 ki le ri ma bi ro ta rs mo ab be row pn pr ps 1 = some (dcd ab be F, th, Int32.ofNat u', 1, pts', tko', gr', by', so', va', pc', ki', le', ri', ma', bi', ro', ta', rs', mo', row', pn', pr', ps') ∧ RefS u' ki' le' ri' ma' bi' ro' ta' rs' F := by
  have hL : L.length = 2 := by have := congrArg List.length hm; rwa [List.length_map] at this
  unfold f_X7_decide_66
  rcases hg with ⟨rfl, hG⟩ | ⟨rfl, hG⟩
  · obtain ⟨hGF, hGl⟩ := vall_fi hF 8 (Nat.le_refl _) hG
    have hwx := hGF.x
    have hGl4 := hGF.2.1
    have hFl := hF.2.1
    have hd1 : dn ki le ri ro (L.getD 1 0) = G := by
      rw [← map_getD (dn ki le ri ro) [] (by omega), hm]; rfl
    have cx : CovX [F, G] 1 [F, G] := by
      intro j hj hc
      have : j = 0 := by simp at hj; omega
      subst this
      exact ⟨F, by simp, [], [], by simp⟩
    have fr := o_freed N hN 450 u ki le ri ma bi ro ta rs mo row pn pr ps L 1 [F, G] pts tko by_ so va P R (by omega) (by rw [hd1]; omega) (by rw [hd1, hL]; omega) hu (by rw [hm]; exact cx) (by rw [hd1]; exact ⟨G, by simp, [], [], by simp⟩) (by rw [hd1, show sml [F, G] = F.length + G.length from by unfold sml; simp]; omega)
    rw [hd1, hm, hL] at fr
    obtain ⟨gr3, u3, ki3, le3, ri3, ma3, bi3, ro3, ta3, rs3, mo3, row3, pn3, pr3, ps3, L3, pts3, tko3, by3, so3, va3, e3, P3, R3, f1, hm3, hh3⟩ := fr
    have hm3' : L3.map (dn ki3 le3 ri3 ro3) = [F] ++ [f1] := hm3
    obtain ⟨L0, y, rfl, h0, hy⟩ := map_split hm3'
    obtain ⟨x', rfl, hx'⟩ := List.map_eq_singleton_iff.mp h0
    have e3' : f_X7_freed N (Int32.ofNat u) 2 pts tko 0 by_ so va 0 ki le ri ma bi ro ta rs mo row pn pr ps 1 = some (Int32.ofNat u3, 2, pts3, tko3, gr3, by3, so3, va3, 0, ki3, le3, ri3, ma3, bi3, ro3, ta3, rs3, mo3, row3, pn3, pr3, ps3) := e3
    rw [ifb_t rfl, bd e3']
    dsimp only
    obtain ⟨q1, q2⟩ := R3.get (i := 1) (by simp)
    have q1' : rs3 1 = Int32.ofNat y := q1
    have q2' : y < u3 := q2
    have hu3 := P3.1.2.1
    unfold f_X7_decide_78 f_X7_decide_111
    rw [show (1 : Int32) = Int32.ofNat 1 from rfl, ix_n _ _ _ (by omega) (by omega), i_cl _ (by omega), q1', show Int32.ofNat 1 = 1 from rfl]
    have hpop : RefS u3 ki3 le3 ri3 ma3 bi3 ro3 ta3 rs3 F := ⟨P3, x', R3.pop, hx'⟩
    rcases hh3 with ⟨rfl, hf, _⟩ | ⟨rfl, hf⟩
    · have hT : y = 0 ↔ f1 = fT := by rw [← isT P3.1 q2', (dn_fm P3.1 y q2').lk0, hy]
      have ed : dcd ab be F = if f1 = fT then 1 else 0 := by unfold dcd; rw [hG]; show (match frd G with | none => -2 | some f => if f = fT then 1 else 0 : Int32) = _; rw [hf]
      rw [ifb_t rfl, ed]
      by_cases hy0 : y = 0
      · rw [ifb_t (by rw [hy0]; rfl), if_pos (hT.mp hy0)]
        exact ⟨u3, _, _, _, _, _, _, _, _, _, _, _, _, _, _, _, _, _, _, _, _, rfl, hpop⟩
      · rw [ifb_f (by rw [show (0 : Int32) = Int32.ofNat 0 from rfl, i_eq _ _ (by omega) (by omega)]; exact hy0), if_neg (fun g => hy0 (hT.mpr g))]
        exact ⟨u3, _, _, _, _, _, _, _, _, _, _, _, _, _, _, _, _, _, _, _, _, rfl, hpop⟩
    · have ed : dcd ab be F = -2 := by unfold dcd; rw [hG]; show (match frd G with | none => -2 | some f => if f = fT then 1 else 0 : Int32) = _; rw [hf]
      rw [ifb_f (by decide), ed]
      exact ⟨u3, _, _, _, _, _, _, _, _, _, _, _, _, _, _, _, _, _, _, _, _, rfl, hpop⟩
  · have ed : dcd ab be F = -2 := by unfold dcd; rw [hG]; rfl
    have hm' : L.map (dn ki le ri ro) = [F] ++ [G] := hm
    obtain ⟨L0, y, rfl, h0, hy⟩ := map_split hm'
    obtain ⟨x', rfl, hx'⟩ := List.map_eq_singleton_iff.mp h0
    unfold f_X7_decide_78 f_X7_decide_111
    rw [ifb_f (by decide), show ix (1 : Int32) 2000 = ix (Int32.ofNat 1) 2000 from rfl, ix_n _ _ _ (by omega) (by omega), ifb_f (by decide), ed]
    exact ⟨u, _, _, _, _, _, _, _, _, _, _, _, _, _, _, _, _, _, _, _, _, rfl, P, x', R.pop, hx'⟩
theorem dec_loop (N : Nat) (hN : 70000 ≤ N) (V : Vl ab be) (hF : FI F) (th pts tko : Int32) (by_ : Int64) (so : Int32) (pn : Nat → Int64) (pr ps : Nat → Int32) : ∀ (d m k : Nat) (va : Int32) (u : Nat) (ki le ri ma bi ro ta rs mo : Nat → Int32) (row : Nat → Int64) (L : List Nat) (gr : Int32) (G : List (List Int32)), k + d = 8 → Pool u ki le ri ma bi ro ta → RLs u rs L → L.map (dn ki le ri ro) = [F, G] → u ≤ 402 + 400 * k → ((gr = 0 ∧ vall ab be F k = some G) ∨ (gr = 1 ∧ vall ab be F k = none)) → ∃ u' pts' tko' gr' by' so' va' pc' ki' le' ri' ma' bi' ro' ta' rs' mo' row' pn' pr' ps', f_X7_decide_26 N (m + d + 1) th (Int32.ofNat u) 2 pts tko gr by_ so va 0 ki le ri ma bi ro ta rs mo ab be row pn pr ps 1 (Int32.ofNat k) = some (dcd ab be F, th, Int32.ofNat u', 1, pts', tko', gr', by', so', va', pc', ki', le', ri', ma', bi', ro', ta', rs', mo', row', pn', pr', ps') ∧ RefS u' ki' le' ri' ma' bi' ro' ta' rs' F
  | 0, m, k, va, u, ki, le, ri, ma, bi, ro, ta, rs, mo, row, L, gr, G, hk, P, R, hm, hu, hg => by
    have : k = 8 := by omega
    subst this
    rw [f_X7_decide_26]; dsimp only
    rw [ifb_t (by decide)]
    exact dec_end N hN V hF th P R hm (by omega) hg pts tko by_ so va mo row pn pr ps
  | d + 1, m, k, va, u, ki, le, ri, ma, bi, ro, ta, rs, mo, row, L, gr, G, hk, P, R, hm, hu, hg => by
    rw [show m + (d + 1) + 1 = (m + d + 1) + 1 from by omega, f_X7_decide_26]; dsimp only
    rw [ifb_f (by rw [show (8 : Int32) = Int32.ofNat 8 from rfl, i_le _ _ (by omega) (by omega)]; omega)]
    rcases hg with ⟨rfl, hG⟩ | ⟨rfl, hG⟩
    · obtain ⟨hGF, hGl⟩ := vall_fi hF k (by omega) hG
      have hGl4 := hGF.2.1
      have hL : L.length = 2 := by have := congrArg List.length hm; rwa [List.length_map] at this
      have hd1 : dn ki le ri ro (L.getD 1 0) = G := by
        rw [← map_getD (dn ki le ri ro) [] (by omega), hm]; rfl
      obtain ⟨q1, q2⟩ := R.get (i := 1) (by omega)
      obtain ⟨s, u2, gr2, ki2, le2, ri2, ma2, bi2, ro2, ta2, row2, e2, W, ⟨P2, A2, c1, c2, c3, c4⟩, c5, c6⟩ := o_valued N hN (show k < 8 by omega) V 450 row (L.getD 1 0) P q2 (by rw [hd1]; omega) (by rw [hd1]; omega) (by rw [hd1]; omega)
      rw [hd1] at c2 c6
      rw [ifb_t rfl, show ix (1 : Int32) 2000 = ix (Int32.ofNat 1) 2000 from rfl, ix_n _ _ _ (by omega) (by omega), show (1 : Int32).toNatClampNeg = 1 from rfl, q1]
      unfold f_X7_valued
      rw [bd e2]
      dsimp only
      rw [ix_n _ _ _ (by omega) (by omega), i_p1]
      have hs : vall ab be F (k + 1) = val k (qV (ab k) (be k)) G := by
        show (vall ab be F k).bind _ = _
        rw [hG]; rfl
      refine dec_loop N hN V hF th pts tko by_ so pn pr ps d m (k + 1) (Int32.ofNat k) u2 ki2 le2 ri2 ma2 bi2 ro2 ta2 _ mo row2 (L.set 1 s) gr2 W (by omega) P2 ((R.mono c1).set c3) ?_ (by omega) ?_
      · rw [map_set', map_ag P.1 A2 R.2.2, hm, c4]; rfl
      · rw [hs]
        rcases c6 with ⟨h1, h2⟩ | ⟨h1, h2⟩
        · exact Or.inr ⟨h1, h2⟩
        · exact Or.inl ⟨h1, h2⟩
    · rw [ifb_f (by decide)]
      have h8 := vall_none hG (d + 1)
      rw [hk] at h8
      exact dec_end N hN V hF th P R hm (by omega) (Or.inr ⟨rfl, h8⟩) pts tko by_ so va mo row pn pr ps
theorem o_decide7 (N : Nat) (hN : 70000 ≤ N) (V : Vl ab be) (hF : FI F) {u : Nat} {ki le ri ma bi ro ta rs : Nat → Int32} (S : RefS u ki le ri ma bi ro ta rs F) (th pts tko gr : Int32) (by_ : Int64) (so va pc : Int32) (mo : Nat → Int32) (row pn : Nat → Int64) (pr ps : Nat → Int32) : ∃ u' pts' tko' gr' by' so' va' pc' ki' le' ri' ma' bi' ro' ta' rs' mo' row' pn' pr' ps', f_X7_decide N th (Int32.ofNat u) 1 pts tko gr by_ so va pc ki le ri ma bi ro ta rs mo ab be row pn pr ps = some (dcd ab be F, 0, Int32.ofNat u', 1, pts', tko', gr', by', so', va', pc', ki', le', ri', ma', bi', ro', ta', rs', mo', row', pn', pr', ps') ∧ RefS u' ki' le' ri' ma' bi' ro' ta' rs' F := by
  obtain ⟨u1, ki1, le1, ri1, ma1, bi1, ro1, ta1, rs1, mo1, e1, ⟨P1, x, R1, hd⟩, hu1⟩ := r_sweep N hN S mo row
  have F2 := hF.2.1
  unfold f_X7_decide f_X7_beginFreed
  rw [bd e1]
  dsimp only
  rw [Option.bind_some]
  dsimp only
  obtain ⟨r1, r2⟩ := R1.get (i := 0) (by simp)
  have r2' : x < u1 := r2
  have r1' : rs1 0 = Int32.ofNat x := r1
  rw [show ix (0 : Int32) 2000 = ix (Int32.ofNat 0) 2000 from rfl, ix_n _ _ _ (by omega) (by omega), show (0 : Int32).toNatClampNeg = 0 from rfl, r1']
  obtain ⟨e2, R2⟩ := o_root N R1 (x := x) r2' (by simp)
  rw [show Int32.ofNat [x].length = 1 from rfl] at e2
  rw [bd e2]
  dsimp only
  have := dec_loop N hN V hF 0 0 0 by_ so pn pr ps 8 (N - 9) 0 va u1 ki1 le1 ri1 ma1 bi1 ro1 ta1 _ mo1 row ([x] ++ [x]) 0 F rfl P1 R2 (by show [dn ki1 le1 ri1 ro1 x, dn ki1 le1 ri1 ro1 x] = _; rw [hd]) (by omega) (Or.inl ⟨rfl, rfl⟩)
  rw [show N - 9 + 8 + 1 = N from by omega] at this
  exact this
end DEC7
