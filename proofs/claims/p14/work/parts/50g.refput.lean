theorem fiv_zero (c : Nat → Int) : ∀ d k j, k ≤ j → j < fiv c d k → c j = 0
  | 0, k, j, h1, h2 => by unfold fiv at h2; omega
  | d + 1, k, j, h1, h2 => by
    unfold fiv at h2
    split at h2
    · rename_i h
      by_cases hj : j = k
      · rw [hj]; exact h
      · exact fiv_zero c d (k + 1) j (by omega) h2
    · omega
theorem fiv_at (c : Nat → Int) (k : Nat) (hk : k < 8) (h : k ≤ fiv c 8 0) : c k ≠ 0 ↔ fiv c 8 0 = k := by
  have hge := fiv_ge c 8 0
  constructor
  · intro h1
    rcases Nat.lt_or_ge k (fiv c 8 0) with g | g
    · exact absurd (fiv_zero c 8 0 k (by omega) g) h1
    · omega
  · intro h1
    rw [← h1]; exact fiv_nz c 8 0 (by omega)
theorem dv_in (N : Nat) : ∀ (k n a b : Nat) (x y : Int64), b < 2 ^ k → x.toInt = a → y.toInt = b → 2 * k + 1 ≤ n → ∃ z : Int64, f_X7_divisor_28 N n x y = some z ∧ z.toInt = Nat.gcd a b := by
  intro k
  induction k with
  | zero =>
    intro n a b x y hb hx hy hn
    have hb0 : b = 0 := by simp at hb; omega
    subst hb0
    obtain ⟨n, rfl⟩ : ∃ m, n = m + 1 := ⟨n - 1, by omega⟩
    refine ⟨x, ?_, by rw [hx, Nat.gcd_zero_right]⟩
    rw [f_X7_divisor_28]; dsimp only
    rw [ifb_t ((lg_eq0 _ _).mpr (by rw [hy]; rfl))]
  | succ k ih =>
    intro n a b x y hb hx hy hn
    obtain ⟨n, rfl⟩ : ∃ m, n = m + 1 := ⟨n - 1, by omega⟩
    rw [f_X7_divisor_28]; dsimp only
    by_cases h0 : b = 0
    · subst h0
      rw [ifb_t ((lg_eq0 _ _).mpr (by rw [hy]; rfl))]
      exact ⟨x, rfl, by rw [hx, Nat.gcd_zero_right]⟩
    · have hy0 : ¬ (lg_cmp y 0 = 0) := fun h => by
        have := (lg_eq0 _ _).mp h
        rw [hy, show (0 : Int64).toInt = 0 from rfl] at this; omega
      have hyn : ¬ (y = 0) := fun h => hy0 (by rw [h]; decide)
      rw [ifb_f hy0, ckp_t hyn]
      have hr := L_rem x y a b hx hy (by omega)
      obtain ⟨n, rfl⟩ : ∃ m, n = m + 1 := ⟨n - 1, by omega⟩
      rw [f_X7_divisor_28]; dsimp only
      have hg : Nat.gcd a b = Nat.gcd b (a % b) := by rw [Nat.gcd_comm a b, Nat.gcd_rec b a, Nat.gcd_comm]
      by_cases h1 : a % b = 0
      · rw [ifb_t ((lg_eq0 _ _).mpr (by rw [hr, h1]; rfl))]
        exact ⟨y, rfl, by rw [hg, h1, Nat.gcd_zero_right, hy]⟩
      · have hy1 : ¬ (lg_cmp (x - x / y * y) 0 = 0) := fun h => by
          have := (lg_eq0 _ _).mp h
          rw [hr, show (0 : Int64).toInt = 0 from rfl] at this; omega
        have hyn1 : ¬ ((x - x / y * y) = 0) := fun h => hy1 (by rw [h]; decide)
        rw [ifb_f hy1, ckp_t hyn1]
        have hlt := Nat.mod_lt a (show 0 < b by omega)
        have hr2 := L_rem y (x - x / y * y) b (a % b) hy hr (by omega)
        have hh := mod_half b (a % b) (by omega) hlt
        have hp : 2 ^ (k + 1) = 2 * 2 ^ k := by rw [Nat.pow_succ]; omega
        obtain ⟨z, e, hz⟩ := ih n (a % b) (b % (a % b)) (x - x / y * y) _ (by omega) hr hr2 (by omega)
        refine ⟨z, e, ?_⟩
        rw [hz, hg]
        congr 1
        rw [Nat.gcd_comm b, Nat.gcd_rec (a % b) b, Nat.gcd_comm]
theorem o_divisor (N : Nat) (hN : 200 ≤ N) (a : Nat) (c : Int) (x y : Int64) (hx : x.toInt = a) (hy : y.toInt = c) (hc : -9223372036854775808 < c) : ∃ z, f_X7_divisor N x y = some z ∧ z.toInt = Nat.gcd a c.natAbs := by
  have z0 : (0 : Int64).toInt = 0 := rfl
  have hh := L_hi y
  unfold f_X7_divisor f_X7_divisor_12 f_X7_divisor_26
  rw [ifb_t ((lg_ge0 _ _).mpr (by rw [hx, z0]; omega))]
  by_cases h : 0 ≤ c
  · rw [ifb_t ((lg_ge0 _ _).mpr (by rw [hy, z0]; omega))]
    exact dv_in N 63 N a c.natAbs x y (by omega) hx (by rw [hy]; omega) (by omega)
  · rw [ifb_f (fun g => by have := (lg_ge0 _ _).mp g; rw [hy, z0] at this; omega)]
    exact dv_in N 63 N a c.natAbs x (-y) (by omega) hx (by rw [L_neg y c hy (by omega) (by omega)]; omega) (by omega)
section ATOM
variable {u : Nat} {ki le ri ma bi ro ta : Nat → Int32}
theorem at_great (N : Nat) (U y1 : Int32) (z : Int64) (hz : ¬ (z = 0)) : ∀ (d m k : Nat) (row : Nat → Int64), k + d = 9 → ∃ row', f_X7_atom_179 N (m + d + 1) U 1 ki le ri ma bi ro ta row y1 z (Int32.ofNat k) = some (0, U, 1, ki, le, ri, ma, bi, ro, ta, row')
  | 0, m, k, row, h => by
    have : k = 9 := by omega
    subst this
    rw [f_X7_atom_179]; dsimp only
    rw [ifb_t (by decide), ifb_f (by decide)]
    exact ⟨row, rfl⟩
  | d + 1, m, k, row, h => by
    rw [show m + (d + 1) + 1 = (m + d + 1) + 1 from by omega, f_X7_atom_179]; dsimp only
    rw [ifb_f (by rw [show (9 : Int32) = Int32.ofNat 9 from rfl, i_le _ _ (by omega) (by omega)]; omega), ix_n _ _ _ (by omega) (by omega), ckp_t hz, ix_n _ _ _ (by omega) (by omega), ifb_f (by decide)]
    unfold f_X7_atom_233 f_X7_atom_238
    rw [ckp_t (Or.inr rfl), i_p1]
    exact at_great N U y1 z hz d m (k + 1) _ (by omega)
theorem at_loop (N : Nat) (U y1 : Int32) (z : Int64) (zz : Int) (hz : z.toInt = zz) (hz0 : zz ≠ 0) (c : Nat → Int) (hc : ∀ j, j < 9 → -4000000000000000000 ≤ c j ∧ c j ≤ 4000000000000000000) : ∀ (d m k : Nat) (row : Nat → Int64), k + d = 9 → (∀ j, j < 9 → (row j).toInt = if j < k then (c j).tdiv zz else c j) → (big (fun j => (c j).tdiv zz) d k = true ∧ ∃ row', f_X7_atom_179 N (m + d + 1) U 0 ki le ri ma bi ro ta row y1 z (Int32.ofNat k) = some (0, U, 1, ki, le, ri, ma, bi, ro, ta, row')) ∨ (big (fun j => (c j).tdiv zz) d k = false ∧ ∃ row', (∀ j, j < 9 → (row' j).toInt = (c j).tdiv zz) ∧ f_X7_atom_179 N (m + d + 1) U 0 ki le ri ma bi ro ta row y1 z (Int32.ofNat k) = (f_X7_place N U ki le ri ma bi ro ta row' 2 y1 0).bind (fun z262 => f_X7_atom_265 N z262.2.1 0 z262.2.2.1 z262.2.2.2.1 z262.2.2.2.2.1 z262.2.2.2.2.2.1 z262.2.2.2.2.2.2.1 z262.2.2.2.2.2.2.2.1 z262.2.2.2.2.2.2.2.2 row' z262.1))
  | 0, m, k, row, h, hr => by
    have : k = 9 := by omega
    subst this
    right
    refine ⟨rfl, row, fun j hj => by rw [hr j hj, if_pos hj], ?_⟩
    rw [f_X7_atom_179]; dsimp only
    rw [ifb_t (by decide), ifb_t rfl]
  | d + 1, m, k, row, h, hr => by
    have hzz : ¬ (z = 0) := fun e => by rw [e, show (0 : Int64).toInt = 0 from rfl] at hz; omega
    have hck := hc k (by omega)
    have hrk := hr k (by omega)
    rw [if_neg (by omega)] at hrk
    have hna : ((c k).tdiv zz).natAbs ≤ (c k).natAbs := by rw [Int.natAbs_tdiv]; exact Nat.div_le_self _ _
    have eq : (row k / z).toInt = (c k).tdiv zz := by
      rw [Int64.toInt_div, hrk, hz]
      exact bm64 _ (by omega) (by omega)
    rw [show m + (d + 1) + 1 = (m + d + 1) + 1 from by omega, f_X7_atom_179]; dsimp only
    rw [ifb_f (by rw [show (9 : Int32) = Int32.ofNat 9 from rfl, i_le _ _ (by omega) (by omega)]; omega), ix_n _ _ _ (by omega) (by omega), ckp_t hzz, ix_n _ _ _ (by omega) (by omega), ifb_t rfl, ix_n _ _ _ (by omega) (by omega), i_cl _ (by omega), updL_at]
    unfold f_X7_atom_233 f_X7_atom_238
    rw [ckp_t (Or.inr rfl), ckp_t (Or.inl rfl), i_p1, ix_n _ _ _ (by omega) (by omega)]
    unfold big
    have e9 : (1000000000 : Int64).toInt = 1000000000 := rfl
    have em9 : (-1000000000 : Int64).toInt = -1000000000 := by decide
    by_cases hb : 1000000000 < ((c k).tdiv zz).natAbs
    · left
      refine ⟨by rw [decide_eq_true hb]; rfl, ?_⟩
      obtain ⟨row', e⟩ := at_great (ki := ki) (le := le) (ri := ri) (ma := ma) (bi := bi) (ro := ro) (ta := ta) N U y1 z hzz d m (k + 1) (vp_updL row k (row k / z)) (by omega)
      refine ⟨row', ?_⟩
      by_cases hp : 1000000000 < (c k).tdiv zz
      · rw [ifb_t ((lg_gt0 _ _).mpr (by rw [eq, e9]; exact hp)), e]
      · rw [ifb_f (fun g => by have := (lg_gt0 _ _).mp g; rw [eq, e9] at this; omega), ifb_f (fun g => by have := (lg_ge0 _ _).mp g; rw [eq, em9] at this; omega), e]
    · rw [ifb_f (fun g => by have := (lg_gt0 _ _).mp g; rw [eq, e9] at this; omega), ifb_t ((lg_ge0 _ _).mpr (by rw [eq, em9]; omega))]
      have := at_loop N U y1 z zz hz hz0 c hc d m (k + 1) (vp_updL row k (row k / z)) (by omega) (by
        intro j hj
        by_cases hjk : j = k
        · subst hjk; rw [updL_at, if_pos (by omega), eq]
        · rw [updL_ne _ _ _ _ hjk, hr j hj]
          by_cases h3 : j < k
          · rw [if_pos h3, if_pos (by omega)]
          · rw [if_neg h3, if_neg (by omega)])
      simpa only [hb, decide_false, Bool.false_or] using this
def atEnd (N : Nat) (U gr : Int32) (ki le ri ma bi ro ta : Nat → Int32) (row : Nat → Int64) (y1 : Int32) (z : Int64) (y4 : Int32) := f_X7_atom_8 N 1 U gr ki le ri ma bi ro ta row y1 z y4 9
theorem at_first (N : Nat) (hN : 200 ≤ N) (U gr y1 : Int32) {row : Nat → Int64} {c : Nat → Int} (S : Sm row c) : ∀ (d m k : Nat) (x : Int64), k + d = 9 → x.toInt = gc c k → ∃ z : Int64, z.toInt = gc c 9 ∧ f_X7_atom_8 N (m + d + 1) U gr ki le ri ma bi ro ta row y1 x (if fiv c 8 0 < k ∧ fiv c 8 0 < 8 then Int32.ofNat (fiv c 8 0) else -1) (Int32.ofNat k) = atEnd N U gr ki le ri ma bi ro ta row y1 z (if fiv c 8 0 < 8 then Int32.ofNat (fiv c 8 0) else -1)
  | 0, m, k, x, h, hx => by
    have : k = 9 := by omega
    subst this
    refine ⟨x, hx, ?_⟩
    have hg := fiv_ge c 8 0
    unfold atEnd
    have ey : (if fiv c 8 0 < 9 ∧ fiv c 8 0 < 8 then Int32.ofNat (fiv c 8 0) else -1) = (if fiv c 8 0 < 8 then Int32.ofNat (fiv c 8 0) else -1) := by
      by_cases h8 : fiv c 8 0 < 8
      · rw [if_pos ⟨by omega, h8⟩, if_pos h8]
      · rw [if_neg (fun g => h8 g.2), if_neg h8]
    rw [ey]
    generalize (if fiv c 8 0 < 8 then Int32.ofNat (fiv c 8 0) else -1) = y
    rw [f_X7_atom_8, f_X7_atom_8]; dsimp only
    rw [ifb_t (show (9 : Int32) ≤ Int32.ofNat 9 by decide), ifb_t (show (9 : Int32) ≤ 9 by decide)]
  | d + 1, m, k, x, h, hx => by
    have hg := fiv_ge c 8 0
    obtain ⟨s1, s2, s3⟩ := S k (by omega)
    obtain ⟨z, e, hz⟩ := o_divisor N hN (gc c k) (c k) x (row k) hx s1 (by omega)
    have hz' : z.toInt = gc c (k + 1) := hz
    rw [show m + (d + 1) + 1 = (m + d + 1) + 1 from by omega, f_X7_atom_8]; dsimp only
    rw [ifb_f (by rw [show (9 : Int32) = Int32.ofNat 9 from rfl, i_le _ _ (by omega) (by omega)]; omega), ix_n _ _ _ (by omega) (by omega), i_cl _ (by omega), bd e]
    unfold f_X7_atom_56 f_X7_atom_58
    rw [i_p1]
    have ih := at_first N hN U gr y1 S d m (k + 1) z (by omega) hz'
    obtain ⟨w, hw, ew⟩ := ih
    refine ⟨w, hw, ?_⟩
    rw [← ew]
    by_cases hf : fiv c 8 0 < k ∧ fiv c 8 0 < 8
    · rw [if_pos hf, if_pos (show fiv c 8 0 < k + 1 ∧ fiv c 8 0 < 8 by omega), ifb_t (i_ge0 _ (by omega))]
    · rw [if_neg hf, ifb_f (by decide)]
      by_cases h8 : k = 8
      · rw [ifb_t (by rw [h8]; decide), if_neg (by omega)]
      · have hk8 : k < 8 := by omega
        rw [ifb_f (by rw [show (8 : Int32) = Int32.ofNat 8 from rfl, i_le _ _ (by omega) (by omega)]; omega), ix_n _ _ _ (by omega) (by omega)]
        have hat := fiv_at c k hk8 (by omega)
        by_cases hc0 : c k = 0
        · have : ¬ (fiv c 8 0 = k) := fun g => (hat.mpr g) hc0
          rw [ifb_t ((lg_eq0 _ _).mpr (by rw [s1, hc0]; rfl)), if_neg (by omega)]
        · have hk := hat.mp hc0
          rw [ifb_f (fun g => hc0 (by rw [← s1, (lg_eq0 _ _).mp g]; rfl)), if_pos (by omega), hk]
def AtomGot (u : Nat) (ki le ri ro : Nat → Int32) (rel : Int32) (c : Nat → Int) (gr : Int32) (p u' : Nat) (gr' : Int32) (ki' le' ri' ma' bi' ro' ta' : Nat → Int32) : Prop :=
  (∃ W, (dn ki' le' ri' ro' p = W ∧ W.length = 1) ∧ Got u 1 ki le ri ro p W u' ki' le' ri' ma' bi' ro' ta' ∧ (gr = 1 → gr' = 1) ∧ (gr' = 0 ∨ gr' = 1)) ∧ (gr = 0 → ((stl rel c = none ∧ gr' = 1) ∨ ∃ r, stl rel c = some r ∧ gr' = 0 ∧ dn ki' le' ri' ro' p = [r]))
theorem o_truth (N : Nat) (x : Bool) : f_X7_truth N (if x then 1 else 0) = some (Int32.ofNat (if x then 0 else 1)) := by
  cases x <;> rfl
theorem o_atom7 (N : Nat) (hN : 70000 ≤ N) (P : Pool u ki le ri ma bi ro ta) (hu : u < 24000) {row : Nat → Int64} {c : Nat → Int} (S : Sm row c) {rel : Int32} (hr : rel = 0 ∨ rel = 1 ∨ rel = 2 ∨ rel = 3) {gr : Int32} (hgr : gr = 0 ∨ gr = 1) : ∃ p u' gr' ki' le' ri' ma' bi' ro' ta' row', f_X7_atom N (Int32.ofNat u) gr ki le ri ma bi ro ta row rel = some (Int32.ofNat p, Int32.ofNat u', gr', ki', le', ri', ma', bi', ro', ta', row') ∧ AtomGot u ki le ri ro (2 + rel) c gr p u' gr' ki' le' ri' ma' bi' ro' ta' := by
  have h2u := P.1.1
  have hge := fiv_ge c 8 0
  obtain ⟨z, hz, e⟩ := at_first (ki := ki) (le := le) (ri := ri) (ma := ma) (bi := bi) (ro := ro) (ta := ta) N (by omega) (Int32.ofNat u) gr rel S 9 (N - 10) 0 0 (by omega) rfl
  rw [show N - 10 + 9 + 1 = N from by omega, if_neg (by omega), show Int32.ofNat 0 = 0 from rfl] at e
  unfold f_X7_atom
  rw [e]
  unfold atEnd
  rw [f_X7_atom_8]; dsimp only
  rw [ifb_t (by decide)]
  have z0 : (0 : Int64).toInt = 0 := rfl
  by_cases h8 : fiv c 8 0 < 8
  · rw [if_pos h8, ifb_t (i_ge0 _ (by omega))]
    have hn := fiv_nz c 8 0 (by omega)
    have hgp := gc_pos c (fiv c 8 0) (by omega) hn
    have hcb : ∀ j, j < 9 → -4000000000000000000 ≤ c j ∧ c j ≤ 4000000000000000000 := fun j hj => (S j hj).2
    have hghi := L_hi z

    have go : ∀ (w : Int64) (zz : Int), w.toInt = zz → (zz = (gc c 9 : Int) ∨ zz = -(gc c 9 : Int)) → (zz = -(gc c 9 : Int) ↔ ((2 + rel = 2 ∨ 2 + rel = 3) ∧ c (fiv c 8 0) < 0)) → ∃ p u' gr' ki' le' ri' ma' bi' ro' ta' row', f_X7_atom_176 N (Int32.ofNat u) gr ki le ri ma bi ro ta row rel w = some (Int32.ofNat p, Int32.ofNat u', gr', ki', le', ri', ma', bi', ro', ta', row') ∧ AtomGot u ki le ri ro (2 + rel) c gr p u' gr' ki' le' ri' ma' bi' ro' ta' := by
      intro w zz hw hzz hsg
      have hz0 : zz ≠ 0 := by omega
      have hw0 : ¬ (w = 0) := fun e => by rw [e, z0] at hw; omega
      unfold f_X7_atom_176
      have qe : ∀ j, (c j).tdiv zz = if (2 + rel = 2 ∨ 2 + rel = 3) ∧ c (fiv c 8 0) < 0 then -(qd c j) else qd c j := by
        intro j
        by_cases hs : zz = -(gc c 9 : Int)
        · rw [if_pos (hsg.mp hs), hs, Int.tdiv_neg]; rfl
        · rw [if_neg (fun g => hs (hsg.mpr g)), hzz.resolve_right hs]; rfl
      have hbig : ∀ d k, big (fun j => (c j).tdiv zz) d k = big (qd c) d k := by
        intro d
        induction d with
        | zero => intro k; rfl
        | succ d ih =>
          intro k
          unfold big
          rw [ih]
          congr 2
          rw [qe k]
          split
          · rw [Int.natAbs_neg]
          · rfl
      have hstl : stl (2 + rel) c = if big (qd c) 9 0 then none else some ((2 + rel) :: (List.range 9).map (fun j => Int32.ofInt ((c j).tdiv zz))) := by
        unfold stl
        rw [if_neg (by omega)]
        split
        · rfl
        · congr 2
          apply List.map_congr_left
          intro j _
          rw [qe j]
      rcases hgr with rfl | rfl
      · have := at_loop (ki := ki) (le := le) (ri := ri) (ma := ma) (bi := bi) (ro := ro) (ta := ta) N (Int32.ofNat u) rel w zz hw hz0 c hcb 9 (N - 10) 0 row (by omega) (fun j hj => by rw [if_neg (by omega)]; exact (S j hj).1)
        rw [show N - 10 + 9 + 1 = N from by omega, show Int32.ofNat 0 = 0 from rfl, hbig] at this
        rcases this with ⟨hb, row', e1⟩ | ⟨hb, row', hrw, e1⟩
        · refine ⟨0, u, 1, ki, le, ri, ma, bi, ro, ta, row', e1, ⟨fT, ⟨(node0 P.1).1, rfl⟩, ?_, fun _ => rfl, Or.inr rfl⟩, fun _ => Or.inl ⟨by rw [hstl, if_pos hb], rfl⟩⟩
          have := P.here (k := 1) (p := 0) (by omega)
          rw [(node0 P.1).1] at this
          exact this
        · rw [hb, if_neg (by decide)] at hstl
          have hbn := big_no (qd c) 9 0 hb
          have hqb : ∀ j, j < 9 → -1000000000 ≤ (c j).tdiv zz ∧ (c j).tdiv zz ≤ 1000000000 := by
            intro j hj
            have := hbn j (by omega) (by omega)
            rw [qe j]
            split <;> omega
          have hlf := stl_leaf (rel := 2 + rel) (by rcases hr with h | h | h | h <;> rw [h] <;> decide) hstl
          have hA : Atm (rowc (2 + rel) (fun j => Int32.ofInt ((c j).tdiv zz))) := by
            rcases hlf.1 with g | g | g
            · have := congrArg kd g
              have e3 : 2 + rel = 0 := this
              rcases hr with h | h | h | h <;> rw [h] at e3 <;> exact absurd e3 (by decide)
            · have := congrArg kd g
              have e3 : 2 + rel = 1 := this
              rcases hr with h | h | h | h <;> rw [h] at e3 <;> exact absurd e3 (by decide)
            · exact g
          obtain ⟨p, u', ki', le', ri', ma', bi', ro', ta', e4, G⟩ := o_place (rw_ := row') (k := 2) (l := rel) (r := 0) (c := fun j => Int32.ofInt ((c j).tdiv zz)) N hN P hu (fun _ j hj => by
            have := hqb j hj
            rw [hrw j hj, i_ofInt _ (by omega) (by omega)]) (Or.inl ⟨rfl, hr, rfl, hA, rfl⟩) (by simp)
          rw [e1, bd e4]
          have hd := G.2.2.2.2.2
          refine ⟨p, u', 0, ki', le', ri', ma', bi', ro', ta', row', rfl, ⟨_, ⟨hd, rfl⟩, G, fun h => absurd h (by decide), Or.inl rfl⟩, fun _ => Or.inr ⟨_, hstl, rfl, hd⟩⟩
      · obtain ⟨row', e1⟩ := at_great (ki := ki) (le := le) (ri := ri) (ma := ma) (bi := bi) (ro := ro) (ta := ta) N (Int32.ofNat u) rel w hw0 9 (N - 10) 0 row (by omega)
        rw [show N - 10 + 9 + 1 = N from by omega, show Int32.ofNat 0 = 0 from rfl] at e1
        refine ⟨0, u, 1, ki, le, ri, ma, bi, ro, ta, row', e1, ⟨fT, ⟨(node0 P.1).1, rfl⟩, ?_, fun _ => rfl, Or.inr rfl⟩, fun h => absurd h (by decide)⟩
        have := P.here (k := 1) (p := 0) (by omega)
        rw [(node0 P.1).1] at this
        exact this
    have same : (2 ≤ rel ∨ 0 ≤ c (fiv c 8 0)) → _ := fun hh => go z (gc c 9 : Int) hz (Or.inl rfl) (by
      constructor
      · intro g; omega
      · rintro ⟨g1, g2⟩
        rcases hh with g | g
        · rcases hr with h | h | h | h <;> rw [h] at g1 g
          · exact absurd g (by decide)
          · exact absurd g (by decide)
          · exact absurd g1 (by decide)
          · exact absurd g1 (by decide)
        · omega)
    by_cases h2 : 2 ≤ rel
    · rw [ifb_t h2]; exact same (Or.inl h2)
    · rw [ifb_f h2, ix_n _ _ _ (by omega) (by omega), i_cl _ (by omega)]
      have s1 := (S (fiv c 8 0) (by omega)).1
      by_cases h0 : 0 ≤ c (fiv c 8 0)
      · rw [ifb_t ((lg_ge0 _ _).mpr (by rw [s1, z0]; exact h0))]; exact same (Or.inr h0)
      · rw [ifb_f (fun g => h0 (by have := (lg_ge0 _ _).mp g; rw [s1, z0] at this; exact this))]
        refine go (-z) (-(gc c 9 : Int)) (L_neg z _ hz (by omega) (by omega)) (Or.inr rfl) ⟨fun _ => ⟨?_, by omega⟩, fun _ => rfl⟩
        rcases hr with h | h | h | h
        · left; rw [h]; decide
        · right; rw [h]; decide
        · exact absurd (by rw [h]; decide) h2
        · exact absurd (by rw [h]; decide) h2
  · have s1 := (S 8 (by omega)).1
    rw [if_neg h8, ifb_f (by decide)]
    have ix8 : ∀ {α : Type} (k : Option α), ix 8 9 k = k := fun k => ix_n 8 9 k (by omega) (by omega)
    rw [ix8]
    have hstl : stl (2 + rel) c = some (row0 (if trv (2 + rel) (c 8) then 0 else 1)) := by
      unfold stl; rw [if_pos (by omega)]
    have fin : ∀ b : Bool, b = trv (2 + rel) (c 8) → ∃ p u' gr' ki' le' ri' ma' bi' ro' ta' row', f_X7_atom_152 N (Int32.ofNat u) gr ki le ri ma bi ro ta row (if b then 1 else 0) = some (Int32.ofNat p, Int32.ofNat u', gr', ki', le', ri', ma', bi', ro', ta', row') ∧ AtomGot u ki le ri ro (2 + rel) c gr p u' gr' ki' le' ri' ma' bi' ro' ta' := by
      intro b hb
      unfold f_X7_atom_152
      rw [bd (o_truth N b)]
      have hp : (if b then 0 else 1) < u := by cases b <;> simp <;> omega
      have hd : dn ki le ri ro (if b then 0 else 1) = [row0 (if trv (2 + rel) (c 8) then 0 else 1)] := by
        rw [← hb]
        cases b
        · exact (node0 P.1).2
        · exact (node0 P.1).1
      refine ⟨_, u, gr, ki, le, ri, ma, bi, ro, ta, row, rfl, ⟨_, ⟨hd, rfl⟩, ?_, fun h => h, hgr⟩, fun h => Or.inr ⟨_, hstl, h, hd⟩⟩
      have := P.here (k := 1) hp
      rw [hd] at this
      exact this
    have t8 : (8 : Int32).toNatClampNeg = 8 := rfl
    rw [t8]
    unfold trv at fin
    rcases hr with h | h | h | h <;> subst h
    · rw [ifb_t rfl]
      by_cases hh : c 8 = 0
      · rw [ifb_t ((lg_eq0 _ _).mpr (by rw [s1, z0]; exact hh))]; exact fin true (by simp [hh])
      · rw [ifb_f (fun g => hh (by have := (lg_eq0 _ _).mp g; rw [s1, z0] at this; exact this))]; exact fin false (by simp [hh])
    · rw [ifb_f (by decide), ifb_t rfl]
      by_cases hh : c 8 = 0
      · rw [ifb_t ((lg_eq0 _ _).mpr (by rw [s1, z0]; exact hh))]; exact fin false (by simp [hh])
      · rw [ifb_f (fun g => hh (by have := (lg_eq0 _ _).mp g; rw [s1, z0] at this; exact this))]; exact fin true (by simp [hh])
    · rw [ifb_f (by decide), ifb_f (by decide), ifb_t rfl]
      by_cases hh : c 8 < 0
      · rw [ifb_f (fun g => by have := (lg_ge0 _ _).mp g; rw [s1, z0] at this; omega)]; exact fin true (by simp [hh])
      · rw [ifb_t ((lg_ge0 _ _).mpr (by rw [s1, z0]; omega))]; exact fin false (by simp [hh])
    · rw [ifb_f (by decide), ifb_f (by decide), ifb_f (by decide)]
      by_cases hh : c 8 ≤ 0
      · rw [ifb_f (fun g => by have := (lg_gt0 _ _).mp g; rw [s1, z0] at this; omega)]; exact fin true (by simp [hh])
      · rw [ifb_t ((lg_gt0 _ _).mpr (by rw [s1, z0]; omega))]; exact fin false (by simp [hh])
end ATOM
def bt (x : Int32) (v : Nat) : Int32 := (x >>> (Int32.ofNat v &&& 31)) &&& 1
theorem and1 (y : Int32) : y &&& 1 = 0 ↔ y.toBitVec.getLsbD 0 = false := by
  constructor
  · intro h
    have := congrArg (fun z : Int32 => z.toBitVec.getLsbD 0) h
    simpa [Int32.toBitVec_and, BitVec.getLsbD_and] using this
  · intro h
    apply Int32.toBitVec_inj.mp
    apply BitVec.eq_of_getLsbD_eq
    intro i hi
    rw [Int32.toBitVec_and, BitVec.getLsbD_and]
    by_cases h0 : i = 0
    · subst h0; rw [h]; rfl
    · have : (Int32.toBitVec 1).getLsbD i = false := by
        show (BitVec.ofNat 32 1).getLsbD i = false
        have : (1 : Nat).testBit i = false := by
          cases i with
          | zero => exact absurd rfl h0
          | succ n => simp [Nat.testBit_succ]
        rw [BitVec.getLsbD_ofNat, this]
        simp
      rw [this, Bool.and_false]
      show _ = (BitVec.ofNat 32 0).getLsbD i
      simp
theorem bt_iff (x : Int32) (v : Nat) (hv : v < 8) : bt x v = 0 ↔ x.toBitVec.getLsbD v = false := by
  unfold bt
  rw [and1]
  have e : (x >>> (Int32.ofNat v &&& 31)).toBitVec = x.toBitVec.sshiftRight v := by
    rw [Int32.toBitVec_shiftRight]
    have : v = 0 ∨ v = 1 ∨ v = 2 ∨ v = 3 ∨ v = 4 ∨ v = 5 ∨ v = 6 ∨ v = 7 := by omega
    rcases this with rfl | rfl | rfl | rfl | rfl | rfl | rfl | rfl <;> rfl
  rw [e, BitVec.getLsbD_sshiftRight]
  have hv32 : v < 32 := by omega
  simp [hv32]
theorem bt_or (x y : Int32) (v : Nat) (hv : v < 8) : bt (x ||| y) v = 0 ↔ bt x v = 0 ∧ bt y v = 0 := by
  rw [bt_iff _ _ hv, bt_iff _ _ hv, bt_iff _ _ hv, Int32.toBitVec_or, BitVec.getLsbD_or, Bool.or_eq_false_iff]
theorem sh_bit (k v : Nat) (hk : k < 8) (hv : v < 8) : ((1 : Int32) <<< (Int32.ofNat k &&& 31)).toBitVec.getLsbD v = decide (k = v) := by
  have hh : k = 0 ∨ k = 1 ∨ k = 2 ∨ k = 3 ∨ k = 4 ∨ k = 5 ∨ k = 6 ∨ k = 7 := by omega
  have : v = 0 ∨ v = 1 ∨ v = 2 ∨ v = 3 ∨ v = 4 ∨ v = 5 ∨ v = 6 ∨ v = 7 := by omega
  rcases hh with rfl | rfl | rfl | rfl | rfl | rfl | rfl | rfl <;> rcases this with rfl | rfl | rfl | rfl | rfl | rfl | rfl | rfl <;> rfl
theorem bt_clear (x : Int32) (w v : Nat) (hw : w < 8) (hv : v < 8) : bt (x &&& ((1 <<< (Int32.ofNat w &&& 31)) ^^^ (-1))) v = 0 ↔ w = v ∨ bt x v = 0 := by
  rw [bt_iff _ _ hv, bt_iff _ _ hv, Int32.toBitVec_and, BitVec.getLsbD_and, Int32.toBitVec_xor, BitVec.getLsbD_xor, sh_bit w v hw hv]
  have e : (Int32.toBitVec (-1)).getLsbD v = true := by
    have : v = 0 ∨ v = 1 ∨ v = 2 ∨ v = 3 ∨ v = 4 ∨ v = 5 ∨ v = 6 ∨ v = 7 := by omega
    rcases this with rfl | rfl | rfl | rfl | rfl | rfl | rfl | rfl <;> rfl
  rw [e]
  by_cases h : w = v
  · simp [h]
  · simp [h]
theorem rbk_bit (r : List Int32) (v : Nat) (hv : v < 8) : ∀ k, k ≤ 8 → (bt (rbk r k 0) v = 0 ↔ (v < k → r.getD (1 + v) 0 = 0))
  | 0, _ => by
    constructor
    · intro _ h; omega
    · intro _; rw [bt_iff _ _ hv]; unfold rbk
      have : v = 0 ∨ v = 1 ∨ v = 2 ∨ v = 3 ∨ v = 4 ∨ v = 5 ∨ v = 6 ∨ v = 7 := by omega
      rcases this with rfl | rfl | rfl | rfl | rfl | rfl | rfl | rfl <;> rfl
  | k + 1, hk => by
    have ih := rbk_bit r v hv k (by omega)
    rw [rbk_step]
    by_cases h : r.getD (1 + k) 0 = 0
    · rw [if_neg (by simpa using h), ih]
      constructor
      · intro g hvk
        by_cases e : v = k
        · rw [e]; exact h
        · exact g (by omega)
      · intro g hvk; exact g (by omega)
    · rw [if_pos h, bt_or _ _ _ hv, ih]
      have hs : bt (1 <<< (Int32.ofNat k &&& 31)) v = 0 ↔ ¬ (k = v) := by
        rw [bt_iff _ _ hv, sh_bit k v (by omega) hv]; simp
      rw [hs]
      constructor
      · intro ⟨g1, g2⟩ hvk; exact g1 (by omega)
      · intro g
        exact ⟨fun hvk => g (by omega), fun e => h (by rw [e]; exact g (by omega))⟩
theorem rb_bit (r : List Int32) (v : Nat) (hv : v < 8) : bt (rb r) v = 0 ↔ r.getD (1 + v) 0 = 0 := by
  unfold rb
  rw [rbk_bit r v hv 8 (by omega)]
  exact ⟨fun h => h hv, fun h _ => h⟩
theorem subst_id {v : Nat} (hv : v < 8) {pt : Option (List Int32)} {l : List (List Int32)} (F : Fm l) (qf : Qf l) (h : bt (fv l) v = 0) : subst v pt l = some l := by
  revert qf h
  refine Fm.ind (P := fun l => Qf l → bt (fv l) v = 0 → subst v pt l = some l) ?_ ?_ ?_ F
  · intro r hr _ h
    rw [fv_leaf hr, rb_bit r v hv] at h
    rw [subst_leaf hr]
    unfold subLeaf
    rw [if_pos h]
  · intro a k w _ _ hk _ _ qf _
    exact (qf.no hk).elim
  · intro a b k ha hb iha ihb hk ho qf h
    rw [fv_bi ha hb hk, bt_or _ _ _ hv] at h
    rw [subst_bi ha hb hk, iha qf.left.left h.1, ihb qf.left.right h.2]
    show some (mk k a b) = _
    rw [mk_ok ha hb ho hk]
def OGot (u k : Nat) (ki le ri ro : Nat → Int32) (p : Nat) (S : Option (List (List Int32))) (u' : Nat) (gr' : Int32) (ki' le' ri' ma' bi' ro' ta' : Nat → Int32) : Prop :=
  (∃ W, Got u k ki le ri ro p W u' ki' le' ri' ma' bi' ro' ta' ∧ W.length ≤ 400 ∧ ((gr' = 1 ∧ S = none) ∨ (gr' = 0 ∧ S = some W)))
def PP (v : Nat) (pt : Option (List Int32)) (so : Int32) (by_ : Int64) (pn : Nat → Int64) : Prop := match pt with
  | none => so = 0
  | some q => PtB q ∧ q.getD (1 + v) 0 = 0 ∧ ((q.getD 0 0 = 0 ∧ so = 1) ∨ (q.getD 0 0 = 1 ∧ so = 2)) ∧ by_.toInt = (q.getD 10 0).toInt ∧ ∀ j, j < 9 → (pn j).toInt = -(q.getD (1 + j) 0).toInt
theorem L_sub (x y : Int64) (a b : Int) (hx : x.toInt = a) (hy : y.toInt = b) (h1 : -9223372036854775808 ≤ a - b) (h2 : a - b < 9223372036854775808) : (x - y).toInt = a - b := by
  rw [Int64.toInt_sub, hx, hy]
  exact bm64 _ (by omega) (by omega)
section PUT7
variable {u : Nat} {ki le ri ma bi ro ta : Nat → Int32}
theorem put7_loop (N : Nat) (U gr so y3 : Int32) {p v : Nat} (hp : p < 24000) (hv : v < 8) (A : Atm (aRow le ro p)) {q : List Int32} (Q : PtB q) (hqv : q.getD (1 + v) 0 = 0) {by_ : Int64} (hby : by_.toInt = (q.getD 10 0).toInt) {pn : Nat → Int64} (hpn : ∀ j, j < 9 → (pn j).toInt = -(q.getD (1 + j) 0).toInt) : ∀ (d m k : Nat) (row : Nat → Int64), k + d = 9 → (∀ j, j < k → (row j).toInt = sc (aRow le ro p) v q j) → ∃ row', Sm row' (sc (aRow le ro p) v q) ∧ f_X7_put_74 N (m + d + 1) U gr by_ so (Int32.ofNat v) ki le ri ma bi ro ta row pn (Int32.ofNat p) (ro (9 * p + v)) y3 (Int32.ofNat k) = ifb (so = 1) (f_X7_put_158 N U gr by_ so (Int32.ofNat v) ki le ri ma bi ro ta row' pn y3) (ifb (ro (9 * p + v) ≤ 0) (f_X7_put_158 N U gr by_ so (Int32.ofNat v) ki le ri ma bi ro ta row' pn 3) (f_X7_put_158 N U gr by_ so (Int32.ofNat v) ki le ri ma bi ro ta row' pn 2))
  | 0, m, k, row, h, hr => by
    have : k = 9 := by omega
    subst this
    refine ⟨row, fun j hj => ⟨hr j hj, sc_bd A hv Q j hj⟩, ?_⟩
    rw [f_X7_put_74]; dsimp only
    rw [ifb_t (by decide)]
  | d + 1, m, k, row, h, hr => by
    rw [show m + (d + 1) + 1 = (m + d + 1) + 1 from by omega, f_X7_put_74]; dsimp only
    rw [ifb_f (by rw [show (9 : Int32) = Int32.ofNat 9 from rfl, i_le _ _ (by omega) (by omega)]; omega)]
    have step : ∀ x : Int64, x.toInt = sc (aRow le ro p) v q k → ∃ row', Sm row' (sc (aRow le ro p) v q) ∧ f_X7_put_129 (f_X7_put_74 N (m + d + 1)) N U gr by_ so (Int32.ofNat v) ki le ri ma bi ro ta row pn (Int32.ofNat p) (ro (9 * p + v)) y3 (Int32.ofNat k) (Int32.ofNat k) x = ifb (so = 1) (f_X7_put_158 N U gr by_ so (Int32.ofNat v) ki le ri ma bi ro ta row' pn y3) (ifb (ro (9 * p + v) ≤ 0) (f_X7_put_158 N U gr by_ so (Int32.ofNat v) ki le ri ma bi ro ta row' pn 3) (f_X7_put_158 N U gr by_ so (Int32.ofNat v) ki le ri ma bi ro ta row' pn 2)) := by
      intro x hx
      unfold f_X7_put_129
      rw [ix_n _ _ _ (by omega) (by omega), i_cl _ (by omega), i_p1]
      apply put7_loop N U gr so y3 hp hv A Q hqv hby hpn d m (k + 1) _ (by omega)
      intro j hj
      by_cases hjk : j = k
      · rw [hjk, updL_at]; exact hx
      · rw [updL_ne _ _ _ _ hjk]; exact hr j (by omega)
    by_cases hkv : k = v
    · rw [ifb_t (by rw [hkv])]
      apply step
      unfold sc
      rw [if_pos hkv, hkv, hqv]
      show (0 : Int) = 0 + _ * 0
      omega
    · rw [ifb_f (by rw [i_eq _ _ (by omega) (by omega)]; exact hkv), show (9 : Int32) * Int32.ofNat p = Int32.ofNat (9 * p) from i_mul 9 p, i_add, ix_n _ _ _ (by omega) (by omega), ix_n _ _ _ (by omega) (by omega), i_cl _ (by omega), i_cl _ (by omega)]
      apply step
      obtain ⟨_, _, hb, _⟩ := id A
      have h1 := hb (1 + k) (by omega) (by omega)
      have h2 := hb (1 + v) (by omega) (by omega)
      have h3 := Q 10 (by omega)
      have h4 := Q (1 + k) (by omega)
      have m1 := mul_bd _ _ h1.1 h1.2 h3.1 h3.2
      have m2 := mul_bd _ _ h2.1 h2.2 h4.1 h4.2
      unfold sc
      rw [if_neg hkv]
      rw [aRow_get _ _ _ _ (by omega)] at m1 m2 ⊢
      rw [aRow_get _ _ _ _ (by omega)]
      rw [Int.mul_comm] at m1
      have e1 := L_mul by_ (ro (9 * p + k)).toInt64 _ _ hby (Int32.toInt_toInt64 _) (by omega) (by omega)
      have hneg : (ro (9 * p + v)).toInt * -(q.getD (1 + k) 0).toInt = -((ro (9 * p + v)).toInt * (q.getD (1 + k) 0).toInt) := Int.mul_neg _ _
      have e2 := L_mul (ro (9 * p + v)).toInt64 (pn k) _ _ (Int32.toInt_toInt64 _) (hpn k (by omega)) (by rw [hneg]; omega) (by rw [hneg]; omega)
      rw [hneg] at e2
      rw [L_sub _ _ _ _ e1 e2 (by omega) (by omega), Int.mul_comm (q.getD 10 0).toInt]
      omega
theorem AtomGot.og {rel : Int32} {c : Nat → Int} {p u' : Nat} {gr' : Int32} {ki' le' ri' ma' bi' ro' ta' : Nat → Int32} (G : AtomGot u ki le ri ro rel c 0 p u' gr' ki' le' ri' ma' bi' ro' ta') : OGot u 1 ki le ri ro p ((stl rel c).map (fun x => [x])) u' gr' ki' le' ri' ma' bi' ro' ta' := by
  obtain ⟨⟨W, ⟨hW, hl⟩, G1, _, _⟩, h⟩ := G
  refine ⟨W, G1, by omega, ?_⟩
  rcases h rfl with ⟨h1, h2⟩ | ⟨r, h1, h2, h3⟩
  · exact Or.inl ⟨h2, by rw [h1]; rfl⟩
  · exact Or.inr ⟨h2, by rw [h1, ← hW, h3]; rfl⟩
theorem o_put7 (N : Nat) (hN : 70000 ≤ N) (P : Pool u ki le ri ma bi ro ta) (hu : u < 24000) {p v : Nat} (hp : p < u) (hv : v < 8) (hk : ki p = 2) (hle : le p = 0 ∨ le p = 1 ∨ le p = 2 ∨ le p = 3) (A : Atm (aRow le ro p)) (hz : (aRow le ro p).getD (1 + v) 0 ≠ 0) {pt : Option (List Int32)} {so : Int32} {by_ : Int64} {pn : Nat → Int64} (Q : PP v pt so by_ pn) (row : Nat → Int64) : ∃ s u' gr' ki' le' ri' ma' bi' ro' ta' row', f_X7_put N (Int32.ofNat u) 0 by_ so (Int32.ofNat v) ki le ri ma bi ro ta row pn (Int32.ofNat p) = some (Int32.ofNat s, Int32.ofNat u', gr', ki', le', ri', ma', bi', ro', ta', row') ∧ OGot u 1 ki le ri ro s (subst v pt (dn ki le ri ro p)) u' gr' ki' le' ri' ma' bi' ro' ta' := by
  have h2u := P.1.1
  have hl : Leaf (aRow le ro p) := Or.inr (Or.inr A)
  have egv := aRow_get le ro p v (by omega)
  have hkr : kd (aRow le ro p) = 2 + le p := rfl
  rw [dn2 hk, subst_leaf hl]
  unfold subLeaf
  rw [if_neg hz]
  unfold f_X7_put
  rw [show (9 : Int32) * Int32.ofNat p = Int32.ofNat (9 * p) from i_mul 9 p, i_add, ix_n _ _ _ (by omega) (by omega), ix_n _ _ _ (by omega) (by omega), i_cl _ (by omega), i_cl _ (by omega)]
  have tru : ∀ b : Bool, OGot u 1 ki le ri ro (if b then 0 else 1) (some (if b then fT else fF)) u 0 ki le ri ma bi ro ta := by
    intro b
    have hb : (if b then 0 else 1) < u := by cases b <;> simp <;> omega
    have hd : dn ki le ri ro (if b then 0 else 1) = if b then fT else fF := by
      cases b
      · exact (node0 P.1).2
      · exact (node0 P.1).1
    have := P.here (k := 1) hb
    rw [hd] at this
    exact ⟨_, this, by cases b <;> decide, Or.inr ⟨rfl, rfl⟩⟩
  cases pt with
  | none =>
    have hso : so = 0 := Q
    subst hso
    dsimp only
    rw [ifb_f (by decide)]
    have fin : ∀ (b : Bool) (S : List (List Int32)), S = (if b then fT else fF) → ∃ s u' gr' ki' le' ri' ma' bi' ro' ta' row', ((f_X7_truth N (if b then 1 else 0)).bind (fun z46 => some (z46, Int32.ofNat u, (0 : Int32), ki, le, ri, ma, bi, ro, ta, row))) = some (Int32.ofNat s, Int32.ofNat u', gr', ki', le', ri', ma', bi', ro', ta', row') ∧ OGot u 1 ki le ri ro s (some S) u' gr' ki' le' ri' ma' bi' ro' ta' := by
      intro b S hS
      rw [bd (o_truth N b), hS]
      exact ⟨_, u, 0, ki, le, ri, ma, bi, ro, ta, row, rfl, tru b⟩
    unfold f_X7_put_46 f_X7_put_50 f_X7_put_67
    rw [hkr, egv]
    rcases hle with h | h | h | h
    · rw [h, ifb_f (by decide), ifb_f (by decide)]
      exact fin false _ (by rw [if_neg (by rintro (g | ⟨g, _⟩) <;> exact absurd g (by decide))]; rfl)
    · rw [h, ifb_f (by decide), ifb_t rfl]
      exact fin true _ (by rw [if_pos (Or.inl (by decide))]; rfl)
    · rw [h, ifb_t (by decide), ifb_t rfl]
      by_cases hd : ro (9 * p + v) ≤ 0
      · rw [ifb_t hd]; exact fin false _ (by rw [if_neg (by rintro (g | ⟨_, g⟩); exact absurd g (by decide); exact g hd)]; rfl)
      · rw [ifb_f hd]; exact fin true _ (by rw [if_pos (Or.inr ⟨by decide, hd⟩)]; rfl)
    · rw [h, ifb_t (by decide), ifb_t rfl]
      by_cases hd : ro (9 * p + v) ≤ 0
      · rw [ifb_t hd]; exact fin false _ (by rw [if_neg (by rintro (g | ⟨_, g⟩); exact absurd g (by decide); exact g hd)]; rfl)
      · rw [ifb_f hd]; exact fin true _ (by rw [if_pos (Or.inr ⟨by decide, hd⟩)]; rfl)
  | some q =>
    obtain ⟨Qb, hqv, hso, hby, hpn⟩ := Q
    dsimp only
    obtain ⟨row', S, el⟩ := put7_loop (ki := ki) (le := le) (ri := ri) (ma := ma) (bi := bi) (ro := ro) (ta := ta) N (Int32.ofNat u) 0 so (le p) (p := p) (by omega) hv A Qb hqv hby hpn 9 (N - 10) 0 row (by omega) (fun j hj => by omega)
    rw [show N - 10 + 9 + 1 = N from by omega, show Int32.ofNat 0 = 0 from rfl] at el
    have fin : ∀ (rel : Int32), (rel = 0 ∨ rel = 1 ∨ rel = 2 ∨ rel = 3) → ∃ s u' gr' ki' le' ri' ma' bi' ro' ta' row'', f_X7_put_158 N (Int32.ofNat u) 0 by_ so (Int32.ofNat v) ki le ri ma bi ro ta row' pn rel = some (Int32.ofNat s, Int32.ofNat u', gr', ki', le', ri', ma', bi', ro', ta', row'') ∧ OGot u 1 ki le ri ro s ((stl (2 + rel) (sc (aRow le ro p) v q)).map (fun x => [x])) u' gr' ki' le' ri' ma' bi' ro' ta' := by
      intro rel hrel
      obtain ⟨s, u', gr', ki', le', ri', ma', bi', ro', ta', row'', e, G⟩ := o_atom7 N hN P hu S hrel (Or.inl rfl)
      unfold f_X7_put_158
      rw [bd e]
      exact ⟨s, u', gr', ki', le', ri', ma', bi', ro', ta', row'', rfl, G.og⟩
    have e50 : f_X7_put_50 N (Int32.ofNat u) 0 by_ so (Int32.ofNat v) ki le ri ma bi ro ta row pn (Int32.ofNat p) (ro (9 * p + v)) (le p) = f_X7_put_74 N N (Int32.ofNat u) 0 by_ so (Int32.ofNat v) ki le ri ma bi ro ta row pn (Int32.ofNat p) (ro (9 * p + v)) (le p) 0 := by
      unfold f_X7_put_50
      rw [ifb_f (by rcases hso with ⟨_, h⟩ | ⟨_, h⟩ <;> rw [h] <;> decide)]
    rw [e50, el]
    unfold rep
    rcases hso with ⟨h0, h⟩ | ⟨h0, h⟩
    · rw [ifb_t h, ifb_t h, h0, if_neg (by decide), hkr]
      exact fin (le p) hle
    · have hs1 : ¬ (so = 1) := by rw [h]; decide
      rw [ifb_f hs1, h0, if_pos rfl, hkr]
      have hd0 : (ro (9 * p + v) ≤ 0) ↔ (ro (9 * p + v)).toInt ≤ 0 := by rw [Int32.le_iff_toInt_le]; rfl
      by_cases h2 : 2 ≤ le p
      · rw [ifb_t h2, ifb_f hs1, if_neg (by rcases hle with g | g | g | g <;> rw [g] at h2 ⊢ <;> revert h2 <;> decide), if_neg (by rcases hle with g | g | g | g <;> rw [g] at h2 ⊢ <;> revert h2 <;> decide), egv]
        by_cases hd : ro (9 * p + v) ≤ 0
        · rw [ifb_t hd, if_pos (hd0.mp hd)]
          exact fin 3 (by decide)
        · rw [ifb_f hd, if_neg (fun g => hd (hd0.mpr g))]
          exact fin 2 (by decide)
      · rw [ifb_f h2]
        unfold f_X7_put_46
        rcases hle with g | g | g | g
        · rw [g, ifb_f (by decide), if_pos (by decide), bd (show f_X7_truth N 0 = some (Int32.ofNat 1) from o_truth N false)]
          exact ⟨_, u, 0, ki, le, ri, ma, bi, ro, ta, row, rfl, tru false⟩
        · rw [g, ifb_t rfl, if_neg (by decide), if_pos (by decide), bd (show f_X7_truth N 1 = some (Int32.ofNat 0) from o_truth N true)]
          exact ⟨_, u, 0, ki, le, ri, ma, bi, ro, ta, row, rfl, tru true⟩
        · rw [g] at h2; exact absurd (by decide) h2
        · rw [g] at h2; exact absurd (by decide) h2
theorem putAll_gr (N : Nat) (U : Int32) (by_ : Int64) (so va : Int32) (row pn : Nat → Int64) (d p : Nat) (hp : p < 24000) : fg_putAll N (d + 1) U 1 by_ so va ki le ri ma bi ro ta row pn (Int32.ofNat p) = some (Int32.ofNat p, U, 1, ki, le, ri, ma, bi, ro, ta, row) := by
  rw [fg_putAll]
  unfold F_X7_putAll f_X7_putAll_23
  rw [ix_n _ _ _ (by omega) (by omega), i_cl _ (by omega)]
  by_cases h : (((bi p) >>> (va &&& 31)) &&& 1) = 0
  · rw [ifb_t h]
  · rw [ifb_f h, ifb_f (by decide)]
theorem o_putAll (N : Nat) (hN : 70000 ≤ N) {v : Nat} (hv : v < 8) {pt : Option (List Int32)} {so : Int32} {by_ : Int64} {pn : Nat → Int64} (Q : PP v pt so by_ pn) : ∀ (d : Nat) {u : Nat} {ki le ri ma bi ro ta : Nat → Int32} (row : Nat → Int64) (p : Nat), Pool u ki le ri ma bi ro ta → p < u → (dn ki le ri ro p).length ≤ d → (dn ki le ri ro p).length ≤ 400 → Qf (dn ki le ri ro p) → u + (dn ki le ri ro p).length ≤ 24000 → ∃ s u' gr' ki' le' ri' ma' bi' ro' ta' row', fg_putAll N d (Int32.ofNat u) 0 by_ so (Int32.ofNat v) ki le ri ma bi ro ta row pn (Int32.ofNat p) = some (Int32.ofNat s, Int32.ofNat u', gr', ki', le', ri', ma', bi', ro', ta', row') ∧ OGot u (dn ki le ri ro p).length ki le ri ro s (subst v pt (dn ki le ri ro p)) u' gr' ki' le' ri' ma' bi' ro' ta' := by
  intro d
  induction d with
  | zero =>
    intro u ki le ri ma bi ro ta row p P hp hd _ _ _
    have := (dn_fm P.1 p hp).pos
    omega
  | succ d ih =>
    intro u ki le ri ma bi ro ta row p P hp hd h4 qf hc
    have hu2 := P.1.2.1
    have h2u := P.1.1
    have fp := dn_fm P.1 p hp
    have ppos := fp.pos
    obtain ⟨_, mbb, _⟩ := P.2.2 p hp
    rw [fg_putAll]
    unfold F_X7_putAll
    rw [ix_n _ _ _ (by omega) (by omega), i_cl _ (by omega)]
    by_cases hb0 : bt (fv (dn ki le ri ro p)) v = 0
    · rw [ifb_t (by rw [mbb]; exact hb0), subst_id hv fp qf hb0]
      exact ⟨p, u, 0, ki, le, ri, ma, bi, ro, ta, row, rfl, _, P.here hp, h4, Or.inr ⟨rfl, rfl⟩⟩
    · rw [ifb_f (by rw [mbb]; exact hb0), ifb_t rfl, ix_n _ _ _ (by omega) (by omega)]
      rcases P.1.2.2.1 p hp with ⟨h0, h, _⟩ | ⟨h0, h, _⟩ | ⟨hp2, h, hl, hr, hA⟩ | ⟨a, b, hp2, ha, hb, hk, e1, e2, ho⟩ | ⟨w, b, hp2, hw, hb, hk, e1, e2, ho⟩
      · rw [dn0 h] at hb0
        exact absurd ((rb_bit (row0 0) v hv).mpr (by rw [row0_get _ _ (by omega), if_neg (by omega)])) hb0
      · rw [dn1 h] at hb0
        exact absurd ((rb_bit (row0 1) v hv).mpr (by rw [row0_get _ _ (by omega), if_neg (by omega)])) hb0
      · rw [ifb_t h]
        have hz : (aRow le ro p).getD (1 + v) 0 ≠ 0 := by
          intro g
          rw [dn2 h, fv_leaf (Or.inr (Or.inr hA)), rb_bit _ v hv] at hb0
          exact hb0 g
        obtain ⟨s, u', gr', ki', le', ri', ma', bi', ro', ta', row', e, G⟩ := o_put7 N hN P (by omega) hp hv h hl hA hz Q row
        rw [bd e]
        have hlen : (dn ki le ri ro p).length = 1 := by rw [dn2 h]; rfl
        rw [hlen]
        exact ⟨s, u', gr', ki', le', ri', ma', bi', ro', ta', row', rfl, G⟩
      · have ek2 : ¬ (ki p = 2) := by rcases hk with h | h <;> rw [h] <;> decide
        have ed := dnb P.1 hp ha hb hk e1 e2
        have fa := dn_fm P.1 a (by omega)
        have fb := dn_fm P.1 b (by omega)
        have hkk : ki p + 3 = 6 ∨ ki p + 3 = 7 := by rcases hk with h | h <;> rw [h] <;> decide
        have hlen : (dn ki le ri ro p).length = (dn ki le ri ro a).length + (dn ki le ri ro b).length + 1 := by rw [ed]; simp; omega
        have qa : Qf (dn ki le ri ro a) := by rw [ed] at qf; exact qf.left.left
        have qb : Qf (dn ki le ri ro b) := by rw [ed] at qf; exact qf.left.right
        have hsub : subst v pt (dn ki le ri ro p) = (subst v pt (dn ki le ri ro a)).bind (fun x => (subst v pt (dn ki le ri ro b)).bind (fun y => some (mk (ki p + 3) x y))) := by rw [ed]; exact subst_bi fa fb hkk
        obtain ⟨s1, u1, g1, k1, l1, r1, m1, b1, o1, t1, w1, f1, W1, ⟨P1, A1, c1, c2, c3, c4⟩, c5, c6⟩ := ih row a P (by omega) (by omega) (by omega) qa (by omega)
        have apos := fa.pos
        have bpos := fb.pos
        obtain ⟨d, rfl⟩ : ∃ e, d = e + 1 := ⟨d - 1, by omega⟩
        rw [ifb_f ek2, ix_n _ _ _ (by omega) (by omega), e1, bd f1, ix_n _ _ _ (by omega) (by omega)]
        have hr1 : r1 p = Int32.ofNat b := by rw [(A1 p hp).2.2.1, e2]
        dsimp only
        rw [hr1]
        rcases c6 with ⟨rfl, hn⟩ | ⟨rfl, hs1⟩
        ·
          rw [bd (putAll_gr N (Int32.ofNat u1) by_ so (Int32.ofNat v) w1 pn d b (by omega)), ifb_f (show ¬ ((1 : Int32) = 0) by decide)]
          refine ⟨0, u1, 1, k1, l1, r1, m1, b1, o1, t1, w1, rfl, fT, ⟨P1, A1, c1, by omega, by have := P1.1.1; omega, (node0 P1.1).1⟩, by decide, Or.inl ⟨rfl, by rw [hsub, hn]; rfl⟩⟩
        · have d1b : dn k1 l1 r1 o1 b = dn ki le ri ro b := dn_ag P.1.2.2.1 hu2 A1 (by omega)
          obtain ⟨s2, u2, g2, k2, l2, r2, m2, b2, o2, t2, w2, f2, W2, ⟨P2, A2, q1, q2, q3, q4⟩, q5, q6⟩ := ih w1 b P1 (by omega) (by rw [d1b]; omega) (by rw [d1b]; omega) (by rw [d1b]; exact qb) (by rw [d1b]; omega)
          rw [d1b] at q2 q6
          rw [bd f2]
          dsimp only
          rcases q6 with ⟨rfl, hn⟩ | ⟨rfl, hs2⟩
          · rw [ifb_f (by decide)]
            refine ⟨0, u2, 1, k2, l2, r2, m2, b2, o2, t2, w2, rfl, fT, ⟨P2, A1.tr A2 c1, by omega, by omega, by have := P2.1.1; omega, (node0 P2.1).1⟩, by decide, Or.inl ⟨rfl, by rw [hsub, hs1, hn]; rfl⟩⟩
          · rw [ifb_t rfl, ix_n _ _ _ (by omega) (by omega)]
            have hk2' : k2 p = ki p := by rw [(A2 p (by omega)).1, (A1 p hp).1]
            have d2s : dn k2 l2 r2 o2 s1 = W1 := by rw [dn_ag P1.1.2.2.1 P1.1.2.1 A2 (by omega), c4]
            have lw1 := (subst_ok hv fa qa hs1).2.2
            have lw2 := (subst_ok hv fb qb hs2).2.2
            have fin : ∀ x1 : Int32, (if x1 = 0 then (7 : Int32) else 6) = ki p + 3 → ∃ s u' gr' ki' le' ri' ma' bi' ro' ta' row', f_X7_putAll_90 (fg_putAll N (d + 1)) N (Int32.ofNat u2) 0 by_ so (Int32.ofNat v) k2 l2 r2 m2 b2 o2 t2 w2 pn (Int32.ofNat s1) (Int32.ofNat s2) x1 = some (Int32.ofNat s, Int32.ofNat u', gr', ki', le', ri', ma', bi', ro', ta', row') ∧ OGot u (dn ki le ri ro p).length ki le ri ro s (subst v pt (dn ki le ri ro p)) u' gr' ki' le' ri' ma' bi' ro' ta' := by
              intro x1 hx
              unfold f_X7_putAll_90 f_X7_putAll_95
              obtain ⟨s, u', ki', le', ri', ma', bi', ro', ta', e, Q1, Q2, Q3, Q4, Q5, Q6⟩ := o_both (rw_ := w2) N hN P2 (by omega) x1 (p := s1) (q := s2) (by omega) q3 (by rw [d2s, q4]; omega)
              rw [bd e]
              rw [d2s, q4, hx] at Q6
              have hml := mk_len (ki p + 3) W1 W2
              refine ⟨s, u', 0, ki', le', ri', ma', bi', ro', ta', w2, rfl, mk (ki p + 3) W1 W2, ⟨Q1, (A1.tr A2 c1).tr Q2 (by omega), by omega, by omega, Q5, Q6⟩, by omega, Or.inr ⟨rfl, by rw [hsub, hs1, hs2]; rfl⟩⟩
            rcases hk with h | h
            · rw [ifb_t (by rw [hk2', h])]; exact fin 1 (by rw [h]; decide)
            · rw [ifb_f (by rw [hk2', h]; decide)]; exact fin 0 (by rw [h]; decide)
      · have ed := dnq P.1 hp hw hb hk e1 e2
        have hkk : ki p + 3 = 8 ∨ ki p + 3 = 9 := by rcases hk with h | h <;> rw [h] <;> decide
        rw [ed] at qf
        exact (qf.no hkk).elim
end PUT7
def RQ (v : Nat) (q : List Int32) : Prop := q.length = 11 ∧ PtB q ∧ (q.getD 0 0 = 0 ∨ q.getD 0 0 = 1) ∧ q.getD (1 + v) 0 = 0
def REnc (e : Nat → Int32) (s : Int32) (q : List Int32) : Prop := (∀ j, j < 9 → (e j).toInt = -(q.getD (1 + j) 0).toInt) ∧ e 9 = q.getD 10 0 ∧ s = 1 + q.getD 0 0
def RPts (v : Nat) (pr so : Nat → Int32) (pl : List (List Int32)) : Prop := ∀ i, i < pl.length → RQ v (pl.getD i []) ∧ REnc (fun j => pr (10 * i + j)) (so i) (pl.getD i [])
theorem add1_inj (a b : Int32) (h : 1 + a = 1 + b) : a = b := by
  have := congrArg (fun x => x - 1) h
  simpa [Int32.add_comm 1, Int32.add_sub_cancel] using this
theorem renc_inj {v : Nat} {e e' : Nat → Int32} {s s' : Int32} {q q' : List Int32} (hq : RQ v q) (hq' : RQ v q') (E : REnc e s q) (E' : REnc e' s' q') : (s = s' ∧ ∀ j, j < 10 → e j = e' j) ↔ q = q' := by
  obtain ⟨l1, _⟩ := hq
  obtain ⟨l2, _⟩ := hq'
  obtain ⟨a1, a2, a3⟩ := E
  obtain ⟨b1, b2, b3⟩ := E'
  constructor
  · intro ⟨h1, h2⟩
    apply List.ext_getElem (by rw [l1, l2])
    intro j hj hj'
    have key : q.getD j 0 = q'.getD j 0 := by
      by_cases h0 : j = 0
      · rw [a3, b3] at h1; rw [h0]; exact add1_inj _ _ h1
      · by_cases h10 : j = 10
        · rw [h10, ← a2, ← b2]; exact h2 9 (by omega)
        · have c1 := a1 (j - 1) (by omega)
          have c2 := b1 (j - 1) (by omega)
          rw [h2 (j - 1) (by omega), c2, show 1 + (j - 1) = j from by omega] at c1
          exact Int32.toInt_inj.mp (by omega)
    simpa [List.getD_eq_getElem?_getD, List.getElem?_eq_getElem hj, List.getElem?_eq_getElem hj'] using key
  · intro h
    subst h
    refine ⟨by rw [a3, b3], fun j hj => ?_⟩
    by_cases h9 : j = 9
    · rw [h9, a2, b2]
    · apply Int32.toInt_inj.mp
      rw [a1 j (by omega), b1 j (by omega)]
theorem ptOf_rq {r : List Int32} (A : Atm r) {v : Nat} (hv : v < 8) : RQ v (ptOf r v) := by
  refine ⟨pt_len r v, pt_bd A hv, ?_, ?_⟩
  · rw [pt_0]; unfold plt; split
    · exact Or.inr rfl
    · exact Or.inl rfl
  · rw [pt_n _ _ _ (by omega)]; unfold pnu; rw [if_pos rfl]
section COLL
variable {u : Nat} {ki le ri ma bi ro ta : Nat → Int32}
abbrev RC := Int32 → Int32 → (Nat → Int32) → (Nat → Int32) → (Nat → Int32) → (Nat → Int32) → (Nat → Int32) → (Nat → Int32) → (Nat → Int32) → Int32 → Int32 → Option ((Int32) × (Nat → Int32) × (Nat → Int32))
abbrev RK := Int32 → Int32 → (Nat → Int32) → (Nat → Int32) → (Nat → Int32) → (Nat → Int32) → (Nat → Int32) → (Nat → Int32) → (Nat → Int32) → Int32 → Int32 → Int32 → Option ((Int32) × (Nat → Int32) × (Nat → Int32))
theorem co_same (R_ : RC) (K : RK) (N : Nat) (va pc : Int32) (pr ps : Nat → Int32) (y5 : Int32) (a k : Nat) (ha : a ≤ 1399) (hk : k ≤ 1399) : ∀ (d m i : Nat), i + d = 10 → ((∀ j, i ≤ j → j < 10 → pr (10 * k + j) = pr (10 * a + j)) ∧ f_X7_collect_230 R_ K N (m + d + 2) va pc ki le ri bi ro pr ps y5 (Int32.ofNat (10 * a)) (Int32.ofNat k) 1 (Int32.ofNat i) = some (pc, pr, ps)) ∨ ((¬ ∀ j, i ≤ j → j < 10 → pr (10 * k + j) = pr (10 * a + j)) ∧ f_X7_collect_230 R_ K N (m + d + 2) va pc ki le ri bi ro pr ps y5 (Int32.ofNat (10 * a)) (Int32.ofNat k) 1 (Int32.ofNat i) = K va pc ki le ri bi ro pr ps y5 (Int32.ofNat (10 * a)) (Int32.ofNat (k + 1)))
  | 0, m, i, h => by
    have : i = 10 := by omega
    subst this
    left
    refine ⟨fun j h1 h2 => by omega, ?_⟩
    rw [show m + 0 + 2 = (m + 1) + 1 from by omega, f_X7_collect_230]; dsimp only
    unfold f_X7_collect_281
    rw [ifb_t (by decide), ifb_f (by decide)]
  | d + 1, m, i, h => by
    rw [show m + (d + 1) + 2 = (m + d + 2) + 1 from by omega, f_X7_collect_230]; dsimp only
    unfold f_X7_collect_273
    rw [ifb_f (by rw [show (10 : Int32) = Int32.ofNat 10 from rfl, i_le _ _ (by omega) (by omega)]; omega), ifb_f (by decide), show (10 : Int32) * Int32.ofNat k = Int32.ofNat (10 * k) from i_mul 10 k, i_add, i_add, ix_n _ _ _ (by omega) (by omega), ix_n _ _ _ (by omega) (by omega), i_cl _ (by omega), i_cl _ (by omega), i_p1]
    by_cases hc : pr (10 * k + i) = pr (10 * a + i)
    · rw [ifb_t hc]
      rcases co_same R_ K N va pc pr ps y5 a k ha hk d m (i + 1) (by omega) with ⟨g, e⟩ | ⟨g, e⟩
      · refine Or.inl ⟨fun j h1 h2 => ?_, e⟩
        by_cases hj : j = i
        · rw [hj]; exact hc
        · exact g j (by omega) h2
      · exact Or.inr ⟨fun q => g (fun j h1 h2 => q j (by omega) h2), e⟩
    · rw [ifb_f hc]
      refine Or.inr ⟨fun q => hc (q i (Nat.le_refl _) (by omega)), ?_⟩
      rw [show m + d + 2 = (m + d + 1) + 1 from by omega, f_X7_collect_230]; dsimp only
      unfold f_X7_collect_281
      by_cases h9 : (10 : Int32) ≤ Int32.ofNat (i + 1)
      · rw [ifb_t h9, ifb_t rfl, i_p1]
      · rw [ifb_f h9, ifb_t rfl, ifb_t rfl, i_p1]
theorem co_find (R_ : RC) (N : Nat) (hN : 20 ≤ N) (va : Int32) {v : Nat} {pr ps : Nat → Int32} {pl : List (List Int32)} (P : RPts v pr ps pl) (hl : pl.length ≤ 1399) {q : List Int32} (hq : RQ v q) {y5 : Int32} (E : REnc (fun j => pr (10 * pl.length + j)) y5 q) : ∀ (d m k : Nat), k + d = pl.length → f_X7_collect_199 R_ N (m + d + 1) va (Int32.ofNat pl.length) ki le ri bi ro pr ps y5 (Int32.ofNat (10 * pl.length)) (Int32.ofNat k) = if q ∈ pl.drop k then some (Int32.ofNat pl.length, pr, ps) else some (Int32.ofNat (pl.length + 1), pr, upd ps pl.length y5)
  | 0, m, k, h => by
    rw [f_X7_collect_199]; dsimp only
    rw [ifb_t (by rw [i_le _ _ (by omega) (by omega)]; omega), ix_n _ _ _ (by omega) (by omega), i_cl _ (by omega), i_p1, List.drop_eq_nil_of_le (by omega), if_neg (by simp)]
  | d + 1, m, k, h => by
    have hk : k < pl.length := by omega
    rw [show m + (d + 1) + 1 = (m + d + 1) + 1 from by omega, f_X7_collect_199]; dsimp only
    rw [ifb_f (by rw [i_le _ _ (by omega) (by omega)]; omega), ix_n _ _ _ (by omega) (by omega), i_cl _ (by omega)]
    obtain ⟨Pq, PE⟩ := P k hk
    have inj := renc_inj Pq hq PE E
    have eg : pl.getD k [] = pl[k] := by simp [List.getD_eq_getElem?_getD, List.getElem?_eq_getElem hk]
    rw [eg] at inj
    have ih := co_find R_ N hN va P hl hq E d m (k + 1) (by omega)
    rw [List.drop_eq_getElem_cons hk]
    have hmem : q ≠ pl[k] → ((q ∈ pl[k] :: pl.drop (k + 1)) ↔ q ∈ pl.drop (k + 1)) := fun hne => by
      rw [List.mem_cons]
      exact ⟨fun g => g.elim (fun g => absurd g hne) id, Or.inr⟩
    unfold f_X7_collect_225
    by_cases hs : ps k = y5
    · rw [ifb_t hs]
      rcases co_same (ki := ki) (le := le) (ri := ri) (bi := bi) (ro := ro) R_ (f_X7_collect_199 R_ N (m + d + 1)) N va (Int32.ofNat pl.length) pr ps y5 pl.length k (by omega) (by omega) 10 (N - 12) 0 (by omega) with ⟨g, e⟩ | ⟨g, e⟩
      · rw [show N - 12 + 10 + 2 = N from by omega, show Int32.ofNat 0 = 0 from rfl] at e
        rw [e, if_pos]
        rw [← inj.mp ⟨hs, fun j hj => g j (by omega) hj⟩]
        exact List.mem_cons_self
      · rw [show N - 12 + 10 + 2 = N from by omega, show Int32.ofNat 0 = 0 from rfl] at e
        have hne : q ≠ pl[k] := fun h => g (fun j _ hj => (inj.mpr h.symm).2 j hj)
        rw [e, ih]
        by_cases hm : q ∈ pl.drop (k + 1)
        · rw [if_pos hm, if_pos ((hmem hne).mpr hm)]
        · rw [if_neg hm, if_neg (fun g => hm ((hmem hne).mp g))]
    · rw [ifb_f hs]
      have hne : q ≠ pl[k] := fun h => hs (inj.mpr h.symm).1
      obtain ⟨M, hM⟩ : ∃ M, N = M + 1 := ⟨N - 1, by omega⟩
      have e : f_X7_collect_230 R_ (f_X7_collect_199 R_ N (m + d + 1)) N N va (Int32.ofNat pl.length) ki le ri bi ro pr ps y5 (Int32.ofNat (10 * pl.length)) (Int32.ofNat k) 0 0 = f_X7_collect_199 R_ N (m + d + 1) va (Int32.ofNat pl.length) ki le ri bi ro pr ps y5 (Int32.ofNat (10 * pl.length)) (Int32.ofNat (k + 1)) := by
        have e0 : f_X7_collect_230 R_ (f_X7_collect_199 R_ N (m + d + 1)) N N va (Int32.ofNat pl.length) ki le ri bi ro pr ps y5 (Int32.ofNat (10 * pl.length)) (Int32.ofNat k) 0 0 = f_X7_collect_230 R_ (f_X7_collect_199 R_ N (m + d + 1)) N (M + 1) va (Int32.ofNat pl.length) ki le ri bi ro pr ps y5 (Int32.ofNat (10 * pl.length)) (Int32.ofNat k) 0 0 := by rw [← hM]
        rw [e0, f_X7_collect_230]; dsimp only
        unfold f_X7_collect_281
        rw [ifb_f (by decide), ifb_t rfl, ifb_t rfl, i_p1]
      rw [e, ih]
      by_cases hm : q ∈ pl.drop (k + 1)
      · rw [if_pos hm, if_pos ((hmem hne).mpr hm)]
      · rw [if_neg hm, if_neg (fun g => hm ((hmem hne).mp g))]
theorem psg_neg (r : List Int32) (v p : Nat) (h : -1000000000 ≤ (r.getD (1 + p) 0).toInt) (h2 : (r.getD (1 + p) 0).toInt ≤ 1000000000) : ((if p = v then 0 else if 0 ≤ r.getD (1 + v) 0 then r.getD (1 + p) 0 else -(r.getD (1 + p) 0)) : Int32).toInt = -(pnu r v p).toInt := by
  unfold pnu psg
  by_cases hp : p = v
  · rw [if_pos hp, if_pos hp]; rfl
  · rw [if_neg hp, if_neg hp]
    by_cases h0 : 0 ≤ r.getD (1 + v) 0
    · rw [if_pos h0, if_pos h0, i_mulneg _ h h2]; omega
    · rw [if_neg h0, if_neg h0, Int32.one_mul, Int32.toInt_neg, bm32 _ (by omega) (by omega)]
theorem co_write (R_ : RC) (N : Nat) {v p np : Nat} (hv : v < 8) (hp : p < 24000) (hnp : np ≤ 1399) (A : Atm (aRow le ro p)) (ps : Nat → Int32) (y2 y5 : Int32) : ∀ (d m k : Nat) (pr : Nat → Int32), k + d = 9 → (∀ j, j < k → (pr (10 * np + j)).toInt = -(pnu (aRow le ro p) v j).toInt) → ∃ pr', (∀ j, j < 9 → (pr' (10 * np + j)).toInt = -(pnu (aRow le ro p) v j).toInt) ∧ pr' (10 * np + 9) = jabs (ro (9 * p + v)) ∧ (∀ i, i < 10 * np → pr' i = pr i) ∧ f_X7_collect_114 R_ N (m + d + 1) (Int32.ofNat v) (Int32.ofNat np) ki le ri bi ro pr ps (Int32.ofNat p) y2 (ro (9 * p + v)) y5 (Int32.ofNat (10 * np)) (Int32.ofNat k) = f_X7_collect_199 R_ N N (Int32.ofNat v) (Int32.ofNat np) ki le ri bi ro pr' ps y5 (Int32.ofNat (10 * np)) y2
  | 0, m, k, pr, h, hr => by
    have : k = 9 := by omega
    subst this
    rw [f_X7_collect_114]; dsimp only
    unfold f_X7_collect_195
    rw [ifb_t (by decide), show Int32.ofNat (10 * np) + 9 = Int32.ofNat (10 * np + 9) from i_add _ 9]
    have fin : ∀ x, x = jabs (ro (9 * p + v)) → ∃ pr', (∀ j, j < 9 → (pr' (10 * np + j)).toInt = -(pnu (aRow le ro p) v j).toInt) ∧ pr' (10 * np + 9) = jabs (ro (9 * p + v)) ∧ (∀ i, i < 10 * np → pr' i = pr i) ∧ ix (Int32.ofNat (10 * np + 9)) 14000 (f_X7_collect_199 R_ N N (Int32.ofNat v) (Int32.ofNat np) ki le ri bi ro (upd pr (Int32.ofNat (10 * np + 9)).toNatClampNeg x) ps y5 (Int32.ofNat (10 * np)) y2) = f_X7_collect_199 R_ N N (Int32.ofNat v) (Int32.ofNat np) ki le ri bi ro pr' ps y5 (Int32.ofNat (10 * np)) y2 := by
      intro x hx
      rw [ix_n _ _ _ (by omega) (by omega), i_cl _ (by omega)]
      refine ⟨_, fun j hj => ?_, ?_, fun i hi => ?_, rfl⟩
      · rw [upd_ne _ _ _ _ (by omega)]; exact hr j hj
      · rw [upd_at, hx]
      · rw [upd_ne _ _ _ _ (by omega)]
    by_cases h0 : 0 ≤ ro (9 * p + v)
    · rw [ifb_t h0]; exact fin _ (by show _ = (if 0 ≤ ro (9 * p + v) then ro (9 * p + v) else 0 - ro (9 * p + v)); rw [if_pos h0])
    · rw [ifb_f h0]; exact fin _ (by show _ = (if 0 ≤ ro (9 * p + v) then ro (9 * p + v) else 0 - ro (9 * p + v)); rw [if_neg h0, Int32.zero_sub])
  | d + 1, m, k, pr, h, hr => by
    obtain ⟨_, _, hb, _⟩ := id A
    obtain ⟨hb1, hb2⟩ := hb (1 + k) (by omega) (by omega)
    have hneg := psg_neg (aRow le ro p) v k hb1 hb2
    rw [aRow_get _ _ _ _ (by omega), aRow_get _ _ _ _ (by omega)] at hneg
    rw [show m + (d + 1) + 1 = (m + d + 1) + 1 from by omega, f_X7_collect_114]; dsimp only
    rw [ifb_f (by rw [show (9 : Int32) = Int32.ofNat 9 from rfl, i_le _ _ (by omega) (by omega)]; omega)]
    have step : ∀ x : Int32, x.toInt = -(pnu (aRow le ro p) v k).toInt → ∃ pr', (∀ j, j < 9 → (pr' (10 * np + j)).toInt = -(pnu (aRow le ro p) v j).toInt) ∧ pr' (10 * np + 9) = jabs (ro (9 * p + v)) ∧ (∀ i, i < 10 * np → pr' i = pr i) ∧ f_X7_collect_169 R_ (f_X7_collect_114 R_ N (m + d + 1)) N (Int32.ofNat v) (Int32.ofNat np) ki le ri bi ro pr ps (Int32.ofNat p) y2 (ro (9 * p + v)) y5 (Int32.ofNat (10 * np)) (Int32.ofNat k) (Int32.ofNat (10 * np + k)) x = f_X7_collect_199 R_ N N (Int32.ofNat v) (Int32.ofNat np) ki le ri bi ro pr' ps y5 (Int32.ofNat (10 * np)) y2 := by
      intro x hx
      unfold f_X7_collect_169
      rw [ix_n _ _ _ (by omega) (by omega), i_cl _ (by omega), i_p1]
      obtain ⟨pr', g1, g2, g3, g4⟩ := co_write R_ N hv hp hnp A ps y2 y5 d m (k + 1) (upd pr (10 * np + k) x) (by omega) (by
        intro j hj
        by_cases hjk : j = k
        · rw [hjk, upd_at]; exact hx
        · rw [upd_ne _ _ _ _ (by omega)]; exact hr j (by omega))
      exact ⟨pr', g1, g2, fun i hi => by rw [g3 i hi, upd_ne _ _ _ _ (by omega)], g4⟩
    unfold f_X7_collect_146
    rw [i_add]
    by_cases hkv : k = v
    · rw [if_pos hkv] at hneg
      rw [ifb_t (by rw [hkv])]
      by_cases h0 : 0 ≤ ro (9 * p + v)
      · rw [ifb_t h0]; exact step 0 hneg
      · rw [ifb_f h0]; exact step (-0) hneg
    · rw [if_neg hkv] at hneg
      rw [ifb_f (by rw [i_eq _ _ (by omega) (by omega)]; exact hkv), show (9 : Int32) * Int32.ofNat p = Int32.ofNat (9 * p) from i_mul 9 p, i_add, ix_n _ _ _ (by omega) (by omega), i_cl _ (by omega)]
      by_cases h0 : 0 ≤ ro (9 * p + v)
      · rw [if_pos h0] at hneg; rw [ifb_t h0]; exact step _ hneg
      · rw [if_neg h0] at hneg; rw [ifb_f h0]; exact step _ hneg
theorem foldl_not (v : Nat) (hv : v < 8) {l : List (List Int32)} (F : Fm l) (qf : Qf l) (h : bt (fv l) v = 0) (pl : List (List Int32)) : l.foldl (addP v) pl = pl := by
  revert qf h pl
  refine Fm.ind (P := fun l => Qf l → bt (fv l) v = 0 → ∀ pl, l.foldl (addP v) pl = pl) ?_ ?_ ?_ F
  · intro r hr _ h pl
    rw [fv_leaf hr, rb_bit r v hv] at h
    show addP v pl r = pl
    unfold addP isPt
    rw [h]
    simp
  · intro a k w _ _ hk _ _ qf _
    exact (qf.no hk).elim
  · intro a b k ha hb iha ihb hk ho qf h pl
    rw [fv_bi ha hb hk, bt_or _ _ _ hv] at h
    rw [List.foldl_append, List.foldl_append, iha qf.left.left h.1, ihb qf.left.right h.2]
    show addP v pl (row0 k) = pl
    unfold addP isPt
    have : kd (row0 k) = k := rfl
    rw [this]
    rcases hk with rfl | rfl <;> simp
theorem o_collect (N : Nat) (hN : 1500 ≤ N) (P : Pool u ki le ri ma bi ro ta) {v : Nat} (hv : v < 8) : ∀ (d p : Nat) (pr ps : Nat → Int32) (pl : List (List Int32)), p < u → (dn ki le ri ro p).length ≤ d → Qf (dn ki le ri ro p) → RPts v pr ps pl → pl.length + (dn ki le ri ro p).length ≤ 1400 → ∃ pr' ps', fg_collect N d (Int32.ofNat v) (Int32.ofNat pl.length) ki le ri bi ro pr ps (Int32.ofNat p) 0 = some (Int32.ofNat ((dn ki le ri ro p).foldl (addP v) pl).length, pr', ps') ∧ RPts v pr' ps' ((dn ki le ri ro p).foldl (addP v) pl) ∧ ((dn ki le ri ro p).foldl (addP v) pl).length ≤ pl.length + (dn ki le ri ro p).length := by
  intro d
  induction d with
  | zero =>
    intro p pr ps pl hp hd _ _ _
    have := (dn_fm P.1 p hp).pos
    omega
  | succ d ih =>
    intro p pr ps pl hp hd qf RP hl
    have hu2 := P.1.2.1
    have fp := dn_fm P.1 p hp
    have ppos := fp.pos
    obtain ⟨_, mbb, _⟩ := P.2.2 p hp
    rw [fg_collect]
    unfold F_X7_collect
    rw [ix_n _ _ _ (by omega) (by omega), i_cl _ (by omega)]
    by_cases hb0 : bt (fv (dn ki le ri ro p)) v = 0
    · rw [ifb_t (by rw [mbb]; exact hb0), foldl_not v hv fp qf hb0]
      exact ⟨pr, ps, rfl, RP, by omega⟩
    · rw [ifb_f (by rw [mbb]; exact hb0), ix_n _ _ _ (by omega) (by omega)]
      rcases P.1.2.2.1 p hp with ⟨h0, h, _⟩ | ⟨h0, h, _⟩ | ⟨hp2, h, hle, hr, hA⟩ | ⟨a, b, hp2, ha, hb, hk, e1, e2, ho⟩ | ⟨w, b, hp2, hw, hb, hk, e1, e2, ho⟩
      · rw [dn0 h] at hb0
        exact absurd ((rb_bit (row0 0) v hv).mpr (by rw [row0_get _ _ (by omega), if_neg (by omega)])) hb0
      · rw [dn1 h] at hb0
        exact absurd ((rb_bit (row0 1) v hv).mpr (by rw [row0_get _ _ (by omega), if_neg (by omega)])) hb0
      · have hz : (aRow le ro p).getD (1 + v) 0 ≠ 0 := by
          intro g
          rw [dn2 h, fv_leaf (Or.inr (Or.inr hA)), rb_bit _ v hv] at hb0
          exact hb0 g
        have egv := aRow_get le ro p v (by omega)
        have hkr : kd (aRow le ro p) = 2 + le p := rfl
        rw [dn2 h] at hl ⊢
        simp only [List.length_singleton] at hl ⊢
        show ∃ pr' ps', _ = some (Int32.ofNat (addP v pl (aRow le ro p)).length, pr', ps') ∧ RPts v pr' ps' (addP v pl (aRow le ro p)) ∧ (addP v pl (aRow le ro p)).length ≤ pl.length + 1
        have hal := addP_len v pl (aRow le ro p)
        rw [ifb_t h, show (9 : Int32) * Int32.ofNat p = Int32.ofNat (9 * p) from i_mul 9 p, i_add, ix_n _ _ _ (by omega) (by omega), ix_n _ _ _ (by omega) (by omega), i_cl _ (by omega)]
        have hq := ptOf_rq hA hv

        have main : isPt (aRow le ro p) v = true → ∀ y5 : Int32, y5 = 1 + plt (aRow le ro p) → ∃ pr' ps', f_X7_collect_100 (fg_collect N d) N (Int32.ofNat v) (Int32.ofNat pl.length) ki le ri bi ro pr ps (Int32.ofNat p) 0 (ro (9 * p + v)) y5 = some (Int32.ofNat (addP v pl (aRow le ro p)).length, pr', ps') ∧ RPts v pr' ps' (addP v pl (aRow le ro p)) ∧ (addP v pl (aRow le ro p)).length ≤ pl.length + 1 := by
          intro hip y5 hy5
          unfold f_X7_collect_100
          obtain ⟨pr', g1, g2, g3, g4⟩ := co_write (ki := ki) (le := le) (ri := ri) (bi := bi) (ro := ro) (fg_collect N d) N (v := v) (p := p) (np := pl.length) hv (by omega) (by omega) hA ps 0 y5 9 (N - 10) 0 pr (by omega) (fun j hj => by omega)
          rw [show N - 10 + 9 + 1 = N from by omega, show Int32.ofNat 0 = 0 from rfl] at g4
          rw [show (10 : Int32) * Int32.ofNat pl.length = Int32.ofNat (10 * pl.length) from i_mul 10 _, g4]
          have RP' : RPts v pr' ps pl := by
            intro i hi
            obtain ⟨a1, a2, a3, a4⟩ := RP i hi
            refine ⟨a1, ?_, ?_, a4⟩
            · intro j hj; show (pr' (10 * i + j)).toInt = _; rw [g3 _ (by omega)]; exact a2 j hj
            · show pr' (10 * i + 9) = _; rw [g3 _ (by omega)]; exact a3
          have E : REnc (fun j => pr' (10 * pl.length + j)) y5 (ptOf (aRow le ro p) v) := by
            refine ⟨fun j hj => ?_, ?_, by rw [hy5, pt_0]⟩
            · rw [pt_n _ _ _ hj]; exact g1 j hj
            · rw [pt_b, egv]; exact g2
          have hf := co_find (ki := ki) (le := le) (ri := ri) (bi := bi) (ro := ro) (fg_collect N d) N (by omega) (Int32.ofNat v) RP' (by omega) hq E pl.length (N - pl.length - 1) 0 (by omega)
          rw [show N - pl.length - 1 + pl.length + 1 = N from by omega, List.drop_zero, show Int32.ofNat 0 = 0 from rfl] at hf
          rw [hf]
          unfold addP at hal ⊢
          rw [if_pos hip] at hal ⊢
          by_cases hm : ptOf (aRow le ro p) v ∈ pl
          · rw [if_pos hm, if_pos hm]
            exact ⟨pr', ps, rfl, RP', by omega⟩
          · rw [if_neg hm, if_neg hm]
            refine ⟨pr', _, by simp; rfl, ?_, by simp⟩
            intro i hi
            rw [List.length_append, List.length_singleton] at hi
            by_cases hi2 : i < pl.length
            · have eg : (pl ++ [ptOf (aRow le ro p) v]).getD i [] = pl.getD i [] := by
                simp [List.getD_eq_getElem?_getD, List.getElem?_append_left hi2]
              rw [eg, upd_ne _ _ _ _ (by omega)]
              exact RP' i hi2
            · have hie : i = pl.length := by omega
              subst hie
              have eg : (pl ++ [ptOf (aRow le ro p) v]).getD pl.length [] = ptOf (aRow le ro p) v := by
                simp [List.getD_eq_getElem?_getD]
              rw [eg, upd_at]
              exact ⟨hq, E⟩
        have hplt : ∀ y5 : Int32, ((le p = 0 ∨ le p = 3) ∧ y5 = 1) ∨ ((le p = 1 ∨ le p = 2) ∧ y5 = 2) → y5 = 1 + plt (aRow le ro p) := by
          intro y5 hh
          unfold plt
          rw [hkr]
          rcases hh with ⟨g | g, rfl⟩ | ⟨g | g, rfl⟩ <;> rw [g] <;> decide
        have e84 : isPt (aRow le ro p) v = true → ∃ pr' ps', f_X7_collect_84 (fg_collect N d) N (Int32.ofNat v) (Int32.ofNat pl.length) ki le ri bi ro pr ps (Int32.ofNat p) 0 (ro (9 * p + v)) (le p) = some (Int32.ofNat (addP v pl (aRow le ro p)).length, pr', ps') ∧ RPts v pr' ps' (addP v pl (aRow le ro p)) ∧ (addP v pl (aRow le ro p)).length ≤ pl.length + 1 := by
          intro hip
          unfold f_X7_collect_84 f_X7_collect_95
          rcases hle with g | g | g | g
          · rw [ifb_t g]; exact main hip 1 (hplt 1 (Or.inl ⟨Or.inl g, rfl⟩))
          · rw [ifb_f (by rw [g]; decide), ifb_f (by rw [g]; decide)]; exact main hip 2 (hplt 2 (Or.inr ⟨Or.inl g, rfl⟩))
          · rw [ifb_f (by rw [g]; decide), ifb_f (by rw [g]; decide)]; exact main hip 2 (hplt 2 (Or.inr ⟨Or.inr g, rfl⟩))
          · rw [ifb_f (by rw [g]; decide), ifb_t g]; exact main hip 1 (hplt 1 (Or.inl ⟨Or.inr g, rfl⟩))
        have kd1 : 2 ≤ 2 + le p ∧ 2 + le p ≤ 5 := by rcases hle with g | g | g | g <;> rw [g] <;> decide
        by_cases h2 : le p < 2
        · rw [ifb_t h2]
          apply e84
          have : 2 + le p ≤ 3 := by rcases hle with g | g | g | g <;> rw [g] at h2 ⊢ <;> revert h2 <;> decide
          unfold isPt
          rw [hkr]
          simp only [Bool.and_eq_true, Bool.or_eq_true, decide_eq_true_eq]
          exact ⟨⟨⟨kd1.1, kd1.2⟩, hz⟩, Or.inl this⟩
        · rw [ifb_f h2]
          have n3 : ¬ (2 + le p ≤ 3) := by rcases hle with g | g | g | g <;> rw [g] at h2 ⊢ <;> revert h2 <;> decide
          by_cases h0 : ro (9 * p + v) ≤ 0
          · rw [ifb_t h0]
            apply e84
            unfold isPt
            rw [hkr]
            simp only [Bool.and_eq_true, Bool.or_eq_true, decide_eq_true_eq]
            refine ⟨⟨⟨kd1.1, kd1.2⟩, hz⟩, Or.inr ?_⟩
            rw [egv] at hz ⊢
            rw [Int32.lt_iff_toInt_lt]
            rw [Int32.le_iff_toInt_le] at h0
            have : (ro (9 * p + v)).toInt ≠ (0 : Int32).toInt := fun g => hz (Int32.toInt_inj.mp g)
            omega
          · rw [ifb_f h0]
            have hip : ¬ (isPt (aRow le ro p) v = true) := by
              unfold isPt
              rw [hkr]
              simp only [Bool.and_eq_true, Bool.or_eq_true, decide_eq_true_eq]
              rintro ⟨_, g | g⟩
              · exact n3 g
              · rw [egv, Int32.lt_iff_toInt_lt] at g
                rw [Int32.le_iff_toInt_le] at h0
                omega
            unfold addP
            rw [if_neg hip]
            exact ⟨pr, ps, rfl, RP, by omega⟩
      · have ek2 : ¬ (ki p = 2) := by rcases hk with h | h <;> rw [h] <;> decide
        have ed := dnb P.1 hp ha hb hk e1 e2
        have hkk : ki p + 3 = 6 ∨ ki p + 3 = 7 := by rcases hk with h | h <;> rw [h] <;> decide
        have hlen : (dn ki le ri ro p).length = (dn ki le ri ro a).length + (dn ki le ri ro b).length + 1 := by rw [ed]; simp; omega
        have qa : Qf (dn ki le ri ro a) := by rw [ed] at qf; exact qf.left.left
        have qb : Qf (dn ki le ri ro b) := by rw [ed] at qf; exact qf.left.right
        obtain ⟨pr1, ps1, f1, R1, l1⟩ := ih a pr ps pl (by omega) (by omega) qa RP (by omega)
        obtain ⟨pr2, ps2, f2, R2, l2⟩ := ih b pr1 ps1 _ (by omega) (by omega) qb R1 (by omega)
        rw [ifb_f ek2, ix_n _ _ _ (by omega) (by omega), e1, bd f1, ix_n _ _ _ (by omega) (by omega), e2]
        dsimp only
        rw [bd f2]
        have ef : (dn ki le ri ro p).foldl (addP v) pl = (dn ki le ri ro b).foldl (addP v) ((dn ki le ri ro a).foldl (addP v) pl) := by
          rw [ed, List.foldl_append, List.foldl_append]
          show addP v _ (row0 (ki p + 3)) = _
          unfold addP isPt
          have : kd (row0 (ki p + 3)) = ki p + 3 := rfl
          rw [this]
          rcases hkk with g | g <;> rw [g] <;> simp
        rw [ef]
        exact ⟨pr2, ps2, rfl, R2, by omega⟩
      · have ed := dnq P.1 hp hw hb hk e1 e2
        have hkk : ki p + 3 = 8 ∨ ki p + 3 = 9 := by rcases hk with h | h <;> rw [h] <;> decide
        rw [ed] at qf
        exact (qf.no hkk).elim
end COLL
