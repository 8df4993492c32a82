theorem bm64 (n : Int) (h1 : -9223372036854775808 ≤ n) (h2 : n < 9223372036854775808) : n.bmod (2 ^ 64) = n := Int.bmod_eq_of_le (by omega) (by omega)
theorem bm32 (n : Int) (h1 : -2147483648 ≤ n) (h2 : n < 2147483648) : n.bmod (2 ^ 32) = n := Int.bmod_eq_of_le (by omega) (by omega)
theorem L_lo (x : Int64) : -9223372036854775808 ≤ x.toInt := Int64.le_toInt x
theorem L_hi (x : Int64) : x.toInt < 9223372036854775808 := Int64.toInt_lt x
theorem lg_eq0 (x y : Int64) : lg_cmp x y = 0 ↔ x.toInt = y.toInt := by
  unfold lg_cmp
  rw [Int64.toInt_inj]
  by_cases h1 : x > y
  · rw [if_pos h1]
    constructor
    · intro h; exact absurd h (by decide)
    · rintro rfl; exact absurd (Int64.lt_iff_toInt_lt.mp h1) (by omega)
  · rw [if_neg h1]
    by_cases h2 : x = y
    · rw [if_pos h2]; simp [h2]
    · rw [if_neg h2]; constructor
      · intro h; exact absurd h (by decide)
      · intro h; exact absurd h h2
theorem lg_val (x y : Int64) : lg_cmp x y = (if y.toInt < x.toInt then 1 else if x.toInt = y.toInt then 0 else -1) := by
  unfold lg_cmp
  by_cases h1 : x > y
  · rw [if_pos h1, if_pos (Int64.lt_iff_toInt_lt.mp h1)]
  · rw [if_neg h1, if_neg (fun h => h1 (Int64.lt_iff_toInt_lt.mpr h))]
    by_cases h2 : x = y
    · rw [if_pos h2, if_pos (by rw [h2])]
    · rw [if_neg h2, if_neg (fun h => h2 (Int64.toInt_inj.mp h))]
theorem lg_le0 (x y : Int64) : lg_cmp x y ≤ 0 ↔ x.toInt ≤ y.toInt := by
  rw [lg_val]; split
  · constructor
    · intro h; exact absurd h (by decide)
    · intro h; omega
  · split
    · constructor
      · intro h; omega
      · intro h; decide
    · constructor
      · intro h; omega
      · intro h; decide
theorem lg_ge0 (x y : Int64) : 0 ≤ lg_cmp x y ↔ y.toInt ≤ x.toInt := by
  rw [lg_val]; split
  · constructor
    · intro h; omega
    · intro h; decide
  · split
    · constructor
      · intro h; omega
      · intro h; decide
    · constructor
      · intro h; exact absurd h (by decide)
      · intro h; omega
theorem lg_lt0 (x y : Int64) : lg_cmp x y < 0 ↔ x.toInt < y.toInt := by
  rw [lg_val]; split
  · constructor
    · intro h; exact absurd h (by decide)
    · intro h; omega
  · split
    · constructor
      · intro h; exact absurd h (by decide)
      · intro h; omega
    · constructor
      · intro h; omega
      · intro h; decide
theorem lg_gt0 (x y : Int64) : 0 < lg_cmp x y ↔ y.toInt < x.toInt := by
  rw [lg_val]; split
  · constructor
    · intro h; omega
    · intro h; decide
  · split
    · constructor
      · intro h; exact absurd h (by decide)
      · intro h; omega
    · constructor
      · intro h; exact absurd h (by decide)
      · intro h; omega
theorem updL_at (f : Nat → Int64) (k : Nat) (x : Int64) : vp_updL f k x k = x := if_pos rfl
theorem updL_ne (f : Nat → Int64) (k j : Nat) (x : Int64) (h : j ≠ k) : vp_updL f k x j = f j := if_neg h
theorem L_rem (x y : Int64) (a b : Nat) (hx : x.toInt = a) (hy : y.toInt = b) (hb : 0 < b) : (x - x / y * y).toInt = ((a % b : Nat) : Int) := by
  have h1 := L_hi x
  have h2 := L_hi y
  have e1 : (x / y).toInt = ((a / b : Nat) : Int) := by
    rw [Int64.toInt_div, hx, hy, ← Int.ofNat_tdiv]
    have hq : a / b ≤ a := Nat.div_le_self a b
    generalize a / b = q at hq
    exact bm64 _ (by omega) (by omega)
  have hm : a / b * b ≤ a := Nat.div_mul_le_self a b
  have e2 : (x / y * y).toInt = ((a / b * b : Nat) : Int) := by
    rw [Int64.toInt_mul, e1, hy, ← Int.natCast_mul]
    exact bm64 _ (by omega) (by omega)
  rw [Int64.toInt_sub, hx, e2]
  have e3 : a % b = a - a / b * b := by
    have := Nat.div_add_mod a b
    rw [Nat.mul_comm] at this; omega
  rw [e3]
  have : ((a : Int) - ((a / b * b : Nat) : Int)) = ((a - a / b * b : Nat) : Int) := by omega
  rw [this]
  exact bm64 _ (by omega) (by omega)
theorem mod_half (b r : Nat) (h0 : 0 < r) (h : r < b) : 2 * (b % r) < b := by
  have h1 := Nat.mod_lt b h0
  have h2 := Nat.div_add_mod b r
  have h3 : 1 ≤ b / r := Nat.div_pos (by omega) h0
  have h4 : r * 1 ≤ r * (b / r) := Nat.mul_le_mul_left r h3
  omega
theorem cd_in (K : (Nat → Int64) → Int64 → Int32 → Option Int64) (N : Nat) (nu : Nat → Int64) (y3 : Int32) : ∀ (k n s a b : Nat) (x y : Int64), b < 2 ^ k → x.toInt = a → y.toInt = b → s + 2 * k ≤ 198 → 2 * k + 1 ≤ n → ∃ z : Int64, f_X4_commonDivisor_30 K N n nu x y3 y (Int32.ofNat s) = K nu z (y3 + 1) ∧ z.toInt = Nat.gcd a b := by
  intro k
  induction k with
  | zero =>
    intro n s a b x y hb hx hy hs hn
    have hb0 : b = 0 := by simp at hb; omega
    subst hb0
    obtain ⟨n, rfl⟩ : ∃ m, n = m + 1 := ⟨n - 1, by omega⟩
    refine ⟨x, ?_, by rw [hx, Nat.gcd_zero_right]⟩
    rw [f_X4_commonDivisor_30]; dsimp only
    rw [ifb_f (by rw [show (200 : Int32) = Int32.ofNat 200 from rfl, i_le _ _ (by omega) (by omega)]; omega), ifb_t ((lg_eq0 _ _).mpr (by rw [hy]; rfl)), f_X4_commonDivisor_64]
  | succ k ih =>
    intro n s a b x y hb hx hy hs hn
    obtain ⟨n, rfl⟩ : ∃ m, n = m + 1 := ⟨n - 1, by omega⟩
    rw [f_X4_commonDivisor_30]; dsimp only
    rw [ifb_f (by rw [show (200 : Int32) = Int32.ofNat 200 from rfl, i_le _ _ (by omega) (by omega)]; omega)]
    by_cases h0 : b = 0
    · subst h0
      rw [ifb_t ((lg_eq0 _ _).mpr (by rw [hy]; rfl)), f_X4_commonDivisor_64]
      exact ⟨x, rfl, by rw [hx, Nat.gcd_zero_right]⟩
    · have hy0 : ¬ (lg_cmp y 0 = 0) := fun h => by
        have := (lg_eq0 _ _).mp h
        rw [hy, show (0 : Int64).toInt = 0 from rfl] at this; omega
      have hyn : ¬ (y = 0) := fun h => hy0 (by rw [h]; decide)
      rw [ifb_f hy0, ckp_t hyn, i_p1]
      have hr := L_rem x y a b hx hy (by omega)
      obtain ⟨n, rfl⟩ : ∃ m, n = m + 1 := ⟨n - 1, by omega⟩
      rw [f_X4_commonDivisor_30]; dsimp only
      rw [ifb_f (by rw [show (200 : Int32) = Int32.ofNat 200 from rfl, i_le _ _ (by omega) (by omega)]; omega)]
      have hg : Nat.gcd a b = Nat.gcd b (a % b) := by rw [Nat.gcd_comm a b, Nat.gcd_rec b a, Nat.gcd_comm]
      by_cases h1 : a % b = 0
      · rw [ifb_t ((lg_eq0 _ _).mpr (by rw [hr, h1]; rfl)), f_X4_commonDivisor_64]
        exact ⟨y, rfl, by rw [hg, h1, Nat.gcd_zero_right, hy]⟩
      · have hy1 : ¬ (lg_cmp (x - x / y * y) 0 = 0) := fun h => by
          have := (lg_eq0 _ _).mp h
          rw [hr, show (0 : Int64).toInt = 0 from rfl] at this; omega
        have hyn1 : ¬ ((x - x / y * y) = 0) := fun h => hy1 (by rw [h]; decide)
        rw [ifb_f hy1, ckp_t hyn1, i_p1]
        have hlt := Nat.mod_lt a (show 0 < b by omega)
        have hr2 := L_rem y (x - x / y * y) b (a % b) hy hr (by omega)
        have hh := mod_half b (a % b) (by omega) hlt
        have hp : 2 ^ (k + 1) = 2 * 2 ^ k := by rw [Nat.pow_succ]; omega
        obtain ⟨z, e, hz⟩ := ih n (s + 1 + 1) (a % b) (b % (a % b)) (x - x / y * y) _ (by omega) hr hr2 (by omega) (by omega)
        refine ⟨z, e, ?_⟩
        rw [hz, hg]
        congr 1
        rw [Nat.gcd_comm b, Nat.gcd_rec (a % b) b, Nat.gcd_comm]
def gc (c : Nat → Int) : Nat → Nat
  | 0 => 0
  | k + 1 => Nat.gcd (gc c k) (c k).natAbs
theorem gc_one (c : Nat → Int) (k : Nat) (h : gc c k = 1) : ∀ d, gc c (k + d) = 1
  | 0 => h
  | d + 1 => by show Nat.gcd (gc c (k + d)) _ = 1; rw [gc_one c k h d, Nat.gcd_one_left]
theorem L_abs (x : Int64) (h : -9223372036854775808 < x.toInt) : (jabsL x).toInt = x.toInt.natAbs := by
  have h1 := L_hi x
  show (if 0 < x then x else -x).toInt = _
  by_cases h0 : 0 < x
  · rw [if_pos h0]
    have := Int64.lt_iff_toInt_lt.mp h0
    rw [show (0 : Int64).toInt = 0 from rfl] at this; omega
  · rw [if_neg h0]
    have : ¬ (0 < x.toInt) := fun g => h0 (Int64.lt_iff_toInt_lt.mpr g)
    rw [Int64.toInt_neg, bm64 _ (by omega) (by omega)]; omega
theorem cd_loop (N : Nat) (hN : 200 ≤ N) (nu : Nat → Int64) (c : Nat → Int) (hc : ∀ j, j < 9 → (nu j).toInt = c j ∧ -9223372036854775808 < c j) : ∀ (d m k : Nat) (x : Int64), k + d = 9 → x.toInt = gc c k → ∃ z : Int64, f_X4_commonDivisor_4 N (m + d + 1) nu x (Int32.ofNat k) = some z ∧ z.toInt = gc c 9
  | 0, m, k, x, h, hx => by
    have : k = 9 := by omega
    subst this
    rw [f_X4_commonDivisor_4]; dsimp only
    rw [ifb_t (by decide), f_X4_commonDivisor_70]
    exact ⟨x, rfl, hx⟩
  | d + 1, m, k, x, h, hx => by
    rw [show m + (d + 1) + 1 = (m + d + 1) + 1 from by omega, f_X4_commonDivisor_4]; dsimp only
    rw [ifb_f (by rw [show (9 : Int32) = Int32.ofNat 9 from rfl, i_le _ _ (by omega) (by omega)]; omega)]
    by_cases h1 : gc c k = 1
    · rw [ifb_t ((lg_eq0 _ _).mpr (by rw [hx, h1]; rfl)), f_X4_commonDivisor_70]
      refine ⟨x, rfl, ?_⟩
      rw [hx, h1, ← gc_one c k h1 (d + 1), show k + (d + 1) = 9 from by omega]
    · rw [ifb_f (fun g => h1 (by
        have := (lg_eq0 _ _).mp g
        rw [hx, show (1 : Int64).toInt = 1 from rfl] at this; omega)), ix_n _ _ _ (by omega) (by omega), i_cl _ (by omega)]
      obtain ⟨hk, hlo⟩ := hc k (by omega)
      have ha := L_abs (nu k) (by rw [hk]; exact hlo)
      have hh := L_hi (jabsL (nu k))
      obtain ⟨z, e, hz⟩ := cd_in (f_X4_commonDivisor_4 N (m + d + 1)) N nu (Int32.ofNat k) 63 N 0 (gc c k) (nu k).toInt.natAbs x (jabsL (nu k)) (by rw [ha] at hh; omega) hx ha (by omega) (by omega)
      rw [show (0 : Int32) = Int32.ofNat 0 from rfl, e, i_p1]
      exact cd_loop N hN nu c hc d m (k + 1) z (by omega) (by rw [hz, hk]; rfl)
def Sm (nu : Nat → Int64) (c : Nat → Int) : Prop := ∀ j, j < 9 → (nu j).toInt = c j ∧ -4000000000000000000 ≤ c j ∧ c j ≤ 4000000000000000000
def fiv (c : Nat → Int) : Nat → Nat → Nat
  | 0, k => k
  | d + 1, k => if c k = 0 then fiv c d (k + 1) else k
def trv (rel : Int32) (s : Int) : Bool := if rel = 2 then decide (s = 0) else if rel = 3 then decide (s ≠ 0) else if rel = 4 then decide (s < 0) else decide (s ≤ 0)
def qd (c : Nat → Int) (j : Nat) : Int := (c j).tdiv (gc c 9)
def big (q : Nat → Int) (d k : Nat) : Bool := match d with | 0 => false | d + 1 => decide (1000000000 < (q k).natAbs) || big q d (k + 1)
def stl (rel : Int32) (c : Nat → Int) : Option (List Int32) :=
  if fiv c 8 0 = 8 then some (row0 (if trv rel (c 8) then 0 else 1))
  else if big (qd c) 9 0 then none
  else some (rel :: (List.range 9).map (fun j => Int32.ofInt (if (rel = 2 ∨ rel = 3) ∧ c (fiv c 8 0) < 0 then -(qd c j) else qd c j)))
theorem fiv_ge (c : Nat → Int) : ∀ d k, k ≤ fiv c d k ∧ fiv c d k ≤ k + d
  | 0, k => ⟨Nat.le_refl _, Nat.le_refl _⟩
  | d + 1, k => by
    unfold fiv; split
    · have := fiv_ge c d (k + 1); omega
    · omega
theorem fiv_nz (c : Nat → Int) : ∀ d k, fiv c d k < k + d → c (fiv c d k) ≠ 0
  | 0, k, h => by unfold fiv at h; omega
  | d + 1, k, h => by
    unfold fiv at h ⊢; split
    · rename_i h1; rw [if_pos h1] at h; exact fiv_nz c d (k + 1) (by omega)
    · assumption
theorem gc_dvd (c : Nat → Int) : ∀ k j, j < k → gc c k ∣ (c j).natAbs
  | 0, j, h => by omega
  | k + 1, j, h => by
    show Nat.gcd (gc c k) _ ∣ _
    by_cases hj : j = k
    · subst hj; exact Nat.gcd_dvd_right _ _
    · exact Nat.dvd_trans (Nat.gcd_dvd_left _ _) (gc_dvd c k j (by omega))
theorem gc_pos (c : Nat → Int) (j : Nat) (hj : j < 9) (h : c j ≠ 0) : 0 < gc c 9 := by
  have h1 := gc_dvd c 9 j hj
  rcases Nat.eq_zero_or_pos (gc c 9) with h0 | h0
  · rw [h0, Nat.zero_dvd] at h1; omega
  · exact h0
theorem qd_abs (c : Nat → Int) (j : Nat) : (qd c j).natAbs ≤ (c j).natAbs := by
  unfold qd
  rw [Int.natAbs_tdiv]
  exact Nat.div_le_self _ _
theorem qd_mul (c : Nat → Int) (j : Nat) (hj : j < 9) : qd c j * (gc c 9 : Int) = c j := by
  unfold qd
  have h : (gc c 9 : Int) ∣ c j := by
    have := gc_dvd c 9 j hj
    exact Int.ofNat_dvd_left.mpr this
  exact Int.tdiv_mul_cancel h
theorem s_set2 (N : Nat) {nu : Nat → Int64} {c : Nat → Int} (S : Sm nu c) (rel : Int32) : ∀ (d m k : Nat), k + d = 8 → f_X4_settle_2 N (m + d + 1) nu rel (Int32.ofNat k) = f_X4_settle_25 N nu rel (Int32.ofNat (fiv c d k))
  | 0, m, k, h => by
    have : k = 8 := by omega
    subst this
    rw [f_X4_settle_2]; dsimp only
    rw [ifb_t (by decide)]; rfl
  | d + 1, m, k, h => by
    rw [show m + (d + 1) + 1 = (m + d + 1) + 1 from by omega, f_X4_settle_2]; dsimp only
    rw [ifb_f (by rw [show (8 : Int32) = Int32.ofNat 8 from rfl, i_le _ _ (by omega) (by omega)]; omega), ix_n _ _ _ (by omega) (by omega), i_cl _ (by omega)]
    have hk := (S k (by omega)).1
    unfold fiv
    by_cases h0 : c k = 0
    · rw [ifb_t ((lg_eq0 _ _).mpr (by rw [hk, h0]; rfl)), if_pos h0, i_p1]
      exact s_set2 N S rel d m (k + 1) (by omega)
    · rw [ifb_f (fun g => h0 (by rw [← hk, (lg_eq0 _ _).mp g]; rfl)), if_neg h0]
theorem s_turn (N : Nat) : ∀ (d m k : Nat) (nu : Nat → Int64), k + d = 9 → f_X4_turn_2 N (m + d + 1) nu (Int32.ofNat k) = some (fun j => if k ≤ j ∧ j < 9 then -(nu j) else nu j)
  | 0, m, k, nu, h => by
    have : k = 9 := by omega
    subst this
    rw [f_X4_turn_2]; dsimp only
    rw [ifb_t (by decide)]
    congr 1; funext j; rw [if_neg (by omega)]
  | d + 1, m, k, nu, h => by
    rw [show m + (d + 1) + 1 = (m + d + 1) + 1 from by omega, f_X4_turn_2]; dsimp only
    rw [ifb_f (by rw [show (9 : Int32) = Int32.ofNat 9 from rfl, i_le _ _ (by omega) (by omega)]; omega), ix_n _ _ _ (by omega) (by omega), ix_n _ _ _ (by omega) (by omega), i_cl _ (by omega), i_p1, s_turn N d m (k + 1) _ (by omega)]
    congr 1; funext j
    by_cases hj : j = k
    · subst hj; rw [if_neg (by omega), updL_at, if_pos (by omega)]
    · rw [updL_ne _ _ _ _ hj]
      by_cases h2 : k + 1 ≤ j ∧ j < 9
      · rw [if_pos h2, if_pos (by omega)]
      · rw [if_neg h2, if_neg (by omega)]
theorem L_neg (x : Int64) (c : Int) (h : x.toInt = c) (h1 : -9223372036854775808 < c) (h2 : c < 9223372036854775808) : (-x).toInt = -c := by
  rw [Int64.toInt_neg, h, bm64 _ (by omega) (by omega)]
theorem t_turn {nu : Nat → Int64} {c : Nat → Int} (S : Sm nu c) (N : Nat) (hN : 12 ≤ N) : ∃ nu', f_X4_turn N nu = some nu' ∧ Sm nu' (fun j => -(c j)) := by
  have := s_turn N 9 (N - 10) 0 nu (by omega)
  rw [show N - 10 + 9 + 1 = N from by omega] at this
  refine ⟨_, this, ?_⟩
  intro j hj
  obtain ⟨h1, h2, h3⟩ := S j hj
  show (if 0 ≤ j ∧ j < 9 then -(nu j) else nu j).toInt = -(c j) ∧ -4000000000000000000 ≤ -(c j) ∧ -(c j) ≤ 4000000000000000000
  rw [if_pos (by omega)]
  exact ⟨L_neg _ _ h1 (by omega) (by omega), by omega, by omega⟩
theorem s_div (N : Nat) (rel first : Int32) (z : Int64) (g : Nat) (hz : z.toInt = g) (hg : 0 < g) (c : Nat → Int) : ∀ (d m k : Nat) (nu : Nat → Int64), k + d = 9 → (∀ j, j < 9 → (nu j).toInt = if j < k then (c j).tdiv g else c j) → (∀ j, j < 9 → -4000000000000000000 ≤ c j ∧ c j ≤ 4000000000000000000) → ∃ nu', f_X4_settle_65 N (m + d + 1) nu rel first z (Int32.ofNat k) = f_X4_settle_89 N nu' rel first ∧ ∀ j, j < 9 → (nu' j).toInt = (c j).tdiv g
  | 0, m, k, nu, h, hn, hc => by
    have : k = 9 := by omega
    subst this
    rw [f_X4_settle_65]; dsimp only
    rw [ifb_t (by decide)]
    exact ⟨nu, rfl, fun j hj => by rw [hn j hj, if_pos hj]⟩
  | d + 1, m, k, nu, h, hn, hc => by
    rw [show m + (d + 1) + 1 = (m + d + 1) + 1 from by omega, f_X4_settle_65]; dsimp only
    have hz0 : ¬ (z = 0) := fun e => by rw [e, show (0 : Int64).toInt = 0 from rfl] at hz; omega
    rw [ifb_f (by rw [show (9 : Int32) = Int32.ofNat 9 from rfl, i_le _ _ (by omega) (by omega)]; omega), ix_n _ _ _ (by omega) (by omega), ckp_t hz0, ix_n _ _ _ (by omega) (by omega), i_cl _ (by omega), i_p1]
    apply s_div N rel first z g hz hg c d m (k + 1) _ (by omega) ?_ hc
    intro j hj
    by_cases hjk : j = k
    · subst hjk
      have hk := hn j hj
      rw [if_neg (by omega)] at hk
      rw [updL_at, if_pos (by omega), Int64.toInt_div, hk, hz]
      have := hc j hj
      have h2 : ((c j).tdiv g).natAbs ≤ (c j).natAbs := by rw [Int.natAbs_tdiv]; exact Nat.div_le_self _ _
      exact bm64 _ (by omega) (by omega)
    · rw [updL_ne _ _ _ _ hjk, hn j hj]
      by_cases h3 : j < k
      · rw [if_pos h3, if_pos (by omega)]
      · rw [if_neg h3, if_neg (by omega)]
theorem s_big (N : Nat) (rel first : Int32) (nu : Nat → Int64) (q : Nat → Int) (hq : ∀ j, j < 9 → (nu j).toInt = q j ∧ -4000000000000000000 ≤ q j) : ∀ (d m k : Nat), k + d = 9 → f_X4_settle_92 N (m + d + 1) nu rel first (Int32.ofNat k) = if big q d k then some (-2, nu) else f_X4_settle_92 N 1 nu rel first 9
  | 0, m, k, h => by
    have : k = 9 := by omega
    subst this
    have e : ∀ n, f_X4_settle_92 N (n + 1) nu rel first 9 = ifb (rel = 2) (f_X4_settle_135 N nu rel first) (ifb (rel = 3) (f_X4_settle_135 N nu rel first) (f_X4_settle_150 N nu rel)) := fun n => by
      rw [f_X4_settle_92]; dsimp only
      rw [ifb_t (by decide)]
    unfold big
    rw [if_neg (by decide)]
    exact (e _).trans (e 0).symm
  | d + 1, m, k, h => by
    rw [show m + (d + 1) + 1 = (m + d + 1) + 1 from by omega, f_X4_settle_92]; dsimp only
    obtain ⟨h1, h2⟩ := hq k (by omega)
    have ha := L_abs (nu k) (by omega)
    rw [ifb_f (by rw [show (9 : Int32) = Int32.ofNat 9 from rfl, i_le _ _ (by omega) (by omega)]; omega), ix_n _ _ _ (by omega) (by omega), i_cl _ (by omega)]
    unfold big
    by_cases hb : 1000000000 < (q k).natAbs
    · rw [ifb_f (fun g => by
        have := (lg_le0 _ _).mp g
        rw [ha, h1, show (1000000000 : Int64).toInt = 1000000000 from rfl] at this; omega), if_pos (by simp [hb])]
    · rw [ifb_t ((lg_le0 _ _).mpr (by rw [ha, h1, show (1000000000 : Int64).toInt = 1000000000 from rfl]; omega)), i_p1, s_big N rel first nu q hq d m (k + 1) (by omega)]
      simp only [hb, decide_false, Bool.false_or]
def Sat (nu : Nat → Int64) (r : List Int32) : Prop := ∀ j, j < 9 → (nu j).toInt = (r.getD (1 + j) 0).toInt
theorem big_no (q : Nat → Int) : ∀ d k, big q d k = false → ∀ j, k ≤ j → j < k + d → (q j).natAbs ≤ 1000000000
  | 0, k, h, j, h1, h2 => by omega
  | d + 1, k, h, j, h1, h2 => by
    unfold big at h
    simp only [Bool.or_eq_false_iff, decide_eq_false_iff_not] at h
    by_cases hj : j = k
    · subst hj; omega
    · exact big_no q d (k + 1) h.2 j (by omega) (by omega)
theorem range9 (f : Nat → Int32) (rel : Int32) (j : Nat) (hj : j < 9) : (rel :: (List.range 9).map f).getD (1 + j) 0 = f j := by
  rw [Nat.add_comm]
  simp [List.getD_eq_getElem?_getD, hj]
theorem i_ofInt (x : Int) (h1 : -2147483648 ≤ x) (h2 : x < 2147483648) : (Int32.ofInt x).toInt = x := by
  rw [Int32.toInt_ofInt, bm32 _ h1 h2]
theorem stl_leaf {rel : Int32} (hr : rel = 2 ∨ rel = 3 ∨ rel = 4 ∨ rel = 5) {c : Nat → Int} {r : List Int32} (h : stl rel c = some r) : Leaf r ∧ (fiv c 8 0 = 8 ∨ kd r = rel) := by
  unfold stl at h
  split at h
  · rename_i h8
    cases h
    refine ⟨?_, Or.inl h8⟩
    split
    · exact Or.inl rfl
    · exact Or.inr (Or.inl rfl)
  · rename_i h8
    split at h
    · cases h
    · rename_i hb
      have hb : big (qd c) 9 0 = false := by simpa using hb
      have hq := big_no (qd c) 9 0 hb
      cases h
      refine ⟨Or.inr (Or.inr ⟨by simp, hr, ?_, ?_⟩), Or.inr rfl⟩
      · intro j hj1 hj2
        have h1 := hq (j - 1) (by omega) (by omega)
        rw [show j = 1 + (j - 1) from by omega, range9 _ _ _ (by omega)]
        split
        · rw [i_ofInt _ (by omega) (by omega)]; omega
        · rw [i_ofInt _ (by omega) (by omega)]; omega
      · have hg := fiv_ge c 8 0
        have hn := fiv_nz c 8 0 (by omega)
        have hm := qd_mul c (fiv c 8 0) (by omega)
        have hne : qd c (fiv c 8 0) ≠ 0 := fun e => by rw [e] at hm; omega
        have h1 := hq (fiv c 8 0) (by omega) (by omega)
        refine ⟨1 + fiv c 8 0, by omega, by omega, ?_⟩
        rw [range9 _ _ _ (by omega)]
        intro e
        have e2 := congrArg Int32.toInt e
        rw [show (0 : Int32).toInt = 0 from rfl] at e2
        split at e2
        · rw [i_ofInt _ (by omega) (by omega)] at e2; omega
        · rw [i_ofInt _ (by omega) (by omega)] at e2; omega
theorem s_isTrue (N : Nat) {rel : Int32} (hr : rel = 2 ∨ rel = 3 ∨ rel = 4 ∨ rel = 5) (x : Int64) : f_X4_isTrue N rel x = some (if trv rel x.toInt then 1 else 0) := by
  have z : (0 : Int64).toInt = 0 := rfl
  unfold f_X4_isTrue f_X4_isTrue_39 f_X4_isTrue_51 f_X4_isTrue_63 f_X4_isTrue_75 trv
  rcases hr with rfl | rfl | rfl | rfl
  · rw [ifb_f (by decide), ifb_t rfl]
    by_cases h : x.toInt = 0
    · rw [ifb_t ((lg_eq0 _ _).mpr (by rw [h, z])), ckp_t (Or.inr rfl)]; simp [h]
    · rw [ifb_f (fun g => h ((lg_eq0 _ _).mp g)), ckp_t (Or.inl rfl)]; simp [h]
  · rw [ifb_f (by decide), ifb_f (by decide), ifb_t rfl]
    by_cases h : x.toInt = 0
    · rw [ifb_t ((lg_eq0 _ _).mpr (by rw [h, z])), ckp_t (Or.inl rfl)]; simp [h]
    · rw [ifb_f (fun g => h ((lg_eq0 _ _).mp g)), ckp_t (Or.inr rfl)]; simp [h]
  · rw [ifb_f (by decide), ifb_f (by decide), ifb_f (by decide), ifb_t rfl]
    by_cases h : x.toInt < 0
    · rw [ifb_f (fun g => by have := (lg_ge0 _ _).mp g; omega), ckp_t (Or.inr rfl)]; simp [h]
    · rw [ifb_t ((lg_ge0 _ _).mpr (by rw [z]; omega)), ckp_t (Or.inl rfl)]; simp [h]
  · rw [ifb_t (by decide)]
    by_cases h : x.toInt ≤ 0
    · rw [ifb_f (fun g => by have := (lg_gt0 _ _).mp g; omega), ckp_t (Or.inr rfl)]; simp [h]
    · rw [ifb_t ((lg_gt0 _ _).mpr (by rw [z]; omega)), ckp_t (Or.inl rfl)]; simp [h]
theorem big_ext (p q : Nat → Int) : ∀ d k, (∀ j, k ≤ j → j < k + d → p j = q j) → big p d k = big q d k
  | 0, k, h => rfl
  | d + 1, k, h => by unfold big; rw [h k (by omega) (by omega), big_ext p q d (k + 1) (fun j a b => h j (by omega) (by omega))]
theorem s_after (N : Nat) (hN : 12 ≤ N) {rel : Int32} (hr : rel = 2 ∨ rel = 3 ∨ rel = 4 ∨ rel = 5) (nu : Nat → Int64) (c : Nat → Int) (hq : ∀ j, j < 9 → (nu j).toInt = qd c j) (hc : ∀ j, j < 9 → -4000000000000000000 ≤ c j ∧ c j ≤ 4000000000000000000) (h8 : fiv c 8 0 ≠ 8) : ∃ k nu', f_X4_settle_89 N nu rel (Int32.ofNat (fiv c 8 0)) = some (k, nu') ∧ ((stl rel c = none ∧ k = -2) ∨ ∃ r, stl rel c = some r ∧ k = kd r ∧ Sat nu' r) := by
  have hge := fiv_ge c 8 0
  have hb := s_big N rel (Int32.ofNat (fiv c 8 0)) nu (qd c) (fun j hj => ⟨hq j hj, by have := qd_abs c j; have := hc j hj; omega⟩) 9 (N - 10) 0 (by omega)
  rw [show N - 10 + 9 + 1 = N from by omega] at hb
  unfold f_X4_settle_89
  rw [show (0 : Int32) = Int32.ofNat 0 from rfl, hb]
  unfold stl
  rw [if_neg h8]
  cases hbb : big (qd c) 9 0
  · rw [if_neg (by decide), if_neg (by decide)]
    have hs := big_no (qd c) 9 0 hbb
    have hn := fiv_nz c 8 0 (by omega)
    have hm := qd_mul c (fiv c 8 0) (by omega)
    have hgp := gc_pos c (fiv c 8 0) (by omega) hn
    have sgn : qd c (fiv c 8 0) < 0 ↔ c (fiv c 8 0) < 0 := by
      constructor
      · intro h; rw [← hm]; exact Int.mul_neg_of_neg_of_pos h (by omega)
      · intro h
        rcases Int.lt_or_le (qd c (fiv c 8 0)) 0 with g | g
        · exact g
        · have : 0 ≤ qd c (fiv c 8 0) * (gc c 9 : Int) := Int.mul_nonneg g (by omega)
          omega
    have plain : ¬ ((rel = 2 ∨ rel = 3) ∧ c (fiv c 8 0) < 0) → Sat nu (rel :: (List.range 9).map (fun j => Int32.ofInt (if (rel = 2 ∨ rel = 3) ∧ c (fiv c 8 0) < 0 then -(qd c j) else qd c j))) := by
      intro h j hj
      have := hs j (by omega) (by omega)
      rw [range9 _ _ _ hj, if_neg h, i_ofInt _ (by omega) (by omega), hq j hj]
    rw [f_X4_settle_92]; dsimp only
    rw [ifb_t (by decide)]
    by_cases h23 : rel = 2 ∨ rel = 3
    · have e135 : f_X4_settle_135 N nu rel (Int32.ofNat (fiv c 8 0)) = ifb (rel = 2) (f_X4_settle_135 N nu rel (Int32.ofNat (fiv c 8 0))) (ifb (rel = 3) (f_X4_settle_135 N nu rel (Int32.ofNat (fiv c 8 0))) (f_X4_settle_150 N nu rel)) := by
        rcases h23 with h | h
        · rw [ifb_t h]
        · rw [ifb_f (by rw [h]; decide), ifb_t h]
      rw [← e135]
      unfold f_X4_settle_135 f_X4_settle_150
      rw [ix_n _ _ _ (by omega) (by omega), i_cl _ (by omega)]
      by_cases hneg : c (fiv c 8 0) < 0
      · rw [ifb_f (fun g => by
          have := (lg_ge0 _ _).mp g
          rw [hq _ (by omega), show (0 : Int64).toInt = 0 from rfl] at this
          have := sgn.mpr hneg; omega)]
        have et := s_turn N 9 (N - 10) 0 nu (by omega)
        rw [show N - 10 + 9 + 1 = N from by omega] at et
        have et : f_X4_turn N nu = some (fun j => if 0 ≤ j ∧ j < 9 then -(nu j) else nu j) := et
        rw [bd et]
        refine ⟨_, _, rfl, Or.inr ⟨_, rfl, rfl, ?_⟩⟩
        intro j hj
        have := hs j (by omega) (by omega)
        rw [range9 _ _ _ hj, if_pos ⟨h23, hneg⟩, i_ofInt _ (by omega) (by omega)]
        show (if 0 ≤ j ∧ j < 9 then -(nu j) else nu j).toInt = _
        rw [if_pos (by omega)]
        exact L_neg _ _ (hq j hj) (by omega) (by omega)
      · rw [ifb_t ((lg_ge0 _ _).mpr (by
          rw [hq _ (by omega), show (0 : Int64).toInt = 0 from rfl]
          rcases Int.lt_or_le (qd c (fiv c 8 0)) 0 with g | g
          · exact absurd (sgn.mp g) hneg
          · exact g))]
        exact ⟨_, _, rfl, Or.inr ⟨_, rfl, rfl, plain (fun h => hneg h.2)⟩⟩
    · rw [ifb_f (fun h => h23 (Or.inl h)), ifb_f (fun h => h23 (Or.inr h))]
      exact ⟨_, _, rfl, Or.inr ⟨_, rfl, rfl, plain (fun h => h23 h.1)⟩⟩
  · rw [if_pos rfl, if_pos rfl]
    exact ⟨_, _, rfl, Or.inl ⟨rfl, rfl⟩⟩
theorem t_settle {nu : Nat → Int64} {c : Nat → Int} (S : Sm nu c) (N : Nat) (hN : 200 ≤ N) {rel : Int32} (hr : rel = 2 ∨ rel = 3 ∨ rel = 4 ∨ rel = 5) : ∃ k nu', f_X4_settle N nu rel = some (k, nu') ∧ ((stl rel c = none ∧ k = -2) ∨ ∃ r, stl rel c = some r ∧ k = kd r ∧ (2 ≤ kd r → Sat nu' r)) := by
  have hge := fiv_ge c 8 0
  have e1 := s_set2 N S rel 8 (N - 9) 0 (by omega)
  rw [show N - 9 + 8 + 1 = N from by omega] at e1
  unfold f_X4_settle
  rw [show (0 : Int32) = Int32.ofNat 0 from rfl, e1]
  unfold f_X4_settle_25
  by_cases h8 : fiv c 8 0 = 8
  · rw [h8, ifb_t (by decide), show (8 : Int32) = Int32.ofNat 8 from rfl, ix_n _ _ _ (by omega) (by omega), i_cl _ (by omega), bd (s_isTrue N hr _), (S 8 (by omega)).1]
    unfold f_X4_settle_50 stl
    rw [if_pos h8]
    cases trv rel (c 8)
    · rw [if_neg (by decide), ifb_t rfl]
      exact ⟨_, _, rfl, Or.inr ⟨_, rfl, rfl, fun h => absurd h (by decide)⟩⟩
    · rw [if_pos rfl, ifb_f (by decide)]
      exact ⟨_, _, rfl, Or.inr ⟨_, rfl, rfl, fun h => absurd h (by decide)⟩⟩
  · have hn := fiv_nz c 8 0 (by omega)
    have hgp := gc_pos c (fiv c 8 0) (by omega) hn
    rw [ifb_f (by rw [show (8 : Int32) = Int32.ofNat 8 from rfl, i_eq _ _ (by omega) (by omega)]; exact h8)]
    obtain ⟨z, ez, hz⟩ := cd_loop N hN nu c (fun j hj => ⟨(S j hj).1, by have := (S j hj).2; omega⟩) 9 (N - 10) 0 0 (by omega) rfl
    rw [show N - 10 + 9 + 1 = N from by omega] at ez
    have ez : f_X4_commonDivisor N nu = some z := ez
    rw [bd ez]
    have fin : ∀ nu1 : Nat → Int64, (∀ j, j < 9 → (nu1 j).toInt = qd c j) → ∃ k nu', f_X4_settle_89 N nu1 rel (Int32.ofNat (fiv c 8 0)) = some (k, nu') ∧ ((stl rel c = none ∧ k = -2) ∨ ∃ r, stl rel c = some r ∧ k = kd r ∧ (2 ≤ kd r → Sat nu' r)) := by
      intro nu1 h1
      obtain ⟨k, nu', e, h⟩ := s_after N (by omega) hr nu1 c h1 (fun j hj => (S j hj).2) h8
      refine ⟨k, nu', e, ?_⟩
      rcases h with h | ⟨r, a, b, d⟩
      · exact Or.inl h
      · exact Or.inr ⟨r, a, b, fun _ => d⟩
    by_cases h1 : gc c 9 = 1
    · rw [ifb_t ((lg_le0 _ _).mpr (by rw [hz, h1]; decide))]
      apply fin
      intro j hj
      rw [(S j hj).1]; unfold qd; rw [h1]; exact (Int.tdiv_one _).symm
    · rw [ifb_f (fun g => by
        have := (lg_le0 _ _).mp g
        rw [hz, show (1 : Int64).toInt = 1 from rfl] at this; omega)]
      obtain ⟨nu1, e2, h2⟩ := s_div N rel (Int32.ofNat (fiv c 8 0)) z (gc c 9) hz hgp c 9 (N - 10) 0 nu (by omega) (fun j hj => by rw [(S j hj).1, if_neg (by omega)]) (fun j hj => (S j hj).2)
      rw [show N - 10 + 9 + 1 = N from by omega] at e2
      rw [show (0 : Int32) = Int32.ofNat 0 from rfl, e2]
      exact fin nu1 h2
theorem s_bits (N : Nat) {nu : Nat → Int64} {r : List Int32} (S : Sat nu r) : ∀ (d m k : Nat), k + d = 8 → f_X4_bits_4 N (m + d + 1) nu (rbk r k 0) (Int32.ofNat k) = some (rb r)
  | 0, m, k, h => by
    have : k = 8 := by omega
    subst this
    rw [f_X4_bits_4]; dsimp only
    rw [ifb_t (by decide)]; rfl
  | d + 1, m, k, h => by
    rw [show m + (d + 1) + 1 = (m + d + 1) + 1 from by omega, f_X4_bits_4]; dsimp only
    rw [ifb_f (by rw [show (8 : Int32) = Int32.ofNat 8 from rfl, i_le _ _ (by omega) (by omega)]; omega), ix_n _ _ _ (by omega) (by omega), i_cl _ (by omega)]
    unfold f_X4_bits_27
    have hk := S k (by omega)
    have ih := s_bits N S d m (k + 1) (by omega)
    rw [rbk_step] at ih
    rw [i_p1]
    by_cases h0 : r.getD (1 + k) 0 = 0
    · rw [ifb_t ((lg_eq0 _ _).mpr (by rw [hk, h0]; rfl))]
      rw [if_neg (fun g => g h0)] at ih; exact ih
    · rw [ifb_f (fun g => h0 (Int32.toInt_inj.mp (by rw [← hk, (lg_eq0 _ _).mp g]; rfl)))]
      rw [if_pos h0] at ih; exact ih
theorem t_bits {nu : Nat → Int64} {r : List Int32} (S : Sat nu r) (N : Nat) (hN : 12 ≤ N) : f_X4_bits N nu = some (rb r) := by
  have := s_bits N S 8 (N - 9) 0 (by omega)
  rw [show N - 9 + 8 + 1 = N from by omega] at this
  exact this
theorem L_i32 (x : Int64) (y : Int32) (h : x.toInt = y.toInt) : x.toInt32 = y := by
  apply Int32.toInt_inj.mp
  rw [Int64.toInt_toInt32, h]
  have h1 := Int32.le_toInt y
  have h2 := Int32.toInt_lt y
  exact bm32 _ (by omega) (by omega)
section PS
variable {pa ro : Int32} {ce : Nat → Int32} {n : Nat} {sa lo : Nat → Int32} {st : List (List (List Int32))}
def part (r : List Int32) (k : Nat) : List Int32 := r.take (1 + k) ++ List.replicate (9 - k) 0
theorem part9 (r : List Int32) (h : r.length = 10) : part r 9 = r := by
  unfold part; rw [List.take_of_length_le (by omega)]; simp
theorem part0 (r : List Int32) (h : r.length = 10) : part r 0 = row0 (kd r) := by
  match r, h with
  | [a, b, c, d, e, f, g, i, j, k], _ => rfl
theorem part_set (r : List Int32) (h : r.length = 10) (k : Nat) (hk : k < 9) : (part r k).set (1 + k) (r.getD (1 + k) 0) = part r (k + 1) := by
  unfold part
  rw [List.set_append_right _ _ (by simp; omega)]
  have e1 : (r.take (1 + k)).length = 1 + k := by simp; omega
  rw [e1, Nat.sub_self, show 9 - k = (9 - (k + 1)) + 1 from by omega, List.replicate_succ, List.set_cons_zero]
  have e2 : r.take (1 + (k + 1)) = r.take (1 + k) ++ [r.getD (1 + k) 0] := by
    rw [show 1 + (k + 1) = (1 + k) + 1 from by omega, List.take_add_one, List.getD_eq_getElem?_getD, List.getElem?_eq_getElem (by omega)]
    rfl
  rw [e2]; simp
theorem b_ps_loop (N : Nat) {r : List Int32} (hl : r.length = 10) {nu : Nat → Int64} (S : Sat nu r) (s : List (List Int32)) (hs : ∀ x ∈ s, x.length = 10) : ∀ (d m k : Nat) (c : Nat → Int32), k + d = 9 → Tr (Int32.ofNat (s.length + 1)) c n (s ++ [part r k]) → ∃ c', f_X0_pushSettled_38 N (m + d + 1) pa (Int32.ofNat (s.length + 1)) c n sa lo nu 1 (Int32.ofNat k) = some (pa, Int32.ofNat (s.length + 1), c', sa, lo) ∧ Tr (Int32.ofNat (s.length + 1)) c' n (s ++ [r])
  | 0, m, k, c, h, T => by
    have : k = 9 := by omega
    subst this
    rw [part9 r hl] at T
    rw [f_X0_pushSettled_38]; dsimp only
    rw [ifb_f (by decide), ifb_t (by decide), f_X0_pushSettled_81]
    exact ⟨c, rfl, T⟩
  | d + 1, m, k, c, h, T => by
    rw [show m + (d + 1) + 1 = (m + d + 1) + 1 from by omega, f_X0_pushSettled_38]; dsimp only
    obtain ⟨c1, e, T1⟩ := t_setNumber T N s.length k (r.getD (1 + k) 0) (by simp) (by omega)
    rw [ifb_f (by decide), ifb_f (by rw [show (9 : Int32) = Int32.ofNat 9 from rfl, i_le _ _ (by omega) (by omega)]; omega), ix_n _ _ _ (by omega) (by omega), i_cl _ (by omega), i_m1 _ (by omega), show s.length + 1 - 1 = s.length from rfl, L_i32 _ _ (S k (by omega)), bd e, i_p1]
    apply b_ps_loop N hl S s hs d m (k + 1) c1 (by omega)
    have e2 : setL (s ++ [part r k]) s.length (1 + k) (r.getD (1 + k) 0) = s ++ [part r (k + 1)] := by
      unfold setL
      rw [List.set_append_right _ _ (Nat.le_refl _), Nat.sub_self, List.getD_eq_getElem?_getD, List.getElem?_append_right (Nat.le_refl _), Nat.sub_self]
      show s ++ [(part r k).set (1 + k) (r.getD (1 + k) 0)] = _
      rw [part_set r hl k (by omega)]
    rw [e2] at T1
    exact T1
theorem b_pushSettled (B : Be pa ro ce n sa lo st) (N : Nat) (hN : 12 ≤ N) (h : st.length < 402) (hr : 10 * st.flatten.length + 10 ≤ n) {r : List Int32} (hl : Leaf r) {nu : Nat → Int64} (S : 2 ≤ kd r → Sat nu r) : ∃ pa' ro' ce' sa' lo', f_X0_pushSettled N pa ro ce n sa lo nu (kd r) = some (pa', ro', ce', sa', lo') ∧ Be pa' ro' ce' n sa' lo' (st ++ [[r]]) := by
  obtain ⟨c', e, T⟩ := t_add B.2.2.1 N hN (kd r) hr
  unfold f_X0_pushSettled f_X0_pushSettled_10 f_X0_pushSettled_24
  by_cases h2 : kd r < 2
  · have hr0 : r = row0 (kd r) ∧ rb r = 0 := by
      rcases hl with rfl | rfl | ⟨_, hh, _⟩
      · exact ⟨rfl, rfl⟩
      · exact ⟨rfl, rfl⟩
      · exact absurd h2 (by rcases hh with h | h | h | h <;> rw [h] <;> decide)
    rw [ifb_t h2, ifb_t rfl, bd (b_open B N h 0), bd e]
    obtain ⟨M, rfl⟩ : ∃ M, N = M + 1 := ⟨N - 1, by omega⟩
    rw [← hr0.1] at T
    have hB := B.top h T (Fm.leaf hl)
    rw [fv_leaf hl, hr0.2] at hB
    exact ⟨_, _, _, _, _, rfl, hB⟩
  · have S := S ((i_not_lt _ _).mp h2)
    rw [ifb_f h2, ifb_f (by decide), bd (t_bits S N hN), bd (b_open B N h _), bd e]
    have hlen := hl.len
    rw [← part0 r hlen] at T
    obtain ⟨c2, e2, T2⟩ := b_ps_loop (pa := Int32.ofNat (st.length + 1)) (n := n) (sa := upd sa st.length ro) (lo := upd lo st.length (rb r)) N hlen S st.flatten B.2.2.1.2.2.2.1 9 (N - 10) 0 c' (by omega) T
    rw [show N - 10 + 9 + 1 = N from by omega] at e2
    have hB := B.top h T2 (Fm.leaf hl)
    rw [fv_leaf hl] at hB
    exact ⟨_, _, _, _, _, e2, hB⟩
end PS
def psg (r : List Int32) (v : Nat) : Int32 := if 0 ≤ r.getD (1 + v) 0 then -1 else 1
def pnu (r : List Int32) (v p : Nat) : Int32 := if p = v then 0 else psg r v * r.getD (1 + p) 0
def plt (r : List Int32) : Int32 := if kd r = 3 ∨ kd r = 4 then 1 else 0
def ptOf (r : List Int32) (v : Nat) : List Int32 := plt r :: ((List.range 9).map (pnu r v) ++ [jabs (r.getD (1 + v) 0)])
theorem pt_len (r : List Int32) (v : Nat) : (ptOf r v).length = 11 := by unfold ptOf; simp
theorem pt_0 (r : List Int32) (v : Nat) : (ptOf r v).getD 0 0 = plt r := rfl
theorem pt_n (r : List Int32) (v p : Nat) (hp : p < 9) : (ptOf r v).getD (1 + p) 0 = pnu r v p := by
  unfold ptOf
  rw [show 1 + p = p + 1 from by omega]
  simp [List.getD_eq_getElem?_getD, List.getElem?_append_left, hp]
theorem pt_b (r : List Int32) (v : Nat) : (ptOf r v).getD 10 0 = jabs (r.getD (1 + v) 0) := by
  unfold ptOf
  simp [List.getD_eq_getElem?_getD, List.getElem?_append_right]
def Pts (ps : Nat → Int32) (pl : List (List Int32)) : Prop := (∀ x ∈ pl, x.length = 11) ∧ ∀ i j, i < pl.length → j < 11 → ps (11 * (i + 1) + j) = (pl.getD i []).getD j 0
theorem p_same (N : Nat) (ps : Nat → Int32) (a b : Nat) (ha : a + 11 ≤ 4411) (hb : b + 11 ≤ 4411) : ∀ (d m k : Nat), k + d = 11 → (f_X1_isSamePoint_2 N (m + d + 1) ps (Int32.ofNat a) (Int32.ofNat b) (Int32.ofNat k) = some 1 ∧ ∀ j, k ≤ j → j < 11 → ps (a + j) = ps (b + j)) ∨ (f_X1_isSamePoint_2 N (m + d + 1) ps (Int32.ofNat a) (Int32.ofNat b) (Int32.ofNat k) = some 0 ∧ ¬ ∀ j, k ≤ j → j < 11 → ps (a + j) = ps (b + j))
  | 0, m, k, h => by
    have : k = 11 := by omega
    subst this
    rw [f_X1_isSamePoint_2]; dsimp only
    rw [ifb_t (by decide)]
    exact Or.inl ⟨rfl, fun j h1 h2 => by omega⟩
  | d + 1, m, k, h => by
    rw [show m + (d + 1) + 1 = (m + d + 1) + 1 from by omega, f_X1_isSamePoint_2]; dsimp only
    rw [ifb_f (by rw [show (11 : Int32) = Int32.ofNat 11 from rfl, i_le _ _ (by omega) (by omega)]; omega), i_add, i_add, ix_n _ _ _ (by omega) (by omega), ix_n _ _ _ (by omega) (by omega), i_cl _ (by omega), i_cl _ (by omega), i_p1]
    by_cases hc : ps (a + k) = ps (b + k)
    · rw [ifb_t hc]
      rcases p_same N ps a b ha hb d m (k + 1) (by omega) with ⟨e, g⟩ | ⟨e, g⟩
      · refine Or.inl ⟨e, fun j h1 h2 => ?_⟩
        by_cases hj : j = k
        · rw [hj]; exact hc
        · exact g j (by omega) h2
      · exact Or.inr ⟨e, fun q => g (fun j h1 h2 => q j (by omega) h2)⟩
    · rw [ifb_f hc]
      exact Or.inr ⟨rfl, fun q => hc (q k (Nat.le_refl _) (by omega))⟩
theorem i_m11 (a : Nat) : Int32.ofNat a * 11 = Int32.ofNat (a * 11) := i_mul a 11
theorem p_find (N : Nat) (hN : 12 ≤ N) {ps : Nat → Int32} {pl : List (List Int32)} (P : Pts ps pl) (h4 : pl.length < 400) (q : List Int32) (hq : q.length = 11) (hqs : ∀ j, j < 11 → ps (11 * (pl.length + 1) + j) = q.getD j 0) (BR : Int32) (BC : Nat → Int32) (bn : Nat) : ∀ (d m k : Nat), k + d = pl.length → f_X1_addPoint_122 N (m + d + 1) (Int32.ofNat (pl.length + 1)) BR BC bn ps (Int32.ofNat ((pl.length + 1) * 11)) (Int32.ofNat (k + 1)) = some (if q ∈ pl.drop k then Int32.ofNat (pl.length + 1) else Int32.ofNat (pl.length + 2), ps)
  | 0, m, k, h => by
    rw [f_X1_addPoint_122]; dsimp only
    rw [ifb_t (by rw [i_le _ _ (by omega) (by omega)]; omega), List.drop_eq_nil_of_le (by omega), if_neg List.not_mem_nil, i_p1]
  | d + 1, m, k, h => by
    rw [show m + (d + 1) + 1 = (m + d + 1) + 1 from by omega, f_X1_addPoint_122]; dsimp only
    have hk : k < pl.length := by omega
    rw [ifb_f (by rw [i_le _ _ (by omega) (by omega)]; omega), i_m11]
    have eg : pl.getD k [] = pl[k] := by simp [List.getD_eq_getElem?_getD, hk]
    have hsame := p_same N ps ((k + 1) * 11) ((pl.length + 1) * 11) (by omega) (by omega) 11 (N - 12) 0 (by omega)
    rw [show N - 12 + 11 + 1 = N from by omega] at hsame
    have hiff : (∀ j, 0 ≤ j → j < 11 → ps ((k + 1) * 11 + j) = ps ((pl.length + 1) * 11 + j)) ↔ q = pl[k] := by
      have e1 : ∀ j, j < 11 → ps ((k + 1) * 11 + j) = (pl[k]).getD j 0 := fun j hj => by
        rw [Nat.mul_comm, P.2 k j hk hj, eg]
      have e2 : ∀ j, j < 11 → ps ((pl.length + 1) * 11 + j) = q.getD j 0 := fun j hj => by
        rw [Nat.mul_comm, hqs j hj]
      have hl := P.1 _ (List.getElem_mem hk)
      constructor
      · intro g
        apply List.ext_getElem (by rw [hq, hl])
        intro j h1 h2
        have := g j (by omega) (by omega)
        rw [e1 j (by omega), e2 j (by omega)] at this
        simp only [List.getD_eq_getElem?_getD, List.getElem?_eq_getElem h1, List.getElem?_eq_getElem h2, Option.getD_some] at this
        exact this.symm
      · intro g j h1 h2
        rw [e1 j h2, e2 j h2, g]
    rw [List.drop_eq_getElem_cons hk]
    unfold f_X1_isSamePoint
    rw [show (0 : Int32) = Int32.ofNat 0 from rfl]
    rcases hsame with ⟨e, g⟩ | ⟨e, g⟩
    · rw [bd e, ifb_f (by decide), if_pos (by rw [hiff.mp g]; exact List.mem_cons_self)]
    · rw [bd e, ifb_t (by decide), i_p1, p_find N hN P h4 q hq hqs BR BC bn d m (k + 1) (by omega)]
      congr 2
      have hne : q ≠ pl[k] := fun h => g (hiff.mpr h)
      by_cases hm : q ∈ pl.drop (k + 1)
      · rw [if_pos hm, if_pos (List.mem_cons_of_mem _ hm)]
      · rw [if_neg hm, if_neg (fun h => (List.mem_cons.mp h).elim hne hm)]
theorem p_write (N : Nat) {r : Int32} {c : Nat → Int32} {n : Nat} {l : List (List Int32)} (T : Tr r c n l) (i v s : Nat) (hi : i < l.length) (hv : v < 8) (hs : s + 11 ≤ 4411) (po sg f : Int32) (hsg : sg = psg l[i] v) : ∀ (d m k : Nat) (ps : Nat → Int32), k + d = 9 → f_X1_addPoint_54 N (m + d + 1) po r c n ps (Int32.ofNat i) (Int32.ofNat v) (Int32.ofNat s) f sg (Int32.ofNat k) = f_X1_addPoint_122 N N po r c n (upd (fun q => if s + 1 + k ≤ q ∧ q < s + 10 then pnu l[i] v (q - s - 1) else ps q) (s + 10) (jabs f)) (Int32.ofNat s) 1
  | 0, m, k, ps, h => by
    have : k = 9 := by omega
    subst this
    rw [f_X1_addPoint_54]; dsimp only
    rw [ifb_t (by decide), i_p1, show Int32.ofNat (s + 1) + 9 = Int32.ofNat (s + 1 + 9) from i_add _ 9, ix_n _ _ _ (by omega) (by omega), i_cl _ (by omega)]
    congr 2
    funext q; rw [if_neg (by omega)]
  | d + 1, m, k, ps, h => by
    rw [show m + (d + 1) + 1 = (m + d + 1) + 1 from by omega, f_X1_addPoint_54]; dsimp only
    rw [ifb_f (by rw [show (9 : Int32) = Int32.ofNat 9 from rfl, i_le _ _ (by omega) (by omega)]; omega), i_p1, i_add]
    have go : ∀ x, x = pnu l[i] v k → f_X1_addPoint_95 (f_X1_addPoint_54 N (m + d + 1)) N po r c n ps (Int32.ofNat i) (Int32.ofNat v) (Int32.ofNat s) f sg (Int32.ofNat k) (Int32.ofNat (s + 1 + k)) x = f_X1_addPoint_122 N N po r c n (upd (fun q => if s + 1 + k ≤ q ∧ q < s + 10 then pnu l[i] v (q - s - 1) else ps q) (s + 10) (jabs f)) (Int32.ofNat s) 1 := by
      intro x hx
      unfold f_X1_addPoint_95
      rw [ix_n _ _ _ (by omega) (by omega), i_cl _ (by omega), i_p1, p_write N T i v s hi hv hs po sg f hsg d m (k + 1) _ (by omega)]
      congr 2
      funext q
      by_cases hq : q = s + 1 + k
      · subst hq
        rw [if_neg (by omega), upd_at, if_pos (by omega), hx, show s + 1 + k - s - 1 = k from by omega]
      · rw [upd_ne _ _ _ _ hq]
        by_cases h2 : s + 1 + (k + 1) ≤ q ∧ q < s + 10
        · rw [if_pos h2, if_pos (by omega)]
        · rw [if_neg h2, if_neg (by omega)]
    by_cases hkv : k = v
    · rw [ifb_t (by rw [hkv])]
      exact go 0 (by unfold pnu; rw [if_pos hkv])
    · rw [ifb_f (by rw [i_eq _ _ (by omega) (by omega)]; exact hkv), bd (t_number T N i k hi (by omega)), lc_getD _ hi]
      exact go _ (by unfold pnu; rw [if_neg hkv, hsg])
theorem p_add (N : Nat) (hN : 420 ≤ N) {r : Int32} {c : Nat → Int32} {n : Nat} {l : List (List Int32)} (T : Tr r c n l) (i v : Nat) (hi : i < l.length) (hv : v < 8) {ps : Nat → Int32} {pl : List (List Int32)} (P : Pts ps pl) (h4 : pl.length < 400) : ∃ ps', f_X1_addPoint N (Int32.ofNat (pl.length + 1)) r c n ps (Int32.ofNat i) (Int32.ofNat v) (plt l[i]) = some (Int32.ofNat ((if ptOf l[i] v ∈ pl then pl else pl ++ [ptOf l[i] v]).length + 1), ps') ∧ Pts ps' (if ptOf l[i] v ∈ pl then pl else pl ++ [ptOf l[i] v]) := by
  have sg : ∀ sg, sg = psg l[i] v → ∃ ps', f_X1_addPoint_41 N (Int32.ofNat (pl.length + 1)) r c n ps (Int32.ofNat i) (Int32.ofNat v) (plt l[i]) (Int32.ofNat ((pl.length + 1) * 11)) ((l[i]).getD (1 + v) 0) sg = some (Int32.ofNat ((if ptOf l[i] v ∈ pl then pl else pl ++ [ptOf l[i] v]).length + 1), ps') ∧ Pts ps' (if ptOf l[i] v ∈ pl then pl else pl ++ [ptOf l[i] v]) := by
    intro sg hsg
    unfold f_X1_addPoint_41
    rw [ix_n _ _ _ (by omega) (by omega), i_cl _ (by omega)]
    have e := p_write N T i v ((pl.length + 1) * 11) hi hv (by omega) (Int32.ofNat (pl.length + 1)) sg ((l[i]).getD (1 + v) 0) hsg 9 (N - 10) 0 (upd ps ((pl.length + 1) * 11) (plt l[i])) (by omega)
    rw [show N - 10 + 9 + 1 = N from by omega, show Int32.ofNat 0 = 0 from rfl] at e
    rw [e]
    generalize hps : (upd (fun q => if (pl.length + 1) * 11 + 1 + 0 ≤ q ∧ q < (pl.length + 1) * 11 + 10 then pnu l[i] v (q - (pl.length + 1) * 11 - 1) else upd ps ((pl.length + 1) * 11) (plt l[i]) q) ((pl.length + 1) * 11 + 10) (jabs ((l[i]).getD (1 + v) 0))) = ps1
    have hold : ∀ q, q < (pl.length + 1) * 11 → ps1 q = ps q := by
      intro q hq
      rw [← hps, upd_ne _ _ _ _ (by omega), if_neg (by omega), upd_ne _ _ _ _ (by omega)]
    have hnew : ∀ j, j < 11 → ps1 (11 * (pl.length + 1) + j) = (ptOf l[i] v).getD j 0 := by
      intro j hj
      rw [← hps]
      by_cases h10 : j = 10
      · subst h10; rw [show 11 * (pl.length + 1) + 10 = (pl.length + 1) * 11 + 10 from by omega, upd_at, pt_b]
      · rw [upd_ne _ _ _ _ (by omega)]
        by_cases h0 : j = 0
        · subst h0; rw [if_neg (by omega), show 11 * (pl.length + 1) + 0 = (pl.length + 1) * 11 from by omega, upd_at, pt_0]
        · rw [if_pos (by omega), show j = 1 + (j - 1) from by omega, pt_n _ _ _ (by omega)]
          congr 1; omega
    have P1 : Pts ps1 pl := ⟨P.1, fun a j ha hj => by rw [hold _ (by omega), P.2 a j ha hj]⟩
    have ef := p_find N (by omega) P1 h4 (ptOf l[i] v) (pt_len _ _) hnew r c n pl.length (N - pl.length - 1) 0 (by omega)
    rw [show N - pl.length - 1 + pl.length + 1 = N from by omega, List.drop_zero] at ef
    refine ⟨ps1, ?_, ?_⟩
    · rw [show (1 : Int32) = Int32.ofNat (0 + 1) from rfl, ef]
      by_cases hm : ptOf l[i] v ∈ pl
      · rw [if_pos hm, if_pos hm]
      · rw [if_neg hm, if_neg hm, List.length_append]; rfl
    · by_cases hm : ptOf l[i] v ∈ pl
      · rw [if_pos hm]; exact P1
      · rw [if_neg hm]
        refine ⟨?_, ?_⟩
        · intro x hx
          rcases List.mem_append.mp hx with hx | hx
          · exact P.1 x hx
          · rw [List.mem_singleton.mp hx]; exact pt_len _ _
        · intro a j ha hj
          rw [List.length_append, List.length_singleton] at ha
          by_cases hl : a < pl.length
          · rw [P1.2 a j hl hj, List.getD_eq_getElem?_getD (l := pl ++ _), List.getElem?_append_left hl, ← List.getD_eq_getElem?_getD]
          · have : a = pl.length := by omega
            subst this
            rw [hnew j hj, List.getD_eq_getElem?_getD (l := pl ++ _), List.getElem?_append_right (Nat.le_refl _), Nat.sub_self]
            rfl
  unfold f_X1_addPoint
  rw [ifb_t (by rw [show (400 : Int32) = Int32.ofNat 400 from rfl, i_le _ _ (by omega) (by omega)]; omega), bd (t_number T N i v hi (by omega)), lc_getD _ hi, i_m11]
  by_cases h0 : 0 ≤ (l[i]).getD (1 + v) 0
  · rw [ifb_t h0]; exact sg _ (by unfold psg; rw [if_pos h0])
  · rw [ifb_f h0]; exact sg _ (by unfold psg; rw [if_neg h0])
def isPt (r : List Int32) (v : Nat) : Bool := decide (2 ≤ kd r) && decide (kd r ≤ 5) && decide (r.getD (1 + v) 0 ≠ 0) && (decide (kd r ≤ 3) || decide (r.getD (1 + v) 0 < 0))
def addP (v : Nat) (pl : List (List Int32)) (r : List Int32) : List (List Int32) := if isPt r v then (if ptOf r v ∈ pl then pl else pl ++ [ptOf r v]) else pl
def ptsOf (v : Nat) (l : List (List Int32)) : List (List Int32) := l.foldl (addP v) []
theorem addP_len (v : Nat) (pl : List (List Int32)) (r : List Int32) : (addP v pl r).length ≤ pl.length + 1 := by
  unfold addP; split
  · split
    · omega
    · simp
  · omega
theorem p_loop (N : Nat) (hN : 420 ≤ N) {r : Int32} {c : Nat → Int32} {n : Nat} {l : List (List Int32)} (T : Tr r c n l) (h400 : l.length ≤ 400) (v : Nat) (hv : v < 8) : ∀ (d m k : Nat) (ps : Nat → Int32) (pl : List (List Int32)), k + d = l.length → Pts ps pl → pl.length ≤ k → ∃ ps', f_X1_collectPoints_7 N (m + d + 1) (Int32.ofNat (pl.length + 1)) r c n ps (Int32.ofNat v) (Int32.ofNat k) = some (Int32.ofNat (((l.drop k).foldl (addP v) pl).length + 1), ps') ∧ Pts ps' ((l.drop k).foldl (addP v) pl)
  | 0, m, k, ps, pl, h, P, hl => by
    have hr := T.1
    rw [f_X1_collectPoints_7]; dsimp only
    rw [hr, ifb_t (by rw [i_le _ _ (by omega) (by omega)]; omega), List.drop_eq_nil_of_le (by omega)]
    exact ⟨ps, rfl, P⟩
  | d + 1, m, k, ps, pl, h, P, hl => by
    have hr := T.1
    have hk : k < l.length := by omega
    rw [show m + (d + 1) + 1 = (m + d + 1) + 1 from by omega, f_X1_collectPoints_7]; dsimp only
    rw [ifb_f (by rw [hr, i_le _ _ (by omega) (by omega)]; omega), bd (t_number T N k v hk (by omega)), bd (t_kind T N k hk), lc_getD _ hk, lc_getD _ hk, List.drop_eq_getElem_cons hk, List.foldl_cons]
    have hkd : (l[k]).getD 0 0 = kd l[k] := rfl
    rw [hkd]
    unfold f_X1_collectPoints_54 f_X1_collectPoints_55
    have next : ∀ ps1 pl1, Pts ps1 pl1 → pl1.length ≤ k + 1 → pl1 = addP v pl l[k] → ∃ ps', f_X1_collectPoints_99 (f_X1_collectPoints_7 N (m + d + 1)) N (Int32.ofNat (pl1.length + 1)) r c n ps1 (Int32.ofNat v) (Int32.ofNat k) = some (Int32.ofNat (((l.drop (k + 1)).foldl (addP v) (addP v pl l[k])).length + 1), ps') ∧ Pts ps' ((l.drop (k + 1)).foldl (addP v) (addP v pl l[k])) := by
      intro ps1 pl1 P1 hl1 e1
      unfold f_X1_collectPoints_99
      rw [i_p1, ← e1]
      exact p_loop N hN T h400 v hv d m (k + 1) ps1 pl1 (by omega) P1 hl1
    have skip : isPt l[k] v = false → ∃ ps', f_X1_collectPoints_99 (f_X1_collectPoints_7 N (m + d + 1)) N (Int32.ofNat (pl.length + 1)) r c n ps (Int32.ofNat v) (Int32.ofNat k) = some (Int32.ofNat (((l.drop (k + 1)).foldl (addP v) (addP v pl l[k])).length + 1), ps') ∧ Pts ps' ((l.drop (k + 1)).foldl (addP v) (addP v pl l[k])) := by
      intro hf
      exact next ps pl P (by omega) (by unfold addP; rw [hf]; rfl)
    have take : isPt l[k] v = true → ∃ ps', f_X1_collectPoints_76 (f_X1_collectPoints_7 N (m + d + 1)) N (Int32.ofNat (pl.length + 1)) r c n ps (Int32.ofNat v) (Int32.ofNat k) (kd l[k]) = some (Int32.ofNat (((l.drop (k + 1)).foldl (addP v) (addP v pl l[k])).length + 1), ps') ∧ Pts ps' ((l.drop (k + 1)).foldl (addP v) (addP v pl l[k])) := by
      intro ht
      obtain ⟨ps1, e1, P1⟩ := p_add N hN T k v hk hv P (by omega)
      have ea : (if ptOf l[k] v ∈ pl then pl else pl ++ [ptOf l[k] v]) = addP v pl l[k] := by unfold addP; rw [ht]; rfl
      rw [ea] at e1 P1
      have h96 : f_X1_collectPoints_96 (f_X1_collectPoints_7 N (m + d + 1)) N (Int32.ofNat (pl.length + 1)) r c n ps (Int32.ofNat v) (Int32.ofNat k) (Int32.ofNat k) (Int32.ofNat v) (plt l[k]) = f_X1_collectPoints_99 (f_X1_collectPoints_7 N (m + d + 1)) N (Int32.ofNat ((addP v pl l[k]).length + 1)) r c n ps1 (Int32.ofNat v) (Int32.ofNat k) := by
        unfold f_X1_collectPoints_96
        rw [bd e1]
      have hnx := next ps1 _ P1 (by have := addP_len v pl l[k]; omega) rfl
      rw [← h96] at hnx
      unfold f_X1_collectPoints_76 f_X1_collectPoints_91
      unfold plt at hnx
      by_cases h3 : kd l[k] = 3
      · rw [ifb_t h3]; rw [if_pos (Or.inl h3)] at hnx; exact hnx
      · rw [ifb_f h3]
        by_cases h4 : kd l[k] = 4
        · rw [ifb_t h4]; rw [if_pos (Or.inr h4)] at hnx; exact hnx
        · rw [ifb_f h4]; rw [if_neg (fun g => g.elim h3 h4)] at hnx; exact hnx
    by_cases c1 : kd l[k] < 2
    · rw [ifb_t c1, ifb_t rfl]
      exact skip (by unfold isPt; simp [show ¬ (2 ≤ kd l[k]) from by rw [← i_not_lt]; exact fun g => g c1])
    · rw [ifb_f c1]
      by_cases c2 : 5 < kd l[k]
      · rw [ifb_t c2, ifb_t rfl]
        exact skip (by unfold isPt; simp [show ¬ (kd l[k] ≤ 5) from by rw [← i_not_lt]; exact fun g => g c2])
      · have d1 : 2 ≤ kd l[k] := (i_not_lt _ _).mp c1
        have d2 : kd l[k] ≤ 5 := (i_not_lt _ _).mp c2
        rw [ifb_f c2, ifb_f (by decide)]
        by_cases c3 : (l[k]).getD (1 + v) 0 = 0
        · rw [ifb_t c3]
          exact skip (by unfold isPt; rw [c3]; simp)
        · rw [ifb_f c3]
          by_cases c4 : kd l[k] ≤ 3
          · rw [ifb_t c4]
            exact take (by unfold isPt; simp only [d1, d2, ne_eq, c3, c4]; rfl)
          · rw [ifb_f c4]
            by_cases c5 : 0 ≤ (l[k]).getD (1 + v) 0
            · rw [ifb_t c5]
              have d5 : ¬ ((l[k]).getD (1 + v) 0 < 0) := (i_not_lt _ _).mpr c5
              exact skip (by unfold isPt; simp only [d1, d2, ne_eq, c3, c4, d5]; rfl)
            · rw [ifb_f c5]
              have d5 : (l[k]).getD (1 + v) 0 < 0 := by
                rcases Decidable.em ((l[k]).getD (1 + v) 0 < 0) with g | g
                · exact g
                · exact absurd ((i_not_lt _ _).mp g) c5
              exact take (by unfold isPt; simp only [d1, d2, ne_eq, c3, c4, d5]; rfl)
theorem p_collect (N : Nat) (hN : 420 ≤ N) {r : Int32} {c : Nat → Int32} {n : Nat} {l : List (List Int32)} (T : Tr r c n l) (h400 : l.length ≤ 400) (v : Nat) (hv : v < 8) (po : Int32) (ps : Nat → Int32) : ∃ ps', f_X1_collectPoints N po r c n ps (Int32.ofNat v) = some (Int32.ofNat ((ptsOf v l).length + 1), ps') ∧ Pts ps' (ptsOf v l) := by
  have := p_loop N hN T h400 v hv l.length (N - l.length - 1) 0 ps [] (by omega) ⟨fun x h => absurd h List.not_mem_nil, fun i j h => absurd h (by simp)⟩ (by simp)
  rw [show N - l.length - 1 + l.length + 1 = N from by omega, List.drop_zero] at this
  exact this
def sc (r : List Int32) (v : Nat) (q : List Int32) (j : Nat) : Int := (if j = v then 0 else (r.getD (1 + j) 0).toInt * (q.getD 10 0).toInt) + (r.getD (1 + v) 0).toInt * (q.getD (1 + j) 0).toInt
def rep (v : Nat) (q : List Int32) (r : List Int32) : Option (List Int32) :=
  if q.getD 0 0 = 1 then (if kd r = 2 then some (row0 1) else if kd r = 3 then some (row0 0) else stl (if (r.getD (1 + v) 0).toInt ≤ 0 then 5 else 4) (sc r v q)) else stl (kd r) (sc r v q)
def PtB (q : List Int32) : Prop := ∀ j, j < 11 → -1000000000 ≤ (q.getD j 0).toInt ∧ (q.getD j 0).toInt ≤ 1000000000
theorem mul_bd (x y : Int) (h1 : -1000000000 ≤ x) (h2 : x ≤ 1000000000) (h3 : -1000000000 ≤ y) (h4 : y ≤ 1000000000) : -1000000000000000000 ≤ x * y ∧ x * y ≤ 1000000000000000000 := by
  have h : (x * y).natAbs ≤ 1000000000 * 1000000000 := by
    rw [Int.natAbs_mul]
    exact Nat.mul_le_mul (by omega) (by omega)
  omega
theorem sc_bd {r : List Int32} (A : Atm r) {v : Nat} (hv : v < 8) {q : List Int32} (Q : PtB q) (j : Nat) (hj : j < 9) : -4000000000000000000 ≤ sc r v q j ∧ sc r v q j ≤ 4000000000000000000 := by
  obtain ⟨_, _, hb, _⟩ := A
  have h1 := hb (1 + j) (by omega) (by omega)
  have h2 := hb (1 + v) (by omega) (by omega)
  have h3 := Q 10 (by omega)
  have h4 := Q (1 + j) (by omega)
  have m1 := mul_bd _ _ h1.1 h1.2 h3.1 h3.2
  have m2 := mul_bd _ _ h2.1 h2.2 h4.1 h4.2
  unfold sc
  split <;> omega
theorem s_fill (N : Nat) (x : Int64) : ∀ (d m k : Nat) (p : Nat → Int64), k + d = 9 → f_J7_fill_d0a16_6 N (m + d + 1) p 9 x (Int32.ofNat k) (Int32.ofNat 9) = some (fun j => if k ≤ j ∧ j < 9 then x else p j)
  | 0, m, k, p, h => by
    have : k = 9 := by omega
    subst this
    rw [f_J7_fill_d0a16_6]; dsimp only
    rw [ifb_t (by decide)]
    congr 1; funext j; rw [if_neg (by omega)]
  | d + 1, m, k, p, h => by
    rw [show m + (d + 1) + 1 = (m + d + 1) + 1 from by omega, f_J7_fill_d0a16_6]; dsimp only
    rw [ifb_f (by rw [i_le _ _ (by omega) (by omega)]; omega), ix_n _ _ _ (by omega) (by omega), i_cl _ (by omega), i_p1, s_fill N x d m (k + 1) _ (by omega)]
    congr 1; funext j
    by_cases hj : j = k
    · subst hj; rw [if_neg (by omega), updL_at, if_pos (by omega)]
    · rw [updL_ne _ _ _ _ hj]
      by_cases h2 : k + 1 ≤ j ∧ j < 9
      · rw [if_pos h2, if_pos (by omega)]
      · rw [if_neg h2, if_neg (by omega)]
theorem t_empty (N : Nat) (hN : 12 ≤ N) (nu : Nat → Int64) : ∃ nu', f_X4_empty N nu = some nu' ∧ ∀ j, j < 9 → (nu' j).toInt = 0 := by
  have := s_fill N 0 9 (N - 10) 0 nu (by omega)
  rw [show N - 10 + 9 + 1 = N from by omega] at this
  refine ⟨fun j => if 0 ≤ j ∧ j < 9 then 0 else nu j, ?_, ?_⟩
  · unfold f_X4_empty f_J7_fill_d0a16
    rw [show (0 : Int32) = Int32.ofNat 0 from rfl, bd this]
  · intro j hj
    show (if 0 ≤ j ∧ j < 9 then (0 : Int64) else nu j).toInt = 0
    rw [if_pos (by omega)]; rfl
theorem t_sadd (N : Nat) (nu : Nat → Int64) (j : Nat) (hj : j < 9) (x : Int64) : f_X4_add N nu (Int32.ofNat j) x = some (vp_updL nu j (nu j + x)) := by
  unfold f_X4_add f_X4_add_20
  rw [ifb_f (i_nn _ (by omega)), ifb_f (by rw [show (9 : Int32) = Int32.ofNat 9 from rfl, i_le _ _ (by omega) (by omega)]; omega), ix_n _ _ _ (by omega) (by omega), ix_n _ _ _ (by omega) (by omega), i_cl _ (by omega)]
theorem L_mul (x y : Int64) (a b : Int) (hx : x.toInt = a) (hy : y.toInt = b) (h1 : -9223372036854775808 ≤ a * b) (h2 : a * b < 9223372036854775808) : (x * y).toInt = a * b := by
  rw [Int64.toInt_mul, hx, hy, bm64 _ h1 h2]
theorem L_add (x y : Int64) (a b : Int) (hx : x.toInt = a) (hy : y.toInt = b) (h1 : -9223372036854775808 ≤ a + b) (h2 : a + b < 9223372036854775808) : (x + y).toInt = a + b := by
  rw [Int64.toInt_add, hx, hy, bm64 _ h1 h2]
section REP
variable {pa ro : Int32} {ce : Nat → Int32} {n : Nat} {sa lo : Nat → Int32} {st : List (List (List Int32))}
theorem r_loop (B : Be pa ro ce n sa lo st) {r1 : Int32} {c1 : Nat → Int32} {n1 : Nat} {l : List (List Int32)} (T : Tr r1 c1 n1 l) (N : Nat) (hN : 200 ≤ N) (h : st.length < 402) (hr : 10 * st.flatten.length + 10 ≤ n) (i v s : Nat) (hi : i < l.length) (hv : v < 8) (A : Atm l[i]) {q : List Int32} (Q : PtB q) {ps : Nat → Int32} (hps : ∀ j, j < 11 → ps (s + j) = q.getD j 0) (hs : s + 11 ≤ 4411) {rel : Int32} (hrel : rel = 2 ∨ rel = 3 ∨ rel = 4 ∨ rel = 5) (y7 y9 : Int64) (h7 : y7.toInt = ((l[i]).getD (1 + v) 0).toInt) (h9 : y9.toInt = (q.getD 10 0).toInt) : ∀ (d m k : Nat) (nu : Nat → Int64), k + d = 9 → (∀ j, j < 9 → (nu j).toInt = if j < k then sc l[i] v q j else 0) → ∃ nu', (stl rel (sc l[i] v q) = none ∧ f_X1_replace_120 N (m + d + 1) pa ro ce n sa lo nu ps r1 c1 n1 (Int32.ofNat i) (Int32.ofNat v) (Int32.ofNat s) rel y7 y9 (Int32.ofNat k) = some (0, pa, ro, ce, sa, lo, nu')) ∨ (∃ r' pa' ro' ce' sa' lo', stl rel (sc l[i] v q) = some r' ∧ f_X1_replace_120 N (m + d + 1) pa ro ce n sa lo nu ps r1 c1 n1 (Int32.ofNat i) (Int32.ofNat v) (Int32.ofNat s) rel y7 y9 (Int32.ofNat k) = some (1, pa', ro', ce', sa', lo', nu') ∧ Be pa' ro' ce' n sa' lo' (st ++ [[r']]))
  | 0, m, k, nu, hk, hnu => by
    have : k = 9 := by omega
    subst this
    rw [f_X1_replace_120]; dsimp only
    rw [ifb_t (by decide)]
    have S : Sm nu (sc l[i] v q) := fun j hj => by
      have := hnu j hj
      rw [if_pos hj] at this
      exact ⟨this, sc_bd A hv Q j hj⟩
    obtain ⟨kk, nu', e, hcase⟩ := t_settle S N hN hrel
    refine ⟨nu', ?_⟩
    rw [bd e]
    rcases hcase with ⟨h1, h2⟩ | ⟨r', h1, h2, h3⟩
    · exact Or.inl ⟨h1, by rw [ifb_t h2]⟩
    · have hleaf := (stl_leaf hrel h1).1
      obtain ⟨pa', ro', ce', sa', lo', e2, B2⟩ := b_pushSettled B N (by omega) h hr hleaf h3
      refine Or.inr ⟨r', pa', ro', ce', sa', lo', h1, ?_, B2⟩
      rw [ifb_f (by
        show ¬ (kk = -2)
        rw [h2]
        rcases hleaf with rfl | rfl | ⟨_, hh, _⟩
        · decide
        · decide
        · rcases hh with hh | hh | hh | hh <;> rw [hh] <;> decide)]
      show (f_X0_pushSettled N pa ro ce n sa lo nu' kk).bind _ = _
      rw [h2, bd e2]
  | d + 1, m, k, nu, hk, hnu => by
    rw [show m + (d + 1) + 1 = (m + d + 1) + 1 from by omega, f_X1_replace_120]; dsimp only
    rw [ifb_f (by rw [show (9 : Int32) = Int32.ofNat 9 from rfl, i_le _ _ (by omega) (by omega)]; omega)]
    obtain ⟨_, _, hb, _⟩ := id A
    have b1 := hb (1 + k) (by omega) (by omega)
    have b2 := hb (1 + v) (by omega) (by omega)
    have b3 := Q 10 (by omega)
    have b4 := Q (1 + k) (by omega)
    have m1 := mul_bd _ _ b1.1 b1.2 b3.1 b3.2
    have m2 := mul_bd _ _ b2.1 b2.2 b4.1 b4.2
    have hnk := hnu k (by omega)
    rw [if_neg (by omega)] at hnk
    have go : ∀ s0 : Int64, s0.toInt * (q.getD 10 0).toInt = (if k = v then 0 else ((l[i]).getD (1 + k) 0).toInt * (q.getD 10 0).toInt) → ∃ nu', (stl rel (sc l[i] v q) = none ∧ f_X1_replace_145 (f_X1_replace_120 N (m + d + 1)) N pa ro ce n sa lo nu ps r1 c1 n1 (Int32.ofNat i) (Int32.ofNat v) (Int32.ofNat s) rel y7 y9 (Int32.ofNat k) s0 = some (0, pa, ro, ce, sa, lo, nu')) ∨ (∃ r' pa' ro' ce' sa' lo', stl rel (sc l[i] v q) = some r' ∧ f_X1_replace_145 (f_X1_replace_120 N (m + d + 1)) N pa ro ce n sa lo nu ps r1 c1 n1 (Int32.ofNat i) (Int32.ofNat v) (Int32.ofNat s) rel y7 y9 (Int32.ofNat k) s0 = some (1, pa', ro', ce', sa', lo', nu') ∧ Be pa' ro' ce' n sa' lo' (st ++ [[r']])) := by
      intro s0 hs0
      unfold f_X1_replace_145
      rw [i_p1, i_add, ix_n _ _ _ (by omega) (by omega), i_cl _ (by omega), show s + 1 + k = s + (1 + k) from by omega, hps (1 + k) (by omega), bd (t_sadd N nu k (by omega) _), i_p1]
      apply r_loop B T N hN h hr i v s hi hv A Q hps hs hrel y7 y9 h7 h9 d m (k + 1) _ (by omega)
      intro j hj
      by_cases hjk : j = k
      · subst hjk
        rw [updL_at, if_pos (by omega)]
        have hz : (if j = v then (0 : Int) else ((l[i]).getD (1 + j) 0).toInt * (q.getD 10 0).toInt) = 0 ∨ (if j = v then (0 : Int) else ((l[i]).getD (1 + j) 0).toInt * (q.getD 10 0).toInt) = ((l[i]).getD (1 + j) 0).toInt * (q.getD 10 0).toInt := by
          by_cases g : j = v
          · exact Or.inl (if_pos g)
          · exact Or.inr (if_neg g)
        have e1 : (s0 * y9).toInt = (if j = v then (0 : Int) else ((l[i]).getD (1 + j) 0).toInt * (q.getD 10 0).toInt) := by
          rw [L_mul s0 y9 _ _ rfl h9 (by rw [hs0]; omega) (by rw [hs0]; omega), hs0]
        have e2 : (y7 * (q.getD (1 + j) 0).toInt64).toInt = ((l[i]).getD (1 + v) 0).toInt * (q.getD (1 + j) 0).toInt := L_mul _ _ _ _ h7 (Int32.toInt_toInt64 _) (by omega) (by omega)
        have e3 := L_add _ _ _ _ e1 e2 (by omega) (by omega)
        rw [L_add _ _ _ _ hnk e3 (by omega) (by omega), Int.zero_add]
        rfl
      · rw [updL_ne _ _ _ _ hjk, hnu j hj]
        by_cases g : j < k
        · rw [if_pos g, if_pos (by omega)]
        · rw [if_neg g, if_neg (by omega)]
    by_cases hkv : k = v
    · rw [ifb_t (by rw [hkv])]
      exact go 0 (by rw [if_pos hkv, show (0 : Int64).toInt = 0 from rfl, Int.zero_mul])
    · rw [ifb_f (by rw [i_eq _ _ (by omega) (by omega)]; exact hkv), bd (t_number T N i k hi (by omega)), lc_getD _ hi]
      exact go _ (by rw [if_neg hkv, Int32.toInt_toInt64])
theorem r_replace (B : Be pa ro ce n sa lo st) {r1 : Int32} {c1 : Nat → Int32} {n1 : Nat} {l : List (List Int32)} (T : Tr r1 c1 n1 l) (N : Nat) (hN : 200 ≤ N) (h : st.length < 402) (hr : 10 * st.flatten.length + 10 ≤ n) (i v p : Nat) (hi : i < l.length) (hv : v < 8) (A : Atm l[i]) {q : List Int32} (Q : PtB q) {ps : Nat → Int32} (hps : ∀ j, j < 11 → ps (11 * p + j) = q.getD j 0) (hp : p ≤ 400) (nu : Nat → Int64) : ∃ nu', (rep v q l[i] = none ∧ f_X1_replace N pa ro ce n sa lo nu ps r1 c1 n1 (Int32.ofNat i) (Int32.ofNat v) (Int32.ofNat p) = some (0, pa, ro, ce, sa, lo, nu')) ∨ (∃ r' pa' ro' ce' sa' lo', rep v q l[i] = some r' ∧ f_X1_replace N pa ro ce n sa lo nu ps r1 c1 n1 (Int32.ofNat i) (Int32.ofNat v) (Int32.ofNat p) = some (1, pa', ro', ce', sa', lo', nu') ∧ Be pa' ro' ce' n sa' lo' (st ++ [[r']])) := by
  unfold f_X1_replace
  rw [ifb_f (i_nn _ (by omega)), ifb_t (by rw [show (400 : Int32) = Int32.ofNat 400 from rfl, i_le _ _ (by omega) (by omega)]; omega), bd (t_kind T N i hi), bd (t_number T N i v hi (by omega)), i_m11, ix_n _ _ _ (by omega) (by omega), i_cl _ (by omega), lc_getD _ hi, lc_getD _ hi]
  have e0 : ps (p * 11) = q.getD 0 0 := by rw [← hps 0 (by omega)]; congr 1; omega
  have hkd : (l[i]).getD 0 0 = kd l[i] := rfl
  rw [e0, hkd]
  unfold rep
  have main : ∀ rel : Int32, (rel = 2 ∨ rel = 3 ∨ rel = 4 ∨ rel = 5) → ∃ nu', (stl rel (sc l[i] v q) = none ∧ f_X1_replace_95 N pa ro ce n sa lo nu ps r1 c1 n1 (Int32.ofNat i) (Int32.ofNat v) (Int32.ofNat (p * 11)) rel ((l[i]).getD (1 + v) 0).toInt64 = some (0, pa, ro, ce, sa, lo, nu')) ∨ (∃ r' pa' ro' ce' sa' lo', stl rel (sc l[i] v q) = some r' ∧ f_X1_replace_95 N pa ro ce n sa lo nu ps r1 c1 n1 (Int32.ofNat i) (Int32.ofNat v) (Int32.ofNat (p * 11)) rel ((l[i]).getD (1 + v) 0).toInt64 = some (1, pa', ro', ce', sa', lo', nu') ∧ Be pa' ro' ce' n sa' lo' (st ++ [[r']])) := by
    intro rel hrel
    obtain ⟨nu0, en, hn0⟩ := t_empty N (by omega) nu
    unfold f_X1_replace_95
    rw [i_p1, show Int32.ofNat (p * 11 + 1) + 9 = Int32.ofNat (p * 11 + 1 + 9) from i_add _ 9, ix_n _ _ _ (by omega) (by omega), i_cl _ (by omega), bd en]
    have := r_loop B T N hN h hr i v (p * 11) hi hv A Q (ps := ps) (fun j hj => by rw [← hps j hj]; congr 1; omega) (by omega) hrel ((l[i]).getD (1 + v) 0).toInt64 (ps (p * 11 + 1 + 9)).toInt64 (Int32.toInt_toInt64 _) (by rw [Int32.toInt_toInt64, ← hps 10 (by omega)]; congr 2; omega) 9 (N - 10) 0 nu0 (by omega) (fun j hj => by rw [hn0 j hj, if_neg (by omega)])
    rw [show N - 10 + 9 + 1 = N from by omega] at this
    exact this
  obtain ⟨_, hkk, _⟩ := id A
  by_cases hl : q.getD 0 0 = 1
  · rw [ifb_t hl, if_pos hl]
    unfold f_X1_replace_61 f_X1_replace_93
    have push : ∀ k : Int32, (k = 0 ∨ k = 1) → ∃ nu', (some (row0 k) = none ∧ f_X1_replace_76 N pa ro ce n sa lo nu ps r1 c1 n1 k = some (0, pa, ro, ce, sa, lo, nu')) ∨ (∃ r' pa' ro' ce' sa' lo', some (row0 k) = some r' ∧ f_X1_replace_76 N pa ro ce n sa lo nu ps r1 c1 n1 k = some (1, pa', ro', ce', sa', lo', nu') ∧ Be pa' ro' ce' n sa' lo' (st ++ [[r']])) := by
      intro k hk
      obtain ⟨pa', ro', ce', sa', lo', e, B2⟩ := b_push B N (by omega) h hr k hk
      refine ⟨nu, Or.inr ⟨row0 k, pa', ro', ce', sa', lo', rfl, ?_, B2⟩⟩
      unfold f_X1_replace_76
      rw [bd e]
    by_cases h2 : kd l[i] = 2
    · rw [ifb_t h2, if_pos h2, ifb_f (by rw [h2]; decide)]
      exact push 1 (Or.inr rfl)
    · rw [ifb_f h2, if_neg h2]
      by_cases h3 : kd l[i] = 3
      · rw [ifb_t h3, if_pos h3, ifb_t h3]
        exact push 0 (Or.inl rfl)
      · rw [ifb_f h3, if_neg h3]
        have hz : (lg_cmp ((l[i]).getD (1 + v) 0).toInt64 0 ≤ 0) ↔ ((l[i]).getD (1 + v) 0).toInt ≤ 0 := by
          rw [lg_le0, Int32.toInt_toInt64]; rfl
        by_cases hneg : ((l[i]).getD (1 + v) 0).toInt ≤ 0
        · rw [ifb_t (hz.mpr hneg), if_pos hneg]
          exact main 5 (by decide)
        · rw [ifb_f (fun g => hneg (hz.mp g)), if_neg hneg]
          exact main 4 (by decide)
  · rw [ifb_f hl, if_neg hl]
    exact main _ hkk
end REP
def oBi {F : Type} (g : List Int32 → F → F → Option F) (r : List Int32) (x y : Option F) : Option F := x.bind (fun a => y.bind (fun b => g r a b))
def oQu {F : Type} (g : List Int32 → F → Option F) (r : List Int32) (x : Option F) : Option F := x.bind (g r)
section ROWS
variable {β : Type} (lf : List Int32 → β) (qu : List Int32 → β → β) (bi : List Int32 → β → β → β)
theorem fold_take {l : List (List Int32)} {k : Nat} (hk : k < l.length) : (l.take (k + 1)).foldl (stp lf qu bi) [] = stp lf qu bi ((l.take k).foldl (stp lf qu bi) []) l[k] := by
  rw [List.take_add_one, List.getElem?_eq_getElem hk, List.foldl_append]; rfl
theorem at_row {l : List (List Int32)} (F : Fm l) {k : Nat} (hk : k < l.length) : Leaf l[k] ∨ (∃ kk v x t, l[k] = rowq kk v ∧ (kk = 8 ∨ kk = 9) ∧ v < 8 ∧ (l.take k).foldl (stp lf qu bi) [] = x :: t) ∨ (∃ kk x y t, l[k] = row0 kk ∧ (kk = 6 ∨ kk = 7) ∧ (l.take k).foldl (stp lf qu bi) [] = y :: x :: t) := by
  obtain ⟨pre, f, post, e, hf, hp⟩ := F.sub k hk
  have hd : ∃ d : β, True := by
    rcases l with _ | ⟨r, l⟩
    · simp at hk
    · exact ⟨lf r, trivial⟩
  obtain ⟨d, _⟩ := hd
  rcases hf.cases with ⟨r, hr, rfl⟩ | ⟨a, kk, v, ha, hkk, hv, ho, rfl⟩ | ⟨a, b, kk, ha, hb, hkk, ho, rfl⟩
  · left
    have : l[k] = r := by
      have hpl : k = pre.length := by simp at hp; omega
      subst hpl
      simp [e]
    rw [this]; exact hr
  · right; left
    have hpl : k = (pre ++ a).length := by simp at hp ⊢; omega
    have e2 : l = (pre ++ a) ++ (rowq kk v :: post) := by rw [e]; simp
    refine ⟨kk, v, cata lf qu bi d a, pre.foldl (stp lf qu bi) [], ?_, hkk, hv, ?_⟩
    · subst hpl; simp [e]
    · rw [e2, hpl, List.take_append_of_le_length (Nat.le_refl _), List.take_length, List.foldl_append, cata_push lf qu bi d ha]
  · right; right
    have hpl : k = (pre ++ a ++ b).length := by simp at hp ⊢; omega
    have e2 : l = (pre ++ a ++ b) ++ (row0 kk :: post) := by rw [e]; simp
    refine ⟨kk, cata lf qu bi d a, cata lf qu bi d b, pre.foldl (stp lf qu bi) [], ?_, hkk, ?_⟩
    · subst hpl; simp [e]
    · rw [e2, hpl, List.take_append_of_le_length (Nat.le_refl _), List.take_length, List.foldl_append, List.foldl_append, cata_push lf qu bi d ha, cata_push lf qu bi d hb]
theorem stp_len (st : List β) (r : List Int32) : st.length ≤ (stp lf qu bi st r).length + 1 ∧ (stp lf qu bi st r).length ≤ st.length + 1 := by
  unfold stp
  split
  · simp; omega
  · split
    · split <;> simp <;> omega
    · split <;> simp <;> omega
theorem fold_len : ∀ (l : List (List Int32)) (st : List β), st.length ≤ (l.foldl (stp lf qu bi) st).length + l.length ∧ (l.foldl (stp lf qu bi) st).length ≤ st.length + l.length
  | [], st => by simp
  | r :: l, st => by
    have h1 := stp_len lf qu bi st r
    have h2 := fold_len l (stp lf qu bi st r)
    rw [List.foldl_cons, List.length_cons]; omega
theorem fold_ht {l : List (List Int32)} (F : Fm l) (d : β) (k : Nat) (hk : k ≤ l.length) : ((l.take k).foldl (stp lf qu bi) []).length ≤ l.length - k + 1 ∧ ((l.take k).foldl (stp lf qu bi) []).length ≤ k := by
  have e := cata_push lf qu bi d F []
  have e2 : l.foldl (stp lf qu bi) [] = (l.drop k).foldl (stp lf qu bi) ((l.take k).foldl (stp lf qu bi) []) := by
    rw [← List.foldl_append, List.take_append_drop]
  have h1 := (fold_len lf qu bi (l.drop k) ((l.take k).foldl (stp lf qu bi) [])).1
  have h2 := (fold_len lf qu bi (l.take k) []).2
  rw [← e2, e] at h1
  rw [List.length_drop] at h1
  rw [List.length_take] at h2
  simp at h1 h2
  omega
end ROWS
section NONE
variable {F : Type} (lf : List Int32 → Option F) (gq : List Int32 → F → Option F) (gb : List Int32 → F → F → Option F)
theorem none_stp (st : List (Option F)) (r : List Int32) (h : none ∈ st) : none ∈ stp lf (oQu gq) (oBi gb) st r := by
  unfold stp
  split
  · exact List.mem_cons_of_mem _ h
  · split
    · split
      · rename_i y x t
        rcases List.mem_cons.mp h with h | h
        · rw [← h]; unfold oBi
          have : (x.bind fun a => (none : Option F).bind fun b => gb r a b) = none := by cases x <;> rfl
          rw [this]; exact List.mem_cons_self
        · rcases List.mem_cons.mp h with h | h
          · rw [← h]; exact List.mem_cons_self
          · exact List.mem_cons_of_mem _ h
      · exact h
    · split
      · rename_i x t
        rcases List.mem_cons.mp h with h | h
        · rw [← h]; exact List.mem_cons_self
        · exact List.mem_cons_of_mem _ h
      · exact h
theorem none_fold : ∀ (l : List (List Int32)) (st : List (Option F)), none ∈ st → none ∈ l.foldl (stp lf (oQu gq) (oBi gb)) st
  | [], st, h => h
  | r :: l, st, h => none_fold l _ (none_stp lf gq gb st r h)
theorem fold_none {l : List (List Int32)} (Fl : Fm l) (d : Option F) (k : Nat) (h : none ∈ (l.take k).foldl (stp lf (oQu gq) (oBi gb)) []) : cata lf (oQu gq) (oBi gb) d l = none := by
  have e := cata_push lf (oQu gq) (oBi gb) d Fl []
  have e2 : l.foldl (stp lf (oQu gq) (oBi gb)) [] = (l.drop k).foldl (stp lf (oQu gq) (oBi gb)) ((l.take k).foldl (stp lf (oQu gq) (oBi gb)) []) := by
    rw [← List.foldl_append, List.take_append_drop]
  have h2 := none_fold lf gq gb (l.drop k) _ h
  rw [← e2, e] at h2
  exact (List.mem_singleton.mp h2).symm
end NONE
def Stk {β : Type} (lf : List Int32 → Option β) (gq : List Int32 → β → Option β) (gb : List Int32 → β → β → Option β) (l : List (List Int32)) (k : Nat) (it : List β) : Prop := (l.take k).foldl (stp lf (oQu gq) (oBi gb)) [] = (it.map some).reverse
section STK
variable {β : Type} {lf : List Int32 → Option β} {gq : List Int32 → β → Option β} {gb : List Int32 → β → β → Option β} {l : List (List Int32)} {k : Nat} {it : List β}
theorem Stk.zero : Stk lf gq gb l 0 [] := rfl
theorem Stk.ht (S : Stk lf gq gb l k it) (F : Fm l) (hk : k ≤ l.length) : it.length ≤ l.length - k + 1 ∧ it.length ≤ k := by
  have := fold_ht lf (oQu gq) (oBi gb) F none k hk
  rw [S] at this
  simpa using this
theorem Stk.last (S : Stk lf gq gb l l.length it) (F : Fm l) (d : Option β) : ∃ a, it = [a] ∧ cata lf (oQu gq) (oBi gb) d l = some a := by
  have e := cata_push lf (oQu gq) (oBi gb) d F []
  unfold Stk at S
  rw [List.take_length, e] at S
  have hl := congrArg List.length S
  simp at hl
  match it, hl with
  | [a], _ => simp at S; exact ⟨a, rfl, S⟩
theorem rev_two {it : List β} {x y : Option β} {t : List (Option β)} (h : (it.map some).reverse = y :: x :: t) : ∃ i0 a b, it = i0 ++ [a, b] ∧ x = some a ∧ y = some b ∧ t = (i0.map some).reverse := by
  have h2 := congrArg List.reverse h
  rw [List.reverse_reverse] at h2
  simp only [List.reverse_cons, List.append_assoc] at h2
  obtain ⟨l1, l2, e, h3, h4⟩ := List.map_eq_append_iff.mp h2
  match l2, h4 with
  | [a, b], h4 =>
    simp at h4
    exact ⟨l1, a, b, e, h4.1.symm, h4.2.symm, by rw [h3, List.reverse_reverse]⟩
theorem rev_one {it : List β} {x : Option β} {t : List (Option β)} (h : (it.map some).reverse = x :: t) : ∃ i0 a, it = i0 ++ [a] ∧ x = some a ∧ t = (i0.map some).reverse := by
  have h2 := congrArg List.reverse h
  rw [List.reverse_reverse] at h2
  simp only [List.reverse_cons] at h2
  obtain ⟨l1, l2, e, h3, h4⟩ := List.map_eq_append_iff.mp h2
  match l2, h4 with
  | [a], h4 =>
    simp at h4
    exact ⟨l1, a, e, h4.symm, by rw [h3, List.reverse_reverse]⟩
theorem Stk.leaf (S : Stk lf gq gb l k it) (hk : k < l.length) (hl : Leaf l[k]) {a : β} (h : lf l[k] = some a) : Stk lf gq gb l (k + 1) (it ++ [a]) := by
  unfold Stk at *
  rw [fold_take _ _ _ hk, S, stp_leaf _ _ _ hl, h]; simp
theorem Stk.leaf_none (S : Stk lf gq gb l k it) (F : Fm l) (hk : k < l.length) (hl : Leaf l[k]) (h : lf l[k] = none) (d : Option β) : cata lf (oQu gq) (oBi gb) d l = none := by
  apply fold_none lf gq gb F d (k + 1)
  rw [fold_take _ _ _ hk, stp_leaf _ _ _ hl, h]; exact List.mem_cons_self
theorem Stk.bi {i0 : List β} {a b : β} {kk : Int32} (S : Stk lf gq gb l k (i0 ++ [a, b])) (hk : k < l.length) (he : l[k] = row0 kk) (hkk : kk = 6 ∨ kk = 7) : (l.take (k + 1)).foldl (stp lf (oQu gq) (oBi gb)) [] = gb (row0 kk) a b :: (i0.map some).reverse := by
  unfold Stk at S
  rw [fold_take _ _ _ hk, S, he]
  have : ((i0 ++ [a, b]).map some).reverse = some b :: some a :: (i0.map some).reverse := by simp
  rw [this, stp_bi _ _ _ hkk]; rfl
theorem Stk.qu {i0 : List β} {a : β} {kk : Int32} {v : Nat} (S : Stk lf gq gb l k (i0 ++ [a])) (hk : k < l.length) (he : l[k] = rowq kk v) (hkk : kk = 8 ∨ kk = 9) : (l.take (k + 1)).foldl (stp lf (oQu gq) (oBi gb)) [] = gq (rowq kk v) a :: (i0.map some).reverse := by
  unfold Stk at S
  rw [fold_take _ _ _ hk, S, he]
  have : ((i0 ++ [a]).map some).reverse = some a :: (i0.map some).reverse := by simp
  rw [this, stp_qu _ _ _ hkk]; rfl
end STK
def subLeaf (v : Nat) (pt : Option (List Int32)) (r : List Int32) : Option (List (List Int32)) :=
  if r.getD (1 + v) 0 = 0 then some [r] else match pt with
    | none => some (if kd r = 3 ∨ (4 ≤ kd r ∧ ¬ (r.getD (1 + v) 0 ≤ 0)) then fT else fF)
    | some q => (rep v q r).map (fun x => [x])
def gNo (_ : List Int32) (_ : List (List Int32)) : Option (List (List Int32)) := none
def gMk (r : List Int32) (a b : List (List Int32)) : Option (List (List Int32)) := some (mk (kd r) a b)
def subst (v : Nat) (pt : Option (List Int32)) (l : List (List Int32)) : Option (List (List Int32)) := cata (subLeaf v pt) (oQu gNo) (oBi gMk) none l
def Qf (l : List (List Int32)) : Prop := ∀ r ∈ l, kd r < 8
theorem mk_len (k : Int32) (a b : List (List Int32)) : (mk k a b).length ≤ a.length + b.length + 1 := by
  unfold mk; split
  · omega
  · split
    · omega
    · simp; omega
def PtAt (ps : Nat → Int32) (p : Nat) (pt : Option (List Int32)) : Prop := match pt with
  | none => p = 0
  | some q => p ≠ 0 ∧ p ≤ 400 ∧ PtB q ∧ ∀ j, j < 11 → ps (11 * p + j) = q.getD j 0
theorem flat2 (s : List (List (List Int32))) (a b : List (List Int32)) : (s ++ [a, b]).flatten.length = s.flatten.length + a.length + b.length := by simp; omega
theorem flat1 (s : List (List (List Int32))) (a : List (List Int32)) : (s ++ [a]).flatten.length = s.flatten.length + a.length := by simp
theorem leaf_atm {r : List Int32} (h : Leaf r) {v : Nat} (hv : v < 8) (hz : r.getD (1 + v) 0 ≠ 0) : Atm r := by
  rcases h with rfl | rfl | h
  · exact absurd (by rw [row0_get _ _ (by omega), if_neg (by omega)]) hz
  · exact absurd (by rw [row0_get _ _ (by omega), if_neg (by omega)]) hz
  · exact h
section PUT
variable {n : Nat} {st0 : List (List (List Int32))} {r1 : Int32} {c1 : Nat → Int32} {n1 : Nat} {l : List (List Int32)}
theorem u_loop (N : Nat) (hN : 110000 ≤ N) (T : Tr r1 c1 n1 l) (F : Fm l) (qf : Qf l) (h400 : l.length ≤ 400) (v p : Nat) (hv : v < 8) {ps : Nat → Int32} {pt : Option (List Int32)} (hpt : PtAt ps p pt) (hcap : 10 * (st0.flatten.length + l.length) ≤ n) (hn : n ≤ 100000) (hst : st0.length ≤ 200) : ∀ (d m k : Nat) (it : List (List (List Int32))) (pa ro : Int32) (ce sa lo : Nat → Int32) (nu : Nat → Int64), k + d = l.length → Be pa ro ce n sa lo (st0 ++ it) → Stk (subLeaf v pt) gNo gMk l k it → it.flatten.length ≤ k → ∃ an pa' ro' ce' sa' lo' nu', f_X1_putIn_2 N (m + d + 1) pa ro ce n sa lo r1 c1 n1 nu ps (Int32.ofNat v) (Int32.ofNat p) (Int32.ofNat k) = some (an, pa', ro', ce', sa', lo', nu') ∧ ((an = 1 ∧ ∃ f, subst v pt l = some f ∧ f.length ≤ l.length ∧ Be pa' ro' ce' n sa' lo' (st0 ++ [f])) ∨ (an = 0 ∧ subst v pt l = none ∧ ∃ st', Be pa' ro' ce' n sa' lo' st'))
  | 0, m, k, it, pa, ro, ce, sa, lo, nu, hk, B, S, hl => by
    have hkl : k = l.length := by omega
    subst hkl
    rw [f_X1_putIn_2]; dsimp only
    rw [ifb_t (by rw [T.1, i_le _ _ (by omega) (by omega)]; omega)]
    obtain ⟨a, rfl, e⟩ := S.last F none
    refine ⟨1, pa, ro, ce, sa, lo, nu, rfl, Or.inl ⟨rfl, a, e, ?_, B⟩⟩
    simpa using hl
  | d + 1, m, k, it, pa, ro, ce, sa, lo, nu, hk, B, S, hl => by
    have hkl : k < l.length := by omega
    have hht := S.ht F (by omega)
    rw [show m + (d + 1) + 1 = (m + d + 1) + 1 from by omega, f_X1_putIn_2]; dsimp only
    rw [ifb_f (by rw [T.1, i_le _ _ (by omega) (by omega)]; omega), bd (t_kind T N k hkl), bd (t_number T N k v hkl (by omega)), lc_getD _ hkl, lc_getD _ hkl]
    have hkd : (l[k]).getD 0 0 = kd l[k] := rfl
    rw [hkd]
    have hfl : (st0 ++ it).flatten.length = st0.flatten.length + it.flatten.length := by simp
    have next : ∀ (f : List (List Int32)) (pa ro : Int32) (ce sa lo : Nat → Int32) (nu : Nat → Int64), Be pa ro ce n sa lo (st0 ++ it ++ [f]) → Leaf l[k] → subLeaf v pt l[k] = some f → f.length = 1 → ∃ an pa' ro' ce' sa' lo' nu', f_X1_putIn_125 (f_X1_putIn_2 N (m + d + 1)) N pa ro ce n sa lo r1 c1 n1 nu ps (Int32.ofNat v) (Int32.ofNat p) (Int32.ofNat k) = some (an, pa', ro', ce', sa', lo', nu') ∧ ((an = 1 ∧ ∃ f, subst v pt l = some f ∧ f.length ≤ l.length ∧ Be pa' ro' ce' n sa' lo' (st0 ++ [f])) ∨ (an = 0 ∧ subst v pt l = none ∧ ∃ st', Be pa' ro' ce' n sa' lo' st')) := by
      intro f pa ro ce sa lo nu B1 hlf he hf1
      unfold f_X1_putIn_125
      rw [i_p1]
      exact u_loop N hN T F qf h400 v p hv hpt hcap hn hst d m (k + 1) (it ++ [f]) pa ro ce sa lo nu (by omega) (by rw [← List.append_assoc]; exact B1) (S.leaf hkl hlf he) (by rw [flat1]; omega)
    rcases at_row (subLeaf v pt) (oQu gNo) (oBi gMk) F hkl with hlf | ⟨kk, w, x, t, he, hkk, _, _⟩ | ⟨kk, x, y, t, he, hkk, hs⟩
    · rw [ifb_t hlf.kd]
      have hB : (st0 ++ it).length < 402 := by rw [List.length_append]; omega
      have hR : 10 * (st0 ++ it).flatten.length + 10 ≤ n := by rw [hfl]; omega
      by_cases hz : (l[k]).getD (1 + v) 0 = 0
      · rw [ifb_t hz]
        obtain ⟨pa', ro', ce', sa', lo', e, B1⟩ := b_pushRow B T N (by omega) hB hR k hkl hlf
        rw [bd e]
        exact next [l[k]] _ _ _ _ _ _ B1 hlf (by unfold subLeaf; rw [if_pos hz]) rfl
      · rw [ifb_f hz]
        have hA := leaf_atm hlf hv hz
        cases pt with
        | none =>
          have hp0 : p = 0 := hpt
          rw [ifb_t (by rw [hp0]; rfl)]
          unfold f_X1_putIn_98 f_X1_putIn_102 f_X1_putIn_103
          have hsub : subLeaf v none l[k] = some (if kd l[k] = 3 ∨ (4 ≤ kd l[k] ∧ ¬ ((l[k]).getD (1 + v) 0 ≤ 0)) then fT else fF) := by unfold subLeaf; rw [if_neg hz]
          obtain ⟨paT, roT, ceT, saT, loT, eT, BT⟩ := b_push B N (by omega) hB hR 0 (Or.inl rfl)
          obtain ⟨paF, roF, ceF, saF, loF, eF, BF⟩ := b_push B N (by omega) hB hR 1 (Or.inr rfl)
          by_cases h3 : kd l[k] = 3
          · rw [ifb_t h3, bd eT]
            exact next fT _ _ _ _ _ _ BT hlf (by rw [hsub, if_pos (Or.inl h3)]) rfl
          · rw [ifb_f h3]
            by_cases h4 : kd l[k] < 4
            · rw [ifb_t h4, bd eF]
              exact next fF _ _ _ _ _ _ BF hlf (by rw [hsub, if_neg (fun g => g.elim h3 (fun q => absurd h4 ((i_not_lt _ _).mpr q.1)))]) rfl
            · rw [ifb_f h4]
              by_cases h5 : (l[k]).getD (1 + v) 0 ≤ 0
              · rw [ifb_t h5, bd eF]
                exact next fF _ _ _ _ _ _ BF hlf (by rw [hsub, if_neg (fun g => g.elim h3 (fun q => q.2 h5))]) rfl
              · rw [ifb_f h5, bd eT]
                exact next fT _ _ _ _ _ _ BT hlf (by rw [hsub, if_pos (Or.inr ⟨(i_not_lt _ _).mp h4, h5⟩)]) rfl
        | some q =>
          obtain ⟨hp0, hp4, hQ, hps⟩ := hpt
          rw [ifb_f (by rw [show (0 : Int32) = Int32.ofNat 0 from rfl, i_eq _ _ (by omega) (by omega)]; exact hp0)]
          have hsub : subLeaf v (some q) l[k] = (rep v q l[k]).map (fun x => [x]) := by unfold subLeaf; rw [if_neg hz]
          obtain ⟨nu', hcase⟩ := r_replace B T N (by omega) hB hR k v p hkl hv hA hQ hps hp4 nu
          rcases hcase with ⟨h1, h2⟩ | ⟨r', pa', ro', ce', sa', lo', h1, h2, B1⟩
          · rw [bd h2, ifb_t rfl]
            refine ⟨0, pa, ro, ce, sa, lo, nu', rfl, Or.inr ⟨rfl, ?_, _, B⟩⟩
            exact S.leaf_none F hkl hlf (by rw [hsub, h1]; rfl) none
          · rw [bd h2, ifb_f (show ¬ ((1 : Int32) = 0) by decide)]
            exact next [r'] _ _ _ _ _ _ B1 hlf (by rw [hsub, h1]; rfl) rfl
    · have := qf l[k] (List.getElem_mem hkl)
      rw [he] at this
      exact absurd (show kk < 8 from this) (by rcases hkk with rfl | rfl <;> decide)
    · have S' := S
      unfold Stk at S'
      rw [hs] at S'
      obtain ⟨i0, a, b, rfl, _, _, _⟩ := rev_two S'.symm
      have hkk' : kd l[k] = kk := by rw [he]; rfl
      rw [hkk', ifb_f (by rcases hkk with rfl | rfl <;> decide)]
      have ea : st0 ++ (i0 ++ [a, b]) = (st0 ++ i0) ++ [a, b] := by simp
      rw [ea] at B
      rw [flat2] at hl
      have hf0 : (st0 ++ i0).flatten.length = st0.flatten.length + i0.flatten.length := by simp
      obtain ⟨pa', ro', ce', lo', e, B1⟩ := b_join B N (by rw [hf0]; omega) hkk (by rw [hf0]; omega)
      rw [bd e]
      unfold f_X1_putIn_125
      rw [i_p1]
      have hS2 : Stk (subLeaf v pt) gNo gMk l (k + 1) (i0 ++ [mk kk a b]) := by
        unfold Stk
        rw [S.bi hkl he hkk]
        simp [gMk, kd, row0]
      have hml := mk_len kk a b
      exact u_loop N hN T F qf h400 v p hv hpt hcap hn hst d m (k + 1) (i0 ++ [mk kk a b]) _ _ _ _ _ _ (by omega) (by rw [← List.append_assoc]; exact B1) hS2 (by rw [flat1]; omega)
theorem u_putIn (N : Nat) (hN : 110000 ≤ N) (T : Tr r1 c1 n1 l) (F : Fm l) (qf : Qf l) (h400 : l.length ≤ 400) (v p : Nat) (hv : v < 8) {ps : Nat → Int32} {pt : Option (List Int32)} (hpt : PtAt ps p pt) (hcap : 10 * (st0.flatten.length + l.length) ≤ n) (hst : st0.length ≤ 200) (pa ro : Int32) (ce sa lo : Nat → Int32) (nu : Nat → Int64) (B : Be pa ro ce n sa lo st0) : ∃ an pa' ro' ce' sa' lo' nu', f_X1_putIn N pa ro ce n sa lo r1 c1 n1 nu ps (Int32.ofNat v) (Int32.ofNat p) = some (an, pa', ro', ce', sa', lo', nu') ∧ ((an = 1 ∧ ∃ f, subst v pt l = some f ∧ f.length ≤ l.length ∧ Be pa' ro' ce' n sa' lo' (st0 ++ [f])) ∨ (an = 0 ∧ subst v pt l = none ∧ ∃ st', Be pa' ro' ce' n sa' lo' st')) := by
  have := u_loop N hN T F qf h400 v p hv hpt hcap B.2.2.1.2.2.1 hst l.length (N - l.length - 1) 0 [] pa ro ce sa lo nu (by omega) (by simpa using B) Stk.zero (by simp)
  rw [show N - l.length - 1 + l.length + 1 = N from by omega] at this
  exact this
end PUT
