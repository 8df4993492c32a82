section RLX
variable {t : Nat → Int32} {sz : Nat}
theorem o_peek (N p : Nat) (hsz : sz ≤ 240) (hp : p ≤ 1000) : f_X7_peek N (Int32.ofNat sz) (Int32.ofNat p) t = some (pk t sz p) := by
  unfold f_X7_peek f_X7_peek_28
  by_cases h : sz ≤ p
  · rw [ifb_t (by rw [i_le _ _ (by omega) (by omega)]; exact h), pk_out h]
  · rw [ifb_f (by rw [i_le _ _ (by omega) (by omega)]; exact h), ix_n _ _ _ (by omega) (by omega), i_cl _ (by omega)]
    unfold pk; rw [if_pos (by omega)]
theorem o_blanks0 (N : Nat) (hsz : sz ≤ 240) : ∀ (d m p : Nat), sz - p ≤ d → p ≤ 600 → f_X7_blanks_0 N (m + d + 1) (Int32.ofNat sz) (Int32.ofNat p) t = some (Int32.ofNat (bls t sz p))
  | 0, m, p, hd, hp => by
    rw [bls_out (by omega), f_X7_blanks_0]; dsimp only
    rw [bd (o_peek N p hsz (by omega)), ifb_f (by rw [pk_out (by omega)]; decide)]
  | d + 1, m, p, hd, hp => by
    rw [show m + (d + 1) + 1 = (m + d + 1) + 1 from by omega, f_X7_blanks_0]; dsimp only
    rw [bd (o_peek N p hsz (by omega))]
    by_cases c2 : pk t sz p = 32
    · have := pkk_in c2 (by decide)
      rw [ifb_t c2, i_p1, bls_step c2]
      exact o_blanks0 N hsz d m (p + 1) (by omega) (by omega)
    · rw [ifb_f c2, bls_id c2]
theorem o_blanks (N : Nat) (hN : 1000 ≤ N) (hsz : sz ≤ 240) {p : Nat} (hp : p ≤ 500) : f_X7_blanks N (Int32.ofNat sz) (Int32.ofNat p) t = some (Int32.ofNat (bls t sz p)) := by
  unfold f_X7_blanks
  rw [bd (o_peek N p hsz (by omega))]
  by_cases c2 : pk t sz p = 32
  · rw [ifb_t c2, i_p1, bls_step c2]
    have := o_blanks0 (t := t) N hsz 240 (N - 241) (p + 1) (by omega) (by omega)
    rw [show N - 241 + 240 + 1 = N from by omega] at this
    exact this
  · rw [ifb_f c2, bls_id c2]
theorem o_isV (N : Nat) (c : Int32) : f_X7_isVariable N c = some (if isV c then 1 else 0) := by
  unfold f_X7_isVariable f_X7_isVariable_16 f_X7_isVariable_17
  by_cases h1 : c < 97
  · rw [ifb_t h1, ckp_t (Or.inl rfl), if_neg (fun g => by have := g.1; rw [Int32.lt_iff_toInt_lt] at h1; rw [Int32.le_iff_toInt_le] at this; omega)]
  · rw [ifb_f h1]
    by_cases h2 : 104 < c
    · rw [ifb_t h2, ckp_t (Or.inl rfl), if_neg (fun g => by have := g.2; rw [Int32.lt_iff_toInt_lt] at h2; rw [Int32.le_iff_toInt_le] at this; omega)]
    · rw [ifb_f h2, ckp_t (Or.inr rfl), if_pos]
      rw [Int32.lt_iff_toInt_lt] at h1 h2
      exact ⟨by rw [Int32.le_iff_toInt_le]; omega, by rw [Int32.le_iff_toInt_le]; omega⟩
theorem o_isD (N : Nat) (c : Int32) : f_X7_isDigit N c = some (if isD c then 1 else 0) := by
  unfold f_X7_isDigit f_X7_isDigit_16 f_X7_isDigit_17
  by_cases h1 : c < 48
  · rw [ifb_t h1, ckp_t (Or.inl rfl), if_neg (fun g => by have := g.1; rw [Int32.lt_iff_toInt_lt] at h1; rw [Int32.le_iff_toInt_le] at this; omega)]
  · rw [ifb_f h1]
    by_cases h2 : 57 < c
    · rw [ifb_t h2, ckp_t (Or.inl rfl), if_neg (fun g => by have := g.2; rw [Int32.lt_iff_toInt_lt] at h2; rw [Int32.le_iff_toInt_le] at this; omega)]
    · rw [ifb_f h2, ckp_t (Or.inr rfl), if_pos]
      rw [Int32.lt_iff_toInt_lt] at h1 h2
      exact ⟨by rw [Int32.le_iff_toInt_le]; omega, by rw [Int32.le_iff_toInt_le]; omega⟩
theorem o_fail (N : Nat) (a fa : Int32) : f_X7_fail N a fa 0 = some (0, a, 1) := by
  unfold f_X7_fail f_X7_fail_15; rw [ifb_t rfl]
def OSd (o : Option (Int32 × Int32 × Int32 × (Nat → Int64))) (fa : Int32) (sz : Nat) (r : Except Nat (Nat × (Nat → Int))) : Prop := match r with
  | .ok (p', c') => ∃ nu', o = some (Int32.ofNat p', fa, 0, nu') ∧ SmP nu' c' p'
  | .error e => ∃ a' nu', o = some (Int32.ofNat a', Int32.ofNat e, 1, nu') ∧ a' ≤ sz
theorem d64 {c : Int32} (h : isD c) : c.toInt = 48 + dvl c ∧ (c - 48).toInt64.toInt = dvl c := by
  obtain ⟨d, hd, rfl⟩ := isD_n h
  rw [dvl_n d hd, i_toInt _ (by omega), show (48 : Int32) = Int32.ofNat 48 from rfl, i_sub _ _ (by omega), Int32.toInt_toInt64, i_toInt _ (by omega)]
  exact ⟨by omega, by omega⟩
theorem L_divc {y : Int64} {b : Nat} (hy : y.toInt = b) (h1 : 1 ≤ b) (h2 : b ≤ 12) : ((27720 : Int64) / y).toInt = (27720 / b : Nat) := by
  have : y = Int64.ofInt b := by
    apply Int64.toInt_inj.mp
    rw [hy, Int64.toInt_ofInt_of_le (by omega) (by omega)]
  subst this
  have : b = 1 ∨ b = 2 ∨ b = 3 ∨ b = 4 ∨ b = 5 ∨ b = 6 ∨ b = 7 ∨ b = 8 ∨ b = 9 ∨ b = 10 ∨ b = 11 ∨ b = 12 := by omega
  rcases this with h | h | h | h | h | h | h | h | h | h | h | h <;> subst h <;> decide
theorem o_tail (N : Nat) (hN : 1000 ≤ N) (hsz : sz ≤ 240) {q p v b : Nat} (hq : q < p) (hp : p ≤ sz) (fa : Int32) {x1 y4 y7 : Int64} {f : Int} (hx : x1.toInt = f) (hf : f = 1 ∨ f = -1) (h4 : y4.toInt = v) (hv : v ≤ 9999) (h7 : y7.toInt = b) (hb1 : 1 ≤ b) (hb2 : b ≤ 12) {nu : Nat → Int64} {c : Nat → Int} (S : SmP nu c q) : OSd (f_X7_item_241 N (Int32.ofNat sz) (Int32.ofNat p) fa 0 t nu x1 y4 y7) fa sz (sTail t sz f v b p c) := by
  have hbl := bls_le (t := t) (sz := sz) p hp
  have hbd := num_bd hf hv hb1
  have h1 : 27720 / b ≤ 27720 := Nat.div_le_self _ _
  have e1 := L_mul y4 (27720 / y7) v (27720 / b : Nat) h4 (L_divc h7 hb1 hb2) (by have := Nat.mul_le_mul hv h1; rw [← Int.natCast_mul]; omega) (by have := Nat.mul_le_mul hv h1; rw [← Int.natCast_mul]; omega)
  have eq : (v : Int) * (27720 / b : Nat) * f = f * v * (27720 / b : Nat) := by rw [Int.mul_comm, Int.mul_assoc]
  have hval : ((y4 * (27720 / y7)) * x1).toInt = f * v * (27720 / b : Nat) := by
    rw [← eq]
    exact L_mul _ _ _ _ e1 hx (by rw [eq]; omega) (by rw [eq]; omega)
  unfold f_X7_item_241 f_X7_item_327 sTail
  rw [bd (o_peek N p hsz (by omega)), bd (o_isD N _)]
  by_cases d1 : isD (pk t sz p)
  · rw [if_pos d1, if_pos d1, ifb_f (by decide), bd (o_fail N _ _)]
    exact ⟨p, _, rfl, hp⟩
  · have hy0 : ¬ (y7 = 0) := fun g => by rw [g] at h7; rw [show (0 : Int64).toInt = 0 from rfl] at h7; omega
    rw [if_neg d1, if_neg d1, ifb_t rfl, ckp_t hy0, bd (o_blanks N hN hsz (by omega)), bd (o_peek N _ hsz (by omega)), bd (o_isV N _)]
    by_cases d2 : isV (pk t sz (bls t sz p))
    · obtain ⟨e3, e4⟩ := var_val d2
      have := V_in d2
      rw [if_pos d2, if_pos d2, ifb_f (by decide), bd (o_peek N _ hsz (by omega)), e3, ix_n _ _ _ (by omega) (by omega), ix_n _ _ _ (by omega) (by omega), i_cl _ (by omega), i_p1]
      exact ⟨_, rfl, sum_add S (by omega) (by omega) hval hbd.1 hbd.2⟩
    · rw [if_neg d2, if_neg d2, ifb_t rfl, show ix (8 : Int32) 9 = ix (Int32.ofNat 8) 9 from rfl, ix_n _ _ _ (by omega) (by omega), ix_n _ _ _ (by omega) (by omega)]
      exact ⟨_, rfl, sum_add S (by omega) (by omega) hval hbd.1 hbd.2⟩
theorem o_und (N : Nat) (hN : 1000 ≤ N) (hsz : sz ≤ 240) {q p v : Nat} (hq : q < p) (hp : p ≤ sz) (fa : Int32) {x1 y4 : Int64} {f : Int} (hx : x1.toInt = f) (hf : f = 1 ∨ f = -1) (h4 : y4.toInt = v) (hv : v ≤ 9999) {nu : Nat → Int64} {c : Nat → Int} (S : SmP nu c q) : OSd (f_X7_item_114 N (Int32.ofNat sz) (Int32.ofNat p) fa 0 t nu x1 y4) fa sz (match sUnd t sz p with
    | .error e => .error e
    | .ok (b, p3) => sTail t sz f v b p3 c) := by
  have hu := sUnd_ok (t := t) hp
  unfold f_X7_item_114 f_X7_item_155 f_X7_item_216 sUnd
  rw [bd (o_peek N p hsz (by omega))]
  by_cases c47 : pk t sz p = 47
  · have hlt := pkk_in c47 (by decide)
    rw [ifb_t c47, if_pos c47, i_p1, bd (o_peek N _ hsz (by omega)), bd (o_isD N _)]
    by_cases c1 : isD (pk t sz (p + 1))
    · obtain ⟨e1, e2⟩ := d64 c1
      have hlt2 := D_in c1
      rw [if_pos c1, ifb_f (by decide), bd (o_peek N _ hsz (by omega))]
      by_cases c48 : pk t sz (p + 1) = 48
      · rw [ifb_t c48, if_neg (fun g => g.2 c48), bd (o_fail N _ _)]
        exact ⟨p + 1, _, rfl, by omega⟩
      · obtain ⟨_, hd9⟩ := dig_val c1
        have hd1 : 1 ≤ dvl (pk t sz (p + 1)) := by
          obtain ⟨d, hd, ed⟩ := isD_n c1
          rw [ed, dvl_n d hd]
          have : d ≠ 0 := fun e0 => c48 (by rw [ed, e0]; rfl)
          omega
        have h49 : pk t sz (p + 1) = 49 ↔ dvl (pk t sz (p + 1)) = 1 := by
          obtain ⟨d, hd, ed⟩ := isD_n c1
          rw [ed, dvl_n d hd, show (49 : Int32) = Int32.ofNat 49 from rfl, i_eq _ _ (by omega) (by omega)]; omega
        rw [ifb_f c48, if_pos ⟨c1, c48⟩, bd (o_peek N _ hsz (by omega)), i_p1]
        have hcmp : lg_cmp ((pk t sz (p + 1) - 48).toInt64) 1 = 0 ↔ dvl (pk t sz (p + 1)) = 1 := by
          unfold lg_cmp
          constructor
          · intro g
            by_cases g1 : (pk t sz (p + 1) - 48).toInt64 > 1
            · rw [if_pos g1] at g; exact absurd g (by decide)
            · rw [if_neg g1] at g
              by_cases g2 : (pk t sz (p + 1) - 48).toInt64 = 1
              · rw [g2, show (1 : Int64).toInt = 1 from rfl] at e2; omega
              · rw [if_neg g2] at g; exact absurd g (by decide)
          · intro g
            have : (pk t sz (p + 1) - 48).toInt64 = 1 := by
              apply Int64.toInt_inj.mp; rw [e2, g]; rfl
            rw [this]; rfl
        have single : OSd (f_X7_item_241 N (Int32.ofNat sz) (Int32.ofNat (p + 1 + 1)) fa 0 t nu x1 y4 ((pk t sz (p + 1) - 48).toInt64)) fa sz (sTail t sz f v (dvl (pk t sz (p + 1))) (p + 2) c) := o_tail N hN hsz (show q < p + 2 by omega) (by omega) fa hx hf h4 hv e2 hd1 (by omega) S
        by_cases c49 : dvl (pk t sz (p + 1)) = 1
        · rw [ifb_t (hcmp.mpr c49), bd (o_peek N _ hsz (by omega))]
          have two : ∀ (hD : isD (pk t sz (p + 1 + 1))), dvl (pk t sz (p + 1 + 1)) ≤ 2 → OSd ((f_X7_peek N (Int32.ofNat sz) (Int32.ofNat (p + 1 + 1)) t).bind (fun z220 => f_X7_item_241 N (Int32.ofNat sz) (Int32.ofNat (p + 1 + 1) + 1) fa 0 t nu x1 y4 ((10 + z220.toInt64) - 48))) fa sz (sTail t sz f v (10 + dvl (pk t sz (p + 2))) (p + 3) c) := by
            intro hD h2
            obtain ⟨e3, e4⟩ := d64 hD
            have hlt3 := D_in hD
            rw [bd (o_peek N _ hsz (by omega)), i_p1]
            refine o_tail N hN hsz (show q < p + 3 by omega) (by omega) fa hx hf h4 hv ?_ (by omega) (by show 10 + dvl (pk t sz (p + 1 + 1)) ≤ 12; omega) S
            have a1 := L_add 10 (pk t sz (p + 1 + 1)).toInt64 10 (48 + dvl (pk t sz (p + 1 + 1)) : Nat) rfl (by rw [Int32.toInt_toInt64, e3]; push_cast; rfl) (by omega) (by omega)
            rw [L_sub _ _ _ _ a1 (show (48 : Int64).toInt = 48 from rfl) (by omega) (by omega)]
            show _ = ((10 + dvl (pk t sz (p + 1 + 1)) : Nat) : Int)
            push_cast; omega
          have h50 : (48 ≤ pk t sz (p + 2) ∧ pk t sz (p + 2) ≤ 50) ↔ (pk t sz (p + 1 + 1) = 48 ∨ pk t sz (p + 1 + 1) = 49 ∨ pk t sz (p + 1 + 1) = 50) := by
            show (48 ≤ pk t sz (p + 1 + 1) ∧ pk t sz (p + 1 + 1) ≤ 50) ↔ _
            generalize pk t sz (p + 1 + 1) = z
            constructor
            · rintro ⟨g1, g2⟩
              rw [Int32.le_iff_toInt_le] at g1 g2
              rw [show (48 : Int32).toInt = 48 from rfl] at g1
              rw [show (50 : Int32).toInt = 50 from rfl] at g2
              have : z.toInt = 48 ∨ z.toInt = 49 ∨ z.toInt = 50 := by omega
              rcases this with g | g | g
              · exact Or.inl (Int32.toInt_inj.mp g)
              · exact Or.inr (Or.inl (Int32.toInt_inj.mp g))
              · exact Or.inr (Or.inr (Int32.toInt_inj.mp g))
            · rintro (g | g | g) <;> rw [g] <;> decide
          have pos : ∀ z : Int32, pk t sz (p + 1 + 1) = z → (z = 48 ∨ z = 49 ∨ z = 50) → isD (pk t sz (p + 1 + 1)) ∧ dvl (pk t sz (p + 1 + 1)) ≤ 2 := by
            intro z hz h
            rw [hz]
            rcases h with rfl | rfl | rfl <;> decide
          by_cases d48 : pk t sz (p + 1 + 1) = 48
          · obtain ⟨q1, q2⟩ := pos _ d48 (Or.inl rfl)
            rw [ifb_t d48, if_pos ⟨h49.mpr c49, h50.mpr (Or.inl d48)⟩]
            exact two q1 q2
          · rw [ifb_f d48, bd (o_peek N _ hsz (by omega))]
            by_cases d49 : pk t sz (p + 1 + 1) = 49
            · obtain ⟨q1, q2⟩ := pos _ d49 (Or.inr (Or.inl rfl))
              rw [ifb_t d49, if_pos ⟨h49.mpr c49, h50.mpr (Or.inr (Or.inl d49))⟩]
              exact two q1 q2
            · rw [ifb_f d49, bd (o_peek N _ hsz (by omega))]
              by_cases d50 : pk t sz (p + 1 + 1) = 50
              · obtain ⟨q1, q2⟩ := pos _ d50 (Or.inr (Or.inr rfl))
                rw [ifb_t d50, if_pos ⟨h49.mpr c49, h50.mpr (Or.inr (Or.inr d50))⟩]
                exact two q1 q2
              · rw [ifb_f d50, if_neg (fun g => by rcases h50.mp g.2 with k | k | k; exact d48 k; exact d49 k; exact d50 k)]
                exact single
        · rw [ifb_f (fun g => c49 (hcmp.mp g)), if_neg (fun g => c49 (h49.mp g.1))]
          exact single
    · rw [if_neg c1, ifb_t rfl, if_neg (fun g => c1 g.1), bd (o_fail N _ _)]
      exact ⟨p + 1, _, rfl, by omega⟩
  · rw [ifb_f c47, if_neg c47]
    exact o_tail N hN hsz hq hp fa hx hf h4 hv (show (1 : Int64).toInt = (1 : Nat) from rfl) (by omega) (by omega) S
end RLX
section RIT
variable {t : Nat → Int32} {sz : Nat}
theorem o_dig (N : Nat) (hsz : sz ≤ 240) (fa : Int32) (nu : Nat → Int64) (x1 : Int64) : ∀ (d m p k v : Nat) (y4 : Int64), k + d = 4 → p ≤ sz → y4.toInt = v → v < 10 ^ k → ∃ y4' : Int64, y4'.toInt = (dg4 t sz d p v).1 ∧ f_X7_item_64 N (m + d + 1) (Int32.ofNat sz) (Int32.ofNat p) fa 0 t nu x1 y4 (Int32.ofNat k) = f_X7_item_114 N (Int32.ofNat sz) (Int32.ofNat (dg4 t sz d p v).2) fa 0 t nu x1 y4'
  | 0, m, p, k, v, y4, hk, hp, h4, hv => by
    have : k = 4 := by omega
    subst this
    refine ⟨y4, h4, ?_⟩
    rw [f_X7_item_64]; dsimp only
    rw [bd (o_peek N p hsz (by omega)), bd (o_isD N _)]
    by_cases c : isD (pk t sz p)
    · rw [if_pos c, ifb_f (by decide), ifb_t (by decide)]; rfl
    · rw [if_neg c, ifb_t rfl]; rfl
  | d + 1, m, p, k, v, y4, hk, hp, h4, hv => by
    rw [show m + (d + 1) + 1 = (m + d + 1) + 1 from by omega, f_X7_item_64]; dsimp only
    rw [bd (o_peek N p hsz (by omega)), bd (o_isD N _), show dg4 t sz (d + 1) p v = if isD (pk t sz p) then dg4 t sz d (p + 1) (10 * v + dvl (pk t sz p)) else (v, p) from rfl]
    by_cases c : isD (pk t sz p)
    · obtain ⟨e1, e2⟩ := d64 c
      obtain ⟨_, e3⟩ := dig_val c
      have hlt := D_in c
      rw [if_pos c, if_pos c, ifb_f (by decide), ifb_f (by rw [show (4 : Int32) = Int32.ofNat 4 from rfl, i_le _ _ (by omega) (by omega)]; omega), bd (o_peek N p hsz (by omega)), i_p1, i_p1]
      have hv4 : v < 1000 := by
        have : 10 ^ k ≤ 10 ^ 3 := Nat.pow_le_pow_right (by omega) (by omega)
        omega
      have a1 := L_mul 10 y4 10 v rfl h4 (by omega) (by omega)
      have a2 := L_add (10 * y4) (pk t sz p).toInt64 (10 * v) (48 + dvl (pk t sz p) : Int) a1 (by rw [Int32.toInt_toInt64, e1]) (by omega) (by omega)
      have a3 := L_sub (10 * y4 + (pk t sz p).toInt64) 48 _ _ a2 (show (48 : Int64).toInt = 48 from rfl) (by omega) (by omega)
      refine o_dig N hsz fa nu x1 d m (p + 1) (k + 1) (10 * v + dvl (pk t sz p)) _ (by omega) (by omega) (by rw [a3]; push_cast; omega) ?_
      rw [Nat.pow_succ]; omega
    · rw [if_neg c, if_neg c, ifb_t rfl]
      exact ⟨y4, h4, rfl⟩
theorem o_item (N : Nat) (hN : 1000 ≤ N) (hsz : sz ≤ 240) {p : Nat} (hp : p ≤ sz) (fa : Int32) {x1 : Int64} {f : Int} (hx : x1.toInt = f) (hf : f = 1 ∨ f = -1) {nu : Nat → Int64} {c : Nat → Int} (S : SmP nu c p) : OSd (f_X7_item N (Int32.ofNat sz) (Int32.ofNat p) fa 0 t nu x1) fa sz (sItem t sz f p c) := by
  have hbl := bls_le (t := t) (sz := sz) p hp
  unfold f_X7_item sItem
  rw [bd (o_blanks N hN hsz (by omega)), bd (o_peek N _ hsz (by omega)), bd (o_isV N _)]
  by_cases c1 : isV (pk t sz (bls t sz p))
  · obtain ⟨e1, e2⟩ := var_val c1
    have := V_in c1
    rw [if_pos c1, if_pos c1, ifb_f (by decide), e1, ix_n _ _ _ (by omega) (by omega), ix_n _ _ _ (by omega) (by omega), i_cl _ (by omega), i_p1]
    refine ⟨_, rfl, sum_add S (by omega) (by omega) ?_ ?_ ?_⟩
    · have := L_mul 27720 x1 27720 f rfl hx (by rcases hf with rfl | rfl <;> omega) (by rcases hf with rfl | rfl <;> omega)
      rw [this, Int.mul_comm]
    · rcases hf with rfl | rfl <;> omega
    · rcases hf with rfl | rfl <;> omega
  · rw [if_neg c1, if_neg c1, ifb_t rfl, bd (o_isD N _)]
    by_cases c2 : isD (pk t sz (bls t sz p))
    · have hdg := dg4_ok (t := t) (sz := sz) 4 (bls t sz p) 0 (by omega)
      have hdp := dg4_pos c2
      have hv : (dg4 t sz 4 (bls t sz p) 0).1 ≤ 9999 := by have := hdg.2.2; omega
      rw [if_pos c2, if_pos c2, ifb_f (by decide)]
      obtain ⟨y4', h4', e⟩ := o_dig (t := t) N hsz fa nu x1 4 (N - 5) (bls t sz p) 0 0 0 rfl (by omega) rfl (by decide)
      rw [show N - 5 + 4 + 1 = N from by omega] at e
      rw [show (0 : Int32) = Int32.ofNat 0 from rfl] at e ⊢
      rw [e]
      exact o_und N hN hsz (show p < (dg4 t sz 4 (bls t sz p) 0).2 by omega) hdg.2.1 fa hx hf h4' hv S
    · rw [if_neg c2, if_neg c2, ifb_t rfl, bd (o_fail N _ _)]
      exact ⟨_, _, rfl, hbl.2⟩
theorem L_negx {x : Int64} (h : x.toInt = 1 ∨ x.toInt = -1) : (-x).toInt = -x.toInt := by
  rcases h with h | h
  · have : x = 1 := Int64.toInt_inj.mp h
    subst this; rfl
  · have : x = -1 := Int64.toInt_inj.mp h
    subst this; rfl
def TB (t : Nat → Int32) (sz : Nat) : Prop := ∀ i, i < sz → (t i = 62 ↔ t i &&& 255 = 62)
theorem o_sd (N : Nat) (hN : 1000 ≤ N) (hsz : sz ≤ 240) (hT : TB t sz) {y1 : Int64} (hy1 : y1.toInt = 1 ∨ y1.toInt = -1) {y3 : Int32} {last : Bool} (hl : (y3 = 0 ∧ last = false) ∨ (y3 = 1 ∧ last = true)) (fa : Int32) : ∀ (n m p : Nat) (x1 : Int64) (nu : Nat → Int64) (c : Nat → Int), (x1.toInt = 1 ∨ x1.toInt = -1) → p ≤ sz → sz < p + n → SmP nu c p → OSd ((f_X7_item N (Int32.ofNat sz) (Int32.ofNat p) fa 0 t nu x1).bind (fun z => (f_X7_blanks N (Int32.ofNat sz) z.1 t).bind (fun z' => f_X7_side_58 N (m + n) (Int32.ofNat sz) z' z.2.1 z.2.2.1 t z.2.2.2 y1 y3))) fa sz (sSd t sz y1.toInt last n x1.toInt p c)
  | 0, m, p, x1, nu, c, hx, hp, hn, S => by omega
  | n + 1, m, p, x1, nu, c, hx, hp, hn, S => by
    have hit := o_item (t := t) N hN hsz hp fa rfl hx S
    have hok := sItem_ok (t := t) hx hp S.2
    unfold sSd
    cases hr : sItem t sz x1.toInt p c with
    | error e =>
      rw [hr] at hit
      obtain ⟨a', nu', e1, ha'⟩ := hit
      have hbl := bls_le (t := t) (sz := sz) a' ha'
      rw [bd e1]
      dsimp only
      rw [bd (o_blanks N hN hsz (by omega)), show m + (n + 1) = (m + n) + 1 from by omega, f_X7_side_58]; dsimp only
      rw [ifb_f (by decide)]
      exact ⟨_, _, rfl, hbl.2⟩
    | ok z =>
      obtain ⟨p1, c1⟩ := z
      rw [hr] at hit
      obtain ⟨nu', e1, S'⟩ := hit
      obtain ⟨a1, a2, a3⟩ := hok.2 p1 c1 hr
      have hbl := bls_le (t := t) (sz := sz) p1 a2
      have S2 : ∀ q, p1 ≤ q → SmP nu' c1 q := fun q hq => ⟨S'.1, a3.mono hq⟩
      rw [bd e1]
      dsimp only
      rw [bd (o_blanks N hN hsz (by omega)), show m + (n + 1) = (m + n) + 1 from by omega, f_X7_side_58]; dsimp only
      rw [ifb_t rfl, bd (o_peek N _ hsz (by omega))]
      have hneg := L_negx hy1
      have go : ∀ x2 : Int64, (x2.toInt = 1 ∨ x2.toInt = -1) → bls t sz p1 < sz → OSd (f_X7_side_154 (f_X7_side_58 N (m + n)) N (Int32.ofNat sz) (Int32.ofNat (bls t sz p1) + 1) fa 0 t nu' y1 y3 x2) fa sz (sSd t sz y1.toInt last n x2.toInt (bls t sz p1 + 1) c1) := by
        intro x2 hx2 hlt
        unfold f_X7_side_154
        rw [i_p1]
        exact o_sd N hN hsz hT hy1 hl fa n m (bls t sz p1 + 1) x2 nu' c1 hx2 (by omega) (by omega) (S2 _ (by omega))
      have e116 : ∀ hlt : bls t sz p1 < sz, (pk t sz (bls t sz p1) = 43 ∨ pk t sz (bls t sz p1) = 45) → OSd (f_X7_side_116 (f_X7_side_58 N (m + n)) N (Int32.ofNat sz) (Int32.ofNat (bls t sz p1)) fa 0 t nu' y1 y3) fa sz (if pk t sz (bls t sz p1) = 43 then sSd t sz y1.toInt last n y1.toInt (bls t sz p1 + 1) c1 else sSd t sz y1.toInt last n (-y1.toInt) (bls t sz p1 + 1) c1) := by
        intro hlt h
        unfold f_X7_side_116 f_X7_side_130
        rw [bd (o_peek N _ hsz (by omega))]
        rcases h with h | h
        · rw [ifb_f (by rw [h]; decide), ifb_t rfl, if_pos h]
          exact go y1 hy1 hlt
        · rw [ifb_t h, ifb_f (by decide), if_neg (by rw [h]; decide), ← hneg]
          exact go (-y1) (by rw [hneg]; rcases hy1 with g | g <;> rw [g]; exact Or.inr rfl; exact Or.inl rfl) hlt
      have e164 : OSd (f_X7_side_164 N (Int32.ofNat sz) (Int32.ofNat (bls t sz p1)) fa 0 t nu') fa sz (.ok (bls t sz p1, c1)) := ⟨_, rfl, S2 _ (by omega)⟩
      by_cases d1 : pk t sz (bls t sz p1) = 43
      · have := e116 (pkk_in d1 (by decide)) (Or.inl d1)
        rw [if_pos d1] at this
        rw [ifb_t d1, if_pos d1]
        exact this
      · rw [ifb_f d1, if_neg d1, bd (o_peek N _ hsz (by omega))]
        by_cases d2 : pk t sz (bls t sz p1) = 45
        · have hlt := pkk_in d2 (by decide)
          have e1' := e116 hlt (Or.inr d2)
          rw [if_neg d1] at e1'
          rw [ifb_t d2]
          rcases hl with ⟨hl1, hl2⟩ | ⟨hl1, hl2⟩
          · rw [ifb_t hl1, if_pos ⟨d2, fun g => by rw [hl2] at g; exact absurd g.1 (by decide)⟩]
            exact e1'
          · rw [ifb_f (by rw [hl1]; decide), i_p1]
            by_cases d3 : sz ≤ bls t sz p1 + 1
            · rw [ifb_t (by rw [i_le _ _ (by omega) (by omega)]; exact d3), if_pos ⟨d2, fun g => by
                have := pkk_in g.2 (by decide); omega⟩]
              exact e1'
            · rw [ifb_f (by rw [i_le _ _ (by omega) (by omega)]; exact d3), ix_n _ _ _ (by omega) (by omega), i_cl _ (by omega)]
              have h62 : t (bls t sz p1 + 1) = 62 ↔ pk t sz (bls t sz p1 + 1) = 62 := by
                unfold pk; rw [if_pos (by omega)]; exact hT _ (by omega)
              by_cases d4 : t (bls t sz p1 + 1) = 62
              · rw [ifb_t d4, if_neg (fun g => g.2 ⟨hl2, h62.mp d4⟩)]
                exact e164
              · rw [ifb_f d4, if_pos ⟨d2, fun g => d4 (h62.mpr g.2)⟩]
                exact e1'
        · rw [ifb_f d2, if_neg (fun g => d2 g.1)]
          exact e164
theorem o_side (N : Nat) (hN : 1000 ≤ N) (hsz : sz ≤ 240) (hT : TB t sz) {y1 : Int64} (hy1 : y1.toInt = 1 ∨ y1.toInt = -1) {y3 : Int32} {last : Bool} (hl : (y3 = 0 ∧ last = false) ∨ (y3 = 1 ∧ last = true)) (fa : Int32) {p : Nat} (hp : p ≤ sz) {nu : Nat → Int64} {c : Nat → Int} (S : SmP nu c p) : OSd (f_X7_side N (Int32.ofNat sz) (Int32.ofNat p) fa 0 t nu y1 y3) fa sz (sSide t sz y1.toInt last p c) := by
  have hbl := bls_le (t := t) (sz := sz) p hp
  have hneg := L_negx hy1
  have S2 : ∀ q, p ≤ q → SmP nu c q := fun q hq => ⟨S.1, S.2.mono hq⟩
  unfold f_X7_side f_X7_side_18 f_X7_side_35 f_X7_side_51 sSide
  rw [bd (o_blanks N hN hsz (by omega)), bd (o_peek N _ hsz (by omega))]
  by_cases h : pk t sz (bls t sz p) = 45
  · have := pkk_in h (by decide)
    rw [ifb_t h, if_pos h, ifb_f (by decide), ifb_f (by decide), i_p1]
    have h2 := o_sd (t := t) N hN hsz hT hy1 hl fa 241 (N - 241) (bls t sz p + 1) (-y1) nu c (by rw [hneg]; rcases hy1 with h | h <;> rw [h]; exact Or.inr rfl; exact Or.inl rfl) (by omega) (by omega) (S2 _ (by omega))
    rw [show N - 241 + 241 = N from by omega, hneg] at h2
    exact h2
  · rw [ifb_f h, if_neg h, ifb_t rfl, ifb_t rfl, Int32.add_zero]
    have h2 := o_sd (t := t) N hN hsz hT hy1 hl fa 241 (N - 241) (bls t sz p) y1 nu c hy1 (by omega) (by omega) (S2 _ (by omega))
    rw [show N - 241 + 241 = N from by omega] at h2
    exact h2
end RIT
abbrev T16 := Int32 × (Int32) × (Int32) × (Int32) × (Int32) × (Int32) × (Int32) × (Nat → Int32) × (Nat → Int32) × (Nat → Int32) × (Nat → Int32) × (Nat → Int32) × (Nat → Int32) × (Nat → Int32) × (Nat → Int64) × (Nat → Int64)
abbrev FT16 := Int32 → Int32 → Int32 → Int32 → Int32 → Int32 → Int32 → (Nat → Int32) → (Nat → Int32) → (Nat → Int32) → (Nat → Int32) → (Nat → Int32) → (Nat → Int32) → (Nat → Int32) → (Nat → Int32) → (Nat → Int64) → (Nat → Int64) → Option T16
def OPR (sz K A : Nat) (wt : List (List Int32) → Nat) (u : Nat) (ki le ri ro : Nat → Int32) (fa op : Int32) (G : Bool) (p : Nat) (o : Option T16) (r : PR) : Prop := match r with
  | .ok (p', F, g) => ∃ s u' ki' le' ri' ma' bi' ro' ta' row' nu', o = some (Int32.ofNat s, Int32.ofNat u', b2i (G || g), Int32.ofNat p', fa, op, 0, ki', le', ri', ma', bi', ro', ta', row', nu') ∧ (Pool u' ki' le' ri' ma' bi' ro' ta' ∧ Ag u ki le ri ro ki' le' ri' ro' ∧ u ≤ u' ∧ u' + K * p ≤ u + K * p' ∧ s < u') ∧ wt (dn ki' le' ri' ro' s) + p ≤ p' ∧ ((G || g) = false → dn ki' le' ri' ro' s = F)
  | .error e => ∃ s u' gr' a' op' ki' le' ri' ma' bi' ro' ta' row' nu', o = some (s, Int32.ofNat u', gr', Int32.ofNat a', Int32.ofNat e, op', 1, ki', le', ri', ma', bi', ro', ta', row', nu') ∧ Pool u' ki' le' ri' ma' bi' ro' ta' ∧ Ag u ki le ri ro ki' le' ri' ro' ∧ u ≤ u' ∧ a' ≤ sz + A
section RREL
variable {t : Nat → Int32} {sz u : Nat} {ki le ri ma bi ro ta : Nat → Int32}
theorem rel_zero (N : Nat) (U SZ gr at_ fa : Int32) (row : Nat → Int64) : ∀ (d m k : Nat) (nu : Nat → Int64), k + d = 9 → (∀ j, j < k → (nu j).toInt = 0) → ∃ nu', (∀ j, j < 9 → (nu' j).toInt = 0) ∧ f_X7_relation_2 N (m + d + 1) U SZ gr at_ fa 0 ki le ri ma bi ro ta t row nu (Int32.ofNat k) = f_X7_relation_2 N 1 U SZ gr at_ fa 0 ki le ri ma bi ro ta t row nu' 9
  | 0, m, k, nu, h, hn => by
    have : k = 9 := by omega
    subst this
    refine ⟨nu, hn, ?_⟩
    rw [f_X7_relation_2, f_X7_relation_2]; dsimp only
    rw [show Int32.ofNat 9 = 9 from rfl, ifb_t (by decide), ifb_t (by decide)]
  | d + 1, m, k, nu, h, hn => by
    have eu : ∀ n, f_X7_relation_2 N (n + 1) U SZ gr at_ fa 0 ki le ri ma bi ro ta t row nu (Int32.ofNat k) = ix (Int32.ofNat k) 9 (f_X7_relation_2 N n U SZ gr at_ fa 0 ki le ri ma bi ro ta t row (vp_updL nu (Int32.ofNat k).toNatClampNeg 0) (Int32.ofNat k + 1)) := fun n => by
      rw [f_X7_relation_2]; dsimp only
      rw [ifb_f (by rw [show (9 : Int32) = Int32.ofNat 9 from rfl, i_le _ _ (by omega) (by omega)]; omega)]
    rw [show m + (d + 1) + 1 = (m + d + 1) + 1 from by omega, eu, ix_n _ _ _ (by omega) (by omega), i_cl _ (by omega), i_p1]
    apply rel_zero N U SZ gr at_ fa row d m (k + 1) _ (by omega)
    intro j hj
    by_cases e : j = k
    · subst e; rw [updL_at]; rfl
    · rw [updL_ne _ _ _ _ e]; exact hn j (by omega)
theorem rel_row (N : Nat) (U SZ gr at_ fa : Int32) (y1 y2 : Int32) {nu : Nat → Int64} {c : Nat → Int} (hS : Sm nu c) : ∀ (d m k : Nat) (row : Nat → Int64), k + d = 9 → (∀ j, j < k → (row j).toInt = (if y1 = 62 then - c j else c j)) → ∃ row', Sm row' (if y1 = 62 then (fun j => - c j) else c) ∧ f_X7_relation_157 N (m + d + 1) U SZ gr at_ fa 0 ki le ri ma bi ro ta t row nu y1 y2 (Int32.ofNat k) = f_X7_relation_157 N 1 U SZ gr at_ fa 0 ki le ri ma bi ro ta t row' nu y1 y2 9
  | 0, m, k, row, h, hn => by
    have : k = 9 := by omega
    subst this
    refine ⟨row, fun j hj => ?_, ?_⟩
    · have := hn j hj
      have h2 := hS j hj
      by_cases g : y1 = 62
      · rw [if_pos g] at this ⊢; exact ⟨this, by omega, by omega⟩
      · rw [if_neg g] at this ⊢; exact ⟨this, by omega, by omega⟩
    · rw [f_X7_relation_157, f_X7_relation_157]; dsimp only
      rw [show Int32.ofNat 9 = 9 from rfl, ifb_t (show (9 : Int32) ≤ 9 by decide), ifb_t (show (9 : Int32) ≤ 9 by decide)]
  | d + 1, m, k, row, h, hn => by
    have eu : ∀ n, f_X7_relation_157 N (n + 1) U SZ gr at_ fa 0 ki le ri ma bi ro ta t row nu y1 y2 (Int32.ofNat k) = ifb (y1 = 62) (ix (Int32.ofNat k) 9 (f_X7_relation_190 (f_X7_relation_157 N n) N U SZ gr at_ fa 0 ki le ri ma bi ro ta t row nu y1 y2 (Int32.ofNat k) (Int32.ofNat k) (-(nu (Int32.ofNat k).toNatClampNeg)))) (ix (Int32.ofNat k) 9 (f_X7_relation_190 (f_X7_relation_157 N n) N U SZ gr at_ fa 0 ki le ri ma bi ro ta t row nu y1 y2 (Int32.ofNat k) (Int32.ofNat k) (nu (Int32.ofNat k).toNatClampNeg))) := fun n => by
      rw [f_X7_relation_157]; dsimp only
      rw [ifb_f (by rw [show (9 : Int32) = Int32.ofNat 9 from rfl, i_le _ _ (by omega) (by omega)]; omega)]
    rw [show m + (d + 1) + 1 = (m + d + 1) + 1 from by omega, eu, ix_n _ _ _ (by omega) (by omega), ix_n _ _ _ (by omega) (by omega), i_cl _ (by omega)]
    have h2 := hS k (by omega)
    have step : ∀ x : Int64, x.toInt = (if y1 = 62 then - c k else c k) → ∃ row', Sm row' (if y1 = 62 then (fun j => - c j) else c) ∧ f_X7_relation_190 (f_X7_relation_157 N (m + d + 1)) N U SZ gr at_ fa 0 ki le ri ma bi ro ta t row nu y1 y2 (Int32.ofNat k) (Int32.ofNat k) x = f_X7_relation_157 N 1 U SZ gr at_ fa 0 ki le ri ma bi ro ta t row' nu y1 y2 9 := by
      intro x hx
      unfold f_X7_relation_190
      rw [ix_n _ _ _ (by omega) (by omega), i_cl _ (by omega), i_p1]
      apply rel_row N U SZ gr at_ fa y1 y2 hS d m (k + 1) _ (by omega)
      intro j hj
      by_cases e : j = k
      · subst e; rw [updL_at]; exact hx
      · rw [updL_ne _ _ _ _ e]; exact hn j (by omega)
    by_cases g : y1 = 62
    · rw [ifb_t g]
      exact step _ (by rw [if_pos g]; exact L_neg _ _ h2.1 (by omega) (by omega))
    · rw [ifb_f g]
      exact step _ (by rw [if_neg g]; exact h2.1)
theorem w1_le {H : List (List Int32)} (F : Fm H) (h : H.length = 1) : wU H ≤ 3 := by
  rcases F.cases with ⟨r, hr, rfl⟩ | ⟨a, k, v, ha, hk, _, _, rfl⟩ | ⟨a, b, k, ha, hb, hk, _, rfl⟩
  · rw [(w_leaf hr).2]; split <;> omega
  · have := ha.pos; rw [List.length_append, List.length_singleton] at h; omega
  · have := ha.pos; rw [List.length_append, List.length_append, List.length_singleton] at h; omega
theorem o_rel (N : Nat) (hN : 70000 ≤ N) (hsz : sz ≤ 240) (hT : TB t sz) (P : Pool u ki le ri ma bi ro ta) (hu : u < 24000) {p : Nat} (hp : p ≤ sz) (fa op : Int32) (G : Bool) (row nu : Nat → Int64) (K A : Nat) (hK : 1 ≤ K) : OPR sz K A wU u ki le ri ro fa op G p ((f_X7_relation N (Int32.ofNat u) (Int32.ofNat sz) (b2i G) (Int32.ofNat p) fa 0 ki le ri ma bi ro ta t row nu).bind (fun z72 => some (z72.1, z72.2.1, z72.2.2.1, z72.2.2.2.1, z72.2.2.2.2.1, op, z72.2.2.2.2.2.1, z72.2.2.2.2.2.2.1, z72.2.2.2.2.2.2.2.1, z72.2.2.2.2.2.2.2.2.1, z72.2.2.2.2.2.2.2.2.2.1, z72.2.2.2.2.2.2.2.2.2.2.1, z72.2.2.2.2.2.2.2.2.2.2.2.1, z72.2.2.2.2.2.2.2.2.2.2.2.2.1, z72.2.2.2.2.2.2.2.2.2.2.2.2.2.1, z72.2.2.2.2.2.2.2.2.2.2.2.2.2.2))) (match sRel t sz p with
    | .error e => .error e
    | .ok (p2, k, c) => match stl k c with
      | some r => .ok (p2, [r], false)
      | none => .ok (p2, fT, true)) := by
  obtain ⟨nu0, h0, e0⟩ := rel_zero (ki := ki) (le := le) (ri := ri) (ma := ma) (bi := bi) (ro := ro) (ta := ta) (t := t) N (Int32.ofNat u) (Int32.ofNat sz) (b2i G) (Int32.ofNat p) fa row 9 (N - 10) 0 nu rfl (fun j hj => by omega)
  rw [show N - 10 + 9 + 1 = N from by omega] at e0
  have e0' : f_X7_relation N (Int32.ofNat u) (Int32.ofNat sz) (b2i G) (Int32.ofNat p) fa 0 ki le ri ma bi ro ta t row nu = f_X7_relation_2 N 1 (Int32.ofNat u) (Int32.ofNat sz) (b2i G) (Int32.ofNat p) fa 0 ki le ri ma bi ro ta t row nu0 9 := e0
  rw [e0', f_X7_relation_2]; dsimp only
  rw [ifb_t (by decide)]
  have S0 : SmP nu0 (fun _ => 0) p := ⟨h0, CB.zero p⟩
  have hs := o_side (t := t) N (by omega) hsz hT (y1 := 1) (Or.inl rfl) (y3 := 0) (last := false) (Or.inl ⟨rfl, rfl⟩) fa hp S0
  rw [show (1 : Int64).toInt = 1 from rfl] at hs
  have hok := sSide_ok (t := t) (last := false) hsz (Or.inl rfl) hp S0.2
  unfold sRel
  cases hx : sSide t sz 1 false p (fun _ => 0) with
  | error e =>
    rw [hx] at hs
    obtain ⟨a', nu', e1, ha'⟩ := hs
    rw [bd e1]
    dsimp only
    rw [ifb_f (by decide), Option.bind_some]
    exact ⟨_, u, _, a', _, _, _, _, _, _, _, _, _, _, rfl, P, Ag.rf, Nat.le_refl _, by omega⟩
  | ok z =>
    obtain ⟨p1, c1⟩ := z
    rw [hx] at hs
    obtain ⟨nu1, e1, S1⟩ := hs
    obtain ⟨a1, a2, a3, a4⟩ := hok.2 p1 c1 hx
    rw [bd e1]
    dsimp only
    rw [ifb_t rfl, bd (o_blanks N (by omega) hsz (by omega)), a4, bd (o_peek N _ hsz (by omega))]
    have S2 : ∀ x, p1 ≤ x → SmP nu1 c1 x := fun x hx => ⟨S1.1, a3.mono hx⟩

    have go : (pk t sz p1 = 60 ∨ pk t sz p1 = 61 ∨ pk t sz p1 = 33 ∨ pk t sz p1 = 62) → OPR sz K A wU u ki le ri ro fa op G p ((f_X7_relation_74 N (Int32.ofNat u) (Int32.ofNat sz) (b2i G) (Int32.ofNat p1) fa 0 ki le ri ma bi ro ta t row nu1 (pk t sz p1)).bind (fun z72 => some (z72.1, z72.2.1, z72.2.2.1, z72.2.2.2.1, z72.2.2.2.2.1, op, z72.2.2.2.2.2.1, z72.2.2.2.2.2.2.1, z72.2.2.2.2.2.2.2.1, z72.2.2.2.2.2.2.2.2.1, z72.2.2.2.2.2.2.2.2.2.1, z72.2.2.2.2.2.2.2.2.2.2.1, z72.2.2.2.2.2.2.2.2.2.2.2.1, z72.2.2.2.2.2.2.2.2.2.2.2.2.1, z72.2.2.2.2.2.2.2.2.2.2.2.2.2.1, z72.2.2.2.2.2.2.2.2.2.2.2.2.2.2))) (match (if pk t sz p1 = 33 ∧ ¬ (pk t sz (p1 + 1) = 61) then .error (p1 + 1) else match sSide t sz (-1) true (if pk t sz p1 ≠ 61 ∧ pk t sz (p1 + 1) = 61 then p1 + 2 else p1 + 1) c1 with
        | .error e => .error e
        | .ok (p2, c2) => .ok (p2, (if pk t sz p1 = 61 then 2 else if pk t sz p1 = 33 then 3 else if pk t sz (p1 + 1) = 61 then 5 else 4), if pk t sz p1 = 62 then (fun j => - c2 j) else c2) : Except Nat (Nat × Int32 × (Nat → Int))) with
      | .error e => .error e
      | .ok (p2, k, c) => match stl k c with
        | some r => .ok (p2, [r], false)
        | none => .ok (p2, fT, true)) := by
      intro hrel
      have hlt : p1 < sz := by rcases hrel with g | g | g | g <;> exact pkk_in g (by decide)

      have sec : ∀ (s0 : Int32) (x : Nat), (s0 = 0 ∧ x = p1 + 1 ∧ ¬ (pk t sz p1 ≠ 61 ∧ pk t sz (p1 + 1) = 61) ∨ s0 = 1 ∧ x = p1 + 2 ∧ pk t sz p1 ≠ 61 ∧ pk t sz (p1 + 1) = 61) → ∀ s1 s2 : Int32, s1 + s2 = Int32.ofNat x → OPR sz K A wU u ki le ri ro fa op G p ((f_X7_relation_134 N (Int32.ofNat u) (Int32.ofNat sz) (b2i G) (Int32.ofNat (p1 + 1)) fa 0 ki le ri ma bi ro ta t row nu1 (pk t sz p1) s0 s1 s2).bind (fun z72 => some (z72.1, z72.2.1, z72.2.2.1, z72.2.2.2.1, z72.2.2.2.2.1, op, z72.2.2.2.2.2.1, z72.2.2.2.2.2.2.1, z72.2.2.2.2.2.2.2.1, z72.2.2.2.2.2.2.2.2.1, z72.2.2.2.2.2.2.2.2.2.1, z72.2.2.2.2.2.2.2.2.2.2.1, z72.2.2.2.2.2.2.2.2.2.2.2.1, z72.2.2.2.2.2.2.2.2.2.2.2.2.1, z72.2.2.2.2.2.2.2.2.2.2.2.2.2.1, z72.2.2.2.2.2.2.2.2.2.2.2.2.2.2))) (match (match sSide t sz (-1) true (if pk t sz p1 ≠ 61 ∧ pk t sz (p1 + 1) = 61 then p1 + 2 else p1 + 1) c1 with
        | .error e => .error e
        | .ok (p2, c2) => .ok (p2, (if pk t sz p1 = 61 then 2 else if pk t sz p1 = 33 then 3 else if pk t sz (p1 + 1) = 61 then 5 else 4), if pk t sz p1 = 62 then (fun j => - c2 j) else c2) : Except Nat (Nat × Int32 × (Nat → Int))) with
        | .error e => .error e
        | .ok (p2, k, c) => match stl k c with
          | some r => .ok (p2, [r], false)
          | none => .ok (p2, fT, true)) := by
        intro s0 x hs0 s1 s2 hx2
        have hxx : (if pk t sz p1 ≠ 61 ∧ pk t sz (p1 + 1) = 61 then p1 + 2 else p1 + 1) = x ∧ p1 ≤ x ∧ x ≤ sz := by
          rcases hs0 with ⟨_, h, g⟩ | ⟨_, h, g⟩
          · rw [if_neg g, h]; exact ⟨rfl, by omega, by omega⟩
          · have := pkk_in g.2 (by decide)
            rw [if_pos g, h]; exact ⟨rfl, by omega, by omega⟩
        rw [hxx.1]
        have hs2 := o_side (t := t) N (by omega) hsz hT (y1 := -1) (Or.inr rfl) (y3 := 1) (last := true) (Or.inr ⟨rfl, rfl⟩) fa hxx.2.2 (S2 x hxx.2.1)
        rw [show (-1 : Int64).toInt = -1 from rfl] at hs2
        have hok2 := sSide_ok (t := t) (last := true) hsz (Or.inr rfl) hxx.2.2 (a3.mono hxx.2.1)
        unfold f_X7_relation_134
        rw [hx2]
        cases hy : sSide t sz (-1) true x c1 with
        | error e =>
          rw [hy] at hs2
          obtain ⟨a', nu', e2, ha'⟩ := hs2
          rw [bd e2]
          dsimp only
          rw [ifb_f (by decide), Option.bind_some]
          exact ⟨_, u, _, a', _, _, _, _, _, _, _, _, _, _, rfl, P, Ag.rf, Nat.le_refl _, by omega⟩
        | ok y =>
          obtain ⟨p2, c2⟩ := y
          rw [hy] at hs2
          obtain ⟨nu2, e2, S3⟩ := hs2
          obtain ⟨b1, b2, b3, b4⟩ := hok2.2 p2 c2 hy
          rw [bd e2]
          dsimp only
          rw [ifb_t rfl]
          obtain ⟨row', Sr, er⟩ := rel_row (ki := ki) (le := le) (ri := ri) (ma := ma) (bi := bi) (ro := ro) (ta := ta) (t := t) N (Int32.ofNat u) (Int32.ofNat sz) (b2i G) (Int32.ofNat p2) fa (pk t sz p1) s0 (S3.sm (by omega)) 9 (N - 10) 0 row rfl (fun j hj => by omega)
          rw [show N - 10 + 9 + 1 = N from by omega] at er
          rw [show (0 : Int32) = Int32.ofNat 0 from rfl] at er ⊢
          rw [er, f_X7_relation_157]; dsimp only
          rw [ifb_t (by decide)]
          generalize hC : (if pk t sz p1 = 62 then (fun j => - c2 j) else c2) = C at Sr ⊢

          have at_ : ∀ (rel k : Int32), (rel = 0 ∨ rel = 1 ∨ rel = 2 ∨ rel = 3) → k = 2 + rel → OPR sz K A wU u ki le ri ro fa op G p ((f_X7_relation_227 N (Int32.ofNat u) (Int32.ofNat sz) (b2i G) (Int32.ofNat p2) fa 0 ki le ri ma bi ro ta t row' nu2 rel).bind (fun z72 => some (z72.1, z72.2.1, z72.2.2.1, z72.2.2.2.1, z72.2.2.2.2.1, op, z72.2.2.2.2.2.1, z72.2.2.2.2.2.2.1, z72.2.2.2.2.2.2.2.1, z72.2.2.2.2.2.2.2.2.1, z72.2.2.2.2.2.2.2.2.2.1, z72.2.2.2.2.2.2.2.2.2.2.1, z72.2.2.2.2.2.2.2.2.2.2.2.1, z72.2.2.2.2.2.2.2.2.2.2.2.2.1, z72.2.2.2.2.2.2.2.2.2.2.2.2.2.1, z72.2.2.2.2.2.2.2.2.2.2.2.2.2.2))) (match stl k C with
              | some r => .ok (p2, [r], false)
              | none => .ok (p2, fT, true)) := by
            intro rel k hrel' hk
            obtain ⟨s, u', gr', ki', le', ri', ma', bi', ro', ta', row'', e3, ⟨W, ⟨hW, hWl⟩, Gt, hg1, hg01⟩, hg0⟩ := o_atom7 N hN P hu Sr hrel' (b2i_01 G)
            unfold f_X7_relation_227
            rw [bd e3, Option.bind_some]
            dsimp only
            subst hk
            obtain ⟨q1, q2, q3, q4, q5, q6⟩ := Gt
            have hwW : wU (dn ki' le' ri' ro' s) ≤ 3 := by rw [hW]; exact w1_le (by rw [← hW]; exact dn_fm q1.1 s q5) hWl
            have hKK : K * p + 1 ≤ K * p2 := by
              have h1 : K * (p + 1) ≤ K * p2 := Nat.mul_le_mul (Nat.le_refl K) (by omega)
              rw [Nat.mul_succ] at h1
              omega
            have got : Pool u' ki' le' ri' ma' bi' ro' ta' ∧ Ag u ki le ri ro ki' le' ri' ro' ∧ u ≤ u' ∧ u' + K * p ≤ u + K * p2 ∧ s < u' := ⟨q1, q2, q3, by omega, q5⟩
            cases hst : stl (2 + rel) C with
            | none =>
              have hgr : gr' = b2i (G || true) := by
                cases G with
                | true => rw [hg1 rfl]; rfl
                | false =>
                  rcases hg0 rfl with ⟨_, h⟩ | ⟨r, h, _⟩
                  · rw [h]; rfl
                  · rw [hst] at h; exact (nomatch h)
              rw [hgr]
              exact ⟨s, u', ki', le', ri', ma', bi', ro', ta', row'', nu2, rfl, got, by omega, fun g => by cases G <;> exact absurd g (by decide)⟩
            | some r =>
              have hgr : gr' = b2i (G || false) ∧ (G = false → dn ki' le' ri' ro' s = [r]) := by
                cases G with
                | true => exact ⟨by rw [hg1 rfl]; rfl, fun g => absurd g (by decide)⟩
                | false =>
                  rcases hg0 rfl with ⟨h, _⟩ | ⟨r', h, h2, h3⟩
                  · rw [hst] at h; exact (nomatch h)
                  · rw [hst] at h; injection h with h; subst h
                    exact ⟨by rw [h2]; rfl, fun _ => h3⟩
              rw [hgr.1]
              refine ⟨s, u', ki', le', ri', ma', bi', ro', ta', row'', nu2, rfl, got, by omega, fun g => hgr.2 ?_⟩
              rw [Bool.or_false] at g; exact g
          by_cases d1 : pk t sz p1 = 61
          · rw [ifb_t d1, if_pos d1]; exact at_ 0 2 (Or.inl rfl) rfl
          · rw [ifb_f d1, if_neg d1]
            by_cases d2 : pk t sz p1 = 33
            · rw [ifb_t d2, if_pos d2]; exact at_ 1 3 (Or.inr (Or.inl rfl)) rfl
            · rw [ifb_f d2, if_neg d2]
              rcases hs0 with ⟨h, _, g⟩ | ⟨h, _, g⟩
              · rw [ifb_t h, if_neg (fun k => g ⟨d1, k⟩)]; exact at_ 2 4 (Or.inr (Or.inr (Or.inl rfl))) rfl
              · rw [ifb_f (by rw [h]; decide), if_pos g.2]; exact at_ 3 5 (Or.inr (Or.inr (Or.inr rfl))) rfl
      have m120 : ∀ (s0 : Int32), (s0 = 0 ∧ ¬ (pk t sz p1 ≠ 61 ∧ pk t sz (p1 + 1) = 61) ∨ s0 = 1 ∧ pk t sz p1 ≠ 61 ∧ pk t sz (p1 + 1) = 61) → OPR sz K A wU u ki le ri ro fa op G p ((f_X7_relation_104 N (Int32.ofNat u) (Int32.ofNat sz) (b2i G) (Int32.ofNat (p1 + 1)) fa 0 ki le ri ma bi ro ta t row nu1 (pk t sz p1) s0).bind (fun z72 => some (z72.1, z72.2.1, z72.2.2.1, z72.2.2.2.1, z72.2.2.2.2.1, op, z72.2.2.2.2.2.1, z72.2.2.2.2.2.2.1, z72.2.2.2.2.2.2.2.1, z72.2.2.2.2.2.2.2.2.1, z72.2.2.2.2.2.2.2.2.2.1, z72.2.2.2.2.2.2.2.2.2.2.1, z72.2.2.2.2.2.2.2.2.2.2.2.1, z72.2.2.2.2.2.2.2.2.2.2.2.2.1, z72.2.2.2.2.2.2.2.2.2.2.2.2.2.1, z72.2.2.2.2.2.2.2.2.2.2.2.2.2.2))) (match (if pk t sz p1 = 33 ∧ ¬ (pk t sz (p1 + 1) = 61) then .error (p1 + 1) else match sSide t sz (-1) true (if pk t sz p1 ≠ 61 ∧ pk t sz (p1 + 1) = 61 then p1 + 2 else p1 + 1) c1 with
          | .error e => .error e
          | .ok (p2, c2) => .ok (p2, (if pk t sz p1 = 61 then 2 else if pk t sz p1 = 33 then 3 else if pk t sz (p1 + 1) = 61 then 5 else 4), if pk t sz p1 = 62 then (fun j => - c2 j) else c2) : Except Nat (Nat × Int32 × (Nat → Int))) with
        | .error e => .error e
        | .ok (p2, k, c) => match stl k c with
          | some r => .ok (p2, [r], false)
          | none => .ok (p2, fT, true)) := by
        intro s0 hs0
        unfold f_X7_relation_104 f_X7_relation_120
        have nxt : ¬ (pk t sz p1 = 33 ∧ ¬ (pk t sz (p1 + 1) = 61)) → OPR sz K A wU u ki le ri ro fa op G p ((ifb (s0 = 0) (f_X7_relation_134 N (Int32.ofNat u) (Int32.ofNat sz) (b2i G) (Int32.ofNat (p1 + 1)) fa 0 ki le ri ma bi ro ta t row nu1 (pk t sz p1) s0 (Int32.ofNat (p1 + 1)) 0) (f_X7_relation_134 N (Int32.ofNat u) (Int32.ofNat sz) (b2i G) (Int32.ofNat (p1 + 1)) fa 0 ki le ri ma bi ro ta t row nu1 (pk t sz p1) s0 (Int32.ofNat (p1 + 1)) 1)).bind (fun z72 => some (z72.1, z72.2.1, z72.2.2.1, z72.2.2.2.1, z72.2.2.2.2.1, op, z72.2.2.2.2.2.1, z72.2.2.2.2.2.2.1, z72.2.2.2.2.2.2.2.1, z72.2.2.2.2.2.2.2.2.1, z72.2.2.2.2.2.2.2.2.2.1, z72.2.2.2.2.2.2.2.2.2.2.1, z72.2.2.2.2.2.2.2.2.2.2.2.1, z72.2.2.2.2.2.2.2.2.2.2.2.2.1, z72.2.2.2.2.2.2.2.2.2.2.2.2.2.1, z72.2.2.2.2.2.2.2.2.2.2.2.2.2.2))) (match (match sSide t sz (-1) true (if pk t sz p1 ≠ 61 ∧ pk t sz (p1 + 1) = 61 then p1 + 2 else p1 + 1) c1 with
            | .error e => .error e
            | .ok (p2, c2) => .ok (p2, (if pk t sz p1 = 61 then 2 else if pk t sz p1 = 33 then 3 else if pk t sz (p1 + 1) = 61 then 5 else 4), if pk t sz p1 = 62 then (fun j => - c2 j) else c2) : Except Nat (Nat × Int32 × (Nat → Int))) with
          | .error e => .error e
          | .ok (p2, k, c) => match stl k c with
            | some r => .ok (p2, [r], false)
            | none => .ok (p2, fT, true)) := by
          intro _
          rcases hs0 with ⟨h, g⟩ | ⟨h, g⟩
          · rw [ifb_t h]
            exact sec s0 (p1 + 1) (Or.inl ⟨h, rfl, g⟩) _ _ (Int32.add_zero _)
          · rw [ifb_f (by rw [h]; decide)]
            exact sec s0 (p1 + 2) (Or.inr ⟨h, rfl, g⟩) _ _ (i_p1 _)
        by_cases d33 : pk t sz p1 = 33
        · rw [ifb_t d33]
          rcases hs0 with ⟨h, g⟩ | ⟨h, g⟩
          · have hne : ¬ (pk t sz (p1 + 1) = 61) := fun k => g ⟨by rw [d33]; decide, k⟩
            rw [ifb_t h, if_pos ⟨d33, hne⟩, bd (o_fail N _ _), Option.bind_some]
            exact ⟨_, u, _, p1 + 1, _, _, _, _, _, _, _, _, _, _, rfl, P, Ag.rf, Nat.le_refl _, by omega⟩
          · rw [ifb_f (by rw [h]; decide), if_neg (fun k => k.2 g.2)]
            exact nxt (fun k => k.2 g.2)
        · rw [ifb_f d33, if_neg (fun k => d33 k.1)]
          exact nxt (fun k => d33 k.1)
      unfold f_X7_relation_74 f_X7_relation_103
      rw [i_p1, bd (o_peek N _ hsz (by omega))]
      by_cases d : pk t sz (p1 + 1) = 61
      · rw [ifb_t d]
        by_cases d61 : pk t sz p1 = 61
        · rw [ifb_t d61]
          exact m120 0 (Or.inl ⟨rfl, fun g => g.1 d61⟩)
        · rw [ifb_f d61]
          exact m120 1 (Or.inr ⟨rfl, d61, d⟩)
      · rw [ifb_f d]
        exact m120 0 (Or.inl ⟨rfl, fun g => d g.2⟩)
    by_cases d1 : pk t sz p1 = 60
    · rw [ifb_t d1, if_pos (Or.inl d1)]; exact go (Or.inl d1)
    · rw [ifb_f d1]
      by_cases d2 : pk t sz p1 = 61
      · rw [ifb_t d2, if_pos (Or.inr (Or.inl d2))]; exact go (Or.inr (Or.inl d2))
      · rw [ifb_f d2]
        by_cases d3 : pk t sz p1 = 33
        · rw [ifb_t d3, if_pos (Or.inr (Or.inr (Or.inl d3)))]; exact go (Or.inr (Or.inr (Or.inl d3)))
        · rw [ifb_f d3]
          by_cases d4 : pk t sz p1 = 62
          · rw [ifb_t d4, if_pos (Or.inr (Or.inr (Or.inr d4)))]; exact go (Or.inr (Or.inr (Or.inr d4)))
          · rw [ifb_f d4, if_neg (by rintro (g | g | g | g); exact d1 g; exact d2 g; exact d3 g; exact d4 g), bd (o_fail N _ _), Option.bind_some]
            exact ⟨_, u, _, p1, _, _, _, _, _, _, _, _, _, _, rfl, P, Ag.rf, Nat.le_refl _, by omega⟩
end RREL
