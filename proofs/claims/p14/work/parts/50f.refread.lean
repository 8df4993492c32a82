def dpt (l : List (List Int32)) : Nat := cata (fun _ => 1) (fun _ x => 1 + x) (fun _ x y => 1 + max x y) 0 l
theorem dpt_leaf {r : List Int32} (h : Leaf r) : dpt [r] = 1 := cata_leaf _ _ _ _ h
theorem dpt_qu {a : List (List Int32)} {k : Int32} (ha : Fm a) (hk : k = 8 ∨ k = 9) (v : Nat) : dpt (a ++ [rowq k v]) = 1 + dpt a := cata_qu _ _ _ _ ha hk v
theorem dpt_bi {a b : List (List Int32)} {k : Int32} (ha : Fm a) (hb : Fm b) (hk : k = 6 ∨ k = 7) : dpt (a ++ b ++ [row0 k]) = 1 + max (dpt a) (dpt b) := cata_bi _ _ _ _ ha hb hk
theorem kin_app (a b : List (List Int32)) (x y : Int32) : kin (a ++ b) x y = kin a x y + kin b x y := List.countP_append
theorem kin_one (r : List Int32) (x y : Int32) : kin [r] x y = if x ≤ kd r ∧ kd r ≤ y then 1 else 0 := by
  unfold kin
  rw [List.countP_singleton]
  by_cases h : x ≤ kd r ∧ kd r ≤ y
  · rw [if_pos h, if_pos]
    simp only [Bool.and_eq_true, decide_eq_true_eq]; exact h
  · rw [if_neg h, if_neg]
    simp only [Bool.and_eq_true, decide_eq_true_eq]; exact h
def cv (w : Nat) (l : List (List Int32)) : Nat := if w = 3 then dpt l else if w = 1 then kin l 2 5 else kin l 8 9
theorem cv_le {l : List (List Int32)} (F : Fm l) (w : Nat) : cv w l ≤ l.length := by
  unfold cv
  split
  · refine Fm.ind (P := fun l => dpt l ≤ l.length) ?_ ?_ ?_ F
    · intro r hr; rw [dpt_leaf hr]; simp
    · intro a k v ha ih hk _ _; rw [dpt_qu ha hk]; simp; omega
    · intro a b k ha hb iha ihb hk _; rw [dpt_bi ha hb hk]; simp; omega
  · split
    · exact List.countP_le_length
    · exact List.countP_le_length
section COUNT
variable {u : Nat} {ki le ri ma bi ro ta : Nat → Int32}
theorem o_count (N : Nat) (P : Po u ki le ri ro) {w : Nat} (hw : w = 1 ∨ w = 2 ∨ w = 3) : ∀ (d p : Nat), p < u → (dn ki le ri ro p).length ≤ d → (dn ki le ri ro p).length ≤ 1000 → fg_count N d ki le ri (Int32.ofNat p) (Int32.ofNat w) = some (Int32.ofNat (cv w (dn ki le ri ro p))) := by
  intro d
  induction d with
  | zero =>
    intro p hp hd _
    have := (dn_fm P p hp).pos
    omega
  | succ d ih =>
    intro p hp hd h1000
    have hu2 := P.2.1
    rw [fg_count]
    unfold F_X7_count f_X7_count_30 f_X7_count_34 f_X7_count_35 f_X7_count_67 f_X7_count_112 f_X7_count_120
    rw [ix_n _ _ _ (by omega) (by omega), i_cl _ (by omega)]
    have w3 : Int32.ofNat w = 3 ↔ w = 3 := by rw [show (3 : Int32) = Int32.ofNat 3 from rfl, i_eq _ _ (by omega) (by omega)]
    have w1 : Int32.ofNat w = 1 ↔ w = 1 := by rw [show (1 : Int32) = Int32.ofNat 1 from rfl, i_eq _ _ (by omega) (by omega)]
    rcases P.2.2.1 p hp with ⟨h0, h, _⟩ | ⟨h0, h, _⟩ | ⟨hp2, h, hl, hr, hA⟩ | ⟨a, b, hp2, ha, hb, hk, e1, e2, ho⟩ | ⟨v, b, hp2, hv, hb, hk, e1, e2, ho⟩
    · rw [ifb_f (by rw [h]; decide), dn0 h]
      by_cases c3 : w = 3
      · rw [ifb_t (w3.mpr c3), c3]; rfl
      · rw [ifb_f (fun g => c3 (w3.mp g))]
        by_cases c1 : w = 1
        · rw [ifb_t (w1.mpr c1), ix_n _ _ _ (by omega) (by omega), ifb_f (by rw [h]; decide), c1]; rfl
        · have c2 : w = 2 := by omega
          rw [ifb_f (fun g => c1 (w1.mp g)), c2]; rfl
    · rw [ifb_f (by rw [h]; decide), dn1 h]
      by_cases c3 : w = 3
      · rw [ifb_t (w3.mpr c3), c3]; rfl
      · rw [ifb_f (fun g => c3 (w3.mp g))]
        by_cases c1 : w = 1
        · rw [ifb_t (w1.mpr c1), ix_n _ _ _ (by omega) (by omega), ifb_f (by rw [h]; decide), c1]; rfl
        · have c2 : w = 2 := by omega
          rw [ifb_f (fun g => c1 (w1.mp g)), c2]; rfl
    · rw [ifb_f (by rw [h]; decide), dn2 h]
      obtain ⟨_, hkd, _⟩ := id hA
      by_cases c3 : w = 3
      · rw [ifb_t (w3.mpr c3)]
        unfold cv; rw [if_pos c3, dpt_leaf (Or.inr (Or.inr hA))]; rfl
      · rw [ifb_f (fun g => c3 (w3.mp g))]
        unfold cv
        rw [if_neg c3, kin_one, kin_one]
        by_cases c1 : w = 1
        · rw [ifb_t (w1.mpr c1), ix_n _ _ _ (by omega) (by omega), ifb_t h, if_pos c1, if_pos (by rcases hkd with g | g | g | g <;> rw [g] <;> decide)]; rfl
        · rw [ifb_f (fun g => c1 (w1.mp g)), if_neg c1, if_neg (by rcases hkd with g | g | g | g <;> rw [g] <;> decide)]; rfl
    · have ed := dnb P hp ha hb hk e1 e2
      have fa := dn_fm P a (by omega)
      have fb := dn_fm P b (by omega)
      have hlen : (dn ki le ri ro p).length = (dn ki le ri ro a).length + (dn ki le ri ro b).length + 1 := by rw [ed]; simp; omega
      have hkk : ki p + 3 = 6 ∨ ki p + 3 = 7 := by rcases hk with h | h <;> rw [h] <;> decide
      have la := cv_le fa w
      have lb := cv_le fb w
      rw [ifb_t (by rcases hk with h | h <;> rw [h] <;> decide), ix_n _ _ _ (by omega) (by omega), ifb_t (by rcases hk with h | h <;> rw [h] <;> decide), ix_n _ _ _ (by omega) (by omega), e1, bd (ih a (by omega) (by omega) (by omega)), ix_n _ _ _ (by omega) (by omega), e2, bd (ih b (by omega) (by omega) (by omega))]
      by_cases c3 : w = 3
      · rw [ifb_t (w3.mpr c3)]
        have ec : ∀ l, cv w l = dpt l := fun l => by unfold cv; rw [if_pos c3]
        rw [ec, ec, ec, ed, dpt_bi fa fb hkk]
        rw [ec] at la lb
        by_cases hle : dpt (dn ki le ri ro a) ≤ dpt (dn ki le ri ro b)
        · rw [ifb_t (by rw [i_le _ _ (by omega) (by omega)]; exact hle), show (1 : Int32) = Int32.ofNat 1 from rfl, i_add]
          congr 2; omega
        · rw [ifb_f (by rw [i_le _ _ (by omega) (by omega)]; exact hle), show (1 : Int32) = Int32.ofNat 1 from rfl, i_add]
          congr 2; omega
      · rw [ifb_f (fun g => c3 (w3.mp g)), i_add]
        congr 2
        unfold cv
        rw [if_neg c3, if_neg c3, if_neg c3, ed, kin_app, kin_app, kin_app, kin_app, kin_one, kin_one]
        have hkd : kd (row0 (ki p + 3)) = ki p + 3 := rfl
        have z1 : ¬ (2 ≤ kd (row0 (ki p + 3)) ∧ kd (row0 (ki p + 3)) ≤ 5) := by rw [hkd]; rcases hkk with h | h <;> rw [h] <;> decide
        have z2 : ¬ (8 ≤ kd (row0 (ki p + 3)) ∧ kd (row0 (ki p + 3)) ≤ 9) := by rw [hkd]; rcases hkk with h | h <;> rw [h] <;> decide
        rw [if_neg z1, if_neg z2]
        split <;> omega
    · have ed := dnq P hp hv hb hk e1 e2
      have fb := dn_fm P b (by omega)
      have hlen : (dn ki le ri ro p).length = (dn ki le ri ro b).length + 1 := by rw [ed]; simp
      have hkk : ki p + 3 = 8 ∨ ki p + 3 = 9 := by rcases hk with h | h <;> rw [h] <;> decide
      rw [ifb_t (by rcases hk with h | h <;> rw [h] <;> decide), ix_n _ _ _ (by omega) (by omega), ifb_f (by rcases hk with h | h <;> rw [h] <;> decide), ix_n _ _ _ (by omega) (by omega), e2, bd (ih b (by omega) (by omega) (by omega))]
      have hkd : kd (rowq (ki p + 3) v) = ki p + 3 := rfl
      have one : ∀ x : Nat, Int32.ofNat x + 1 = Int32.ofNat (x + 1) := fun x => i_p1 x
      have zero : ∀ x : Nat, Int32.ofNat x + 0 = Int32.ofNat x := fun x => Int32.add_zero _
      by_cases c1 : w = 1
      · rw [ifb_t (w1.mpr c1), zero]
        congr 2
        unfold cv
        rw [if_neg (by omega), if_pos c1, if_neg (by omega), if_pos c1, ed, kin_app, kin_one, hkd, if_neg (by rcases hkk with h | h <;> rw [h] <;> decide)]
        rfl
      · rw [ifb_f (fun g => c1 (w1.mp g)), one]
        congr 2
        unfold cv
        by_cases c3 : w = 3
        · rw [if_pos c3, if_pos c3, ed, dpt_qu fb hkk]; omega
        · rw [if_neg c3, if_neg c1, if_neg c3, if_neg c1, ed, kin_app, kin_one, hkd, if_pos (by rcases hkk with h | h <;> rw [h] <;> decide)]
end COUNT
theorem aRow_get (le ro : Nat → Int32) (p k : Nat) (h : k < 9) : (aRow le ro p).getD (1 + k) 0 = ro (9 * p + k) := range9 (fun i => ro (9 * p + i)) (2 + le p) k h
section ISTRUE
variable {u : Nat} {ki le ri ma bi ro ta : Nat → Int32}
theorem o_end (R_ : (Nat → Int32) → (Nat → Int32) → (Nat → Int32) → (Nat → Int32) → (Nat → Int32) → (Nat → Int32) → Int32 → Option (Int32)) (N n : Nat) {p : Nat} (hp : p < 24000) (hl : le p = 0 ∨ le p = 1 ∨ le p = 2 ∨ le p = 3) (ab be : Nat → Int32) (x : Int64) : f_X7_isTrue_56 R_ N (n + 1) ki le ri ro ab be (Int32.ofNat p) x 8 = some (if trv (2 + le p) x.toInt then 1 else 0) := by
  have z : (0 : Int64).toInt = 0 := rfl
  rw [f_X7_isTrue_56]; dsimp only
  rw [ifb_t (by decide), ix_n _ _ _ (by omega) (by omega), i_cl _ (by omega)]
  unfold f_X7_isTrue_185 trv
  rcases hl with h | h | h | h <;> rw [h]
  · rw [ifb_t rfl]
    by_cases h : x.toInt = 0
    · rw [ifb_t ((lg_eq0 _ _).mpr (by rw [h, z])), ckp_t (Or.inr rfl)]; simp [h]
    · rw [ifb_f (fun g => h ((lg_eq0 _ _).mp g)), ckp_t (Or.inl rfl)]; simp [h]
  · rw [ifb_f (by decide), ifb_t rfl]
    by_cases h : x.toInt = 0
    · rw [ifb_t ((lg_eq0 _ _).mpr (by rw [h, z])), ckp_t (Or.inl rfl)]; simp [h]
    · rw [ifb_f (fun g => h ((lg_eq0 _ _).mp g)), ckp_t (Or.inr rfl)]; simp [h]
  · rw [ifb_f (by decide), ifb_f (by decide), ifb_t rfl]
    by_cases h : x.toInt < 0
    · rw [ifb_f (fun g => by have := (lg_ge0 _ _).mp g; omega), ckp_t (Or.inr rfl)]; simp [h]
    · rw [ifb_t ((lg_ge0 _ _).mpr (by rw [z]; omega)), ckp_t (Or.inl rfl)]; simp [h]
  · rw [ifb_f (by decide), ifb_f (by decide), ifb_f (by decide)]
    by_cases h : x.toInt ≤ 0
    · rw [ifb_f (fun g => by have := (lg_gt0 _ _).mp g; omega), ckp_t (Or.inr rfl)]; simp [h]
    · rw [ifb_t ((lg_gt0 _ _).mpr (by rw [z]; omega)), ckp_t (Or.inl rfl)]; simp [h]
theorem is_loop (R_ : (Nat → Int32) → (Nat → Int32) → (Nat → Int32) → (Nat → Int32) → (Nat → Int32) → (Nat → Int32) → Int32 → Option (Int32)) (N : Nat) {p : Nat} (hp : p < 24000) (hl : le p = 0 ∨ le p = 1 ∨ le p = 2 ∨ le p = 3) (A : Atm (aRow le ro p)) {ab be : Nat → Int32} (V : Vl ab be) : ∀ (d m k : Nat) (x : Int64), k + d = 8 → x.toInt = svk (aRow le ro p) ab be k → f_X7_isTrue_56 R_ N (m + d + 1) ki le ri ro ab be (Int32.ofNat p) x (Int32.ofNat k) = some (if trv (2 + le p) (svk (aRow le ro p) ab be 8) then 1 else 0)
  | 0, m, k, x, hk, hx => by
    have : k = 8 := by omega
    subst this
    rw [← hx]
    exact o_end R_ N _ hp hl ab be x
  | d + 1, m, k, x, hk, hx => by
    have hbd := svk_bd A V k (by omega)
    have hbd1 := svk_bd A V (k + 1) (by omega)
    obtain ⟨_, _, hb, _⟩ := id A
    have h1 := hb (1 + k) (by omega) (by omega)
    obtain ⟨v1, v2, v3, v4⟩ := V k (by omega)
    have hd := div_bd _ v3 v4
    have hm := mul_bd3 _ _ _ h1.1 h1.2 v1 v2 hd.1 hd.2
    rw [show m + (d + 1) + 1 = (m + d + 1) + 1 from by omega, f_X7_isTrue_56]; dsimp only
    have hne : ¬ ((be k).toInt64 = 0) := fun g => by
      have := congrArg Int64.toInt g
      rw [Int32.toInt_toInt64, show (0 : Int64).toInt = 0 from rfl] at this; omega
    rw [ifb_f (by rw [show (8 : Int32) = Int32.ofNat 8 from rfl, i_le _ _ (by omega) (by omega)]; omega), show (9 : Int32) * Int32.ofNat p = Int32.ofNat (9 * p) from i_mul 9 p, i_add, ix_n _ _ _ (by omega) (by omega), ix_n _ _ _ (by omega) (by omega), ix_n _ _ _ (by omega) (by omega), i_cl _ (by omega), i_cl _ (by omega), ckp_t hne, i_p1]
    apply is_loop R_ N hp hl A V d m (k + 1) _ (by omega)
    rw [aRow_get _ _ _ _ (by omega)] at h1 hm
    have e1 := L_mul (ro (9 * p + k)).toInt64 (ab k).toInt64 _ _ (Int32.toInt_toInt64 _) (Int32.toInt_toInt64 _) (by omega) (by omega)
    have e2 : (2520 / (be k).toInt64).toInt = 2520 / (be k).toInt := by
      rw [Int64.toInt_div, Int32.toInt_toInt64, show (2520 : Int64).toInt = 2520 from rfl, Int.tdiv_eq_ediv_of_nonneg (by omega)]
      exact bm64 _ (by omega) (by omega)
    have e3 := L_mul _ (2520 / (be k).toInt64) _ _ e1 e2 (by omega) (by omega)
    have hs : svk (aRow le ro p) ab be (k + 1) = svk (aRow le ro p) ab be k + (ro (9 * p + k)).toInt * (ab k).toInt * (2520 / (be k).toInt) := by
      rw [← aRow_get le ro p k (by omega)]; rfl
    rw [L_add _ _ _ _ hx e3 (by omega) (by omega)]
    exact hs.symm
theorem o_isTrue7 (N : Nat) (hN : 20 ≤ N) (P : Po u ki le ri ro) {ab be : Nat → Int32} (V : Vl ab be) : ∀ (d p : Nat), p < u → (dn ki le ri ro p).length ≤ d → Qf (dn ki le ri ro p) → fg_isTrue N d ki le ri ro ab be (Int32.ofNat p) = some (ev ab be (dn ki le ri ro p)) := by
  intro d
  induction d with
  | zero =>
    intro p hp hd _
    have := (dn_fm P p hp).pos
    omega
  | succ d ih =>
    intro p hp hd qf
    have hu2 := P.2.1
    rw [fg_isTrue]
    unfold F_X7_isTrue f_X7_isTrue_24 f_X7_isTrue_230 f_X7_isTrue_242 f_X7_isTrue_247
    rw [ix_n _ _ _ (by omega) (by omega), i_cl _ (by omega)]
    rcases P.2.2.1 p hp with ⟨h0, h, _⟩ | ⟨h0, h, _⟩ | ⟨hp2, h, hl, hr, hA⟩ | ⟨a, b, hp2, ha, hb, hk, e1, e2, ho⟩ | ⟨v, b, hp2, hv, hb, hk, e1, e2, ho⟩
    · rw [ifb_f (by rw [h]; decide), ix_n _ _ _ (by omega) (by omega), ifb_t h, dn0 h]; rfl
    · rw [ifb_f (by rw [h]; decide), ix_n _ _ _ (by omega) (by omega), ifb_f (by rw [h]; decide), dn1 h]; rfl
    · rw [ifb_t (by rw [h]; decide), ix_n _ _ _ (by omega) (by omega), ifb_t h, dn2 h, show (9 : Int32) * Int32.ofNat p = Int32.ofNat (9 * p) from i_mul 9 p, show (8 : Int32) = Int32.ofNat 8 from rfl, i_add, ix_n _ _ _ (by omega) (by omega), i_cl _ (by omega)]
      obtain ⟨_, hkd, hb, _⟩ := id hA
      have h9 := hb 9 (by omega) (by omega)
      have g9 : (aRow le ro p).getD 9 0 = ro (9 * p + 8) := aRow_get le ro p 8 (by omega)
      rw [g9] at h9
      have e1 := L_mul 2520 (ro (9 * p + 8)).toInt64 2520 _ rfl (Int32.toInt_toInt64 _) (by omega) (by omega)
      have := is_loop (ki := ki) (ri := ri) (fg_isTrue N d) N (p := p) (by omega) hl hA V 8 (N - 9) 0 (2520 * (ro (9 * p + 8)).toInt64) (by omega) (by
        rw [e1]; show _ = ((aRow le ro p).getD 9 0).toInt * 2520
        rw [g9]; omega)
      rw [show N - 9 + 8 + 1 = N from by omega] at this
      rw [show Int32.ofNat 0 = 0 from rfl] at this
      rw [this, ev_leaf (Or.inr (Or.inr hA))]
      have hkr : kd (aRow le ro p) = 2 + le p := rfl
      unfold eLeaf
      have n0 : ¬ (2 + le p = 0) := by rcases hl with g | g | g | g <;> rw [g] <;> decide
      have n1 : ¬ (2 + le p = 1) := by rcases hl with g | g | g | g <;> rw [g] <;> decide
      rw [hkr, if_neg n0, if_neg n1]
    · have ed := dnb P hp ha hb hk e1 e2
      have fa := dn_fm P a (by omega)
      have fb := dn_fm P b (by omega)
      have hlen : (dn ki le ri ro p).length = (dn ki le ri ro a).length + (dn ki le ri ro b).length + 1 := by rw [ed]; simp; omega
      have hkk : ki p + 3 = 6 ∨ ki p + 3 = 7 := by rcases hk with h | h <;> rw [h] <;> decide
      rw [ed] at qf
      have qa := qf.left.left
      have qb := qf.left.right
      rw [ifb_t (by rcases hk with h | h <;> rw [h] <;> decide), ix_n _ _ _ (by omega) (by omega), ifb_f (by rcases hk with h | h <;> rw [h] <;> decide), ix_n _ _ _ (by omega) (by omega), e1, bd (ih a (by omega) (by omega) qa), ix_n _ _ _ (by omega) (by omega), e2, bd (ih b (by omega) (by omega) qb), ix_n _ _ _ (by omega) (by omega), ed, ev_bi fa fb hkk]
      have hkr : kd (row0 (ki p + 3)) = ki p + 3 := rfl
      unfold eBi
      rw [hkr]
      rcases ev01 (ab := ab) (be := be) fa qa with va | va <;> rcases ev01 (ab := ab) (be := be) fb qb with vb | vb <;> rw [va, vb] <;> rcases hk with h | h <;> rw [h] <;> rfl
    · have ed := dnq P hp hv hb hk e1 e2
      have hkk : ki p + 3 = 8 ∨ ki p + 3 = 9 := by rcases hk with h | h <;> rw [h] <;> decide
      rw [ed] at qf
      exact (qf.no hkk).elim
end ISTRUE
theorem o_say {le : Int32} {ke : Nat → Int32} {t : List Int32} (O : Ou le ke t) (N : Nat) (h : t.length + 1 ≤ 1000000) (x : Int32) : ∃ ke', f_X7_say N le ke x = some (Int32.ofNat (t.length + 1), ke') ∧ Ou (Int32.ofNat (t.length + 1)) ke' (t ++ [x]) := o_letter O N h x
theorem say_dig (N s : Nat) (hs : s ≤ 1000000000) : ∀ (k m : Nat) (le : Int32) (ke : Nat → Int32) (t : List Int32), k ≤ 9 → Ou le ke t → t.length + k + 1 ≤ 1000000 → ∃ le' ke', f_X7_sayNumber_18 N (m + k + 2) le ke (Int32.ofNat s) (Int32.ofNat (10 ^ k)) = some (le', ke') ∧ Ou le' ke' (t ++ lets (dgl s k true)) := by
  intro k
  induction k with
  | zero =>
    intro m le ke t hk O hl
    rw [show m + 0 + 2 = (m + 1) + 1 from by omega, f_X7_sayNumber_18]; dsimp only
    have e1 : Int32.ofNat s / Int32.ofNat (10 ^ 0) = Int32.ofNat s := by rw [i_div _ _ (by omega) (by decide) (by decide)]; simp
    have e2 : Int32.ofNat s - Int32.ofNat s / 10 * 10 = Int32.ofNat (s % 10) := by
      rw [show Int32.ofNat s / 10 = Int32.ofNat (s / 10) from i_div s 10 (by omega) (by decide) (by decide), i_m10, i_sub _ _ (by omega)]
      congr 1; omega
    have e3 : Int32.ofNat (10 ^ 0) / 10 = 0 := by decide
    have fin : ∀ le ke, f_X7_sayNumber_18 N (m + 1) le ke (Int32.ofNat s) 0 = some (le, ke) := by
      intro le ke
      rw [f_X7_sayNumber_18]; dsimp only
      rw [ifb_t (by decide)]
    rw [ifb_f (by decide), ckp_t (by decide), e1, e2, e3]
    obtain ⟨ke', e, O'⟩ := o_say O N (by omega) (48 + Int32.ofNat (s % 10))
    rw [bd e, fin]
    refine ⟨_, _, rfl, ?_⟩
    rw [show (48 : Int32) + Int32.ofNat (s % 10) = Int32.ofNat (48 + s % 10) from i_add 48 _] at O'
    simpa [lets, dgl] using O'
  | succ k ih =>
    intro m le ke t hk O hl
    have hp := pw9 (k + 1) hk
    have hp0 : 0 < 10 ^ (k + 1) := Nat.pow_pos (by omega)
    rw [show m + (k + 1) + 2 = (m + k + 2) + 1 from by omega, f_X7_sayNumber_18]; dsimp only
    have hq : s / 10 ^ (k + 1) ≤ s := Nat.div_le_self _ _
    have e1 : Int32.ofNat s / Int32.ofNat (10 ^ (k + 1)) = Int32.ofNat (s / 10 ^ (k + 1)) := i_div _ _ (by omega) (by omega) hp0
    have e2 : Int32.ofNat (s / 10 ^ (k + 1)) - Int32.ofNat (s / 10 ^ (k + 1)) / 10 * 10 = Int32.ofNat (s / 10 ^ (k + 1) % 10) := by
      generalize s / 10 ^ (k + 1) = q at hq
      rw [show Int32.ofNat q / 10 = Int32.ofNat (q / 10) from i_div q 10 (by omega) (by decide) (by decide), i_m10, i_sub _ _ (by omega)]
      congr 1; omega
    have e3 : Int32.ofNat (10 ^ (k + 1)) / 10 = Int32.ofNat (10 ^ k) := by
      rw [show (10 : Int32) = Int32.ofNat 10 from rfl, i_div _ _ (by omega) (by decide) (by decide)]
      congr 1; rw [Nat.pow_succ]; omega
    rw [ifb_f (by rw [show (0 : Int32) = Int32.ofNat 0 from rfl, i_le _ _ (by omega) (by omega)]; omega), ckp_t (by rw [show (0 : Int32) = Int32.ofNat 0 from rfl, i_eq _ _ (by omega) (by omega)]; omega), e1, e2, e3]
    obtain ⟨ke', e, O'⟩ := o_say O N (by omega) (48 + Int32.ofNat (s / 10 ^ (k + 1) % 10))
    rw [bd e]
    rw [show (48 : Int32) + Int32.ofNat (s / 10 ^ (k + 1) % 10) = Int32.ofNat (48 + s / 10 ^ (k + 1) % 10) from i_add 48 _] at O'
    have := ih m _ ke' _ (by omega) O' (by simp; omega)
    simpa [lets, dgl] using this
theorem say_up (N s : Nat) (hs : s ≤ 1000000000) (le : Int32) (ke : Nat → Int32) : ∀ (d m k : Nat), k + d = 9 → 10 ^ k ≤ s → ∃ K, K ≤ 9 ∧ 10 ^ K ≤ s ∧ s / 10 ^ K < 10 ∧ f_X7_sayNumber_2 N (m + d + 1) le ke (Int32.ofNat s) (Int32.ofNat (10 ^ k)) = f_X7_sayNumber_18 N N le ke (Int32.ofNat s) (Int32.ofNat (10 ^ K))
  | 0, m, k, hk, h => by
    have : k = 9 := by omega
    subst this
    rw [f_X7_sayNumber_2]; dsimp only
    refine ⟨9, by omega, h, by omega, ?_⟩
    rw [ckp_t (by decide), i_div _ _ (by omega) (by decide) (by decide), ifb_t (by rw [show (10 : Int32) = Int32.ofNat 10 from rfl, i_lt _ _ (by omega) (by omega)]; omega)]
  | d + 1, m, k, hk, h => by
    have hp := pw9 (k + 1) (by omega)
    have hp1 := pw9 k (by omega)
    have hp0 : 0 < 10 ^ k := Nat.pow_pos (by omega)
    rw [show m + (d + 1) + 1 = (m + d + 1) + 1 from by omega, f_X7_sayNumber_2]; dsimp only
    have hq : s / 10 ^ k ≤ s := Nat.div_le_self _ _
    rw [ckp_t (by rw [show (0 : Int32) = Int32.ofNat 0 from rfl, i_eq _ _ (by omega) (by omega)]; omega), i_div _ _ (by omega) (by omega) hp0]
    by_cases hc : s / 10 ^ k < 10
    · rw [ifb_t (by rw [show (10 : Int32) = Int32.ofNat 10 from rfl, i_lt _ _ (by omega) (by omega)]; omega)]
      exact ⟨k, by omega, h, hc, rfl⟩
    · rw [ifb_f (by rw [show (10 : Int32) = Int32.ofNat 10 from rfl, i_lt _ _ (by omega) (by omega)]; omega), i_m10, ← Nat.pow_succ]
      refine say_up N s hs le ke d m (k + 1) (by omega) ?_
      have := (Nat.le_div_iff_mul_le hp0).mp (Nat.le_of_not_lt hc)
      rw [Nat.pow_succ]; omega
theorem dgl_top (s K : Nat) (h1 : 10 ^ K ≤ s) (h2 : s / 10 ^ K < 10) : ∀ j, dgl s (K + j) false = dgl s K true := by
  intro j
  have hp0 : 0 < 10 ^ K := Nat.pow_pos (by omega)
  have hq : 0 < s / 10 ^ K := Nat.div_pos h1 hp0
  induction j with
  | zero =>
    have hne : s / 10 ^ K % 10 ≠ 0 := by rw [Nat.mod_eq_of_lt h2]; omega
    cases K with
    | zero => simp at hne; simp [dgl, hne]
    | succ K => simp [dgl, hne]
  | succ j ih =>
    have hz : s / 10 ^ (K + j + 1) = 0 := by
      have : s < 10 ^ (K + 1) := by
        have := (Nat.div_lt_iff_lt_mul hp0).mp h2
        rw [Nat.pow_succ]; omega
      exact Nat.div_eq_of_lt (Nat.lt_of_lt_of_le this (Nat.pow_le_pow_right (by omega) (by omega)))
    rw [show K + (j + 1) = (K + j) + 1 from by omega]
    conv => lhs; unfold dgl
    rw [hz, if_neg (by simp)]
    exact ih
theorem o_sayNumber (N s : Nat) (hN : 20 ≤ N) (h1 : 1 ≤ s) (hs : s ≤ 1000000000) {le : Int32} {ke : Nat → Int32} {t : List Int32} (O : Ou le ke t) (hl : t.length + 10 ≤ 1000000) : ∃ le' ke', f_X7_sayNumber N le ke (Int32.ofNat s) = some (le', ke') ∧ Ou le' ke' (t ++ lets (dgl s 9 false)) := by
  obtain ⟨K, k9, kl, kd', e⟩ := say_up N s hs le ke 9 (N - 10) 0 (by omega) (by simpa using h1)
  rw [show N - 10 + 9 + 1 = N from by omega] at e
  unfold f_X7_sayNumber
  rw [show (1 : Int32) = Int32.ofNat (10 ^ 0) from rfl, e]
  have := say_dig N s hs K (N - K - 2) le ke t k9 O (by omega)
  rw [show N - K - 2 + K + 2 = N from by omega] at this
  rw [show 9 = K + (9 - K) from by omega, dgl_top s K kl kd']
  exact this
section SAY
variable {u : Nat} {ki le ri ma bi ro ta : Nat → Int32}
theorem say_rel {o : Int32} {ke : Nat → Int32} {t : List Int32} (O : Ou o ke t) (N n : Nat) (hl : t.length + 3 ≤ 1000000) {p : Nat} (hp : p < 24000) (hle : le p = 0 ∨ le p = 1 ∨ le p = 2 ∨ le p = 3) (y2 : Int32) : ∃ o' ke', f_X7_sayAtom_4 N (n + 1) o le ro ke (Int32.ofNat p) y2 9 = some (o', ke') ∧ Ou o' ke' (t ++ relT (2 + le p) ++ [48]) := by
  rw [f_X7_sayAtom_4]; dsimp only
  rw [ifb_t (by decide), ix_n _ _ _ (by omega) (by omega), i_cl _ (by omega)]
  unfold f_X7_sayAtom_125 f_X7_sayAtom_136 f_X7_sayAtom_147 relT
  rcases hle with h | h | h | h <;> rw [h]
  · rw [ifb_f (by decide), ifb_t (by decide), ifb_f (by decide)]
    obtain ⟨k1, e1, O1⟩ := o_say O N (by omega) 61
    obtain ⟨k2, e2, O2⟩ := o_say O1 N (by simp; omega) 48
    rw [bd e1, bd e2]
    exact ⟨_, _, rfl, by simpa using O2⟩
  · rw [ifb_t rfl]
    obtain ⟨k0, e0, O0⟩ := o_say O N (by omega) 33
    obtain ⟨k1, e1, O1⟩ := o_say O0 N (by simp; omega) 61
    obtain ⟨k2, e2, O2⟩ := o_say O1 N (by simp; omega) 48
    rw [bd e0, ifb_t (by decide), ifb_f (by decide), bd e1, bd e2]
    exact ⟨_, _, rfl, by simpa using O2⟩
  · rw [ifb_f (by decide), ifb_f (by decide)]
    obtain ⟨k1, e1, O1⟩ := o_say O N (by omega) 60
    obtain ⟨k2, e2, O2⟩ := o_say O1 N (by simp; omega) 48
    rw [bd e1, ifb_t (by decide), bd e2]
    exact ⟨_, _, rfl, by simpa using O2⟩
  · rw [ifb_f (by decide), ifb_f (by decide)]
    obtain ⟨k0, e0, O0⟩ := o_say O N (by omega) 60
    obtain ⟨k1, e1, O1⟩ := o_say O0 N (by simp; omega) 61
    obtain ⟨k2, e2, O2⟩ := o_say O1 N (by simp; omega) 48
    rw [bd e0, ifb_f (by decide), bd e1, bd e2]
    exact ⟨_, _, rfl, by simpa using O2⟩
theorem say_loop (N : Nat) (hN : 20 ≤ N) {p : Nat} (hp : p < 24000) (hle : le p = 0 ∨ le p = 1 ∨ le p = 2 ∨ le p = 3) (A : Atm (aRow le ro p)) (t : List Int32) (ht : t.length + 111 ≤ 1000000) : ∀ (d m k : Nat) (o : Int32) (ke : Nat → Int32), k + d = 9 → Ou o ke (t ++ atp (aRow le ro p) k) → ∃ o' ke', f_X7_sayAtom_4 N (m + d + 1) o le ro ke (Int32.ofNat p) (if atp (aRow le ro p) k = [] then 1 else 0) (Int32.ofNat k) = some (o', ke') ∧ Ou o' ke' (t ++ atx (aRow le ro p))
  | 0, m, k, o, ke, hk, O => by
    have : k = 9 := by omega
    subst this
    have hlen := atp_len (aRow le ro p) 9
    obtain ⟨o', ke', e, O'⟩ := say_rel (ro := ro) O N m (by simp; omega) hp hle (if atp (aRow le ro p) 9 = [] then 1 else 0)
    refine ⟨o', ke', e, ?_⟩
    unfold atx
    rw [show kd (aRow le ro p) = 2 + le p from rfl]
    simpa using O'
  | d + 1, m, k, o, ke, hk, O => by
    have hlen := atp_len (aRow le ro p) k
    obtain ⟨_, _, hb, _⟩ := id A
    obtain ⟨hb1, hb2⟩ := hb (1 + k) (by omega) (by omega)
    obtain ⟨ej, ejn⟩ := jabs_nat _ hb1 hb2
    have eg := aRow_get le ro p k (by omega)
    rw [show m + (d + 1) + 1 = (m + d + 1) + 1 from by omega, f_X7_sayAtom_4]; dsimp only
    rw [ifb_f (by rw [show (9 : Int32) = Int32.ofNat 9 from rfl, i_le _ _ (by omega) (by omega)]; omega), show (9 : Int32) * Int32.ofNat p = Int32.ofNat (9 * p) from i_mul 9 p, i_add, ix_n _ _ _ (by omega) (by omega), i_cl _ (by omega), ← eg]
    generalize hx : (aRow le ro p).getD (1 + k) 0 = x at *
    have rest : ∀ o ke, Ou o ke (t ++ atp (aRow le ro p) (k + 1)) → ∀ y, y = (if atp (aRow le ro p) (k + 1) = [] then (1 : Int32) else 0) → ∃ o' ke', f_X7_sayAtom_101 (f_X7_sayAtom_4 N (m + d + 1)) N o le ro ke (Int32.ofNat p) y (Int32.ofNat k) = some (o', ke') ∧ Ou o' ke' (t ++ atx (aRow le ro p)) := by
      intro o ke O' y hy
      unfold f_X7_sayAtom_101
      rw [i_p1, hy]
      exact say_loop N hN hp hle A t ht d m (k + 1) o ke (by omega) O'
    by_cases hz : x = 0
    · rw [ifb_t hz]
      have ea : atp (aRow le ro p) (k + 1) = atp (aRow le ro p) k := by
        conv => lhs; unfold atp
        rw [hx, if_pos hz]
      exact rest o ke (by rw [ea]; exact O) _ (by rw [ea])
    · rw [ifb_f hz]
      have hnz : x.toInt ≠ 0 := fun g => hz (Int32.toInt_inj.mp g)
      have tail : ∀ (o : Int32) (ke : Nat → Int32) (sg : List Int32), sg.length ≤ 1 → sg = (if x < 0 then [45] else if atp (aRow le ro p) k = [] then [] else [43]) → Ou o ke (t ++ atp (aRow le ro p) k ++ sg) → ∃ o' ke', f_X7_sayAtom_52 (f_X7_sayAtom_4 N (m + d + 1)) N o le ro ke (Int32.ofNat p) (Int32.ofNat k) x = some (o', ke') ∧ Ou o' ke' (t ++ atx (aRow le ro p)) := by
        intro o ke sg hsg hse Os
        have last : ∀ (o : Int32) (ke : Nat → Int32) (dg : List Int32), dg.length ≤ 10 → dg = (if jabs x = 1 ∧ k ≠ 8 then [] else lets (dgl (jabs x).toNatClampNeg 9 false)) → Ou o ke (t ++ atp (aRow le ro p) k ++ sg ++ dg) → ∃ o' ke', f_X7_sayAtom_85 (f_X7_sayAtom_4 N (m + d + 1)) N o le ro ke (Int32.ofNat p) (Int32.ofNat k) = some (o', ke') ∧ Ou o' ke' (t ++ atx (aRow le ro p)) := by
          intro o ke dg hdg hde Od
          unfold f_X7_sayAtom_85 f_X7_sayAtom_99
          have eat : atp (aRow le ro p) (k + 1) = atp (aRow le ro p) k ++ sg ++ dg ++ (if k < 8 then [Int32.ofNat (97 + k)] else []) := by
            conv => lhs; unfold atp
            rw [hx, if_neg hz, ← hse, ← hde]
          by_cases h8 : k < 8
          · rw [ifb_f (by rw [show (8 : Int32) = Int32.ofNat 8 from rfl, i_le _ _ (by omega) (by omega)]; omega), show (97 : Int32) + Int32.ofNat k = Int32.ofNat (97 + k) from i_add 97 _]
            obtain ⟨k3, e3, O3⟩ := o_say Od N (by simp; omega) (Int32.ofNat (97 + k))
            rw [bd e3]
            rw [if_pos h8] at eat
            refine rest _ _ ?_ _ ?_
            · rw [eat]; simpa using O3
            · rw [eat, if_neg (by simp)]
          · rw [ifb_t (by rw [show (8 : Int32) = Int32.ofNat 8 from rfl, i_le _ _ (by omega) (by omega)]; omega)]
            rw [if_neg h8] at eat
            refine rest _ _ ?_ _ ?_
            · rw [eat]; simpa using Od
            · rw [eat, if_neg]
              have k8 : k = 8 := by omega
              rw [if_neg (fun g => g.2 k8)] at hde
              intro g
              have g2 : dg = [] := by
                have := List.append_eq_nil_iff.mp g
                exact (List.append_eq_nil_iff.mp this.1).2
              rw [g2] at hde
              have g3 := congrArg List.length hde
              rw [lets_len, ejn] at g3
              have g4 : ∀ s, 1 ≤ s → s ≤ 1000000000 → 0 < (dgl s 9 false).length := by
                intro s s1 s2
                obtain ⟨K, k9, kl, kd', e⟩ := say_up 20 s s2 0 (fun _ => 0) 9 0 0 (by omega) (by simpa using s1)
                rw [show 9 = K + (9 - K) from by omega, dgl_top s K kl kd']
                cases K <;> simp [dgl]
              have := g4 x.toInt.natAbs (by omega) (by omega)
              simp at g3; omega
        have digs : ¬ (jabs x = 1 ∧ k ≠ 8) → ∃ o' ke', f_X7_sayAtom_79 (f_X7_sayAtom_4 N (m + d + 1)) N o le ro ke (Int32.ofNat p) (Int32.ofNat k) (jabs x) = some (o', ke') ∧ Ou o' ke' (t ++ atx (aRow le ro p)) := by
          intro hc
          unfold f_X7_sayAtom_79
          obtain ⟨l3, k3, e3, O3⟩ := o_sayNumber N x.toInt.natAbs hN (by omega) (by omega) Os (by simp; omega)
          rw [← ej] at e3
          rw [bd e3]
          have hdl := dgl_len x.toInt.natAbs 9 false
          exact last _ _ (lets (dgl x.toInt.natAbs 9 false)) (by rw [lets_len]; omega) (by rw [if_neg hc, ejn]) O3
        have e65 : f_X7_sayAtom_52 (f_X7_sayAtom_4 N (m + d + 1)) N o le ro ke (Int32.ofNat p) (Int32.ofNat k) x = f_X7_sayAtom_65 (f_X7_sayAtom_4 N (m + d + 1)) N o le ro ke (Int32.ofNat p) (Int32.ofNat k) (jabs x) := by
          unfold f_X7_sayAtom_52
          by_cases h : 0 ≤ x
          · rw [ifb_t h]; congr 1; show x = (if 0 ≤ x then x else 0 - x); rw [if_pos h]
          · rw [ifb_f h]; congr 1; show -x = (if 0 ≤ x then x else 0 - x); rw [if_neg h, Int32.zero_sub]
        rw [e65]
        unfold f_X7_sayAtom_65
        have hle1 : jabs x ≤ 1 ↔ jabs x = 1 := by
          rw [ej, show (1 : Int32) = Int32.ofNat 1 from rfl, i_le _ _ (by omega) (by omega), i_eq _ _ (by omega) (by omega)]; omega
        by_cases h8 : k = 8
        · rw [ifb_t (by rw [h8]; rfl)]
          exact digs (fun g => g.2 h8)
        · rw [ifb_f (by rw [show (8 : Int32) = Int32.ofNat 8 from rfl, i_eq _ _ (by omega) (by omega)]; exact h8)]
          by_cases h1 : jabs x = 1
          · rw [ifb_t (hle1.mpr h1)]
            exact last o ke [] (by simp) (by rw [if_pos ⟨h1, h8⟩]) (by simpa using Os)
          · rw [ifb_f (fun g => h1 (hle1.mp g))]
            exact digs (fun g => h1 g.1)
      by_cases hneg : x < 0
      · rw [ifb_f (fun g => absurd hneg ((i_not_lt _ _).mpr g))]
        obtain ⟨k3, e3, O3⟩ := o_say O N (by simp; omega) 45
        rw [bd e3]
        exact tail _ _ [45] (by simp) (by rw [if_pos hneg]) O3
      · rw [ifb_t ((i_not_lt _ _).mp hneg)]
        by_cases he : atp (aRow le ro p) k = []
        · rw [if_pos he, ifb_f (by decide)]
          exact tail _ _ [] (by simp) (by rw [if_neg hneg, if_pos he]) (by simpa using O)
        · rw [if_neg he, ifb_t rfl]
          obtain ⟨k3, e3, O3⟩ := o_say O N (by simp; omega) 43
          rw [bd e3]
          exact tail _ _ [43] (by simp) (by rw [if_neg hneg, if_neg he]) O3
theorem o_sayAtom (N : Nat) (hN : 20 ≤ N) {p : Nat} (hp : p < 24000) (hle : le p = 0 ∨ le p = 1 ∨ le p = 2 ∨ le p = 3) (A : Atm (aRow le ro p)) {t : List Int32} {o : Int32} {ke : Nat → Int32} (O : Ou o ke t) (ht : t.length + 111 ≤ 1000000) : ∃ o' ke', f_X7_sayAtom N o le ro ke (Int32.ofNat p) = some (o', ke') ∧ Ou o' ke' (t ++ atx (aRow le ro p)) := by
  have := say_loop N hN hp hle A t ht 9 (N - 10) 0 o ke (by omega) (by simpa [atp] using O)
  rw [show N - 10 + 9 + 1 = N from by omega] at this
  exact this
theorem o_sayAll (N : Nat) (hN : 20 ≤ N) (P : Po u ki le ri ro) : ∀ (d p : Nat) (o : Int32) (ke : Nat → Int32) (t : List Int32), p < u → (dn ki le ri ro p).length ≤ d → Ou o ke t → t.length + 115 * (dn ki le ri ro p).length ≤ 1000000 → ∃ o' ke', fg_sayAll N d o ki le ri ro ke (Int32.ofNat p) = some (o', ke') ∧ Ou o' ke' (t ++ txt (dn ki le ri ro p)) := by
  intro d
  induction d with
  | zero =>
    intro p o ke t hp hd _ _
    have := (dn_fm P p hp).pos
    omega
  | succ d ih =>
    intro p o ke t hp hd O hl
    have hu2 := P.2.1
    have hpos := (dn_fm P p hp).pos
    rw [fg_sayAll]
    unfold F_X7_sayAll f_X7_sayAll_66 f_X7_sayAll_100 f_X7_sayAll_140 f_X7_sayAll_172
    rw [ix_n _ _ _ (by omega) (by omega), i_cl _ (by omega)]
    rcases P.2.2.1 p hp with ⟨h0, h, _⟩ | ⟨h0, h, _⟩ | ⟨hp2, h, hle, hr, hA⟩ | ⟨a, b, hp2, ha, hb, hk, e1, e2, ho⟩ | ⟨v, b, hp2, hv, hb, hk, e1, e2, ho⟩
    · rw [dn0 h] at hl ⊢
      obtain ⟨k1, f1, O1⟩ := o_say O N (by simp [fT] at hl; omega) 84
      rw [ifb_f (by rw [h]; decide), ifb_t h, bd f1]
      exact ⟨_, _, rfl, O1⟩
    · rw [dn1 h] at hl ⊢
      obtain ⟨k1, f1, O1⟩ := o_say O N (by simp [fF] at hl; omega) 70
      rw [ifb_f (by rw [h]; decide), ifb_f (by rw [h]; decide), ifb_t h, bd f1]
      exact ⟨_, _, rfl, O1⟩
    · rw [dn2 h] at hl ⊢
      obtain ⟨o1, k1, f1, O1⟩ := o_sayAtom N hN (p := p) (by omega) hle hA O (by simp at hl; omega)
      rw [ifb_f (by rw [h]; decide), ifb_f (by rw [h]; decide), ifb_f (by rw [h]; decide), ifb_t h, bd f1]
      refine ⟨_, _, rfl, ?_⟩
      rw [txt_leaf (Or.inr (Or.inr hA))]
      have hkr : kd (aRow le ro p) = 2 + le p := rfl
      have n0 : ¬ (2 + le p = 0) := by rcases hle with g | g | g | g <;> rw [g] <;> decide
      have n1 : ¬ (2 + le p = 1) := by rcases hle with g | g | g | g <;> rw [g] <;> decide
      unfold tLeaf
      rw [hkr, if_neg n0, if_neg n1]
      exact O1
    · have ed := dnb P hp ha hb hk e1 e2
      have fa := dn_fm P a (by omega)
      have fb := dn_fm P b (by omega)
      have hlen : (dn ki le ri ro p).length = (dn ki le ri ro a).length + (dn ki le ri ro b).length + 1 := by rw [ed]; simp; omega
      have hkk : ki p + 3 = 6 ∨ ki p + 3 = 7 := by rcases hk with h | h <;> rw [h] <;> decide
      have ta := (txt_len fa).1
      have tb := (txt_len fb).1
      obtain ⟨k1, f1, O1⟩ := o_say O N (by omega) 40
      obtain ⟨o2, k2, f2, O2⟩ := ih a _ _ _ (by omega) (by omega) O1 (by simp; omega)
      have mid : ∀ c : Int32, ∃ o' ke', (f_X7_say N o2 k2 c).bind (fun z100 => ix (Int32.ofNat p) 24000 ((fg_sayAll N d z100.1 ki le ri ro z100.2 (ri (Int32.ofNat p).toNatClampNeg)).bind (fun z110 => (f_X7_say N z110.1 z110.2 41).bind (fun z116 => some (z116.1, z116.2))))) = some (o', ke') ∧ Ou o' ke' (t ++ [40] ++ txt (dn ki le ri ro a) ++ [c] ++ txt (dn ki le ri ro b) ++ [41]) := by
        intro c
        obtain ⟨k3, f3, O3⟩ := o_say O2 N (by simp; omega) c
        obtain ⟨o4, k4, f4, O4⟩ := ih b _ _ _ (by omega) (by omega) O3 (by simp; omega)
        obtain ⟨k5, f5, O5⟩ := o_say O4 N (by simp; omega) 41
        rw [bd f3, ix_n _ _ _ (by omega) (by omega), i_cl _ (by omega), e2, bd f4]
        dsimp only
        rw [bd f5]
        exact ⟨_, _, rfl, O5⟩
      have ek : ifb ((ki p).toInt < 0 ∨ 4 < (ki p).toInt) = fun (x y : Option (Int32 × (Nat → Int32))) => y := by
        funext x y
        exact ifb_f (by rcases hk with h | h <;> rw [h] <;> decide)
      have fin : ∀ c : Int32, c = (if kd (row0 (ki p + 3)) = 6 then 38 else 124) → t ++ txt (dn ki le ri ro p) = t ++ [40] ++ txt (dn ki le ri ro a) ++ [c] ++ txt (dn ki le ri ro b) ++ [41] := by
        intro c hc
        rw [ed, txt_bi fa fb hkk]
        unfold tBi
        rw [← hc]; simp
      rw [i_cl _ (by omega)] at mid
      rcases hk with h | h
      · obtain ⟨o', ke', em, Om⟩ := mid 38
        rw [ifb_f (by rw [h]; decide), ifb_f (by rw [h]; decide), ifb_f (by rw [h]; decide), ifb_f (by rw [h]; decide), ifb_t h, bd f1, ix_n _ _ _ (by omega) (by omega), e1, bd f2, ix_n _ _ _ (by omega) (by omega), ifb_t h, em]
        exact ⟨_, _, rfl, by rw [fin 38 (by rw [h]; decide)]; exact Om⟩
      · obtain ⟨o', ke', em, Om⟩ := mid 124
        rw [ifb_f (by rw [h]; decide), ifb_f (by rw [h]; decide), ifb_f (by rw [h]; decide), ifb_f (by rw [h]; decide), ifb_f (by rw [h]; decide), ifb_t h, bd f1, ix_n _ _ _ (by omega) (by omega), e1, bd f2, ix_n _ _ _ (by omega) (by omega), ifb_f (by rw [h]; decide), em]
        exact ⟨_, _, rfl, by rw [fin 124 (by rw [h]; decide)]; exact Om⟩
    · have ed := dnq P hp hv hb hk e1 e2
      have fb := dn_fm P b (by omega)
      have hlen : (dn ki le ri ro p).length = (dn ki le ri ro b).length + 1 := by rw [ed]; simp
      have hkk : ki p + 3 = 8 ∨ ki p + 3 = 9 := by rcases hk with h | h <;> rw [h] <;> decide
      have tb := (txt_len fb).1
      have mid : ∀ c : Int32, ∃ o' ke', (f_X7_say N o ke c).bind (fun z140 => ix (Int32.ofNat p) 24000 ((f_X7_say N z140.1 z140.2 (97 + (le p))).bind (fun z153 => (f_X7_say N z153.1 z153.2 46).bind (fun z159 => ix (Int32.ofNat p) 24000 ((fg_sayAll N d z159.1 ki le ri ro z159.2 (ri p)).bind (fun z169 => some (z169.1, z169.2))))))) = some (o', ke') ∧ Ou o' ke' (t ++ [c] ++ [97 + le p] ++ [46] ++ txt (dn ki le ri ro b)) := by
        intro c
        obtain ⟨k3, f3, O3⟩ := o_say O N (by omega) c
        obtain ⟨k4, f4, O4⟩ := o_say O3 N (by simp; omega) (97 + le p)
        obtain ⟨k5, f5, O5⟩ := o_say O4 N (by simp; omega) 46
        obtain ⟨o6, k6, f6, O6⟩ := ih b _ _ _ (by omega) (by omega) O5 (by simp; omega)
        rw [bd f3, ix_n _ _ _ (by omega) (by omega)]
        dsimp only
        rw [bd f4]
        dsimp only
        rw [bd f5, ix_n _ _ _ (by omega) (by omega), e2]
        dsimp only
        rw [bd f6]
        exact ⟨_, _, rfl, O6⟩
      have fin : ∀ c : Int32, c = (if kd (rowq (ki p + 3) v) = 8 then 69 else 65) → t ++ txt (dn ki le ri ro p) = t ++ [c] ++ [97 + le p] ++ [46] ++ txt (dn ki le ri ro b) := by
        intro c hc
        rw [ed, txt_qu fb hkk]
        unfold tQu
        rw [← hc, show qv (rowq (ki p + 3) v) = Int32.ofNat v from rfl, e1]; simp
      rcases hk with h | h
      · obtain ⟨o', ke', em, Om⟩ := mid 69
        rw [ifb_t (by rw [h]; decide), ix_n _ _ _ (by omega) (by omega), ifb_t h, em]
        exact ⟨_, _, rfl, by rw [fin 69 (by rw [h]; rfl)]; exact Om⟩
      · obtain ⟨o', ke', em, Om⟩ := mid 65
        rw [ifb_t (by rw [h]; decide), ix_n _ _ _ (by omega) (by omega), ifb_f (by rw [h]; decide), em]
        exact ⟨_, _, rfl, by rw [fin 65 (by rw [h]; rfl)]; exact Om⟩
end SAY
