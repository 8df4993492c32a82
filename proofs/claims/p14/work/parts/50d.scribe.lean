theorem or01 (b : Bool) : (if b then (1 : Int32) else 0) ||| 0 = (if b then 1 else 0) := by cases b <;> decide
theorem or11 (b : Bool) : (if b then (1 : Int32) else 0) ||| 1 = 1 := by cases b <;> decide
theorem pw9 (k : Nat) (h : k ≤ 9) : 10 ^ k ≤ 1000000000 := by
  have : 10 ^ k ≤ 10 ^ 9 := Nat.pow_le_pow_right (by omega) h
  simpa using this
theorem dig_loop (N s : Nat) (hs : s ≤ 1000000000) : ∀ (k m : Nat) (le : Int32) (ke : Nat → Int32) (t : List Int32) (b : Bool), k ≤ 9 → Ou le ke t → t.length + k + 1 ≤ 1000000 → ∃ le' ke', f_X3_digits_5 N (m + k + 2) le ke (Int32.ofNat s) (if b then 1 else 0) (Int32.ofNat (10 ^ k)) = some (le', ke') ∧ Ou le' ke' (t ++ lets (dgl s k b)) := by
  intro k
  induction k with
  | zero =>
    intro m le ke t b hk O hl
    rw [show m + 0 + 2 = (m + 1) + 1 from by omega, f_X3_digits_5]; dsimp only
    have e1 : Int32.ofNat s / Int32.ofNat (10 ^ 0) = Int32.ofNat s := by rw [i_div _ _ (by omega) (by decide) (by decide)]; simp
    have e2 : Int32.ofNat s - Int32.ofNat s / 10 * 10 = Int32.ofNat (s % 10) := by
      rw [show Int32.ofNat s / 10 = Int32.ofNat (s / 10) from i_div s 10 (by omega) (by decide) (by decide), i_m10, i_sub _ _ (by omega)]
      congr 1; omega
    have e3 : Int32.ofNat (10 ^ 0) / 10 = 0 := by decide
    have fin : ∀ le ke (y2 : Int32), f_X3_digits_5 N (m + 1) le ke (Int32.ofNat s) y2 0 = some (le, ke) := by
      intro le ke y2
      rw [f_X3_digits_5]; dsimp only
      rw [ifb_t (by decide)]
    rw [ifb_f (by decide), ckp_t (by decide), e1, e2]
    unfold f_X3_digits_28 f_X3_digits_43
    rw [or01, or11, e3]
    unfold dgl
    by_cases hz : s % 10 = 0
    · rw [ifb_t (by rw [hz]; rfl)]
      cases b
      · rw [ifb_t (by decide), fin]
        exact ⟨_, _, rfl, by simp [hz, lets]; exact O⟩
      · rw [ifb_f (by decide)]
        obtain ⟨ke', e, O'⟩ := o_letter O N (by omega) (48 + Int32.ofNat (s % 10))
        rw [bd e, fin]
        refine ⟨_, _, rfl, ?_⟩
        rw [show (48 : Int32) + Int32.ofNat (s % 10) = Int32.ofNat (48 + s % 10) from i_add 48 _] at O'
        simpa [lets] using O'
    · rw [ifb_f (by rw [show (0 : Int32) = Int32.ofNat 0 from rfl, i_eq _ _ (by omega) (by omega)]; exact hz), ifb_f (by decide)]
      obtain ⟨ke', e, O'⟩ := o_letter O N (by omega) (48 + Int32.ofNat (s % 10))
      rw [bd e, fin]
      refine ⟨_, _, rfl, ?_⟩
      rw [show (48 : Int32) + Int32.ofNat (s % 10) = Int32.ofNat (48 + s % 10) from i_add 48 _] at O'
      simpa [lets, hz] using O'
  | succ k ih =>
    intro m le ke t b hk O hl
    have hp := pw9 (k + 1) hk
    have hp0 : 0 < 10 ^ (k + 1) := Nat.pow_pos (by omega)
    rw [show m + (k + 1) + 2 = (m + k + 2) + 1 from by omega, f_X3_digits_5]; dsimp only
    have hq : s / 10 ^ (k + 1) ≤ s := Nat.div_le_self _ _
    have e1 : Int32.ofNat s / Int32.ofNat (10 ^ (k + 1)) = Int32.ofNat (s / 10 ^ (k + 1)) := i_div _ _ (by omega) (by omega) hp0
    have e2 : Int32.ofNat (s / 10 ^ (k + 1)) - Int32.ofNat (s / 10 ^ (k + 1)) / 10 * 10 = Int32.ofNat (s / 10 ^ (k + 1) % 10) := by
      generalize s / 10 ^ (k + 1) = q at hq
      rw [show Int32.ofNat q / 10 = Int32.ofNat (q / 10) from i_div q 10 (by omega) (by decide) (by decide), i_m10, i_sub _ _ (by omega)]
      congr 1; omega
    have e3 : Int32.ofNat (10 ^ (k + 1)) / 10 = Int32.ofNat (10 ^ k) := by
      rw [show (10 : Int32) = Int32.ofNat 10 from rfl, i_div _ _ (by omega) (by decide) (by decide)]
      congr 1; rw [Nat.pow_succ]; omega
    have hd10 : s / 10 ^ (k + 1) % 10 < 10 := Nat.mod_lt _ (by omega)
    rw [ifb_f (by rw [show (0 : Int32) = Int32.ofNat 0 from rfl, i_le _ _ (by omega) (by omega)]; omega), ckp_t (by rw [show (0 : Int32) = Int32.ofNat 0 from rfl, i_eq _ _ (by omega) (by omega)]; omega), e1, e2]
    unfold f_X3_digits_28 f_X3_digits_43
    rw [or01, or11, e3]
    unfold dgl
    generalize s / 10 ^ (k + 1) % 10 = dg at hd10
    by_cases hz : dg = 0
    · rw [ifb_t (by rw [hz]; rfl)]
      cases b
      · rw [ifb_t (by decide)]
        have := ih m le ke t false (by omega) O (by omega)
        simpa [hz] using this
      · rw [ifb_f (by decide)]
        obtain ⟨ke', e, O'⟩ := o_letter O N (by omega) (48 + Int32.ofNat dg)
        rw [bd e]
        rw [show (48 : Int32) + Int32.ofNat dg = Int32.ofNat (48 + dg) from i_add 48 _] at O'
        have := ih m _ ke' _ true (by omega) O' (by simp; omega)
        simpa [lets] using this
    · rw [ifb_f (by rw [show (0 : Int32) = Int32.ofNat 0 from rfl, i_eq _ _ (by omega) (by omega)]; exact hz), ifb_f (by decide)]
      obtain ⟨ke', e, O'⟩ := o_letter O N (by omega) (48 + Int32.ofNat dg)
      rw [bd e]
      rw [show (48 : Int32) + Int32.ofNat dg = Int32.ofNat (48 + dg) from i_add 48 _] at O'
      have := ih m _ ke' _ true (by omega) O' (by simp; omega)
      simpa [lets, hz] using this
theorem o_digits (N s : Nat) (hN : 20 ≤ N) (hs : s ≤ 1000000000) {le : Int32} {ke : Nat → Int32} {t : List Int32} (O : Ou le ke t) (hl : t.length + 10 ≤ 1000000) : ∃ le' ke', f_X3_digits N le ke (Int32.ofNat s) = some (le', ke') ∧ Ou le' ke' (t ++ lets (dgl s 9 false)) := by
  have := dig_loop N s hs 9 (N - 11) le ke t false (by omega) O (by omega)
  rw [show N - 11 + 9 + 2 = N from by omega] at this
  exact this
def relT (k : Int32) : List Int32 := if k = 3 then [33, 61] else if k = 2 then [61] else if k = 4 then [60] else [60, 61]
def atp (r : List Int32) : Nat → List Int32
  | 0 => []
  | k + 1 => if r.getD (1 + k) 0 = 0 then atp r k else atp r k ++ (if r.getD (1 + k) 0 < 0 then [45] else if atp r k = [] then [] else [43]) ++ (if jabs (r.getD (1 + k) 0) = 1 ∧ k ≠ 8 then [] else lets (dgl (jabs (r.getD (1 + k) 0)).toNatClampNeg 9 false)) ++ (if k < 8 then [Int32.ofNat (97 + k)] else [])
def atx (r : List Int32) : List Int32 := atp r 9 ++ relT (kd r) ++ [48]
theorem lets_len (d : List Nat) : (lets d).length = d.length := by unfold lets; simp
theorem atp_len (r : List Int32) : ∀ k, (atp r k).length ≤ 12 * k
  | 0 => by simp [atp]
  | k + 1 => by
    have h1 := atp_len r k
    have h2 := dgl_len (jabs (r.getD (1 + k) 0)).toNatClampNeg 9 false
    unfold atp
    split
    · omega
    · rw [List.length_append, List.length_append, List.length_append]
      have a1 : (if r.getD (1 + k) 0 < 0 then [45] else if atp r k = [] then [] else [43] : List Int32).length ≤ 1 := by
        split
        · simp
        · split <;> simp
      have a2 : (if jabs (r.getD (1 + k) 0) = 1 ∧ k ≠ 8 then [] else lets (dgl (jabs (r.getD (1 + k) 0)).toNatClampNeg 9 false)).length ≤ 10 := by
        split
        · simp
        · rw [lets_len]; omega
      have a3 : (if k < 8 then [Int32.ofNat (97 + k)] else []).length ≤ 1 := by split <;> simp
      omega
theorem relT_len (k : Int32) : (relT k).length ≤ 2 := by
  unfold relT
  split
  · simp
  · split
    · simp
    · split <;> simp
theorem atx_len (r : List Int32) : (atx r).length ≤ 111 := by
  have h1 := atp_len r 9
  have h2 := relT_len (kd r)
  unfold atx
  rw [List.length_append, List.length_append]
  simp
  omega
theorem o_relation {le : Int32} {ke : Nat → Int32} {t : List Int32} (O : Ou le ke t) (N : Nat) (hl : t.length + 2 ≤ 1000000) (k : Int32) : ∃ le' ke', f_X3_relation N le ke k = some (le', ke') ∧ Ou le' ke' (t ++ relT k) := by
  unfold f_X3_relation f_X3_relation_25 f_X3_relation_36 relT
  by_cases h3 : k = 3
  · obtain ⟨k1, e1, O1⟩ := o_letter O N (by omega) 33
    obtain ⟨k2, e2, O2⟩ := o_letter O1 N (by simp; omega) 61
    rw [ifb_t h3, if_pos h3, bd e1, ifb_f (by rw [h3]; decide), bd e2]
    exact ⟨_, _, rfl, by simpa using O2⟩
  · rw [ifb_f h3, if_neg h3]
    by_cases h2 : k = 2
    · obtain ⟨k2, e2, O2⟩ := o_letter O N (by omega) 61
      rw [ifb_t h2, if_pos h2, ifb_f (by rw [h2]; decide), bd e2]
      exact ⟨_, _, rfl, O2⟩
    · obtain ⟨k1, e1, O1⟩ := o_letter O N (by omega) 60
      rw [ifb_f h2, if_neg h2, bd e1]
      by_cases h4 : k = 4
      · rw [ifb_t h4, if_pos h4]
        exact ⟨_, _, rfl, O1⟩
      · obtain ⟨k2, e2, O2⟩ := o_letter O1 N (by simp; omega) 61
        rw [ifb_f h4, if_neg h4, bd e2]
        exact ⟨_, _, rfl, by simpa using O2⟩
theorem jabs_nat (x : Int32) (h1 : -1000000000 ≤ x.toInt) (h2 : x.toInt ≤ 1000000000) : jabs x = Int32.ofNat x.toInt.natAbs ∧ (jabs x).toNatClampNeg = x.toInt.natAbs := by
  have e : jabs x = Int32.ofNat x.toInt.natAbs := by
    apply Int32.toInt_inj.mp
    rw [i_toInt _ (by omega)]
    show (if 0 ≤ x then x else 0 - x).toInt = _
    by_cases h : 0 ≤ x
    · rw [if_pos h]
      rw [Int32.le_iff_toInt_le, show (0 : Int32).toInt = 0 from rfl] at h
      omega
    · rw [if_neg h]
      rw [Int32.le_iff_toInt_le, show (0 : Int32).toInt = 0 from rfl] at h
      rw [Int32.toInt_sub, show (0 : Int32).toInt = 0 from rfl, bm32 _ (by omega) (by omega)]; omega
  refine ⟨e, ?_⟩
  rw [e, i_cl _ (by omega)]
theorem atom_loop {r1 : Int32} {c1 : Nat → Int32} {n1 : Nat} {l : List (List Int32)} (T : Tr r1 c1 n1 l) (N : Nat) (hN : 20 ≤ N) (i : Nat) (hi : i < l.length) (A : Atm l[i]) (t : List Int32) (ht : t.length + 111 ≤ 1000000) : ∀ (d m k : Nat) (le : Int32) (ke : Nat → Int32), k + d = 9 → Ou le ke (t ++ atp l[i] k) → ∃ le' ke', f_X3_atom_8 N (m + d + 1) le ke r1 c1 n1 (Int32.ofNat i) (Int32.ofNat t.length) (Int32.ofNat k) = some (le', ke') ∧ Ou le' ke' (t ++ atx l[i])
  | 0, m, k, le, ke, hk, O => by
    have : k = 9 := by omega
    subst this
    have hl := atp_len l[i] 9
    rw [f_X3_atom_8]; dsimp only
    obtain ⟨l1, k1, e1, O1⟩ := o_relation O N (by simp; omega) (kd l[i])
    have hl2 := relT_len (kd l[i])
    obtain ⟨k2, e2, O2⟩ := o_letter O1 N (by simp; omega) 48
    have ek : f_X5_kind N r1 c1 n1 (Int32.ofNat i) = some (kd l[i]) := by rw [t_kind T N i hi, lc_getD _ hi]; rfl
    have hle := O1.1
    rw [ifb_t (by decide), bd ek, bd e1, bd e2]
    exact ⟨_, _, rfl, by unfold atx; simpa using O2⟩
  | d + 1, m, k, le, ke, hk, O => by
    have hlen := atp_len l[i] k
    obtain ⟨_, _, hb, _⟩ := id A
    obtain ⟨hb1, hb2⟩ := hb (1 + k) (by omega) (by omega)
    obtain ⟨ej, ejn⟩ := jabs_nat _ hb1 hb2
    rw [show m + (d + 1) + 1 = (m + d + 1) + 1 from by omega, f_X3_atom_8]; dsimp only
    rw [ifb_f (by rw [show (9 : Int32) = Int32.ofNat 9 from rfl, i_le _ _ (by omega) (by omega)]; omega), bd (t_number T N i k hi (by omega)), lc_getD _ hi]
    have rest : ∀ le ke, Ou le ke (t ++ atp l[i] (k + 1)) → ∃ le' ke', f_X3_atom_99 (f_X3_atom_8 N (m + d + 1)) N le ke r1 c1 n1 (Int32.ofNat i) (Int32.ofNat t.length) (Int32.ofNat k) = some (le', ke') ∧ Ou le' ke' (t ++ atx l[i]) := by
      intro le ke O'
      unfold f_X3_atom_99
      rw [i_p1]
      exact atom_loop T N hN i hi A t ht d m (k + 1) le ke (by omega) O'
    by_cases hz : (l[i]).getD (1 + k) 0 = 0
    · rw [ifb_t hz]
      apply rest
      unfold atp; rw [if_pos hz]; exact O
    · rw [ifb_f hz]

      have tail : ∀ (le : Int32) (ke : Nat → Int32) (sg : List Int32), sg.length ≤ 1 → sg = (if (l[i]).getD (1 + k) 0 < 0 then [45] else if atp l[i] k = [] then [] else [43]) → Ou le ke (t ++ atp l[i] k ++ sg) → ∃ le' ke', f_X3_atom_57 (f_X3_atom_8 N (m + d + 1)) N le ke r1 c1 n1 (Int32.ofNat i) (Int32.ofNat t.length) (Int32.ofNat k) ((l[i]).getD (1 + k) 0) = some (le', ke') ∧ Ou le' ke' (t ++ atx l[i]) := by
        intro le ke sg hsg hse Os
        have last : ∀ (le : Int32) (ke : Nat → Int32) (dg : List Int32), dg.length ≤ 10 → dg = (if jabs ((l[i]).getD (1 + k) 0) = 1 ∧ k ≠ 8 then [] else lets (dgl (jabs ((l[i]).getD (1 + k) 0)).toNatClampNeg 9 false)) → Ou le ke (t ++ atp l[i] k ++ sg ++ dg) → ∃ le' ke', f_X3_atom_83 (f_X3_atom_8 N (m + d + 1)) N le ke r1 c1 n1 (Int32.ofNat i) (Int32.ofNat t.length) (Int32.ofNat k) = some (le', ke') ∧ Ou le' ke' (t ++ atx l[i]) := by
          intro le ke dg hdg hde Od
          unfold f_X3_atom_83
          have eat : atp l[i] (k + 1) = atp l[i] k ++ sg ++ dg ++ (if k < 8 then [Int32.ofNat (97 + k)] else []) := by
            conv => lhs; unfold atp
            rw [if_neg hz, ← hse, ← hde]
          by_cases h8 : k < 8
          · rw [ifb_f (by rw [show (8 : Int32) = Int32.ofNat 8 from rfl, i_le _ _ (by omega) (by omega)]; omega), show (97 : Int32) + Int32.ofNat k = Int32.ofNat (97 + k) from i_add 97 _]
            obtain ⟨k3, e3, O3⟩ := o_letter Od N (by simp; omega) (Int32.ofNat (97 + k))
            rw [bd e3]
            apply rest
            rw [eat, if_pos h8]
            simpa using O3
          · rw [ifb_t (by rw [show (8 : Int32) = Int32.ofNat 8 from rfl, i_le _ _ (by omega) (by omega)]; omega)]
            apply rest
            rw [eat, if_neg h8]
            simpa using Od
        have digs : ¬ (jabs ((l[i]).getD (1 + k) 0) = 1 ∧ k ≠ 8) → ∃ le' ke', f_X3_atom_77 (f_X3_atom_8 N (m + d + 1)) N le ke r1 c1 n1 (Int32.ofNat i) (Int32.ofNat t.length) (Int32.ofNat k) (jabs ((l[i]).getD (1 + k) 0)) = some (le', ke') ∧ Ou le' ke' (t ++ atx l[i]) := by
          intro hc
          unfold f_X3_atom_77
          obtain ⟨l3, k3, e3, O3⟩ := o_digits N ((l[i]).getD (1 + k) 0).toInt.natAbs hN (by omega) Os (by simp; omega)
          rw [← ej] at e3
          rw [bd e3]
          have hdl := dgl_len ((l[i]).getD (1 + k) 0).toInt.natAbs 9 false
          exact last _ _ (lets (dgl ((l[i]).getD (1 + k) 0).toInt.natAbs 9 false)) (by rw [lets_len]; omega) (by rw [if_neg hc, ejn]) O3
        unfold f_X3_atom_57
        by_cases h1 : jabs ((l[i]).getD (1 + k) 0) = 1
        · rw [ifb_t h1]
          by_cases h8 : k = 8
          · rw [ifb_t (by rw [h8]; rfl)]
            exact digs (fun g => g.2 h8)
          · rw [ifb_f (by rw [show (8 : Int32) = Int32.ofNat 8 from rfl, i_eq _ _ (by omega) (by omega)]; exact h8)]
            exact last le ke [] (by simp) (by rw [if_pos ⟨h1, h8⟩]) (by simpa using Os)
        · rw [ifb_f h1]
          exact digs (fun g => h1 g.1)
      by_cases hneg : (l[i]).getD (1 + k) 0 < 0
      · rw [ifb_f (fun g => absurd hneg ((i_not_lt _ _).mpr g))]
        obtain ⟨k3, e3, O3⟩ := o_letter O N (by simp; omega) 45
        rw [bd e3]
        exact tail _ _ [45] (by simp) (by rw [if_pos hneg]) O3
      · rw [ifb_t ((i_not_lt _ _).mp hneg)]
        have hle := O.1
        by_cases he : atp l[i] k = []
        · rw [ifb_t (by rw [hle, he, List.append_nil, i_le _ _ (by omega) (by omega)]; omega)]
          exact tail _ _ [] (by simp) (by rw [if_neg hneg, if_pos he]) (by simpa using O)
        · have hpos : 0 < (atp l[i] k).length := List.length_pos_iff.mpr he
          rw [ifb_f (by rw [hle, List.length_append, i_le _ _ (by omega) (by omega)]; omega)]
          obtain ⟨k3, e3, O3⟩ := o_letter O N (by simp; omega) 43
          rw [bd e3]
          exact tail _ _ [43] (by simp) (by rw [if_neg hneg, if_neg he]) O3
theorem o_atom {r1 : Int32} {c1 : Nat → Int32} {n1 : Nat} {l : List (List Int32)} (T : Tr r1 c1 n1 l) (N : Nat) (hN : 20 ≤ N) (i : Nat) (hi : i < l.length) (A : Atm l[i]) {le : Int32} {ke : Nat → Int32} {t : List Int32} (O : Ou le ke t) (ht : t.length + 111 ≤ 1000000) : ∃ le' ke', f_X3_atom N le ke r1 c1 n1 (Int32.ofNat i) = some (le', ke') ∧ Ou le' ke' (t ++ atx l[i]) := by
  have := atom_loop T N hN i hi A t ht 9 (N - 10) 0 le ke (by omega) (by simpa [atp] using O)
  rw [show N - 10 + 9 + 1 = N from by omega] at this
  unfold f_X3_atom
  rw [O.1]
  rw [← O.1] at this ⊢
  exact this
def tLeaf (r : List Int32) : List Int32 := if kd r = 0 then [84] else if kd r = 1 then [70] else atx r
def tQu (r : List Int32) (x : List Int32) : List Int32 := (if kd r = 8 then 69 else 65) :: (97 + qv r) :: 46 :: x
def tBi (r : List Int32) (x y : List Int32) : List Int32 := 40 :: (x ++ (if kd r = 6 then 38 else 124) :: (y ++ [41]))
def txt (l : List (List Int32)) : List Int32 := cata tLeaf tQu tBi [] l
def wk (l : List (List Int32)) : Nat := cata (fun _ => 1) (fun _ x => 1 + x) (fun _ x y => 3 + x + y) 0 l
theorem txt_qu {a : List (List Int32)} {k : Int32} (ha : Fm a) (hk : k = 8 ∨ k = 9) (v : Nat) : txt (a ++ [rowq k v]) = tQu (rowq k v) (txt a) := cata_qu _ _ _ _ ha hk v
theorem txt_bi {a b : List (List Int32)} {k : Int32} (ha : Fm a) (hb : Fm b) (hk : k = 6 ∨ k = 7) : txt (a ++ b ++ [row0 k]) = tBi (row0 k) (txt a) (txt b) := cata_bi _ _ _ _ ha hb hk
theorem txt_leaf {r : List Int32} (h : Leaf r) : txt [r] = tLeaf r := cata_leaf _ _ _ _ h
theorem wk_qu {a : List (List Int32)} {k : Int32} (ha : Fm a) (hk : k = 8 ∨ k = 9) (v : Nat) : wk (a ++ [rowq k v]) = 1 + wk a := cata_qu _ _ _ _ ha hk v
theorem wk_bi {a b : List (List Int32)} {k : Int32} (ha : Fm a) (hb : Fm b) (hk : k = 6 ∨ k = 7) : wk (a ++ b ++ [row0 k]) = 3 + wk a + wk b := cata_bi _ _ _ _ ha hb hk
theorem wk_leaf {r : List Int32} (h : Leaf r) : wk [r] = 1 := cata_leaf _ _ _ _ h
theorem txt_len {l : List (List Int32)} (h : Fm l) : (txt l).length ≤ 115 * l.length ∧ wk l ≤ 3 * l.length ∧ 1 ≤ wk l := by
  refine Fm.ind (P := fun l => (txt l).length ≤ 115 * l.length ∧ wk l ≤ 3 * l.length ∧ 1 ≤ wk l) ?_ ?_ ?_ h
  · intro r hr
    rw [txt_leaf hr, wk_leaf hr]
    refine ⟨?_, by simp, by omega⟩
    have := atx_len r
    unfold tLeaf
    split
    · simp
    · split
      · simp
      · simp; omega
  · intro a k v ha ⟨h1, h2, h3⟩ hk hv _
    rw [txt_qu ha hk, wk_qu ha hk]
    unfold tQu
    simp
    omega
  · intro a b k ha hb ⟨h1, h2, h3⟩ ⟨g1, g2, g3⟩ hk _
    rw [txt_bi ha hb hk, wk_bi ha hb hk]
    unfold tBi
    simp
    omega
def It (l : List (List Int32)) (x : Int32 × List Int32 × Nat) : Prop := (∃ c : Nat, 0 < c ∧ c < 200 ∧ x = (-(Int32.ofNat c), [Int32.ofNat c], 1)) ∨ (∃ pre f post, l = pre ++ f ++ post ∧ Fm f ∧ x = (Int32.ofNat (pre.length + f.length - 1), txt f, wk f))
def tsum : List (Int32 × List Int32 × Nat) → Nat
  | [] => 0
  | x :: s => x.2.2 + tsum s
def ttxt : List (Int32 × List Int32 × Nat) → List Int32
  | [] => []
  | x :: s => x.2.1 ++ ttxt s
def Wo (wo : Nat → Int32) : List (Int32 × List Int32 × Nat) → Prop
  | [] => True
  | x :: s => wo s.length = x.1 ∧ Wo wo s
theorem Wo.upd {wo : Nat → Int32} {y : Int32} : ∀ {s : List (Int32 × List Int32 × Nat)} {k : Nat}, Wo wo s → s.length ≤ k → Wo (upd wo k y) s
  | [], k, h, hk => trivial
  | x :: s, k, h, hk => ⟨by rw [upd_ne _ _ _ _ (by simp at hk; omega)]; exact h.1, Wo.upd h.2 (by simp at hk; omega)⟩
theorem o_later {wo : Nat → Int32} {s : List (Int32 × List Int32 × Nat)} (h : Wo wo s) (N : Nat) (hl : s.length < 1600) (x : Int32 × List Int32 × Nat) : ∃ wo', f_X3_later N (Int32.ofNat s.length) wo x.1 = some (Int32.ofNat (x :: s).length, wo') ∧ Wo wo' (x :: s) := by
  unfold f_X3_later f_X3_later_30
  rw [ifb_f (by rw [show (1600 : Int32) = Int32.ofNat 1600 from rfl, i_le _ _ (by omega) (by omega)]; omega), ix_n _ _ _ (by omega) (by omega), i_cl _ (by omega), i_p1]
  exact ⟨_, rfl, upd_at _ _ _, h.upd (Nat.le_refl _)⟩
theorem It.pos {l : List (List Int32)} {x : Int32 × List Int32 × Nat} (h : It l x) : 1 ≤ x.2.2 := by
  rcases h with ⟨c, _, _, rfl⟩ | ⟨pre, f, post, _, hf, rfl⟩
  · exact Nat.le_refl _
  · exact (txt_len hf).2.2
theorem s_len {l : List (List Int32)} : ∀ {s : List (Int32 × List Int32 × Nat)}, (∀ x ∈ s, It l x) → s.length ≤ tsum s
  | [], _ => by simp
  | x :: s, h => by
    have h1 := (h x List.mem_cons_self).pos
    have h2 := s_len (s := s) (fun y hy => h y (List.mem_cons_of_mem _ hy))
    simp [tsum]; omega
theorem i_neg_lt (c : Nat) (h0 : 0 < c) (h : c < 200) : ¬ (0 ≤ -(Int32.ofNat c)) ∧ -(-(Int32.ofNat c)) = Int32.ofNat c := by
  refine ⟨?_, Int32.neg_neg⟩
  rw [Int32.le_iff_toInt_le, Int32.toInt_neg, i_toInt c (by omega), show (0 : Int32).toInt = 0 from rfl, bm32 _ (by omega) (by omega)]
  omega
theorem el_at {l pre post : List (List Int32)} {r : List Int32} (e : l = pre ++ r :: post) {i : Nat} (hi : i < l.length) (h : i = pre.length) : l[i] = r := by
  subst e; subst h; simp
section PUT2
variable {r1 : Int32} {c1 : Nat → Int32} {n1 : Nat} {l : List (List Int32)}
theorem put_loop (N : Nat) (hN : 2000 ≤ N) (T : Tr r1 c1 n1 l) (h400 : l.length ≤ 400) {sp : Nat → Int32} (hsp : Spk sp l l.length) : ∀ (w m y : Nat) (s : List (Int32 × List Int32 × Nat)) (le : Int32) (ke wo : Nat → Int32) (t : List Int32), tsum s = w → y + w ≤ 1600 → (∀ x ∈ s, It l x) → Wo wo s → Ou le ke t → t.length + (ttxt s).length + 200 ≤ 1000000 → ∃ le' wk' ke' wo', f_X3_put_30 N (m + w + 1) le (Int32.ofNat s.length) ke sp wo r1 c1 n1 (Int32.ofNat y) = some (le', wk', ke', sp, wo') ∧ Ou le' ke' (t ++ ttxt s) := by
  intro w
  induction w with
  | zero =>
    intro m y s le ke wo t hw hy hs hwo O hl
    have : s = [] := by
      cases s with
      | nil => rfl
      | cons x s =>
        have := (hs x List.mem_cons_self).pos
        simp [tsum] at hw; omega
    subst this
    rw [f_X3_put_30]; dsimp only
    unfold f_X3_put_89
    refine ⟨le, Int32.ofNat 0, ke, wo, ?_, by simpa [ttxt] using O⟩
    by_cases h16 : 1600 ≤ y
    · rw [ifb_t (by rw [show (1600 : Int32) = Int32.ofNat 1600 from rfl, i_le _ _ (by omega) (by omega)]; exact h16)]; rfl
    · rw [ifb_f (by rw [show (1600 : Int32) = Int32.ofNat 1600 from rfl, i_le _ _ (by omega) (by omega)]; exact h16), ifb_t (by decide)]; rfl
  | succ w ih =>
    intro m y s le ke wo t hw hy hs hwo O hl
    cases s with
    | nil => simp [tsum] at hw
    | cons x s =>
      have hx := hs x List.mem_cons_self
      have hs' : ∀ z ∈ s, It l z := fun z hz => hs z (List.mem_cons_of_mem _ hz)
      have hsl := s_len hs'
      have hxp := hx.pos
      obtain ⟨hw1, hw2⟩ := hwo
      simp only [tsum] at hw
      simp only [ttxt, List.length_append] at hl
      rw [show m + (w + 1) + 1 = (m + w + 1) + 1 from by omega, f_X3_put_30]; dsimp only
      rw [ifb_f (by rw [show (1600 : Int32) = Int32.ofNat 1600 from rfl, i_le _ _ (by omega) (by omega)]; omega), ifb_f (by rw [show (0 : Int32) = Int32.ofNat 0 from rfl, i_le _ _ (by simp; omega) (by omega)]; simp), i_m1 _ (by simp), show (x :: s).length - 1 = s.length from by simp, ix_n _ _ _ (by omega) (by omega), i_cl _ (by omega), hw1]
      unfold f_X3_put_83
      rw [i_p1]
      rcases hx with ⟨c, hc0, hc, rfl⟩ | ⟨pre, f, post, e, hf, rfl⟩
      · obtain ⟨g1, g2⟩ := i_neg_lt c hc0 hc
        rw [ifb_f g1, g2]
        have hw' : 1 + tsum s = w + 1 := hw
        obtain ⟨k1, e1, O1⟩ := o_letter O N (by omega) (Int32.ofNat c)
        rw [bd e1]
        obtain ⟨le', wk', ke', wo', e2, O2⟩ := ih m (y + 1) s _ k1 wo _ (by omega) (by omega) hs' hw2 O1 (by simp at hl ⊢; omega)
        exact ⟨le', wk', ke', wo', e2, by simpa [ttxt] using O2⟩
      · have hpos := hf.pos
        have hlen := congrArg List.length e
        rw [List.length_append, List.length_append] at hlen
        have hi : pre.length + f.length - 1 < l.length := by omega
        rw [ifb_t (i_ge0 _ (by omega))]
        have ek : f_X5_kind N r1 c1 n1 (Int32.ofNat (pre.length + f.length - 1)) = some (kd l[pre.length + f.length - 1]) := by rw [t_kind T N _ hi, lc_getD _ hi]; rfl
        have fin : ∀ (le : Int32) (ke : Nat → Int32) (wo : Nat → Int32) (s2 : List (Int32 × List Int32 × Nat)) (u : List Int32), tsum s2 = w → (∀ z ∈ s2, It l z) → Wo wo s2 → Ou le ke (t ++ u) → u ++ ttxt s2 = txt f ++ ttxt s → ∃ le' wk' ke' wo', f_X3_put_30 N (m + w + 1) le (Int32.ofNat s2.length) ke sp wo r1 c1 n1 (Int32.ofNat (y + 1)) = some (le', wk', ke', sp, wo') ∧ Ou le' ke' (t ++ ttxt ((Int32.ofNat (pre.length + f.length - 1), txt f, wk f) :: s)) := by
          intro le ke wo s2 u h1 h2 h3 h4 h5
          have h6 := congrArg List.length h5
          rw [List.length_append, List.length_append] at h6
          obtain ⟨le', wk', ke', wo', e2, O2⟩ := ih m (y + 1) s2 le ke wo (t ++ u) h1 (by omega) h2 h3 h4 (by simp at hl ⊢; omega)
          refine ⟨le', wk', ke', wo', e2, ?_⟩
          simp only [ttxt]
          rw [List.append_assoc, h5] at O2
          exact O2
        unfold f_X3_node f_X3_node_15 f_X3_node_27 f_X3_node_67 f_X3_node_144 f_X3_node_161
        rw [bd ek]
        rcases hf.cases with ⟨r, hr, rfl⟩ | ⟨a, kk, v, ha, hkk, hv, ho, rfl⟩ | ⟨a, b, kk, ha, hb, hkk, ho, rfl⟩
        · have er : l[pre.length + [r].length - 1] = r := by simp [e]
          rw [er]
          simp only [wk_leaf hr] at hw hxp
          simp only [txt_leaf hr] at hl fin ⊢
          by_cases h0 : kd r = 0
          · rw [ifb_t h0, ifb_t h0]
            obtain ⟨k1, e1, O1⟩ := o_letter O N (by omega) 84
            rw [bd e1]
            exact fin _ k1 wo s [84] (by omega) hs' hw2 O1 (by unfold tLeaf; rw [if_pos h0])
          · rw [ifb_f h0]
            by_cases h1 : kd r = 1
            · rw [ifb_t h1, ifb_f h0]
              obtain ⟨k1, e1, O1⟩ := o_letter O N (by omega) 70
              rw [bd e1]
              exact fin _ k1 wo s [70] (by omega) hs' hw2 O1 (by unfold tLeaf; rw [if_neg h0, if_pos h1])
            · have hA : Atm r := by
                rcases hr with rfl | rfl | h
                · exact absurd rfl h0
                · exact absurd rfl h1
                · exact h
              rw [ifb_f h1, ifb_f (by
                intro g
                have := hr.kd
                rw [Int32.lt_iff_toInt_lt] at g this
                rw [show (5 : Int32).toInt = 5 from rfl] at g
                rw [show (6 : Int32).toInt = 6 from rfl] at this
                omega)]
              obtain ⟨le1, k1, e1, O1⟩ := o_atom T N (by omega) _ hi (by rw [er]; exact hA) O (by omega)
              rw [bd e1]
              rw [er] at O1
              exact fin _ k1 wo s (atx r) (by omega) hs' hw2 O1 (by unfold tLeaf; rw [if_neg h0, if_neg h1])
        · have hapos := ha.pos
          have er : l[pre.length + (a ++ [rowq kk v]).length - 1] = rowq kk v := by
            exact el_at (pre := pre ++ a) (post := post) (by rw [e]; simp) hi (by simp)
          rw [er]
          have hkd : kd (rowq kk v) = kk := rfl
          rw [hkd, ifb_f (by rcases hkk with rfl | rfl <;> decide), ifb_f (by rcases hkk with rfl | rfl <;> decide), ifb_t (by rcases hkk with rfl | rfl <;> decide), ifb_f (by rcases hkk with rfl | rfl <;> decide)]
          have ev : f_X5_number N r1 c1 n1 (Int32.ofNat (pre.length + (a ++ [rowq kk v]).length - 1)) 0 = some (Int32.ofNat v) := by
            have := t_number T N _ 0 hi (by omega)
            rw [lc_getD _ hi, er] at this
            exact this
          simp only [wk_qu ha hkk] at hw hxp
          simp only [txt_qu ha hkk] at hl fin ⊢
          have ht3 : (tQu (rowq kk v) (txt a)).length = (txt a).length + 3 := by unfold tQu; simp
          obtain ⟨wo2, e5, hwo2⟩ := o_later hw2 N (by omega) (Int32.ofNat (pre.length + a.length - 1), txt a, wk a)
          have ea : Int32.ofNat (pre.length + (a ++ [rowq kk v]).length - 1) - 1 = Int32.ofNat (pre.length + a.length - 1) := by
            rw [i_m1 _ (by rw [List.length_append, List.length_singleton]; omega)]; congr 1; rw [List.length_append, List.length_singleton]; omega
          have main : ∀ c : Int32, c = (if kk = 8 then 69 else 65) → ∃ le' wk' ke' wo', ((f_X3_letter N le ke c).bind fun z67 => (f_X5_number N r1 c1 n1 (Int32.ofNat (pre.length + (a ++ [rowq kk v]).length - 1)) 0).bind fun z76 => (f_X3_letter N z67.1 z67.2 (97 + z76)).bind fun z80 => (f_X3_letter N z80.1 z80.2 46).bind fun z86 => (f_X3_later N (Int32.ofNat s.length) wo (Int32.ofNat (pre.length + (a ++ [rowq kk v]).length - 1) - 1)).bind fun z93 => some (z86.1, z93.1, z86.2, z93.2)).bind (fun z80 => f_X3_put_30 N (m + w + 1) z80.1 z80.2.1 z80.2.2.1 sp z80.2.2.2 r1 c1 n1 (Int32.ofNat (y + 1))) = some (le', wk', ke', sp, wo') ∧ Ou le' ke' (t ++ ttxt ((Int32.ofNat (pre.length + (a ++ [rowq kk v]).length - 1), tQu (rowq kk v) (txt a), wk (a ++ [rowq kk v])) :: s)) := by
            intro c hc
            obtain ⟨k1, e1, O1⟩ := o_letter O N (by omega) c
            obtain ⟨k2, e2, O2⟩ := o_letter O1 N (by simp; omega) (97 + Int32.ofNat v)
            obtain ⟨k3, e3, O3⟩ := o_letter O2 N (by simp; omega) 46
            rw [bd e1, bd ev, bd e2, bd e3, ea, bd e5, Option.bind_some]
            refine fin _ k3 wo2 _ [c, 97 + Int32.ofNat v, 46] (by simp only [tsum]; omega) ?_ hwo2 (by simpa using O3) ?_
            · intro z hz
              rcases List.mem_cons.mp hz with rfl | hz
              · exact Or.inr ⟨pre, a, [rowq kk v] ++ post, by rw [e]; simp, ha, rfl⟩
              · exact hs' z hz
            · unfold tQu
              rw [hkd, ← hc]
              simp [ttxt, qv, rowq]
          by_cases h8 : kk = 8
          · rw [ifb_t h8]
            exact main 69 (by rw [if_pos h8])
          · rw [ifb_f h8]
            exact main 65 (by rw [if_neg h8])
        · have hapos := ha.pos
          have hbpos := hb.pos
          have hwa := (txt_len ha).2.2
          have hwb := (txt_len hb).2.2
          have er : l[pre.length + (a ++ b ++ [row0 kk]).length - 1] = row0 kk := by
            exact el_at (pre := pre ++ a ++ b) (post := post) (by rw [e]; simp) hi (by simp; omega)
          rw [er]
          have hkd : kd (row0 kk) = kk := rfl
          have hfl : (a ++ b ++ [row0 kk]).length = a.length + b.length + 1 := by simp; omega
          rw [hkd, ifb_f (by rcases hkk with rfl | rfl <;> decide), ifb_f (by rcases hkk with rfl | rfl <;> decide), ifb_t (by rcases hkk with rfl | rfl <;> decide), ifb_t (by rcases hkk with rfl | rfl <;> decide)]
          rw [ifb_f (by rw [show (1 : Int32) = Int32.ofNat 1 from rfl, i_lt _ _ (by omega) (by omega)]; omega), ifb_f (by rw [show (400 : Int32) = Int32.ofNat 400 from rfl, i_lt _ _ (by omega) (by omega)]; omega)]
          simp only [wk_bi ha hb hkk] at hw hxp
          simp only [txt_bi ha hb hkk] at hl fin ⊢
          have ht3 : (tBi (row0 kk) (txt a) (txt b)).length = (txt a).length + (txt b).length + 3 := by unfold tBi; simp; omega
          obtain ⟨k1, e1, O1⟩ := o_letter O N (by omega) 40
          obtain ⟨wo1, f1, g1⟩ := o_later hw2 N (by omega) (-(Int32.ofNat 41), [Int32.ofNat 41], 1)
          obtain ⟨wo2, f2, g2⟩ := o_later g1 N (by simp; omega) (Int32.ofNat (pre.length + a.length + b.length - 1), txt b, wk b)
          have eb : Int32.ofNat (pre.length + (a ++ b ++ [row0 kk]).length - 1) - 1 = Int32.ofNat (pre.length + a.length + b.length - 1) := by
            rw [i_m1 _ (by omega)]; congr 1; omega
          have esp := hsp (pre ++ a) b ([row0 kk] ++ post) (by rw [e]; simp) hb (by rw [List.length_append]; omega)
          rw [List.length_append] at esp
          rw [bd e1, show (-41 : Int32) = -(Int32.ofNat 41) from rfl, bd f1, eb, bd f2]
          have main : ∀ c : Nat, 0 < c → c < 200 → Int32.ofNat c = (if kk = 6 then 38 else 124) → ∃ le' wk' ke' wo', (((f_X3_later N (Int32.ofNat ((Int32.ofNat (pre.length + a.length + b.length - 1), txt b, wk b) :: (-(Int32.ofNat 41), [Int32.ofNat 41], 1) :: s).length) wo2 (-(Int32.ofNat c))).bind fun z144 => ix (Int32.ofNat (pre.length + a.length + b.length - 1)) 400 ((f_X3_later N z144.1 z144.2 (sp (Int32.ofNat (pre.length + a.length + b.length - 1)).toNatClampNeg - 1)).bind fun z158 => some (Int32.ofNat (t.length + 1), z158.1, k1, z158.2)))).bind (fun z80 => f_X3_put_30 N (m + w + 1) z80.1 z80.2.1 z80.2.2.1 sp z80.2.2.2 r1 c1 n1 (Int32.ofNat (y + 1))) = some (le', wk', ke', sp, wo') ∧ Ou le' ke' (t ++ ttxt ((Int32.ofNat (pre.length + (a ++ b ++ [row0 kk]).length - 1), tBi (row0 kk) (txt a) (txt b), wk (a ++ b ++ [row0 kk])) :: s)) := by
            intro c hc0 hc2 hc
            obtain ⟨wo3, f3, g3⟩ := o_later g2 N (by simp; omega) (-(Int32.ofNat c), [Int32.ofNat c], 1)
            obtain ⟨wo4, f4, g4⟩ := o_later g3 N (by simp; omega) (Int32.ofNat (pre.length + a.length - 1), txt a, wk a)
            rw [bd f3, ix_n _ _ _ (by omega) (by omega), i_cl _ (by omega), esp, i_m1 _ (by omega), bd f4, Option.bind_some]
            refine fin _ k1 wo4 _ [40] (by simp only [tsum]; omega) ?_ g4 (by simpa using O1) ?_
            · intro z hz
              rcases List.mem_cons.mp hz with rfl | hz
              · exact Or.inr ⟨pre, a, b ++ [row0 kk] ++ post, by rw [e]; simp, ha, rfl⟩
              · rcases List.mem_cons.mp hz with rfl | hz
                · exact Or.inl ⟨c, hc0, hc2, rfl⟩
                · rcases List.mem_cons.mp hz with rfl | hz
                  · exact Or.inr ⟨pre ++ a, b, [row0 kk] ++ post, by rw [e]; simp, hb, by rw [List.length_append]⟩
                  · rcases List.mem_cons.mp hz with rfl | hz
                    · exact Or.inl ⟨41, by omega, by omega, rfl⟩
                    · exact hs' z hz
            · unfold tBi
              rw [hkd, ← hc]
              simp [ttxt]
          by_cases h6 : kk = 6
          · rw [ifb_t h6]
            exact main 38 (by omega) (by omega) (by rw [if_pos h6]; rfl)
          · rw [ifb_f h6]
            exact main 124 (by omega) (by omega) (by rw [if_neg h6]; rfl)
end PUT2
theorem o_put {r1 : Int32} {c1 : Nat → Int32} {n1 : Nat} {l : List (List Int32)} (N : Nat) (hN : 4000 ≤ N) (T : Tr r1 c1 n1 l) (F : Fm l) (h400 : l.length ≤ 400) (le wk0 : Int32) (ke sp wo : Nat → Int32) : ∃ le' wk' ke' sp' wo', f_X3_put N le wk0 ke sp wo r1 c1 n1 = some (le', wk', ke', sp', wo') ∧ Ou le' ke' (txt l) := by
  obtain ⟨sp', e1, hsp⟩ := t_measure T F h400 N (by omega) sp
  obtain ⟨h1, h2, h3⟩ := txt_len F
  have hpos := F.pos
  have hr := T.1
  obtain ⟨wo1, e2, hw⟩ := o_later (wo := wo) (s := []) trivial N (by simp) (Int32.ofNat (l.length - 1), txt l, wk l)
  have O0 : Ou 0 ke [] := ⟨rfl, by simp, fun i hi => absurd hi (by simp)⟩
  obtain ⟨le', wk', ke', wo', e3, O3⟩ := put_loop N (by omega) T h400 hsp (wk l) (N - wk l - 1) 0 [(Int32.ofNat (l.length - 1), txt l, wk l)] 0 ke wo1 [] (by simp [tsum]) (by omega) (by
    intro x hx
    rw [List.mem_singleton.mp hx]
    exact Or.inr ⟨[], l, [], by simp, F, by simp⟩) hw O0 (by simp [ttxt]; omega)
  rw [show N - wk l - 1 + wk l + 1 = N from by omega] at e3
  refine ⟨le', wk', ke', sp', wo', ?_, by simpa [ttxt] using O3⟩
  unfold f_X3_put
  rw [bd e1]
  have e4 : f_X3_later N 0 wo (r1 - 1) = some (Int32.ofNat [((Int32.ofNat (l.length - 1), txt l, wk l) : Int32 × List Int32 × Nat)].length, wo1) := by
    rw [hr, i_m1 _ (by omega)]; exact e2
  rw [bd e4]
  exact e3
theorem y_write (N : Nat) (hN : 4000 ≤ N) {fr : Int32} {fc : Nat → Int32} {f : List (List Int32)} (C : CF fr fc f) (le wk0 : Int32) (ke sp wo : Nat → Int32) : ∃ le' wk' ke' sp' wo', f_X6_write N le wk0 ke sp wo fr fc 4000 = some (Int32.ofNat (txt f).length, le', wk', ke', sp', wo') ∧ Ou le' ke' (txt f) := by
  obtain ⟨T, F, h4⟩ := C
  obtain ⟨le', wk', ke', sp', wo', e, O⟩ := o_put N hN T F h4 le wk0 ke sp wo
  unfold f_X6_write
  rw [bd e]
  exact ⟨le', wk', ke', sp', wo', by rw [O.1], O⟩
def Vl (ab be : Nat → Int32) : Prop := ∀ v, v < 8 → -99 ≤ (ab v).toInt ∧ (ab v).toInt ≤ 99 ∧ 1 ≤ (be v).toInt ∧ (be v).toInt ≤ 9
def svk (r : List Int32) (ab be : Nat → Int32) : Nat → Int
  | 0 => (r.getD 9 0).toInt * 2520
  | k + 1 => svk r ab be k + (r.getD (1 + k) 0).toInt * (ab k).toInt * (2520 / (be k).toInt)
theorem mul_bd3 (x y z : Int) (h1 : -1000000000 ≤ x) (h2 : x ≤ 1000000000) (h3 : -99 ≤ y) (h4 : y ≤ 99) (h5 : 0 ≤ z) (h6 : z ≤ 2520) : (-99000000000 ≤ x * y ∧ x * y ≤ 99000000000) ∧ -249480000000000 ≤ x * y * z ∧ x * y * z ≤ 249480000000000 := by
  have e1 : (x * y).natAbs ≤ 1000000000 * 99 := by rw [Int.natAbs_mul]; exact Nat.mul_le_mul (by omega) (by omega)
  have e2 : (x * y * z).natAbs ≤ 99000000000 * 2520 := by rw [Int.natAbs_mul]; exact Nat.mul_le_mul (by omega) (by omega)
  omega
theorem div_bd (b : Int) (h1 : 1 ≤ b) (h2 : b ≤ 9) : 0 ≤ 2520 / b ∧ 2520 / b ≤ 2520 := by
  have : b = 1 ∨ b = 2 ∨ b = 3 ∨ b = 4 ∨ b = 5 ∨ b = 6 ∨ b = 7 ∨ b = 8 ∨ b = 9 := by omega
  rcases this with rfl | rfl | rfl | rfl | rfl | rfl | rfl | rfl | rfl <;> decide
theorem svk_bd {r : List Int32} (A : Atm r) {ab be : Nat → Int32} (V : Vl ab be) : ∀ k : Nat, k ≤ 8 → -(2520000000000 + 249480000000000 * (k : Int)) ≤ svk r ab be k ∧ svk r ab be k ≤ 2520000000000 + 249480000000000 * (k : Int)
  | 0, h => by
    obtain ⟨_, _, hb, _⟩ := A
    have := hb 9 (by omega) (by omega)
    unfold svk; omega
  | k + 1, h => by
    have ih := svk_bd A V k (by omega)
    obtain ⟨_, _, hb, _⟩ := A
    have h1 := hb (1 + k) (by omega) (by omega)
    obtain ⟨v1, v2, v3, v4⟩ := V k (by omega)
    have hd := div_bd _ v3 v4
    have hm := mul_bd3 _ _ _ h1.1 h1.2 v1 v2 hd.1 hd.2
    unfold svk
    generalize (r.getD (1 + k) 0).toInt * (ab k).toInt * (2520 / (be k).toInt) = q at hm
    omega
theorem jmax1 (x : Int32) (h : 1 ≤ x.toInt) : jmax x 1 = x := by
  show (if x < 1 then 1 else x) = x
  rw [if_neg]
  rw [Int32.lt_iff_toInt_lt, show (1 : Int32).toInt = 1 from rfl]; omega
section HOLD
variable {r1 : Int32} {c1 : Nat → Int32} {n1 : Nat} {l : List (List Int32)}
theorem sum_loop (T : Tr r1 c1 n1 l) (N : Nat) (i : Nat) (hi : i < l.length) (A : Atm l[i]) {ab be : Nat → Int32} (V : Vl ab be) : ∀ (d m k : Nat) (x : Int64), k + d = 8 → x.toInt = svk l[i] ab be k → ∃ z, f_X6_sumWithValues_19 N (m + d + 1) r1 c1 n1 ab be (Int32.ofNat i) x (Int32.ofNat k) = some z ∧ z.toInt = svk l[i] ab be 8
  | 0, m, k, x, hk, hx => by
    have : k = 8 := by omega
    subst this
    rw [f_X6_sumWithValues_19]; dsimp only
    rw [ifb_t (by decide)]
    exact ⟨x, rfl, hx⟩
  | d + 1, m, k, x, hk, hx => by
    have hbd := svk_bd A V k (by omega)
    have hbd1 := svk_bd A V (k + 1) (by omega)
    obtain ⟨_, _, hb, _⟩ := id A
    have h1 := hb (1 + k) (by omega) (by omega)
    obtain ⟨v1, v2, v3, v4⟩ := V k (by omega)
    have hd := div_bd _ v3 v4
    have hm := mul_bd3 _ _ _ h1.1 h1.2 v1 v2 hd.1 hd.2
    rw [show m + (d + 1) + 1 = (m + d + 1) + 1 from by omega, f_X6_sumWithValues_19]; dsimp only
    rw [ifb_f (by rw [show (8 : Int32) = Int32.ofNat 8 from rfl, i_le _ _ (by omega) (by omega)]; omega), ix_n _ _ _ (by omega) (by omega), bd (t_number T N i k hi (by omega)), ix_n _ _ _ (by omega) (by omega), i_cl _ (by omega), jmax1 _ v3, lc_getD _ hi]
    have hne : ¬ (be k = 0) := fun g => by rw [g, show (0 : Int32).toInt = 0 from rfl] at v3; omega
    rw [ckp_t hne, i_p1]
    apply sum_loop T N i hi A V d m (k + 1) _ (by omega)
    have e1 := L_mul ((l[i]).getD (1 + k) 0).toInt64 (ab k).toInt64 _ _ (Int32.toInt_toInt64 _) (Int32.toInt_toInt64 _) (by omega) (by omega)
    have e2 : (2520 / be k).toInt = 2520 / (be k).toInt := by
      rw [Int32.toInt_div, show (2520 : Int32).toInt = 2520 from rfl, Int.tdiv_eq_ediv_of_nonneg (by omega)]
      exact bm32 _ (by omega) (by omega)
    have e3 := L_mul _ (2520 / be k).toInt64 _ _ e1 ((Int32.toInt_toInt64 _).trans e2) (by omega) (by omega)
    have hs : svk l[i] ab be (k + 1) = svk l[i] ab be k + ((l[i]).getD (1 + k) 0).toInt * (ab k).toInt * (2520 / (be k).toInt) := rfl
    rw [L_add _ _ _ _ hx e3 (by omega) (by omega)]
    exact hs.symm
theorem o_sum (T : Tr r1 c1 n1 l) (N : Nat) (hN : 20 ≤ N) (i : Nat) (hi : i < l.length) (A : Atm l[i]) {ab be : Nat → Int32} (V : Vl ab be) : ∃ z, f_X6_sumWithValues N r1 c1 n1 ab be (Int32.ofNat i) = some z ∧ z.toInt = svk l[i] ab be 8 := by
  obtain ⟨_, _, hb, _⟩ := id A
  have h1 := hb 9 (by omega) (by omega)
  have e1 := L_mul ((l[i]).getD 9 0).toInt64 2520 _ 2520 (Int32.toInt_toInt64 _) rfl (by omega) (by omega)
  have := sum_loop T N i hi A V 8 (N - 9) 0 (((l[i]).getD 9 0).toInt64 * 2520) (by omega) e1
  rw [show N - 9 + 8 + 1 = N from by omega] at this
  unfold f_X6_sumWithValues
  rw [show (8 : Int32) = Int32.ofNat 8 from rfl, bd (t_number T N i 8 hi (by omega)), lc_getD _ hi]
  exact this
def eLeaf (ab be : Nat → Int32) (r : List Int32) : Int32 := if kd r = 0 then 1 else if kd r = 1 then 0 else if trv (kd r) (svk r ab be 8) then 1 else 0
def eBi (r : List Int32) (x y : Int32) : Int32 := if kd r = 6 then (if x = 1 ∧ y = 1 then 1 else 0) else (if x = 1 ∨ y = 1 then 1 else 0)
def ev (ab be : Nat → Int32) (l : List (List Int32)) : Int32 := cata (eLeaf ab be) (fun _ x => x) eBi 0 l
theorem ev_leaf {ab be : Nat → Int32} {r : List Int32} (h : Leaf r) : ev ab be [r] = eLeaf ab be r := cata_leaf _ _ _ _ h
theorem ev_bi {ab be : Nat → Int32} {a b : List (List Int32)} {k : Int32} (ha : Fm a) (hb : Fm b) (hk : k = 6 ∨ k = 7) : ev ab be (a ++ b ++ [row0 k]) = eBi (row0 k) (ev ab be a) (ev ab be b) := cata_bi _ _ _ _ ha hb hk
theorem e01 (ab be : Nat → Int32) (r : List Int32) : eLeaf ab be r = 0 ∨ eLeaf ab be r = 1 := by
  unfold eLeaf; split
  · exact Or.inr rfl
  · split
    · exact Or.inl rfl
    · split
      · exact Or.inr rfl
      · exact Or.inl rfl
theorem eb01 (r : List Int32) (x y : Int32) : eBi r x y = 0 ∨ eBi r x y = 1 := by
  unfold eBi; split
  · split
    · exact Or.inr rfl
    · exact Or.inl rfl
  · split
    · exact Or.inr rfl
    · exact Or.inl rfl
def Fdk (val : List (List Int32) → Int32) (p : Nat → Int32) (l : List (List Int32)) (k : Nat) : Prop := ∀ pre f post, l = pre ++ f ++ post → Fm f → pre.length + f.length ≤ k → p (pre.length + f.length - 1) = val f
theorem Fdk.step {val : List (List Int32) → Int32} {p : Nat → Int32} {k : Nat} (H : Fdk val p l k) {pre f post : List (List Int32)} (e : l = pre ++ f ++ post) (hf : Fm f) (hp : pre.length + f.length = k + 1) {x : Int32} (hx : x = val f) : Fdk val (upd p k x) l (k + 1) := by
  intro pre' f' post' e' hf' hl'
  have hpos := hf'.pos
  by_cases hq : pre'.length + f'.length = k + 1
  · have e2 : pre ++ f ++ post = pre' ++ f' ++ post' := by rw [← e, ← e']
    have e3 := (List.append_inj e2 (by rw [List.length_append, List.length_append]; omega)).1
    obtain ⟨e4, e5⟩ := hf.tail hf' e3
    rw [hq, show k + 1 - 1 = k from by omega, upd_at, hx, e4]
  · rw [upd_ne _ _ _ _ (by omega)]
    exact H pre' f' post' e' hf' (by omega)
theorem o_isTrue (T : Tr r1 c1 n1 l) (F : Fm l) (qf : Qf l) (h400 : l.length ≤ 400) (N : Nat) (hN : 20 ≤ N) {ab be : Nat → Int32} (V : Vl ab be) {sp fo : Nat → Int32} (hsp : Spk sp l l.length) (k : Nat) (hk : k < l.length) (H : Fdk (ev ab be) fo l k) {pre f post : List (List Int32)} (e : l = pre ++ f ++ post) (hf : Fm f) (hp : pre.length + f.length = k + 1) : f_X6_isTrue N r1 c1 n1 ab be sp fo (Int32.ofNat k) = some (ev ab be f) := by
  have ek : f_X5_kind N r1 c1 n1 (Int32.ofNat k) = some (kd l[k]) := by rw [t_kind T N k hk, lc_getD _ hk]; rfl
  unfold f_X6_isTrue f_X6_isTrue_18 f_X6_isTrue_27 f_X6_isTrue_63 f_X6_isTrue_103 f_X6_isTrue_128 f_X6_isTrue_133
  rw [bd ek]
  rcases hf.cases with ⟨r, hr, rfl⟩ | ⟨a, kk, v, ha, hkk, hv, ho, rfl⟩ | ⟨a, b, kk, ha, hb, hkk, ho, rfl⟩
  · have er : l[k] = r := el_at (pre := pre) (post := post) (by rw [e]; simp) hk (by simp at hp; omega)
    rw [er, ev_leaf hr]
    unfold eLeaf
    by_cases h0 : kd r = 0
    · rw [ifb_t h0, ifb_t h0, ckp_t (Or.inr rfl), if_pos h0]
    · rw [ifb_f h0, if_neg h0]
      by_cases h1 : kd r = 1
      · rw [ifb_t h1, ifb_f h0, ckp_t (Or.inl rfl), if_pos h1]
      · have hA : Atm r := by
          rcases hr with rfl | rfl | h
          · exact absurd rfl h0
          · exact absurd rfl h1
          · exact h
        rw [ifb_f h1, if_neg h1, ifb_f (by
          intro g
          have := hr.kd
          rw [Int32.lt_iff_toInt_lt] at g this
          rw [show (5 : Int32).toInt = 5 from rfl] at g
          rw [show (6 : Int32).toInt = 6 from rfl] at this
          omega)]
        obtain ⟨z, ez, hz⟩ := o_sum T N hN k hk (by rw [er]; exact hA) V
        rw [bd ez, bd (s_isTrue N hA.2.1 z), hz, er]
        cases trv (kd r) (svk r ab be 8)
        · rw [if_neg (by decide), ckp_t (Or.inl rfl)]
        · rw [if_pos rfl, ckp_t (Or.inr rfl)]
  · exfalso
    have er : l[k] = rowq kk v := el_at (pre := pre ++ a) (post := post) (by rw [e]; simp) hk (by simp at hp ⊢; omega)
    have := qf l[k] (List.getElem_mem hk)
    rw [er] at this
    exact absurd (show kk < 8 from this) (by rcases hkk with rfl | rfl <;> decide)
  · have er : l[k] = row0 kk := el_at (pre := pre ++ a ++ b) (post := post) (by rw [e]; simp) hk (by simp at hp ⊢; omega)
    have hapos := ha.pos
    have hbpos := hb.pos
    have hpl : pre.length + a.length + b.length = k := by simp at hp; omega
    have hkd : kd (row0 kk) = kk := rfl
    rw [er, hkd, ifb_f (by rcases hkk with rfl | rfl <;> decide), ifb_f (by rcases hkk with rfl | rfl <;> decide), ifb_t (by rcases hkk with rfl | rfl <;> decide), i_m1 _ (by omega), ifb_f (i_nn _ (by omega)), ix_n _ _ _ (by omega) (by omega), i_cl _ (by omega)]
    have esp := hsp (pre ++ a) b ([row0 kk] ++ post) (by rw [e]; simp) hb (by rw [List.length_append]; omega)
    rw [List.length_append, hpl] at esp
    have e1 := H (pre ++ a) b ([row0 kk] ++ post) (by rw [e]; simp) hb (by rw [List.length_append]; omega)
    rw [List.length_append, hpl] at e1
    have e2 := H pre a (b ++ [row0 kk] ++ post) (by rw [e]; simp) ha (by omega)
    rw [esp, i_m1 _ (by omega), ifb_t (i_ge0 _ (by omega)), ix_n _ _ _ (by omega) (by omega), ix_n _ _ _ (by omega) (by omega), ix_n _ _ _ (by omega) (by omega), i_cl _ (by omega), e1, e2, ev_bi ha hb hkk]
    unfold eBi
    rw [hkd]
    by_cases h6 : kk = 6
    · rw [ifb_t h6, if_pos h6]
      by_cases ha1 : ev ab be a = 1
      · rw [ifb_t ha1]
        by_cases hb1 : ev ab be b = 1
        · rw [ifb_t hb1, ckp_t (Or.inr rfl), if_pos ⟨ha1, hb1⟩]
        · rw [ifb_f hb1, ckp_t (Or.inl rfl), if_neg (fun g => hb1 g.2)]
      · rw [ifb_f ha1, ckp_t (Or.inl rfl), if_neg (fun g => ha1 g.1)]
    · rw [ifb_f h6, if_neg h6]
      by_cases ha1 : ev ab be a = 1
      · rw [ifb_t ha1, ckp_t (Or.inr rfl), if_pos (Or.inl ha1)]
      · rw [ifb_f ha1]
        by_cases hb1 : ev ab be b = 1
        · rw [ifb_t hb1, ckp_t (Or.inr rfl), if_pos (Or.inr hb1)]
        · rw [ifb_f hb1, ckp_t (Or.inl rfl), if_neg (fun g => g.elim ha1 hb1)]
end HOLD
section HOLD2
variable {r1 : Int32} {c1 : Nat → Int32} {n1 : Nat} {l : List (List Int32)}
theorem ev01 {ab be : Nat → Int32} {f : List (List Int32)} (F : Fm f) (qf : Qf f) : ev ab be f = 0 ∨ ev ab be f = 1 := by
  rcases F.cases with ⟨r, hr, rfl⟩ | ⟨a, k, v, ha, hk, hv, ho, rfl⟩ | ⟨a, b, k, ha, hb, hk, ho, rfl⟩
  · rw [ev_leaf hr]; exact e01 ab be r
  · exact (qf.no hk).elim
  · rw [ev_bi ha hb hk]; exact eb01 _ _ _
theorem hold_loop (T : Tr r1 c1 n1 l) (F : Fm l) (qf : Qf l) (h400 : l.length ≤ 400) (N : Nat) (hN : 20 ≤ N) {ab be : Nat → Int32} (V : Vl ab be) {sp : Nat → Int32} (hsp : Spk sp l l.length) : ∀ (d m k : Nat) (fo : Nat → Int32), k + d = l.length → Fdk (ev ab be) fo l k → ∃ fo', f_X6_holds_51 N (m + d + 1) r1 c1 n1 ab be sp fo (Int32.ofNat l.length) (Int32.ofNat k) = some (ev ab be l, sp, fo')
  | 0, m, k, fo, hk, H => by
    have hpos := F.pos
    rw [f_X6_holds_51]; dsimp only
    unfold f_X6_holds_97
    have := H [] l [] (by simp) F (by simp; omega)
    rw [List.length_nil, Nat.zero_add] at this
    rw [ifb_t (by rw [i_le _ _ (by omega) (by omega)]; omega), ifb_f (by rw [show (0 : Int32) = Int32.ofNat 0 from rfl, i_le _ _ (by omega) (by omega)]; omega), i_m1 _ (by omega), ix_n _ _ _ (by omega) (by omega), i_cl _ (by omega), this]
    exact ⟨fo, rfl⟩
  | d + 1, m, k, fo, hk, H => by
    have hkl : k < l.length := by omega
    obtain ⟨pre, f, post, e, hf, hp⟩ := F.sub k hkl
    have qff : Qf f := fun r hr => qf r (by rw [e]; simp [hr])
    rw [show m + (d + 1) + 1 = (m + d + 1) + 1 from by omega, f_X6_holds_51]; dsimp only
    rw [ifb_f (by rw [i_le _ _ (by omega) (by omega)]; omega), bd (o_isTrue T F qf h400 N hN V hsp k hkl H e hf hp)]
    unfold f_X6_holds_74
    have next : ∀ x : Int32, x = ev ab be f → ∃ fo', ix (Int32.ofNat k) 400 (f_X6_holds_51 N (m + d + 1) r1 c1 n1 ab be sp (upd fo (Int32.ofNat k).toNatClampNeg x) (Int32.ofNat l.length) (Int32.ofNat k + 1)) = some (ev ab be l, sp, fo') := by
      intro x hx
      rw [ix_n _ _ _ (by omega) (by omega), i_cl _ (by omega), i_p1]
      exact hold_loop T F qf h400 N hN V hsp d m (k + 1) _ (by omega) (H.step e hf hp hx)
    rcases ev01 (ab := ab) (be := be) hf qff with h0 | h1
    · rw [ifb_t h0]; exact next 0 h0.symm
    · rw [ifb_f (by rw [h1]; decide)]; exact next 1 h1.symm
theorem jmin400 (n : Nat) (h : n ≤ 400) : jmin (Int32.ofNat n) 400 = Int32.ofNat n := by
  show (if (400 : Int32) < Int32.ofNat n then (400 : Int32) else Int32.ofNat n) = _
  rw [if_neg (by rw [show (400 : Int32) = Int32.ofNat 400 from rfl, i_lt _ _ (by omega) (by omega)]; omega)]
theorem kin0 {f : List (List Int32)} (F : Fm f) : kin f 8 9 = 0 ↔ Qf f := by
  unfold kin
  rw [List.countP_eq_zero]
  constructor
  · intro h r hr
    have := h r hr
    simp only [Bool.and_eq_true, decide_eq_true_eq, not_and] at this
    rcases Decidable.em (kd r < 8) with g | g
    · exact g
    · exfalso
      have g8 : 8 ≤ kd r := (i_not_lt _ _).mp g
      refine this g8 ?_

      have : ∀ r ∈ f, kd r ≤ 9 := by
        refine Fm.ind (P := fun f => ∀ r ∈ f, kd r ≤ 9) ?_ ?_ ?_ F
        · intro r hr x hx
          rw [List.mem_singleton.mp hx]
          have := hr.kd
          rw [Int32.lt_iff_toInt_lt, show (6 : Int32).toInt = 6 from rfl] at this
          rw [Int32.le_iff_toInt_le, show (9 : Int32).toInt = 9 from rfl]; omega
        · intro a k v _ ih hk _ _ x hx
          rcases List.mem_append.mp hx with hx | hx
          · exact ih x hx
          · rw [List.mem_singleton.mp hx]
            show k ≤ 9
            rcases hk with rfl | rfl <;> decide
        · intro a b k _ _ iha ihb hk _ x hx
          rcases List.mem_append.mp hx with hx | hx
          · rcases List.mem_append.mp hx with hx | hx
            · exact iha x hx
            · exact ihb x hx
          · rw [List.mem_singleton.mp hx]
            show k ≤ 9
            rcases hk with rfl | rfl <;> decide
      exact this r hr
  · intro h r hr
    have := h r hr
    simp only [Bool.and_eq_true, decide_eq_true_eq, not_and]
    intro g
    exact absurd this ((i_not_lt _ _).mpr g)
theorem y_holds (N : Nat) (hN : 1000 ≤ N) {fr : Int32} {fc : Nat → Int32} {f : List (List Int32)} (C : CF fr fc f) {ab be : Nat → Int32} (V : Vl ab be) (sp fo : Nat → Int32) (qf : Qf f) : f_X6_holds_S N fr fc 4000 = none ∧ ∃ sp' fo', f_X6_holds N fr fc 4000 ab be sp fo = some (ev ab be f, sp', fo') := by
  obtain ⟨T, F, h4⟩ := C
  have hk := t_howMany T N (by omega) 8 9
  rw [(kin0 F).mpr qf] at hk
  refine ⟨?_, ?_⟩
  · unfold f_X6_holds_S
    rw [bd hk, ifb_t (by decide)]
  · obtain ⟨sp', e1, hsp⟩ := t_measure T F h4 N (by omega) sp
    unfold f_X6_holds
    rw [bd hk, ifb_t (by decide), bd e1, T.1, jmin400 _ h4]
    rw [← T.1]
    obtain ⟨fo', e2⟩ := hold_loop T F qf h4 N (by omega) V hsp f.length (N - f.length - 1) 0 fo (by omega) (fun pre g post _ hg hl => by have := hg.pos; omega)
    rw [show N - f.length - 1 + f.length + 1 = N from by omega, ← T.1] at e2
    exact ⟨sp', fo', e2⟩
theorem y_holds_S (N : Nat) (hN : 1000 ≤ N) {fr : Int32} {fc : Nat → Int32} {f : List (List Int32)} (C : CF fr fc f) (qf : ¬ Qf f) : f_X6_holds_S N fr fc 4000 = some () := by
  obtain ⟨T, F, h4⟩ := C
  have hk := t_howMany T N (by omega) 8 9
  have hc : kin f 8 9 ≠ 0 := fun g => qf ((kin0 F).mp g)
  have hc2 : kin f 8 9 ≤ f.length := List.countP_le_length
  unfold f_X6_holds_S
  rw [bd hk, ifb_f (by rw [show (0 : Int32) = Int32.ofNat 0 from rfl, i_le _ _ (by omega) (by omega)]; omega)]
end HOLD2
