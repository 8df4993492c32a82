theorem i_toInt (n : Nat) (h : n < 2147483648) : (Int32.ofNat n).toInt = n := Int32.toInt_ofNat_of_lt h
theorem i_cl (n : Nat) (h : n < 2147483648) : (Int32.ofNat n).toNatClampNeg = n := by
  show (Int32.ofNat n).toInt.toNat = n
  rw [i_toInt n h]; rfl
theorem i_le (a b : Nat) (ha : a < 2147483648) (hb : b < 2147483648) : (Int32.ofNat a ≤ Int32.ofNat b) ↔ a ≤ b := by
  rw [Int32.le_iff_toInt_le, i_toInt a ha, i_toInt b hb]; omega
theorem i_lt (a b : Nat) (ha : a < 2147483648) (hb : b < 2147483648) : (Int32.ofNat a < Int32.ofNat b) ↔ a < b := by
  rw [Int32.lt_iff_toInt_lt, i_toInt a ha, i_toInt b hb]; omega
theorem i_eq (a b : Nat) (ha : a < 2147483648) (hb : b < 2147483648) : (Int32.ofNat a = Int32.ofNat b) ↔ a = b := by
  rw [← Int32.toInt_inj, i_toInt a ha, i_toInt b hb]; omega
theorem i_add (a b : Nat) : Int32.ofNat a + Int32.ofNat b = Int32.ofNat (a + b) := (Int32.ofNat_add a b).symm
theorem i_mul (a b : Nat) : Int32.ofNat a * Int32.ofNat b = Int32.ofNat (a * b) := (Int32.ofNat_mul a b).symm
theorem i_sub (a b : Nat) (h : b ≤ a) : Int32.ofNat a - Int32.ofNat b = Int32.ofNat (a - b) := by
  have e := i_add (a - b) b
  rw [Nat.sub_add_cancel h] at e
  rw [← e, Int32.add_sub_cancel]
theorem i_nn (n : Nat) (h : n < 2147483648) : ¬ (Int32.ofNat n < 0) := by
  rw [Int32.lt_iff_toInt_lt, i_toInt n h, show (0 : Int32).toInt = 0 from rfl]; omega
theorem i_ge0 (n : Nat) (h : n < 2147483648) : 0 ≤ Int32.ofNat n := by
  rw [Int32.le_iff_toInt_le, i_toInt n h, show (0 : Int32).toInt = 0 from rfl]; omega
theorem ix_n (i n : Nat) {α : Type} (k : Option α) (h : i < n) (hi : i < 2147483648) : ix (Int32.ofNat i) n k = k := by
  unfold ix
  rw [i_toInt i hi, if_pos]
  simp only [Bool.and_eq_true, decide_eq_true_eq]; omega
theorem ifb_t {c : Prop} [Decidable c] {α : Type} {a b : Option α} (h : c) : ifb c a b = a := if_pos h
theorem ifb_f {c : Prop} [Decidable c] {α : Type} {a b : Option α} (h : ¬ c) : ifb c a b = b := if_neg h
theorem ckp_t {c : Prop} [Decidable c] {α : Type} {a : Option α} (h : c) : ckp c a = a := if_pos h
theorem bd {α β : Type} {o : Option α} {z : α} {k : α → Option β} (h : o = some z) : o.bind k = k z := by rw [h]; rfl
theorem upd_same (f : Nat → Int32) (k : Nat) (x : Int32) (h : f k = x) : upd f k x = f := by
  funext j; unfold upd; split <;> simp_all
theorem upd_at (f : Nat → Int32) (k : Nat) (x : Int32) : upd f k x k = x := if_pos rfl
theorem upd_ne (f : Nat → Int32) (k j : Nat) (x : Int32) (h : j ≠ k) : upd f k x j = f j := if_neg h
def lc (l : List (List Int32)) (i j : Nat) : Int32 := (l.getD i []).getD j 0
def Tr (r : Int32) (c : Nat → Int32) (n : Nat) (l : List (List Int32)) : Prop :=
  r = Int32.ofNat l.length ∧ 10 * l.length ≤ n ∧ n ≤ 100000 ∧ (∀ x ∈ l, x.length = 10) ∧ ∀ i j, i < l.length → j < 10 → c (10 * i + j) = lc l i j
theorem lc_l {a b : List (List Int32)} {i j : Nat} (h : i < a.length) : lc (a ++ b) i j = lc a i j := by
  unfold lc; simp only [List.getD_eq_getElem?_getD, List.getElem?_append_left h]
theorem lc_r {a b : List (List Int32)} {i j : Nat} (h : a.length ≤ i) : lc (a ++ b) i j = lc b (i - a.length) j := by
  unfold lc; simp only [List.getD_eq_getElem?_getD, List.getElem?_append_right h]
theorem lc_drop (l : List (List Int32)) (d i j : Nat) : lc (l.drop d) i j = lc l (d + i) j := by
  unfold lc; simp [List.getD_eq_getElem?_getD, List.getElem?_drop]
theorem lc_take {l : List (List Int32)} {t i : Nat} (j : Nat) (h : i < t) : lc (l.take t) i j = lc l i j := by
  unfold lc; simp [List.getD_eq_getElem?_getD, h]
theorem Tr.ext {a b : List (List Int32)} (hl : a.length = b.length) (ha : ∀ x ∈ a, x.length = 10) (hb : ∀ x ∈ b, x.length = 10) (h : ∀ i j, i < a.length → j < 10 → lc a i j = lc b i j) : a = b := by
  apply List.ext_getElem hl
  intro i h1 h2
  have e1 := ha _ (List.getElem_mem h1)
  have e2 := hb _ (List.getElem_mem h2)
  apply List.ext_getElem (by rw [e1, e2])
  intro j h3 h4
  have := h i j h1 (by omega)
  unfold lc at this
  simpa [List.getD_eq_getElem?_getD, h1, h2, h3, h4] using this
theorem t_kind {r : Int32} {c : Nat → Int32} {n : Nat} {l : List (List Int32)} (T : Tr r c n l) (N i : Nat) (h : i < l.length) : f_X5_kind N r c n (Int32.ofNat i) = some (lc l i 0) := by
  obtain ⟨rfl, h1, h2, h3, h4⟩ := T
  unfold f_X5_kind f_X5_kind_25
  have e : Int32.ofNat i * 10 = Int32.ofNat (i * 10) := i_mul i 10
  rw [ifb_f (i_nn i (by omega)), ifb_f (by rw [i_le _ _ (by omega) (by omega)]; omega), e, ix_n _ _ _ (by omega) (by omega), i_cl _ (by omega), show i * 10 = 10 * i + 0 from by omega, h4 i 0 h (by omega)]
theorem t_kind_out {r : Int32} {c : Nat → Int32} {n : Nat} (N : Nat) (i : Int32) (h : i < 0) : f_X5_kind N r c n i = some 1 := by
  unfold f_X5_kind f_X5_kind_24 f_X5_kind_25
  rw [ifb_t h]
theorem t_number {r : Int32} {c : Nat → Int32} {n : Nat} {l : List (List Int32)} (T : Tr r c n l) (N i p : Nat) (h : i < l.length) (hp : p < 9) : f_X5_number N r c n (Int32.ofNat i) (Int32.ofNat p) = some (lc l i (1 + p)) := by
  obtain ⟨rfl, h1, h2, h3, h4⟩ := T
  unfold f_X5_number f_X5_number_39
  have e : Int32.ofNat i * 10 + 1 + Int32.ofNat p = Int32.ofNat (i * 10 + 1 + p) := by
    rw [show Int32.ofNat i * 10 = Int32.ofNat (i * 10) from i_mul i 10, show Int32.ofNat (i * 10) + 1 = Int32.ofNat (i * 10 + 1) from i_add _ 1, i_add]
  rw [ifb_f (i_nn i (by omega)), ifb_f (by rw [i_le _ _ (by omega) (by omega)]; omega), ifb_f (i_nn p (by omega)), ifb_f (by rw [show (9 : Int32) = Int32.ofNat 9 from rfl, i_le _ _ (by omega) (by omega)]; omega), e, ix_n _ _ _ (by omega) (by omega), i_cl _ (by omega), show i * 10 + 1 + p = 10 * i + (1 + p) from by omega, h4 i (1 + p) h (by omega)]
def setL (l : List (List Int32)) (i j : Nat) (x : Int32) : List (List Int32) := l.set i ((l.getD i []).set j x)
theorem lc_set {l : List (List Int32)} (hr : ∀ x ∈ l, x.length = 10) {i j : Nat} {x : Int32} (hi : i < l.length) (hj : j < 10) (i' j' : Nat) : lc (setL l i j x) i' j' = if i' = i ∧ j' = j then x else lc l i' j' := by
  unfold lc setL
  have e10 : (l.getD i []).length = 10 := by
    rw [List.getD_eq_getElem?_getD, List.getElem?_eq_getElem hi]; exact hr _ (List.getElem_mem hi)
  by_cases h : i' = i
  · subst h
    have : (l.set i' ((l.getD i' []).set j x)).getD i' [] = (l.getD i' []).set j x := by
      simp [List.getD_eq_getElem?_getD, hi]
    rw [this]
    by_cases hj' : j' = j
    · subst hj'
      rw [if_pos ⟨rfl, rfl⟩, List.getD_eq_getElem?_getD, List.getElem?_set, if_pos rfl, if_pos (by omega)]
      rfl
    · rw [if_neg (by omega)]
      simp only [List.getD_eq_getElem?_getD, List.getElem?_set]
      rw [if_neg (by omega)]
  · rw [if_neg (by omega)]
    simp only [List.getD_eq_getElem?_getD, List.getElem?_set]
    rw [if_neg (by omega)]
theorem set_len {l : List (List Int32)} (i j : Nat) (x : Int32) : (setL l i j x).length = l.length := by unfold setL; simp
theorem set_row {l : List (List Int32)} (hr : ∀ x ∈ l, x.length = 10) {i : Nat} (hi : i < l.length) (j : Nat) (x : Int32) : ∀ y ∈ setL l i j x, y.length = 10 := by
  intro y hy
  unfold setL at hy
  rcases List.mem_or_eq_of_mem_set hy with h | h
  · exact hr y h
  · subst h
    rw [List.length_set, List.getD_eq_getElem?_getD, List.getElem?_eq_getElem hi]
    exact hr _ (List.getElem_mem hi)
theorem t_upd {r : Int32} {c : Nat → Int32} {n : Nat} {l : List (List Int32)} (T : Tr r c n l) {i j : Nat} (x : Int32) (hi : i < l.length) (hj : j < 10) : Tr r (upd c (10 * i + j) x) n (setL l i j x) := by
  obtain ⟨rfl, h1, h2, h3, h4⟩ := T
  refine ⟨by rw [set_len], by rw [set_len]; exact h1, h2, set_row h3 hi j x, ?_⟩
  intro i' j' hi' hj'
  rw [set_len] at hi'
  rw [lc_set h3 hi hj]
  by_cases h : i' = i ∧ j' = j
  · obtain ⟨rfl, rfl⟩ := h
    rw [if_pos ⟨rfl, rfl⟩, upd_at]
  · rw [if_neg h, upd_ne _ _ _ _ (by omega), h4 i' j' hi' hj']
theorem t_setNumber {r : Int32} {c : Nat → Int32} {n : Nat} {l : List (List Int32)} (T : Tr r c n l) (N i p : Nat) (x : Int32) (h : i < l.length) (hp : p < 9) : ∃ c', f_X5_setNumber N r c n (Int32.ofNat i) (Int32.ofNat p) x = some c' ∧ Tr r c' n (setL l i (1 + p) x) := by
  refine ⟨_, ?_, t_upd T x h (by omega)⟩
  obtain ⟨rfl, h1, h2, h3, h4⟩ := T
  unfold f_X5_setNumber f_X5_setNumber_36
  have e : Int32.ofNat i * 10 + 1 + Int32.ofNat p = Int32.ofNat (i * 10 + 1 + p) := by
    rw [show Int32.ofNat i * 10 = Int32.ofNat (i * 10) from i_mul i 10, show Int32.ofNat (i * 10) + 1 = Int32.ofNat (i * 10 + 1) from i_add _ 1, i_add]
  rw [ifb_f (i_nn i (by omega)), ifb_f (by rw [i_le _ _ (by omega) (by omega)]; omega), ifb_f (i_nn p (by omega)), ifb_f (by rw [show (9 : Int32) = Int32.ofNat 9 from rfl, i_le _ _ (by omega) (by omega)]; omega), e, ix_n _ _ _ (by omega) (by omega), i_cl _ (by omega), show i * 10 + 1 + p = 10 * i + (1 + p) from by omega]
theorem t_fill (N : Nat) (x : Int32) : ∀ (d n : Nat) (a b : Nat) (p : Nat → Int32) (m : Nat), a + d = b → b ≤ m → m ≤ 100000 → f_J7_fill_fda19_10 N (n + d + 1) p m (Int32.ofNat b) x (Int32.ofNat a) = some (fun j => if a ≤ j ∧ j < b then x else p j)
  | 0, n, a, b, p, m, h, hb, hm => by
    rw [f_J7_fill_fda19_10]; dsimp only
    rw [ifb_t (by rw [i_le _ _ (by omega) (by omega)]; omega)]
    congr 1; funext j; rw [if_neg (by omega)]
  | d + 1, n, a, b, p, m, h, hb, hm => by
    rw [show n + (d + 1) + 1 = (n + d + 1) + 1 from by omega, f_J7_fill_fda19_10]; dsimp only
    rw [ifb_f (by rw [i_le _ _ (by omega) (by omega)]; omega), ix_n _ _ _ (by omega) (by omega), show Int32.ofNat a + 1 = Int32.ofNat (a + 1) from i_add a 1, t_fill N x d n (a + 1) b _ m (by omega) hb hm, i_cl _ (by omega)]
    congr 1; funext j
    by_cases hj : j = a
    · subst hj; rw [if_neg (by omega), upd_at, if_pos (by omega)]
    · rw [upd_ne _ _ _ _ hj]
      by_cases h2 : a + 1 ≤ j ∧ j < b
      · rw [if_pos h2, if_pos (by omega)]
      · rw [if_neg h2, if_neg (by omega)]
def row0 (k : Int32) : List Int32 := [k, 0, 0, 0, 0, 0, 0, 0, 0, 0]
theorem row0_get (k : Int32) (j : Nat) (h : j < 10) : (row0 k).getD j 0 = if j = 0 then k else 0 := by
  have : j = 0 ∨ j = 1 ∨ j = 2 ∨ j = 3 ∨ j = 4 ∨ j = 5 ∨ j = 6 ∨ j = 7 ∨ j = 8 ∨ j = 9 := by omega
  rcases this with rfl | rfl | rfl | rfl | rfl | rfl | rfl | rfl | rfl | rfl <;> rfl
theorem t_add {r : Int32} {c : Nat → Int32} {n : Nat} {l : List (List Int32)} (T : Tr r c n l) (N : Nat) (hN : 12 ≤ N) (k : Int32) (h : 10 * l.length + 10 ≤ n) : ∃ c', f_X5_add N r c n k = some (Int32.ofNat (l.length + 1), c') ∧ Tr (Int32.ofNat (l.length + 1)) c' n (l ++ [row0 k]) := by
  obtain ⟨rfl, h1, h2, h3, h4⟩ := T
  have e1 : Int32.ofNat l.length * 10 = Int32.ofNat (l.length * 10) := i_mul _ 10
  have e2 : Int32.ofNat (l.length * 10) + 10 = Int32.ofNat (l.length * 10 + 10) := i_add _ 10
  have ef : f_J7_fill_fda19 N c n (Int32.ofNat (l.length * 10)) (Int32.ofNat (l.length * 10 + 10)) 0 = some (fun j => if l.length * 10 ≤ j ∧ j < l.length * 10 + 10 then 0 else c j) := by
    unfold f_J7_fill_fda19 f_J7_rangeCheck_23922
    rw [ifb_t (by rw [i_le _ _ (by omega) (by omega)]; omega), ifb_t (i_ge0 _ (by omega)), ifb_t (by rw [i_le _ _ (by omega) (by omega)]; omega), Option.bind_some]
    have := t_fill N 0 10 (N - 11) (l.length * 10) (l.length * 10 + 10) c n (by omega) (by omega) (by omega)
    rw [show N - 11 + 10 + 1 = N from by omega] at this
    exact this
  refine ⟨upd (fun j => if l.length * 10 ≤ j ∧ j < l.length * 10 + 10 then 0 else c j) (l.length * 10) k, ?_, ?_⟩
  · unfold f_X5_add f_X5_add_50
    rw [e1, e2, ifb_f (by rw [i_lt _ _ (by omega) (by omega)]; omega), bd ef, ix_n _ _ _ (by omega) (by omega), i_cl _ (by omega), show Int32.ofNat l.length + 1 = Int32.ofNat (l.length + 1) from i_add _ 1]
  · refine ⟨by simp, by simp; omega, h2, ?_, ?_⟩
    · intro x hx
      rcases List.mem_append.mp hx with hx | hx
      · exact h3 x hx
      · rw [List.mem_singleton.mp hx]; rfl
    · intro i j hi hj
      rw [List.length_append] at hi
      by_cases hl : i < l.length
      · rw [lc_l hl, upd_ne _ _ _ _ (by omega), if_neg (by omega), h4 i j hl hj]
      · have hi : i = l.length := by simp at hi; omega
        subst hi
        rw [lc_r (Nat.le_refl _), Nat.sub_self]
        show _ = (row0 k).getD j 0
        rw [row0_get k j hj]
        by_cases hj0 : j = 0
        · subst hj0; rw [if_pos rfl, show 10 * l.length + 0 = l.length * 10 from by omega, upd_at]
        · rw [if_neg hj0, upd_ne _ _ _ _ (by omega), if_pos (by omega)]
theorem i_m10 (a : Nat) : Int32.ofNat a * 10 = Int32.ofNat (a * 10) := i_mul a 10
theorem i_p1 (a : Nat) : Int32.ofNat a + 1 = Int32.ofNat (a + 1) := i_add a 1
theorem t_len {a b : List (List Int32)} (h : (a : List (List Int32)) = b) : a.length = b.length := by rw [h]
theorem Tr.nil {c : Nat → Int32} {n : Nat} (hn : n ≤ 100000) : Tr 0 c n [] := ⟨rfl, by simp, hn, ⟨fun x h => absurd h List.not_mem_nil, fun i j h => absurd h (by simp)⟩⟩
theorem t_append {r r2 : Int32} {c c2 : Nat → Int32} {n n2 : Nat} {l l2 : List (List Int32)} (T : Tr r c n l) (T2 : Tr r2 c2 n2 l2) (N a b : Nat) (hab : a ≤ b) (hb : b ≤ l2.length) (h : 10 * (l.length + (b - a)) ≤ n) : ∃ c', f_X5_append N r c n r2 c2 n2 (Int32.ofNat a) (Int32.ofNat b) = some (Int32.ofNat (l.length + (b - a)), c') ∧ Tr (Int32.ofNat (l.length + (b - a))) c' n (l ++ (l2.drop a).take (b - a)) := by
  obtain ⟨rfl, h1, h2, h3, h4⟩ := T
  obtain ⟨rfl, g1, g2, g3, g4⟩ := T2
  refine ⟨va_cpy c2 c (a * 10) (l.length * 10) ((b - a) * 10), ?_, ?_⟩
  · unfold f_X5_append f_X5_append_78
    rw [i_sub b a hab, i_add, i_m10, i_m10, i_m10, i_m10]
    rw [ifb_f (i_nn a (by omega)), ifb_f (i_nn _ (by omega)), ifb_f (by rw [i_lt _ _ (by omega) (by omega)]; omega), ifb_f (by rw [i_lt _ _ (by omega) (by omega)]; omega)]
    rw [ckp_t, i_cl _ (by omega), i_cl _ (by omega), i_cl _ (by omega)]
    rw [i_cl _ (by omega), i_cl _ (by omega), i_cl _ (by omega)]
    exact ⟨⟨⟨i_nn _ (by omega), i_nn _ (by omega)⟩, i_nn _ (by omega)⟩, by omega, by omega⟩
  · refine ⟨by rw [List.length_append, List.length_take, List.length_drop]; congr 1; omega, by rw [List.length_append, List.length_take, List.length_drop]; omega, h2, ?_, ?_⟩
    · intro x hx
      rcases List.mem_append.mp hx with hx | hx
      · exact h3 x hx
      · exact g3 x (List.mem_of_mem_drop (List.mem_of_mem_take hx))
    · intro i j hi hj
      rw [List.length_append, List.length_take, List.length_drop] at hi
      unfold va_cpy
      by_cases hl : i < l.length
      · rw [lc_l hl, if_neg (by omega), h4 i j hl hj]
      · rw [lc_r (by omega), lc_take j (by omega), lc_drop, if_pos (by omega)]
        rw [← g4 (a + (i - l.length)) j (by omega) hj]
        congr 1; omega
theorem t_become {r r2 : Int32} {c c2 : Nat → Int32} {n n2 : Nat} {l2 : List (List Int32)} (hn : n ≤ 100000) (T2 : Tr r2 c2 n2 l2) (N a b : Nat) (hab : a ≤ b) (hb : b ≤ l2.length) (h : 10 * (b - a) ≤ n) : ∃ c', f_X5_become N r c n r2 c2 n2 (Int32.ofNat a) (Int32.ofNat b) = some (Int32.ofNat (b - a), c') ∧ Tr (Int32.ofNat (b - a)) c' n ((l2.drop a).take (b - a)) := by
  obtain ⟨c', e, T⟩ := t_append (Tr.nil (c := c) hn) T2 N a b hab hb (by simp; omega)
  simp only [List.length_nil, Nat.zero_add, List.nil_append] at e T
  refine ⟨c', ?_, T⟩
  unfold f_X5_become
  rw [bd e]
theorem t_cut {r : Int32} {c : Nat → Int32} {n : Nat} {l : List (List Int32)} (T : Tr r c n l) (N e : Nat) (h : e ≤ l.length) : f_X5_cut N r (Int32.ofNat e) = some (Int32.ofNat e) ∧ Tr (Int32.ofNat e) c n (l.take e) := by
  obtain ⟨rfl, h1, h2, h3, h4⟩ := T
  refine ⟨?_, by rw [List.length_take]; congr 1; omega, by rw [List.length_take]; omega, h2, fun x hx => h3 x (List.mem_of_mem_take hx), ?_⟩
  · unfold f_X5_cut f_X5_cut_17
    rw [ifb_f (i_nn e (by omega))]
    by_cases he : l.length ≤ e
    · rw [ifb_t (by rw [i_le _ _ (by omega) (by omega)]; omega), show l.length = e from by omega]
    · rw [ifb_f (by rw [i_le _ _ (by omega) (by omega)]; omega)]
  · intro i j hi hj
    rw [List.length_take] at hi
    rw [lc_take j (by omega), h4 i j (by omega) hj]
theorem t_slide {r : Int32} {c : Nat → Int32} {n : Nat} {l : List (List Int32)} (T : Tr r c n l) (N f t : Nat) (ht : t ≤ f) (hf : f ≤ l.length) : ∃ c', f_X5_slide N r c n (Int32.ofNat f) (Int32.ofNat t) = some (Int32.ofNat (l.length - (f - t)), c') ∧ Tr (Int32.ofNat (l.length - (f - t))) c' n (l.take t ++ l.drop f) := by
  obtain ⟨rfl, h1, h2, h3, h4⟩ := T
  refine ⟨va_cpy c c (f * 10) (t * 10) ((l.length - f) * 10), ?_, ?_⟩
  · unfold f_X5_slide
    rw [i_sub l.length f hf, i_sub f t ht, i_sub l.length (f - t) (by omega), i_m10, i_m10, i_m10]
    rw [ifb_f (i_nn t (by omega)), ifb_f (by rw [i_lt _ _ (by omega) (by omega)]; omega), ifb_t (by rw [i_le _ _ (by omega) (by omega)]; omega)]
    rw [ckp_t, i_cl _ (by omega), i_cl _ (by omega), i_cl _ (by omega)]
    rw [i_cl _ (by omega), i_cl _ (by omega), i_cl _ (by omega)]
    exact ⟨⟨⟨i_nn _ (by omega), i_nn _ (by omega)⟩, i_nn _ (by omega)⟩, by omega, by omega⟩
  · refine ⟨by rw [List.length_append, List.length_take, List.length_drop]; congr 1; omega, by rw [List.length_append, List.length_take, List.length_drop]; omega, h2, ?_, ?_⟩
    · intro x hx
      rcases List.mem_append.mp hx with hx | hx
      · exact h3 x (List.mem_of_mem_take hx)
      · exact h3 x (List.mem_of_mem_drop hx)
    · intro i j hi hj
      rw [List.length_append, List.length_take, List.length_drop] at hi
      unfold va_cpy
      by_cases hl : i < t
      · rw [lc_l (by rw [List.length_take]; omega), lc_take j hl, if_neg (by omega), h4 i j (by omega) hj]
      · rw [lc_r (by rw [List.length_take]; omega), lc_drop, List.length_take, if_pos (by omega), ← h4 _ j (by omega) hj]
        congr 1; omega
theorem t_rep_loop (N : Nat) {c : Nat → Int32} {n : Nat} {l : List (List Int32)} (T : Tr (Int32.ofNat l.length) c n l) (s : Nat) : ∀ (d m k : Nat), k + d = l.length * 10 → s ≤ k → (f_X5_repeats_31 N (m + d + 1) (Int32.ofNat l.length) c n (Int32.ofNat s) (Int32.ofNat k) = some 1 ∧ ∀ q, k ≤ q → q < l.length * 10 → c q = c (q - s)) ∨ (f_X5_repeats_31 N (m + d + 1) (Int32.ofNat l.length) c n (Int32.ofNat s) (Int32.ofNat k) = some 0 ∧ ¬ ∀ q, k ≤ q → q < l.length * 10 → c q = c (q - s))
  | 0, m, k, h, hs => by
    obtain ⟨_, h1, h2, h3, h4⟩ := T
    rw [f_X5_repeats_31]; dsimp only
    rw [i_m10, ifb_t (by rw [i_le _ _ (by omega) (by omega)]; omega)]
    exact Or.inl ⟨rfl, fun q a b => by omega⟩
  | d + 1, m, k, h, hs => by
    have T' := T
    obtain ⟨_, h1, h2, h3, h4⟩ := T
    rw [show m + (d + 1) + 1 = (m + d + 1) + 1 from by omega, f_X5_repeats_31]; dsimp only
    rw [i_m10, ifb_f (by rw [i_le _ _ (by omega) (by omega)]; omega), ix_n _ _ _ (by omega) (by omega), i_sub _ _ hs, ix_n _ _ _ (by omega) (by omega), i_cl _ (by omega), i_cl _ (by omega), i_p1]
    by_cases hc : c k = c (k - s)
    · rw [ifb_t hc]
      rcases t_rep_loop N T' s d m (k + 1) (by omega) (by omega) with ⟨e, hq⟩ | ⟨e, hq⟩
      · exact Or.inl ⟨e, fun q a b => by
          by_cases hk : q = k
          · rw [hk]; exact hc
          · exact hq q (by omega) b⟩
      · exact Or.inr ⟨e, fun g => hq (fun q a b => g q (by omega) b)⟩
    · rw [ifb_f hc]
      exact Or.inr ⟨rfl, fun g => hc (g k (Nat.le_refl _) (by omega))⟩
theorem t_repeats {r : Int32} {c : Nat → Int32} {n : Nat} {l : List (List Int32)} (T : Tr r c n l) (N a b : Nat) (hN : 10 * l.length + 1 ≤ N) (ha : a ≤ b) (hb : b ≤ l.length) : f_X5_repeats N r c n (Int32.ofNat a) (Int32.ofNat b) = some (if (l.drop a).take (b - a) = l.drop b then 1 else 0) := by
  have T' := T
  obtain ⟨rfl, h1, h2, h3, h4⟩ := T
  unfold f_X5_repeats f_X5_repeats_16
  rw [ifb_f (i_nn a (by omega)), i_sub b a ha, i_sub _ b hb]
  by_cases he : b - a = l.length - b
  · rw [ifb_t (by rw [he]), i_m10, i_m10]
    have := t_rep_loop N T' ((b - a) * 10) (l.length * 10 - b * 10) (N - (l.length * 10 - b * 10) - 1) (b * 10) (by omega) (by omega)
    rw [show N - (l.length * 10 - b * 10) - 1 + (l.length * 10 - b * 10) + 1 = N from by omega] at this
    have hiff : (∀ q, b * 10 ≤ q → q < l.length * 10 → c q = c (q - (b - a) * 10)) ↔ (l.drop a).take (b - a) = l.drop b := by
      constructor
      · intro g
        apply Tr.ext
        · rw [List.length_take, List.length_drop, List.length_drop]; omega
        · exact fun x hx => h3 x (List.mem_of_mem_drop (List.mem_of_mem_take hx))
        · exact fun x hx => h3 x (List.mem_of_mem_drop hx)
        · intro i j hi hj
          rw [List.length_take, List.length_drop] at hi
          rw [lc_take j (by omega), lc_drop, lc_drop, ← h4 _ j (by omega) hj, ← h4 _ j (by omega) hj, g (10 * (b + i) + j) (by omega) (by omega)]
          congr 1; omega
      · intro g q h5 h6
        have hq : q = 10 * (b + (q / 10 - b)) + q % 10 := by omega
        have e1 := h4 (b + (q / 10 - b)) (q % 10) (by omega) (by omega)
        have e2 := h4 (a + (q / 10 - b)) (q % 10) (by omega) (by omega)
        rw [← lc_drop, ← g, lc_take _ (by omega), lc_drop] at e1
        rw [← hq] at e1
        rw [e1, ← e2]
        congr 1; omega
    rcases this with ⟨e, g⟩ | ⟨e, g⟩
    · rw [e, if_pos (hiff.mp g)]
    · rw [e, if_neg (fun h => g (hiff.mpr h))]
  · rw [ifb_f (by rw [i_eq _ _ (by omega) (by omega)]; exact he), if_neg]
    intro g
    have := congrArg List.length g
    rw [List.length_take, List.length_drop, List.length_drop] at this
    omega
def negC (c : Nat → Int32) (q : Nat) : Int32 := if q % 10 = 0 then c q ^^^ 1 else if c (q / 10 * 10) = 4 ∨ c (q / 10 * 10) = 5 then -(c q) else c q
theorem t_neg_in (K : Int32 → (Nat → Int32) → Nat → Int32 → Int32 → Option (Nat → Int32)) (N : Nat) (rows y3 y4 : Int32) (nc s : Nat) (hs : s + 10 ≤ nc) (hn : nc ≤ 100000) : ∀ (d m k : Nat) (c : Nat → Int32), k + d = s + 10 → f_X5_negate_67 K N (m + d + 1) rows c nc y3 y4 (Int32.ofNat s) (Int32.ofNat k) = K rows (fun j => if k ≤ j ∧ j < s + 10 then -(c j) else c j) nc y3 (y4 + 1)
  | 0, m, k, c, h => by
    rw [f_X5_negate_67]; dsimp only
    rw [show Int32.ofNat s + 10 = Int32.ofNat (s + 10) from i_add s 10, ifb_t (by rw [i_le _ _ (by omega) (by omega)]; omega), f_X5_negate_98]
    congr 1; funext j; rw [if_neg (by omega)]
  | d + 1, m, k, c, h => by
    rw [show m + (d + 1) + 1 = (m + d + 1) + 1 from by omega, f_X5_negate_67]; dsimp only
    rw [show Int32.ofNat s + 10 = Int32.ofNat (s + 10) from i_add s 10, ifb_f (by rw [i_le _ _ (by omega) (by omega)]; omega), ix_n _ _ _ (by omega) (by omega), ix_n _ _ _ (by omega) (by omega), i_cl _ (by omega), i_p1, t_neg_in K N rows y3 y4 nc s hs hn d m (k + 1) _ (by omega)]
    congr 1; funext j
    by_cases hj : j = k
    · subst hj; rw [if_neg (by omega), upd_at, if_pos (by omega)]
    · rw [upd_ne _ _ _ _ hj]
      by_cases h2 : k + 1 ≤ j ∧ j < s + 10
      · rw [if_pos h2, if_pos (by omega)]
      · rw [if_neg h2, if_neg (by omega)]
theorem t_neg_loop (N : Nat) (hN : 12 ≤ N) (rows : Int32) (nc b : Nat) (hb : b * 10 ≤ nc) (hn : nc ≤ 100000) : ∀ (d m a : Nat) (c : Nat → Int32), a + d = b → f_X5_negate_16 N (m + d + 1) rows c nc (Int32.ofNat b) (Int32.ofNat a) = some (fun q => if a * 10 ≤ q ∧ q < b * 10 then negC c q else c q)
  | 0, m, a, c, h => by
    rw [f_X5_negate_16]; dsimp only
    rw [ifb_t (by rw [i_le _ _ (by omega) (by omega)]; omega)]
    congr 1; funext q; rw [if_neg (by omega)]
  | d + 1, m, a, c, h => by
    rw [show m + (d + 1) + 1 = (m + d + 1) + 1 from by omega, f_X5_negate_16]; dsimp only
    rw [ifb_f (by rw [i_le _ _ (by omega) (by omega)]; omega), i_m10, ix_n _ _ _ (by omega) (by omega), ix_n _ _ _ (by omega) (by omega), i_cl _ (by omega)]
    have key : ∀ (c1 : Nat → Int32), (∀ q, c1 q = if a * 10 ≤ q ∧ q < a * 10 + 10 then negC c q else c q) → f_X5_negate_16 N (m + d + 1) rows c1 nc (Int32.ofNat b) (Int32.ofNat (a + 1)) = some (fun q => if a * 10 ≤ q ∧ q < b * 10 then negC c q else c q) := by
      intro c1 hc
      rw [t_neg_loop N hN rows nc b hb hn d m (a + 1) c1 (by omega)]
      congr 1; funext q
      by_cases h2 : (a + 1) * 10 ≤ q ∧ q < b * 10
      · rw [if_pos h2, if_pos (by omega)]
        have e1 : c1 q = c q := by rw [hc q, if_neg (by omega)]
        have e2 : c1 (q / 10 * 10) = c (q / 10 * 10) := by rw [hc (q / 10 * 10), if_neg (by omega)]
        unfold negC
        rw [e1, e2]
      · rw [if_neg h2, hc q]
        by_cases h5 : a * 10 ≤ q ∧ q < a * 10 + 10
        · rw [if_pos h5, if_pos (by omega)]
        · rw [if_neg h5, if_neg (by omega)]
    have two : c (a * 10) = 4 ∨ c (a * 10) = 5 → f_X5_negate_61 (f_X5_negate_16 N (m + d + 1)) N rows (upd c (a * 10) (c (a * 10) ^^^ 1)) nc (Int32.ofNat b) (Int32.ofNat a) (Int32.ofNat (a * 10)) = some (fun q => if a * 10 ≤ q ∧ q < b * 10 then negC c q else c q) := by
      intro hk
      have e := t_neg_in (f_X5_negate_16 N (m + d + 1)) N rows (Int32.ofNat b) (Int32.ofNat a) nc (a * 10) (by omega) hn 9 (N - 10) (a * 10 + 1) (upd c (a * 10) (c (a * 10) ^^^ 1)) (by omega)
      rw [show N - 10 + 9 + 1 = N from by omega, i_p1] at e
      unfold f_X5_negate_61
      rw [i_p1, e]
      apply key
      intro q
      unfold negC
      by_cases h5 : a * 10 + 1 ≤ q ∧ q < a * 10 + 10
      · rw [if_pos h5, upd_ne _ _ _ _ (by omega), if_pos (by omega), if_neg (by omega), show q / 10 * 10 = a * 10 from by omega, if_pos hk]
      · rw [if_neg h5]
        by_cases h6 : q = a * 10
        · subst h6; rw [upd_at, if_pos (by omega), if_pos (by omega)]
        · rw [upd_ne _ _ _ _ h6, if_neg (by omega)]
    by_cases h4 : c (a * 10) = 4
    · rw [ifb_t h4]; exact two (Or.inl h4)
    · rw [ifb_f h4]
      by_cases h5 : c (a * 10) = 5
      · rw [ifb_t h5]; exact two (Or.inr h5)
      · rw [ifb_f h5, f_X5_negate_98, i_p1]
        apply key
        intro q
        unfold negC
        by_cases h6 : q = a * 10
        · subst h6; rw [upd_at, if_pos (by omega), if_pos (by omega)]
        · rw [upd_ne _ _ _ _ h6]
          by_cases h7 : a * 10 ≤ q ∧ q < a * 10 + 10
          · rw [if_pos h7, if_neg (by omega), show q / 10 * 10 = a * 10 from by omega, if_neg (by simp [h4, h5])]
          · rw [if_neg h7]
def negRow (r : List Int32) : List Int32 := (r.getD 0 0 ^^^ 1) :: (if r.getD 0 0 = 4 ∨ r.getD 0 0 = 5 then (r.drop 1).map (fun x => -x) else r.drop 1)
theorem negRow_len (r : List Int32) (h : r.length = 10) : (negRow r).length = 10 := by
  unfold negRow; split <;> simp [h]
theorem negRow_get (r : List Int32) (h : r.length = 10) (j : Nat) (hj : j < 10) : (negRow r).getD j 0 = if j = 0 then r.getD 0 0 ^^^ 1 else if r.getD 0 0 = 4 ∨ r.getD 0 0 = 5 then -(r.getD j 0) else r.getD j 0 := by
  unfold negRow
  cases j with
  | zero => rfl
  | succ j =>
    have e : ¬ (j + 1 = 0) := by omega
    simp only [e, if_false]
    split
    · simp only [List.getD_eq_getElem?_getD, List.getElem?_cons_succ, List.getElem?_map, List.getElem?_drop]
      rw [show 1 + j = j + 1 from by omega, List.getElem?_eq_getElem (by omega)]
      rfl
    · simp only [List.getD_eq_getElem?_getD, List.getElem?_cons_succ, List.getElem?_drop]
      rw [show 1 + j = j + 1 from by omega]
theorem lc_map (f : List Int32 → List Int32) (l : List (List Int32)) (i j : Nat) (h : i < l.length) : lc (l.map f) i j = (f (l.getD i [])).getD j 0 := by
  unfold lc
  simp [List.getD_eq_getElem?_getD, h]
theorem t_negate {r : Int32} {c : Nat → Int32} {n : Nat} {l : List (List Int32)} (T : Tr r c n l) (N a b : Nat) (hN : l.length + 12 ≤ N) (ha : a ≤ b) (hb : b ≤ l.length) : ∃ c', f_X5_negate N r c n (Int32.ofNat a) (Int32.ofNat b) = some c' ∧ Tr r c' n (l.take a ++ ((l.drop a).take (b - a)).map negRow ++ l.drop b) := by
  obtain ⟨rfl, h1, h2, h3, h4⟩ := T
  refine ⟨fun q => if a * 10 ≤ q ∧ q < b * 10 then negC c q else c q, ?_, ?_⟩
  · unfold f_X5_negate
    have e1 : jmin (Int32.ofNat b) (Int32.ofNat l.length) = Int32.ofNat b := by
      show (if Int32.ofNat l.length < Int32.ofNat b then _ else _) = _
      rw [if_neg (by rw [i_lt _ _ (by omega) (by omega)]; omega)]
    have e2 : jmax (Int32.ofNat a) 0 = Int32.ofNat a := by
      show (if Int32.ofNat a < 0 then _ else _) = _
      rw [if_neg (i_nn _ (by omega))]
    rw [e1, e2]
    have := t_neg_loop N (by omega) (Int32.ofNat l.length) n b (by omega) h2 (b - a) (N - (b - a) - 1) a c (by omega)
    rw [show N - (b - a) - 1 + (b - a) + 1 = N from by omega] at this
    exact this
  · have hl : (l.take a ++ ((l.drop a).take (b - a)).map negRow ++ l.drop b).length = l.length := by simp; omega
    refine ⟨by rw [hl], by rw [hl]; exact h1, h2, ?_, ?_⟩
    · intro x hx
      rcases List.mem_append.mp hx with hx | hx
      · rcases List.mem_append.mp hx with hx | hx
        · exact h3 x (List.mem_of_mem_take hx)
        · obtain ⟨y, hy, rfl⟩ := List.mem_map.mp hx
          exact negRow_len y (h3 y (List.mem_of_mem_drop (List.mem_of_mem_take hy)))
      · exact h3 x (List.mem_of_mem_drop hx)
    · intro i j hi hj
      rw [hl] at hi
      show (if a * 10 ≤ 10 * i + j ∧ 10 * i + j < b * 10 then negC c (10 * i + j) else c (10 * i + j)) = _
      have l1 : (l.take a).length = a := by simp; omega
      have l2 : (((l.drop a).take (b - a)).map negRow).length = b - a := by simp; omega
      by_cases hia : i < a
      · rw [if_neg (by omega), List.append_assoc, lc_l (by omega), lc_take j hia, h4 i j hi hj]
      · by_cases hib : i < b
        · rw [if_pos (by omega), lc_l (by rw [List.length_append]; omega), lc_r (by omega), l1, lc_map _ _ _ _ (by simp; omega)]
          have eg : ((l.drop a).take (b - a)).getD (i - a) [] = l.getD i [] := by
            simp only [List.getD_eq_getElem?_getD, List.getElem?_take, List.getElem?_drop]
            rw [if_pos (by omega), show a + (i - a) = i from by omega]
          have e10 : (l.getD i []).length = 10 := by
            rw [List.getD_eq_getElem?_getD, List.getElem?_eq_getElem hi]; exact h3 _ (List.getElem_mem hi)
          rw [eg, negRow_get _ e10 j hj]
          have c0 : (l.getD i []).getD 0 0 = c (10 * i) := by rw [← Nat.add_zero (10 * i), h4 i 0 hi (by omega)]; rfl
          have cj : (l.getD i []).getD j 0 = c (10 * i + j) := by rw [h4 i j hi hj]; rfl
          rw [c0, cj]
          unfold negC
          rw [show (10 * i + j) / 10 * 10 = 10 * i from by omega]
          by_cases hj0 : j = 0
          · subst hj0; rw [if_pos (by omega), if_pos rfl]; rfl
          · rw [if_neg (by omega), if_neg hj0]
        · rw [if_neg (by omega), lc_r (by rw [List.length_append]; omega), List.length_append, l1, l2, lc_drop, h4 i j hi hj]
          congr 1; omega
def kin (l : List (List Int32)) (a b : Int32) : Nat := l.countP (fun r => decide (a ≤ r.getD 0 0) && decide (r.getD 0 0 ≤ b))
theorem i_not_lt (a b : Int32) : ¬ (a < b) ↔ b ≤ a := by rw [Int32.lt_iff_toInt_lt, Int32.le_iff_toInt_le]; omega
theorem t_many_loop (N : Nat) {c : Nat → Int32} {n : Nat} {l : List (List Int32)} (T : Tr (Int32.ofNat l.length) c n l) (a b : Int32) : ∀ (d m k y : Nat), k + d = l.length → f_X5_howMany_5 N (m + d + 1) (Int32.ofNat l.length) c n a b (Int32.ofNat y) (Int32.ofNat k) = some (Int32.ofNat (y + kin (l.drop k) a b))
  | 0, m, k, y, h => by
    obtain ⟨_, h1, h2, h3, h4⟩ := T
    rw [f_X5_howMany_5]; dsimp only
    rw [ifb_t (by rw [i_le _ _ (by omega) (by omega)]; omega), show l.drop k = [] from List.drop_eq_nil_of_le (by omega)]
    rfl
  | d + 1, m, k, y, h => by
    have T' := T
    obtain ⟨_, h1, h2, h3, h4⟩ := T
    have hk : k < l.length := by omega
    rw [show m + (d + 1) + 1 = (m + d + 1) + 1 from by omega, f_X5_howMany_5]; dsimp only
    rw [ifb_f (by rw [i_le _ _ (by omega) (by omega)]; omega), i_m10, ix_n _ _ _ (by omega) (by omega), i_cl _ (by omega)]
    have e0 : c (k * 10) = (l[k]).getD 0 0 := by
      rw [show k * 10 = 10 * k + 0 from by omega, h4 k 0 hk (by omega)]; unfold lc
      have : l.getD k [] = l[k] := by simp [List.getD_eq_getElem?_getD, hk]
      rw [this]
    have ed : l.drop k = l[k] :: l.drop (k + 1) := List.drop_eq_getElem_cons hk
    rw [ed, kin, List.countP_cons, e0]
    unfold f_X5_howMany_41
    rw [i_p1]
    by_cases h5 : (l[k]).getD 0 0 < a
    · rw [ifb_t h5, t_many_loop N T' a b d m (k + 1) y (by omega), if_neg (by simp; intro g; exact absurd h5 ((i_not_lt _ _).mpr g))]
      rfl
    · rw [ifb_f h5]
      by_cases h6 : b < (l[k]).getD 0 0
      · rw [ifb_t h6, t_many_loop N T' a b d m (k + 1) y (by omega), if_neg (by simp; intro _; exact h6)]
        rfl
      · rw [ifb_f h6, i_p1, t_many_loop N T' a b d m (k + 1) (y + 1) (by omega), if_pos (by simp; exact ⟨(i_not_lt _ _).mp h5, (i_not_lt _ _).mp h6⟩)]
        congr 2; show y + 1 + kin _ a b = y + (kin _ a b + 1); omega
theorem t_howMany {r : Int32} {c : Nat → Int32} {n : Nat} {l : List (List Int32)} (T : Tr r c n l) (N : Nat) (hN : l.length + 1 ≤ N) (a b : Int32) : f_X5_howMany N r c n a b = some (Int32.ofNat (kin l a b)) := by
  have hr := T.1
  subst hr
  have := t_many_loop N T a b l.length (N - l.length - 1) 0 0 (by omega)
  rw [show N - l.length - 1 + l.length + 1 = N from by omega, Nat.zero_add, List.drop_zero] at this
  exact this
def rowq (k : Int32) (v : Nat) : List Int32 := [k, Int32.ofNat v, 0, 0, 0, 0, 0, 0, 0, 0]
def kd (r : List Int32) : Int32 := r.getD 0 0
def stp {β : Type} (lf : List Int32 → β) (qu : List Int32 → β → β) (bi : List Int32 → β → β → β) (st : List β) (r : List Int32) : List β :=
  if kd r < 6 then lf r :: st else if kd r < 8 then (match st with | y :: x :: t => bi r x y :: t | _ => st) else (match st with | x :: t => qu r x :: t | _ => st)
def cata {β : Type} (lf : List Int32 → β) (qu : List Int32 → β → β) (bi : List Int32 → β → β → β) (d : β) (l : List (List Int32)) : β := (l.foldl (stp lf qu bi) []).headD d
def rbk (r : List Int32) : Nat → Int32 → Int32
  | 0, b => b
  | k + 1, b => let b' := rbk r k b; if r.getD (1 + k) 0 ≠ 0 then b' ||| (1 <<< (Int32.ofNat k &&& 31)) else b'
def rb (r : List Int32) : Int32 := rbk r 8 0
def qv (r : List Int32) : Int32 := r.getD 1 0
def fv (l : List (List Int32)) : Int32 := cata rb (fun r x => x &&& ((1 <<< (qv r &&& 31)) ^^^ (-1))) (fun _ x y => x ||| y) 0 l
def Atm (r : List Int32) : Prop := r.length = 10 ∧ (kd r = 2 ∨ kd r = 3 ∨ kd r = 4 ∨ kd r = 5) ∧ (∀ j, 1 ≤ j → j < 10 → -1000000000 ≤ (r.getD j 0).toInt ∧ (r.getD j 0).toInt ≤ 1000000000) ∧ ∃ j, 1 ≤ j ∧ j < 9 ∧ r.getD j 0 ≠ 0
def Leaf (r : List Int32) : Prop := r = row0 0 ∨ r = row0 1 ∨ Atm r
def fT : List (List Int32) := [row0 0]
def fF : List (List Int32) := [row0 1]
def okBi (a b : List (List Int32)) : Prop := a ≠ fT ∧ a ≠ fF ∧ b ≠ fT ∧ b ≠ fF ∧ a ≠ b
def okQu (v : Nat) (a : List (List Int32)) : Prop := ((fv a >>> (Int32.ofNat v &&& 31)) &&& 1) ≠ 0
def Fmn : Nat → List (List Int32) → Prop
  | 0, _ => False
  | n + 1, l => (∃ r, Leaf r ∧ l = [r]) ∨ (∃ a k v, Fmn n a ∧ (k = 8 ∨ k = 9) ∧ v < 8 ∧ okQu v a ∧ l = a ++ [rowq k v]) ∨ (∃ a b k, Fmn n a ∧ Fmn n b ∧ (k = 6 ∨ k = 7) ∧ okBi a b ∧ l = a ++ b ++ [row0 k])
def Fm (l : List (List Int32)) : Prop := ∃ n, Fmn n l
theorem Fmn.mono {n : Nat} : ∀ {l : List (List Int32)}, Fmn n l → Fmn (n + 1) l := by
  induction n with
  | zero => intro l h; exact h.elim
  | succ n ih =>
    intro l h
    rcases h with h | ⟨a, k, v, ha, hk, hv, ho, e⟩ | ⟨a, b, k, ha, hb, hk, ho, e⟩
    · exact Or.inl h
    · exact Or.inr (Or.inl ⟨a, k, v, ih ha, hk, hv, ho, e⟩)
    · exact Or.inr (Or.inr ⟨a, b, k, ih ha, ih hb, hk, ho, e⟩)
theorem Fmn.le {n m : Nat} {l : List (List Int32)} (h : n ≤ m) (f : Fmn n l) : Fmn m l := by
  induction h with
  | refl => exact f
  | step _ ih => exact ih.mono
theorem Fm.leaf {r : List Int32} (h : Leaf r) : Fm [r] := ⟨1, Or.inl ⟨r, h, rfl⟩⟩
theorem Fm.qu {a : List (List Int32)} {k : Int32} {v : Nat} (ha : Fm a) (hk : k = 8 ∨ k = 9) (hv : v < 8) (ho : okQu v a) : Fm (a ++ [rowq k v]) := by
  obtain ⟨n, h⟩ := ha
  exact ⟨n + 1, Or.inr (Or.inl ⟨a, k, v, h, hk, hv, ho, rfl⟩)⟩
theorem Fm.bi {a b : List (List Int32)} {k : Int32} (ha : Fm a) (hb : Fm b) (hk : k = 6 ∨ k = 7) (ho : okBi a b) : Fm (a ++ b ++ [row0 k]) := by
  obtain ⟨n, h⟩ := ha
  obtain ⟨m, g⟩ := hb
  exact ⟨n + m + 1, Or.inr (Or.inr ⟨a, b, k, h.le (by omega), g.le (by omega), hk, ho, rfl⟩)⟩
theorem Fm.ind {P : List (List Int32) → Prop} (hl : ∀ r, Leaf r → P [r]) (hq : ∀ a k v, Fm a → P a → (k = 8 ∨ k = 9) → v < 8 → okQu v a → P (a ++ [rowq k v])) (hb : ∀ a b k, Fm a → Fm b → P a → P b → (k = 6 ∨ k = 7) → okBi a b → P (a ++ b ++ [row0 k])) {l : List (List Int32)} (h : Fm l) : P l := by
  obtain ⟨n, h⟩ := h
  induction n generalizing l with
  | zero => exact h.elim
  | succ n ih =>
    rcases h with ⟨r, hr, rfl⟩ | ⟨a, k, v, ha, hk, hv, ho, rfl⟩ | ⟨a, b, k, ha, hb', hk, ho, rfl⟩
    · exact hl r hr
    · exact hq a k v ⟨n, ha⟩ (ih ha) hk hv ho
    · exact hb a b k ⟨n, ha⟩ ⟨n, hb'⟩ (ih ha) (ih hb') hk ho
theorem Fm.cases {l : List (List Int32)} (h : Fm l) : (∃ r, Leaf r ∧ l = [r]) ∨ (∃ a k v, Fm a ∧ (k = 8 ∨ k = 9) ∧ v < 8 ∧ okQu v a ∧ l = a ++ [rowq k v]) ∨ (∃ a b k, Fm a ∧ Fm b ∧ (k = 6 ∨ k = 7) ∧ okBi a b ∧ l = a ++ b ++ [row0 k]) := by
  refine Fm.ind (P := fun l => (∃ r, Leaf r ∧ l = [r]) ∨ (∃ a k v, Fm a ∧ (k = 8 ∨ k = 9) ∧ v < 8 ∧ okQu v a ∧ l = a ++ [rowq k v]) ∨ (∃ a b k, Fm a ∧ Fm b ∧ (k = 6 ∨ k = 7) ∧ okBi a b ∧ l = a ++ b ++ [row0 k])) ?_ ?_ ?_ h
  · exact fun r hr => Or.inl ⟨r, hr, rfl⟩
  · exact fun a k v ha _ hk hv ho => Or.inr (Or.inl ⟨a, k, v, ha, hk, hv, ho, rfl⟩)
  · exact fun a b k ha hb _ _ hk ho => Or.inr (Or.inr ⟨a, b, k, ha, hb, hk, ho, rfl⟩)
theorem Leaf.kd {r : List Int32} (h : Leaf r) : kd r < 6 := by
  rcases h with rfl | rfl | ⟨_, h, _⟩
  · decide
  · decide
  · rcases h with h | h | h | h <;> rw [h] <;> decide
theorem Leaf.len {r : List Int32} (h : Leaf r) : r.length = 10 := by
  rcases h with rfl | rfl | ⟨h, _⟩
  · rfl
  · rfl
  · exact h
theorem Fm.rows {l : List (List Int32)} (h : Fm l) : ∀ x ∈ l, x.length = 10 := by
  refine Fm.ind (P := fun l => ∀ x ∈ l, x.length = 10) ?_ ?_ ?_ h
  · intro r hr x hx; rw [List.mem_singleton.mp hx]; exact hr.len
  · intro a k v _ ih _ _ _ x hx
    rcases List.mem_append.mp hx with hx | hx
    · exact ih x hx
    · rw [List.mem_singleton.mp hx]; rfl
  · intro a b k _ _ iha ihb _ _ x hx
    rcases List.mem_append.mp hx with hx | hx
    · rcases List.mem_append.mp hx with hx | hx
      · exact iha x hx
      · exact ihb x hx
    · rw [List.mem_singleton.mp hx]; rfl
theorem Fm.pos {l : List (List Int32)} (h : Fm l) : 0 < l.length := by
  rcases h.cases with ⟨r, _, rfl⟩ | ⟨a, k, v, _, _, _, _, rfl⟩ | ⟨a, b, k, _, _, _, _, rfl⟩ <;> simp <;> omega
section CATA
variable {β : Type} (lf : List Int32 → β) (qu : List Int32 → β → β) (bi : List Int32 → β → β → β) (d : β)
theorem stp_leaf {r : List Int32} (h : Leaf r) (st : List β) : stp lf qu bi st r = lf r :: st := by
  unfold stp; rw [if_pos h.kd]
theorem stp_qu {k : Int32} (hk : k = 8 ∨ k = 9) (v : Nat) (x : β) (st : List β) : stp lf qu bi (x :: st) (rowq k v) = qu (rowq k v) x :: st := by
  unfold stp
  have e : kd (rowq k v) = k := rfl
  rw [e, if_neg (by rcases hk with rfl | rfl <;> decide), if_neg (by rcases hk with rfl | rfl <;> decide)]
theorem stp_bi {k : Int32} (hk : k = 6 ∨ k = 7) (x y : β) (st : List β) : stp lf qu bi (y :: x :: st) (row0 k) = bi (row0 k) x y :: st := by
  unfold stp
  have e : kd (row0 k) = k := rfl
  rw [e, if_neg (by rcases hk with rfl | rfl <;> decide), if_pos (by rcases hk with rfl | rfl <;> decide)]
theorem cata_push {l : List (List Int32)} (h : Fm l) : ∀ st, l.foldl (stp lf qu bi) st = cata lf qu bi d l :: st := by
  refine Fm.ind (P := fun l => ∀ st, l.foldl (stp lf qu bi) st = cata lf qu bi d l :: st) ?_ ?_ ?_ h
  · intro r hr st
    unfold cata
    simp only [List.foldl_cons, List.foldl_nil, stp_leaf lf qu bi hr, List.headD_cons]
  · intro a k v ha ih hk hv _ st
    unfold cata
    simp only [List.foldl_append, List.foldl_cons, List.foldl_nil, ih, stp_qu lf qu bi hk, List.headD_cons]
  · intro a b k ha hb iha ihb hk _ st
    unfold cata
    simp only [List.foldl_append, List.foldl_cons, List.foldl_nil, iha, ihb, stp_bi lf qu bi hk, List.headD_cons]
theorem cata_leaf {r : List Int32} (h : Leaf r) : cata lf qu bi d [r] = lf r := by
  unfold cata; simp only [List.foldl_cons, List.foldl_nil, stp_leaf lf qu bi h, List.headD_cons]
theorem cata_qu {a : List (List Int32)} {k : Int32} (ha : Fm a) (hk : k = 8 ∨ k = 9) (v : Nat) : cata lf qu bi d (a ++ [rowq k v]) = qu (rowq k v) (cata lf qu bi d a) := by
  have := cata_push lf qu bi d ha []
  conv => lhs; unfold cata
  simp only [List.foldl_append, List.foldl_cons, List.foldl_nil, this, stp_qu lf qu bi hk, List.headD_cons]
theorem cata_bi {a b : List (List Int32)} {k : Int32} (ha : Fm a) (hb : Fm b) (hk : k = 6 ∨ k = 7) : cata lf qu bi d (a ++ b ++ [row0 k]) = bi (row0 k) (cata lf qu bi d a) (cata lf qu bi d b) := by
  have e1 := cata_push lf qu bi d ha []
  have e2 := cata_push lf qu bi d hb [cata lf qu bi d a]
  conv => lhs; unfold cata
  simp only [List.foldl_append, List.foldl_cons, List.foldl_nil, e1, e2, stp_bi lf qu bi hk, List.headD_cons]
end CATA
theorem fv_leaf {r : List Int32} (h : Leaf r) : fv [r] = rb r := cata_leaf _ _ _ _ h
theorem fv_qu {a : List (List Int32)} {k : Int32} (ha : Fm a) (hk : k = 8 ∨ k = 9) (v : Nat) : fv (a ++ [rowq k v]) = fv a &&& ((1 <<< (Int32.ofNat v &&& 31)) ^^^ (-1)) := cata_qu _ _ _ _ ha hk v
theorem fv_bi {a b : List (List Int32)} {k : Int32} (ha : Fm a) (hb : Fm b) (hk : k = 6 ∨ k = 7) : fv (a ++ b ++ [row0 k]) = fv a ||| fv b := cata_bi _ _ _ _ ha hb hk
theorem Fm.tail {a : List (List Int32)} (ha : Fm a) : ∀ {b s t : List (List Int32)}, Fm b → s ++ a = t ++ b → a = b ∧ s = t := by
  refine Fm.ind (P := fun a => ∀ {b s t : List (List Int32)}, Fm b → s ++ a = t ++ b → a = b ∧ s = t) ?_ ?_ ?_ ha
  · intro r hr b s t hb e
    rcases hb.cases with ⟨r', hr', rfl⟩ | ⟨a', k, v, _, hk, _, _, rfl⟩ | ⟨a', b', k, _, _, hk, _, rfl⟩
    · obtain ⟨h1, h2⟩ := List.append_inj' e rfl
      exact ⟨h2, h1⟩
    · simp only [← List.append_assoc] at e
      obtain ⟨h1, h2⟩ := List.append_inj' e rfl
      have := hr.kd
      rw [(List.cons.inj h2).1] at this
      exact absurd (show k < 6 from this) (by rcases hk with rfl | rfl <;> decide)
    · simp only [← List.append_assoc] at e
      obtain ⟨h1, h2⟩ := List.append_inj' e rfl
      have := hr.kd
      rw [(List.cons.inj h2).1] at this
      exact absurd (show k < 6 from this) (by rcases hk with rfl | rfl <;> decide)
  · intro a k v ha ih hk hv ho b s t hb e
    rcases hb.cases with ⟨r', hr', rfl⟩ | ⟨a', k', v', ha', hk', hv', ho', rfl⟩ | ⟨a', b', k', _, _, hk', _, rfl⟩
    · simp only [← List.append_assoc] at e
      obtain ⟨h1, h2⟩ := List.append_inj' e rfl
      have := hr'.kd
      rw [← (List.cons.inj h2).1] at this
      exact absurd (show k < 6 from this) (by rcases hk with rfl | rfl <;> decide)
    · simp only [← List.append_assoc] at e
      obtain ⟨h1, h2⟩ := List.append_inj' e rfl
      obtain ⟨g1, g2⟩ := ih ha' h1
      rw [g1, h2]
      exact ⟨rfl, g2⟩
    · simp only [← List.append_assoc] at e
      obtain ⟨h1, h2⟩ := List.append_inj' e rfl
      have h3 : k = k' := (List.cons.inj (List.cons.inj h2).1).1
      subst h3
      rcases hk with rfl | rfl <;> rcases hk' with h | h <;> exact absurd h (by decide)
  · intro a b k ha hb iha ihb hk ho c s t hc e
    rcases hc.cases with ⟨r', hr', rfl⟩ | ⟨a', k', v', ha', hk', hv', ho', rfl⟩ | ⟨a', b', k', ha', hb', hk', _, rfl⟩
    · simp only [← List.append_assoc] at e
      obtain ⟨h1, h2⟩ := List.append_inj' e rfl
      have := hr'.kd
      rw [← (List.cons.inj h2).1] at this
      exact absurd (show k < 6 from this) (by rcases hk with rfl | rfl <;> decide)
    · simp only [← List.append_assoc] at e
      obtain ⟨h1, h2⟩ := List.append_inj' e rfl
      have h3 : k = k' := (List.cons.inj (List.cons.inj h2).1).1
      subst h3
      rcases hk with rfl | rfl <;> rcases hk' with h | h <;> exact absurd h (by decide)
    · simp only [← List.append_assoc] at e
      obtain ⟨h1, h2⟩ := List.append_inj' e rfl
      obtain ⟨g1, g2⟩ := ihb hb' h1
      obtain ⟨f1, f2⟩ := iha ha' g2
      rw [f1, g1, h2]
      exact ⟨rfl, f2⟩
theorem Fm.sub {l : List (List Int32)} (h : Fm l) : ∀ i, i < l.length → ∃ pre f post, l = pre ++ f ++ post ∧ Fm f ∧ pre.length + f.length = i + 1 := by
  refine Fm.ind (P := fun l => ∀ i, i < l.length → ∃ pre f post, l = pre ++ f ++ post ∧ Fm f ∧ pre.length + f.length = i + 1) ?_ ?_ ?_ h
  · intro r hr i hi
    have : i = 0 := by simp at hi; omega
    subst this
    exact ⟨[], [r], [], rfl, Fm.leaf hr, rfl⟩
  · intro a k v ha ih hk hv ho i hi
    by_cases hl : i < a.length
    · obtain ⟨pre, f, post, e, hf, hp⟩ := ih i hl
      exact ⟨pre, f, post ++ [rowq k v], by rw [e]; simp, hf, hp⟩
    · have : i = a.length := by simp at hi; omega
      exact ⟨[], a ++ [rowq k v], [], by simp, Fm.qu ha hk hv ho, by simp [this]⟩
  · intro a b k ha hb iha ihb hk ho i hi
    by_cases hl : i < a.length
    · obtain ⟨pre, f, post, e, hf, hp⟩ := iha i hl
      exact ⟨pre, f, post ++ b ++ [row0 k], by rw [e]; simp, hf, hp⟩
    · by_cases hl2 : i < a.length + b.length
      · obtain ⟨pre, f, post, e, hf, hp⟩ := ihb (i - a.length) (by omega)
        exact ⟨a ++ pre, f, post ++ [row0 k], by rw [e]; simp, hf, by rw [List.length_append]; omega⟩
      · have : i = a.length + b.length := by simp at hi; omega
        exact ⟨[], a ++ b ++ [row0 k], [], by simp, Fm.bi ha hb hk ho, by simp [this]; omega⟩
def Spk (p : Nat → Int32) (l : List (List Int32)) (k : Nat) : Prop := ∀ pre f post, l = pre ++ f ++ post → Fm f → pre.length + f.length ≤ k → p (pre.length + f.length - 1) = Int32.ofNat pre.length
theorem kd_lc {l : List (List Int32)} {i : Nat} (h : i < l.length) : lc l i 0 = kd (l[i]) := by
  unfold lc kd
  simp [List.getD_eq_getElem?_getD, h]
theorem lc_at {pre post : List (List Int32)} {r : List Int32} {i : Nat} (j : Nat) (h : i = pre.length) : lc (pre ++ r :: post) i j = r.getD j 0 := by
  subst h
  rw [lc_r (Nat.le_refl _), Nat.sub_self]; rfl
theorem t_meas_loop (N : Nat) {c : Nat → Int32} {n : Nat} {l : List (List Int32)} (T : Tr (Int32.ofNat l.length) c n l) (F : Fm l) (h400 : l.length ≤ 400) : ∀ (d m k : Nat) (p : Nat → Int32), k + d = l.length → Spk p l k → ∃ p', f_X5_measure_12 N (m + d + 1) (Int32.ofNat l.length) c n p 400 (Int32.ofNat l.length) (Int32.ofNat k) = some p' ∧ Spk p' l l.length
  | 0, m, k, p, h, hs => by
    rw [f_X5_measure_12]; dsimp only
    rw [ifb_t (by rw [i_le _ _ (by omega) (by omega)]; omega)]
    exact ⟨p, rfl, by rw [show l.length = k from by omega]; exact hs⟩
  | d + 1, m, k, p, h, hs => by
    have T' := T
    obtain ⟨_, h1, h2, h3, h4⟩ := T
    have hk : k < l.length := by omega
    obtain ⟨pre, f, post, e, hf, hp⟩ := F.sub k hk
    rw [show m + (d + 1) + 1 = (m + d + 1) + 1 from by omega, f_X5_measure_12]; dsimp only
    rw [ifb_f (by rw [i_le _ _ (by omega) (by omega)]; omega), i_m10, ix_n _ _ _ (by omega) (by omega), i_cl _ (by omega), show k * 10 = 10 * k + 0 from by omega, h4 k 0 hk (by omega)]
    have next : ∀ p' : Nat → Int32, p' = upd p k (Int32.ofNat pre.length) → ∃ p'', f_X5_measure_12 N (m + d + 1) (Int32.ofNat l.length) c n p' 400 (Int32.ofNat l.length) (Int32.ofNat (k + 1)) = some p'' ∧ Spk p'' l l.length := by
      intro p' hp'
      apply t_meas_loop N T' F h400 d m (k + 1) p' (by omega)
      intro pre' f' post' e' hf' hl'
      rw [hp']
      have hpos := hf'.pos
      by_cases hq : pre'.length + f'.length = k + 1
      · have e2 : pre ++ f ++ post = pre' ++ f' ++ post' := by rw [← e, ← e']
        have e3 := (List.append_inj e2 (by rw [List.length_append, List.length_append]; omega)).1
        obtain ⟨_, e5⟩ := hf.tail hf' e3
        rw [hq, show k + 1 - 1 = k from by omega, upd_at, e5]
      · rw [upd_ne _ _ _ _ (by omega)]
        exact hs pre' f' post' e' hf' (by omega)
    unfold f_X5_measure_45 f_X5_measure_92 f_X5_measure_93
    rcases hf.cases with ⟨r, hr, rfl⟩ | ⟨a, kk, v, ha, hkk, hv, ho, rfl⟩ | ⟨a, b, kk, ha, hb, hkk, ho, rfl⟩
    · have hpl : pre.length = k := by simp at hp; omega
      have e0 : lc l k 0 = kd r := by rw [e, List.append_assoc]; exact lc_at 0 hpl.symm
      rw [e0, ifb_t hr.kd, ix_n _ _ _ (by omega) (by omega), i_cl _ (by omega), i_p1]
      exact next _ (by rw [hpl])
    · have hapos := ha.pos
      have hpl : pre.length + a.length = k := by simp at hp; omega
      have e0 : lc l k 0 = kk := by
        rw [e, show pre ++ (a ++ [rowq kk v]) ++ post = (pre ++ a) ++ rowq kk v :: post from by simp]
        exact lc_at 0 (by rw [List.length_append]; omega)
      rw [e0, ifb_f (by rcases hkk with rfl | rfl <;> decide), show Int32.ofNat k - 1 = Int32.ofNat (k - 1) from i_sub k 1 (by omega), ifb_t (i_ge0 _ (by omega)), ifb_f (by rcases hkk with rfl | rfl <;> decide), ix_n _ _ _ (by omega) (by omega), ix_n _ _ _ (by omega) (by omega), i_cl _ (by omega), i_cl _ (by omega), i_p1]
      have e1 := hs pre a ([rowq kk v] ++ post) (by rw [e]; simp) ha (by omega)
      rw [hpl] at e1
      rw [e1]
      exact next _ rfl
    · have hapos := ha.pos
      have hbpos := hb.pos
      have hpl : pre.length + a.length + b.length = k := by simp at hp; omega
      have e0 : lc l k 0 = kk := by
        rw [e, show pre ++ (a ++ b ++ [row0 kk]) ++ post = (pre ++ a ++ b) ++ row0 kk :: post from by simp]
        exact lc_at 0 (by rw [List.length_append, List.length_append]; omega)
      have e1 := hs (pre ++ a) b ([row0 kk] ++ post) (by rw [e]; simp) hb (by rw [List.length_append]; omega)
      rw [List.length_append, hpl] at e1
      have e2 := hs pre a (b ++ [row0 kk] ++ post) (by rw [e]; simp) ha (by omega)
      rw [e0, ifb_f (by rcases hkk with rfl | rfl <;> decide), show Int32.ofNat k - 1 = Int32.ofNat (k - 1) from i_sub k 1 (by omega), ifb_t (i_ge0 _ (by omega)), ifb_t (by rcases hkk with rfl | rfl <;> decide), ix_n _ _ _ (by omega) (by omega), i_cl (k - 1) (by omega), e1, show Int32.ofNat (pre.length + a.length) - 1 = Int32.ofNat (pre.length + a.length - 1) from i_sub _ 1 (by omega), ifb_f (i_nn _ (by omega)), ix_n _ _ _ (by omega) (by omega), ix_n _ _ _ (by omega) (by omega), i_cl _ (by omega), i_cl _ (by omega), i_p1, e2]
      exact next _ rfl
theorem t_measure {r : Int32} {c : Nat → Int32} {n : Nat} {l : List (List Int32)} (T : Tr r c n l) (F : Fm l) (h400 : l.length ≤ 400) (N : Nat) (hN : l.length + 1 ≤ N) (p : Nat → Int32) : ∃ p', f_X5_measure N r c n p 400 = some p' ∧ Spk p' l l.length := by
  have hr := T.1
  subst hr
  have e1 : jmin (Int32.ofNat l.length) (Int32.ofNat 400) = Int32.ofNat l.length := by
    show (if Int32.ofNat 400 < Int32.ofNat l.length then _ else _) = _
    rw [if_neg (by rw [i_lt _ _ (by omega) (by omega)]; omega)]
  have := t_meas_loop N T F h400 l.length (N - l.length - 1) 0 p (by omega) (fun pre f post _ hf hl => by have := hf.pos; omega)
  rw [show N - l.length - 1 + l.length + 1 = N from by omega] at this
  unfold f_X5_measure
  rw [e1]
  exact this
def Be (pa ro : Int32) (ce : Nat → Int32) (n : Nat) (sa lo : Nat → Int32) (st : List (List (List Int32))) : Prop :=
  pa = Int32.ofNat st.length ∧ st.length ≤ 402 ∧ Tr ro ce n st.flatten ∧ (∀ x ∈ st, Fm x) ∧ ∀ i, i < st.length → sa i = Int32.ofNat (st.take i).flatten.length ∧ lo i = fv (st.getD i [])
section BENCH
variable {pa ro : Int32} {ce : Nat → Int32} {n : Nat} {sa lo : Nat → Int32} {st : List (List (List Int32))}
theorem Be.nil (hn : n ≤ 100000) : Be 0 0 ce n sa lo [] := ⟨rfl, by simp, Tr.nil hn, fun x h => absurd h List.not_mem_nil, fun i h => absurd h (by simp)⟩
theorem Be.le (B : Be pa ro ce n sa lo st) : 10 * st.flatten.length ≤ n := B.2.2.1.2.1
theorem Be.top {ro' : Int32} {ce' : Nat → Int32} (B : Be pa ro ce n sa lo st) {a : List (List Int32)} (h : st.length < 402) (T : Tr ro' ce' n (st.flatten ++ a)) (ha : Fm a) : Be (Int32.ofNat (st.length + 1)) ro' ce' n (upd sa st.length ro) (upd lo st.length (fv a)) (st ++ [a]) := by
  obtain ⟨h1, h2, h3, h4, h5⟩ := B
  refine ⟨by simp, by simp; omega, by simpa using T, ?_, ?_⟩
  · intro x hx
    rcases List.mem_append.mp hx with hx | hx
    · exact h4 x hx
    · rw [List.mem_singleton.mp hx]; exact ha
  · intro i hi
    rw [List.length_append, List.length_singleton] at hi
    by_cases hl : i < st.length
    · rw [upd_ne _ _ _ _ (by omega), upd_ne _ _ _ _ (by omega), List.take_append_of_le_length (by omega), List.getD_eq_getElem?_getD, List.getElem?_append_left hl, ← List.getD_eq_getElem?_getD]
      exact h5 i hl
    · have : i = st.length := by omega
      subst this
      rw [upd_at, upd_at, List.take_append_of_le_length (Nat.le_refl _), List.take_length, List.getD_eq_getElem?_getD, List.getElem?_append_right (Nat.le_refl _), Nat.sub_self]
      exact ⟨h3.1, rfl⟩
theorem Be.drop1 {a : List (List Int32)} (B : Be pa ro ce n sa lo (st ++ [a])) : Fm a ∧ pa = Int32.ofNat (st.length + 1) ∧ st.length < 402 ∧ sa st.length = Int32.ofNat st.flatten.length ∧ lo st.length = fv a ∧ Tr ro ce n (st.flatten ++ a) ∧ Be (Int32.ofNat st.length) (Int32.ofNat st.flatten.length) ce n sa lo st := by
  obtain ⟨h1, h2, h3, h4, h5⟩ := B
  have hs := h5 st.length (by simp)
  rw [List.take_append_of_le_length (Nat.le_refl _), List.take_length, List.getD_eq_getElem?_getD, List.getElem?_append_right (Nat.le_refl _), Nat.sub_self] at hs
  have ef : (st ++ [a]).flatten = st.flatten ++ a := by simp
  rw [ef] at h3
  refine ⟨h4 a (by simp), by simpa using h1, by simp at h2; omega, hs.1, hs.2, h3, rfl, by simp at h2; omega, ?_, fun x hx => h4 x (List.mem_append_left _ hx), ?_⟩
  · have := t_cut h3 0 st.flatten.length (by simp)
    rw [List.take_append_of_le_length (Nat.le_refl _), List.take_length] at this
    exact this.2
  · intro i hi
    have := h5 i (by simp; omega)
    rw [List.take_append_of_le_length (by omega), List.getD_eq_getElem?_getD, List.getElem?_append_left hi, ← List.getD_eq_getElem?_getD] at this
    exact this
theorem Be.swap {a a' : List (List Int32)} {ro' : Int32} {ce' lo' : Nat → Int32} (B : Be pa ro ce n sa lo (st ++ [a])) (T : Tr ro' ce' n (st.flatten ++ a')) (ha : Fm a') (hlo : ∀ i, i < st.length → lo' i = lo i) (hla : lo' st.length = fv a') : Be pa ro' ce' n sa lo' (st ++ [a']) := by
  obtain ⟨g1, g2, g3, g4, g5, g6, g7⟩ := B.drop1
  obtain ⟨h1, h2, h3, h4, h5⟩ := B
  refine ⟨by simpa using h1, by simpa using h2, by simpa using T, ?_, ?_⟩
  · intro x hx
    rcases List.mem_append.mp hx with hx | hx
    · exact h4 x (List.mem_append_left _ hx)
    · rw [List.mem_singleton.mp hx]; exact ha
  · intro i hi
    rw [List.length_append, List.length_singleton] at hi
    by_cases hl : i < st.length
    · have := g7.2.2.2.2 i hl
      rw [List.take_append_of_le_length (by omega), List.getD_eq_getElem?_getD, List.getElem?_append_left hl, ← List.getD_eq_getElem?_getD, hlo i hl]
      exact this
    · have : i = st.length := by omega
      subst this
      rw [List.take_append_of_le_length (Nat.le_refl _), List.take_length, List.getD_eq_getElem?_getD, List.getElem?_append_right (Nat.le_refl _), Nat.sub_self]
      exact ⟨g4, hla⟩
theorem b_open (B : Be pa ro ce n sa lo st) (N : Nat) (h : st.length < 402) (x : Int32) : f_X0_open N pa ro sa lo x = some (Int32.ofNat (st.length + 1), upd sa st.length ro, upd lo st.length x) := by
  obtain ⟨rfl, h2, h3, h4, h5⟩ := B
  unfold f_X0_open f_X0_open_46
  rw [ifb_f (by rw [show (402 : Int32) = Int32.ofNat 402 from rfl, i_le _ _ (by omega) (by omega)]; omega), ix_n _ _ _ (by omega) (by omega), ix_n _ _ _ (by omega) (by omega), i_cl _ (by omega), i_p1]
theorem rb0 (k : Int32) : rb (row0 k) = 0 := rfl
theorem b_push (B : Be pa ro ce n sa lo st) (N : Nat) (hN : 12 ≤ N) (h : st.length < 402) (hr : 10 * st.flatten.length + 10 ≤ n) (k : Int32) (hk : k = 0 ∨ k = 1) : ∃ pa' ro' ce' sa' lo', f_X0_push N pa ro ce n sa lo k = some (pa', ro', ce', sa', lo') ∧ Be pa' ro' ce' n sa' lo' (st ++ [[row0 k]]) := by
  obtain ⟨c', e, T⟩ := t_add B.2.2.1 N hN k hr
  have hl : Leaf (row0 k) := by rcases hk with rfl | rfl; exact Or.inl rfl; exact Or.inr (Or.inl rfl)
  have hB := B.top h T (Fm.leaf hl)
  rw [fv_leaf hl, rb0] at hB
  refine ⟨_, _, _, _, _, ?_, hB⟩
  unfold f_X0_push
  rw [bd (b_open B N h 0), bd e]
theorem b_begin {st' : List (List (List Int32))} (B : Be pa ro ce n sa lo st) (N : Nat) : f_X0_begin N pa ro = some (0, 0) ∧ Be 0 0 ce n sa lo [] := by
  refine ⟨?_, Be.nil B.2.2.1.2.2.1⟩
  unfold f_X0_begin
  rw [bd (show f_X5_cut N ro 0 = some 0 from (t_cut B.2.2.1 N 0 (by omega)).1)]
theorem rbk_step (r : List Int32) (k : Nat) (b : Int32) : rbk r (k + 1) b = if r.getD (1 + k) 0 ≠ 0 then rbk r k b ||| (1 <<< (Int32.ofNat k &&& 31)) else rbk r k b := rfl
theorem drop_take1 (l : List (List Int32)) (i : Nat) (h : i < l.length) : (l.drop i).take (i + 1 - i) = [l[i]] := by
  rw [List.drop_eq_getElem_cons h, show i + 1 - i = 1 from by omega]; rfl
theorem lc_getD {l : List (List Int32)} {i : Nat} (j : Nat) (h : i < l.length) : lc l i j = (l[i]).getD j 0 := by
  unfold lc; simp [List.getD_eq_getElem?_getD, h]
theorem b_pushRow_loop {r2 : Int32} {c2 : Nat → Int32} {n2 : Nat} {l2 : List (List Int32)} (B : Be pa ro ce n sa lo st) (T2 : Tr r2 c2 n2 l2) (N : Nat) (h : st.length < 402) (hr : 10 * st.flatten.length + 10 ≤ n) (i : Nat) (hi : i < l2.length) (hl : Leaf l2[i]) : ∀ (d m k : Nat), k + d = 8 → ∃ pa' ro' ce' sa' lo', f_X0_pushRow_5 N (m + d + 1) pa ro ce n sa lo r2 c2 n2 (Int32.ofNat i) (rbk l2[i] k 0) (Int32.ofNat k) = some (pa', ro', ce', sa', lo') ∧ Be pa' ro' ce' n sa' lo' (st ++ [[l2[i]]])
  | 0, m, k, hd => by
    have hk : k = 8 := by omega
    subst hk
    rw [f_X0_pushRow_5]; dsimp only
    obtain ⟨c', e, T⟩ := t_append B.2.2.1 T2 N i (i + 1) (by omega) (by omega) (by omega)
    rw [drop_take1 _ _ hi] at T
    have hB := B.top h T (Fm.leaf hl)
    rw [fv_leaf hl] at hB
    refine ⟨_, _, _, _, _, ?_, hB⟩
    rw [ifb_t (by decide), bd (b_open B N h _), i_p1, bd e]
    rfl
  | d + 1, m, k, hd => by
    rw [show m + (d + 1) + 1 = (m + d + 1) + 1 from by omega, f_X0_pushRow_5]; dsimp only
    rw [ifb_f (by rw [show (8 : Int32) = Int32.ofNat 8 from rfl, i_le _ _ (by omega) (by omega)]; omega), bd (t_number T2 N i k hi (by omega)), lc_getD _ hi]
    unfold f_X0_pushRow_29
    rw [i_p1]
    have ih := b_pushRow_loop B T2 N h hr i hi hl d m (k + 1) (by omega)
    rw [rbk_step] at ih
    by_cases hz : (l2[i]).getD (1 + k) 0 = 0
    · rw [ifb_t hz]; rw [if_neg (fun g => g hz)] at ih; exact ih
    · rw [ifb_f hz]; rw [if_pos hz] at ih; exact ih
theorem b_pushRow {r2 : Int32} {c2 : Nat → Int32} {n2 : Nat} {l2 : List (List Int32)} (B : Be pa ro ce n sa lo st) (T2 : Tr r2 c2 n2 l2) (N : Nat) (hN : 12 ≤ N) (h : st.length < 402) (hr : 10 * st.flatten.length + 10 ≤ n) (i : Nat) (hi : i < l2.length) (hl : Leaf l2[i]) : ∃ pa' ro' ce' sa' lo', f_X0_pushRow N pa ro ce n sa lo r2 c2 n2 (Int32.ofNat i) = some (pa', ro', ce', sa', lo') ∧ Be pa' ro' ce' n sa' lo' (st ++ [[l2[i]]]) := by
  have := b_pushRow_loop B T2 N h hr i hi hl 8 (N - 9) 0 (by omega)
  rw [show N - 9 + 8 + 1 = N from by omega] at this
  exact this
def lk (a : List (List Int32)) : Int32 := lc a (a.length - 1) 0
def enK (k : Int32) : Int32 := if k = 6 then 1 else 0
def idK (k : Int32) : Int32 := if k = 6 then 0 else 1
def mk (k : Int32) (a b : List (List Int32)) : List (List Int32) :=
  if lk a = enK k ∨ lk b = idK k ∨ a = b then a else if lk b = enK k ∨ lk a = idK k then b else a ++ b ++ [row0 k]
theorem Fm.lk0 {a : List (List Int32)} (h : Fm a) : lk a = 0 ↔ a = fT := by
  constructor
  · intro e
    rcases h.cases with ⟨r, hr, rfl⟩ | ⟨x, k, v, _, hk, _, _, rfl⟩ | ⟨x, y, k, _, _, hk, _, rfl⟩
    · rcases hr with rfl | rfl | ⟨_, h, _⟩
      · rfl
      · exact absurd e (by decide)
      · have e : kd r = 0 := e
        rw [e] at h
        rcases h with h | h | h | h <;> exact absurd h (by decide)
    · have e : k = 0 := by
        rw [← e]; unfold lk
        rw [lc_at (pre := x) (post := []) 0 (by simp)]; rfl
      rcases hk with rfl | rfl <;> exact absurd e (by decide)
    · have e : k = 0 := by
        rw [← e]; unfold lk
        rw [lc_at (pre := x ++ y) (post := []) 0 (by simp)]; rfl
      rcases hk with rfl | rfl <;> exact absurd e (by decide)
  · rintro rfl; rfl
theorem Fm.lk1 {a : List (List Int32)} (h : Fm a) : lk a = 1 ↔ a = fF := by
  constructor
  · intro e
    rcases h.cases with ⟨r, hr, rfl⟩ | ⟨x, k, v, _, hk, _, _, rfl⟩ | ⟨x, y, k, _, _, hk, _, rfl⟩
    · rcases hr with rfl | rfl | ⟨_, h, _⟩
      · exact absurd e (by decide)
      · rfl
      · have e : kd r = 1 := e
        rw [e] at h
        rcases h with h | h | h | h <;> exact absurd h (by decide)
    · have e : k = 1 := by
        rw [← e]; unfold lk
        rw [lc_at (pre := x) (post := []) 0 (by simp)]; rfl
      rcases hk with rfl | rfl <;> exact absurd e (by decide)
    · have e : k = 1 := by
        rw [← e]; unfold lk
        rw [lc_at (pre := x ++ y) (post := []) 0 (by simp)]; rfl
      rcases hk with rfl | rfl <;> exact absurd e (by decide)
  · rintro rfl; rfl
theorem mk_fm {a b : List (List Int32)} (ha : Fm a) (hb : Fm b) {k : Int32} (hk : k = 6 ∨ k = 7) : Fm (mk k a b) := by
  unfold mk
  split
  · exact ha
  · rename_i h1
    split
    · exact hb
    · rename_i h2
      refine Fm.bi ha hb hk ⟨?_, ?_, ?_, ?_, ?_⟩
      · rintro rfl; rcases hk with rfl | rfl
        · exact h2 (Or.inr rfl)
        · exact h1 (Or.inl rfl)
      · rintro rfl; rcases hk with rfl | rfl
        · exact h1 (Or.inl rfl)
        · exact h2 (Or.inr rfl)
      · rintro rfl; rcases hk with rfl | rfl
        · exact h1 (Or.inr (Or.inl rfl))
        · exact h2 (Or.inl rfl)
      · rintro rfl; rcases hk with rfl | rfl
        · exact h2 (Or.inl rfl)
        · exact h1 (Or.inr (Or.inl rfl))
      · exact fun e => h1 (Or.inr (Or.inr e))
end BENCH
section BENCH2
variable {pa ro : Int32} {ce : Nat → Int32} {n : Nat} {sa lo : Nat → Int32} {st : List (List (List Int32))}
theorem i_m1 (a : Nat) (h : 1 ≤ a) : Int32.ofNat a - 1 = Int32.ofNat (a - 1) := i_sub a 1 h
theorem i_m2 (a : Nat) (h : 2 ≤ a) : Int32.ofNat a - 2 = Int32.ofNat (a - 2) := i_sub a 2 h
theorem lk_end {s a : List (List Int32)} (ha : 0 < a.length) : lc (s ++ a) (s.length + a.length - 1) 0 = lk a := by
  rw [lc_r (by omega)]; unfold lk; congr 1; omega
theorem b_lastKind {a : List (List Int32)} (B : Be pa ro ce n sa lo (st ++ [a])) (N : Nat) : f_X0_lastKind N ro ce n = some (lk a) := by
  obtain ⟨g1, g2, g3, g4, g5, g6, g7⟩ := B.drop1
  have hp := g1.pos
  have hl := g6.2.1
  have hn := g6.2.2.1
  rw [List.length_append] at hl
  unfold f_X0_lastKind
  have e := t_kind g6 N (st.flatten.length + a.length - 1) (by rw [List.length_append]; omega)
  rw [lk_end hp] at e
  have hro := g6.1
  rw [List.length_append] at hro
  rw [hro] at e ⊢
  rw [i_m1 _ (by omega), bd e]
theorem b_lastLoose {a : List (List Int32)} (B : Be pa ro ce n sa lo (st ++ [a])) (N : Nat) : f_X0_lastLoose N pa lo = some (fv a) := by
  obtain ⟨g1, g2, g3, g4, g5, g6, g7⟩ := B.drop1
  unfold f_X0_lastLoose f_X0_lastLoose_22
  rw [g2, ifb_f (by rw [show (0 : Int32) = Int32.ofNat 0 from rfl, i_le _ _ (by omega) (by omega)]; omega), i_m1 _ (by omega), ix_n _ _ _ (by omega) (by omega), i_cl _ (by omega), show st.length + 1 - 1 = st.length from rfl, g5]
theorem b_lastNodes {a : List (List Int32)} (B : Be pa ro ce n sa lo (st ++ [a])) (N : Nat) : f_X0_lastNodes N pa ro sa = some (Int32.ofNat a.length) := by
  obtain ⟨g1, g2, g3, g4, g5, g6, g7⟩ := B.drop1
  have hl := g6.2.1
  have hn := g6.2.2.1
  rw [List.length_append] at hl
  unfold f_X0_lastNodes f_X0_lastNodes_30
  rw [g2, ifb_f (by rw [show (0 : Int32) = Int32.ofNat 0 from rfl, i_le _ _ (by omega) (by omega)]; omega), i_m1 _ (by omega), ix_n _ _ _ (by omega) (by omega), i_cl _ (by omega), show st.length + 1 - 1 = st.length from rfl, g4, g6.1, List.length_append, i_sub _ _ (by omega), show st.flatten.length + a.length - st.flatten.length = a.length from by omega]
theorem neg0 {x : Int32} (h : -x = 0) : x = 0 := by
  have e : - -x = x := Int32.neg_neg
  rw [h] at e; rw [← e]; rfl
theorem negRow_leaf {r : List Int32} (h : Leaf r) : Leaf (negRow r) := by
  have hlen := h.len
  rcases h with rfl | rfl | ⟨h1, h2, h3, j, hj1, hj2, hj⟩
  · exact Or.inr (Or.inl rfl)
  · exact Or.inl rfl
  · refine Or.inr (Or.inr ⟨negRow_len r hlen, ?_, ?_, j, hj1, hj2, ?_⟩)
    · have e : kd (negRow r) = kd r ^^^ 1 := rfl
      rw [e]
      rcases h2 with h | h | h | h <;> rw [h] <;> decide
    · intro i hi1 hi2
      rw [negRow_get r hlen i hi2, if_neg (by omega)]
      split
      · have := h3 i hi1 hi2
        have e : (-(r.getD i 0)).toInt = -((r.getD i 0).toInt) := by
          rw [Int32.toInt_neg]
          exact Int.bmod_eq_of_le (by omega) (by omega)
        rw [e]; omega
      · exact h3 i hi1 hi2
    · rw [negRow_get r hlen j (by omega), if_neg (by omega)]
      split
      · intro e; exact hj (neg0 e)
      · exact hj
theorem rbk_neg (r : List Int32) (h : r.length = 10) : ∀ k, k ≤ 8 → ∀ b, rbk (negRow r) k b = rbk r k b
  | 0, _, b => rfl
  | k + 1, hk, b => by
    rw [rbk_step, rbk_step, rbk_neg r h k (by omega) b, negRow_get r h (1 + k) (by omega)]
    have hc : (¬ ((1 : Nat) + k = 0)) := by omega
    simp only [hc, if_false]
    by_cases hz : r.getD 0 0 = 4 ∨ r.getD 0 0 = 5
    · simp only [hz, if_true]
      by_cases hq : r.getD (1 + k) 0 = 0
      · rw [if_neg (fun g => g (by rw [hq]; rfl)), if_neg (fun g => g hq)]
      · rw [if_pos (fun g => hq (neg0 g)), if_pos hq]
    · simp only [hz, if_false]
theorem negRow_q (k : Int32) (v : Nat) (hk : k = 8 ∨ k = 9) : negRow (rowq k v) = rowq (k ^^^ 1) v := by
  unfold negRow
  have e : (rowq k v).getD 0 0 = k := rfl
  rw [e, if_neg (by rcases hk with rfl | rfl <;> decide)]
  rfl
theorem negRow_b (k : Int32) (hk : k = 6 ∨ k = 7) : negRow (row0 k) = row0 (k ^^^ 1) := by
  rcases hk with rfl | rfl <;> rfl
theorem xor8 {k : Int32} (hk : k = 8 ∨ k = 9) : k ^^^ 1 = 8 ∨ k ^^^ 1 = 9 := by rcases hk with rfl | rfl <;> decide
theorem xor6 {k : Int32} (hk : k = 6 ∨ k = 7) : k ^^^ 1 = 6 ∨ k ^^^ 1 = 7 := by rcases hk with rfl | rfl <;> decide
def ng (a : List (List Int32)) : List (List Int32) := a.map negRow
theorem negRow2 {r : List Int32} (h : r.length = 10) (hk : kd r ^^^ 1 ^^^ 1 = kd r) (h4 : kd r = 4 ∨ kd r = 5 ↔ kd r ^^^ 1 = 4 ∨ kd r ^^^ 1 = 5) : negRow (negRow r) = r := by
  apply List.ext_getElem (by rw [negRow_len _ (negRow_len _ h), h])
  intro j h1 h2
  have e1 := negRow_get (negRow r) (negRow_len r h) j (by omega)
  have e2 := negRow_get r h j (by omega)
  have e0 := negRow_get r h 0 (by omega)
  rw [if_pos rfl] at e0
  rw [e0, e2] at e1
  have g1 : (negRow (negRow r)).getD j 0 = (negRow (negRow r))[j] := by simp [List.getD_eq_getElem?_getD, h1]
  have g2 : r.getD j 0 = r[j] := by simp [List.getD_eq_getElem?_getD, h2]
  rw [← g1, ← g2, e1]
  have hk' : r.getD 0 0 ^^^ 1 ^^^ 1 = r.getD 0 0 := hk
  by_cases hj : j = 0
  · subst hj; rw [if_pos rfl]; exact hk
  · rw [if_neg hj, if_neg hj]
    by_cases hz : r.getD 0 0 = 4 ∨ r.getD 0 0 = 5
    · have hz' : r.getD 0 0 ^^^ 1 = 4 ∨ r.getD 0 0 ^^^ 1 = 5 := h4.mp hz
      rw [if_pos hz', if_pos hz, Int32.neg_neg]
    · have hz' : ¬ (r.getD 0 0 ^^^ 1 = 4 ∨ r.getD 0 0 ^^^ 1 = 5) := fun g => hz (h4.mpr g)
      rw [if_neg hz', if_neg hz]
theorem x11 (k : Int32) : k ^^^ 1 ^^^ 1 = k := by rw [Int32.xor_assoc]; show k ^^^ 0 = k; exact Int32.xor_zero
theorem ng_fm {a : List (List Int32)} (ha : Fm a) : Fm (ng a) ∧ fv (ng a) = fv a ∧ ng (ng a) = a := by
  refine Fm.ind (P := fun a => Fm (ng a) ∧ fv (ng a) = fv a ∧ ng (ng a) = a) ?_ ?_ ?_ ha
  · intro r hr
    refine ⟨Fm.leaf (negRow_leaf hr), ?_, ?_⟩
    · show fv [negRow r] = fv [r]
      rw [fv_leaf (negRow_leaf hr), fv_leaf hr]
      exact rbk_neg r hr.len 8 (by omega) 0
    · show [negRow (negRow r)] = [r]
      congr 1
      refine negRow2 hr.len (x11 _) ?_
      rcases hr with rfl | rfl | ⟨_, h, _⟩
      · decide
      · decide
      · rcases h with h | h | h | h <;> rw [h] <;> decide
  · intro a k v ha ⟨i1, i2, i3⟩ hk hv ho
    have e : ng (a ++ [rowq k v]) = ng a ++ [rowq (k ^^^ 1) v] := by unfold ng; rw [List.map_append, List.map_singleton, negRow_q k v hk]
    refine ⟨?_, ?_, ?_⟩
    · rw [e]; exact Fm.qu i1 (xor8 hk) hv (by unfold okQu at *; rw [i2]; exact ho)
    · rw [e, fv_qu i1 (xor8 hk), fv_qu ha hk, i2]
    · rw [e]
      show ng (ng a ++ [rowq (k ^^^ 1) v]) = _
      unfold ng at *
      rw [List.map_append, List.map_singleton, negRow_q _ v (xor8 hk), i3, x11]
  · intro a b k ha hb ⟨i1, i2, i3⟩ ⟨j1, j2, j3⟩ hk ho
    have e : ng (a ++ b ++ [row0 k]) = ng a ++ ng b ++ [row0 (k ^^^ 1)] := by unfold ng; rw [List.map_append, List.map_append, List.map_singleton, negRow_b k hk]
    obtain ⟨o1, o2, o3, o4, o5⟩ := ho
    have inj : ∀ {x y : List (List Int32)}, ng x = y → ng (ng x) = x → x = ng y := fun h1 h2 => by rw [← h1, h2]
    refine ⟨?_, ?_, ?_⟩
    · rw [e]; exact Fm.bi i1 j1 (xor6 hk) ⟨fun h => o2 (inj h i3), fun h => o1 (inj h i3), fun h => o4 (inj h j3), fun h => o3 (inj h j3), fun h => o5 (by rw [inj h i3, j3])⟩
    · rw [e, fv_bi i1 j1 (xor6 hk), fv_bi ha hb hk, i2, j2]
    · rw [e]
      unfold ng at *
      rw [List.map_append, List.map_append, List.map_singleton, negRow_b _ (xor6 hk), i3, j3, x11]
theorem b_negateLast {a : List (List Int32)} (B : Be pa ro ce n sa lo (st ++ [a])) (N : Nat) (hN : st.flatten.length + a.length + 12 ≤ N) : ∃ ce', f_X0_negateLast N pa ro ce n sa = some ce' ∧ Be pa ro ce' n sa lo (st ++ [ng a]) := by
  obtain ⟨g1, g2, g3, g4, g5, g6, g7⟩ := B.drop1
  have hl := g6.2.1
  have hn := g6.2.2.1
  rw [List.length_append] at hl
  obtain ⟨c', e, T⟩ := t_negate g6 N st.flatten.length (st.flatten.length + a.length) (by rw [List.length_append]; omega) (by omega) (by rw [List.length_append]; omega)
  have e2 : (st.flatten ++ a).take st.flatten.length ++ (((st.flatten ++ a).drop st.flatten.length).take (st.flatten.length + a.length - st.flatten.length)).map negRow ++ (st.flatten ++ a).drop (st.flatten.length + a.length) = st.flatten ++ ng a := by
    rw [List.take_append_of_le_length (Nat.le_refl _), List.take_length, List.drop_append_of_le_length (Nat.le_refl _), List.drop_length, List.nil_append, show st.flatten.length + a.length - st.flatten.length = a.length from by omega, List.take_length, List.drop_eq_nil_of_le (by rw [List.length_append]; omega), List.append_nil]
    rfl
  rw [e2] at T
  obtain ⟨f1, f2, f3⟩ := ng_fm g1
  refine ⟨c', ?_, B.swap T f1 (fun i hi => rfl) (by rw [g5, f2])⟩
  unfold f_X0_negateLast f_X0_negateLast_32
  rw [g2, ifb_f (by rw [show (0 : Int32) = Int32.ofNat 0 from rfl, i_le _ _ (by omega) (by omega)]; omega), i_m1 _ (by omega), ix_n _ _ _ (by omega) (by omega), i_cl _ (by omega), show st.length + 1 - 1 = st.length from rfl, g4]
  have hro := g6.1
  rw [List.length_append] at hro
  rw [← hro] at e
  rw [bd e]
end BENCH2
section BENCH3
variable {pa ro : Int32} {ce : Nat → Int32} {n : Nat} {sa lo : Nat → Int32} {st : List (List (List Int32))}
theorem Be.two {a b : List (List Int32)} (B : Be pa ro ce n sa lo (st ++ [a, b])) : Fm a ∧ Fm b ∧ pa = Int32.ofNat (st.length + 2) ∧ st.length + 1 < 402 ∧ sa st.length = Int32.ofNat st.flatten.length ∧ sa (st.length + 1) = Int32.ofNat (st.flatten.length + a.length) ∧ lo st.length = fv a ∧ lo (st.length + 1) = fv b ∧ ro = Int32.ofNat (st.flatten.length + a.length + b.length) ∧ 10 * (st.flatten.length + a.length + b.length) ≤ n ∧ n ≤ 100000 ∧ Tr ro ce n (st.flatten ++ a ++ b) ∧ Be (Int32.ofNat (st.length + 1)) (Int32.ofNat (st.flatten.length + a.length)) ce n sa lo (st ++ [a]) := by
  have B' : Be pa ro ce n sa lo ((st ++ [a]) ++ [b]) := by simpa using B
  obtain ⟨g1, g2, g3, g4, g5, g6, g7⟩ := B'.drop1
  have ef : (st ++ [a]).flatten = st.flatten ++ a := by simp
  rw [List.length_append, List.length_singleton] at g2 g3 g4 g5 g7
  rw [ef] at g4 g6 g7
  rw [List.length_append] at g4 g7
  obtain ⟨f1, f2, f3, f4, f5, f6, f7⟩ := g7.drop1
  have hl := g6.2.1
  have hr := g6.1
  rw [List.length_append, List.length_append] at hl hr
  exact ⟨f1, g1, g2, g3, f4, g4, f5, g5, hr, hl, g6.2.2.1, g6, g7⟩
theorem l3 (s a b : List (List Int32)) : (s ++ a ++ b).take s.length = s ∧ ((s ++ a ++ b).drop s.length).take (s.length + a.length - s.length) = a ∧ (s ++ a ++ b).drop (s.length + a.length) = b := by
  refine ⟨by simp, by simp, ?_⟩
  rw [← List.length_append]; simp
theorem b_negateLastButOne {a b : List (List Int32)} (B : Be pa ro ce n sa lo (st ++ [a, b])) (N : Nat) (hN : st.flatten.length + a.length + b.length + 12 ≤ N) : ∃ ce', f_X0_negateLastButOne N pa ro ce n sa = some ce' ∧ Be pa ro ce' n sa lo (st ++ [ng a, b]) := by
  obtain ⟨fa, fb, h1, h2, h3, h4, h5, h6, h7, h8, h9, h10, h11⟩ := B.two
  obtain ⟨f1, f2, f3⟩ := ng_fm fa
  obtain ⟨c', e, T⟩ := t_negate h10 N st.flatten.length (st.flatten.length + a.length) (by rw [List.length_append, List.length_append]; omega) (by omega) (by rw [List.length_append, List.length_append]; omega)
  have e2 : (st.flatten ++ a ++ b).take st.flatten.length ++ (((st.flatten ++ a ++ b).drop st.flatten.length).take (st.flatten.length + a.length - st.flatten.length)).map negRow ++ (st.flatten ++ a ++ b).drop (st.flatten.length + a.length) = st.flatten ++ ng a ++ b := by
    obtain ⟨q1, q2, q3⟩ := l3 st.flatten a b
    rw [q1, q2, q3]
    rfl
  rw [e2] at T
  have l1 : (ng a).length = a.length := by unfold ng; simp
  refine ⟨c', ?_, ?_⟩
  · unfold f_X0_negateLastButOne f_X0_negateLastButOne_37
    rw [h1, ifb_f (by rw [show (1 : Int32) = Int32.ofNat 1 from rfl, i_le _ _ (by omega) (by omega)]; omega), i_m2 _ (by omega), i_m1 _ (by omega), ix_n _ _ _ (by omega) (by omega), ix_n _ _ _ (by omega) (by omega), i_cl _ (by omega), i_cl _ (by omega), show st.length + 2 - 2 = st.length from rfl, show st.length + 2 - 1 = st.length + 1 from rfl, h3, h4, bd e]
  · have T1 : Tr (Int32.ofNat (st.flatten.length + a.length)) c' n (st.flatten ++ ng a) := by
      have := (t_cut T N (st.flatten.length + a.length) (by rw [List.length_append, List.length_append]; omega)).2
      rw [List.take_append_of_le_length (by rw [List.length_append]; omega), List.take_of_length_le (by rw [List.length_append]; omega)] at this
      exact this
    have B1 := h11.swap T1 f1 (fun i hi => rfl) (by rw [h5, f2])
    have ef : (st ++ [ng a]).flatten = st.flatten ++ ng a := by simp
    have B2 := B1.top (a := b) (ro' := ro) (ce' := c') (by rw [List.length_append, List.length_singleton]; omega) (by rw [ef]; exact T) fb
    have e3 : (st ++ [ng a]).length = st.length + 1 := by simp
    rw [e3, ← h4, ← h6, upd_same _ _ _ rfl, upd_same _ _ _ rfl] at B2
    rw [h1, show st ++ [ng a, b] = st ++ [ng a] ++ [b] from by simp]
    exact B2
theorem b_moveLast {a : List (List Int32)} {p1 : Int32} {c1 : Nat → Int32} {n1 : Nat} (B : Be pa ro ce n sa lo (st ++ [a])) (N : Nat) (hn1 : n1 ≤ 100000) (ha : 10 * a.length ≤ n1) : ∃ c1', f_X0_moveLast N pa ro ce n sa p1 c1 n1 = some (Int32.ofNat st.length, Int32.ofNat st.flatten.length, Int32.ofNat a.length, c1') ∧ Tr (Int32.ofNat a.length) c1' n1 a ∧ Be (Int32.ofNat st.length) (Int32.ofNat st.flatten.length) ce n sa lo st := by
  obtain ⟨g1, g2, g3, g4, g5, g6, g7⟩ := B.drop1
  have hl := g6.2.1
  have hn := g6.2.2.1
  have hro := g6.1
  rw [List.length_append] at hl hro
  obtain ⟨c1', e, T⟩ := t_become (r := p1) (c := c1) hn1 g6 N st.flatten.length (st.flatten.length + a.length) (by omega) (by rw [List.length_append]; omega) (by omega)
  rw [show st.flatten.length + a.length - st.flatten.length = a.length from by omega, List.drop_append_of_le_length (Nat.le_refl _), List.drop_length, List.nil_append, List.take_length] at T
  rw [show st.flatten.length + a.length - st.flatten.length = a.length from by omega, ← hro] at e
  have e2 := (t_cut g6 N st.flatten.length (by rw [List.length_append]; omega)).1
  refine ⟨c1', ?_, T, g7⟩
  unfold f_X0_moveLast f_X0_moveLast_57
  rw [g2, ifb_f (by rw [show (0 : Int32) = Int32.ofNat 0 from rfl, i_le _ _ (by omega) (by omega)]; omega), i_m1 _ (by omega), ix_n _ _ _ (by omega) (by omega), i_cl _ (by omega), show st.length + 1 - 1 = st.length from rfl, g4, bd e, ix_n _ _ _ (by omega) (by omega), bd e2]
def bq (k : Int32) (v : Nat) (a : List (List Int32)) : List (List Int32) := if ((fv a >>> (Int32.ofNat v &&& 31)) &&& 1) = 0 then a else a ++ [rowq k v]
theorem bq_fm {a : List (List Int32)} (ha : Fm a) {k : Int32} (hk : k = 8 ∨ k = 9) {v : Nat} (hv : v < 8) : Fm (bq k v a) := by
  unfold bq
  split
  · exact ha
  · rename_i h; exact Fm.qu ha hk hv h
theorem b_bind {a : List (List Int32)} (B : Be pa ro ce n sa lo (st ++ [a])) (N : Nat) (hN : 12 ≤ N) {k : Int32} (hk : k = 8 ∨ k = 9) {v : Nat} (hv : v < 8) (hr : 10 * (st.flatten.length + a.length) + 10 ≤ n) : ∃ ro' ce' lo', f_X0_bind N pa ro ce n lo k (Int32.ofNat v) = some (ro', ce', lo') ∧ Be pa ro' ce' n sa lo' (st ++ [bq k v a]) := by
  obtain ⟨g1, g2, g3, g4, g5, g6, g7⟩ := B.drop1
  have hn := g6.2.2.1
  subst g2
  unfold f_X0_bind f_X0_bind_26
  rw [ifb_f (by rw [show (1 : Int32) = Int32.ofNat 1 from rfl, i_lt _ _ (by omega) (by omega)]; omega), i_m1 _ (by omega), ix_n _ _ _ (by omega) (by omega), i_cl _ (by omega), show st.length + 1 - 1 = st.length from rfl, g5]
  by_cases hz : ((fv a >>> (Int32.ofNat v &&& 31)) &&& 1) = 0
  · rw [ifb_t hz]
    refine ⟨_, _, _, rfl, ?_⟩
    unfold bq; rw [if_pos hz]; exact B
  · rw [ifb_f hz]
    obtain ⟨c1, e1, T1⟩ := t_add g6 N hN k (by rw [List.length_append]; omega)
    have l1 : (st.flatten ++ a).length = st.flatten.length + a.length := List.length_append
    obtain ⟨c2, e2, T2⟩ := t_setNumber T1 N (st.flatten.length + a.length) 0 (Int32.ofNat v) (by rw [List.length_append, l1]; simp) (by omega)
    rw [l1] at e1 e2 T1 T2
    have e3 : setL (st.flatten ++ a ++ [row0 k]) (st.flatten.length + a.length) (1 + 0) (Int32.ofNat v) = st.flatten ++ (a ++ [rowq k v]) := by
      unfold setL
      rw [List.set_append_right _ _ (by rw [l1]; omega), l1, Nat.sub_self, List.append_assoc, List.append_assoc]
      congr 2
      show [((st.flatten ++ (a ++ [row0 k])).getD (st.flatten.length + a.length) []).set 1 (Int32.ofNat v)] = [rowq k v]
      rw [← List.append_assoc, List.getD_eq_getElem?_getD, List.getElem?_append_right (by rw [l1]; omega), l1, Nat.sub_self]
      rfl
    rw [e3] at T2
    refine ⟨Int32.ofNat (st.flatten.length + a.length + 1), c2, _, ?_, B.swap (lo' := upd lo st.length (fv a &&& ((1 <<< (Int32.ofNat v &&& 31)) ^^^ (-1)))) (a' := bq k v a) ?_ (bq_fm g1 hk hv) (fun i hi => upd_ne _ _ _ _ (by omega)) ?_⟩
    · rw [bd e1, i_m1 _ (by omega), show st.flatten.length + a.length + 1 - 1 = st.flatten.length + a.length from by omega]
      rw [show (0 : Int32) = Int32.ofNat 0 from rfl, bd e2, ix_n _ _ _ (by omega) (by omega), ix_n _ _ _ (by omega) (by omega)]
    · unfold bq; rw [if_neg hz]; exact T2
    · rw [upd_at]; unfold bq; rw [if_neg hz, fv_qu g1 hk]
theorem b_join {a b : List (List Int32)} (B : Be pa ro ce n sa lo (st ++ [a, b])) (N : Nat) (hN : 10 * (st.flatten.length + a.length + b.length) + 12 ≤ N) {k : Int32} (hk : k = 6 ∨ k = 7) (hr : 10 * (st.flatten.length + a.length + b.length) + 10 ≤ n) : ∃ pa' ro' ce' lo', f_X0_join N pa ro ce n sa lo k = some (pa', ro', ce', lo') ∧ Be pa' ro' ce' n sa lo' (st ++ [mk k a b]) := by
  obtain ⟨fa, fb, h1, h2, h3, h4, h5, h6, h7, h8, h9, h10, h11⟩ := B.two
  have pos := fa.pos
  have pob := fb.pos
  have l2 : (st.flatten ++ a ++ b).length = st.flatten.length + a.length + b.length := by rw [List.length_append, List.length_append]
  have ea : f_X5_kind N ro ce n (Int32.ofNat (st.flatten.length + a.length - 1)) = some (lk a) := by
    rw [t_kind h10 N _ (by omega), lc_l (by rw [List.length_append]; omega), lk_end pos]
  have eb : f_X0_lastKind N ro ce n = some (lk b) := b_lastKind (st := st ++ [a]) (by simpa using B) N
  have er := t_repeats h10 N st.flatten.length (st.flatten.length + a.length) (by omega) (by omega) (by omega)
  obtain ⟨q1, q2, q3⟩ := l3 st.flatten a b
  rw [q2, q3] at er
  have cutB : f_X5_cut N ro (Int32.ofNat (st.flatten.length + a.length)) = some (Int32.ofNat (st.flatten.length + a.length)) := (t_cut h10 N _ (by omega)).1
  have j114 : f_X0_join_114 N (Int32.ofNat (st.length + 1)) ro ce n sa lo (Int32.ofNat (st.flatten.length + a.length)) = some (Int32.ofNat (st.length + 1), Int32.ofNat (st.flatten.length + a.length), ce, lo) := by
    unfold f_X0_join_114 f_X0_join_203
    rw [bd cutB]
  obtain ⟨c', es, Ts⟩ := t_slide h10 N (st.flatten.length + a.length) st.flatten.length (by omega) (by omega)
  rw [q1, q3] at Ts
  have j138 : f_X0_join_138 N (Int32.ofNat (st.length + 1)) ro ce n sa lo (Int32.ofNat st.flatten.length) (Int32.ofNat (st.flatten.length + a.length)) = some (Int32.ofNat (st.length + 1), Int32.ofNat ((st.flatten ++ a ++ b).length - (st.flatten.length + a.length - st.flatten.length)), c', upd lo st.length (fv b)) := by
    unfold f_X0_join_138 f_X0_join_203
    rw [bd es, ix_n _ _ _ (by omega) (by omega), i_m1 _ (by omega), ix_n _ _ _ (by omega) (by omega), i_cl _ (by omega), i_cl _ (by omega), show st.length + 1 - 1 = st.length from rfl, h6]
  obtain ⟨c2, ed, Td⟩ := t_add h10 N (by omega) k (by omega)
  have B138 : Be (Int32.ofNat (st.length + 1)) (Int32.ofNat ((st.flatten ++ a ++ b).length - (st.flatten.length + a.length - st.flatten.length))) c' n sa (upd lo st.length (fv b)) (st ++ [b]) :=
    h11.swap Ts fb (fun i hi => upd_ne _ _ _ _ (by omega)) (upd_at _ _ _)
  have go : ∀ en id : Int32, en = enK k → id = idK k → ∃ pa' ro' ce' lo', f_X0_join_32 N pa ro ce n sa lo k en id = some (pa', ro', ce', lo') ∧ Be pa' ro' ce' n sa lo' (st ++ [mk k a b]) := by
    intro en id hen hid
    unfold f_X0_join_32
    rw [h1, i_m2 _ (by omega), i_m1 _ (by omega), ix_n _ _ _ (by omega) (by omega), ix_n _ _ _ (by omega) (by omega), i_cl _ (by omega), i_cl _ (by omega), show st.length + 2 - 2 = st.length from rfl, show st.length + 2 - 1 = st.length + 1 from rfl, h3, h4, i_m1 _ (by omega), bd ea, bd eb, j114, j138]
    unfold mk
    rw [← hen, ← hid]
    by_cases c1 : lk a = en
    · rw [ifb_t c1, if_pos (Or.inl c1)]
      exact ⟨_, _, _, _, rfl, h11⟩
    rw [ifb_f c1]
    by_cases c2' : lk b = id
    · rw [ifb_t c2', if_pos (Or.inr (Or.inl c2'))]
      exact ⟨_, _, _, _, rfl, h11⟩
    rw [ifb_f c2', bd er]
    by_cases c3 : a = b
    · rw [if_pos c3, ifb_f (by decide), if_pos (Or.inr (Or.inr c3))]
      exact ⟨_, _, _, _, rfl, h11⟩
    have cc : ¬ (lk a = en ∨ lk b = id ∨ a = b) := fun h => h.elim c1 (fun h => h.elim c2' c3)
    rw [if_neg c3, ifb_t rfl, if_neg cc]
    by_cases c4 : lk b = en
    · rw [ifb_t c4, if_pos (Or.inl c4)]
      exact ⟨_, _, _, _, rfl, B138⟩
    rw [ifb_f c4]
    by_cases c5 : lk a = id
    · rw [ifb_t c5, if_pos (Or.inr c5)]
      exact ⟨_, _, _, _, rfl, B138⟩
    have cd : ¬ (lk b = en ∨ lk a = id) := fun h => h.elim c4 c5
    rw [ifb_f c5, if_neg cd, i_m1 _ (by omega), show st.length + 1 - 1 = st.length from rfl, ix_n _ _ _ (by omega) (by omega), ix_n _ _ _ (by omega) (by omega), ix_n _ _ _ (by omega) (by omega), bd ed, i_cl _ (by omega), h5, h6]
    have T3 : Tr (Int32.ofNat ((st.flatten ++ a ++ b).length + 1)) c2 n (st.flatten ++ (a ++ b ++ [row0 k])) := by
      have := Td; simp only [List.append_assoc] at this ⊢; exact this
    refine ⟨_, _, _, _, rfl, h11.swap T3 ?_ (fun i hi => upd_ne _ _ _ _ (by omega)) ?_⟩
    · have := mk_fm fa fb hk
      unfold mk at this
      rw [← hen, ← hid, if_neg cc, if_neg cd] at this
      exact this
    · rw [upd_at, fv_bi fa fb hk]
  unfold f_X0_join f_X0_join_20
  rw [h1, ifb_t (by rw [show (2 : Int32) = Int32.ofNat 2 from rfl, i_le _ _ (by omega) (by omega)]; omega), ← h1]
  rcases hk with rfl | rfl
  · rw [ifb_t rfl, ifb_t rfl]
    exact go 1 0 rfl rfl
  · rw [ifb_f (by decide), ifb_f (by decide)]
    exact go 0 1 rfl rfl
end BENCH3
