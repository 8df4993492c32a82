theorem b255 (x : Int32) : (x &&& 255).toInt8 = x.toInt8 := by
  rw [Int32.toInt8_and, show (255 : Int32).toInt8 = -1 from by decide, Int8.and_neg_one]
def OU2 (le : Int32) (k1 k2 : Nat → Int32) : Prop := ∃ tt, Ou le k1 tt ∧ Ou le k2 tt
theorem OU2.eq {le : Int32} {k1 k2 : Nat → Int32} (h : OU2 le k1 k2) : ∃ n : Nat, n ≤ 1000000 ∧ le = Int32.ofNat n ∧ ∀ i, i < n → i < 12000 → k1 i = k2 i ∧ By (k1 i) := by
  obtain ⟨tt, a, b⟩ := h
  refine ⟨tt.length, a.2.1, a.1, fun i h1 h2 => ?_⟩
  rw [a.2.2 i h1 h2, b.2.2 i h1 h2]
  exact ⟨rfl, by_n _⟩
theorem o_lets {le : Int32} {k1 k2 : Nat → Int32} {n : Nat} (hn : n ≤ 1000000) (he : le = Int32.ofNat n) (hk : ∀ i, i < n → i < 12000 → k1 i = k2 i ∧ By (k1 i)) (N : Nat) (x : Int64) : (lg_cmp x 0 < 0 ∨ (¬ lg_cmp x 0 < 0 ∧ (0 ≤ lg_cmp x le.toInt64 ∨ (¬ 0 ≤ lg_cmp x le.toInt64 ∧ 0 ≤ lg_cmp x 12000)))) ∧ f_X3_letterAt N le k1 x = some 0 ∨ ¬ lg_cmp x 0 < 0 ∧ ¬ 0 ≤ lg_cmp x le.toInt64 ∧ ¬ 0 ≤ lg_cmp x 12000 ∧ ∃ i : Nat, i < n ∧ i < 12000 ∧ x.toInt32 = Int32.ofNat i ∧ f_X3_letterAt N le k1 x = some (k1 i &&& 255) := by
  unfold f_X3_letterAt f_X3_letterAt_38 f_X3_letterAt_39
  by_cases c1 : lg_cmp x 0 < 0
  · left; exact ⟨Or.inl c1, by rw [ifb_t c1]⟩
  by_cases c2 : 0 ≤ lg_cmp x le.toInt64
  · left; exact ⟨Or.inr ⟨c1, Or.inl c2⟩, by rw [ifb_f c1, ifb_t c2]⟩
  by_cases c3 : 0 ≤ lg_cmp x 12000
  · left; exact ⟨Or.inr ⟨c1, Or.inr ⟨c2, c3⟩⟩, by rw [ifb_f c1, ifb_f c2, ifb_t c3]⟩
  right
  refine ⟨c1, c2, c3, x.toInt.toNat, ?_⟩
  have c1' := c1
  have c2' := c2
  have c3' := c3
  rw [lg_cmp_lt, Int64.lt_iff_toInt_lt, show (0 : Int64).toInt = 0 from rfl] at c1'
  rw [lg_cmp_ge, Int64.le_iff_toInt_le, he, Int32.toInt_toInt64, i_toInt _ (by omega)] at c2'
  rw [lg_cmp_ge, Int64.le_iff_toInt_le, show (12000 : Int64).toInt = 12000 from rfl] at c3'
  have e : x.toInt32 = Int32.ofNat x.toInt.toNat := by
    apply Int32.toInt_inj.mp
    rw [i_toInt _ (by omega), Int64.toInt_toInt32, Int.bmod_eq_of_le (by omega) (by omega)]
    omega
  refine ⟨by omega, by omega, e, ?_⟩
  rw [ifb_f c1, ifb_f c2, ifb_f c3, e, ix_n _ _ _ (by omega) (by omega), i_cl _ (by omega)]
theorem out_loop {le : Int32} {k1 k2 : Nat → Int32} {n : Nat} (hn : n ≤ 1000000) (he : le = Int32.ofNat n) (hk : ∀ i, i < n → i < 12000 → k1 i = k2 i ∧ By (k1 i)) (N : Nat) (x1 th : Int32) : ∀ (d m k : Nat) (y : Int64), k + d = 8 → ∃ z, f_X6_out_5 N (m + d + 1) le k1 x1 y (Int32.ofNat k) = some z ∧ f_X7_out_10 N (m + d + 1) th le k2 x1 y (Int32.ofNat k) = some (z, th)
  | 0, m, k, y, hd => by
    rw [f_X6_out_5, f_X7_out_10]; dsimp only
    have c : (8 : Int32) ≤ Int32.ofNat k := by rw [show (8 : Int32) = Int32.ofNat 8 from rfl, i_le _ _ (by omega) (by omega)]; omega
    rw [ifb_t c, ifb_t c]
    exact ⟨y, rfl, rfl⟩
  | d + 1, m, k, y, hd => by
    have c : ¬ ((8 : Int32) ≤ Int32.ofNat k) := by rw [show (8 : Int32) = Int32.ofNat 8 from rfl, i_le _ _ (by omega) (by omega)]; omega
    rw [show m + (d + 1) + 1 = (m + d + 1) + 1 from by omega, f_X6_out_5, f_X7_out_10]; dsimp only
    unfold f_X7_out_75 f_X7_out_76
    rw [ifb_f c, ifb_f c]
    rcases o_lets hn he hk N (x1.toInt64 + (Int32.ofNat k).toInt64) with ⟨g, e⟩ | ⟨c1, c2, c3, i, hi, hi2, e1, e2⟩
    · obtain ⟨z, a, b⟩ := out_loop hn he hk N x1 th d m (k + 1) (y ||| 0) (by omega)
      refine ⟨z, ?_, ?_⟩
      · rw [bd e, i_p1, show (0 : Int32).toInt64 = 0 from rfl, Int64.zero_shiftLeft]; exact a
      · rw [i_p1]
        rcases g with g | ⟨g1, g | ⟨g2, g3⟩⟩
        · rw [ifb_t g]; exact b
        · rw [ifb_f g1, ifb_t g]; exact b
        · rw [ifb_f g1, ifb_f g2, ifb_t g3]; exact b
    · obtain ⟨z, a, b⟩ := out_loop hn he hk N x1 th d m (k + 1) (y ||| (((k1 i).toInt64 &&& 255) <<< ((8 * Int32.ofNat k).toInt64 &&& 63))) (by omega)
      refine ⟨z, ?_, ?_⟩
      · rw [bd e2, i_p1, Int32.toInt64_and, show (255 : Int32).toInt64 = 255 from rfl]; exact a
      · rw [ifb_f c1, ifb_f c2, ifb_f c3, e1, ix_n _ _ _ hi2 (by omega), i_cl _ (by omega), i_p1, ← (hk i hi hi2).1]; exact b
theorem lb_out {le : Int32} {k1 k2 : Nat → Int32} (h : OU2 le k1 k2) (N : Nat) (hN : 20 ≤ N) (x1 th : Int32) : ∃ z, f_X6_out N le k1 x1 = some z ∧ f_X7_out N th le k2 x1 = some (z, 0) := by
  obtain ⟨n, hn, he, hk⟩ := h.eq
  obtain ⟨z, a, b⟩ := out_loop hn he hk N x1 0 8 (N - 9) 0 0 (by omega)
  rw [show N - 9 + 8 + 1 = N from by omega] at a b
  exact ⟨z, a, b⟩
theorem pass_loop {le : Int32} {k1 k2 : Nat → Int32} {n : Nat} (hn : n ≤ 1000000) (he : le = Int32.ofNat n) (hk : ∀ i, i < n → i < 12000 → k1 i = k2 i ∧ By (k1 i)) (N : Nat) (s : Nat) (hs : s ≤ 240) (hsn : s ≤ n) (th : Int32) : ∀ (d m k : Nat) (t1 t2 : Nat → Int32), k + d = s → TX t1 t2 k → ∃ t1' t2', f_X6_pass_24 N (m + d + 1) (Int32.ofNat k) t1 le k1 (Int32.ofNat s) (Int32.ofNat k) = some (Int32.ofNat s, Int32.ofNat s, t1') ∧ f_X7_pass_31 N (m + d + 1) th (Int32.ofNat s) le t2 k2 (Int32.ofNat k) = some (Int32.ofNat s, th, Int32.ofNat s, t2') ∧ TX t1' t2' s
  | 0, m, k, t1, t2, hd, h => by
    have : k = s := by omega
    subst this
    rw [f_X6_pass_24, f_X7_pass_31]; dsimp only
    have c : Int32.ofNat k ≤ Int32.ofNat k := by rw [i_le _ _ (by omega) (by omega)]; omega
    rw [ifb_t c, ifb_t c]
    exact ⟨t1, t2, rfl, rfl, h⟩
  | d + 1, m, k, t1, t2, hd, h => by
    have c : ¬ (Int32.ofNat s ≤ Int32.ofNat k) := by rw [i_le _ _ (by omega) (by omega)]; omega
    rw [show m + (d + 1) + 1 = (m + d + 1) + 1 from by omega, f_X6_pass_24, f_X7_pass_31]; dsimp only
    rw [ifb_f c, ifb_f c]
    have hx : (Int32.ofNat k).toInt64.toInt = k := by rw [Int32.toInt_toInt64, i_toInt _ (by omega)]
    rcases o_lets hn he hk N (Int32.ofNat k).toInt64 with ⟨g, e⟩ | ⟨c1, c2, c3, i, hi, hi2, e1, e2⟩
    · exfalso
      rw [lg_cmp_lt, lg_cmp_ge, lg_cmp_ge, Int64.lt_iff_toInt_lt, Int64.le_iff_toInt_le, Int64.le_iff_toInt_le, hx, he, Int32.toInt_toInt64, i_toInt _ (by omega), show (0 : Int64).toInt = 0 from rfl, show (12000 : Int64).toInt = 12000 from rfl] at g
      omega
    · have hik : i = k := by
        have : (Int32.ofNat k).toInt64.toInt32.toInt = (Int32.ofNat i).toInt := by rw [e1]
        rw [Int32.toInt32_toInt64, i_toInt _ (by omega), i_toInt _ (by omega)] at this
        omega
      subst hik
      rw [bd e2, bd (x2_take N i (by omega) t1 _), ix_n _ _ _ hi2 (by omega), ix_n _ _ _ (show i < 240 by omega) (by omega), i_cl _ (by omega), b255, nar_8, i_p1, ← (hk i hi hi2).1, nar_b]
      exact pass_loop hn he hk N s hs hsn th d m (i + 1) _ _ (by omega) (h.put (by omega) (by_8 _))
theorem lb_pass {le : Int32} {k1 k2 : Nat → Int32} (h : OU2 le k1 k2) (N : Nat) (hN : 1000 ≤ N) (th : Int32) {sz : Nat} {t1 t2 : Nat → Int32} (T : TX t1 t2 sz) : ∃ s t1' t2', f_X6_pass N (Int32.ofNat sz) t1 le k1 = some (Int32.ofNat s, Int32.ofNat s, t1') ∧ f_X7_pass N th (Int32.ofNat sz) le t2 k2 = some (Int32.ofNat s, 0, Int32.ofNat s, t2') ∧ TX t1' t2' s := by
  obtain ⟨n, hn, he, hk⟩ := h.eq
  have T0 : TX t1 t2 0 := ⟨by omega, fun i hi => absurd hi (by omega)⟩
  unfold f_X6_pass f_X7_pass f_X7_pass_26
  have e240 : (240 : Int32) = Int32.ofNat 240 := rfl
  by_cases c : 240 ≤ n
  · obtain ⟨t1', t2', a, b, T'⟩ := pass_loop hn he hk N 240 (by omega) c 0 240 (N - 241) 0 t1 t2 (by omega) T0
    rw [show N - 241 + 240 + 1 = N from by omega] at a b
    refine ⟨240, t1', t2', ?_, ?_, T'⟩
    · have : jmin le 240 = Int32.ofNat 240 := by
        show (if (240 : Int32) < le then (240 : Int32) else le) = _
        rw [he, e240]
        by_cases g : 240 < n
        · rw [if_pos (by rw [i_lt _ _ (by omega) (by omega)]; exact g)]
        · rw [if_neg (by rw [i_lt _ _ (by omega) (by omega)]; exact g), show n = 240 by omega]
      rw [this]; exact a
    · rw [ifb_t (by rw [he, e240, i_le _ _ (by omega) (by omega)]; exact c)]; exact b
  · obtain ⟨t1', t2', a, b, T'⟩ := pass_loop hn he hk N n (by omega) (by omega) 0 n (N - n - 1) 0 t1 t2 (by omega) T0
    rw [show N - n - 1 + n + 1 = N from by omega] at a b
    refine ⟨n, t1', t2', ?_, ?_, T'⟩
    · have : jmin le 240 = Int32.ofNat n := by
        show (if (240 : Int32) < le then (240 : Int32) else le) = _
        rw [he, e240, if_neg (by rw [i_lt _ _ (by omega) (by omega)]; omega)]
      rw [this]; exact a
    · rw [ifb_f (by rw [he, e240, i_le _ _ (by omega) (by omega)]; exact c)]; rw [← he] at b; rw [← he]; exact b
