def ROk (t : Nat → Int32) (sz K A D : Nat) (wt : List (List Int32) → Nat) (op : Int32) (sel : Nat → FT16) (U : Nat → PR) : Prop := ∀ (d u p : Nat) (ki le ri ma bi ro ta : Nat → Int32) (row nu : Nat → Int64) (fa : Int32) (G : Bool), Pool u ki le ri ma bi ro ta → p ≤ sz → D + (sz - p) ≤ d → u + K * sz ≤ 23000 + K * p → OPR sz K A wt u ki le ri ro fa op G p (sel d (Int32.ofNat u) (Int32.ofNat sz) (b2i G) (Int32.ofNat p) fa op 0 ki le ri ma bi ro ta t row nu) (U p)
section RROW
variable {t : Nat → Int32} {sz N : Nat}
theorem conditions_r (hN : 70000 ≤ N) (hsz : sz ≤ 240) {K A D : Nat} (hK : 1 ≤ K) (hA : A ≤ 100) {wt : List (List Int32) → Nat} (hwt : ∀ F, Fm F → wB F ≤ wt F) {op : Int32} {sel : Nat → FT16} {U : Nat → PR} (hU : ROk t sz K A D wt op sel U) {Q : Nat → Prop} {wt2 : List (List Int32) → Nat} (hok : UOk sz wt2 Q U) (fa : Int32) (G : Bool) (d p0 u0 : Nat) (ki0 le0 ri0 ro0 : Nat → Int32) (P0 : Po u0 ki0 le0 ri0 ro0) : ∀ (m k p : Nat) (F : List (List Int32)) (g : Bool) (u a : Nat) (ki le ri ma bi ro ta : Nat → Int32) (row nu : Nat → Int64), Pool u ki le ri ma bi ro ta → Ag u0 ki0 le0 ri0 ro0 ki le ri ro → u0 ≤ u → u + K * p0 ≤ u0 + K * p → a < u → wB (dn ki le ri ro a) + p0 ≤ p → ((G || g) = false → dn ki le ri ro a = F) → p0 < p → p ≤ sz → sz < p + m → D + (sz - p) ≤ d + 1 → u + K * sz ≤ 23000 + K * p → OPR sz K A wB u0 ki0 le0 ri0 ro0 fa op G p0 (f_X7_conditions_9 (sel d) N (k + 1 + m) (Int32.ofNat u) (Int32.ofNat sz) (b2i (G || g)) (Int32.ofNat (bls t sz p)) fa op 0 ki le ri ma bi ro ta t row nu (Int32.ofNat a)) (sRow t sz 38 6 U m p F g)
  | 0, k, p, F, g, u, a, ki, le, ri, ma, bi, ro, ta, row, nu, P, A1, h1, h2, h3, h4, h5, h6, h7, h8, h9, h10 => by omega
  | m + 1, k, p, F, g, u, a, ki, le, ri, ma, bi, ro, ta, row, nu, P, A1, h1, h2, h3, h4, h5, h6, h7, h8, h9, h10 => by
    have hbl := bls_le (t := t) (sz := sz) p h7
    rw [show k + 1 + (m + 1) = (k + 1 + m) + 1 from by omega, f_X7_conditions_9]; dsimp only
    rw [ifb_t rfl, bd (o_peek N _ hsz (by omega))]
    unfold sRow
    by_cases c : pk t sz (bls t sz p) = 38
    · have hlt := pkk_in c (by decide)
      have hKm : K * p + K ≤ K * (bls t sz p + 1) := by rw [← Nat.mul_succ]; exact Nat.mul_le_mul (Nat.le_refl K) (by omega)
      rw [ifb_t c, if_pos c, i_p1]
      have hr := hU d u (bls t sz p + 1) ki le ri ma bi ro ta row nu fa (G || g) P (by omega) (by omega) (by omega)
      obtain ⟨u1, u2⟩ := hok (bls t sz p + 1) (by omega)
      cases hx : U (bls t sz p + 1) with
      | error e =>
        rw [hx] at hr
        obtain ⟨s, u', gr', a', op', ki', le', ri', ma', bi', ro', ta', row', nu', e1, P', A2, q3, q4⟩ := hr
        have hb2 : bls t sz a' ≤ sz + A := by
          by_cases ca : a' ≤ sz
          · have := bls_le (t := t) (sz := sz) a' ca; omega
          · rw [bls_out (by omega)]; exact q4
        rw [bd e1]
        dsimp only
        rw [ifb_f (by decide)]
        unfold f_X7_conditions_58
        rw [bd (o_blanks N (by omega) hsz (by omega)), show k + 1 + m = (k + m) + 1 from by omega, f_X7_conditions_9]; dsimp only
        rw [ifb_f (by decide)]
        exact ⟨_, u', _, bls t sz a', _, _, _, _, _, _, _, _, _, _, rfl, P', A1.tr A2 h1, by omega, hb2⟩
      | ok z =>
        obtain ⟨p3, H, h⟩ := z
        rw [hx] at hr
        obtain ⟨v1, v2, v3, v4, v5⟩ := u2 p3 H h hx
        obtain ⟨s, u', ki', le', ri', ma', bi', ro', ta', row', nu', e1, ⟨P', A2, q3, q4, q5⟩, q6, q7⟩ := hr
        have Fa := dn_fm P.1 a h3
        have da : dn ki' le' ri' ro' a = dn ki le ri ro a := dn_ag P.1.2.2.1 P.1.2.1 A2 h3
        have Fs := dn_fm P'.1 s q5
        have w1 := w_le Fa
        have w2 := w_le Fs
        have w3 := hwt _ Fs
        rw [bd e1]
        dsimp only
        rw [ifb_t rfl]
        have hKp3 : K * (bls t sz p + 1) ≤ K * p3 := Nat.mul_le_mul (Nat.le_refl K) (by omega)
        have hKp3s : K * p3 ≤ K * sz := Nat.mul_le_mul (Nat.le_refl K) v2
        obtain ⟨s2, u2', ki2, le2, ri2, ma2, bi2, ro2, ta2, e2, P2, A3, r1, r2, r3, r4⟩ := o_both (rw_ := row') N hN P' (by omega) 1 (p := a) (q := s) (by omega) q5 (by rw [da]; omega)
        rw [if_neg (show ¬ ((1 : Int32) = 0) by decide), da] at r4
        rw [bd e2]
        dsimp only
        unfold f_X7_conditions_58
        rw [bd (o_blanks N (by omega) hsz (by omega))]
        have hmk := (w_mk Fa Fs (k := 6) (Or.inl rfl)).1
        have := conditions_r hN hsz hK hA hwt hU hok fa G d p0 u0 ki0 le0 ri0 ro0 P0 m k p3 (mk 6 F H) (g || h) u2' s2 ki2 le2 ri2 ma2 bi2 ro2 ta2 row' nu' P2 ((A1.tr A2 h1).tr A3 (by omega)) (by omega) (by omega) r3 (by rw [r4]; omega) (fun hg => by
          rw [← Bool.or_assoc] at hg
          rw [r4, h5 (by cases hh : (G || g) with
            | false => rfl
            | true => rw [hh] at hg; exact absurd hg (by simp)), q7 hg]) (by omega) v2 (by omega) (by omega) (by omega)
        rw [← Bool.or_assoc] at this
        exact this
    · rw [ifb_f c, if_neg c]
      have hKb : K * p ≤ K * bls t sz p := Nat.mul_le_mul (Nat.le_refl K) hbl.1
      exact ⟨a, u, ki, le, ri, ma, bi, ro, ta, row, nu, rfl, ⟨P, A1, h1, by omega, h3⟩, by omega, h5⟩
theorem conditionss_r (hN : 70000 ≤ N) (hsz : sz ≤ 240) {K A D : Nat} (hK : 1 ≤ K) (hA : A ≤ 100) {wt : List (List Int32) → Nat} (hwt : ∀ F, Fm F → wB F ≤ wt F) {op : Int32} {sel : Nat → FT16} {U : Nat → PR} (hU : ROk t sz K A D wt op sel U) {Q : Nat → Prop} {wt2 : List (List Int32) → Nat} (hok : UOk sz wt2 Q U) {sel2 : Nat → FT16} (hsel : ∀ d, sel2 (d + 1) = F_X7_conditions (sel d) N) : ROk t sz K A (D + 1) wB op sel2 (sRows t sz 38 6 U) := by
  intro d u p ki le ri ma bi ro ta row nu fa G P hp hd hu
  obtain ⟨d, rfl⟩ : ∃ e, d = e + 1 := ⟨d - 1, by omega⟩
  rw [hsel]
  unfold F_X7_conditions sRows
  have hr := hU d u p ki le ri ma bi ro ta row nu fa G P hp (by omega) hu
  obtain ⟨u1, u2⟩ := hok p hp
  cases hx : U p with
  | error e =>
    rw [hx] at hr
    obtain ⟨s, u', gr', a', op', ki', le', ri', ma', bi', ro', ta', row', nu', e1, P', A2, q3, q4⟩ := hr
    have hb2 : bls t sz a' ≤ sz + A := by
      by_cases ca : a' ≤ sz
      · have := bls_le (t := t) (sz := sz) a' ca; omega
      · rw [bls_out (by omega)]; exact q4
    rw [bd e1]
    dsimp only
    rw [bd (o_blanks N (by omega) hsz (by omega))]
    obtain ⟨M, hM⟩ : ∃ M, N = M + 1 := ⟨N - 1, by omega⟩
    have ew : f_X7_conditions_9 (sel d) N N (Int32.ofNat u') (Int32.ofNat sz) gr' (Int32.ofNat (bls t sz a')) (Int32.ofNat e) op' 1 ki' le' ri' ma' bi' ro' ta' t row' nu' s = some (s, Int32.ofNat u', gr', Int32.ofNat (bls t sz a'), Int32.ofNat e, op', 1, ki', le', ri', ma', bi', ro', ta', row', nu') := by
      conv => lhs; arg 3; rw [hM]
      rw [f_X7_conditions_9]; dsimp only
      rw [ifb_f (by decide)]; rfl
    rw [ew]
    exact ⟨_, u', _, bls t sz a', _, _, _, _, _, _, _, _, _, _, rfl, P', A2, q3, hb2⟩
  | ok z =>
    obtain ⟨p1, F, g⟩ := z
    rw [hx] at hr
    obtain ⟨v1, v2, v3, v4, v5⟩ := u2 p1 F g hx
    obtain ⟨s, u', ki', le', ri', ma', bi', ro', ta', row', nu', e1, ⟨P', A2, q3, q4, q5⟩, q6, q7⟩ := hr
    have w3 := hwt _ (dn_fm P'.1 s q5)
    rw [bd e1]
    dsimp only
    rw [bd (o_blanks N (by omega) hsz (by omega))]
    have := conditions_r hN hsz hK hA hwt hU hok fa G d p u ki le ri ro P.1 241 (N - 242) p1 F g u' s ki' le' ri' ma' bi' ro' ta' row' nu' P' A2 q3 q4 q5 (by omega) q7 v1 v2 (by omega) (by omega) (by omega)
    rw [show N - 242 + 1 + 241 = N from by omega] at this
    exact this
theorem alternatives_r (hN : 70000 ≤ N) (hsz : sz ≤ 240) {K A D : Nat} (hK : 1 ≤ K) (hA : A ≤ 100) {wt : List (List Int32) → Nat} (hwt : ∀ F, Fm F → wB F ≤ wt F) {op : Int32} {sel : Nat → FT16} {U : Nat → PR} (hU : ROk t sz K A D wt op sel U) {Q : Nat → Prop} {wt2 : List (List Int32) → Nat} (hok : UOk sz wt2 Q U) (fa : Int32) (G : Bool) (d p0 u0 : Nat) (ki0 le0 ri0 ro0 : Nat → Int32) (P0 : Po u0 ki0 le0 ri0 ro0) : ∀ (m k p : Nat) (F : List (List Int32)) (g : Bool) (u a : Nat) (ki le ri ma bi ro ta : Nat → Int32) (row nu : Nat → Int64), Pool u ki le ri ma bi ro ta → Ag u0 ki0 le0 ri0 ro0 ki le ri ro → u0 ≤ u → u + K * p0 ≤ u0 + K * p → a < u → wB (dn ki le ri ro a) + p0 ≤ p → ((G || g) = false → dn ki le ri ro a = F) → p0 < p → p ≤ sz → sz < p + m → D + (sz - p) ≤ d + 1 → u + K * sz ≤ 23000 + K * p → OPR sz K A wB u0 ki0 le0 ri0 ro0 fa op G p0 (f_X7_alternatives_9 (sel d) N (k + 1 + m) (Int32.ofNat u) (Int32.ofNat sz) (b2i (G || g)) (Int32.ofNat (bls t sz p)) fa op 0 ki le ri ma bi ro ta t row nu (Int32.ofNat a)) (sRow t sz 124 7 U m p F g)
  | 0, k, p, F, g, u, a, ki, le, ri, ma, bi, ro, ta, row, nu, P, A1, h1, h2, h3, h4, h5, h6, h7, h8, h9, h10 => by omega
  | m + 1, k, p, F, g, u, a, ki, le, ri, ma, bi, ro, ta, row, nu, P, A1, h1, h2, h3, h4, h5, h6, h7, h8, h9, h10 => by
    have hbl := bls_le (t := t) (sz := sz) p h7
    rw [show k + 1 + (m + 1) = (k + 1 + m) + 1 from by omega, f_X7_alternatives_9]; dsimp only
    rw [ifb_t rfl, bd (o_peek N _ hsz (by omega))]
    unfold sRow
    by_cases c : pk t sz (bls t sz p) = 124
    · have hlt := pkk_in c (by decide)
      have hKm : K * p + K ≤ K * (bls t sz p + 1) := by rw [← Nat.mul_succ]; exact Nat.mul_le_mul (Nat.le_refl K) (by omega)
      rw [ifb_t c, if_pos c, i_p1]
      have hr := hU d u (bls t sz p + 1) ki le ri ma bi ro ta row nu fa (G || g) P (by omega) (by omega) (by omega)
      obtain ⟨u1, u2⟩ := hok (bls t sz p + 1) (by omega)
      cases hx : U (bls t sz p + 1) with
      | error e =>
        rw [hx] at hr
        obtain ⟨s, u', gr', a', op', ki', le', ri', ma', bi', ro', ta', row', nu', e1, P', A2, q3, q4⟩ := hr
        have hb2 : bls t sz a' ≤ sz + A := by
          by_cases ca : a' ≤ sz
          · have := bls_le (t := t) (sz := sz) a' ca; omega
          · rw [bls_out (by omega)]; exact q4
        rw [bd e1]
        dsimp only
        rw [ifb_f (by decide)]
        unfold f_X7_alternatives_58
        rw [bd (o_blanks N (by omega) hsz (by omega)), show k + 1 + m = (k + m) + 1 from by omega, f_X7_alternatives_9]; dsimp only
        rw [ifb_f (by decide)]
        exact ⟨_, u', _, bls t sz a', _, _, _, _, _, _, _, _, _, _, rfl, P', A1.tr A2 h1, by omega, hb2⟩
      | ok z =>
        obtain ⟨p3, H, h⟩ := z
        rw [hx] at hr
        obtain ⟨v1, v2, v3, v4, v5⟩ := u2 p3 H h hx
        obtain ⟨s, u', ki', le', ri', ma', bi', ro', ta', row', nu', e1, ⟨P', A2, q3, q4, q5⟩, q6, q7⟩ := hr
        have Fa := dn_fm P.1 a h3
        have da : dn ki' le' ri' ro' a = dn ki le ri ro a := dn_ag P.1.2.2.1 P.1.2.1 A2 h3
        have Fs := dn_fm P'.1 s q5
        have w1 := w_le Fa
        have w2 := w_le Fs
        have w3 := hwt _ Fs
        rw [bd e1]
        dsimp only
        rw [ifb_t rfl]
        have hKp3 : K * (bls t sz p + 1) ≤ K * p3 := Nat.mul_le_mul (Nat.le_refl K) (by omega)
        have hKp3s : K * p3 ≤ K * sz := Nat.mul_le_mul (Nat.le_refl K) v2
        obtain ⟨s2, u2', ki2, le2, ri2, ma2, bi2, ro2, ta2, e2, P2, A3, r1, r2, r3, r4⟩ := o_both (rw_ := row') N hN P' (by omega) 0 (p := a) (q := s) (by omega) q5 (by rw [da]; omega)
        rw [if_pos rfl, da] at r4
        rw [bd e2]
        dsimp only
        unfold f_X7_alternatives_58
        rw [bd (o_blanks N (by omega) hsz (by omega))]
        have hmk := (w_mk Fa Fs (k := 7) (Or.inr rfl)).1
        have := alternatives_r hN hsz hK hA hwt hU hok fa G d p0 u0 ki0 le0 ri0 ro0 P0 m k p3 (mk 7 F H) (g || h) u2' s2 ki2 le2 ri2 ma2 bi2 ro2 ta2 row' nu' P2 ((A1.tr A2 h1).tr A3 (by omega)) (by omega) (by omega) r3 (by rw [r4]; omega) (fun hg => by
          rw [← Bool.or_assoc] at hg
          rw [r4, h5 (by cases hh : (G || g) with
            | false => rfl
            | true => rw [hh] at hg; exact absurd hg (by simp)), q7 hg]) (by omega) v2 (by omega) (by omega) (by omega)
        rw [← Bool.or_assoc] at this
        exact this
    · rw [ifb_f c, if_neg c]
      have hKb : K * p ≤ K * bls t sz p := Nat.mul_le_mul (Nat.le_refl K) hbl.1
      exact ⟨a, u, ki, le, ri, ma, bi, ro, ta, row, nu, rfl, ⟨P, A1, h1, by omega, h3⟩, by omega, h5⟩
theorem alternativess_r (hN : 70000 ≤ N) (hsz : sz ≤ 240) {K A D : Nat} (hK : 1 ≤ K) (hA : A ≤ 100) {wt : List (List Int32) → Nat} (hwt : ∀ F, Fm F → wB F ≤ wt F) {op : Int32} {sel : Nat → FT16} {U : Nat → PR} (hU : ROk t sz K A D wt op sel U) {Q : Nat → Prop} {wt2 : List (List Int32) → Nat} (hok : UOk sz wt2 Q U) {sel2 : Nat → FT16} (hsel : ∀ d, sel2 (d + 1) = F_X7_alternatives (sel d) N) : ROk t sz K A (D + 1) wB op sel2 (sRows t sz 124 7 U) := by
  intro d u p ki le ri ma bi ro ta row nu fa G P hp hd hu
  obtain ⟨d, rfl⟩ : ∃ e, d = e + 1 := ⟨d - 1, by omega⟩
  rw [hsel]
  unfold F_X7_alternatives sRows
  have hr := hU d u p ki le ri ma bi ro ta row nu fa G P hp (by omega) hu
  obtain ⟨u1, u2⟩ := hok p hp
  cases hx : U p with
  | error e =>
    rw [hx] at hr
    obtain ⟨s, u', gr', a', op', ki', le', ri', ma', bi', ro', ta', row', nu', e1, P', A2, q3, q4⟩ := hr
    have hb2 : bls t sz a' ≤ sz + A := by
      by_cases ca : a' ≤ sz
      · have := bls_le (t := t) (sz := sz) a' ca; omega
      · rw [bls_out (by omega)]; exact q4
    rw [bd e1]
    dsimp only
    rw [bd (o_blanks N (by omega) hsz (by omega))]
    obtain ⟨M, hM⟩ : ∃ M, N = M + 1 := ⟨N - 1, by omega⟩
    have ew : f_X7_alternatives_9 (sel d) N N (Int32.ofNat u') (Int32.ofNat sz) gr' (Int32.ofNat (bls t sz a')) (Int32.ofNat e) op' 1 ki' le' ri' ma' bi' ro' ta' t row' nu' s = some (s, Int32.ofNat u', gr', Int32.ofNat (bls t sz a'), Int32.ofNat e, op', 1, ki', le', ri', ma', bi', ro', ta', row', nu') := by
      conv => lhs; arg 3; rw [hM]
      rw [f_X7_alternatives_9]; dsimp only
      rw [ifb_f (by decide)]; rfl
    rw [ew]
    exact ⟨_, u', _, bls t sz a', _, _, _, _, _, _, _, _, _, _, rfl, P', A2, q3, hb2⟩
  | ok z =>
    obtain ⟨p1, F, g⟩ := z
    rw [hx] at hr
    obtain ⟨v1, v2, v3, v4, v5⟩ := u2 p1 F g hx
    obtain ⟨s, u', ki', le', ri', ma', bi', ro', ta', row', nu', e1, ⟨P', A2, q3, q4, q5⟩, q6, q7⟩ := hr
    have w3 := hwt _ (dn_fm P'.1 s q5)
    rw [bd e1]
    dsimp only
    rw [bd (o_blanks N (by omega) hsz (by omega))]
    have := alternatives_r hN hsz hK hA hwt hU hok fa G d p u ki le ri ro P.1 241 (N - 242) p1 F g u' s ki' le' ri' ma' bi' ro' ta' row' nu' P' A2 q3 q4 q5 (by omega) q7 v1 v2 (by omega) (by omega) (by omega)
    rw [show N - 242 + 1 + 241 = N from by omega] at this
    exact this
end RROW
section RFORM
variable {t : Nat → Int32} {sz N : Nat}
theorem bls_A {A a' : Nat} (h : a' ≤ sz + A) : bls t sz a' ≤ sz + A := by
  by_cases ca : a' ≤ sz
  · have := bls_le (t := t) (sz := sz) a' ca; omega
  · rw [bls_out (by omega)]; exact h
theorem arr_r (hN : 70000 ≤ N) (hsz : sz ≤ 240) {K A D : Nat} (hA : A ≤ 100) {op : Int32} {selA selF : Nat → FT16} {U : Nat → PR} (hU : ROk t sz K A D wB op selA U) {Q : Nat → Prop} (hok : UOk sz wB Q U) (hQ : ∀ p, Q p → bls t sz p = p) (hsel : ∀ d, selF (d + 1) = F_X7_formula (selF d) (selA d) N) : ∀ (m d u p : Nat) (ki le ri ma bi ro ta : Nat → Int32) (row nu : Nat → Int64) (fa : Int32) (G : Bool), Pool u ki le ri ma bi ro ta → p ≤ sz → sz < p + m → D + 1 + (sz - p) ≤ d → u + (K + 1) * sz ≤ 23000 + (K + 1) * p → OPR sz (K + 1) A wB u ki le ri ro fa op G p (selF d (Int32.ofNat u) (Int32.ofNat sz) (b2i G) (Int32.ofNat p) fa op 0 ki le ri ma bi ro ta t row nu) (sArr t sz U m p)
  | 0, d, u, p, ki, le, ri, ma, bi, ro, ta, row, nu, fa, G, P, hp, hm, hd, hu => by omega
  | m + 1, d, u, p, ki, le, ri, ma, bi, ro, ta, row, nu, fa, G, P, hp, hm, hd, hu => by
    obtain ⟨d, rfl⟩ : ∃ e, d = e + 1 := ⟨d - 1, by omega⟩
    rw [hsel]
    unfold F_X7_formula f_X7_formula_25 f_X7_formula_88 sArr
    rw [Nat.succ_mul, Nat.succ_mul] at hu
    have hr := hU d u p ki le ri ma bi ro ta row nu fa G P hp (by omega) (by omega)
    obtain ⟨u1, u2⟩ := hok p hp
    cases hx : U p with
    | error e =>
      rw [hx] at hr
      obtain ⟨s, u', gr', a', op', ki', le', ri', ma', bi', ro', ta', row', nu', e1, P', A2, q3, q4⟩ := hr
      have hb2 := bls_A (t := t) q4
      rw [bd e1]
      dsimp only
      rw [bd (o_blanks N (by omega) hsz (by omega)), ifb_f (by decide)]
      exact ⟨_, u', _, bls t sz a', _, _, _, _, _, _, _, _, _, _, rfl, P', A2, q3, hb2⟩
    | ok z =>
      obtain ⟨p1, F, g⟩ := z
      rw [hx] at hr
      obtain ⟨v1, v2, v3, v4, v5⟩ := u2 p1 F g hx
      have hb1 := hQ p1 v5
      obtain ⟨s, u', ki', le', ri', ma', bi', ro', ta', row', nu', e1, ⟨P', A2, q3, q4, q5⟩, q6, q7⟩ := hr
      rw [bd e1]
      dsimp only
      rw [bd (o_blanks N (by omega) hsz (by omega)), hb1, ifb_t rfl, bd (o_peek N _ hsz (by omega))]
      by_cases c : pk t sz p1 = 45
      · have hlt := pkk_in c (by decide)
        rw [ifb_t c, if_pos c, i_p1, bd (o_peek N _ hsz (by omega))]
        by_cases c2 : pk t sz (p1 + 1) = 62
        · have hlt2 := pkk_in c2 (by decide)
          rw [ifb_t c2, if_pos c2, i_p1]
          have hK1 : K * (p1 + 2) = K * p1 + 2 * K := by rw [Nat.mul_add]; omega
          have hr2 := arr_r hN hsz hA hU hok hQ hsel m d u' (p1 + 2) ki' le' ri' ma' bi' ro' ta' row' nu' fa (G || g) P' (by omega) (by omega) (by omega) (by rw [Nat.succ_mul, Nat.succ_mul]; omega)
          have aok := arr_ok (t := t) hsz hok m (p1 + 2) (by omega) (by omega)
          have hr2' : OPR sz (K + 1) A wB u' ki' le' ri' ro' fa op (G || g) (p1 + 2) (selF d (Int32.ofNat u') (Int32.ofNat sz) (b2i (G || g)) (Int32.ofNat (p1 + 1 + 1)) fa op 0 ki' le' ri' ma' bi' ro' ta' t row' nu') (sArr t sz U m (p1 + 2)) := hr2
          cases hy : sArr t sz U m (p1 + 2) with
          | error e =>
            rw [hy] at hr2'
            obtain ⟨s3, u3, gr3, a3, op3, ki3, le3, ri3, ma3, bi3, ro3, ta3, row3, nu3, e3, P3, A3, r3, r4⟩ := hr2'
            rw [bd e3]
            dsimp only
            rw [ifb_f (by decide)]
            exact ⟨_, u3, _, a3, _, _, _, _, _, _, _, _, _, _, rfl, P3, A2.tr A3 q3, by omega, r4⟩
          | ok y =>
            obtain ⟨p3, H, h⟩ := y
            rw [hy] at hr2'
            obtain ⟨x1, x2, x3, x4, _, _⟩ := aok.2 p3 H h hy
            obtain ⟨s3, u3, ki3, le3, ri3, ma3, bi3, ro3, ta3, row3, nu3, e3, ⟨P3, A3, r3, r4, r5⟩, r6, r7⟩ := hr2'
            have Fs := dn_fm P'.1 s q5
            have F3 := dn_fm P3.1 s3 r5
            have w1 := w_le Fs
            have w2 := w_le F3
            have ds : dn ki3 le3 ri3 ro3 s = dn ki' le' ri' ro' s := dn_ag P'.1.2.2.1 P'.1.2.1 A3 q5
            rw [bd e3]
            dsimp only
            rw [ifb_t rfl]
            rw [Nat.succ_mul, Nat.succ_mul, hK1] at r4
            have hKs : K * p3 ≤ K * sz := Nat.mul_le_mul (Nat.le_refl K) x2
            obtain ⟨s4, u4, ki4, le4, ri4, ma4, bi4, ro4, ta4, row4, e4, P4, A4, t1, t2, t3, t4⟩ := o_turned N hN 450 u3 ki3 le3 ri3 ma3 bi3 ro3 ta3 row3 s P3 (by omega) (by rw [ds]; omega) (by rw [ds]; omega)
            rw [ds] at t2 t4
            have d4 : dn ki4 le4 ri4 ro4 s3 = dn ki3 le3 ri3 ro3 s3 := dn_ag P3.1.2.2.1 P3.1.2.1 A4 r5
            have e4' : f_X7_turned N (Int32.ofNat u3) ki3 le3 ri3 ma3 bi3 ro3 ta3 row3 (Int32.ofNat s) = some (Int32.ofNat s4, Int32.ofNat u4, ki4, le4, ri4, ma4, bi4, ro4, ta4, row4) := e4
            rw [bd e4']
            dsimp only
            obtain ⟨s5, u5, ki5, le5, ri5, ma5, bi5, ro5, ta5, e5, P5, A5, m1, m2, m3, m4⟩ := o_both (rw_ := row4) N hN P4 (by omega) 0 (p := s4) (q := s3) t3 (by omega) (by rw [t4, d4, ng_len]; omega)
            rw [if_pos rfl, t4, d4] at m4
            rw [bd e5]
            dsimp only
            have hmk := (w_mk (ng_fm Fs).1 F3 (k := 7) (Or.inr rfl)).1
            rw [(w_ng Fs).1] at hmk
            refine ⟨s5, u5, ki5, le5, ri5, ma5, bi5, ro5, ta5, row4, nu3, ?_, ⟨P5, ((A2.tr A3 q3).tr A4 (by omega)).tr A5 (by omega), by omega, by rw [Nat.succ_mul, Nat.succ_mul]; omega, m3⟩, by rw [m4]; omega, fun hg => ?_⟩
            · rw [Bool.or_assoc]
            · rw [← Bool.or_assoc] at hg
              rw [m4, q7 (by cases hh : (G || g) with
                | false => rfl
                | true => rw [hh] at hg; exact absurd hg (by simp)), r7 hg]
        · rw [ifb_f c2, if_neg c2, bd (o_fail N _ _)]
          exact ⟨_, u', _, p1 + 1, _, _, _, _, _, _, _, _, _, _, rfl, P', A2, q3, by omega⟩
      · rw [ifb_f c, if_neg c]
        exact ⟨s, u', ki', le', ri', ma', bi', ro', ta', row', nu', rfl, ⟨P', A2, q3, by rw [Nat.succ_mul, Nat.succ_mul]; omega, q5⟩, q6, q7⟩
theorem form_r (hN : 70000 ≤ N) (hsz : sz ≤ 240) {K A D : Nat} (hK : 1 ≤ K) (hA : A ≤ 100) {op : Int32} {U : Nat → PR} (hU : ROk t sz K A D wU op (fun d => (fg_parse N d).2.2.2) U) (hok : UOk sz wU (fun _ => True) U) : ROk t sz (K + 1) A (D + 3) wB op (fun d => (fg_parse N d).1) (sForm t sz U) := by
  have k1 := rows_ok (t := t) hsz hok (fun F hF => (w_le hF).2.1) (k := 6) (ch := 38) (Or.inl rfl) (by decide)
  have k2 := rows_ok (t := t) hsz k1 (fun F hF => Nat.le_refl _) (k := 7) (ch := 124) (Or.inr rfl) (by decide)
  have a1 := conditionss_r (sel2 := fun d => (fg_parse N d).2.2.1) hN hsz hK hA (fun F hF => (w_le hF).2.1) hU hok (fun d => rfl)
  have a2 := alternativess_r (sel2 := fun d => (fg_parse N d).2.1) hN hsz hK hA (fun F hF => Nat.le_refl _) a1 k1 (fun d => rfl)
  intro d u p ki le ri ma bi ro ta row nu fa G P hp hd hu
  exact arr_r (selF := fun d => (fg_parse N d).1) hN hsz hA a2 k2 (fun p hp => by obtain ⟨_, p3, _, e⟩ := hp; rw [e, bls_bls]) (fun d => rfl) 241 d u p ki le ri ma bi ro ta row nu fa G P hp (by omega) (by omega) hu
theorem leaf_r (hN : 70000 ≤ N) (hsz : sz ≤ 240) (hT : TB t sz) (K A : Nat) (hK : 1 ≤ K) (op : Int32) (d u p : Nat) (ki le ri ma bi ro ta : Nat → Int32) (row nu : Nat → Int64) (fa : Int32) (G : Bool) (P : Pool u ki le ri ma bi ro ta) (hp : p ≤ sz) (hu : u < 24000) (h : ¬ (pk t sz (bls t sz p) = 33 ∨ pk t sz (bls t sz p) = 69 ∨ pk t sz (bls t sz p) = 65 ∨ pk t sz (bls t sz p) = 40)) : OPR sz K A wU u ki le ri ro fa op G p ((fg_parse N (d + 1)).2.2.2 (Int32.ofNat u) (Int32.ofNat sz) (b2i G) (Int32.ofNat p) fa op 0 ki le ri ma bi ro ta t row nu) (sLeaf t sz p) := by
  have hbl := bls_le (t := t) (sz := sz) p hp
  have h2u := P.1.1
  show OPR sz K A wU u ki le ri ro fa op G p (F_X7_unit (fg_parse N d).1 (fg_parse N d).2.2.2 N (Int32.ofNat u) (Int32.ofNat sz) (b2i G) (Int32.ofNat p) fa op 0 ki le ri ma bi ro ta t row nu) (sLeaf t sz p)
  unfold F_X7_unit f_X7_unit_21 f_X7_unit_43 sLeaf
  rw [bd (o_blanks N (by omega) hsz (by omega)), bd (o_peek N _ hsz (by omega))]
  have hKb : K * p ≤ K * (bls t sz p + 1) := Nat.mul_le_mul (Nat.le_refl K) (by omega)
  by_cases c1 : pk t sz (bls t sz p) = 84
  · have := pkk_in c1 (by decide)
    rw [ifb_t c1, if_pos c1, ifb_t c1, i_p1, bd (show f_X7_truth N 1 = some (Int32.ofNat 0) from o_truth N true)]
    have hd : dn ki le ri ro 0 = fT := (node0 P.1).1
    have hw : wU fT = 1 := by have := (w_leaf (show Leaf (row0 0) from Or.inl rfl)).2; rw [if_pos (by decide)] at this; exact this
    refine ⟨0, u, ki, le, ri, ma, bi, ro, ta, row, nu, ?_, ⟨P, Ag.rf, Nat.le_refl _, by omega, by omega⟩, by rw [hd, hw]; omega, fun _ => hd⟩
    rw [Bool.or_false]
  · rw [ifb_f c1, if_neg c1]
    by_cases c2 : pk t sz (bls t sz p) = 70
    · have := pkk_in c2 (by decide)
      rw [ifb_t c2, if_pos c2, ifb_f c1, i_p1, bd (show f_X7_truth N 0 = some (Int32.ofNat 1) from o_truth N false)]
      have hd : dn ki le ri ro 1 = fF := (node0 P.1).2
      have hw : wU fF = 1 := by have := (w_leaf (show Leaf (row0 1) from Or.inr (Or.inl rfl))).2; rw [if_pos (by decide)] at this; exact this
      refine ⟨1, u, ki, le, ri, ma, bi, ro, ta, row, nu, ?_, ⟨P, Ag.rf, Nat.le_refl _, by omega, by omega⟩, by rw [hd, hw]; omega, fun _ => hd⟩
      rw [Bool.or_false]
    · rw [ifb_f c2, if_neg c2, ifb_f (fun g => h (Or.inl g)), ifb_f (fun g => h (Or.inr (Or.inl g))), ifb_f (fun g => h (Or.inr (Or.inr (Or.inl g)))), ifb_f (fun g => h (Or.inr (Or.inr (Or.inr g))))]
      have hr := o_rel N hN hsz hT P hu hbl.2 fa op G row nu K A hK
      have hKb2 : K * p ≤ K * bls t sz p := Nat.mul_le_mul (Nat.le_refl K) hbl.1
      have key : ∀ (R : PR) (o : Option T16), OPR sz K A wU u ki le ri ro fa op G (bls t sz p) o R → OPR sz K A wU u ki le ri ro fa op G p o R := by
        intro R o ho
        cases R with
        | error e => exact ho
        | ok z =>
          obtain ⟨p', F, g⟩ := z
          obtain ⟨s, u', ki', le', ri', ma', bi', ro', ta', row', nu', e1, ⟨P', A2, q3, q4, q5⟩, q6, q7⟩ := ho
          exact ⟨s, u', ki', le', ri', ma', bi', ro', ta', row', nu', e1, ⟨P', A2, q3, by omega, q5⟩, by omega, q7⟩
      exact key _ _ hr
theorem unit_r (hN : 70000 ≤ N) (hsz : sz ≤ 240) (hT : TB t sz) : ∀ k, k ≤ 20 → ROk t sz (k + 1) k (1 + 4 * k) wU (Int32.ofNat (20 - k)) (fun d => (fg_parse N d).2.2.2) (sU t sz k)
  | 0, hk => by
    intro d u p ki le ri ma bi ro ta row nu fa G P hp hd hu
    have hbl := bls_le (t := t) (sz := sz) p hp
    obtain ⟨d, rfl⟩ : ∃ e, d = e + 1 := ⟨d - 1, by omega⟩
    unfold sU
    by_cases c : pk t sz (bls t sz p) = 33 ∨ pk t sz (bls t sz p) = 69 ∨ pk t sz (bls t sz p) = 65 ∨ pk t sz (bls t sz p) = 40
    · rw [if_pos c]
      show OPR sz _ _ wU u ki le ri ro fa _ G p (F_X7_unit (fg_parse N d).1 (fg_parse N d).2.2.2 N (Int32.ofNat u) (Int32.ofNat sz) (b2i G) (Int32.ofNat p) fa (Int32.ofNat (20 - 0)) 0 ki le ri ma bi ro ta t row nu) _
      unfold F_X7_unit
      rw [bd (o_blanks N (by omega) hsz (by omega)), bd (o_peek N _ hsz (by omega))]
      have e76 : f_X7_unit_76 (fg_parse N d).1 (fg_parse N d).2.2.2 N (Int32.ofNat u) (Int32.ofNat sz) (b2i G) (Int32.ofNat (bls t sz p)) fa (Int32.ofNat (20 - 0)) 0 ki le ri ma bi ro ta t row nu (pk t sz (bls t sz p)) = some (0, Int32.ofNat u, b2i G, Int32.ofNat (bls t sz p), Int32.ofNat (bls t sz p), Int32.ofNat (20 - 0), 1, ki, le, ri, ma, bi, ro, ta, row, nu) := by
        unfold f_X7_unit_76
        rw [ifb_t (by decide), bd (o_fail N _ _)]
      have fin : OPR sz (0 + 1) 0 wU u ki le ri ro fa (Int32.ofNat (20 - 0)) G p (some (0, Int32.ofNat u, b2i G, Int32.ofNat (bls t sz p), Int32.ofNat (bls t sz p), Int32.ofNat (20 - 0), 1, ki, le, ri, ma, bi, ro, ta, row, nu)) (.error (bls t sz p)) := ⟨_, u, _, bls t sz p, _, _, _, _, _, _, _, _, _, _, rfl, P, Ag.rf, Nat.le_refl _, by omega⟩
      rw [ifb_f (by rcases c with g | g | g | g <;> rw [g] <;> decide), ifb_f (by rcases c with g | g | g | g <;> rw [g] <;> decide), e76]
      by_cases c1 : pk t sz (bls t sz p) = 33
      · rw [ifb_t c1]; exact fin
      · rw [ifb_f c1]
        by_cases c2 : pk t sz (bls t sz p) = 69
        · rw [ifb_t c2]; exact fin
        · rw [ifb_f c2]
          by_cases c3 : pk t sz (bls t sz p) = 65
          · rw [ifb_t c3]; exact fin
          · rw [ifb_f c3, ifb_t (by rcases c with g | g | g | g; exact absurd g c1; exact absurd g c2; exact absurd g c3; exact g)]; exact fin
    · rw [if_neg c]
      exact leaf_r hN hsz hT (0 + 1) 0 (by omega) _ d u p ki le ri ma bi ro ta row nu fa G P hp (by omega) c
  | k + 1, hk => by
    intro d u p ki le ri ma bi ro ta row nu fa G P hp hd hu
    have hbl := bls_le (t := t) (sz := sz) p hp
    have ih := unit_r hN hsz hT k (by omega)
    have uok := u_ok (t := t) hsz k
    obtain ⟨d, rfl⟩ : ∃ e, d = e + 1 := ⟨d - 1, by omega⟩
    have ho1 : Int32.ofNat (20 - (k + 1)) + 1 = Int32.ofNat (20 - k) := by rw [i_p1]; congr 1; omega
    have ho2 : Int32.ofNat (20 - k) - 1 = Int32.ofNat (20 - (k + 1)) := by rw [i_m1 _ (by omega)]; congr 1
    have hne : ¬ (Int32.ofNat (20 - (k + 1)) = 20) := by rw [show (20 : Int32) = Int32.ofNat 20 from rfl, i_eq _ _ (by omega) (by omega)]; omega
    have mul : ∀ x, (k + 1 + 1) * x = (k + 1) * x + x := fun x => Nat.succ_mul _ _
    rw [mul, mul] at hu
    have hmp : ∀ x y, x ≤ y → (k + 1) * x ≤ (k + 1) * y := fun x y h => Nat.mul_le_mul (Nat.le_refl _) h
    unfold sU
    by_cases c1 : pk t sz (bls t sz p) = 33
    · rw [if_pos c1]
      have hlt := pkk_in c1 (by decide)
      have hq := hmp p (bls t sz p + 1) (by omega)
      have hqs := hmp (bls t sz p + 1) sz (by omega)
      have hr := ih d u (bls t sz p + 1) ki le ri ma bi ro ta row nu fa G P (by omega) (by omega) (by omega)
      show OPR sz _ _ wU u ki le ri ro fa _ G p (F_X7_unit (fg_parse N d).1 (fg_parse N d).2.2.2 N (Int32.ofNat u) (Int32.ofNat sz) (b2i G) (Int32.ofNat p) fa (Int32.ofNat (20 - (k + 1))) 0 ki le ri ma bi ro ta t row nu) _
      unfold F_X7_unit f_X7_unit_76 f_X7_unit_137 f_X7_unit_289
      rw [bd (o_blanks N (by omega) hsz (by omega)), bd (o_peek N _ hsz (by omega)), ifb_f (by rw [c1]; decide), ifb_f (by rw [c1]; decide), ifb_t c1, ifb_f hne, ifb_t c1, i_p1, ho1]
      cases hx : sU t sz k (bls t sz p + 1) with
      | error e =>
        rw [hx] at hr
        obtain ⟨s, u', gr', a', op', ki', le', ri', ma', bi', ro', ta', row', nu', e1, P', A2, q3, q4⟩ := hr
        rw [bd e1]
        dsimp only
        rw [ifb_f (by decide)]
        exact ⟨_, u', _, a', _, _, _, _, _, _, _, _, _, _, rfl, P', A2, q3, by omega⟩
      | ok z =>
        obtain ⟨p2, F, g⟩ := z
        rw [hx] at hr
        obtain ⟨v1, v2, v3, v4, v5⟩ := (uok (bls t sz p + 1) (by omega)).2 p2 F g hx
        obtain ⟨s, u', ki', le', ri', ma', bi', ro', ta', row', nu', e1, ⟨P', A2, q3, q4, q5⟩, q6, q7⟩ := hr
        have Fs := dn_fm P'.1 s q5
        have w1 := w_le Fs
        have hp2 := hmp p2 sz v2
        have hp3 := hmp p p2 (by omega)
        rw [bd e1]
        dsimp only
        rw [ifb_t rfl]
        obtain ⟨s4, u4, ki4, le4, ri4, ma4, bi4, ro4, ta4, row4, e4, P4, A4, t1, t2, t3, t4⟩ := o_turned N hN 450 u' ki' le' ri' ma' bi' ro' ta' row' s P' q5 (by omega) (by omega)
        have e4' : f_X7_turned N (Int32.ofNat u') ki' le' ri' ma' bi' ro' ta' row' (Int32.ofNat s) = some (Int32.ofNat s4, Int32.ofNat u4, ki4, le4, ri4, ma4, bi4, ro4, ta4, row4) := e4
        rw [bd e4']
        dsimp only
        rw [ho2]
        exact ⟨s4, u4, ki4, le4, ri4, ma4, bi4, ro4, ta4, row4, nu', rfl, ⟨P4, A2.tr A4 q3, by omega, by rw [mul, mul]; omega, t3⟩, by rw [t4, (w_ng Fs).2]; omega, fun hg => by rw [t4, q7 hg]⟩
    · rw [if_neg c1]
      by_cases c2 : pk t sz (bls t sz p) = 40
      · rw [if_pos c2]
        have hlt := pkk_in c2 (by decide)
        have hq := hmp p (bls t sz p + 1) (by omega)
        have hqs := hmp (bls t sz p + 1) sz (by omega)
        have hr := form_r hN hsz (by omega) (by omega) ih uok d u (bls t sz p + 1) ki le ri ma bi ro ta row nu fa G P (by omega) (by omega) (by rw [mul, mul]; omega)
        show OPR sz _ _ wU u ki le ri ro fa _ G p (F_X7_unit (fg_parse N d).1 (fg_parse N d).2.2.2 N (Int32.ofNat u) (Int32.ofNat sz) (b2i G) (Int32.ofNat p) fa (Int32.ofNat (20 - (k + 1))) 0 ki le ri ma bi ro ta t row nu) _
        unfold F_X7_unit f_X7_unit_76 f_X7_unit_177 f_X7_unit_289
        rw [bd (o_blanks N (by omega) hsz (by omega)), bd (o_peek N _ hsz (by omega)), ifb_f (by rw [c2]; decide), ifb_f (by rw [c2]; decide), ifb_f (by rw [c2]; decide), ifb_f (by rw [c2]; decide), ifb_f (by rw [c2]; decide), ifb_t c2, ifb_f hne, ifb_f (by rw [c2]; decide), ifb_t c2, i_p1, ho1]
        cases hx : sForm t sz (sU t sz k) (bls t sz p + 1) with
        | error e =>
          rw [hx] at hr
          obtain ⟨s, u', gr', a', op', ki', le', ri', ma', bi', ro', ta', row', nu', e1, P', A2, q3, q4⟩ := hr
          have hb2 := bls_A (t := t) q4
          rw [bd e1]
          dsimp only
          rw [bd (o_blanks N (by omega) hsz (by omega)), ifb_f (by decide), i_p1]
          exact ⟨_, u', _, bls t sz a' + 1, _, _, _, _, _, _, _, _, _, _, rfl, P', A2, q3, by omega⟩
        | ok z =>
          obtain ⟨p2, F, g⟩ := z
          rw [hx] at hr
          obtain ⟨v1, v2, v3, v4, v5⟩ := (form_ok (t := t) hsz uok (bls t sz p + 1) (by omega)).2 p2 F g hx
          have hb2 := bls_le (t := t) (sz := sz) p2 v2
          obtain ⟨s, u', ki', le', ri', ma', bi', ro', ta', row', nu', e1, ⟨P', A2, q3, q4, q5⟩, q6, q7⟩ := hr
          have Fs := dn_fm P'.1 s q5
          have w1 := w_le Fs
          rw [bd e1]
          dsimp only
          rw [bd (o_blanks N (by omega) hsz (by omega)), ifb_t rfl, bd (o_peek N _ hsz (by omega))]
          by_cases c3 : pk t sz (bls t sz p2) = 41
          · have hlt3 := pkk_in c3 (by decide)
            have hp3 := hmp p2 (bls t sz p2 + 1) (by omega)
            rw [ifb_t c3, if_pos c3, i_p1, ho2]
            rw [mul, mul] at q4
            exact ⟨s, u', ki', le', ri', ma', bi', ro', ta', row', nu', rfl, ⟨P', A2, q3, by rw [mul, mul]; omega, q5⟩, by omega, q7⟩
          · rw [ifb_f c3, if_neg c3, bd (o_fail N _ _)]
            exact ⟨_, u', _, bls t sz p2, _, _, _, _, _, _, _, _, _, _, rfl, P', A2, q3, by omega⟩
      · rw [if_neg c2]
        by_cases c3 : pk t sz (bls t sz p) = 69 ∨ pk t sz (bls t sz p) = 65
        · rw [if_pos c3]
          have hlt : bls t sz p < sz := by rcases c3 with h | h <;> exact pkk_in h (by decide)
          have hb1 := bls_le (t := t) (sz := sz) (bls t sz p + 1) (by omega)
          show OPR sz _ _ wU u ki le ri ro fa _ G p (F_X7_unit (fg_parse N d).1 (fg_parse N d).2.2.2 N (Int32.ofNat u) (Int32.ofNat sz) (b2i G) (Int32.ofNat p) fa (Int32.ofNat (20 - (k + 1))) 0 ki le ri ma bi ro ta t row nu) _
          have eu : F_X7_unit (fg_parse N d).1 (fg_parse N d).2.2.2 N (Int32.ofNat u) (Int32.ofNat sz) (b2i G) (Int32.ofNat p) fa (Int32.ofNat (20 - (k + 1))) 0 ki le ri ma bi ro ta t row nu = f_X7_unit_76 (fg_parse N d).1 (fg_parse N d).2.2.2 N (Int32.ofNat u) (Int32.ofNat sz) (b2i G) (Int32.ofNat (bls t sz p)) fa (Int32.ofNat (20 - (k + 1))) 0 ki le ri ma bi ro ta t row nu (pk t sz (bls t sz p)) := by
            unfold F_X7_unit
            rw [bd (o_blanks N (by omega) hsz (by omega)), bd (o_peek N _ hsz (by omega)), ifb_f (by rcases c3 with g | g <;> rw [g] <;> decide), ifb_f (by rcases c3 with g | g <;> rw [g] <;> decide), ifb_f c1]
            by_cases c4 : pk t sz (bls t sz p) = 69
            · rw [ifb_t c4]
            · rw [ifb_f c4, ifb_t (c3.resolve_left c4)]
          rw [eu]
          unfold f_X7_unit_76
          rw [ifb_f hne, ifb_f c1, ifb_f c2, i_p1, bd (o_blanks N (by omega) hsz (by omega)), bd (o_peek N _ hsz (by omega)), bd (o_peek N _ hsz (by omega)), bd (o_isV N _)]
          by_cases c4 : isV (pk t sz (bls t sz (bls t sz p + 1)))
          · have hlt2 := V_in c4
            obtain ⟨e3, e4⟩ := var_val c4
            have hb2 := bls_le (t := t) (sz := sz) (bls t sz (bls t sz p + 1) + 1) (by omega)
            rw [if_pos c4, if_pos c4, ifb_f (by decide), i_p1, bd (o_blanks N (by omega) hsz (by omega)), bd (o_peek N _ hsz (by omega))]
            by_cases c5 : pk t sz (bls t sz (bls t sz (bls t sz p + 1) + 1)) = 46
            · have hlt3 := pkk_in c5 (by decide)
              rw [ifb_t c5, if_pos c5, i_p1, ho1]
              generalize hqq : bls t sz (bls t sz (bls t sz p + 1) + 1) = q at *
              have hq := hmp p (q + 1) (by omega)
              have hqs := hmp (q + 1) sz (by omega)
              have hr := ih d u (q + 1) ki le ri ma bi ro ta row nu fa G P (by omega) (by omega) (by omega)
              cases hx : sU t sz k (q + 1) with
              | error e =>
                rw [hx] at hr
                obtain ⟨s, u', gr', a', op', ki', le', ri', ma', bi', ro', ta', row', nu', e1, P', A2, q3, q4⟩ := hr
                rw [bd e1]
                dsimp only
                unfold f_X7_unit_288 f_X7_unit_289
                rw [ifb_f (by decide)]
                exact ⟨_, u', _, a', _, _, _, _, _, _, _, _, _, _, rfl, P', A2, q3, by omega⟩
              | ok z =>
                obtain ⟨p2, F, g⟩ := z
                rw [hx] at hr
                obtain ⟨v1, v2, v3, v4, v5⟩ := (uok (q + 1) (by omega)).2 p2 F g hx
                obtain ⟨s, u', ki', le', ri', ma', bi', ro', ta', row', nu', e1, ⟨P', A2, q3, q4, q5⟩, q6, q7⟩ := hr
                have Fs := dn_fm P'.1 s q5
                have w1 := w_le Fs
                have hp2 := hmp p2 sz v2
                have hp3 := hmp p p2 (by omega)
                have hp4 := hmp p (q + 1) (by omega)
                rw [bd e1]
                dsimp only
                rw [ifb_t rfl, e3]
                have hk8 : ∀ x1 : Int32, (x1 = 1 ∧ pk t sz (bls t sz p) = 69 ∨ x1 = 0 ∧ ¬ (pk t sz (bls t sz p) = 69)) → OPR sz (k + 1 + 1) (k + 1) wU u ki le ri ro fa (Int32.ofNat (20 - (k + 1))) G p (f_X7_unit_283 (fg_parse N d).1 (fg_parse N d).2.2.2 N (Int32.ofNat u') (Int32.ofNat sz) (b2i (G || g)) (Int32.ofNat p2) fa (Int32.ofNat (20 - k)) 0 ki' le' ri' ma' bi' ro' ta' t row' nu' (Int32.ofNat s) (Int32.ofNat (vvl (pk t sz (bls t sz (bls t sz p + 1))))) x1) (.ok (p2, bq (if pk t sz (bls t sz p) = 69 then 8 else 9) (vvl (pk t sz (bls t sz (bls t sz p + 1)))) F, g)) := by
                  intro x1 hx1
                  have hxk : (if x1 = 0 then (9 : Int32) else 8) = (if pk t sz (bls t sz p) = 69 then 8 else 9) := by
                    rcases hx1 with ⟨rfl, h⟩ | ⟨rfl, h⟩
                    · rw [if_pos h]; rfl
                    · rw [if_neg h]; rfl
                  have hk9 : (if pk t sz (bls t sz p) = 69 then (8 : Int32) else 9) = 8 ∨ (if pk t sz (bls t sz p) = 69 then (8 : Int32) else 9) = 9 := by split; exact Or.inl rfl; exact Or.inr rfl
                  obtain ⟨s4, u4, ki4, le4, ri4, ma4, bi4, ro4, ta4, e4', P4, A4, t1, t2, t3, t4⟩ := o_quantified (rw_ := row') N hN P' (by omega) x1 e4 (q := s) q5 (by omega)
                  rw [hxk] at t4
                  have hwb := (w_bq Fs hk9 (vvl (pk t sz (bls t sz (bls t sz p + 1))))).2
                  unfold f_X7_unit_283 f_X7_unit_288 f_X7_unit_289
                  rw [bd e4']
                  dsimp only
                  rw [ho2]
                  exact ⟨s4, u4, ki4, le4, ri4, ma4, bi4, ro4, ta4, row', nu', rfl, ⟨P4, A2.tr A4 q3, by omega, by rw [mul, mul]; omega, t3⟩, by rw [t4]; omega, fun hg => by rw [t4, q7 hg]⟩
                by_cases c6 : pk t sz (bls t sz p) = 69
                · rw [ifb_t c6]; exact hk8 1 (Or.inl ⟨rfl, c6⟩)
                · rw [ifb_f c6]; exact hk8 0 (Or.inr ⟨rfl, c6⟩)
            · rw [ifb_f c5, if_neg c5, bd (o_fail N _ _)]
              exact ⟨_, u, _, bls t sz (bls t sz (bls t sz p + 1) + 1), _, _, _, _, _, _, _, _, _, _, rfl, P, Ag.rf, Nat.le_refl _, by omega⟩
          · rw [if_neg c4, if_neg c4, ifb_t rfl, bd (o_fail N _ _)]
            exact ⟨_, u, _, bls t sz (bls t sz p + 1), _, _, _, _, _, _, _, _, _, _, rfl, P, Ag.rf, Nat.le_refl _, by omega⟩
        · rw [if_neg c3]
          have hps := hmp p sz hp
          exact leaf_r hN hsz hT (k + 1 + 1) (k + 1) (by omega) _ d u p ki le ri ma bi ro ta row nu fa G P hp (by omega) (by rintro (g | g | g | g); exact c1 g; exact c3 (Or.inl g); exact c3 (Or.inr g); exact c2 g)
end RFORM
section RREAD
variable {t : Nat → Int32} {sz u : Nat} {ki le ri ma bi ro ta rs : Nat → Int32} {F0 : List (List Int32)}
theorem o_read7 (N : Nat) (hN : 70000 ≤ N) (hsz : sz ≤ 240) (hT : TB t sz) (S : RefS u ki le ri ma bi ro ta rs F0) (hF : FI F0) (th gr ap fa op wr : Int32) (mo : Nat → Int32) (row nu : Nat → Int64) : ∃ u' gr' ap' fa' op' wr' ki' le' ri' ma' bi' ro' ta' rs' mo' row' nu', f_X7_read N th (Int32.ofNat u) 1 (Int32.ofNat sz) gr ap fa op wr ki le ri ma bi ro ta rs mo t row nu = some ((sRead t sz).1, 0, Int32.ofNat u', gr', ap', fa', op', wr', ki', le', ri', ma', bi', ro', ta', rs', mo', row', nu') ∧ RefS u' ki' le' ri' ma' bi' ro' ta' rs' ((sRead t sz).2.getD F0) := by
  obtain ⟨u1, ki1, le1, ri1, ma1, bi1, ro1, ta1, rs1, mo1, e1, ⟨P1, x, R1, hd⟩, hu1⟩ := r_sweep N hN S mo row
  have hF2 := hF.2.1
  have uok := u_ok (t := t) hsz 20
  have fr := form_r hN hsz (by omega) (by omega) (unit_r hN hsz hT 20 (by omega)) uok 450 u1 0 ki1 le1 ri1 ma1 bi1 ro1 ta1 row nu fa false P1 (by omega) (by omega) (by omega)
  have fo := form_ok (t := t) hsz uok 0 (by omega)
  have hx1 : x < u1 := R1.2.2 x (by simp)
  unfold f_X7_read
  rw [bd e1]
  dsimp only
  have ef : f_X7_formula N (Int32.ofNat u1) (Int32.ofNat sz) 0 0 fa 0 0 ki1 le1 ri1 ma1 bi1 ro1 ta1 t row nu = (fg_parse N 450).1 (Int32.ofNat u1) (Int32.ofNat sz) (b2i false) (Int32.ofNat 0) fa (Int32.ofNat (20 - 20)) 0 ki1 le1 ri1 ma1 bi1 ro1 ta1 t row nu := rfl
  rw [ef]
  cases hx : sForm t sz (sU t sz 20) 0 with
  | error e =>
    rw [hx] at fr
    obtain ⟨s, u', gr', a', op', ki', le', ri', ma', bi', ro', ta', row', nu', e2, P', A2, q3, q4⟩ := fr
    have hb2 := bls_A (t := t) q4
    have er : sRead t sz = (Int32.ofNat e, none) := by unfold sRead; rw [hx]
    rw [bd e2]
    dsimp only
    rw [bd (o_blanks N (by omega) hsz (by omega)), ifb_f (by decide)]
    unfold f_X7_read_61
    rw [ifb_f (by decide), er]
    exact ⟨u', _, _, _, _, _, _, _, _, _, _, _, _, _, _, _, _, rfl, P', x, R1.mono q3, by rw [dn_ag P1.1.2.2.1 P1.1.2.1 A2 hx1, hd]; rfl⟩
  | ok z =>
    obtain ⟨p1, F, g⟩ := z
    rw [hx] at fr
    obtain ⟨v1, v2, v3, v4, v5⟩ := fo.2 p1 F g hx
    obtain ⟨w1, w2, w3, w4⟩ := v5
    obtain ⟨s, u', ki', le', ri', ma', bi', ro', ta', row', nu', e2, ⟨P', A2, q3, q4, q5⟩, q6, q7⟩ := fr
    have hold : dn ki' le' ri' ro' x = F0 := by rw [dn_ag P1.1.2.2.1 P1.1.2.1 A2 hx1, hd]
    rw [bd e2]
    dsimp only
    rw [bd (o_blanks N (by omega) hsz (by omega)), w1, ifb_t rfl]
    unfold f_X7_read_61
    by_cases c : p1 < sz
    · have er : sRead t sz = (Int32.ofNat p1, none) := by unfold sRead; rw [hx]; dsimp only; rw [if_pos c]
      rw [ifb_f (by rw [i_le _ _ (by omega) (by omega)]; omega), bd (o_fail N _ _)]
      dsimp only
      rw [ifb_f (by decide), er]
      exact ⟨u', _, _, _, _, _, _, _, _, _, _, _, _, _, _, _, _, rfl, P', x, R1.mono q3, hold⟩
    · have er : sRead t sz = (if g then (-2, none) else (-1, some F)) := by unfold sRead; rw [hx]; dsimp only; rw [if_neg c]
      rw [ifb_t (by rw [i_le _ _ (by omega) (by omega)]; omega), ifb_t rfl, er]
      cases g with
      | true =>
        rw [ifb_f (by decide)]
        exact ⟨u', _, _, _, _, _, _, _, _, _, _, _, _, _, _, _, _, rfl, P', x, R1.mono q3, hold⟩
      | false =>
        rw [ifb_t (by decide), show ix (0 : Int32) 2000 = ix (Int32.ofNat 0) 2000 from rfl, ix_n _ _ _ (by omega) (by omega)]
        exact ⟨u', _, _, _, _, _, _, _, _, _, _, _, _, _, _, _, _, rfl, P', s, (R1.mono q3).set (i := 0) q5, q7 rfl⟩
end RREAD
section EXT
variable {t t' : Nat → Int32} {sz : Nat}
theorem blf_ext (h : pk t sz = pk t' sz) : ∀ n p, blf t sz n p = blf t' sz n p
  | 0, p => rfl
  | n + 1, p => by unfold blf; rw [h, blf_ext h n (p + 1)]
theorem bls_ext (h : pk t sz = pk t' sz) : bls t sz = bls t' sz := funext fun p => blf_ext h _ _
theorem dg4_ext (h : pk t sz = pk t' sz) : ∀ n p v, dg4 t sz n p v = dg4 t' sz n p v
  | 0, p, v => rfl
  | n + 1, p, v => by unfold dg4; rw [h, dg4_ext h n]
theorem sUnd_ext (h : pk t sz = pk t' sz) : sUnd t sz = sUnd t' sz := funext fun p => by unfold sUnd; rw [h]
theorem sTail_ext (h : pk t sz = pk t' sz) (f : Int) (v b p : Nat) (c : Nat → Int) : sTail t sz f v b p c = sTail t' sz f v b p c := by unfold sTail; rw [h, bls_ext h]
theorem sItem_ext (h : pk t sz = pk t' sz) (f : Int) (p : Nat) (c : Nat → Int) : sItem t sz f p c = sItem t' sz f p c := by
  unfold sItem; rw [h, bls_ext h, sUnd_ext h, dg4_ext h]
  simp only [sTail_ext h]
theorem sSd_ext (h : pk t sz = pk t' sz) (m : Int) (last : Bool) : ∀ n f p c, sSd t sz m last n f p c = sSd t' sz m last n f p c
  | 0, f, p, c => rfl
  | n + 1, f, p, c => by unfold sSd; simp only [sItem_ext h, h, bls_ext h, sSd_ext h m last n]
theorem sSide_ext (h : pk t sz = pk t' sz) (m : Int) (last : Bool) (p : Nat) (c : Nat → Int) : sSide t sz m last p c = sSide t' sz m last p c := by unfold sSide; simp only [h, bls_ext h, sSd_ext h]
theorem sRel_ext (h : pk t sz = pk t' sz) (p : Nat) : sRel t sz p = sRel t' sz p := by unfold sRel; simp only [h, sSide_ext h]
theorem sLeaf_ext (h : pk t sz = pk t' sz) : sLeaf t sz = sLeaf t' sz := funext fun p => by unfold sLeaf; simp only [h, bls_ext h, sRel_ext h]
theorem sRow_ext (h : pk t sz = pk t' sz) (ch k : Int32) (U : Nat → PR) : ∀ n p F g, sRow t sz ch k U n p F g = sRow t' sz ch k U n p F g
  | 0, p, F, g => rfl
  | n + 1, p, F, g => by unfold sRow; simp only [h, bls_ext h, sRow_ext h ch k U n]
theorem sRows_ext (h : pk t sz = pk t' sz) (ch k : Int32) (U : Nat → PR) : sRows t sz ch k U = sRows t' sz ch k U := funext fun p => by unfold sRows; simp only [sRow_ext h]
theorem sArr_ext (h : pk t sz = pk t' sz) (A : Nat → PR) : ∀ n p, sArr t sz A n p = sArr t' sz A n p
  | 0, p => rfl
  | n + 1, p => by unfold sArr; simp only [h, sArr_ext h A n]
theorem sForm_ext (h : pk t sz = pk t' sz) (U : Nat → PR) : sForm t sz U = sForm t' sz U := funext fun p => by unfold sForm; rw [sRows_ext h, sRows_ext h, sArr_ext h]
theorem sU_ext (h : pk t sz = pk t' sz) : ∀ k, sU t sz k = sU t' sz k
  | 0 => funext fun p => by unfold sU; rw [h, bls_ext h, sLeaf_ext h]
  | k + 1 => funext fun p => by
    unfold sU
    rw [sU_ext h k, sForm_ext h, h, bls_ext h, sLeaf_ext h]
theorem sRead_ext (h : pk t sz = pk t' sz) : sRead t sz = sRead t' sz := by
  unfold sRead; rw [sU_ext h, sForm_ext h]
theorem pk_ext (h : ∀ i, i < sz → t i = t' i) : pk t sz = pk t' sz := funext fun p => by
  unfold pk
  by_cases c : p < sz
  · rw [if_pos c, if_pos c, h p c]
  · rw [if_neg c, if_neg c]
end EXT
