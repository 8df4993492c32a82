section CLX
variable {t : Nat → Int32} {sz : Nat}
theorem c_letterAt (N p : Nat) (hsz : sz ≤ 240) (hp : p ≤ 1000) : f_X2_letterAt N (Int32.ofNat sz) t (Int32.ofNat p) = some (pk t sz p) := by
  unfold f_X2_letterAt f_X2_letterAt_32 f_X2_letterAt_33
  rw [ifb_f (i_nn _ (by omega))]
  by_cases h : sz ≤ p
  · rw [ifb_t (by rw [i_le _ _ (by omega) (by omega)]; exact h), pk_out h]
  · rw [ifb_f (by rw [i_le _ _ (by omega) (by omega)]; exact h), ifb_f (by rw [show (240 : Int32) = Int32.ofNat 240 from rfl, i_le _ _ (by omega) (by omega)]; omega), ix_n _ _ _ (by omega) (by omega), i_cl _ (by omega)]
    unfold pk; rw [if_pos (by omega)]
theorem c_next_loop (N : Nat) (hsz : sz ≤ 240) : ∀ (d m p y : Nat), sz - p ≤ d → y + (sz - p) ≤ 240 → p ≤ 500 → f_X2_nextLetter_2 N (m + d + 1) (Int32.ofNat sz) (Int32.ofNat p) t (Int32.ofNat y) = some (pk t sz (bls t sz p), Int32.ofNat (bls t sz p))
  | 0, m, p, y, hd, hy, hp => by
    have h38 : ∀ q, q ≤ 1000 → f_X2_nextLetter_38 N (Int32.ofNat sz) (Int32.ofNat q) t = some (pk t sz q, Int32.ofNat q) := fun q hq => by
      unfold f_X2_nextLetter_38; rw [bd (c_letterAt N q hsz hq)]
    rw [bls_out (by omega), f_X2_nextLetter_2]; dsimp only
    by_cases c : 240 ≤ y
    · rw [ifb_t (by rw [show (240 : Int32) = Int32.ofNat 240 from rfl, i_le _ _ (by omega) (by omega)]; exact c)]
      exact h38 p (by omega)
    · rw [ifb_f (by rw [show (240 : Int32) = Int32.ofNat 240 from rfl, i_le _ _ (by omega) (by omega)]; exact c), bd (c_letterAt N p hsz (by omega)), ifb_f (by rw [pk_out (by omega)]; decide)]
      exact h38 p (by omega)
  | d + 1, m, p, y, hd, hy, hp => by
    have h38 : ∀ q, q ≤ 1000 → f_X2_nextLetter_38 N (Int32.ofNat sz) (Int32.ofNat q) t = some (pk t sz q, Int32.ofNat q) := fun q hq => by
      unfold f_X2_nextLetter_38; rw [bd (c_letterAt N q hsz hq)]
    rw [show m + (d + 1) + 1 = (m + d + 1) + 1 from by omega, f_X2_nextLetter_2]; dsimp only
    by_cases c : 240 ≤ y
    · rw [ifb_t (by rw [show (240 : Int32) = Int32.ofNat 240 from rfl, i_le _ _ (by omega) (by omega)]; exact c), bls_out (by omega)]
      exact h38 p (by omega)
    · rw [ifb_f (by rw [show (240 : Int32) = Int32.ofNat 240 from rfl, i_le _ _ (by omega) (by omega)]; exact c), bd (c_letterAt N p hsz (by omega))]
      by_cases c2 : pk t sz p = 32
      · have := pkk_in c2 (by decide)
        rw [ifb_t c2, i_p1, i_p1, bls_step c2]
        exact c_next_loop N hsz d m (p + 1) (y + 1) (by omega) (by omega) (by omega)
      · rw [ifb_f c2, bls_id c2]
        exact h38 p (by omega)
theorem c_next (N : Nat) (hN : 1000 ≤ N) (hsz : sz ≤ 240) {p : Nat} (hp : p ≤ 500) : f_X2_nextLetter N (Int32.ofNat sz) (Int32.ofNat p) t = some (pk t sz (bls t sz p), Int32.ofNat (bls t sz p)) := by
  unfold f_X2_nextLetter
  have := c_next_loop (t := t) N hsz 240 (N - 241) p 0 (by omega) (by omega) hp
  rw [show N - 241 + 240 + 1 = N from by omega] at this
  exact this
theorem c_var (N : Nat) (c : Int32) : f_X2_variableOf N c = some (if isV c then c - 97 else -1) := by
  unfold f_X2_variableOf f_X2_variableOf_19 f_X2_variableOf_20
  by_cases h1 : c < 97
  · rw [ifb_t h1, if_neg (fun g => by have := g.1; rw [Int32.lt_iff_toInt_lt] at h1; rw [Int32.le_iff_toInt_le] at this; omega)]
  · rw [ifb_f h1]
    by_cases h2 : 105 ≤ c
    · rw [ifb_t h2, if_neg (fun g => by
        have := g.2
        rw [Int32.le_iff_toInt_le] at h2 this
        rw [show (105 : Int32).toInt = 105 from rfl] at h2
        rw [show (104 : Int32).toInt = 104 from rfl] at this; omega)]
    · rw [ifb_f h2, if_pos]
      rw [Int32.lt_iff_toInt_lt, show (97 : Int32).toInt = 97 from rfl] at h1
      rw [Int32.le_iff_toInt_le, show (105 : Int32).toInt = 105 from rfl] at h2
      constructor
      · rw [Int32.le_iff_toInt_le, show (97 : Int32).toInt = 97 from rfl]; omega
      · rw [Int32.le_iff_toInt_le, show (104 : Int32).toInt = 104 from rfl]; omega
theorem c_dig (N : Nat) (c : Int32) : f_X2_digitOf N c = some (if isD c then c - 48 else -1) := by
  unfold f_X2_digitOf f_X2_digitOf_19 f_X2_digitOf_20
  by_cases h1 : c < 48
  · rw [ifb_t h1, if_neg (fun g => by have := g.1; rw [Int32.lt_iff_toInt_lt] at h1; rw [Int32.le_iff_toInt_le] at this; omega)]
  · rw [ifb_f h1]
    by_cases h2 : 57 < c
    · rw [ifb_t h2, if_neg (fun g => by
        have := g.2
        rw [Int32.lt_iff_toInt_lt] at h2
        rw [Int32.le_iff_toInt_le] at this; omega)]
    · rw [ifb_f h2, if_pos]
      rw [Int32.lt_iff_toInt_lt, show (48 : Int32).toInt = 48 from rfl] at h1
      rw [Int32.lt_iff_toInt_lt, show (57 : Int32).toInt = 57 from rfl] at h2
      constructor
      · rw [Int32.le_iff_toInt_le, show (48 : Int32).toInt = 48 from rfl]; omega
      · rw [Int32.le_iff_toInt_le, show (57 : Int32).toInt = 57 from rfl]; omega
theorem dig_val {c : Int32} (h : isD c) : c - 48 = Int32.ofNat (dvl c) ∧ dvl c ≤ 9 := by
  obtain ⟨d, hd, rfl⟩ := isD_n h
  rw [dvl_n d hd, show (48 : Int32) = Int32.ofNat 48 from rfl, i_sub _ _ (by omega)]
  exact ⟨by congr 1; omega, hd⟩
theorem var_val {c : Int32} (h : isV c) : c - 97 = Int32.ofNat (vvl c) ∧ vvl c < 8 := by
  obtain ⟨d, hd, rfl⟩ := isV_n h
  rw [vvl_n d hd, show (97 : Int32) = Int32.ofNat 97 from rfl, i_sub _ _ (by omega)]
  exact ⟨by congr 1; omega, hd⟩
theorem ne_m1 (n : Nat) (h : n < 2147483648) : ¬ (Int32.ofNat n = -1) := by
  intro g
  have := congrArg Int32.toInt g
  rw [i_toInt _ h, show (-1 : Int32).toInt = -1 from rfl] at this; omega
theorem c_whole_loop (N : Nat) (hsz : sz ≤ 240) : ∀ (d m p y v : Nat), y + d = 4 → p ≤ 500 → f_X2_wholeNumber_4 N (m + d + 1) (Int32.ofNat sz) (Int32.ofNat p) t (Int32.ofNat v) (Int32.ofNat y) = some (Int32.ofNat (dg4 t sz d p v).1, Int32.ofNat (dg4 t sz d p v).2)
  | 0, m, p, y, v, hd, hp => by
    have : y = 4 := by omega
    subst this
    rw [f_X2_wholeNumber_4]; dsimp only
    rw [ifb_t (by decide)]; rfl
  | d + 1, m, p, y, v, hd, hp => by
    rw [show m + (d + 1) + 1 = (m + d + 1) + 1 from by omega, f_X2_wholeNumber_4]; dsimp only
    rw [ifb_f (by rw [show (4 : Int32) = Int32.ofNat 4 from rfl, i_le _ _ (by omega) (by omega)]; omega), bd (c_letterAt N p hsz (by omega)), bd (c_dig N _)]
    rw [show dg4 t sz (d + 1) p v = if isD (pk t sz p) then dg4 t sz d (p + 1) (10 * v + dvl (pk t sz p)) else (v, p) from rfl]
    by_cases c : isD (pk t sz p)
    · obtain ⟨e1, e2⟩ := dig_val c
      have hin := D_in c
      rw [if_pos c, if_pos c, e1, ifb_f (ne_m1 _ (by omega)), i_p1, i_p1, show (10 : Int32) * Int32.ofNat v = Int32.ofNat (10 * v) from i_mul 10 v, i_add]
      exact c_whole_loop N hsz d m (p + 1) (y + 1) _ (by omega) (by omega)
    · rw [if_neg c, if_neg c, ifb_t rfl]; rfl
theorem c_whole (N : Nat) (hN : 1000 ≤ N) (hsz : sz ≤ 240) {p : Nat} (hp : p ≤ 500) : f_X2_wholeNumber N (Int32.ofNat sz) (Int32.ofNat p) t = some (Int32.ofNat (dg4 t sz 4 p 0).1, Int32.ofNat (dg4 t sz 4 p 0).2) := by
  unfold f_X2_wholeNumber
  have := c_whole_loop (t := t) N hsz 4 (N - 5) p 0 0 rfl hp
  rw [show N - 5 + 4 + 1 = N from by omega] at this
  exact this
theorem c_below (N : Nat) (hN : 1000 ≤ N) (hsz : sz ≤ 240) {p : Nat} (hp : p ≤ sz) (h47 : pk t sz p = 47) : f_X2_numberBelow N (Int32.ofNat sz) (Int32.ofNat p) t = (match sUnd t sz p with
    | .error e => some (-1, Int32.ofNat e)
    | .ok (b, p3) => some (Int32.ofNat b, Int32.ofNat p3)) := by
  have hlt := pkk_in h47 (by decide)
  unfold f_X2_numberBelow f_X2_numberBelow_80 sUnd
  rw [i_p1, bd (c_letterAt N (p + 1) hsz (by omega)), bd (c_dig N _), if_pos h47, i_p1]
  by_cases c : isD (pk t sz (p + 1))
  · obtain ⟨e1, e2⟩ := dig_val c
    have h2 := D_in c
    rw [if_pos c, e1]
    by_cases c48 : pk t sz (p + 1) = 48
    · have h0 : dvl (pk t sz (p + 1)) = 0 := by rw [c48]; rfl
      rw [if_neg (fun g => g.2 c48), h0, ifb_f (by decide)]
    · rw [if_pos ⟨c, c48⟩]
      have hd1 : 1 ≤ dvl (pk t sz (p + 1)) := by
        obtain ⟨d, hd, ed⟩ := isD_n c
        rw [ed, dvl_n d hd]
        have : d ≠ 0 := fun e0 => c48 (by rw [ed, e0]; rfl)
        omega
      rw [ifb_t (by rw [show (1 : Int32) = Int32.ofNat 1 from rfl, i_le _ _ (by omega) (by omega)]; exact hd1), bd (c_letterAt N (p + 1 + 1) hsz (by omega)), bd (c_dig N _)]
      have h49 : pk t sz (p + 1) = 49 ↔ dvl (pk t sz (p + 1)) = 1 := by
        obtain ⟨d, hd, ed⟩ := isD_n c
        rw [ed, dvl_n d hd, show (49 : Int32) = Int32.ofNat 49 from rfl, i_eq _ _ (by omega) (by omega)]; omega
      by_cases c1 : dvl (pk t sz (p + 1)) = 1
      · rw [ifb_t (by rw [c1]; rfl)]
        by_cases c2 : isD (pk t sz (p + 1 + 1))
        · obtain ⟨e3, e4⟩ := dig_val c2
          have h3 := D_in c2
          rw [if_pos c2, e3, ifb_f (i_nn _ (by omega))]
          have h50 : (48 ≤ pk t sz (p + 1 + 1) ∧ pk t sz (p + 1 + 1) ≤ 50) ↔ dvl (pk t sz (p + 1 + 1)) ≤ 2 := by
            obtain ⟨d, hd, ed⟩ := isD_n c2
            rw [ed, dvl_n d hd, show (48 : Int32) = Int32.ofNat 48 from rfl, show (50 : Int32) = Int32.ofNat 50 from rfl, i_le _ _ (by omega) (by omega), i_le _ _ (by omega) (by omega)]; omega
          by_cases c3 : dvl (pk t sz (p + 1 + 1)) ≤ 2
          · rw [ifb_f (by rw [show (2 : Int32) = Int32.ofNat 2 from rfl, i_lt _ _ (by omega) (by omega)]; omega), if_pos ⟨h49.mpr c1, h50.mpr c3⟩, i_p1, show (10 : Int32) = Int32.ofNat 10 from rfl, i_add]
          · rw [ifb_t (by rw [show (2 : Int32) = Int32.ofNat 2 from rfl, i_lt _ _ (by omega) (by omega)]; omega), if_neg (fun g => c3 (h50.mp g.2))]
        · rw [if_neg c2, ifb_t (by decide), if_neg (fun g => c2 ⟨g.2.1, by
            have : pk t sz (p + 1 + 1) ≤ 50 := g.2.2
            rw [Int32.le_iff_toInt_le] at this ⊢
            rw [show (50 : Int32).toInt = 50 from rfl] at this
            rw [show (57 : Int32).toInt = 57 from rfl]; omega⟩)]
      · rw [ifb_f (by rw [show (1 : Int32) = Int32.ofNat 1 from rfl, i_eq _ _ (by omega) (by omega)]; exact c1), if_neg (fun g => c1 (h49.mp g.1))]
  · rw [if_neg c, ifb_f (by decide), if_neg (fun g => c g.1)]
end CLX
def SmP (nu : Nat → Int64) (c : Nat → Int) (p : Nat) : Prop := (∀ j, j < 9 → (nu j).toInt = c j) ∧ CB c p
theorem bd' {α β : Type} {o o2 : Option α} {k : α → Option β} (h : o = o2) : o.bind k = o2.bind k := by rw [h]
section CIT
variable {t : Nat → Int32} {sz : Nat}
theorem sum_add {nu : Nat → Int64} {c : Nat → Int} {p p' j : Nat} (S : SmP nu c p) (hp : p ≤ 1000) (hp' : p < p') {x : Int64} {a : Int} (hx : x.toInt = a) (h1 : -277172280 ≤ a) (h2 : a ≤ 277172280) : SmP (vp_updL nu j (nu j + x)) (addc c j a) p' := by
  refine ⟨fun i hi => ?_, S.2.add hp' h1 h2⟩
  unfold addc
  by_cases e : i = j
  · subst e
    rw [updL_at, if_pos rfl]
    have := S.2 i
    exact L_add _ _ _ _ (S.1 i hi) hx (by omega) (by omega)
  · rw [updL_ne _ _ _ _ e, if_neg e]; exact S.1 i hi
theorem val64 {x1 : Int32} {f : Int} (hx : x1.toInt = f) (hf : f = 1 ∨ f = -1) {v b : Nat} (hv : v ≤ 9999) (hb : 1 ≤ b) (hb2 : b ≤ 12) : ((x1.toInt64 * (Int32.ofNat v).toInt64) * ((27720 / Int32.ofNat b : Int32).toInt64)).toInt = f * v * (27720 / b : Nat) := by
  have hd : (27720 : Int32) / Int32.ofNat b = Int32.ofNat (27720 / b) := i_div 27720 b (by omega) (by omega) (by omega)
  have h1 : 27720 / b ≤ 27720 := Nat.div_le_self _ _
  have hbd := num_bd hf hv hb
  rw [hd]
  have e1 := L_mul x1.toInt64 (Int32.ofNat v).toInt64 f v (by rw [Int32.toInt_toInt64, hx]) (by rw [Int32.toInt_toInt64, i_toInt _ (by omega)]) (by rcases hf with rfl | rfl <;> omega) (by rcases hf with rfl | rfl <;> omega)
  exact L_mul _ _ _ _ e1 (by rw [Int32.toInt_toInt64, i_toInt _ (by omega)]) (by omega) (by omega)
theorem c_item (N : Nat) (hN : 1000 ≤ N) (hsz : sz ≤ 240) {p : Nat} (hp : p ≤ sz) {x1 : Int32} {f : Int} (hx : x1.toInt = f) (hf : f = 1 ∨ f = -1) {nu : Nat → Int64} {c : Nat → Int} (S : SmP nu c p) : match sItem t sz f p c with
    | .ok (p', c') => ∃ nu', f_X2_item N (Int32.ofNat sz) (Int32.ofNat p) t nu x1 = some (1, Int32.ofNat p', nu') ∧ SmP nu' c' p'
    | .error e => (∃ nu', f_X2_item N (Int32.ofNat sz) (Int32.ofNat p) t nu x1 = some (0, Int32.ofNat e, nu')) ∨ (isD (pk t sz e) ∧ ∃ nu' c', f_X2_item N (Int32.ofNat sz) (Int32.ofNat p) t nu x1 = some (1, Int32.ofNat e, nu') ∧ SmP nu' c' e) := by
  have hbl := bls_le (t := t) (sz := sz) p hp
  unfold f_X2_item sItem
  rw [bd (c_next N hN hsz (by omega))]
  dsimp only
  rw [bd (c_var N _)]
  by_cases c1 : isV (pk t sz (bls t sz p))
  · obtain ⟨e1, e2⟩ := var_val c1
    have := V_in c1
    rw [if_pos c1, if_pos c1, e1, ifb_f (ne_m1 _ (by omega)), bd (t_sadd N nu _ (by omega) _), i_p1]
    refine ⟨_, rfl, sum_add S (by omega) (by omega) ?_ ?_ ?_⟩
    · exact L_mul _ _ f 27720 (by rw [Int32.toInt_toInt64, hx]) rfl (by rcases hf with rfl | rfl <;> omega) (by rcases hf with rfl | rfl <;> omega)
    · rcases hf with rfl | rfl <;> omega
    · rcases hf with rfl | rfl <;> omega
  · rw [if_neg c1, if_neg c1, ifb_t rfl, bd (c_dig N _)]
    by_cases c2 : isD (pk t sz (bls t sz p))
    · obtain ⟨e1, e2⟩ := dig_val c2
      have hlt := D_in c2
      have hdg := dg4_ok (t := t) (sz := sz) 4 (bls t sz p) 0 (by omega)
      have hdp := dg4_pos c2
      have hv : (dg4 t sz 4 (bls t sz p) 0).1 ≤ 9999 := by have := hdg.2.2; omega
      rw [if_pos c2, if_pos c2, e1, ifb_f (ne_m1 _ (by omega)), bd (c_whole N hN hsz (by omega))]
      dsimp only
      rw [bd (c_letterAt N _ hsz (by omega))]
      generalize hvv : (dg4 t sz 4 (bls t sz p) 0).1 = v at *
      generalize hp2 : (dg4 t sz 4 (bls t sz p) 0).2 = p2 at *
      have hu := sUnd_ok (t := t) hdg.2.1

      have tail : ∀ b p3, 1 ≤ b → b ≤ 12 → p2 ≤ p3 → p3 ≤ sz → match sTail t sz f v b p3 c with
          | .ok (p', c') => ∃ nu', f_X2_item_78 N (Int32.ofNat sz) (Int32.ofNat p3) t nu x1 (Int32.ofNat v) (Int32.ofNat b) = some (1, Int32.ofNat p', nu') ∧ SmP nu' c' p'
          | .error e => (∃ nu', f_X2_item_78 N (Int32.ofNat sz) (Int32.ofNat p3) t nu x1 (Int32.ofNat v) (Int32.ofNat b) = some (0, Int32.ofNat e, nu')) ∨ (isD (pk t sz e) ∧ ∃ nu' c', f_X2_item_78 N (Int32.ofNat sz) (Int32.ofNat p3) t nu x1 (Int32.ofNat v) (Int32.ofNat b) = some (1, Int32.ofNat e, nu') ∧ SmP nu' c' e) := by
        intro b p3 hb1 hb2 h23 h3
        have hbd := num_bd hf hv hb1
        have hval := val64 hx hf hv hb1 hb2
        have hb3 := bls_le (t := t) (sz := sz) p3 h3
        unfold f_X2_item_78 f_X2_item_111 f_X2_item_126 sTail
        have hb0 : ¬ (Int32.ofNat b = 0) := by rw [show (0 : Int32) = Int32.ofNat 0 from rfl, i_eq _ _ (by omega) (by omega)]; omega
        rw [ifb_t (by rw [show (1 : Int32) = Int32.ofNat 1 from rfl, i_le _ _ (by omega) (by omega)]; exact hb1), bd (c_next N hN hsz (by omega))]
        dsimp only
        rw [bd (c_var N _)]
        by_cases d1 : isD (pk t sz p3)
        · have h32 : pk t sz p3 ≠ 32 := fun g => by rw [g] at d1; exact absurd d1 (by decide)
          rw [if_pos d1, bls_id h32, if_neg (D_not_V d1), ifb_t rfl, ifb_t rfl, ckp_t hb0, show (8 : Int32) = Int32.ofNat 8 from rfl, bd (t_sadd N nu _ (by omega) _)]
          exact Or.inr ⟨d1, _, _, rfl, sum_add S (by omega) (by omega) hval hbd.1 hbd.2⟩
        · rw [if_neg d1]
          by_cases d2 : isV (pk t sz (bls t sz p3))
          · obtain ⟨e3, e4⟩ := var_val d2
            have := V_in d2
            rw [if_pos d2, if_pos d2, e3, ifb_f (ne_m1 _ (by omega)), ifb_f (ne_m1 _ (by omega)), ckp_t hb0, bd (t_sadd N nu _ (by omega) _), i_p1]
            exact ⟨_, rfl, sum_add S (by omega) (by omega) hval hbd.1 hbd.2⟩
          · rw [if_neg d2, if_neg d2, ifb_t rfl, ifb_t rfl, ckp_t hb0, show (8 : Int32) = Int32.ofNat 8 from rfl, bd (t_sadd N nu _ (by omega) _)]
            exact ⟨_, rfl, sum_add S (by omega) (by omega) hval hbd.1 hbd.2⟩
      by_cases c47 : pk t sz p2 = 47
      · rw [ifb_t c47, bd' (c_below N hN hsz hdg.2.1 c47)]
        cases hx' : sUnd t sz p2 with
        | error e =>
          left
          dsimp only
          rw [Option.bind_some]
          unfold f_X2_item_78
          rw [ifb_f (show ¬ ((1 : Int32) ≤ -1) by decide)]
          exact ⟨_, rfl⟩
        | ok y =>
          obtain ⟨b, p3⟩ := y
          obtain ⟨u1, u2, u3, u4⟩ := hu.2 b p3 hx'
          dsimp only
          rw [Option.bind_some]
          exact tail b p3 u3 u4 u1 u2
      · rw [ifb_f c47]
        have hx' : sUnd t sz p2 = .ok (1, p2) := by unfold sUnd; rw [if_neg c47]
        rw [hx']
        exact tail 1 p2 (by omega) (by omega) (by omega) hdg.2.1
    · rw [if_neg c2, if_neg c2, ifb_t rfl]
      exact Or.inl ⟨_, rfl⟩
def CSd (t : Nat → Int32) (sz : Nat) (o : Option (Int32 × Int32 × (Nat → Int64))) (r : Except Nat (Nat × (Nat → Int))) : Prop := match r with
    | .ok (p', c') => ∃ nu', o = some (1, Int32.ofNat p', nu') ∧ SmP nu' c' p'
    | .error e => (∃ nu', o = some (0, Int32.ofNat e, nu')) ∨ (isD (pk t sz e) ∧ ∃ nu' c', o = some (1, Int32.ofNat e, nu') ∧ SmP nu' c' e)
theorem neg1 {x : Int32} (h : x.toInt = 1 ∨ x.toInt = -1) : (-x).toInt = -x.toInt := by
  rcases h with h | h
  · have : x = 1 := Int32.toInt_inj.mp h
    subst this; rfl
  · have : x = -1 := Int32.toInt_inj.mp h
    subst this; rfl
theorem c_sd (N : Nat) (hN : 1000 ≤ N) (hsz : sz ≤ 240) {xs : Int32} (hxs : xs.toInt = 1 ∨ xs.toInt = -1) {last : Bool} (hl : last = true ↔ xs.toInt = -1) : ∀ (n m p y : Nat) (x1 : Int32) (nu : Nat → Int64) (c : Nat → Int), (x1.toInt = 1 ∨ x1.toInt = -1) → p ≤ sz → sz < p + n → y ≤ p → SmP nu c p → CSd t sz (f_X2_side_26 N (m + n) (Int32.ofNat sz) (Int32.ofNat p) t nu xs x1 (Int32.ofNat y)) (sSd t sz xs.toInt last n x1.toInt p c)
  | 0, m, p, y, x1, nu, c, hx, hp, hn, hy, S => by omega
  | n + 1, m, p, y, x1, nu, c, hx, hp, hn, hy, S => by
    have hit := c_item (t := t) N hN hsz hp rfl hx S
    have hok := (sItem_ok (t := t) hx hp S.2)
    rw [show m + (n + 1) = (m + n) + 1 from by omega, f_X2_side_26]; dsimp only
    rw [ifb_f (by rw [show (240 : Int32) = Int32.ofNat 240 from rfl, i_lt _ _ (by omega) (by omega)]; omega)]
    unfold sSd
    cases hr : sItem t sz x1.toInt p c with
    | error e =>
      rw [hr] at hit
      have he := hok.1 e hr
      rcases hit with ⟨nu', e1⟩ | ⟨hD, nu', c', e1, S'⟩
      · rw [bd e1]; dsimp only
        rw [ifb_t rfl]
        exact Or.inl ⟨_, rfl⟩
      · rw [bd e1]; dsimp only
        have h32 : pk t sz e ≠ 32 := fun g => by rw [g] at hD; exact absurd hD (by decide)
        have h43 : ¬ (pk t sz e = 43) := fun g => by rw [g] at hD; exact absurd hD (by decide)
        have h45 : ¬ (pk t sz e = 45) := fun g => by rw [g] at hD; exact absurd hD (by decide)
        rw [ifb_f (by decide), bd (c_next N hN hsz (by omega)), bls_id h32]
        dsimp only
        have e73 : ∀ s0, f_X2_side_73 (f_X2_side_26 N (m + n)) N (Int32.ofNat sz) (Int32.ofNat e) t nu' xs (Int32.ofNat y) (pk t sz e) s0 = some (1, Int32.ofNat e, nu') := fun s0 => by
          unfold f_X2_side_73 f_X2_side_94
          rw [ifb_f h43, ifb_f h45]
        unfold f_X2_side_72
        by_cases c0 : 0 ≤ xs
        · rw [ifb_t c0, e73]
          exact Or.inr ⟨hD, _, _, rfl, S'⟩
        · rw [ifb_f c0, i_p1, bd (c_letterAt N (e + 1) hsz (by omega))]
          by_cases c6 : pk t sz (e + 1) = 62
          · rw [ifb_t c6, e73]
            exact Or.inr ⟨hD, _, _, rfl, S'⟩
          · rw [ifb_f c6, e73]
            exact Or.inr ⟨hD, _, _, rfl, S'⟩
    | ok z =>
      obtain ⟨p1, c1⟩ := z
      rw [hr] at hit
      obtain ⟨nu', e1, S'⟩ := hit
      obtain ⟨a1, a2, a3⟩ := hok.2 p1 c1 hr
      have hbl := bls_le (t := t) (sz := sz) p1 a2
      have S2 : ∀ q, p1 ≤ q → SmP nu' c1 q := fun q hq => ⟨S'.1, a3.mono hq⟩
      rw [bd e1]; dsimp only
      rw [ifb_f (by decide), bd (c_next N hN hsz (by omega))]
      dsimp only

      have hneg := neg1 hxs
      have go : ∀ x2 : Int32, (x2.toInt = 1 ∨ x2.toInt = -1) → bls t sz p1 < sz → CSd t sz (f_X2_side_109 (f_X2_side_26 N (m + n)) N (Int32.ofNat sz) (Int32.ofNat (bls t sz p1)) t nu' xs (Int32.ofNat y) x2) (sSd t sz xs.toInt last n x2.toInt (bls t sz p1 + 1) c1) := by
        intro x2 hx2 hlt
        unfold f_X2_side_109
        rw [i_p1, i_p1]
        exact c_sd N hN hsz hxs hl n m (bls t sz p1 + 1) (y + 1) x2 nu' c1 hx2 (by omega) (by omega) (by omega) (S2 _ (by omega))
      have fin : ∀ s0 : Int32, (s0 = 0 ∨ s0 = 1) → (s0 = 1 ↔ (last = true ∧ pk t sz (bls t sz p1 + 1) = 62)) → CSd t sz (f_X2_side_73 (f_X2_side_26 N (m + n)) N (Int32.ofNat sz) (Int32.ofNat (bls t sz p1)) t nu' xs (Int32.ofNat y) (pk t sz (bls t sz p1)) s0) (if pk t sz (bls t sz p1) = 43 then sSd t sz xs.toInt last n xs.toInt (bls t sz p1 + 1) c1 else if pk t sz (bls t sz p1) = 45 ∧ ¬ (last = true ∧ pk t sz (bls t sz p1 + 1) = 62) then sSd t sz xs.toInt last n (-xs.toInt) (bls t sz p1 + 1) c1 else .ok (bls t sz p1, c1)) := by
        intro s0 hs0 hs1
        unfold f_X2_side_73 f_X2_side_96 f_X2_side_94
        by_cases d1 : pk t sz (bls t sz p1) = 43
        · rw [ifb_t d1, ifb_t d1, if_pos d1]
          exact go xs hxs (pkk_in d1 (by decide))
        · rw [ifb_f d1, if_neg d1]
          by_cases d2 : pk t sz (bls t sz p1) = 45
          · rw [ifb_t d2]
            by_cases d3 : s0 = 0
            · rw [ifb_t d3, if_pos ⟨d2, fun g => by have := hs1.mpr g; rw [d3] at this; exact absurd this (by decide)⟩, ifb_f d1, ← hneg]
              exact go (-xs) (by rw [hneg]; rcases hxs with h | h <;> rw [h]; exact Or.inr rfl; exact Or.inl rfl) (pkk_in d2 (by decide))
            · rw [ifb_f d3, if_neg (fun g => g.2 (hs1.mp (hs0.resolve_left d3)))]
              exact ⟨_, rfl, S2 _ (by omega)⟩
          · rw [ifb_f d2, if_neg (fun g => d2 g.1)]
            exact ⟨_, rfl, S2 _ (by omega)⟩
      unfold f_X2_side_72
      have hxle : (0 ≤ xs) ↔ ¬ (last = true) := by
        rw [hl, Int32.le_iff_toInt_le, show (0 : Int32).toInt = 0 from rfl]
        rcases hxs with h | h <;> rw [h] <;> decide
      by_cases c0 : 0 ≤ xs
      · rw [ifb_t c0]
        exact fin 0 (Or.inl rfl) ⟨fun g => absurd g (by decide), fun g => absurd g.1 (hxle.mp c0)⟩
      · have hlt : last = true := by
          cases last with
          | true => rfl
          | false => exact absurd (hxle.mpr (by decide)) c0
        rw [ifb_f c0, i_p1, bd (c_letterAt N _ hsz (by omega))]
        by_cases c6 : pk t sz (bls t sz p1 + 1) = 62
        · rw [ifb_t c6]
          exact fin 1 (Or.inr rfl) ⟨fun _ => ⟨hlt, c6⟩, fun _ => rfl⟩
        · rw [ifb_f c6]
          exact fin 0 (Or.inl rfl) ⟨fun g => absurd g (by decide), fun g => absurd g.2 c6⟩
theorem c_side (N : Nat) (hN : 1000 ≤ N) (hsz : sz ≤ 240) {xs : Int32} (hxs : xs.toInt = 1 ∨ xs.toInt = -1) {last : Bool} (hl : last = true ↔ xs.toInt = -1) {p : Nat} (hp : p ≤ sz) {nu : Nat → Int64} {c : Nat → Int} (S : SmP nu c p) : CSd t sz (f_X2_side N (Int32.ofNat sz) (Int32.ofNat p) t nu xs) (sSide t sz xs.toInt last p c) := by
  have hbl := bls_le (t := t) (sz := sz) p hp
  have hneg := neg1 hxs
  have S2 : ∀ q, p ≤ q → SmP nu c q := fun q hq => ⟨S.1, S.2.mono hq⟩
  unfold f_X2_side f_X2_side_24 sSide
  rw [bd (c_next N hN hsz (by omega))]
  dsimp only
  by_cases h : pk t sz (bls t sz p) = 45
  · have := pkk_in h (by decide)
    rw [ifb_t h, if_pos h, i_p1]
    have h2 := c_sd (t := t) N hN hsz hxs hl 241 (N - 241) (bls t sz p + 1) 0 (-xs) nu c (by rw [hneg]; rcases hxs with h | h <;> rw [h]; exact Or.inr rfl; exact Or.inl rfl) (by omega) (by omega) (by omega) (S2 _ (by omega))
    rw [show N - 241 + 241 = N from by omega, hneg] at h2
    exact h2
  · rw [ifb_f h, if_neg h]
    have h2 := c_sd (t := t) N hN hsz hxs hl 241 (N - 241) (bls t sz p) 0 xs nu c hxs (by omega) (by omega) (by omega) (S2 _ (by omega))
    rw [show N - 241 + 241 = N from by omega] at h2
    exact h2
end CIT
def b2i (b : Bool) : Int32 := if b then 1 else 0
theorem b2i_or (a b : Bool) : b2i a ||| b2i b = b2i (a || b) := by cases a <;> cases b <;> decide
theorem b2i_or1 (a : Bool) : b2i a ||| 1 = b2i (a || true) := by cases a <;> decide
theorem b2i_or0 (a : Bool) : b2i a ||| 0 = b2i (a || false) := by cases a <;> decide
theorem b2i_01 (a : Bool) : b2i a = 0 ∨ b2i a = 1 := by cases a <;> decide
theorem SmP.sm {nu : Nat → Int64} {c : Nat → Int} {p : Nat} (S : SmP nu c p) (hp : p ≤ 1000) : Sm nu c := fun j hj => by
  have := S.2 j
  exact ⟨S.1 j hj, by omega, by omega⟩
section CPL
variable {t : Nat → Int32} {sz : Nat} {pa ro : Int32} {ce : Nat → Int32} {n : Nat} {sa lo : Nat → Int32} {st : List (List (List Int32))}
theorem c_pushAtom (N : Nat) (hN : 1000 ≤ N) (B : Be pa ro ce n sa lo st) (h : st.length < 402) (hr : 10 * st.flatten.length + 10 ≤ n) {nu : Nat → Int64} {c : Nat → Int} (S : Sm nu c) {k : Int32} (hk : k = 2 ∨ k = 3 ∨ k = 4 ∨ k = 5) (G : Bool) : ∃ pa' ro' ce' sa' lo' nu', f_X2_pushAtom N (b2i G) pa ro ce n sa lo nu k = some (b2i (G || (stl k c).isNone), pa', ro', ce', sa', lo', nu') ∧ Be pa' ro' ce' n sa' lo' (st ++ [[(stl k c).getD (row0 0)]]) := by
  obtain ⟨kk, nu', e, hh⟩ := t_settle S N (by omega) hk
  unfold f_X2_pushAtom f_X2_pushAtom_25 f_X2_pushAtom_48
  rw [bd e]
  dsimp only
  rcases hh with ⟨hn, rfl⟩ | ⟨r, hs, rfl, hS⟩
  · rw [ifb_t rfl, ifb_t rfl, b2i_or1, ckp_t (b2i_01 _)]
    obtain ⟨pa', ro', ce', sa', lo', e2, B2⟩ := b_pushSettled B N (by omega) h hr (r := row0 0) (Or.inl rfl) (nu := nu') (fun g => absurd g (by decide))
    rw [show kd (row0 0) = 0 from rfl] at e2
    rw [bd e2, hn]
    exact ⟨_, _, _, _, _, _, rfl, B2⟩
  · have hl := (stl_leaf hk hs).1
    have hne : ¬ (kd r = -2) := by
      rcases hl with rfl | rfl | A
      · decide
      · decide
      · rcases A.2.1 with g | g | g | g <;> rw [g] <;> decide
    rw [ifb_f hne, ifb_f hne, b2i_or0, ckp_t (b2i_01 _)]
    obtain ⟨pa', ro', ce', sa', lo', e2, B2⟩ := b_pushSettled B N (by omega) h hr hl hS
    rw [bd e2, hs]
    exact ⟨_, _, _, _, _, _, rfl, B2⟩
def CPl (t : Nat → Int32) (sz n : Nat) (G : Bool) (st : List (List (List Int32))) (o : Option (Int32 × Int32 × Int32 × Int32 × Int32 × (Nat → Int32) × (Nat → Int32) × (Nat → Int32) × (Nat → Int64))) (r : PR) : Prop := match r with
  | .ok (p', F, g) => ∃ pa' ro' ce' sa' lo' nu', o = some (1, Int32.ofNat p', b2i (G || g), pa', ro', ce', sa', lo', nu') ∧ Be pa' ro' ce' n sa' lo' (st ++ [F])
  | .error e => ∃ G' pa' ro' ce' sa' lo' nu', (o = some (0, Int32.ofNat e, b2i G', pa', ro', ce', sa', lo', nu') ∧ ∃ st', Be pa' ro' ce' n sa' lo' st') ∨ (isD (pk t sz e) ∧ o = some (1, Int32.ofNat e, b2i G', pa', ro', ce', sa', lo', nu') ∧ ∃ F, F.length = 1 ∧ Be pa' ro' ce' n sa' lo' (st ++ [F]))
theorem c_atom95 (N : Nat) (hN : 1000 ≤ N) (hsz : sz ≤ 240) (B : Be pa ro ce n sa lo st) (h : st.length < 402) (hr : 10 * st.flatten.length + 10 ≤ n) (G : Bool) {q : Nat} (hq : q ≤ sz) {nu : Nat → Int64} {c : Nat → Int} (S : SmP nu c q) (y1 y2 : Int32) (k : Int32) (hk : k = if y1 = 61 then 2 else if y1 = 33 then 3 else if y2 = 0 then 4 else 5) : CPl t sz n G st (f_X2_atom_109 N (Int32.ofNat sz) (Int32.ofNat q) (b2i G) t pa ro ce n sa lo nu y1 y2) (match sSide t sz (-1) true q c with
    | .error e => .error e
    | .ok (p2, c2) => match stl k (if y1 = 62 then (fun j => - c2 j) else c2) with
      | some r => .ok (p2, [r], false)
      | none => .ok (p2, fT, true)) := by
  have hk4 : k = 2 ∨ k = 3 ∨ k = 4 ∨ k = 5 := by
    rw [hk]; split
    · exact Or.inl rfl
    · split
      · exact Or.inr (Or.inl rfl)
      · split
        · exact Or.inr (Or.inr (Or.inl rfl))
        · exact Or.inr (Or.inr (Or.inr rfl))
  have hs := c_side (t := t) N hN hsz (xs := -1) (Or.inr rfl) (last := true) ⟨fun _ => rfl, fun _ => rfl⟩ hq S
  rw [show (-1 : Int32).toInt = -1 from rfl] at hs
  have hok := sSide_ok (t := t) (last := true) hsz (Or.inr rfl) hq S.2

  have push : ∀ (p2 : Nat) (nu2 : Nat → Int64) (c2 : Nat → Int), p2 ≤ sz → SmP nu2 c2 p2 → ∃ pa' ro' ce' sa' lo' nu', ifb (y1 = 62) ((f_X4_turn N nu2).bind (fun z129 => f_X2_atom_132 N (Int32.ofNat sz) (Int32.ofNat p2) (b2i G) t pa ro ce n sa lo z129 y1 y2)) (f_X2_atom_132 N (Int32.ofNat sz) (Int32.ofNat p2) (b2i G) t pa ro ce n sa lo nu2 y1 y2) = some (1, Int32.ofNat p2, b2i (G || (stl k (if y1 = 62 then (fun j => - c2 j) else c2)).isNone), pa', ro', ce', sa', lo', nu') ∧ Be pa' ro' ce' n sa' lo' (st ++ [[(stl k (if y1 = 62 then (fun j => - c2 j) else c2)).getD (row0 0)]]) := by
    intro p2 nu2 c2 hp2 S2
    have fin : ∀ nu3 c3, Sm nu3 c3 → ∃ pa' ro' ce' sa' lo' nu', f_X2_atom_132 N (Int32.ofNat sz) (Int32.ofNat p2) (b2i G) t pa ro ce n sa lo nu3 y1 y2 = some (1, Int32.ofNat p2, b2i (G || (stl k c3).isNone), pa', ro', ce', sa', lo', nu') ∧ Be pa' ro' ce' n sa' lo' (st ++ [[(stl k c3).getD (row0 0)]]) := by
      intro nu3 c3 S3
      obtain ⟨pa', ro', ce', sa', lo', nu', e, B'⟩ := c_pushAtom N hN B h hr S3 hk4 G
      unfold f_X2_atom_132 f_X2_atom_162
      by_cases d1 : y1 = 61
      · rw [if_pos d1] at hk; subst hk
        rw [ifb_t d1, bd e]; exact ⟨_, _, _, _, _, _, rfl, B'⟩
      · rw [if_neg d1] at hk
        rw [ifb_f d1]
        by_cases d2 : y1 = 33
        · rw [if_pos d2] at hk; subst hk
          rw [ifb_t d2, bd e]; exact ⟨_, _, _, _, _, _, rfl, B'⟩
        · rw [if_neg d2] at hk
          rw [ifb_f d2]
          by_cases d3 : y2 = 0
          · rw [if_pos d3] at hk; subst hk
            rw [ifb_t d3, bd e]; exact ⟨_, _, _, _, _, _, rfl, B'⟩
          · rw [if_neg d3] at hk; subst hk
            rw [ifb_f d3, bd e]; exact ⟨_, _, _, _, _, _, rfl, B'⟩
    by_cases d : y1 = 62
    · obtain ⟨nu3, e3, S3⟩ := t_turn (S2.sm (by omega)) N (by omega)
      rw [ifb_t d, bd e3, if_pos d]
      exact fin nu3 _ S3
    · rw [ifb_f d, if_neg d]
      exact fin nu2 c2 (S2.sm (by omega))
  unfold f_X2_atom_109
  cases hx : sSide t sz (-1) true q c with
  | error e =>
    rw [hx] at hs
    have he := hok.1 e hx
    rcases hs with ⟨nu', e1⟩ | ⟨hD, nu', c', e1, S'⟩
    · rw [bd e1]; dsimp only
      rw [ifb_t rfl]
      exact ⟨G, _, _, _, _, _, _, Or.inl ⟨rfl, st, B⟩⟩
    · rw [bd e1]; dsimp only
      rw [ifb_f (by decide)]
      obtain ⟨pa', ro', ce', sa', lo', nu2, e2, B'⟩ := push e nu' c' he S'
      rw [e2]
      exact ⟨_, _, _, _, _, _, _, Or.inr ⟨hD, rfl, _, rfl, B'⟩⟩
  | ok z =>
    obtain ⟨p2, c2⟩ := z
    rw [hx] at hs
    obtain ⟨nu', e1, S'⟩ := hs
    obtain ⟨a1, a2, a3⟩ := hok.2 p2 c2 hx
    rw [bd e1]; dsimp only
    rw [ifb_f (by decide)]
    obtain ⟨pa', ro', ce', sa', lo', nu2, e2, B'⟩ := push p2 nu' c2 a2 S'
    rw [e2]
    cases hy : stl k (if y1 = 62 then (fun j => - c2 j) else c2) with
    | none =>
      rw [hy] at B'
      exact ⟨_, _, _, _, _, _, rfl, B'⟩
    | some r =>
      rw [hy] at B'
      exact ⟨_, _, _, _, _, _, rfl, B'⟩
theorem c_wrap {G : Bool} {o : Option (Int32 × Int32 × Int32 × Int32 × Int32 × (Nat → Int32) × (Nat → Int32) × (Nat → Int32) × (Nat → Int64))} {R : PR} (atom : CPl t sz n G st o R) : CPl t sz n G st (o.bind (fun z48 => ckp (z48.1 = 0 ∨ z48.1 = 1) (some (z48.1, z48.2.1, z48.2.2.1, z48.2.2.2.1, z48.2.2.2.2.1, z48.2.2.2.2.2.1, z48.2.2.2.2.2.2.1, z48.2.2.2.2.2.2.2.1, z48.2.2.2.2.2.2.2.2)))) R := by
  cases R with
  | error e =>
    obtain ⟨G', pa', ro', ce', sa', lo', nu', hh⟩ := atom
    rcases hh with ⟨e1, hb⟩ | ⟨hD, e1, hb⟩
    · rw [bd e1]; dsimp only
      rw [ckp_t (Or.inl rfl)]
      exact ⟨G', _, _, _, _, _, _, Or.inl ⟨rfl, hb⟩⟩
    · rw [bd e1]; dsimp only
      rw [ckp_t (Or.inr rfl)]
      exact ⟨G', _, _, _, _, _, _, Or.inr ⟨hD, rfl, hb⟩⟩
  | ok z =>
    obtain ⟨p', F, g⟩ := z
    obtain ⟨pa', ro', ce', sa', lo', nu', e1, hb⟩ := atom
    rw [bd e1]; dsimp only
    rw [ckp_t (Or.inr rfl)]
    exact ⟨_, _, _, _, _, _, rfl, hb⟩
theorem c_plain (N : Nat) (hN : 1000 ≤ N) (hsz : sz ≤ 240) (B : Be pa ro ce n sa lo st) (h : st.length < 402) (hr : 10 * st.flatten.length + 10 ≤ n) (G : Bool) {p : Nat} (hp : p ≤ sz) (nu : Nat → Int64) : CPl t sz n G st (f_X2_plainUnit N (Int32.ofNat sz) (Int32.ofNat p) (b2i G) t pa ro ce n sa lo nu) (sLeaf t sz p) := by
  have hbl := bls_le (t := t) (sz := sz) p hp
  unfold f_X2_plainUnit f_X2_plainUnit_17 f_X2_plainUnit_42 sLeaf
  rw [bd (c_next N hN hsz (by omega))]
  dsimp only
  by_cases c1 : pk t sz (bls t sz p) = 84
  · obtain ⟨pa', ro', ce', sa', lo', e, B'⟩ := b_push B N (by omega) h hr 0 (Or.inl rfl)
    rw [ifb_t c1, if_pos c1, ifb_t c1, bd e, i_p1]
    refine ⟨_, _, _, _, _, nu, ?_, B'⟩
    rw [Bool.or_false]
  · rw [ifb_f c1, if_neg c1]
    by_cases c2 : pk t sz (bls t sz p) = 70
    · obtain ⟨pa', ro', ce', sa', lo', e, B'⟩ := b_push B N (by omega) h hr 1 (Or.inr rfl)
      rw [ifb_t c2, if_pos c2, ifb_f c1, bd e, i_p1]
      refine ⟨_, _, _, _, _, nu, ?_, B'⟩
      rw [Bool.or_false]
    · rw [ifb_f c2, if_neg c2]
      generalize hq : bls t sz p = q at *

      have atom : CPl t sz n G st (f_X2_atom N (Int32.ofNat sz) (Int32.ofNat q) (b2i G) t pa ro ce n sa lo nu) (match sRel t sz q with
          | .error e => .error e
          | .ok (p2, k, c) => match stl k c with
            | some r => .ok (p2, [r], false)
            | none => .ok (p2, fT, true)) := by
        obtain ⟨nu0, e0, h0⟩ := t_empty N (by omega) nu
        have S0 : SmP nu0 (fun _ => 0) q := ⟨h0, CB.zero q⟩
        have hs := c_side (t := t) N hN hsz (xs := 1) (Or.inl rfl) (last := false) ⟨fun g => absurd g (by decide), fun g => absurd g (by decide)⟩ hbl.2 S0
        rw [show (1 : Int32).toInt = 1 from rfl] at hs
        have hok := sSide_ok (t := t) (last := false) hsz (Or.inl rfl) hbl.2 S0.2
        unfold f_X2_atom sRel
        rw [bd e0]
        cases hx : sSide t sz 1 false q (fun _ => 0) with
        | error e =>
          rw [hx] at hs
          have he := hok.1 e hx
          rcases hs with ⟨nu', e1⟩ | ⟨hD, nu', c', e1, S'⟩
          · rw [bd e1]; dsimp only
            rw [ifb_t rfl]
            exact ⟨G, _, _, _, _, _, _, Or.inl ⟨rfl, st, B⟩⟩
          · rw [bd e1]; dsimp only
            have nD : ∀ x : Int32, ¬ isD x → ¬ (pk t sz e = x) := fun x hx g => by rw [g] at hD; exact hx hD
            rw [ifb_f (by decide), bd (c_next N hN hsz (by omega)), bls_id (nD 32 (by decide))]
            dsimp only
            rw [ifb_f (nD 60 (by decide)), ifb_f (nD 61 (by decide)), ifb_f (nD 33 (by decide)), ifb_f (nD 62 (by decide))]
            exact ⟨G, _, _, _, _, _, _, Or.inl ⟨rfl, st, B⟩⟩
        | ok z =>
          obtain ⟨p1, c1'⟩ := z
          rw [hx] at hs
          obtain ⟨nu', e1, S'⟩ := hs
          obtain ⟨a1, a2, a3, a4⟩ := hok.2 p1 c1' hx
          rw [bd e1]; dsimp only
          rw [ifb_f (by decide), bd (c_next N hN hsz (by omega)), a4]
          dsimp only

          have S2 : ∀ x, p1 ≤ x → SmP nu' c1' x := fun x hx => ⟨S'.1, a3.mono hx⟩
          have go : (pk t sz p1 = 60 ∨ pk t sz p1 = 61 ∨ pk t sz p1 = 33 ∨ pk t sz p1 = 62) → CPl t sz n G st (f_X2_atom_48 N (Int32.ofNat sz) (Int32.ofNat p1) (b2i G) t pa ro ce n sa lo nu' (pk t sz p1)) (match (if pk t sz p1 = 33 ∧ ¬ (pk t sz (p1 + 1) = 61) then .error (p1 + 1) else match sSide t sz (-1) true (if pk t sz p1 ≠ 61 ∧ pk t sz (p1 + 1) = 61 then p1 + 2 else p1 + 1) c1' with
              | .error e => .error e
              | .ok (p2, c2) => .ok (p2, (if pk t sz p1 = 61 then 2 else if pk t sz p1 = 33 then 3 else if pk t sz (p1 + 1) = 61 then 5 else 4), if pk t sz p1 = 62 then (fun j => - c2 j) else c2) : Except Nat (Nat × Int32 × (Nat → Int))) with
            | .error e => .error e
            | .ok (p2, k, c) => match stl k c with
              | some r => .ok (p2, [r], false)
              | none => .ok (p2, fT, true)) := by
            intro hrel
            have hlt : p1 < sz := by rcases hrel with g | g | g | g <;> exact pkk_in g (by decide)

            have rest : ∀ s0 : Int32, (s0 = 0 ∧ ¬ (pk t sz p1 ≠ 61 ∧ pk t sz (p1 + 1) = 61) ∨ s0 = 1 ∧ pk t sz p1 ≠ 61 ∧ pk t sz (p1 + 1) = 61) → CPl t sz n G st (f_X2_atom_82 N (Int32.ofNat sz) (Int32.ofNat (p1 + 1)) (b2i G) t pa ro ce n sa lo nu' (pk t sz p1) s0) (match (if pk t sz p1 = 33 ∧ ¬ (pk t sz (p1 + 1) = 61) then .error (p1 + 1) else match sSide t sz (-1) true (if pk t sz p1 ≠ 61 ∧ pk t sz (p1 + 1) = 61 then p1 + 2 else p1 + 1) c1' with
              | .error e => .error e
              | .ok (p2, c2) => .ok (p2, (if pk t sz p1 = 61 then 2 else if pk t sz p1 = 33 then 3 else if pk t sz (p1 + 1) = 61 then 5 else 4), if pk t sz p1 = 62 then (fun j => - c2 j) else c2) : Except Nat (Nat × Int32 × (Nat → Int))) with
              | .error e => .error e
              | .ok (p2, k, c) => match stl k c with
                | some r => .ok (p2, [r], false)
                | none => .ok (p2, fT, true)) := by
              intro s0 hs0
              unfold f_X2_atom_82 f_X2_atom_95
              have sides : ∀ x, (if pk t sz p1 ≠ 61 ∧ pk t sz (p1 + 1) = 61 then p1 + 2 else p1 + 1) = x → p1 ≤ x → x ≤ sz → CPl t sz n G st (f_X2_atom_109 N (Int32.ofNat sz) (Int32.ofNat x) (b2i G) t pa ro ce n sa lo nu' (pk t sz p1) s0) (match (match sSide t sz (-1) true (if pk t sz p1 ≠ 61 ∧ pk t sz (p1 + 1) = 61 then p1 + 2 else p1 + 1) c1' with
                | .error e => .error e
                | .ok (p2, c2) => .ok (p2, (if pk t sz p1 = 61 then 2 else if pk t sz p1 = 33 then 3 else if pk t sz (p1 + 1) = 61 then 5 else 4), if pk t sz p1 = 62 then (fun j => - c2 j) else c2) : Except Nat (Nat × Int32 × (Nat → Int))) with
                | .error e => .error e
                | .ok (p2, k, c) => match stl k c with
                  | some r => .ok (p2, [r], false)
                  | none => .ok (p2, fT, true)) := by
                intro x ex hx1 hx2
                rw [ex]
                have := c_atom95 (t := t) N hN hsz B h hr G hx2 (S2 x hx1) (pk t sz p1) s0 (if pk t sz p1 = 61 then 2 else if pk t sz p1 = 33 then 3 else if pk t sz (p1 + 1) = 61 then 5 else 4) (by
                  by_cases d1 : pk t sz p1 = 61
                  · rw [if_pos d1, if_pos d1]
                  · rw [if_neg d1, if_neg d1]
                    by_cases d2 : pk t sz p1 = 33
                    · rw [if_pos d2, if_pos d2]
                    · rw [if_neg d2, if_neg d2]
                      rcases hs0 with ⟨rfl, g⟩ | ⟨rfl, g⟩
                      · rw [if_pos rfl, if_neg (fun k => g ⟨d1, k⟩)]
                      · rw [if_pos g.2, if_neg (show ¬ ((1 : Int32) = 0) by decide)])
                cases hz : sSide t sz (-1) true x c1' with
                | error e => rw [hz] at this; exact this
                | ok w => rw [hz] at this; exact this
              by_cases d33 : pk t sz p1 = 33
              · rw [ifb_t d33]
                rcases hs0 with ⟨rfl, g⟩ | ⟨rfl, g⟩
                · have hne : ¬ (pk t sz (p1 + 1) = 61) := fun k => g ⟨by rw [d33]; decide, k⟩
                  rw [ifb_t rfl, if_pos ⟨d33, hne⟩]
                  exact ⟨G, _, _, _, _, _, _, Or.inl ⟨rfl, st, B⟩⟩
                · have := pkk_in g.2 (by decide)
                  rw [ifb_f (by decide), ifb_f (by decide), if_neg (fun k => k.2 g.2), i_p1]
                  exact sides (p1 + 2) (if_pos g) (by omega) (by omega)
              · rw [ifb_f d33, if_neg (fun k => d33 k.1)]
                rcases hs0 with ⟨rfl, g⟩ | ⟨rfl, g⟩
                · rw [ifb_t rfl]
                  exact sides (p1 + 1) (if_neg g) (by omega) (by omega)
                · have := pkk_in g.2 (by decide)
                  rw [ifb_f (by decide), i_p1]
                  exact sides (p1 + 2) (if_pos g) (by omega) (by omega)
            unfold f_X2_atom_48 f_X2_atom_81
            rw [i_p1]
            by_cases d61 : pk t sz p1 = 61
            · rw [ifb_t d61]
              exact rest 0 (Or.inl ⟨rfl, fun g => g.1 d61⟩)
            · rw [ifb_f d61, bd (c_letterAt N (p1 + 1) hsz (by omega))]
              by_cases d : pk t sz (p1 + 1) = 61
              · rw [ifb_t d]
                exact rest 1 (Or.inr ⟨rfl, d61, d⟩)
              · rw [ifb_f d]
                exact rest 0 (Or.inl ⟨rfl, fun g => d g.2⟩)
          by_cases d1 : pk t sz p1 = 60
          · rw [ifb_t d1, if_pos (Or.inl d1)]; exact go (Or.inl d1)
          · rw [ifb_f d1]
            by_cases d2 : pk t sz p1 = 61
            · rw [ifb_t d2, if_pos (Or.inr (Or.inl d2))]; exact go (Or.inr (Or.inl d2))
            · rw [ifb_f d2]
              by_cases d3 : pk t sz p1 = 33
              · rw [ifb_t d3, if_pos (Or.inr (Or.inr (Or.inl d3)))]; exact go (Or.inr (Or.inr (Or.inl d3)))
              · rw [ifb_f d3]
                by_cases d4 : pk t sz p1 = 62
                · rw [ifb_t d4, if_pos (Or.inr (Or.inr (Or.inr d4)))]; exact go (Or.inr (Or.inr (Or.inr d4)))
                · rw [ifb_f d4, if_neg (by rintro (g | g | g | g); exact d1 g; exact d2 g; exact d3 g; exact d4 g)]
                  exact ⟨G, _, _, _, _, _, _, Or.inl ⟨rfl, st, B⟩⟩
      exact c_wrap atom
end CPL
def wq (k : Int32) (v : Nat) : Int32 := k ||| (Int32.ofNat v <<< (4 &&& 31))
def okW (w : Int32) : Prop := w = 6 ∨ w = 7 ∨ w = 10 ∨ w = 11 ∨ w = 12 ∨ ∃ k v, (k = 8 ∨ k = 9) ∧ v < 8 ∧ w = wq k v
theorem wq_kd {k : Int32} {v : Nat} (hk : k = 8 ∨ k = 9) (hv : v < 8) : wq k v &&& 15 = k ∧ wq k v >>> (4 &&& 31) = Int32.ofNat v := by
  have : v = 0 ∨ v = 1 ∨ v = 2 ∨ v = 3 ∨ v = 4 ∨ v = 5 ∨ v = 6 ∨ v = 7 := by omega
  rcases hk with rfl | rfl <;> rcases this with h | h | h | h | h | h | h | h <;> subst h <;> decide
def tg (w : Int32) : Nat := if w &&& 15 = 11 then 0 else if w &&& 15 = 10 then 1 else if w &&& 15 = 7 then 2 else if w &&& 15 = 6 then 3 else 4
theorem tg_le (w : Int32) : tg w ≤ 4 := by
  unfold tg; split
  · omega
  · split
    · omega
    · split
      · omega
      · split <;> omega
def tgs (W : List Int32) : Nat := match W with
  | [] => 0
  | w :: _ => tg w
def cO : List Int32 → Nat
  | [] => 0
  | w :: W => (if w = 6 ∨ w = 7 ∨ w = 10 then 0 else 1) + cO W
def cP : List Int32 → Nat
  | [] => 0
  | w :: W => (if w = 11 then 1 else 0) + cP W
def bn : List Int32 → Nat
  | [] => 0
  | w :: W => (if w = 6 ∨ w = 7 ∨ w = 10 then 1 else 0) + bn W
def RS (W : List Int32) (s : List (List (List Int32))) (wt op pa ro : Int32) (ce sa lo wa : Nat → Int32) : Prop := wt = Int32.ofNat W.length ∧ op = Int32.ofNat (cO W) ∧ (∀ i, i < W.length → wa i = W.reverse.getD i 0) ∧ Be pa ro ce 2400 sa lo s.reverse ∧ (∀ w ∈ W, okW w) ∧ s.flatten.length + W.length ≤ 240
theorem flat_rev (s : List (List (List Int32))) : s.reverse.flatten.length = s.flatten.length := by
  induction s with
  | nil => rfl
  | cons a s ih => rw [List.reverse_cons, List.flatten_append, List.length_append, ih]; simp; omega
section CO
variable {W : List Int32} {s : List (List (List Int32))} {wt op pa ro : Int32} {ce sa lo wa : Nat → Int32}
theorem rev_pop {w : Int32} (h : ∀ i, i < (w :: W).length → wa i = (w :: W).reverse.getD i 0) : (∀ i, i < W.length → wa i = W.reverse.getD i 0) ∧ wa W.length = w := by
  constructor
  · intro i hi
    rw [h i (by simp; omega), List.reverse_cons, List.getD_eq_getElem?_getD, List.getD_eq_getElem?_getD, List.getElem?_append_left (by simp; exact hi)]
  · rw [h W.length (by simp), List.reverse_cons, List.getD_eq_getElem?_getD, List.getElem?_append_right (by simp)]
    simp
theorem cO_le (W : List Int32) : cO W ≤ W.length := by
  induction W with
  | nil => exact Nat.le_refl _
  | cons w W ih => unfold cO; rw [List.length_cons]; split <;> omega
theorem co_bin (N : Nat) (hN : 100000 ≤ N) {w : Int32} (hw : w = 6 ∨ w = 7) {x y : List (List Int32)} (R : RS (w :: W) (y :: x :: s) wt op pa ro ce sa lo wa) : ∃ pa' ro' ce' lo', f_X2_carryOutOne N op pa ro ce 2400 sa lo (w &&& 15) (w >>> (4 &&& 31)) = some (op, pa', ro', ce', lo') ∧ RS W (mk w x y :: s) (Int32.ofNat W.length) op pa' ro' ce' sa lo' wa := by
  obtain ⟨h1, h2, h3, B, h5, h6⟩ := R
  have B' : Be pa ro ce 2400 sa lo (s.reverse ++ [x, y]) := by simpa using B
  have hf : s.reverse.flatten.length = s.flatten.length := flat_rev s
  have hl : (y :: x :: s).flatten.length = y.length + x.length + s.flatten.length := by simp; omega
  have hwl : (w :: W).length = W.length + 1 := rfl
  rw [hl, hwl] at h6
  obtain ⟨pa', ro', ce', lo', e, B2⟩ := b_join B' N (by omega) hw (by omega)
  have hk : w &&& 15 = w := by rcases hw with rfl | rfl <;> decide
  have hO : cO (w :: W) = cO W := by
    show (if w = 6 ∨ w = 7 ∨ w = 10 then 0 else 1) + cO W = cO W
    rw [if_pos (hw.elim Or.inl (fun g => Or.inr (Or.inl g)))]; omega
  have hml := mk_len w x y
  refine ⟨pa', ro', ce', lo', ?_, rfl, by rw [h2, hO], (rev_pop h3).1, by simpa using B2, fun v hv => h5 v (List.mem_cons_of_mem _ hv), ?_⟩
  · unfold f_X2_carryOutOne f_X2_carryOutOne_12 f_X2_carryOutOne_83
    rw [hk]
    rcases hw with rfl | rfl
    · rw [ifb_t rfl, bd e]
    · rw [ifb_f (by decide), ifb_t rfl, bd e]
  · have : (mk w x y :: s).flatten.length = (mk w x y).length + s.flatten.length := by simp
    rw [this]; omega
theorem co_arr (N : Nat) (hN : 100000 ≤ N) {x y : List (List Int32)} (R : RS (10 :: W) (y :: x :: s) wt op pa ro ce sa lo wa) : ∃ pa' ro' ce' lo', f_X2_carryOutOne N op pa ro ce 2400 sa lo ((10 : Int32) &&& 15) ((10 : Int32) >>> (4 &&& 31)) = some (op, pa', ro', ce', lo') ∧ RS W (mk 7 (ng x) y :: s) (Int32.ofNat W.length) op pa' ro' ce' sa lo' wa := by
  obtain ⟨h1, h2, h3, B, h5, h6⟩ := R
  have B' : Be pa ro ce 2400 sa lo (s.reverse ++ [x, y]) := by simpa using B
  have hf : s.reverse.flatten.length = s.flatten.length := flat_rev s
  have hl : (y :: x :: s).flatten.length = y.length + x.length + s.flatten.length := by simp; omega
  have hwl : ((10 : Int32) :: W).length = W.length + 1 := rfl
  rw [hl, hwl] at h6
  obtain ⟨ce1, e1, B1⟩ := b_negateLastButOne B' N (by omega)
  obtain ⟨pa', ro', ce', lo', e, B2⟩ := b_join B1 N (by rw [ng_len]; omega) (k := 7) (Or.inr rfl) (by rw [ng_len]; omega)
  have hO : cO (10 :: W) = cO W := by
    show (if (10 : Int32) = 6 ∨ (10 : Int32) = 7 ∨ (10 : Int32) = 10 then 0 else 1) + cO W = cO W
    rw [if_pos (Or.inr (Or.inr rfl))]; omega
  have hml := mk_len 7 (ng x) y
  rw [ng_len] at hml
  refine ⟨pa', ro', ce', lo', ?_, rfl, by rw [h2, hO], (rev_pop h3).1, by simpa using B2, fun v hv => h5 v (List.mem_cons_of_mem _ hv), ?_⟩
  · unfold f_X2_carryOutOne f_X2_carryOutOne_83
    rw [ifb_f (by decide), ifb_f (by decide), ifb_t (by decide), bd e1, bd e]
  · have : (mk 7 (ng x) y :: s).flatten.length = (mk 7 (ng x) y).length + s.flatten.length := by simp
    rw [this]; omega
theorem co_not (N : Nat) (hN : 100000 ≤ N) {y : List (List Int32)} (R : RS (12 :: W) (y :: s) wt op pa ro ce sa lo wa) : ∃ op' pa' ro' ce' lo', f_X2_carryOutOne N op pa ro ce 2400 sa lo ((12 : Int32) &&& 15) ((12 : Int32) >>> (4 &&& 31)) = some (op', pa', ro', ce', lo') ∧ RS W (ng y :: s) (Int32.ofNat W.length) op' pa' ro' ce' sa lo' wa := by
  obtain ⟨h1, h2, h3, B, h5, h6⟩ := R
  have B' : Be pa ro ce 2400 sa lo (s.reverse ++ [y]) := by simpa using B
  have hf : s.reverse.flatten.length = s.flatten.length := flat_rev s
  have hl : (y :: s).flatten.length = y.length + s.flatten.length := by simp
  have hwl : ((12 : Int32) :: W).length = W.length + 1 := rfl
  rw [hl, hwl] at h6
  obtain ⟨ce1, e1, B1⟩ := b_negateLast B' N (by omega)
  have hO : cO (12 :: W) = 1 + cO W := by
    show (if (12 : Int32) = 6 ∨ (12 : Int32) = 7 ∨ (12 : Int32) = 10 then 0 else 1) + cO W = 1 + cO W
    rw [if_neg (by decide)]
  refine ⟨Int32.ofNat (cO W), pa, ro, ce1, lo, ?_, rfl, rfl, (rev_pop h3).1, by simpa using B1, fun v hv => h5 v (List.mem_cons_of_mem _ hv), ?_⟩
  · unfold f_X2_carryOutOne f_X2_carryOutOne_83
    rw [ifb_f (by decide), ifb_f (by decide), ifb_f (by decide), ifb_t (by decide), bd e1, h2, hO, i_m1 _ (by omega), show 1 + cO W - 1 = cO W from by omega]
  · have : (ng y :: s).flatten.length = y.length + s.flatten.length := by simp [ng_len]
    rw [this]; omega
theorem co_qu (N : Nat) (hN : 100000 ≤ N) {k : Int32} {v : Nat} (hk : k = 8 ∨ k = 9) (hv : v < 8) {y : List (List Int32)} (R : RS (wq k v :: W) (y :: s) wt op pa ro ce sa lo wa) : ∃ op' pa' ro' ce' lo', f_X2_carryOutOne N op pa ro ce 2400 sa lo (wq k v &&& 15) (wq k v >>> (4 &&& 31)) = some (op', pa', ro', ce', lo') ∧ RS W (bq k v y :: s) (Int32.ofNat W.length) op' pa' ro' ce' sa lo' wa := by
  obtain ⟨h1, h2, h3, B, h5, h6⟩ := R
  have B' : Be pa ro ce 2400 sa lo (s.reverse ++ [y]) := by simpa using B
  have hf : s.reverse.flatten.length = s.flatten.length := flat_rev s
  have hl : (y :: s).flatten.length = y.length + s.flatten.length := by simp
  have hwl : (wq k v :: W).length = W.length + 1 := rfl
  rw [hl, hwl] at h6
  obtain ⟨e1, e2⟩ := wq_kd hk hv
  obtain ⟨ro1, ce1, lo1, e3, B1⟩ := b_bind B' N (by omega) hk hv (by omega)
  have hne : ∀ x : Int32, x &&& 15 = x → (x = 6 ∨ x = 7 ∨ x = 10) → wq k v ≠ x := by
    intro x hx hx2 g
    rw [g, hx] at e1
    rcases hk with rfl | rfl <;> rcases hx2 with rfl | rfl | rfl <;> exact absurd e1 (by decide)
  have hO : cO (wq k v :: W) = 1 + cO W := by
    show (if wq k v = 6 ∨ wq k v = 7 ∨ wq k v = 10 then 0 else 1) + cO W = 1 + cO W
    rw [if_neg (by rintro (g | g | g); exact hne 6 (by decide) (by decide) g; exact hne 7 (by decide) (by decide) g; exact hne 10 (by decide) (by decide) g)]
  have hbl := bq_len k v y
  refine ⟨Int32.ofNat (cO W), pa, ro1, ce1, lo1, ?_, rfl, rfl, (rev_pop h3).1, by simpa using B1, fun v hv => h5 v (List.mem_cons_of_mem _ hv), ?_⟩
  · unfold f_X2_carryOutOne f_X2_carryOutOne_83
    rw [e1, e2, ifb_f (by rcases hk with rfl | rfl <;> decide), ifb_f (by rcases hk with rfl | rfl <;> decide), ifb_f (by rcases hk with rfl | rfl <;> decide), ifb_f (by rcases hk with rfl | rfl <;> decide), bd e3, h2, hO, i_m1 _ (by omega), show 1 + cO W - 1 = cO W from by omega]
  · have : (bq k v y :: s).flatten.length = (bq k v y).length + s.flatten.length := by simp
    rw [this]; omega
theorem c_tight (N : Nat) {w : Int32} (h : okW w) : f_X2_tightness N (w &&& 15) = some (Int32.ofNat (tg w)) := by
  unfold f_X2_tightness f_X2_tightness_48 tg
  rcases h with rfl | rfl | rfl | rfl | rfl | ⟨k, v, hk, hv, rfl⟩
  · rfl
  · rfl
  · rfl
  · rfl
  · rfl
  · rw [(wq_kd hk hv).1]
    rcases hk with rfl | rfl <;> rfl
theorem co_step (N a : Nat) {w : Int32} {b y : Nat} (hb : b ≤ 4) (hy : y ≤ 240) (R : RS (w :: W) s wt op pa ro ce sa lo wa) (ht : b ≤ tg w) {op' pa' ro' : Int32} {ce' lo' : Nat → Int32} (e : f_X2_carryOutOne N op pa ro ce 2400 sa lo (w &&& 15) (w >>> (4 &&& 31)) = some (op', pa', ro', ce', lo')) : f_X2_carryOut_2 N (a + 1) wt op pa ro ce 2400 sa lo wa (Int32.ofNat b) (Int32.ofNat y) = f_X2_carryOut_2 N a (Int32.ofNat W.length) op' pa' ro' ce' 2400 sa lo' wa (Int32.ofNat b) (Int32.ofNat (y + 1)) := by
  obtain ⟨h1, h2, h3, B, h5, h6⟩ := R
  have hwl : (w :: W).length = W.length + 1 := rfl
  rw [hwl] at h1 h6
  have htg := tg_le w
  rw [f_X2_carryOut_2]; dsimp only
  rw [h1, ifb_f (by rw [show (240 : Int32) = Int32.ofNat 240 from rfl, i_lt _ _ (by omega) (by omega)]; omega), ifb_f (by rw [show (0 : Int32) = Int32.ofNat 0 from rfl, i_le _ _ (by omega) (by omega)]; omega), i_m1 _ (by omega), show W.length + 1 - 1 = W.length from by omega, ix_n _ _ _ (by omega) (by omega), i_cl _ (by omega), (rev_pop h3).2]
  unfold f_X2_carryOut_32
  rw [bd (c_tight N (h5 w List.mem_cons_self)), ifb_t (by rw [i_le _ _ (by omega) (by omega)]; exact ht), bd e, i_m1 _ (by omega), i_p1]
  rfl
theorem co_stop (N a : Nat) {b y : Nat} (hb1 : 1 ≤ b) (hb : b ≤ 4) (hy : y ≤ 240) (R : RS W s wt op pa ro ce sa lo wa) (ht : tgs W < b) : f_X2_carryOut_2 N (a + 1) wt op pa ro ce 2400 sa lo wa (Int32.ofNat b) (Int32.ofNat y) = some (wt, op, pa, ro, ce, lo) := by
  obtain ⟨h1, h2, h3, B, h5, h6⟩ := R
  rw [f_X2_carryOut_2]; dsimp only
  rw [ifb_f (by rw [show (240 : Int32) = Int32.ofNat 240 from rfl, i_lt _ _ (by omega) (by omega)]; omega)]
  cases W with
  | nil =>
    rw [h1]
    rw [ifb_t (by decide)]
    unfold f_X2_carryOut_32
    rw [bd (show f_X2_tightness N ((11 : Int32) &&& 15) = some (Int32.ofNat 0) from rfl), ifb_f (by rw [i_le _ _ (by omega) (by omega)]; omega)]
  | cons w W =>
    have hwl : (w :: W).length = W.length + 1 := rfl
    rw [hwl] at h1 h6
    have ht' : tg w < b := ht
    rw [h1, ifb_f (by rw [show (0 : Int32) = Int32.ofNat 0 from rfl, i_le _ _ (by omega) (by omega)]; omega), i_m1 _ (by omega), show W.length + 1 - 1 = W.length from by omega, ix_n _ _ _ (by omega) (by omega), i_cl _ (by omega), (rev_pop h3).2]
    unfold f_X2_carryOut_32
    rw [bd (c_tight N (h5 w List.mem_cons_self)), ifb_f (by rw [i_le _ _ (by omega) (by omega)]; omega)]
end CO
theorem co_one (N : Nat) (hN : 100000 ≤ N) {W : List Int32} {s : List (List (List Int32))} {wt op pa ro : Int32} {ce sa lo wa : Nat → Int32} {w : Int32} (R : RS (w :: W) s wt op pa ro ce sa lo wa) (hp : w ≠ 11) (hs : s.length = bn (w :: W) + 1) : ∃ s' op' pa' ro' ce' lo', f_X2_carryOutOne N op pa ro ce 2400 sa lo (w &&& 15) (w >>> (4 &&& 31)) = some (op', pa', ro', ce', lo') ∧ RS W s' (Int32.ofNat W.length) op' pa' ro' ce' sa lo' wa ∧ s'.length = bn W + 1 := by
  have hok := R.2.2.2.2.1 w List.mem_cons_self
  have hb1 : (w = 6 ∨ w = 7 ∨ w = 10) → bn (w :: W) = bn W + 1 := fun g => by
    show (if w = 6 ∨ w = 7 ∨ w = 10 then 1 else 0) + bn W = bn W + 1
    rw [if_pos g]; omega
  have hb0 : ¬ (w = 6 ∨ w = 7 ∨ w = 10) → bn (w :: W) = bn W := fun g => by
    show (if w = 6 ∨ w = 7 ∨ w = 10 then 1 else 0) + bn W = bn W
    rw [if_neg g]; omega
  have two : (w = 6 ∨ w = 7 ∨ w = 10) → ∃ y x s', s = y :: x :: s' ∧ s'.length = bn W := by
    intro g
    rw [hb1 g] at hs
    match s, hs with
    | y :: x :: s', h => exact ⟨y, x, s', rfl, by simp at h; omega⟩
  have one : ¬ (w = 6 ∨ w = 7 ∨ w = 10) → ∃ y s', s = y :: s' ∧ s'.length = bn W := by
    intro g
    rw [hb0 g] at hs
    match s, hs with
    | y :: s', h => exact ⟨y, s', rfl, by simp at h; omega⟩
  have bin : (w = 6 ∨ w = 7) → ∃ s' op' pa' ro' ce' lo', f_X2_carryOutOne N op pa ro ce 2400 sa lo (w &&& 15) (w >>> (4 &&& 31)) = some (op', pa', ro', ce', lo') ∧ RS W s' (Int32.ofNat W.length) op' pa' ro' ce' sa lo' wa ∧ s'.length = bn W + 1 := fun g => by
    obtain ⟨y, x, s', rfl, hl⟩ := two (g.elim Or.inl (fun g => Or.inr (Or.inl g)))
    obtain ⟨pa', ro', ce', lo', e, R'⟩ := co_bin N hN g R
    exact ⟨_, _, _, _, _, _, e, R', by simp [hl]⟩
  rcases hok with g | g | g | g | g | ⟨k, v, hk, hv, g⟩
  · exact bin (Or.inl g)
  · exact bin (Or.inr g)
  · subst g
    obtain ⟨y, x, s', rfl, hl⟩ := two (Or.inr (Or.inr rfl))
    obtain ⟨pa', ro', ce', lo', e, R'⟩ := co_arr N hN R
    exact ⟨_, _, _, _, _, _, e, R', by simp [hl]⟩
  · exact absurd g hp
  · subst g
    obtain ⟨y, s', rfl, hl⟩ := one (by decide)
    obtain ⟨op', pa', ro', ce', lo', e, R'⟩ := co_not N hN R
    exact ⟨_, _, _, _, _, _, e, R', by simp [hl]⟩
  · subst g
    have hne : ¬ (wq k v = 6 ∨ wq k v = 7 ∨ wq k v = 10) := by
      have e1 := (wq_kd hk hv).1
      rintro (g | g | g) <;> rw [g] at e1 <;> rcases hk with rfl | rfl <;> exact absurd e1 (by decide)
    obtain ⟨y, s', rfl, hl⟩ := one hne
    obtain ⟨op', pa', ro', ce', lo', e, R'⟩ := co_qu N hN hk hv R
    exact ⟨_, _, _, _, _, _, e, R', by simp [hl]⟩
theorem tg_par {w : Int32} (h : okW w) (ht : 1 ≤ tg w) : w ≠ 11 := by
  rintro rfl; exact absurd ht (by decide)
theorem co_alike (N : Nat) (hN : 100000 ≤ N) {b : Nat} (hb1 : 1 ≤ b) (hb : b ≤ 4) : ∀ (W : List Int32) (s : List (List (List Int32))) (wt op pa ro : Int32) (ce sa lo wa : Nat → Int32) (a c y z : Nat), RS W s wt op pa ro ce sa lo wa → s.length = bn W + 1 → W.length < a → W.length < c → y + W.length ≤ 240 → z + W.length ≤ 240 → f_X2_carryOut_2 N a wt op pa ro ce 2400 sa lo wa (Int32.ofNat b) (Int32.ofNat y) = f_X2_carryOut_2 N c wt op pa ro ce 2400 sa lo wa (Int32.ofNat b) (Int32.ofNat z)
  | [], s, wt, op, pa, ro, ce, sa, lo, wa, a, c, y, z, R, hs, ha, hc, hy, hz => by
    obtain ⟨a, rfl⟩ : ∃ x, a = x + 1 := ⟨a - 1, by omega⟩
    obtain ⟨c, rfl⟩ : ∃ x, c = x + 1 := ⟨c - 1, by omega⟩
    rw [co_stop N a hb1 hb (by omega) R (by show 0 < b; omega), co_stop N c hb1 hb (by omega) R (by show 0 < b; omega)]
  | w :: W, s, wt, op, pa, ro, ce, sa, lo, wa, a, c, y, z, R, hs, ha, hc, hy, hz => by
    have hwl : (w :: W).length = W.length + 1 := rfl
    rw [hwl] at ha hc hy hz
    obtain ⟨a, rfl⟩ : ∃ x, a = x + 1 := ⟨a - 1, by omega⟩
    obtain ⟨c, rfl⟩ : ∃ x, c = x + 1 := ⟨c - 1, by omega⟩
    by_cases ht : b ≤ tg w
    · obtain ⟨s', op', pa', ro', ce', lo', e, R', hs'⟩ := co_one N hN R (tg_par (R.2.2.2.2.1 w List.mem_cons_self) (by omega)) hs
      rw [co_step N a hb (by omega) R ht e, co_step N c hb (by omega) R ht e]
      exact co_alike N hN hb1 hb W s' _ _ _ _ _ _ _ _ a c (y + 1) (z + 1) R' hs' (by omega) (by omega) (by omega) (by omega)
    · rw [co_stop N a hb1 hb (by omega) R (by show tg w < b; omega), co_stop N c hb1 hb (by omega) R (by show tg w < b; omega)]
theorem co_pop (N : Nat) (hN : 100000 ≤ N) {b : Nat} (hb1 : 1 ≤ b) (hb : b ≤ 4) {W : List Int32} {s s' : List (List (List Int32))} {wt op pa ro : Int32} {ce sa lo wa : Nat → Int32} {w : Int32} (R : RS (w :: W) s wt op pa ro ce sa lo wa) (ht : b ≤ tg w) {op' pa' ro' : Int32} {ce' lo' : Nat → Int32} (e : f_X2_carryOutOne N op pa ro ce 2400 sa lo (w &&& 15) (w >>> (4 &&& 31)) = some (op', pa', ro', ce', lo')) (R' : RS W s' (Int32.ofNat W.length) op' pa' ro' ce' sa lo' wa) (hs' : s'.length = bn W + 1) : f_X2_carryOut N wt op pa ro ce 2400 sa lo wa (Int32.ofNat b) = f_X2_carryOut N (Int32.ofNat W.length) op' pa' ro' ce' 2400 sa lo' wa (Int32.ofNat b) := by
  have h6 := R.2.2.2.2.2
  have hwl : (w :: W).length = W.length + 1 := rfl
  rw [hwl] at h6
  unfold f_X2_carryOut
  obtain ⟨M, rfl⟩ : ∃ M, N = M + 1 := ⟨N - 1, by omega⟩
  have e2 := co_step (M + 1) M hb (show 0 ≤ 240 by omega) R ht e
  rw [show Int32.ofNat 0 = 0 from rfl] at e2
  rw [e2]
  exact co_alike (M + 1) hN hb1 hb W s' _ _ _ _ _ _ _ _ M (M + 1) 1 0 R' hs' (by omega) (by omega) (by omega) (by omega)
theorem co_id (N : Nat) (hN : 100000 ≤ N) {b : Nat} (hb1 : 1 ≤ b) (hb : b ≤ 4) {W : List Int32} {s : List (List (List Int32))} {wt op pa ro : Int32} {ce sa lo wa : Nat → Int32} (R : RS W s wt op pa ro ce sa lo wa) (ht : tgs W < b) : f_X2_carryOut N wt op pa ro ce 2400 sa lo wa (Int32.ofNat b) = some (wt, op, pa, ro, ce, lo) := by
  unfold f_X2_carryOut
  obtain ⟨M, rfl⟩ : ∃ M, N = M + 1 := ⟨N - 1, by omega⟩
  exact co_stop (M + 1) M hb1 hb (show 0 ≤ 240 by omega) R ht
