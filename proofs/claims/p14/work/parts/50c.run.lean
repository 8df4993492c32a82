theorem ph_lt (n w : Nat) (h1 : 12000 ≤ n) (h2 : n < 10 * w) (h3 : w ≤ 10000) : ph (if 10000 < 2 * w then 100000 else 20 * w) < ph n := by
  unfold ph
  by_cases hw : 10000 < 2 * w
  · rw [if_pos hw, if_pos (by omega), if_neg (by omega)]
    split
    · omega
    · split
      · omega
      · split <;> omega
  · rw [if_neg hw]
    by_cases a1 : 100000 ≤ 20 * w
    · rw [if_pos a1, if_neg (by omega)]
      split
      · omega
      · split
        · omega
        · split <;> omega
    · rw [if_neg a1, if_neg (show ¬ (100000 ≤ n) by omega), if_neg (show ¬ (50000 ≤ n) by omega)]
      by_cases a2 : 25000 ≤ n
      · rw [if_pos (show 50000 ≤ 20 * w by omega), if_pos a2]; omega
      · rw [if_neg a2]
        by_cases a3 : 12500 ≤ n
        · rw [if_pos a3]
          by_cases b1 : 50000 ≤ 20 * w
          · rw [if_pos b1]; omega
          · rw [if_neg b1, if_pos (by omega)]; omega
        · rw [if_neg a3]
          by_cases b1 : 50000 ≤ 20 * w
          · rw [if_pos b1]; omega
          · rw [if_neg b1]
            by_cases b2 : 25000 ≤ 20 * w
            · rw [if_pos b2]; omega
            · rw [if_neg b2, if_pos (by omega)]; omega
theorem t_reserve {r : Int32} {c : Nat → Int32} {n : Nat} {l : List (List Int32)} (T : Tr r c n l) (N more : Nat) (h : l.length + more ≤ 10000) (hn : 12000 ≤ n) : ∃ c' n', f_X5_reserve N r c n (Int32.ofNat more) = some (1, c', n') ∧ Tr r c' n' l ∧ 10 * (l.length + more) ≤ n' ∧ n ≤ n' ∧ n' ≤ 100000 := by
  have T' := T
  obtain ⟨rfl, h1, h2, h3, h4⟩ := T
  unfold f_X5_reserve
  rw [i_add, ifb_t (by rw [show (10000 : Int32) = Int32.ofNat 10000 from rfl, i_le _ _ (by omega) (by omega)]; omega), i_m10]
  by_cases hg : (l.length + more) * 10 ≤ n
  · rw [ifb_t (by rw [i_le _ _ (by omega) (by omega)]; omega)]
    exact ⟨c, n, rfl, T', by omega, Nat.le_refl _, h2⟩
  · rw [ifb_f (by rw [i_le _ _ (by omega) (by omega)]; omega)]
    have ek : jmin (2 * Int32.ofNat (l.length + more)) 10000 * 10 = Int32.ofNat (if 10000 < 2 * (l.length + more) then 100000 else 20 * (l.length + more)) := by
      rw [show (2 : Int32) * Int32.ofNat (l.length + more) = Int32.ofNat (2 * (l.length + more)) from i_mul 2 _]
      show (if (10000 : Int32) < Int32.ofNat (2 * (l.length + more)) then (10000 : Int32) else Int32.ofNat (2 * (l.length + more))) * 10 = _
      by_cases hw : 10000 < 2 * (l.length + more)
      · rw [if_pos (by rw [show (10000 : Int32) = Int32.ofNat 10000 from rfl, i_lt _ _ (by omega) (by omega)]; exact hw), if_pos hw]; rfl
      · rw [if_neg (by rw [show (10000 : Int32) = Int32.ofNat 10000 from rfl, i_lt _ _ (by omega) (by omega)]; exact hw), if_neg hw, i_m10]
        congr 1; omega
    have hp := ph_lt n (l.length + more) hn (by omega) h
    generalize hk : (if 10000 < 2 * (l.length + more) then 100000 else 20 * (l.length + more)) = k at ek hp
    have k1 : n < k ∧ k ≤ 100000 ∧ 10 * (l.length + more) ≤ k := by
      rw [← hk]; split <;> omega
    rw [ek, i_cl _ (by omega), ckp_t ⟨i_nn _ (by omega), k1.1, k1.2.1, hp⟩]
    refine ⟨_, _, rfl, ⟨rfl, by omega, k1.2.1, h3, ?_⟩, k1.2.2, by omega, k1.2.1⟩
    intro i j hi hj
    unfold va_cpy
    rw [if_pos (by omega), ← h4 i j hi hj]
    congr 1; omega
theorem Be.grow {pa ro : Int32} {ce ce' : Nat → Int32} {n n' : Nat} {sa lo : Nat → Int32} {st : List (List (List Int32))} (B : Be pa ro ce n sa lo st) (T : Tr ro ce' n' st.flatten) : Be pa ro ce' n' sa lo st := ⟨B.1, B.2.1, T, B.2.2.2.1, B.2.2.2.2⟩
def tkl (v : Nat) (body : List (List Int32)) : List (List Int32) → List (List Int32) → Option (List (List Int32))
  | [], acc => some acc
  | p :: ps, acc => if acc = fT then some acc else (subst v (some p) body).bind (fun b => if (mk 7 acc b).length ≤ 400 then tkl v body ps (mk 7 acc b) else none)
def tk0 (v : Nat) (body : List (List Int32)) : Option (List (List Int32)) := (subst v none body).bind (fun a => if a.length ≤ 400 then tkl v body (ptsOf v body) a else none)
def tkq (k : Int32) (v : Nat) (a : List (List Int32)) : Option (List (List Int32)) := if ((fv a >>> (Int32.ofNat v &&& 31)) &&& 1) = 0 then some a else if k = 9 then (tk0 v (ng a)).map ng else tk0 v a
theorem i_mulneg (x : Int32) (h : -1000000000 ≤ x.toInt) (h2 : x.toInt ≤ 1000000000) : ((-1) * x).toInt = -x.toInt := by
  rw [Int32.toInt_mul, show (-1 : Int32).toInt = -1 from rfl, bm32 _ (by omega) (by omega)]; omega
theorem pt_bd {r : List Int32} (A : Atm r) {v : Nat} (hv : v < 8) : PtB (ptOf r v) := by
  obtain ⟨_, _, hb, _⟩ := A
  intro j hj
  by_cases h0 : j = 0
  · subst h0; rw [pt_0]; unfold plt; split <;> decide
  · by_cases h10 : j = 10
    · subst h10; rw [pt_b]
      have := hb (1 + v) (by omega) (by omega)
      show -1000000000 ≤ (if 0 ≤ r.getD (1 + v) 0 then r.getD (1 + v) 0 else 0 - r.getD (1 + v) 0).toInt ∧ (if 0 ≤ r.getD (1 + v) 0 then r.getD (1 + v) 0 else 0 - r.getD (1 + v) 0).toInt ≤ 1000000000
      split
      · exact this
      · rw [Int32.toInt_sub, show (0 : Int32).toInt = 0 from rfl, bm32 _ (by omega) (by omega)]; omega
    · rw [show j = 1 + (j - 1) from by omega, pt_n _ _ _ (by omega)]
      have := hb (1 + (j - 1)) (by omega) (by omega)
      unfold pnu
      split
      · decide
      · unfold psg
        split
        · rw [i_mulneg _ this.1 this.2]; omega
        · rw [Int32.one_mul]; exact this
theorem isPt_atm {r : List Int32} (hl : Leaf r) {v : Nat} (h : isPt r v = true) : Atm r := by
  unfold isPt at h
  simp only [Bool.and_eq_true, decide_eq_true_eq] at h
  rcases hl with rfl | rfl | hl
  · exact absurd h.1.1.1 (by decide)
  · exact absurd h.1.1.1 (by decide)
  · exact hl
theorem addP_bd {r : List Int32} {v : Nat} (hv : v < 8) (hr : isPt r v = true → Atm r) (pl : List (List Int32)) (h : ∀ q ∈ pl, PtB q) : ∀ q ∈ addP v pl r, PtB q := by
  intro q hq
  unfold addP at hq
  split at hq
  · rename_i hp
    split at hq
    · exact h q hq
    · rcases List.mem_append.mp hq with hq | hq
      · exact h q hq
      · rw [List.mem_singleton.mp hq]; exact pt_bd (hr hp) hv
  · exact h q hq
theorem Fm.leaf_of {l : List (List Int32)} (h : Fm l) : ∀ r ∈ l, kd r < 6 → Leaf r := by
  refine Fm.ind (P := fun l => ∀ r ∈ l, kd r < 6 → Leaf r) ?_ ?_ ?_ h
  · intro r hr x hx _; rw [List.mem_singleton.mp hx]; exact hr
  · intro a k v _ ih hk _ _ x hx h6
    rcases List.mem_append.mp hx with hx | hx
    · exact ih x hx h6
    · rw [List.mem_singleton.mp hx] at h6
      exact absurd (show k < 6 from h6) (by rcases hk with rfl | rfl <;> decide)
  · intro a b k _ _ iha ihb hk _ x hx h6
    rcases List.mem_append.mp hx with hx | hx
    · rcases List.mem_append.mp hx with hx | hx
      · exact iha x hx h6
      · exact ihb x hx h6
    · rw [List.mem_singleton.mp hx] at h6
      exact absurd (show k < 6 from h6) (by rcases hk with rfl | rfl <;> decide)
theorem isPt_kd {r : List Int32} {v : Nat} (h : isPt r v = true) : kd r < 6 := by
  unfold isPt at h
  simp only [Bool.and_eq_true, decide_eq_true_eq] at h
  have := h.1.1.2
  rw [Int32.le_iff_toInt_le, show (5 : Int32).toInt = 5 from rfl] at this
  rw [Int32.lt_iff_toInt_lt, show (6 : Int32).toInt = 6 from rfl]; omega
theorem pts_bd {l : List (List Int32)} (F : Fm l) {v : Nat} (hv : v < 8) : (∀ q ∈ ptsOf v l, PtB q) ∧ (ptsOf v l).length ≤ l.length := by
  have hr : ∀ r ∈ l, isPt r v = true → Atm r := fun r hr hp => isPt_atm (F.leaf_of r hr (isPt_kd hp)) hp
  unfold ptsOf
  have gen : ∀ (l : List (List Int32)) (pl : List (List Int32)), (∀ r ∈ l, isPt r v = true → Atm r) → (∀ q ∈ pl, PtB q) → (∀ q ∈ l.foldl (addP v) pl, PtB q) ∧ (l.foldl (addP v) pl).length ≤ pl.length + l.length := by
    intro l
    induction l with
    | nil => intro pl _ h; exact ⟨h, by simp⟩
    | cons r l ih =>
      intro pl hr h
      have h1 := addP_bd hv (hr r List.mem_cons_self) pl h
      have h2 := addP_len v pl r
      have h3 := ih (addP v pl r) (fun x hx => hr x (List.mem_cons_of_mem _ hx)) h1
      refine ⟨h3.1, ?_⟩
      have := h3.2
      rw [List.foldl_cons, List.length_cons]; omega
  have := gen l [] hr (fun q hq => absurd hq List.not_mem_nil)
  exact ⟨this.1, by simpa using this.2⟩
theorem lt68 {x : Int32} (h : x < 6) : x < 8 := by
  rw [Int32.lt_iff_toInt_lt, show (6 : Int32).toInt = 6 from rfl] at h
  rw [Int32.lt_iff_toInt_lt, show (8 : Int32).toInt = 8 from rfl]; omega
theorem Qf.leaf {r : List Int32} (h : Leaf r) : Qf [r] := fun x hx => by rw [List.mem_singleton.mp hx]; exact lt68 h.kd
theorem Qf.app {a b : List (List Int32)} (ha : Qf a) (hb : Qf b) : Qf (a ++ b) := fun x hx => (List.mem_append.mp hx).elim (ha x) (hb x)
theorem Qf.left {a b : List (List Int32)} (h : Qf (a ++ b)) : Qf a := fun x hx => h x (List.mem_append_left _ hx)
theorem Qf.right {a b : List (List Int32)} (h : Qf (a ++ b)) : Qf b := fun x hx => h x (List.mem_append_right _ hx)
theorem qf_mk {a b : List (List Int32)} (ha : Qf a) (hb : Qf b) {k : Int32} (hk : k = 6 ∨ k = 7) : Qf (mk k a b) := by
  unfold mk; split
  · exact ha
  · split
    · exact hb
    · refine (ha.app hb).app ?_
      intro x hx; rw [List.mem_singleton.mp hx]
      show k < 8
      rcases hk with rfl | rfl <;> decide
theorem Qf.mk {a b : List (List Int32)} (ha : Qf a) (hb : Qf b) {k : Int32} (hk : k = 6 ∨ k = 7) : Qf (mk k a b) := qf_mk ha hb hk
theorem Qf.no {a : List (List Int32)} {k : Int32} {v : Nat} (h : Qf (a ++ [rowq k v])) (hk : k = 8 ∨ k = 9) : False := by
  have := h (rowq k v) (by simp)
  exact absurd (show k < 8 from this) (by rcases hk with rfl | rfl <;> decide)
theorem qf_ng {a : List (List Int32)} (F : Fm a) (h : Qf a) : Qf (ng a) := by
  refine Fm.ind (P := fun a => Qf a → Qf (ng a)) ?_ ?_ ?_ F h
  · intro r hr _; exact Qf.leaf (negRow_leaf hr)
  · intro a k v _ _ hk _ _ h; exact (h.no hk).elim
  · intro a b k ha hb iha ihb hk _ h
    have e : ng (a ++ b ++ [row0 k]) = ng a ++ ng b ++ [row0 (k ^^^ 1)] := by unfold ng; rw [List.map_append, List.map_append, List.map_singleton, negRow_b k hk]
    rw [e]
    refine ((iha h.left.left).app (ihb h.left.right)).app ?_
    intro x hx; rw [List.mem_singleton.mp hx]
    show k ^^^ 1 < 8
    rcases hk with rfl | rfl <;> decide
theorem Qf.ng {a : List (List Int32)} (F : Fm a) (h : Qf a) : Qf (ng a) := qf_ng F h
theorem rep_leaf {v : Nat} {q r r' : List Int32} (A : Atm r) (h : rep v q r = some r') : Leaf r' := by
  unfold rep at h
  obtain ⟨_, hk, _⟩ := A
  split at h
  · split at h
    · cases h; exact Or.inr (Or.inl rfl)
    · split at h
      · cases h; exact Or.inl rfl
      · refine (stl_leaf ?_ h).1
        split <;> decide
  · exact (stl_leaf hk h).1
theorem sub_leaf {v : Nat} (hv : v < 8) {pt : Option (List Int32)} {r : List Int32} (hl : Leaf r) {f : List (List Int32)} (h : subLeaf v pt r = some f) : Fm f ∧ Qf f ∧ f.length ≤ 1 := by
  unfold subLeaf at h
  split at h
  · cases h; exact ⟨Fm.leaf hl, Qf.leaf hl, Nat.le_refl _⟩
  · rename_i hz
    split at h
    · cases h
      split
      · exact ⟨Fm.leaf (Or.inl rfl), Qf.leaf (Or.inl rfl), Nat.le_refl _⟩
      · exact ⟨Fm.leaf (Or.inr (Or.inl rfl)), Qf.leaf (Or.inr (Or.inl rfl)), Nat.le_refl _⟩
    · rename_i q
      obtain ⟨r', e, rfl⟩ := Option.map_eq_some_iff.mp h
      have := rep_leaf (leaf_atm hl hv hz) e
      exact ⟨Fm.leaf this, Qf.leaf this, Nat.le_refl _⟩
theorem subst_leaf {v : Nat} {pt : Option (List Int32)} {r : List Int32} (h : Leaf r) : subst v pt [r] = subLeaf v pt r := cata_leaf _ _ _ _ h
theorem subst_bi {v : Nat} {pt : Option (List Int32)} {a b : List (List Int32)} {k : Int32} (ha : Fm a) (hb : Fm b) (hk : k = 6 ∨ k = 7) : subst v pt (a ++ b ++ [row0 k]) = (subst v pt a).bind (fun x => (subst v pt b).bind (fun y => some (mk k x y))) := cata_bi _ _ _ _ ha hb hk
theorem subst_ok {v : Nat} (hv : v < 8) {pt : Option (List Int32)} {l : List (List Int32)} (F : Fm l) (qf : Qf l) : ∀ {f}, subst v pt l = some f → Fm f ∧ Qf f ∧ f.length ≤ l.length := by
  refine Fm.ind (P := fun l => Qf l → ∀ {f}, subst v pt l = some f → Fm f ∧ Qf f ∧ f.length ≤ l.length) ?_ ?_ ?_ F qf
  · intro r hr _ f h
    rw [subst_leaf hr] at h
    exact sub_leaf hv hr h
  · intro a k w _ _ hk _ _ h; exact (h.no hk).elim
  · intro a b k ha hb iha ihb hk _ q f h
    rw [subst_bi ha hb hk] at h
    obtain ⟨x, ex, h⟩ := Option.bind_eq_some_iff.mp h
    obtain ⟨y, ey, h⟩ := Option.bind_eq_some_iff.mp h
    cases h
    obtain ⟨x1, x2, x3⟩ := iha q.left.left ex
    obtain ⟨y1, y2, y3⟩ := ihb q.left.right ey
    have := mk_len k x y
    exact ⟨mk_fm x1 y1 hk, x2.mk y2 hk, by simp; omega⟩
theorem tkl_ok {v : Nat} (hv : v < 8) {body : List (List Int32)} (F : Fm body) (qf : Qf body) : ∀ (ps : List (List Int32)) (acc : List (List Int32)), Fm acc → Qf acc → acc.length ≤ 400 → ∀ {f}, tkl v body ps acc = some f → Fm f ∧ Qf f ∧ f.length ≤ 400
  | [], acc, h1, h2, h3, f, h => by cases h; exact ⟨h1, h2, h3⟩
  | p :: ps, acc, h1, h2, h3, f, h => by
    unfold tkl at h
    split at h
    · cases h; exact ⟨h1, h2, h3⟩
    · obtain ⟨b, eb, h⟩ := Option.bind_eq_some_iff.mp h
      obtain ⟨b1, b2, b3⟩ := subst_ok hv F qf eb
      split at h
      · rename_i hl
        exact tkl_ok hv F qf ps _ (mk_fm h1 b1 (Or.inr rfl)) (h2.mk b2 (Or.inr rfl)) hl h
      · cases h
section TAKE
variable {r1 : Int32} {c1 : Nat → Int32} {n1 : Nat} {l : List (List Int32)} {st0 : List (List (List Int32))}
def fin9 (k : Int32) (f : List (List Int32)) : List (List Int32) := if k = 9 then ng f else f
theorem fT_lk {a : List (List Int32)} (h : Fm a) : lk a = 0 ↔ a = fT := h.lk0
theorem w_145 (N : Nat) (hN : 110000 ≤ N) {pa ro : Int32} {ce : Nat → Int32} {n : Nat} {sa lo : Nat → Int32} {f : List (List Int32)} (B : Be pa ro ce n sa lo (st0 ++ [f])) (k po pp tt br : Int32) (bc : Nat → Int32) (bn : Nat) (nu : Nat → Int64) (ps : Nat → Int32) : ∃ tt' ce', f_X1_takeOut_145 N po pp tt pa ro ce n sa lo br bc bn nu ps k = some (1, po, pp, tt', pa, ro, ce', n, sa, lo, br, bc, nu, ps) ∧ Be pa ro ce' n sa lo (st0 ++ [fin9 k f]) := by
  unfold f_X1_takeOut_145 f_X1_takeOut_168 fin9
  by_cases h9 : k = 9
  · have hl := B.le
    have hn := B.2.2.1.2.2.1
    rw [flat1] at hl
    obtain ⟨ce', e, B'⟩ := b_negateLast B N (by omega)
    rw [ifb_t h9, if_pos h9, bd e]
    exact ⟨_, _, rfl, B'⟩
  · rw [ifb_f h9, if_neg h9]
    exact ⟨_, _, rfl, B⟩
theorem w_loop (N : Nat) (hN : 110000 ≤ N) (T : Tr r1 c1 n1 l) (F : Fm l) (qf : Qf l) (h400 : l.length ≤ 400) (v : Nat) (hv : v < 8) {ps : Nat → Int32} (P : Pts ps (ptsOf v l)) (hst : st0.length ≤ 199) (hfl : st0.flatten.length ≤ 9100) (kk : Int32) : ∀ (d m p : Nat) (acc : List (List Int32)) (pp tt pa ro : Int32) (ce : Nat → Int32) (n : Nat) (sa lo : Nat → Int32) (nu : Nat → Int64), p + d = (ptsOf v l).length + 1 → 1 ≤ p → Be pa ro ce n sa lo (st0 ++ [acc]) → 12000 ≤ n → acc.length ≤ 400 → acc ≠ fT → ∃ an pp' tt' pa' ro' ce' n' sa' lo' nu', f_X1_takeOut_47 N (m + d + 1) (Int32.ofNat ((ptsOf v l).length + 1)) pp tt pa ro ce n sa lo r1 c1 n1 nu ps kk (Int32.ofNat v) (Int32.ofNat p) = some (an, Int32.ofNat ((ptsOf v l).length + 1), pp', tt', pa', ro', ce', n', sa', lo', r1, c1, nu', ps) ∧ 12000 ≤ n' ∧ ((an = 1 ∧ ∃ f, tkl v l ((ptsOf v l).drop (p - 1)) acc = some f ∧ Be pa' ro' ce' n' sa' lo' (st0 ++ [fin9 kk f])) ∨ (an = 0 ∧ tkl v l ((ptsOf v l).drop (p - 1)) acc = none ∧ ∃ st', Be pa' ro' ce' n' sa' lo' st'))
  | 0, m, p, acc, pp, tt, pa, ro, ce, n, sa, lo, nu, hp, hp1, B, hn, ha, hT => by
    have hpl := (pts_bd F hv).2
    rw [f_X1_takeOut_47]; dsimp only
    rw [ifb_t (by rw [i_le _ _ (by omega) (by omega)]; omega), List.drop_eq_nil_of_le (by omega)]
    obtain ⟨tt', ce', e, B'⟩ := w_145 N hN B kk (Int32.ofNat ((ptsOf v l).length + 1)) pp tt r1 c1 n1 nu ps
    exact ⟨_, _, _, _, _, _, _, _, _, _, e, hn, Or.inl ⟨rfl, acc, rfl, B'⟩⟩
  | d + 1, m, p, acc, pp, tt, pa, ro, ce, n, sa, lo, nu, hp, hp1, B, hn, ha, hT => by
    obtain ⟨hpb, hpl⟩ := pts_bd F hv
    have hidx : p - 1 < (ptsOf v l).length := by omega
    have hpp : p - 1 + 1 = p := by omega
    rw [show m + (d + 1) + 1 = (m + d + 1) + 1 from by omega, f_X1_takeOut_47]; dsimp only
    have hf1 := flat1 st0 acc
    rw [ifb_f (by rw [i_le _ _ (by omega) (by omega)]; omega), T.1, i_p1]
    obtain ⟨ce1, n', e1, T1, hc1, hnn, hn1⟩ := t_reserve B.2.2.1 N (l.length + 1) (by rw [hf1]; omega) hn
    rw [bd e1, ← T.1]
    have B1 := B.grow T1
    unfold f_X1_takeOut_84 f_X1_takeOut_96
    rw [ifb_f (show ¬ ((1 : Int32) = 0) by decide)]
    have hpt : PtAt ps p (some ((ptsOf v l)[p - 1])) := by
      refine ⟨by omega, by omega, hpb _ (List.getElem_mem hidx), fun j hj => ?_⟩
      have := P.2 (p - 1) j hidx hj
      rw [show p - 1 + 1 = p from by omega] at this
      rw [this]
      congr 1
      simp [List.getD_eq_getElem?_getD, hidx]
    obtain ⟨an, pa2, ro2, ce2, sa2, lo2, nu2, e2, hcase⟩ := u_putIn (st0 := st0 ++ [acc]) (n := n') N hN T F qf h400 v p hv hpt (by rw [hf1] at hc1 ⊢; omega) (by simp; omega) pa ro ce1 sa lo nu B1
    rw [bd e2, List.drop_eq_getElem_cons hidx, hpp]
    rcases hcase with ⟨rfl, b, hb, hbl, B2⟩ | ⟨rfl, hb, st', B2⟩
    · rw [ifb_f (show ¬ ((1 : Int32) = 0) by decide), ifb_f (by rw [show (0 : Int32) = Int32.ofNat 0 from rfl, i_eq _ _ (by omega) (by omega)]; omega)]
      have B2' : Be pa2 ro2 ce2 n' sa2 lo2 (st0 ++ [acc, b]) := by simpa using B2
      rw [hf1] at hc1
      obtain ⟨pa3, ro3, ce3, lo3, e3, B3⟩ := b_join B2' N (by omega) (k := 7) (Or.inr rfl) (by omega)
      rw [bd e3]
      unfold f_X1_takeOut_111
      have hmf := B3.drop1.1
      have hml := B3.le
      rw [flat1] at hml
      rw [bd (b_lastNodes B3 N)]
      unfold tkl
      rw [if_neg hT, hb, Option.bind_some]
      by_cases h4 : (mk 7 acc b).length ≤ 400
      · rw [ifb_t (by rw [show (400 : Int32) = Int32.ofNat 400 from rfl, i_le _ _ (by omega) (by omega)]; exact h4), bd (b_lastKind B3 N), if_pos h4]
        by_cases hk0 : lk (mk 7 acc b) = 0
        · rw [ifb_t hk0]
          have eT := hmf.lk0.mp hk0
          obtain ⟨tt', ce', e, B'⟩ := w_145 N hN B3 kk (Int32.ofNat ((ptsOf v l).length + 1)) (pp + 1) tt r1 c1 n1 nu2 ps
          refine ⟨_, _, _, _, _, _, _, _, _, _, e, Nat.le_trans hn hnn, Or.inl ⟨rfl, mk 7 acc b, ?_, B'⟩⟩
          cases hd : (ptsOf v l).drop p with
          | nil => rfl
          | cons q qs => unfold tkl; rw [if_pos eT]
        · rw [ifb_f hk0, i_p1]
          have := w_loop N hN T F qf h400 v hv P hst hfl kk d m (p + 1) (mk 7 acc b) (pp + 1) tt pa3 ro3 ce3 n' sa2 lo3 nu2 (by omega) (by omega) B3 (by omega) h4 (fun e => hk0 (hmf.lk0.mpr e))
          rw [show p + 1 - 1 = p from rfl] at this
          exact this
      · rw [ifb_f (by rw [show (400 : Int32) = Int32.ofNat 400 from rfl, i_le _ _ (by omega) (by omega)]; exact h4), if_neg h4]
        exact ⟨_, _, _, _, _, _, _, _, _, _, rfl, Nat.le_trans hn hnn, Or.inr ⟨rfl, rfl, _, B3⟩⟩
    · rw [ifb_t rfl]
      refine ⟨_, _, _, _, _, _, _, _, _, _, rfl, Nat.le_trans hn hnn, Or.inr ⟨rfl, ?_, st', B2⟩⟩
      unfold tkl
      rw [if_neg hT, hb]; rfl
end TAKE
section TAKE2
variable {st0 : List (List (List Int32))}
theorem w_takeOut29 (N : Nat) (hN : 110000 ≤ N) {pa ro : Int32} {ce : Nat → Int32} {n : Nat} {sa lo : Nat → Int32} {a : List (List Int32)} (B : Be pa ro ce n sa lo (st0 ++ [a])) (qf : Qf a) (h400 : a.length ≤ 400) (hn : 12000 ≤ n) (hst : st0.length ≤ 199) (hfl : st0.flatten.length ≤ 9100) (kk : Int32) (v : Nat) (hv : v < 8) (po pp tt br : Int32) (bc : Nat → Int32) (nu : Nat → Int64) (ps : Nat → Int32) : ∃ an po' pp' tt' pa' ro' ce' n' sa' lo' br' bc' nu' ps', f_X1_takeOut_29 N po pp tt pa ro ce n sa lo br bc 4000 nu ps kk (Int32.ofNat v) = some (an, po', pp', tt', pa', ro', ce', n', sa', lo', br', bc', nu', ps') ∧ 12000 ≤ n' ∧ ((an = 1 ∧ ∃ f, tk0 v a = some f ∧ Be pa' ro' ce' n' sa' lo' (st0 ++ [fin9 kk f])) ∨ (an = 0 ∧ tk0 v a = none ∧ ∃ st', Be pa' ro' ce' n' sa' lo' st')) := by
  have F := B.drop1.1
  have hfle := B.le
  rw [flat1] at hfle
  obtain ⟨bc', e1, T, B0⟩ := b_moveLast (p1 := br) (c1 := bc) (n1 := 4000) B N (by omega) (by omega)
  obtain ⟨ps', e2, P⟩ := p_collect N (by omega) T h400 v hv po ps
  unfold f_X1_takeOut_29
  rw [bd e1, bd e2]
  obtain ⟨hpb, hpl⟩ := pts_bd F hv

  obtain ⟨N', hN'⟩ : ∃ N', N = N' + (ptsOf v a).length + 1 + 1 := ⟨N - (ptsOf v a).length - 2, by omega⟩
  have hu : f_X1_takeOut_47 N N (Int32.ofNat ((ptsOf v a).length + 1)) pp tt (Int32.ofNat st0.length) (Int32.ofNat st0.flatten.length) ce n sa lo (Int32.ofNat a.length) bc' 4000 nu ps' kk (Int32.ofNat v) 0 = f_X1_takeOut_47 N (N' + (ptsOf v a).length + 1 + 1) (Int32.ofNat ((ptsOf v a).length + 1)) pp tt (Int32.ofNat st0.length) (Int32.ofNat st0.flatten.length) ce n sa lo (Int32.ofNat a.length) bc' 4000 nu ps' kk (Int32.ofNat v) 0 := by rw [← hN']
  show ∃ an po' pp' tt' pa' ro' ce' n' sa' lo' br' bc'' nu' ps'', f_X1_takeOut_47 N N (Int32.ofNat ((ptsOf v a).length + 1)) pp tt (Int32.ofNat st0.length) (Int32.ofNat st0.flatten.length) ce n sa lo (Int32.ofNat a.length) bc' 4000 nu ps' kk (Int32.ofNat v) 0 = _ ∧ _
  rw [hu, f_X1_takeOut_47]; dsimp only
  rw [ifb_f (by rw [show (0 : Int32) = Int32.ofNat 0 from rfl, i_le _ _ (by omega) (by omega)]; omega), i_p1]
  obtain ⟨ce1, n', e3, T1, hc1, hnn, hn1⟩ := t_reserve B0.2.2.1 N (a.length + 1) (by omega) hn
  rw [bd e3]
  have B1 := B0.grow T1
  unfold f_X1_takeOut_84 f_X1_takeOut_96
  rw [ifb_f (show ¬ ((1 : Int32) = 0) by decide)]
  obtain ⟨an, pa2, ro2, ce2, sa2, lo2, nu2, e4, hcase⟩ := u_putIn (st0 := st0) (n := n') N hN T F qf h400 v 0 hv (ps := ps') (pt := none) rfl (by omega) (by omega) _ _ ce1 sa lo nu B1
  rw [show Int32.ofNat 0 = 0 from rfl] at e4
  rw [bd e4]
  unfold tk0
  rcases hcase with ⟨rfl, b, hb, hbl, B2⟩ | ⟨rfl, hb, st', B2⟩
  · rw [ifb_f (show ¬ ((1 : Int32) = 0) by decide), ifb_t rfl, hb, Option.bind_some, if_pos (by omega)]
    unfold f_X1_takeOut_111
    have hmf := B2.drop1.1
    rw [bd (b_lastNodes B2 N), ifb_t (by rw [show (400 : Int32) = Int32.ofNat 400 from rfl, i_le _ _ (by omega) (by omega)]; omega), bd (b_lastKind B2 N)]
    by_cases hk0 : lk b = 0
    · rw [ifb_t hk0]
      have eT := hmf.lk0.mp hk0
      obtain ⟨tt', ce', e, B'⟩ := w_145 N hN B2 kk (Int32.ofNat ((ptsOf v a).length + 1)) (pp + 1) tt (Int32.ofNat a.length) bc' 4000 nu2 ps'
      refine ⟨_, _, _, _, _, _, _, _, _, _, _, _, _, _, e, Nat.le_trans hn hnn, Or.inl ⟨rfl, b, ?_, B'⟩⟩
      cases hd : ptsOf v a with
      | nil => rfl
      | cons q qs => unfold tkl; rw [if_pos eT]
    · rw [ifb_f hk0]
      obtain ⟨an', pp', tt', pa', ro', ce', n2, sa', lo', nu', e5, hn2, hc⟩ := w_loop N hN T F qf h400 v hv P hst hfl kk (ptsOf v a).length N' 1 b (pp + 1) tt pa2 ro2 ce2 n' sa2 lo2 nu2 (by omega) (by omega) B2 (Nat.le_trans hn hnn) (by omega) (fun e => hk0 (hmf.lk0.mpr e))
      rw [show (1 : Nat) - 1 = 0 from rfl, List.drop_zero] at hc
      exact ⟨an', _, pp', tt', pa', ro', ce', n2, sa', lo', _, _, nu', _, e5, hn2, hc⟩
  · rw [ifb_t rfl, hb]
    exact ⟨_, _, _, _, _, _, _, _, _, _, _, _, _, _, rfl, Nat.le_trans hn hnn, Or.inr ⟨rfl, rfl, st', B2⟩⟩
theorem tk0_ok {v : Nat} (hv : v < 8) {a f : List (List Int32)} (F : Fm a) (qf : Qf a) (h : tk0 v a = some f) : Fm f ∧ Qf f ∧ f.length ≤ 400 := by
  unfold tk0 at h
  obtain ⟨b, eb, h⟩ := Option.bind_eq_some_iff.mp h
  obtain ⟨b1, b2, b3⟩ := subst_ok hv F qf eb
  split at h
  · rename_i hl
    exact tkl_ok hv F qf _ _ b1 b2 hl h
  · cases h
theorem ng_len (a : List (List Int32)) : (ng a).length = a.length := by unfold ng; simp
theorem tkq_ok {k : Int32} {v : Nat} (hv : v < 8) {a f : List (List Int32)} (F : Fm a) (qf : Qf a) (h4 : a.length ≤ 400) (h : tkq k v a = some f) : Fm f ∧ Qf f ∧ f.length ≤ 400 := by
  unfold tkq at h
  split at h
  · cases h; exact ⟨F, qf, h4⟩
  · split at h
    · obtain ⟨g, eg, rfl⟩ := Option.map_eq_some_iff.mp h
      obtain ⟨g1, g2, g3⟩ := tk0_ok hv (ng_fm F).1 (qf.ng F) eg
      exact ⟨(ng_fm g1).1, g2.ng g1, by rw [ng_len]; exact g3⟩
    · exact tk0_ok hv F qf h
theorem w_takeOut (N : Nat) (hN : 110000 ≤ N) {pa ro : Int32} {ce : Nat → Int32} {n : Nat} {sa lo : Nat → Int32} {a : List (List Int32)} (B : Be pa ro ce n sa lo (st0 ++ [a])) (qf : Qf a) (h400 : a.length ≤ 400) (hn : 12000 ≤ n) (hst : st0.length ≤ 199) (hfl : st0.flatten.length ≤ 9100) (kk : Int32) (v : Nat) (hv : v < 8) (po pp tt br : Int32) (bc : Nat → Int32) (nu : Nat → Int64) (ps : Nat → Int32) : ∃ an po' pp' tt' pa' ro' ce' n' sa' lo' br' bc' nu' ps', f_X1_takeOut N po pp tt pa ro ce n sa lo br bc 4000 nu ps kk (Int32.ofNat v) = some (an, po', pp', tt', pa', ro', ce', n', sa', lo', br', bc', nu', ps') ∧ 12000 ≤ n' ∧ ((an = 1 ∧ ∃ f, tkq kk v a = some f ∧ Be pa' ro' ce' n' sa' lo' (st0 ++ [f])) ∨ (an = 0 ∧ tkq kk v a = none ∧ ∃ st', Be pa' ro' ce' n' sa' lo' st')) := by
  have F := B.drop1.1
  have hl := B.le
  have hn9 := B.2.2.1.2.2.1
  rw [flat1] at hl
  unfold f_X1_takeOut tkq
  rw [bd (b_lastLoose B N)]
  by_cases hz : ((fv a >>> (Int32.ofNat v &&& 31)) &&& 1) = 0
  · rw [ifb_t hz, if_pos hz]
    exact ⟨_, _, _, _, _, _, _, _, _, _, _, _, _, _, rfl, hn, Or.inl ⟨rfl, a, rfl, B⟩⟩
  · rw [ifb_f hz, if_neg hz]
    by_cases h9 : kk = 9
    · obtain ⟨ce', e, B'⟩ := b_negateLast B N (by omega)
      rw [ifb_t h9, if_pos h9, bd e]
      obtain ⟨an, po', pp', tt', pa', ro', ce2, n', sa', lo', br', bc', nu', ps', e2, hn2, hc⟩ := w_takeOut29 N hN B' (qf.ng F) (by rw [ng_len]; exact h400) hn hst hfl kk v hv po pp tt br bc nu ps
      refine ⟨an, po', pp', tt', pa', ro', ce2, n', sa', lo', br', bc', nu', ps', e2, hn2, ?_⟩
      rcases hc with ⟨h1, f, h2, h3⟩ | ⟨h1, h2, h3⟩
      · refine Or.inl ⟨h1, ng f, by rw [h2]; rfl, ?_⟩
        unfold fin9 at h3; rw [if_pos h9] at h3; exact h3
      · exact Or.inr ⟨h1, by rw [h2]; rfl, h3⟩
    · rw [ifb_f h9, if_neg h9]
      obtain ⟨an, po', pp', tt', pa', ro', ce2, n', sa', lo', br', bc', nu', ps', e2, hn2, hc⟩ := w_takeOut29 N hN B qf h400 hn hst hfl kk v hv po pp tt br bc nu ps
      refine ⟨an, po', pp', tt', pa', ro', ce2, n', sa', lo', br', bc', nu', ps', e2, hn2, ?_⟩
      rcases hc with ⟨h1, f, h2, h3⟩ | h
      · refine Or.inl ⟨h1, f, h2, ?_⟩
        unfold fin9 at h3; rw [if_neg h9] at h3; exact h3
      · exact Or.inr h
end TAKE2
def rLeaf (r : List Int32) : Option (List (List Int32)) := some [r]
def rQu (r : List Int32) (a : List (List Int32)) : Option (List (List Int32)) := tkq (kd r) (qv r).toNatClampNeg a
def rBi (r : List Int32) (a b : List (List Int32)) : Option (List (List Int32)) := if (mk (kd r) a b).length ≤ 400 then some (mk (kd r) a b) else none
def frd (l : List (List Int32)) : Option (List (List Int32)) := cata rLeaf (oQu rQu) (oBi rBi) none l
def RunOk (l : List (List Int32)) : Prop := l.length ≤ 400 ∧ (∀ k it, k ≤ l.length → Stk rLeaf rQu rBi l k it → it.flatten.length ≤ 9100) ∧ (Qf l ∨ l.length ≤ 390)
section RUN
variable {r1 : Int32} {c1 : Nat → Int32} {n1 : Nat} {l : List (List Int32)}
theorem x_loop (N : Nat) (hN : 110000 ≤ N) (T : Tr r1 c1 n1 l) (F : Fm l) (O : RunOk l) : ∀ (d m k : Nat) (it : List (List (List Int32))) (po pp tt pa ro : Int32) (ce : Nat → Int32) (n : Nat) (sa lo : Nat → Int32) (br : Int32) (bc : Nat → Int32) (nu : Nat → Int64) (ps : Nat → Int32), k + d = l.length → Be pa ro ce n sa lo it → 12000 ≤ n → Stk rLeaf rQu rBi l k it → (∀ x ∈ it, Qf x ∧ x.length ≤ 400) → ∃ an po' pp' tt' pa' ro' ce' n' sa' lo' br' bc' nu' ps', f_X1_run_19 N (m + d + 1) po pp tt pa ro ce n sa lo br bc 4000 nu ps r1 c1 n1 (Int32.ofNat k) = some (an, po', pp', tt', pa', ro', ce', n', sa', lo', br', bc', nu', ps') ∧ 12000 ≤ n' ∧ ((an = 1 ∧ ∃ f, frd l = some f ∧ Qf f ∧ f.length ≤ 400 ∧ Be pa' ro' ce' n' sa' lo' [f]) ∨ (an = 0 ∧ frd l = none ∧ ∃ st', Be pa' ro' ce' n' sa' lo' st'))
  | 0, m, k, it, po, pp, tt, pa, ro, ce, n, sa, lo, br, bc, nu, ps, hk, B, hn, S, hq => by
    have h4 := O.1
    have hkl : k = l.length := by omega
    subst hkl
    rw [f_X1_run_19]; dsimp only
    rw [ifb_t (by rw [T.1, i_le _ _ (by omega) (by omega)]; omega)]
    obtain ⟨a, rfl, e⟩ := S.last F none
    have := hq a List.mem_cons_self
    exact ⟨_, _, _, _, _, _, _, _, _, _, _, _, _, _, rfl, hn, Or.inl ⟨rfl, a, e, this.1, this.2, B⟩⟩
  | d + 1, m, k, it, po, pp, tt, pa, ro, ce, n, sa, lo, br, bc, nu, ps, hk, B, hn, S, hq => by
    have h4 := O.1
    have hkl : k < l.length := by omega
    have hht := S.ht F (by omega)
    have hfl := O.2.1 k it (by omega) S
    have hn9 := B.2.2.1.2.2.1
    rw [show m + (d + 1) + 1 = (m + d + 1) + 1 from by omega, f_X1_run_19]; dsimp only
    rw [ifb_f (by rw [T.1, i_le _ _ (by omega) (by omega)]; omega), bd (t_kind T N k hkl), lc_getD _ hkl]
    obtain ⟨ce1, n', e1, T1, hc1, hnn, hn1⟩ := t_reserve B.2.2.1 N 1 (by omega) hn
    rw [show (1 : Int32) = Int32.ofNat 1 from rfl, bd e1]
    have B1 := B.grow T1
    have hn' : 12000 ≤ n' := Nat.le_trans hn hnn
    have hkd : (l[k]).getD 0 0 = kd l[k] := rfl
    rw [hkd]
    unfold f_X1_run_44 f_X1_run_95
    rw [ifb_f (show ¬ ((1 : Int32) = 0) by decide)]

    have next : ∀ (it0 : List (List (List Int32))) (f : List (List Int32)) (po pp tt pa ro : Int32) (ce : Nat → Int32) (n : Nat) (sa lo : Nat → Int32) (br : Int32) (bc : Nat → Int32) (nu : Nat → Int64) (ps : Nat → Int32), Be pa ro ce n sa lo (it0 ++ [f]) → 12000 ≤ n → f.length ≤ 401 → ((f.length ≤ 400 ∧ Stk rLeaf rQu rBi l (k + 1) (it0 ++ [f]) ∧ ∀ x ∈ it0 ++ [f], Qf x ∧ x.length ≤ 400) ∨ (400 < f.length ∧ frd l = none)) → ∃ an po' pp' tt' pa' ro' ce' n' sa' lo' br' bc' nu' ps', f_X1_run_100 (f_X1_run_19 N (m + d + 1)) N po pp tt pa ro ce n sa lo br bc 4000 nu ps r1 c1 n1 (Int32.ofNat k) = some (an, po', pp', tt', pa', ro', ce', n', sa', lo', br', bc', nu', ps') ∧ 12000 ≤ n' ∧ ((an = 1 ∧ ∃ f, frd l = some f ∧ Qf f ∧ f.length ≤ 400 ∧ Be pa' ro' ce' n' sa' lo' [f]) ∨ (an = 0 ∧ frd l = none ∧ ∃ st', Be pa' ro' ce' n' sa' lo' st')) := by
      intro it0 f po pp tt pa ro ce n sa lo br bc nu ps Bf hnf hlen hcase
      unfold f_X1_run_100
      rw [bd (b_lastNodes Bf N)]
      rcases hcase with ⟨h1, h2, h3⟩ | ⟨h1, h2⟩
      · rw [ifb_t (by rw [show (400 : Int32) = Int32.ofNat 400 from rfl, i_le _ _ (by omega) (by omega)]; exact h1), i_p1]
        exact x_loop N hN T F O d m (k + 1) (it0 ++ [f]) po pp tt pa ro ce n sa lo br bc nu ps (by omega) Bf hnf h2 h3
      · rw [ifb_f (by rw [show (400 : Int32) = Int32.ofNat 400 from rfl, i_le _ _ (by omega) (by omega)]; omega)]
        exact ⟨_, _, _, _, _, _, _, _, _, _, _, _, _, _, rfl, hnf, Or.inr ⟨rfl, h2, _, Bf⟩⟩
    rcases at_row rLeaf (oQu rQu) (oBi rBi) F hkl with hlf | ⟨kk, w, x, t, he, hkk, hw, hs⟩ | ⟨kk, x, y, t, he, hkk, hs⟩
    · have h6 : ¬ (6 ≤ kd l[k]) := fun g => absurd hlf.kd ((i_not_lt _ _).mpr g)
      rw [ifb_f h6]
      obtain ⟨pa', ro', ce', sa', lo', e, B2⟩ := b_pushRow B1 T N (by omega) (by omega) (by omega) k hkl hlf
      rw [bd e]
      refine next it [l[k]] _ _ _ _ _ _ _ _ _ _ _ _ _ B2 hn' (by simp) (Or.inl ⟨by simp, S.leaf hkl hlf rfl, ?_⟩)
      intro z hz
      rcases List.mem_append.mp hz with hz | hz
      · exact hq z hz
      · rw [List.mem_singleton.mp hz]; exact ⟨Qf.leaf hlf, by simp⟩
    · have S' := S
      unfold Stk at S'
      rw [hs] at S'
      obtain ⟨i0, a, rfl, _, _⟩ := rev_one S'.symm
      have hk8 : kd l[k] = kk := by rw [he]; rfl
      rw [hk8, ifb_t (by rcases hkk with rfl | rfl <;> decide), ifb_t (by rcases hkk with rfl | rfl <;> decide), show (0 : Int32) = Int32.ofNat 0 from rfl, bd (t_number T N k 0 hkl (by omega)), lc_getD _ hkl]
      have hv0 : (l[k]).getD (1 + 0) 0 = Int32.ofNat w := by rw [he]; rfl
      rw [hv0]
      have hqa := hq a (by simp)
      have hnq : ¬ Qf l := fun g => by
        have := g l[k] (List.getElem_mem hkl)
        rw [he] at this
        exact absurd (show kk < 8 from this) (by rcases hkk with rfl | rfl <;> decide)
      have h39 : l.length ≤ 390 := O.2.2.resolve_left hnq
      rw [List.length_append, List.length_singleton] at hht
      rw [flat1] at hfl
      obtain ⟨an, po', pp', tt', pa', ro', ce', n2, sa', lo', br', bc', nu', ps', e2, hn2, hc⟩ := w_takeOut N hN B1 hqa.1 hqa.2 hn' (by omega) (by omega) kk w hw po pp tt br bc nu ps
      rw [bd e2]
      have hrow := S.qu hkl he hkk
      have ew : rQu (rowq kk w) a = tkq kk w a := by
        unfold rQu
        have e1 : kd (rowq kk w) = kk := rfl
        have e2 : qv (rowq kk w) = Int32.ofNat w := rfl
        rw [e1, e2, i_cl _ (by omega)]
      rcases hc with ⟨rfl, f, h2, h3⟩ | ⟨rfl, h2, st', h3⟩
      · rw [ifb_f (show ¬ ((1 : Int32) = Int32.ofNat 0) by decide)]
        obtain ⟨f1, f2, f3⟩ := tkq_ok hw B.drop1.1 hqa.1 hqa.2 h2
        refine next i0 f _ _ _ _ _ _ _ _ _ _ _ _ _ h3 hn2 (by omega) (Or.inl ⟨f3, ?_, ?_⟩)
        · unfold Stk; rw [hrow, ew, h2]; simp
        · intro z hz
          rcases List.mem_append.mp hz with hz | hz
          · exact hq z (List.mem_append_left _ hz)
          · rw [List.mem_singleton.mp hz]; exact ⟨f2, f3⟩
      · rw [ifb_t (show (0 : Int32) = Int32.ofNat 0 by decide)]
        refine ⟨_, _, _, _, _, _, _, _, _, _, _, _, _, _, rfl, hn2, Or.inr ⟨rfl, ?_, st', h3⟩⟩
        apply fold_none rLeaf rQu rBi F none (k + 1)
        rw [hrow, ew, h2]; exact List.mem_cons_self
    · have S' := S
      unfold Stk at S'
      rw [hs] at S'
      obtain ⟨i0, a, b, rfl, _, _, _⟩ := rev_two S'.symm
      have hk8 : kd l[k] = kk := by rw [he]; rfl
      rw [hk8, ifb_t (by rcases hkk with rfl | rfl <;> decide), ifb_f (by rcases hkk with rfl | rfl <;> decide)]
      rw [flat2] at hfl hc1
      obtain ⟨pa', ro', ce', lo', e, B2⟩ := b_join B1 N (by omega) hkk (by omega)
      rw [bd e]
      have hrow := S.bi hkl he hkk
      have eg : rBi (row0 kk) a b = if (mk kk a b).length ≤ 400 then some (mk kk a b) else none := rfl
      have hqa := hq a (by simp)
      have hqb := hq b (by simp)
      by_cases hm : (mk kk a b).length ≤ 400
      · refine next i0 (mk kk a b) _ _ _ _ _ _ _ _ _ _ _ _ _ B2 hn' (by omega) (Or.inl ⟨hm, ?_, ?_⟩)
        · unfold Stk; rw [hrow, eg, if_pos hm]; simp
        · intro z hz
          rcases List.mem_append.mp hz with hz | hz
          · exact hq z (List.mem_append_left _ hz)
          · rw [List.mem_singleton.mp hz]; exact ⟨hqa.1.mk hqb.1 hkk, hm⟩
      · have hml := B2.le
        rw [flat1] at hml
        have hlen2 : 400 < (mk kk a b).length ∧ frd l = none := ⟨by omega, by
          apply fold_none rLeaf rQu rBi F none (k + 1)
          rw [hrow, eg, if_neg hm]; exact List.mem_cons_self⟩
        unfold f_X1_run_100
        rw [bd (b_lastNodes B2 N), ifb_f (by rw [show (400 : Int32) = Int32.ofNat 400 from rfl, i_le _ _ (by omega) (by omega)]; omega)]
        exact ⟨_, _, _, _, _, _, _, _, _, _, _, _, _, _, rfl, hn', Or.inr ⟨rfl, hlen2.2, _, B2⟩⟩
theorem x_run (N : Nat) (hN : 110000 ≤ N) (T : Tr r1 c1 n1 l) (F : Fm l) (O : RunOk l) (po pp tt pa ro : Int32) (ce : Nat → Int32) (n : Nat) (sa lo : Nat → Int32) (br : Int32) (bc : Nat → Int32) (nu : Nat → Int64) (ps : Nat → Int32) {st : List (List (List Int32))} (B : Be pa ro ce n sa lo st) (hn : 12000 ≤ n) : ∃ an po' pp' tt' pa' ro' ce' n' sa' lo' br' bc' nu' ps', f_X1_run N po pp tt pa ro ce n sa lo br bc 4000 nu ps r1 c1 n1 = some (an, po', pp', tt', pa', ro', ce', n', sa', lo', br', bc', nu', ps') ∧ 12000 ≤ n' ∧ ((an = 1 ∧ ∃ f, frd l = some f ∧ Qf f ∧ f.length ≤ 400 ∧ Be pa' ro' ce' n' sa' lo' [f]) ∨ (an = 0 ∧ frd l = none ∧ ∃ st', Be pa' ro' ce' n' sa' lo' st')) := by
  have h4 := O.1
  unfold f_X1_run
  obtain ⟨e, B0⟩ := b_begin (st' := []) B N
  rw [bd e]
  have := x_loop N hN T F O l.length (N - l.length - 1) 0 [] po 0 0 0 0 ce n sa lo br bc nu ps (by omega) B0 hn Stk.zero (fun x hx => absurd hx List.not_mem_nil)
  rw [show N - l.length - 1 + l.length + 1 = N from by omega] at this
  exact this
end RUN
def CF (fr : Int32) (fc : Nat → Int32) (f : List (List Int32)) : Prop := Tr fr fc 4000 f ∧ Fm f ∧ f.length ≤ 400
theorem y_become {pa ro : Int32} {ce : Nat → Int32} {n : Nat} {sa lo : Nat → Int32} {f : List (List Int32)} (B : Be pa ro ce n sa lo [f]) (h4 : f.length ≤ 400) (N : Nat) (los fr : Int32) (fc : Nat → Int32) : ∃ fc', f_X6_become N los fr fc 4000 pa ro ce n lo = some (fv f, Int32.ofNat f.length, fc') ∧ CF (Int32.ofNat f.length) fc' f := by
  have B' : Be pa ro ce n sa lo ([] ++ [f]) := B
  have T : Tr ro ce n f := by have := B.2.2.1; simpa using this
  have hr := T.1
  obtain ⟨fc', e, T'⟩ := t_become (r := fr) (c := fc) (n := 4000) (by omega) T N 0 f.length (by omega) (Nat.le_refl _) (by omega)
  rw [Nat.sub_zero, List.drop_zero, List.take_length] at T'
  rw [Nat.sub_zero, ← hr] at e
  refine ⟨fc', ?_, T', B'.drop1.1, h4⟩
  unfold f_X6_become
  rw [show (0 : Int32) = Int32.ofNat 0 from rfl, bd e, bd (b_lastLoose B' N), hr]
theorem y_frees (N : Nat) (hN : 110000 ≤ N) {fr : Int32} {fc : Nat → Int32} {f : List (List Int32)} (C : CF fr fc f) (O : RunOk f) (los po pp tt pa ro : Int32) (ce : Nat → Int32) (n : Nat) (sa lo : Nat → Int32) (br : Int32) (bc : Nat → Int32) (nu : Nat → Int64) (ps : Nat → Int32) {st : List (List (List Int32))} (B : Be pa ro ce n sa lo st) (hn : 12000 ≤ n) : ∃ an los' po' pp' tt' pa' ro' ce' n' sa' lo' br' bc' nu' ps' fr' fc', f_X6_frees N los po pp tt pa ro ce n sa lo br bc 4000 nu ps fr fc 4000 = some (an, los', po', pp', tt', pa', ro', ce', n', sa', lo', br', bc', nu', ps', fr', fc') ∧ 12000 ≤ n' ∧ (∃ st', Be pa' ro' ce' n' sa' lo' st') ∧ ((∃ g, frd f = some g ∧ Qf g ∧ an = Int32.ofNat g.length ∧ los' = fv g ∧ CF fr' fc' g) ∨ (frd f = none ∧ an = -2 ∧ los' = los ∧ fr' = fr ∧ fc' = fc)) := by
  obtain ⟨T, F, h4⟩ := C
  obtain ⟨an, po', pp', tt', pa', ro', ce', n', sa', lo', br', bc', nu', ps', e, hn', hc⟩ := x_run N hN T F O po pp tt pa ro ce n sa lo br bc nu ps B hn
  unfold f_X6_frees f_X6_frees_11
  rw [bd e]
  rcases hc with ⟨rfl, g, h1, h2, h3, B'⟩ | ⟨rfl, h1, st', B'⟩
  · obtain ⟨fc', e2, C'⟩ := y_become B' h3 N los fr fc
    rw [ifb_f (show ¬ ((1 : Int32) = 0) by decide), bd e2]
    exact ⟨_, _, _, _, _, _, _, _, _, _, _, _, _, _, _, _, _, rfl, hn', ⟨_, B'⟩, Or.inl ⟨g, h1, h2, rfl, rfl, C'⟩⟩
  · rw [ifb_t rfl]
    exact ⟨_, _, _, _, _, _, _, _, _, _, _, _, _, _, _, _, _, rfl, hn', ⟨_, B'⟩, Or.inr ⟨h1, rfl, rfl, rfl, rfl⟩⟩
theorem y_not (N : Nat) (hN : 1000 ≤ N) {fr : Int32} {fc : Nat → Int32} {f : List (List Int32)} (C : CF fr fc f) : ∃ fc', f_X6_not N fr fc 4000 = some (Int32.ofNat f.length, fc') ∧ CF fr fc' (ng f) := by
  obtain ⟨T, F, h4⟩ := C
  obtain ⟨c', e, T'⟩ := t_negate T N 0 f.length (by omega) (by omega) (Nat.le_refl _)
  have e2 : f.take 0 ++ ((f.drop 0).take (f.length - 0)).map negRow ++ f.drop f.length = ng f := by simp [ng]
  rw [e2] at T'
  have hr := T.1
  rw [← hr] at e
  refine ⟨c', ?_, T', (ng_fm F).1, by rw [ng_len]; exact h4⟩
  unfold f_X6_not
  rw [show (0 : Int32) = Int32.ofNat 0 from rfl, bd e, hr]
def Ou (le : Int32) (ke : Nat → Int32) (t : List Int32) : Prop := le = Int32.ofNat t.length ∧ t.length ≤ 1000000 ∧ ∀ i, i < t.length → i < 12000 → ke i = vp_nar .byte (t.getD i 0).toInt8.toInt32
theorem o_letter {le : Int32} {ke : Nat → Int32} {t : List Int32} (O : Ou le ke t) (N : Nat) (h : t.length + 1 ≤ 1000000) (x : Int32) : ∃ ke', f_X3_letter N le ke x = some (Int32.ofNat (t.length + 1), ke') ∧ Ou (Int32.ofNat (t.length + 1)) ke' (t ++ [x]) := by
  obtain ⟨rfl, h1, h2⟩ := O
  unfold f_X3_letter f_X3_letter_21
  by_cases hl : 12000 ≤ t.length
  · rw [ifb_t (by rw [show (12000 : Int32) = Int32.ofNat 12000 from rfl, i_le _ _ (by omega) (by omega)]; exact hl), i_p1]
    refine ⟨ke, rfl, by simp, by simp; omega, ?_⟩
    intro i hi h12
    rw [h2 i (by omega) h12, List.getD_eq_getElem?_getD, List.getD_eq_getElem?_getD, List.getElem?_append_left (by omega)]
  · rw [ifb_f (by rw [show (12000 : Int32) = Int32.ofNat 12000 from rfl, i_le _ _ (by omega) (by omega)]; exact hl), ix_n _ _ _ (by omega) (by omega), i_cl _ (by omega), i_p1]
    refine ⟨_, rfl, by simp, by simp; omega, ?_⟩
    intro i hi h12
    rw [List.length_append, List.length_singleton] at hi
    by_cases hi2 : i < t.length
    · rw [upd_ne _ _ _ _ (by omega), h2 i hi2 h12, List.getD_eq_getElem?_getD, List.getD_eq_getElem?_getD, List.getElem?_append_left hi2]
    · have : i = t.length := by omega
      subst this
      rw [upd_at, List.getD_eq_getElem?_getD, List.getElem?_append_right (Nat.le_refl _), Nat.sub_self]
      rfl
def dgf : Nat → Nat → List Nat
  | 0, n => [n % 10]
  | f + 1, n => if n < 10 then [n] else dgf f (n / 10) ++ [n % 10]
def dgp : Nat → Nat → List Nat
  | 0, n => [n % 10]
  | k + 1, n => (n / 10 ^ (k + 1) % 10) :: dgp k n
theorem o_say_ok (x : Nat) : True := trivial
def p10 (k : Nat) : Nat := 10 ^ k
def lets (d : List Nat) : List Int32 := d.map (fun x => Int32.ofNat (48 + x))
theorem i_div (a b : Nat) (ha : a < 2147483648) (hb : b < 2147483648) (h : 0 < b) : Int32.ofNat a / Int32.ofNat b = Int32.ofNat (a / b) := by
  apply Int32.toInt_inj.mp
  have hq : a / b ≤ a := Nat.div_le_self a b
  rw [Int32.toInt_div, i_toInt a ha, i_toInt b hb, i_toInt (a / b) (by omega), ← Int.ofNat_tdiv]
  generalize a / b = q at hq
  exact bm32 _ (by omega) (by omega)
def dgl (n : Nat) : Nat → Bool → List Nat
  | 0, b => if b || decide (n % 10 ≠ 0) then [n % 10] else []
  | k + 1, b => if b || decide (n / 10 ^ (k + 1) % 10 ≠ 0) then (n / 10 ^ (k + 1) % 10) :: dgl n k true else dgl n k false
theorem dgl_len (n : Nat) : ∀ k b, (dgl n k b).length ≤ k + 1
  | 0, b => by unfold dgl; split <;> simp
  | k + 1, b => by
    unfold dgl; split
    · have := dgl_len n k true; simp; omega
    · have := dgl_len n k false; omega
