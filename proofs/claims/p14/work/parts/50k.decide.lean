def Bdk (l : List (List Int32)) (v k j : Nat) : Prop := ∃ pre a kk post, l = pre ++ (a ++ [rowq kk v]) ++ post ∧ (kk = 8 ∨ kk = 9) ∧ Fm (a ++ [rowq kk v]) ∧ pre.length ≤ j ∧ j < pre.length + a.length ∧ pre.length + a.length < k
def Bd (l : List (List Int32)) (v j : Nat) : Prop := Bdk l v l.length j
theorem bd_lt {l : List (List Int32)} {v j k : Nat} (h : Bdk l v k j) : j + 1 < l.length ∧ j + 1 < k := by
  obtain ⟨pre, a, kk, post, e, _, _, h1, h2, h3⟩ := h
  have := congrArg List.length e
  simp at this; omega
theorem q_ne {k kk : Int32} {v : Nat} (hk : k = 6 ∨ k = 7) (hkk : kk = 8 ∨ kk = 9) : row0 k ≠ rowq kk v := by
  intro h
  have : kd (row0 k) = kd (rowq kk v) := by rw [h]
  have : k = kk := this
  rcases hk with rfl | rfl <;> rcases hkk with rfl | rfl <;> exact absurd this (by decide)
theorem snoc_inj {β : Type} {a b : List β} {x y : β} (h : a ++ [x] = b ++ [y]) : a = b ∧ x = y := by
  have h1 := congrArg List.reverse h
  simp at h1
  exact ⟨h1.2, h1.1⟩
theorem bd_leaf {r : List Int32} {v j : Nat} : ¬ Bd [r] v j := fun h => by have := (bd_lt h).1; simp at this
theorem seg_in {s b t pre g post : List (List Int32)} (F : Fm b) (e : s ++ b ++ t = pre ++ g ++ post) (Fg : Fm g) (h1 : s.length < pre.length + g.length) (h2 : pre.length + g.length ≤ s.length + b.length) : ∃ p2 q2, pre = s ++ p2 ∧ b = p2 ++ g ++ q2 := by
  obtain ⟨p2, g2, q2, eb, F2, hl⟩ := F.sub (pre.length + g.length - 1 - s.length) (by omega)
  have hx : (s ++ b ++ t).take (pre.length + g.length) = (s ++ p2) ++ g2 := by
    have : s ++ b ++ t = ((s ++ p2) ++ g2) ++ (q2 ++ t) := by rw [eb]; simp
    rw [this, List.take_left']
    simp; omega
  have hy : (s ++ b ++ t).take (pre.length + g.length) = pre ++ g := by
    rw [e, List.take_left']; simp
  have := F2.tail Fg (hx.symm.trans hy)
  exact ⟨p2, q2, this.2.symm, by rw [eb, this.1]⟩
theorem bd_qu {a : List (List Int32)} (ha : Fm a) {k : Int32} (hk : k = 8 ∨ k = 9) {w v : Nat} (hw : w < 8) (hv : v < 8) (ho : okQu w a) {j : Nat} (hj : j < a.length) : Bd (a ++ [rowq k w]) v j ↔ w = v ∨ Bd a v j := by
  constructor
  · rintro ⟨pre, a', kk, post, e, hkk, Fg, h1, h2, h3⟩
    by_cases c : pre.length + a'.length < a.length
    · right
      obtain ⟨p2, q2, e1, e2⟩ := seg_in (s := []) (t := [rowq k w]) ha (by simpa using e) Fg (by simp; omega) (by simp; omega)
      have e1' : pre = p2 := by simpa using e1
      subst e1'
      exact ⟨pre, a', kk, q2, e2, hkk, Fg, h1, h2, c⟩
    · left
      have hl := congrArg List.length e
      simp at hl
      have hp : post = [] := List.eq_nil_of_length_eq_zero (by omega)
      subst hp
      have e' : [] ++ (a ++ [rowq k w]) = pre ++ (a' ++ [rowq kk v]) := by simpa using e
      have := (Fm.qu ha hk hw ho).tail Fg e'
      have h4 := (snoc_inj this.1).2
      have h5 : Int32.ofNat w = Int32.ofNat v := by
        have : qv (rowq k w) = qv (rowq kk v) := by rw [h4]
        exact this
      rw [i_eq _ _ (by omega) (by omega)] at h5
      exact h5
  · rintro (h | ⟨pre, a', kk, post, e, hkk, Fg, h1, h2, h3⟩)
    · subst h
      exact ⟨[], a, k, [], by simp, hk, Fm.qu ha hk hw ho, by simp, by simpa using hj, by simp⟩
    · exact ⟨pre, a', kk, post ++ [rowq k w], by rw [e]; simp, hkk, Fg, h1, h2, by rw [List.length_append]; omega⟩
theorem bd_bi {a b : List (List Int32)} (ha : Fm a) (hb : Fm b) {k : Int32} (hk : k = 6 ∨ k = 7) (ho : okBi a b) {v : Nat} : (∀ j, j < a.length → (Bd (a ++ b ++ [row0 k]) v j ↔ Bd a v j)) ∧ (∀ j, j < b.length → (Bd (a ++ b ++ [row0 k]) v (a.length + j) ↔ Bd b v j)) := by
  have key : ∀ j, Bd (a ++ b ++ [row0 k]) v j → (j < a.length ∧ Bd a v j) ∨ (a.length ≤ j ∧ Bd b v (j - a.length)) := by
    rintro j ⟨pre, a', kk, post, e, hkk, Fg, h1, h2, h3⟩
    by_cases c1 : pre.length + a'.length < a.length
    · left
      obtain ⟨p2, q2, e1, e2⟩ := seg_in (s := []) (t := b ++ [row0 k]) ha (by rw [← e]; simp) Fg (by simp; omega) (by simp; omega)
      have e1' : pre = p2 := by simpa using e1
      subst e1'
      exact ⟨by omega, pre, a', kk, q2, e2, hkk, Fg, h1, h2, c1⟩
    · by_cases c2 : pre.length + a'.length < a.length + b.length
      · right
        obtain ⟨p2, q2, e1, e2⟩ := seg_in (s := a) (t := [row0 k]) hb e Fg (by simp; omega) (by simp; omega)
        have hl := congrArg List.length e1
        rw [List.length_append] at hl
        exact ⟨by omega, p2, a', kk, q2, e2, hkk, Fg, by omega, by omega, by omega⟩
      · exfalso
        have hl := congrArg List.length e
        simp at hl
        have hp : post = [] := List.eq_nil_of_length_eq_zero (by omega)
        subst hp
        have e' : [] ++ (a ++ b ++ [row0 k]) = pre ++ (a' ++ [rowq kk v]) := by simpa using e
        have := (Fm.bi ha hb hk ho).tail Fg e'
        exact q_ne hk hkk (snoc_inj this.1).2
  refine ⟨fun j hj => ⟨fun h => ?_, ?_⟩, fun j hj => ⟨fun h => ?_, ?_⟩⟩
  · rcases key j h with g | g
    · exact g.2
    · omega
  · rintro ⟨pre, a', kk, post, e, hkk, Fg, h1, h2, h3⟩
    exact ⟨pre, a', kk, post ++ b ++ [row0 k], by rw [e]; simp, hkk, Fg, h1, h2, by simp; omega⟩
  · rcases key _ h with g | g
    · omega
    · rw [show a.length + j - a.length = j from by omega] at g; exact g.2
  · rintro ⟨pre, a', kk, post, e, hkk, Fg, h1, h2, h3⟩
    exact ⟨a ++ pre, a', kk, post ++ [row0 k], by rw [e]; simp, hkk, Fg, by rw [List.length_append]; omega, by rw [List.length_append]; omega, by simp; omega⟩
section MB
variable {r1 : Int32} {c1 : Nat → Int32} {n1 : Nat} {l : List (List Int32)}
theorem fill4 (N : Nat) (x : Int32) : ∀ (d m k : Nat) (p : Nat → Int32), k + d = 400 → f_J7_fill_53178_5 N (m + d + 1) p 400 x (Int32.ofNat k) (Int32.ofNat 400) = some (fun j => if k ≤ j ∧ j < 400 then x else p j)
  | 0, m, k, p, h => by
    have : k = 400 := by omega
    subst this
    rw [f_J7_fill_53178_5]; dsimp only
    rw [ifb_t (by decide)]
    congr 1; funext j; rw [if_neg (by omega)]
  | d + 1, m, k, p, h => by
    rw [show m + (d + 1) + 1 = (m + d + 1) + 1 from by omega, f_J7_fill_53178_5]; dsimp only
    rw [ifb_f (by rw [i_le _ _ (by omega) (by omega)]; omega), ix_n _ _ _ (by omega) (by omega), i_cl _ (by omega), i_p1, fill4 N x d m (k + 1) _ (by omega)]
    congr 1; funext j
    by_cases e : j = k
    · subst e; rw [if_neg (by omega), if_pos (by omega), upd_at]
    · by_cases c : k + 1 ≤ j ∧ j < 400
      · rw [if_pos c, if_pos (by omega)]
      · rw [if_neg c, if_neg (by omega), upd_ne _ _ _ _ e]
theorem mb_in (K : (Nat → Int32) → (Nat → Int32) → Int32 → (Nat → Int32) → Nat → Int32 → Int32 → Int32 → Option ((Nat → Int32) × (Nat → Int32))) (N : Nat) (sp : Nat → Int32) (v2 y3 : Int32) (k : Nat) (hk : k ≤ 400) : ∀ (d m j : Nat) (bo : Nat → Int32), j + d = k → f_X1_markBound_71 K N (m + d + 1) sp bo r1 c1 n1 v2 y3 (Int32.ofNat k) (Int32.ofNat j) = K sp (fun i => if j ≤ i ∧ i < k then 1 else bo i) r1 c1 n1 v2 y3 (Int32.ofNat (k + 1))
  | 0, m, j, bo, h => by
    have : j = k := by omega
    subst this
    rw [f_X1_markBound_71]; dsimp only
    rw [ifb_t (by rw [i_le _ _ (by omega) (by omega)]; omega)]
    unfold f_X1_markBound_92
    rw [i_p1]
    congr 1; funext i; rw [if_neg (by omega)]
  | d + 1, m, j, bo, h => by
    rw [show m + (d + 1) + 1 = (m + d + 1) + 1 from by omega, f_X1_markBound_71]; dsimp only
    rw [ifb_f (by rw [i_le _ _ (by omega) (by omega)]; omega), ix_n _ _ _ (by omega) (by omega), i_cl _ (by omega), i_p1, mb_in K N sp v2 y3 k hk d m (j + 1) _ (by omega)]
    congr 1; funext i
    by_cases e : i = j
    · subst e; rw [if_neg (by omega), if_pos (by omega), upd_at]
    · by_cases c : j + 1 ≤ i ∧ i < k
      · rw [if_pos c, if_pos (by omega)]
      · rw [if_neg c, if_neg (by omega), upd_ne _ _ _ _ e]
theorem jmax0 (n : Nat) (h : n < 2147483648) : jmax (Int32.ofNat n) 0 = Int32.ofNat n := by
  show (if Int32.ofNat n < 0 then _ else _) = _
  rw [if_neg (i_nn _ h)]
theorem mb_loop (T : Tr r1 c1 n1 l) (F : Fm l) (h400 : l.length ≤ 400) (N : Nat) (hN : 1000 ≤ N) {v : Nat} (hv : v < 8) {sp : Nat → Int32} (hsp : Spk sp l l.length) : ∀ (d m k : Nat) (bo : Nat → Int32), k + d = l.length → (∀ j, j < l.length → (bo j = 1 ↔ Bdk l v k j)) → ∃ bo', f_X1_markBound_30 N (m + d + 1) sp bo r1 c1 n1 (Int32.ofNat v) (Int32.ofNat l.length) (Int32.ofNat k) = some (sp, bo') ∧ ∀ j, j < l.length → (bo' j = 1 ↔ Bd l v j)
  | 0, m, k, bo, h, hb => by
    have : k = l.length := by omega
    subst this
    rw [f_X1_markBound_30]; dsimp only
    rw [ifb_t (by rw [i_le _ _ (by omega) (by omega)]; omega)]
    exact ⟨bo, rfl, hb⟩
  | d + 1, m, k, bo, h, hb => by
    have hkl : k < l.length := by omega
    rw [show m + (d + 1) + 1 = (m + d + 1) + 1 from by omega, f_X1_markBound_30]; dsimp only
    rw [ifb_f (by rw [i_le _ _ (by omega) (by omega)]; omega), bd (t_kind T N k hkl), lc_getD _ hkl]
    obtain ⟨pre, f, post, e, Ff, hp⟩ := F.sub k hkl

    have last : ∀ pre' a kk post', l = pre' ++ (a ++ [rowq kk v]) ++ post' → Fm (a ++ [rowq kk v]) → pre'.length + a.length = k → f = a ++ [rowq kk v] ∧ pre = pre' := by
      intro pre' a kk post' e' Fg hl
      have h1 : l.take (k + 1) = pre ++ f := by rw [e, List.take_left']; simp; omega
      have h2 : l.take (k + 1) = pre' ++ (a ++ [rowq kk v]) := by rw [e', List.take_left']; simp; omega
      exact Ff.tail Fg (h1.symm.trans h2)
    have same : (∀ a kk, (kk = 8 ∨ kk = 9) → f ≠ a ++ [rowq kk v]) → ∃ bo', f_X1_markBound_92 (f_X1_markBound_30 N (m + d + 1)) N sp bo r1 c1 n1 (Int32.ofNat v) (Int32.ofNat l.length) (Int32.ofNat k) = some (sp, bo') ∧ ∀ j, j < l.length → (bo' j = 1 ↔ Bd l v j) := by
      intro hne
      unfold f_X1_markBound_92
      rw [i_p1]
      apply mb_loop T F h400 N hN hv hsp d m (k + 1) bo (by omega)
      intro j hj
      rw [hb j hj]
      constructor
      · rintro ⟨pre', a, kk, post', e', hkk, Fg, h1, h2, h3⟩
        exact ⟨pre', a, kk, post', e', hkk, Fg, h1, h2, by omega⟩
      · rintro ⟨pre', a, kk, post', e', hkk, Fg, h1, h2, h3⟩
        by_cases c : pre'.length + a.length = k
        · exact absurd (last pre' a kk post' e' Fg c).1 (hne a kk hkk)
        · exact ⟨pre', a, kk, post', e', hkk, Fg, h1, h2, by omega⟩
    have lk_at : ∀ (g : List (List Int32)) (r : List Int32), f = g ++ [r] → l[k] = r := by
      intro g r hg
      have e2 : l = (pre ++ g) ++ r :: post := by rw [e, hg]; simp
      have hl : k = (pre ++ g).length := by rw [hg] at hp; simp at hp ⊢; omega
      subst hl; simp [e2]
    rcases Ff.cases with ⟨r, hr, rfl⟩ | ⟨a, kk, w, ha, hkk, hw, ho, rfl⟩ | ⟨a, b, kk, ha, hb', hkk, ho, rfl⟩
    · have := lk_at [] r rfl
      rw [this]
      have h6 := lt68 hr.kd
      rw [ifb_t (show r.getD 0 0 < 8 from h6)]
      refine same (fun a kk hkk hc => ?_)
      have h2 : [] ++ [r] = a ++ [rowq kk v] := hc
      have h3 := (snoc_inj h2).2
      rw [h3] at h6
      exact absurd (show kk < 8 from h6) (by rcases hkk with rfl | rfl <;> decide)
    · have := lk_at a _ rfl
      rw [this]
      have h0 : (rowq kk w).getD 0 0 = kk := rfl
      rw [h0, ifb_f (by rcases hkk with rfl | rfl <;> decide), show (0 : Int32) = Int32.ofNat 0 from rfl, bd (t_number T N k 0 hkl (by omega)), lc_getD _ hkl, this, show (rowq kk w).getD (1 + 0) 0 = Int32.ofNat w from rfl]
      by_cases hwv : w = v
      · rw [ifb_t (by rw [hwv]), ix_n _ _ _ (by omega) (by omega), i_cl _ (by omega)]
        have hs := hsp pre (a ++ [rowq kk w]) post e Ff (by omega)
        have hpk : pre.length + (a ++ [rowq kk w]).length - 1 = k := by omega
        rw [hpk] at hs
        rw [hs]
        have hpa : pre.length + a.length = k := by simp at hp; omega
        have h0' : jmax (Int32.ofNat pre.length) (Int32.ofNat 0) = Int32.ofNat pre.length := jmax0 _ (by omega)
        rw [h0']
        have := mb_in (r1 := r1) (c1 := c1) (n1 := n1) (f_X1_markBound_30 N (m + d + 1)) N sp (Int32.ofNat v) (Int32.ofNat l.length) k (by omega) a.length (N - a.length - 1) pre.length bo hpa
        rw [show N - a.length - 1 + a.length + 1 = N from by omega] at this
        rw [this]
        apply mb_loop T F h400 N hN hv hsp d m (k + 1) _ (by omega)
        intro j hj
        subst hwv
        constructor
        · intro h1
          by_cases c : pre.length ≤ j ∧ j < k
          · exact ⟨pre, a, kk, post, e, hkk, Ff, c.1, by omega, by omega⟩
          · have h2 : bo j = 1 := by
              have h3 : (if pre.length ≤ j ∧ j < k then (1 : Int32) else bo j) = 1 := h1
              rwa [if_neg c] at h3
            obtain ⟨pre', a', kk', post', e', hkk', Fg, h1, h2, h3⟩ := (hb j hj).mp h2
            exact ⟨pre', a', kk', post', e', hkk', Fg, h1, h2, by omega⟩
        · rintro ⟨pre', a', kk', post', e', hkk', Fg, h1, h2, h3⟩
          show (if pre.length ≤ j ∧ j < k then (1 : Int32) else bo j) = 1
          by_cases c : pre'.length + a'.length = k
          · obtain ⟨_, hpp⟩ := last pre' a' kk' post' e' Fg c
            subst hpp
            rw [if_pos (by omega)]
          · by_cases c2 : pre.length ≤ j ∧ j < k
            · rw [if_pos c2]
            · rw [if_neg c2]
              exact (hb j hj).mpr ⟨pre', a', kk', post', e', hkk', Fg, h1, h2, by omega⟩
      · rw [ifb_f (by rw [i_eq _ _ (by omega) (by omega)]; exact hwv)]
        refine same (fun a' kk' hkk' hc => ?_)
        have h3 := (snoc_inj hc).2
        have h5 : Int32.ofNat w = Int32.ofNat v := by
          have : qv (rowq kk w) = qv (rowq kk' v) := by rw [h3]
          exact this
        rw [i_eq _ _ (by omega) (by omega)] at h5
        exact hwv h5
    · have := lk_at (a ++ b) _ rfl
      rw [this, show (row0 kk).getD 0 0 = kk from rfl, ifb_t (by rcases hkk with rfl | rfl <;> decide)]
      refine same (fun a' kk' hkk' hc => ?_)
      exact q_ne hkk hkk' (snoc_inj hc).2
theorem o_markBound (T : Tr r1 c1 n1 l) (F : Fm l) (h400 : l.length ≤ 400) (N : Nat) (hN : 1000 ≤ N) {v : Nat} (hv : v < 8) (sp bo : Nat → Int32) : ∃ sp' bo', f_X1_markBound N sp bo r1 c1 n1 (Int32.ofNat v) = some (sp', bo') ∧ ∀ j, j < l.length → (bo' j = 1 ↔ Bd l v j) := by
  obtain ⟨sp', e1, hsp⟩ := t_measure T F h400 N (by omega) sp
  have e2 := fill4 N 0 400 (N - 401) 0 bo rfl
  rw [show N - 401 + 400 + 1 = N from by omega] at e2
  have hr := T.1
  unfold f_X1_markBound f_J7_fill_53178
  rw [bd e1]
  rw [show (0 : Int32) = Int32.ofNat 0 from rfl] at e2 ⊢
  rw [bd e2, hr]
  have ej : jmin (Int32.ofNat l.length) 400 = Int32.ofNat l.length := jmin400 _ h400
  rw [ej]
  have := mb_loop T F h400 N hN hv hsp l.length (N - l.length - 1) 0 (fun j => if 0 ≤ j ∧ j < 400 then Int32.ofNat 0 else bo j) (by omega) (fun j hj => by
    rw [if_pos (by omega)]
    refine ⟨fun h => absurd h (by decide), fun h => ?_⟩
    have := (bd_lt h).2; omega)
  rw [show N - l.length - 1 + l.length + 1 = N from by omega, hr] at this
  obtain ⟨bo', e3, h3⟩ := this
  exact ⟨sp', bo', e3, h3⟩
end MB
section PV
variable {r1 : Int32} {c1 : Nat → Int32} {n1 : Nat} {l : List (List Int32)} {n : Nat}
theorem pv_rec (T : Tr r1 c1 n1 l) (h400 : l.length ≤ 400) (N : Nat) (hN : 110000 ≤ N) (hn : 12000 ≤ n) {v : Nat} (hv : v < 8) {q : List Int32} (Q : PtB q) {rp : Nat → Int32} (hrp : ∀ j, j < 11 → rp j = q.getD j 0) (sp bo : Nat → Int32) {f : List (List Int32)} (F : Fm f) : ∀ (pre post : List (List Int32)), l = pre ++ f ++ post → ∀ (m : Nat) (st : List (List (List Int32))) (pa ro : Int32) (ce sa lo : Nat → Int32) (nu : Nat → Int64), Be pa ro ce n sa lo st → st.flatten.length + f.length ≤ 400 → st.length + f.length ≤ 401 → ((∀ j, j < f.length → bo (pre.length + j) = 1) → ∃ pa' ro' ce' sa' lo' nu', f_X1_putValue_56 N (m + f.length) pa ro ce n sa lo nu rp sp bo r1 c1 n1 (Int32.ofNat v) (Int32.ofNat l.length) (Int32.ofNat pre.length) = f_X1_putValue_56 N m pa' ro' ce' n sa' lo' nu' rp sp bo r1 c1 n1 (Int32.ofNat v) (Int32.ofNat l.length) (Int32.ofNat (pre.length + f.length)) ∧ Be pa' ro' ce' n sa' lo' (st ++ [f])) ∧ ((∀ j, j < f.length → (bo (pre.length + j) = 1 ↔ Bd f v j)) → ∃ pa' ro' ce' sa' lo' nu', (∃ s, val v q f = some s ∧ f_X1_putValue_56 N (m + f.length) pa ro ce n sa lo nu rp sp bo r1 c1 n1 (Int32.ofNat v) (Int32.ofNat l.length) (Int32.ofNat pre.length) = f_X1_putValue_56 N m pa' ro' ce' n sa' lo' nu' rp sp bo r1 c1 n1 (Int32.ofNat v) (Int32.ofNat l.length) (Int32.ofNat (pre.length + f.length)) ∧ Be pa' ro' ce' n sa' lo' (st ++ [s])) ∨ (val v q f = none ∧ f_X1_putValue_56 N (m + f.length) pa ro ce n sa lo nu rp sp bo r1 c1 n1 (Int32.ofNat v) (Int32.ofNat l.length) (Int32.ofNat pre.length) = some (0, pa', ro', ce', sa', lo', nu', rp, sp, bo) ∧ ∃ st', Be pa' ro' ce' n sa' lo' st')) := by

  have hle : ∀ o, o < l.length → ¬ (Int32.ofNat l.length ≤ Int32.ofNat o) := fun o ho => by rw [i_le _ _ (by omega) (by omega)]; omega
  refine Fm.ind (P := fun f => ∀ (pre post : List (List Int32)), l = pre ++ f ++ post → ∀ (m : Nat) (st : List (List (List Int32))) (pa ro : Int32) (ce sa lo : Nat → Int32) (nu : Nat → Int64), Be pa ro ce n sa lo st → st.flatten.length + f.length ≤ 400 → st.length + f.length ≤ 401 → ((∀ j, j < f.length → bo (pre.length + j) = 1) → ∃ pa' ro' ce' sa' lo' nu', f_X1_putValue_56 N (m + f.length) pa ro ce n sa lo nu rp sp bo r1 c1 n1 (Int32.ofNat v) (Int32.ofNat l.length) (Int32.ofNat pre.length) = f_X1_putValue_56 N m pa' ro' ce' n sa' lo' nu' rp sp bo r1 c1 n1 (Int32.ofNat v) (Int32.ofNat l.length) (Int32.ofNat (pre.length + f.length)) ∧ Be pa' ro' ce' n sa' lo' (st ++ [f])) ∧ ((∀ j, j < f.length → (bo (pre.length + j) = 1 ↔ Bd f v j)) → ∃ pa' ro' ce' sa' lo' nu', (∃ s, val v q f = some s ∧ f_X1_putValue_56 N (m + f.length) pa ro ce n sa lo nu rp sp bo r1 c1 n1 (Int32.ofNat v) (Int32.ofNat l.length) (Int32.ofNat pre.length) = f_X1_putValue_56 N m pa' ro' ce' n sa' lo' nu' rp sp bo r1 c1 n1 (Int32.ofNat v) (Int32.ofNat l.length) (Int32.ofNat (pre.length + f.length)) ∧ Be pa' ro' ce' n sa' lo' (st ++ [s])) ∨ (val v q f = none ∧ f_X1_putValue_56 N (m + f.length) pa ro ce n sa lo nu rp sp bo r1 c1 n1 (Int32.ofNat v) (Int32.ofNat l.length) (Int32.ofNat pre.length) = some (0, pa', ro', ce', sa', lo', nu', rp, sp, bo) ∧ ∃ st', Be pa' ro' ce' n sa' lo' st'))) ?_ ?_ ?_ F
  ·
    intro r hr pre post e m st pa ro ce sa lo nu B hc1 hc2
    have hl := congrArg List.length e
    have hk : pre.length < l.length := by simp at hl; omega
    have hlk : l[pre.length] = r := by simp [e]
    rw [List.length_singleton] at hc1 hc2
    have h6 := hr.kd
    have push : ∃ pa' ro' ce' sa' lo', f_X1_putValue_137 (f_X1_putValue_56 N m) N pa ro ce n sa lo nu rp sp bo r1 c1 n1 (Int32.ofNat v) (Int32.ofNat l.length) (Int32.ofNat pre.length) = f_X1_putValue_56 N m pa' ro' ce' n sa' lo' nu rp sp bo r1 c1 n1 (Int32.ofNat v) (Int32.ofNat l.length) (Int32.ofNat (pre.length + 1)) ∧ Be pa' ro' ce' n sa' lo' (st ++ [[r]]) := by
      obtain ⟨pa', ro', ce', sa', lo', e2, B2⟩ := b_pushRow B T N (by omega) (by omega) (by omega) pre.length hk (by rw [hlk]; exact hr)
      rw [hlk] at B2
      unfold f_X1_putValue_137 f_X1_putValue_164
      rw [bd e2, i_p1]
      exact ⟨pa', ro', ce', sa', lo', rfl, B2⟩
    have eu : f_X1_putValue_56 N (m + [r].length) pa ro ce n sa lo nu rp sp bo r1 c1 n1 (Int32.ofNat v) (Int32.ofNat l.length) (Int32.ofNat pre.length) = ifb (r.getD (1 + v) 0 = 0) (f_X1_putValue_137 (f_X1_putValue_56 N m) N pa ro ce n sa lo nu rp sp bo r1 c1 n1 (Int32.ofNat v) (Int32.ofNat l.length) (Int32.ofNat pre.length)) (ifb (bo pre.length = 1) (f_X1_putValue_137 (f_X1_putValue_56 N m) N pa ro ce n sa lo nu rp sp bo r1 c1 n1 (Int32.ofNat v) (Int32.ofNat l.length) (Int32.ofNat pre.length)) ((f_X1_replace N pa ro ce n sa lo nu rp r1 c1 n1 (Int32.ofNat pre.length) (Int32.ofNat v) 0).bind (fun z156 => ifb (z156.1 = 0) (some (0, z156.2.1, z156.2.2.1, z156.2.2.2.1, z156.2.2.2.2.1, z156.2.2.2.2.2.1, z156.2.2.2.2.2.2, rp, sp, bo)) (f_X1_putValue_164 (f_X1_putValue_56 N m) N z156.2.1 z156.2.2.1 z156.2.2.2.1 n z156.2.2.2.2.1 z156.2.2.2.2.2.1 z156.2.2.2.2.2.2 rp sp bo r1 c1 n1 (Int32.ofNat v) (Int32.ofNat l.length) (Int32.ofNat pre.length))))) := by
      rw [List.length_singleton, f_X1_putValue_56]; dsimp only
      rw [ifb_f (hle _ hk), bd (t_kind T N _ hk), lc_getD _ hk, hlk, ifb_t (show r.getD 0 0 < 8 from lt68 h6), ifb_t (show r.getD 0 0 < 6 from h6), bd (t_number T N _ v hk (by omega)), lc_getD _ hk, hlk, ix_n _ _ _ (by omega) (by omega), i_cl _ (by omega)]
    rw [eu, List.length_singleton]
    obtain ⟨pa', ro', ce', sa', lo', e2, B2⟩ := push
    refine ⟨fun hb => ?_, fun hb => ?_⟩
    · have hb0 := hb 0 (by simp)
      rw [Nat.add_zero] at hb0
      refine ⟨pa', ro', ce', sa', lo', nu, ?_, B2⟩
      by_cases hz : r.getD (1 + v) 0 = 0
      · rw [ifb_t hz, e2]
      · rw [ifb_f hz, ifb_t hb0, e2]
    · have hb0 : ¬ (bo pre.length = 1) := fun g => bd_leaf ((hb 0 (by simp)).mp (by rw [Nat.add_zero]; exact g))
      rw [val_leaf hr]
      unfold subLeaf
      by_cases hz : r.getD (1 + v) 0 = 0
      · rw [ifb_t hz, if_pos hz]
        exact ⟨pa', ro', ce', sa', lo', nu, Or.inl ⟨[r], rfl, e2, B2⟩⟩
      · rw [ifb_f hz, if_neg hz, ifb_f hb0]
        have A := leaf_atm hr hv hz
        obtain ⟨nu', h1⟩ := r_replace B T N (by omega) (by omega) (by omega) pre.length v 0 hk hv (by rw [hlk]; exact A) Q (ps := rp) (fun j hj => by rw [show 11 * 0 + j = j from by omega]; exact hrp j hj) (by omega) nu
        rw [hlk] at h1
        show ∃ pa' ro' ce' sa' lo' nu', (∃ s, (rep v q r).map (fun x => [x]) = some s ∧ _) ∨ ((rep v q r).map (fun x => [x]) = none ∧ _)
        rcases h1 with ⟨h1, h2⟩ | ⟨r', pa2, ro2, ce2, sa2, lo2, h1, h2, B3⟩
        · rw [show (0 : Int32) = Int32.ofNat 0 from rfl, bd h2]
          dsimp only
          rw [ifb_t (show (0 : Int32) = Int32.ofNat 0 from rfl), h1]
          exact ⟨_, _, _, _, _, _, Or.inr ⟨rfl, rfl, st, B⟩⟩
        · rw [show (0 : Int32) = Int32.ofNat 0 from rfl, bd h2]
          dsimp only
          rw [ifb_f (by decide), h1]
          unfold f_X1_putValue_164
          rw [i_p1]
          exact ⟨_, _, _, _, _, _, Or.inl ⟨[r'], rfl, rfl, B3⟩⟩
  ·
    intro a k w ha ih hk hw ho pre post e m st pa ro ce sa lo nu B hc1 hc2
    have hlen : (a ++ [rowq k w]).length = a.length + 1 := by simp
    rw [hlen] at hc1 hc2 ⊢
    have ea : l = pre ++ a ++ ([rowq k w] ++ post) := by rw [e]; simp
    obtain ⟨ih1, ih2⟩ := ih pre _ ea (m + 1) st pa ro ce sa lo nu B (by omega) (by omega)
    have hl := congrArg List.length e
    have hkl : pre.length + a.length < l.length := by simp at hl; omega
    have hlk : l[pre.length + a.length] = rowq k w := by
      have : l = (pre ++ a) ++ rowq k w :: post := by rw [e]; simp
      have hq : pre.length + a.length = (pre ++ a).length := by simp
      simp [this]
    have row : ∀ (s : List (List Int32)) (pa ro : Int32) (ce sa lo : Nat → Int32) (nu : Nat → Int64), Be pa ro ce n sa lo (st ++ [s]) → s.length ≤ a.length → ∃ pa' ro' ce' sa' lo', f_X1_putValue_56 N (m + 1) pa ro ce n sa lo nu rp sp bo r1 c1 n1 (Int32.ofNat v) (Int32.ofNat l.length) (Int32.ofNat (pre.length + a.length)) = f_X1_putValue_56 N m pa' ro' ce' n sa' lo' nu rp sp bo r1 c1 n1 (Int32.ofNat v) (Int32.ofNat l.length) (Int32.ofNat (pre.length + (a.length + 1))) ∧ Be pa' ro' ce' n sa' lo' (st ++ [bq k w s]) := by
      intro s pa ro ce sa lo nu B hsl
      obtain ⟨ro2, ce2, lo2, e2, B2⟩ := b_bind B N (by omega) hk hw (by omega)
      rw [f_X1_putValue_56]; dsimp only
      rw [ifb_f (hle _ hkl), bd (t_kind T N _ hkl), lc_getD _ hkl, hlk, show (rowq k w).getD 0 0 = k from rfl, ifb_f (by rcases hk with rfl | rfl <;> decide), show (0 : Int32) = Int32.ofNat 0 from rfl, bd (t_number T N _ 0 hkl (by omega)), lc_getD _ hkl, hlk, show (rowq k w).getD (1 + 0) 0 = Int32.ofNat w from rfl, bd e2]
      unfold f_X1_putValue_164
      rw [i_p1]
      exact ⟨_, _, _, _, _, rfl, B2⟩
    have em : m + 1 + a.length = m + (a.length + 1) := by omega
    rw [em] at ih1 ih2
    refine ⟨fun hb => ?_, fun hb => ?_⟩
    · obtain ⟨pa1, ro1, ce1, sa1, lo1, nu1, e1, B1⟩ := ih1 (fun j hj => hb j (by omega))
      obtain ⟨pa2, ro2, ce2, sa2, lo2, e2, B2⟩ := row a pa1 ro1 ce1 sa1 lo1 nu1 B1 (Nat.le_refl _)
      rw [bq_ok ho] at B2
      exact ⟨pa2, ro2, ce2, sa2, lo2, nu1, e1.trans e2, B2⟩
    · rw [val_qu ha hk hw hv]
      by_cases hwv : w = v
      · rw [if_pos hwv]
        obtain ⟨pa1, ro1, ce1, sa1, lo1, nu1, e1, B1⟩ := ih1 (fun j hj => (hb j (by omega)).mpr ((bd_qu ha hk hw hv ho hj).mpr (Or.inl hwv)))
        obtain ⟨pa2, ro2, ce2, sa2, lo2, e2, B2⟩ := row a pa1 ro1 ce1 sa1 lo1 nu1 B1 (Nat.le_refl _)
        rw [bq_ok ho] at B2
        exact ⟨pa2, ro2, ce2, sa2, lo2, nu1, Or.inl ⟨_, rfl, e1.trans e2, B2⟩⟩
      · rw [if_neg hwv]
        obtain ⟨pa1, ro1, ce1, sa1, lo1, nu1, h1⟩ := ih2 (fun j hj => by rw [hb j (by omega), bd_qu ha hk hw hv ho hj]; exact ⟨fun g => g.resolve_left hwv, Or.inr⟩)
        rcases h1 with ⟨s, hs, e1, B1⟩ | ⟨hs, e1, B1⟩
        · obtain ⟨pa2, ro2, ce2, sa2, lo2, e2, B2⟩ := row s pa1 ro1 ce1 sa1 lo1 nu1 B1 (val_ok hv ha hs).2.1
          rw [hs]
          exact ⟨pa2, ro2, ce2, sa2, lo2, nu1, Or.inl ⟨_, rfl, e1.trans e2, B2⟩⟩
        · rw [hs]
          exact ⟨pa1, ro1, ce1, sa1, lo1, nu1, Or.inr ⟨rfl, e1, B1⟩⟩
  ·
    intro a b k ha hb iha ihb hk ho pre post e m st pa ro ce sa lo nu B hc1 hc2
    have hlen : (a ++ b ++ [row0 k]).length = a.length + b.length + 1 := by simp; omega
    rw [hlen] at hc1 hc2 ⊢
    have ea : l = pre ++ a ++ (b ++ [row0 k] ++ post) := by rw [e]; simp
    have eb : l = (pre ++ a) ++ b ++ ([row0 k] ++ post) := by rw [e]; simp
    obtain ⟨ia1, ia2⟩ := iha pre _ ea (m + 1 + b.length) st pa ro ce sa lo nu B (by omega) (by omega)
    have hl := congrArg List.length e
    have hkl : pre.length + a.length + b.length < l.length := by simp at hl; omega
    have hlk : l[pre.length + a.length + b.length] = row0 k := by
      have : l = (pre ++ a ++ b) ++ row0 k :: post := by rw [e]; simp
      have hq : pre.length + a.length + b.length = (pre ++ a ++ b).length := by simp; omega
      simp only [hq, this]
      simp
    obtain ⟨d1, d2⟩ := bd_bi ha hb hk ho (v := v)
    have bpos := hb.pos
    have row : ∀ (s t : List (List Int32)) (pa ro : Int32) (ce sa lo : Nat → Int32) (nu : Nat → Int64), Be pa ro ce n sa lo (st ++ [s] ++ [t]) → s.length ≤ a.length → t.length ≤ b.length → ∃ pa' ro' ce' sa' lo', f_X1_putValue_56 N (m + 1) pa ro ce n sa lo nu rp sp bo r1 c1 n1 (Int32.ofNat v) (Int32.ofNat l.length) (Int32.ofNat (pre.length + a.length + b.length)) = f_X1_putValue_56 N m pa' ro' ce' n sa' lo' nu rp sp bo r1 c1 n1 (Int32.ofNat v) (Int32.ofNat l.length) (Int32.ofNat (pre.length + (a.length + b.length + 1))) ∧ Be pa' ro' ce' n sa' lo' (st ++ [mk k s t]) := by
      intro s t pa ro ce sa lo nu B hsl htl
      have B' : Be pa ro ce n sa lo (st ++ [s, t]) := by simpa using B
      obtain ⟨pa2, ro2, ce2, lo2, e2, B2⟩ := b_join B' N (by omega) hk (by omega)
      rw [f_X1_putValue_56]; dsimp only
      rw [ifb_f (hle _ hkl), bd (t_kind T N _ hkl), lc_getD _ hkl, hlk, show (row0 k).getD 0 0 = k from rfl, ifb_t (by rcases hk with rfl | rfl <;> decide), ifb_f (by rcases hk with rfl | rfl <;> decide), bd e2]
      unfold f_X1_putValue_164
      rw [i_p1, show pre.length + a.length + b.length + 1 = pre.length + (a.length + b.length + 1) from by omega]
      exact ⟨_, _, _, _, _, rfl, B2⟩
    have em : m + 1 + b.length + a.length = m + (a.length + b.length + 1) := by omega
    rw [em] at ia1 ia2
    have hpl : (pre ++ a).length = pre.length + a.length := by simp
    have nb : ∀ (s : List (List Int32)) (pa ro : Int32) (ce sa lo : Nat → Int32) (nu : Nat → Int64), Be pa ro ce n sa lo (st ++ [s]) → s.length ≤ a.length → _ := fun s pa ro ce sa lo nu Bs hsl => ihb (pre ++ a) _ eb (m + 1) (st ++ [s]) pa ro ce sa lo nu Bs (by rw [flat1]; omega) (by simp; have := ha.pos; omega)
    simp only [hpl] at nb
    refine ⟨fun hb1 => ?_, fun hb1 => ?_⟩
    · obtain ⟨pa1, ro1, ce1, sa1, lo1, nu1, e1, B1⟩ := ia1 (fun j hj => hb1 j (by omega))
      obtain ⟨pa2, ro2, ce2, sa2, lo2, nu2, e2, B2⟩ := (nb a pa1 ro1 ce1 sa1 lo1 nu1 B1 (Nat.le_refl _)).1 (fun j hj => by rw [show pre.length + a.length + j = pre.length + (a.length + j) from by omega]; exact hb1 _ (by omega))
      obtain ⟨pa3, ro3, ce3, sa3, lo3, e3, B3⟩ := row a b pa2 ro2 ce2 sa2 lo2 nu2 B2 (Nat.le_refl _) (Nat.le_refl _)
      rw [mk_ok ha hb ho hk] at B3
      exact ⟨pa3, ro3, ce3, sa3, lo3, nu2, e1.trans (e2.trans e3), B3⟩
    · rw [val_bi ha hb hk]
      obtain ⟨pa1, ro1, ce1, sa1, lo1, nu1, h1⟩ := ia2 (fun j hj => by rw [hb1 j (by omega), d1 j hj])
      rcases h1 with ⟨s, hs, e1, B1⟩ | ⟨hs, e1, B1⟩
      · have hsl := (val_ok hv ha hs).2.1
        obtain ⟨pa2, ro2, ce2, sa2, lo2, nu2, h2⟩ := (nb s pa1 ro1 ce1 sa1 lo1 nu1 B1 hsl).2 (fun j hj => by rw [show pre.length + a.length + j = pre.length + (a.length + j) from by omega, hb1 _ (by omega), d2 j hj])
        rw [hs]
        rcases h2 with ⟨t, ht, e2, B2⟩ | ⟨ht, e2, B2⟩
        · have htl := (val_ok hv hb ht).2.1
          obtain ⟨pa3, ro3, ce3, sa3, lo3, e3, B3⟩ := row s t pa2 ro2 ce2 sa2 lo2 nu2 B2 hsl htl
          rw [ht]
          exact ⟨pa3, ro3, ce3, sa3, lo3, nu2, Or.inl ⟨_, rfl, e1.trans (e2.trans e3), B3⟩⟩
        · rw [ht]
          exact ⟨pa2, ro2, ce2, sa2, lo2, nu2, Or.inr ⟨rfl, e1.trans e2, B2⟩⟩
      · rw [hs]
        exact ⟨pa1, ro1, ce1, sa1, lo1, nu1, Or.inr ⟨rfl, e1, B1⟩⟩
end PV
theorem and01 (y : Int32) : y &&& 1 = 0 ∨ y &&& 1 = 1 := by
  have h : (y &&& 1).toBitVec.toNat ≤ 1 := by
    rw [Int32.toBitVec_and, BitVec.toNat_and]
    exact Nat.and_le_right
  have h2 : (y &&& 1).toBitVec.toNat = 0 ∨ (y &&& 1).toBitVec.toNat = 1 := by omega
  rcases h2 with g | g
  · left; apply Int32.toBitVec_inj.mp; apply BitVec.eq_of_toNat_eq; exact g
  · right; apply Int32.toBitVec_inj.mp; apply BitVec.eq_of_toNat_eq; exact g
section PVD
variable {r1 : Int32} {c1 : Nat → Int32} {n1 : Nat} {l : List (List Int32)} {n : Nat}
theorem y_putValue (T : Tr r1 c1 n1 l) (F : Fm l) (h400 : l.length ≤ 400) (N : Nat) (hN : 110000 ≤ N) (hn : 12000 ≤ n) {v : Nat} (hv : v < 8) {a b : Int32} (Q : PtB (qV a b)) (rp sp bo : Nat → Int32) {pa ro : Int32} {ce sa lo : Nat → Int32} {st : List (List (List Int32))} (B : Be pa ro ce n sa lo st) (nu : Nat → Int64) : ∃ an pa' ro' ce' sa' lo' nu' rp' sp' bo', f_X1_putValue N pa ro ce n sa lo nu rp sp bo r1 c1 n1 (Int32.ofNat v) a b = some (an, pa', ro', ce', sa', lo', nu', rp', sp', bo') ∧ ((an = 1 ∧ ∃ s, val v (qV a b) l = some s ∧ Be pa' ro' ce' n sa' lo' [s]) ∨ (an = 0 ∧ val v (qV a b) l = none ∧ ∃ st', Be pa' ro' ce' n sa' lo' st')) := by
  obtain ⟨e1, B1⟩ := b_begin (st' := []) B N
  have ef : f_J7_fill_fda19 N rp 4411 0 11 0 = some (fun j => if 0 ≤ j ∧ j < 11 then 0 else rp j) := by
    unfold f_J7_fill_fda19 f_J7_rangeCheck_23922
    rw [ifb_t (by decide), ifb_t (by decide), ifb_t (by decide), Option.bind_some]
    have := t_fill N 0 11 (N - 12) 0 11 rp 4411 (by omega) (by omega) (by omega)
    rw [show N - 12 + 11 + 1 = N from by omega] at this
    exact this
  obtain ⟨sp', bo', e2, hbo⟩ := o_markBound T F h400 N (by omega) hv sp bo
  have hr := T.1
  unfold f_X1_putValue
  rw [bd e1, bd ef, show ix (9 : Int32) 4411 = ix (Int32.ofNat 9) 4411 from rfl, ix_n _ _ _ (by omega) (by omega), show ix (10 : Int32) 4411 = ix (Int32.ofNat 10) 4411 from rfl, ix_n _ _ _ (by omega) (by omega), bd e2]
  dsimp only
  have ej : jmin r1 400 = Int32.ofNat l.length := by rw [hr]; exact jmin400 _ h400
  rw [ej]
  have hrp : ∀ j, j < 11 → (upd (upd (fun j => if 0 ≤ j ∧ j < 11 then (0 : Int32) else rp j) (9 : Int32).toNatClampNeg a) (10 : Int32).toNatClampNeg b) j = (qV a b).getD j 0 := by
    intro j hj
    have : j = 0 ∨ j = 1 ∨ j = 2 ∨ j = 3 ∨ j = 4 ∨ j = 5 ∨ j = 6 ∨ j = 7 ∨ j = 8 ∨ j = 9 ∨ j = 10 := by omega
    rcases this with h | h | h | h | h | h | h | h | h | h | h <;> subst h <;> rfl
  have hm := (pv_rec T h400 N hN hn hv Q hrp sp' bo' F [] [] (by simp) (N - l.length) [] 0 0 ce sa lo nu B1 (by simp; omega) (by simp; omega)).2 (fun j hj => by
    show bo' (0 + j) = 1 ↔ _
    rw [Nat.zero_add]; exact hbo j hj)
  obtain ⟨pa', ro', ce', sa', lo', nu', h1⟩ := hm
  rw [show N - l.length + l.length = N from by omega] at h1
  rcases h1 with ⟨s, hs, e3, B3⟩ | ⟨hs, e3, B3⟩
  · have e4 : f_X1_putValue_56 N (N - l.length) pa' ro' ce' n sa' lo' nu' (upd (upd (fun j => if 0 ≤ j ∧ j < 11 then (0 : Int32) else rp j) (9 : Int32).toNatClampNeg a) (10 : Int32).toNatClampNeg b) sp' bo' r1 c1 n1 (Int32.ofNat v) (Int32.ofNat l.length) (Int32.ofNat (([] : List (List Int32)).length + l.length)) = some (1, pa', ro', ce', sa', lo', nu', upd (upd (fun j => if 0 ≤ j ∧ j < 11 then (0 : Int32) else rp j) (9 : Int32).toNatClampNeg a) (10 : Int32).toNatClampNeg b, sp', bo') := by
      obtain ⟨M, hM⟩ : ∃ M, N - l.length = M + 1 := ⟨N - l.length - 1, by omega⟩
      rw [hM, f_X1_putValue_56]; dsimp only
      rw [ifb_t (by rw [i_le _ _ (by omega) (by simp; omega)]; simp)]
    exact ⟨1, pa', ro', ce', sa', lo', nu', _, sp', bo', e3.trans e4, Or.inl ⟨rfl, s, hs, B3⟩⟩
  · exact ⟨0, pa', ro', ce', sa', lo', nu', _, sp', bo', e3, Or.inr ⟨rfl, hs, B3⟩⟩
end PVD
section DEC6
variable {ab be : Nat → Int32} {F : List (List Int32)}
theorem d6_loop (N : Nat) (hN : 110000 ≤ N) (V : Vl ab be) (hF : FI F) (los po pp tt : Int32) (br : Int32) (bc : Nat → Int32) (fr : Int32) (fc : Nat → Int32) (n : Nat) (hn : 12000 ≤ n) : ∀ (d m k : Nat) (G : List (List Int32)) (pa ro : Int32) (ce sa lo : Nat → Int32) (nu : Nat → Int64) (rp sp bo : Nat → Int32) (cr : Int32) (cc : Nat → Int32) (st : List (List (List Int32))), k + d = 8 → Be pa ro ce n sa lo st → Tr cr cc 4000 G → vall ab be F k = some G → ∃ po' pp' tt' pa' ro' ce' n' sa' lo' br' bc' nu' rp' sp' bo' cr' cc', f_X6_decide_26 N (m + d + 1) los po pp tt pa ro ce n sa lo br bc 4000 nu rp sp bo fr fc 4000 cr cc 4000 ab be (fv G) (Int32.ofNat k) = some (dcd ab be F, po', pp', tt', pa', ro', ce', n', sa', lo', br', bc', nu', rp', sp', bo', cr', cc') ∧ 12000 ≤ n' ∧ ∃ st', Be pa' ro' ce' n' sa' lo' st'
  | 0, m, k, G, pa, ro, ce, sa, lo, nu, rp, sp, bo, cr, cc, st, hk, B, T, hG => by
    have : k = 8 := by omega
    subst this
    obtain ⟨hGF, _⟩ := vall_fi hF 8 (Nat.le_refl _) hG
    rw [f_X6_decide_26]; dsimp only
    rw [ifb_t (by decide)]
    obtain ⟨an, po', pp', tt', pa', ro', ce', n', sa', lo', br', bc', nu', ps', e, hn', h⟩ := x_run N hN T hGF.1 hGF.run po pp tt pa ro ce n sa lo br bc nu rp B hn
    rw [bd e]
    dsimp only
    unfold f_X6_decide_130 f_X6_decide_154
    rcases h with ⟨rfl, f, hf, qf, lf, B'⟩ | ⟨rfl, hf, st', B'⟩
    · have B'' : Be pa' ro' ce' n' sa' lo' ([] ++ [f]) := B'
      have ed : dcd ab be F = if f = fT then 1 else 0 := by unfold dcd; rw [hG]; show (match frd G with | none => -2 | some f => if f = fT then 1 else 0 : Int32) = _; rw [hf]
      rw [ifb_f (by decide), bd (b_lastKind B'' N), ed]
      have hlk := B''.drop1.1.lk0
      by_cases hT : f = fT
      · rw [ifb_t (hlk.mpr hT), if_pos hT]
        exact ⟨_, _, _, _, _, _, _, _, _, _, _, _, _, _, _, _, _, rfl, hn', _, B'⟩
      · rw [ifb_f (fun g => hT (hlk.mp g)), if_neg hT]
        exact ⟨_, _, _, _, _, _, _, _, _, _, _, _, _, _, _, _, _, rfl, hn', _, B'⟩
    · have ed : dcd ab be F = -2 := by unfold dcd; rw [hG]; show (match frd G with | none => -2 | some f => if f = fT then 1 else 0 : Int32) = _; rw [hf]
      rw [ifb_t rfl, ed]
      exact ⟨_, _, _, _, _, _, _, _, _, _, _, _, _, _, _, _, _, rfl, hn', _, B'⟩
  | d + 1, m, k, G, pa, ro, ce, sa, lo, nu, rp, sp, bo, cr, cc, st, hk, B, T, hG => by
    obtain ⟨hGF, _⟩ := vall_fi hF k (by omega) hG
    have h4 := hGF.2.1
    have hkv : k < 8 := by omega
    obtain ⟨v1, v2, v3, v4⟩ := V k hkv
    have hs : vall ab be F (k + 1) = val k (qV (ab k) (be k)) G := by
      show (vall ab be F k).bind _ = _
      rw [hG]; rfl
    rw [show m + (d + 1) + 1 = (m + d + 1) + 1 from by omega, f_X6_decide_26]; dsimp only
    rw [ifb_f (by rw [show (8 : Int32) = Int32.ofNat 8 from rfl, i_le _ _ (by omega) (by omega)]; omega)]
    unfold f_X6_decide_113
    by_cases hb : bt (fv G) k = 0
    · rw [ifb_f (fun g => by
        have : (0 : Int32) = 1 := hb.symm.trans g
        exact absurd this (by decide)), i_p1]
      rw [val_id hkv hGF.1 hb] at hs
      exact d6_loop N hN V hF los po pp tt br bc fr fc n hn d m (k + 1) G pa ro ce sa lo nu rp sp bo cr cc st (by omega) B T hs
    · have h1 : ((fv G >>> (Int32.ofNat k &&& 31)) &&& 1) = 1 := (and01 _).resolve_left hb
      rw [ifb_t h1, ix_n _ _ _ (by omega) (by omega), ix_n _ _ _ (by omega) (by omega), i_cl _ (by omega)]
      obtain ⟨an, pa', ro', ce', sa', lo', nu', rp', sp', bo', e, h⟩ := y_putValue T hGF.1 h4 N hN hn hkv (qV_bd v1 v2 v3 v4) rp sp bo B nu
      rw [bd e]
      dsimp only
      rcases h with ⟨rfl, s, hv, B'⟩ | ⟨rfl, hv, st', B'⟩
      · have B'' : Be pa' ro' ce' n sa' lo' ([] ++ [s]) := B'
        have T' : Tr ro' ce' n s := by have := B'.2.2.1; simpa using this
        have hsl := (val_ok hkv hGF.1 hv).2.1
        have hr := T'.1
        obtain ⟨fc', e2, T2⟩ := t_become (r := cr) (c := cc) (n := 4000) (by omega) T' N 0 s.length (by omega) (Nat.le_refl _) (by omega)
        rw [Nat.sub_zero, List.drop_zero, List.take_length] at T2
        rw [Nat.sub_zero] at e2
        rw [← hr] at e2 T2
        rw [ifb_f (by decide), bd (b_lastLoose B'' N), show (0 : Int32) = Int32.ofNat 0 from rfl, bd e2]
        dsimp only
        rw [i_p1]
        exact d6_loop N hN V hF los po pp tt br bc fr fc n hn d m (k + 1) s pa' ro' ce' sa' lo' nu' rp' sp' bo' ro' fc' [s] (by omega) B' T2 (by rw [hs, hv])
      · have h8 : vall ab be F 8 = none := by
          have := vall_none (show vall ab be F (k + 1) = none by rw [hs, hv]) d
          rwa [show k + 1 + d = 8 from by omega] at this
        have ed : dcd ab be F = -2 := by unfold dcd; rw [h8]; rfl
        rw [ifb_t rfl, ed]
        exact ⟨_, _, _, _, _, _, _, _, _, _, _, _, _, _, _, _, _, rfl, hn, _, B'⟩
theorem y_decide (N : Nat) (hN : 110000 ≤ N) (V : Vl ab be) (hF : FI F) {fr : Int32} {fc : Nat → Int32} (C : CF fr fc F) (po pp tt : Int32) {pa ro : Int32} {ce : Nat → Int32} {n : Nat} {sa lo : Nat → Int32} {st : List (List (List Int32))} (B : Be pa ro ce n sa lo st) (hn : 12000 ≤ n) (br : Int32) (bc : Nat → Int32) (nu : Nat → Int64) (rp sp bo : Nat → Int32) (cr : Int32) (cc : Nat → Int32) : ∃ po' pp' tt' pa' ro' ce' n' sa' lo' br' bc' nu' rp' sp' bo' cr' cc', f_X6_decide N (fv F) po pp tt pa ro ce n sa lo br bc 4000 nu rp sp bo fr fc 4000 cr cc 4000 ab be = some (dcd ab be F, po', pp', tt', pa', ro', ce', n', sa', lo', br', bc', nu', rp', sp', bo', cr', cc') ∧ 12000 ≤ n' ∧ ∃ st', Be pa' ro' ce' n' sa' lo' st' := by
  obtain ⟨T, Ff, h4⟩ := C
  have hr := T.1
  obtain ⟨fc', e2, T2⟩ := t_become (r := cr) (c := cc) (n := 4000) (by omega) T N 0 F.length (by omega) (Nat.le_refl _) (by omega)
  rw [Nat.sub_zero, List.drop_zero, List.take_length] at T2
  rw [Nat.sub_zero] at e2
  rw [← hr] at e2 T2
  unfold f_X6_decide
  rw [show (0 : Int32) = Int32.ofNat 0 from rfl, bd e2]
  dsimp only
  have := d6_loop N hN V hF (fv F) po pp tt br bc fr fc n hn 8 (N - 9) 0 F pa ro ce sa lo nu rp sp bo fr fc' st rfl B T2 rfl
  rw [show N - 9 + 8 + 1 = N from by omega] at this
  exact this
end DEC6
