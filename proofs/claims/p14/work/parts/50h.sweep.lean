def rk (M : Nat → Bool) : Nat → Nat
  | 0 => 0
  | n + 1 => rk M n + (if M n then 1 else 0)
theorem rk_s (M : Nat → Bool) (n : Nat) : rk M (n + 1) = rk M n + (if M n then 1 else 0) := rfl
theorem rk_z (M : Nat → Bool) : rk M 0 = 0 := rfl
theorem rk_mono (M : Nat → Bool) (a : Nat) : ∀ b, a ≤ b → rk M a ≤ rk M b
  | 0, h => by have : a = 0 := by omega
               subst this; exact Nat.le_refl _
  | b + 1, h => by
    by_cases e : a = b + 1
    · rw [e]; exact Nat.le_refl _
    · have := rk_mono M a b (by omega)
      rw [rk_s]; omega
theorem rk_le (M : Nat → Bool) : ∀ n, rk M n ≤ n
  | 0 => Nat.le_refl _
  | n + 1 => by have := rk_le M n; rw [rk_s]; split <;> omega
theorem rk_lt (M : Nat → Bool) {a b : Nat} (h : a < b) (ha : M a = true) : rk M a < rk M b := by
  have := rk_mono M (a + 1) b (by omega)
  rw [rk_s, if_pos ha] at this
  omega
theorem rk_inj (M : Nat → Bool) {a b : Nat} (ha : M a = true) (hb : M b = true) (h : rk M a = rk M b) : a = b := by
  rcases Nat.lt_trichotomy a b with g | g | g
  · have := rk_lt M g ha; omega
  · exact g
  · have := rk_lt M g hb; omega
theorem rk_sur (M : Nat → Bool) : ∀ n k, k < rk M n → ∃ p, p < n ∧ M p = true ∧ rk M p = k
  | 0, k, h => by rw [rk_z] at h; omega
  | n + 1, k, h => by
    rw [rk_s] at h
    by_cases g : k < rk M n
    · obtain ⟨p, h1, h2, h3⟩ := rk_sur M n k g
      exact ⟨p, by omega, h2, h3⟩
    · split at h
      · rename_i hm; exact ⟨n, by omega, hm, by omega⟩
      · omega
theorem rk_rem (M : Nat → Bool) (x : Nat) : ∀ n, rk M n ≤ rk (fun p => M p && decide (p ≠ x)) n + (if x < n then 1 else 0)
  | 0 => by rw [rk_z]; omega
  | n + 1 => by
    have ih := rk_rem M x n
    rw [rk_s, rk_s]
    show rk M n + (if M n = true then 1 else 0) ≤ rk (fun p => M p && decide (p ≠ x)) n + (if (M n && decide (n ≠ x)) = true then 1 else 0) + (if x < n + 1 then 1 else 0)
    by_cases e : n = x
    · subst e
      rw [if_neg (show ¬ (n < n) by omega)] at ih
      rw [if_pos (show n < n + 1 by omega)]
      split <;> split <;> omega
    · have : (M n && decide (n ≠ x)) = M n := by simp [e]
      rw [this]
      by_cases hx : x < n
      · rw [if_pos hx] at ih; rw [if_pos (show x < n + 1 by omega)]; split <;> omega
      · rw [if_neg hx] at ih; rw [if_neg (show ¬ (x < n + 1) by omega)]; split <;> omega
theorem rk_list : ∀ (L : List Nat) (M : Nat → Bool) (n : Nat), (∀ p, p < n → M p = true → p ∈ L) → rk M n ≤ L.length
  | [], M, n, h => by
    have : ∀ k, k ≤ n → rk M k = 0 := by
      intro k
      induction k with
      | zero => intro _; rfl
      | succ k ih =>
        intro hk
        rw [rk_s, ih (by omega)]
        by_cases hm : M k = true
        · exact absurd (h k (by omega) hm) (by simp)
        · rw [if_neg hm]
    rw [this n (Nat.le_refl _)]; simp
  | x :: L, M, n, h => by
    have h1 := rk_rem M x n
    have h2 := rk_list L (fun p => M p && decide (p ≠ x)) n (by
      intro p hp hm
      simp only [Bool.and_eq_true, decide_eq_true_eq] at hm
      rcases List.mem_cons.mp (h p hp hm.1) with g | g
      · exact absurd g hm.2
      · exact g)
    simp only [List.length_cons]
    split at h1 <;> omega
def ndl (ki le ri : Nat → Int32) : Nat → Nat → List Nat
  | 0, _ => []
  | f + 1, p => if ki p < 3 then [p] else if ki p < 5 then ndl ki le ri f (le p).toNatClampNeg ++ ndl ki le ri f (ri p).toNatClampNeg ++ [p] else ndl ki le ri f (ri p).toNatClampNeg ++ [p]
section NDL
variable {u : Nat} {ki le ri ro : Nat → Int32}
def Chd (ki le ri : Nat → Int32) (p c : Nat) : Prop := (3 ≤ ki p ∧ ri p = Int32.ofNat c) ∨ (3 ≤ ki p ∧ ki p < 5 ∧ le p = Int32.ofNat c)
theorem ndl_ok (P : Po u ki le ri ro) : ∀ p, p < u → ∀ f, p < f → (ndl ki le ri f p).length = (dn ki le ri ro p).length ∧ p ∈ ndl ki le ri f p ∧ ∀ q ∈ ndl ki le ri f p, q < u ∧ ∀ c, c < u → Chd ki le ri q c → c ∈ ndl ki le ri f p := by
  intro p
  have hu2 := P.2.1
  induction p using Nat.strongRecOn with
  | ind p ih =>
    intro hp f hf
    obtain ⟨f, rfl⟩ : ∃ g, f = g + 1 := ⟨f - 1, by omega⟩
    have leafc : ki p < 3 → ∀ c, Chd ki le ri p c → False := by
      intro h c hc
      rw [Int32.lt_iff_toInt_lt] at h
      rcases hc with ⟨g, _⟩ | ⟨g, _⟩ <;> rw [Int32.le_iff_toInt_le] at g <;> omega
    rcases P.2.2.1 p hp with ⟨_, h, _⟩ | ⟨_, h, _⟩ | ⟨_, h, _⟩ | ⟨a, b, _, ha, hb, hk, e1, e2, _⟩ | ⟨v, b, _, hv, hb, hk, e1, e2, _⟩
    · have h3 : ki p < 3 := by rw [h]; decide
      unfold ndl; rw [if_pos h3, dn0 h]
      refine ⟨rfl, List.mem_singleton.mpr rfl, fun q hq => ?_⟩
      rw [List.mem_singleton.mp hq]
      exact ⟨hp, fun c _ hc => (leafc h3 c hc).elim⟩
    · have h3 : ki p < 3 := by rw [h]; decide
      unfold ndl; rw [if_pos h3, dn1 h]
      refine ⟨rfl, List.mem_singleton.mpr rfl, fun q hq => ?_⟩
      rw [List.mem_singleton.mp hq]
      exact ⟨hp, fun c _ hc => (leafc h3 c hc).elim⟩
    · have h3 : ki p < 3 := by rw [h]; decide
      unfold ndl; rw [if_pos h3, dn2 h]
      refine ⟨rfl, List.mem_singleton.mpr rfl, fun q hq => ?_⟩
      rw [List.mem_singleton.mp hq]
      exact ⟨hp, fun c _ hc => (leafc h3 c hc).elim⟩
    · have ea : (le p).toNatClampNeg = a := by rw [e1, i_cl _ (by omega)]
      have eb : (ri p).toNatClampNeg = b := by rw [e2, i_cl _ (by omega)]
      obtain ⟨a1, a2, a3⟩ := ih a ha (by omega) f (by omega)
      obtain ⟨b1, b2, b3⟩ := ih b hb (by omega) f (by omega)
      unfold ndl
      rw [if_neg (by rcases hk with h | h <;> rw [h] <;> decide), if_pos (by rcases hk with h | h <;> rw [h] <;> decide), ea, eb, dnb P hp ha hb hk e1 e2]
      refine ⟨by simp [a1, b1], by simp, fun q hq => ?_⟩
      rcases List.mem_append.mp hq with hq | hq
      · rcases List.mem_append.mp hq with hq | hq
        · exact ⟨(a3 q hq).1, fun c hcu hc => by simp [(a3 q hq).2 c hcu hc]⟩
        · exact ⟨(b3 q hq).1, fun c hcu hc => by simp [(b3 q hq).2 c hcu hc]⟩
      · rw [List.mem_singleton.mp hq]
        refine ⟨hp, fun c hcu hc => ?_⟩
        rcases hc with ⟨_, g⟩ | ⟨_, _, g⟩
        · rw [e2, i_eq _ _ (by omega) (by omega)] at g; subst g; simp [b2]
        · rw [e1, i_eq _ _ (by omega) (by omega)] at g; subst g; simp [a2]
    · have eb : (ri p).toNatClampNeg = b := by rw [e2, i_cl _ (by omega)]
      obtain ⟨b1, b2, b3⟩ := ih b hb (by omega) f (by omega)
      unfold ndl
      rw [if_neg (by rcases hk with h | h <;> rw [h] <;> decide), if_neg (by rcases hk with h | h <;> rw [h] <;> decide), eb, dnq P hp hv hb hk e1 e2]
      refine ⟨by simp [b1], by simp, fun q hq => ?_⟩
      rcases List.mem_append.mp hq with hq | hq
      · exact ⟨(b3 q hq).1, fun c hcu hc => by simp [(b3 q hq).2 c hcu hc]⟩
      · rw [List.mem_singleton.mp hq]
        refine ⟨hp, fun c hcu hc => ?_⟩
        rcases hc with ⟨_, g⟩ | ⟨_, g5, g⟩
        · rw [e2, i_eq _ _ (by omega) (by omega)] at g; subst g; simp [b2]
        · exact absurd g5 (by rcases hk with h | h <;> rw [h] <;> decide)
end NDL
section SW
variable {u : Nat} {ki le ri ma bi ro ta rs : Nat → Int32} {rw_ : Nat → Int64} {L : List Nat}
def RLs (u : Nat) (rs : Nat → Int32) (L : List Nat) : Prop := L.length ≤ 2000 ∧ (∀ i, i < L.length → rs i = Int32.ofNat (L.getD i 0)) ∧ ∀ x ∈ L, x < u
theorem sw1 (N : Nat) (hu : u ≤ 24000) (RD : Int32) : ∀ (d m k : Nat) (mo : Nat → Int32), k + d = u → (∀ q, q < k → mo q = if q < 2 then 1 else 0) → ∃ mo' : Nat → Int32, (∀ q, q < u → mo' q = if q < 2 then 1 else 0) ∧ f_X7_sweep_2 N (m + d + 1) (Int32.ofNat u) RD ki le ri ma bi ro ta rs mo rw_ (Int32.ofNat k) = f_X7_sweep_34 N N (Int32.ofNat u) RD ki le ri ma bi ro ta rs mo' rw_ 0
  | 0, m, k, mo, h, hm => by
    have : k = u := by omega
    subst this
    refine ⟨mo, hm, ?_⟩
    rw [f_X7_sweep_2]; dsimp only
    rw [ifb_t (by rw [i_le _ _ (by omega) (by omega)]; omega)]
  | d + 1, m, k, mo, h, hm => by
    rw [show m + (d + 1) + 1 = (m + d + 1) + 1 from by omega, f_X7_sweep_2]; dsimp only
    rw [ifb_f (by rw [i_le _ _ (by omega) (by omega)]; omega)]
    have step : ∀ x : Int32, x = (if k < 2 then 1 else 0) → ∃ mo' : Nat → Int32, (∀ q, q < u → mo' q = if q < 2 then 1 else 0) ∧ f_X7_sweep_25 (f_X7_sweep_2 N (m + d + 1)) N (Int32.ofNat u) RD ki le ri ma bi ro ta rs mo rw_ (Int32.ofNat k) (Int32.ofNat k) x = f_X7_sweep_34 N N (Int32.ofNat u) RD ki le ri ma bi ro ta rs mo' rw_ 0 := by
      intro x hx
      unfold f_X7_sweep_25
      rw [ix_n _ _ _ (by omega) (by omega), i_cl _ (by omega), i_p1]
      apply sw1 N hu RD d m (k + 1) _ (by omega)
      intro q hq
      by_cases e : q = k
      · rw [e, upd_at, hx]
      · rw [upd_ne _ _ _ _ e]; exact hm q (by omega)
    by_cases h2 : 2 ≤ k
    · rw [ifb_t (by rw [show (2 : Int32) = Int32.ofNat 2 from rfl, i_le _ _ (by omega) (by omega)]; exact h2)]
      exact step 0 (by rw [if_neg (by omega)])
    · rw [ifb_f (by rw [show (2 : Int32) = Int32.ofNat 2 from rfl, i_le _ _ (by omega) (by omega)]; exact h2)]
      exact step 1 (by rw [if_pos (by omega)])
theorem sw2 (N : Nat) (hu : u ≤ 24000) (R : RLs u rs L) : ∀ (d m k : Nat) (mo : Nat → Int32), k + d = L.length → (∀ q, q < u → (mo q = 0 ∨ mo q = 1) ∧ (mo q = 1 ↔ (q < 2 ∨ q ∈ L.take k))) → ∃ mo' : Nat → Int32, (∀ q, q < u → (mo' q = 0 ∨ mo' q = 1) ∧ (mo' q = 1 ↔ (q < 2 ∨ q ∈ L))) ∧ f_X7_sweep_34 N (m + d + 1) (Int32.ofNat u) (Int32.ofNat L.length) ki le ri ma bi ro ta rs mo rw_ (Int32.ofNat k) = f_X7_sweep_67 N N (Int32.ofNat u) (Int32.ofNat L.length) ki le ri ma bi ro ta rs mo' rw_ (Int32.ofNat u - 1)
  | 0, m, k, mo, h, hm => by
    have hl := R.1
    refine ⟨mo, ?_, ?_⟩
    · rw [List.take_of_length_le (by omega)] at hm; exact hm
    · rw [f_X7_sweep_34]; dsimp only
      rw [ifb_t (by rw [i_le _ _ (by omega) (by omega)]; omega)]
  | d + 1, m, k, mo, h, hm => by
    have hl := R.1
    have hk : k < L.length := by omega
    have eg : L.getD k 0 = L[k] := by simp [List.getD_eq_getElem?_getD, List.getElem?_eq_getElem hk]
    have er := R.2.1 k hk
    have hx := R.2.2 L[k] (List.getElem_mem hk)
    rw [eg] at er
    rw [show m + (d + 1) + 1 = (m + d + 1) + 1 from by omega, f_X7_sweep_34]; dsimp only
    rw [ifb_f (by rw [i_le _ _ (by omega) (by omega)]; omega), ix_n _ _ _ (by omega) (by omega), i_cl _ (by omega), er, ix_n _ _ _ (by omega) (by omega), i_cl _ (by omega), i_p1]
    apply sw2 N hu R d m (k + 1) _ (by omega)
    intro q hq
    have et : L.take (k + 1) = L.take k ++ [L[k]] := by rw [List.take_add_one, List.getElem?_eq_getElem hk]; rfl
    rw [et]
    by_cases e : q = L[k]
    · subst e; rw [upd_at]
      exact ⟨Or.inr rfl, fun _ => Or.inr (List.mem_append_right _ (List.mem_singleton.mpr rfl)), fun _ => rfl⟩
    · rw [upd_ne _ _ _ _ e]
      refine ⟨(hm q hq).1, ?_⟩
      rw [(hm q hq).2, List.mem_append, List.mem_singleton]
      exact ⟨fun g => g.elim Or.inl (fun g => Or.inr (Or.inl g)), fun g => g.elim Or.inl (fun g => g.elim Or.inr (fun g => absurd g e))⟩
def Mk (u : Nat) (ki le ri : Nat → Int32) (L : List Nat) (k : Nat) (mo : Nat → Int32) : Prop := ∀ q, q < u → (mo q = 0 ∨ mo q = 1) ∧ ((q < 2 ∨ q ∈ L) → mo q = 1) ∧ (mo q = 1 → (q < 2 ∨ ∃ x ∈ L, q ∈ ndl ki le ri u x)) ∧ (k ≤ q → mo q = 1 → ∀ c, c < u → Chd ki le ri q c → mo c = 1)
theorem mk_upd {k : Nat} {mo : Nat → Int32} (P : Po u ki le ri ro) (hL : ∀ x ∈ L, x < u) (M : Mk u ki le ri L k mo) {p c : Nat} (hp : p < u) (hm : mo p = 1) (hc : c < u) (hck : c < k) (hch : Chd ki le ri p c) : Mk u ki le ri L k (upd mo c 1) := by
  intro q hq
  obtain ⟨a1, a2, a3, a4⟩ := M q hq
  have mono : ∀ x, mo x = 1 → upd mo c 1 x = 1 := by
    intro x hx
    by_cases e : x = c
    · rw [e, upd_at]
    · rw [upd_ne _ _ _ _ e]; exact hx
  by_cases e : q = c
  · subst e
    rw [upd_at]
    refine ⟨Or.inr rfl, fun _ => rfl, fun _ => ?_, fun hk hm2 d hd hcd => ?_⟩
    · obtain ⟨b1, b2, b3, b4⟩ := M p hp
      rcases b3 hm with g | ⟨x, hx, g⟩
      · exfalso
        have hu2 := P.2.1
        rcases P.2.2.1 p hp with ⟨_, h, _⟩ | ⟨_, h, _⟩ | ⟨h2, _⟩ | ⟨a, b, h2, _⟩ | ⟨v, b, h2, _⟩
        · rcases hch with ⟨g3, _⟩ | ⟨g3, _⟩ <;> rw [h] at g3 <;> exact absurd g3 (by decide)
        · rcases hch with ⟨g3, _⟩ | ⟨g3, _⟩ <;> rw [h] at g3 <;> exact absurd g3 (by decide)
        · omega
        · omega
        · omega
      · have := (ndl_ok P x (hL x hx) u (hL x hx)).2.2 p g
        exact Or.inr ⟨x, hx, this.2 q hc hch⟩
    · omega
  · rw [upd_ne _ _ _ _ e]
    exact ⟨a1, a2, a3, fun hk hm2 d hd hcd => mono d (a4 hk hm2 d hd hcd)⟩
theorem ch_lt (P : Po u ki le ri ro) {p c : Nat} (hp : p < u) (hc : c < u) (h : Chd ki le ri p c) : c < p := by
  have hu2 := P.2.1
  rcases P.2.2.1 p hp with ⟨_, g, _⟩ | ⟨_, g, _⟩ | ⟨_, g, _⟩ | ⟨a, b, _, ha, hb, hk, e1, e2, _⟩ | ⟨v, b, _, hv, hb, hk, e1, e2, _⟩
  · rcases h with ⟨g3, _⟩ | ⟨g3, _⟩ <;> rw [g] at g3 <;> exact absurd g3 (by decide)
  · rcases h with ⟨g3, _⟩ | ⟨g3, _⟩ <;> rw [g] at g3 <;> exact absurd g3 (by decide)
  · rcases h with ⟨g3, _⟩ | ⟨g3, _⟩ <;> rw [g] at g3 <;> exact absurd g3 (by decide)
  · rcases h with ⟨_, g⟩ | ⟨_, _, g⟩
    · rw [e2, i_eq _ _ (by omega) (by omega)] at g; omega
    · rw [e1, i_eq _ _ (by omega) (by omega)] at g; omega
  · rcases h with ⟨_, g⟩ | ⟨_, g5, g⟩
    · rw [e2, i_eq _ _ (by omega) (by omega)] at g; omega
    · exact absurd g5 (by rcases hk with h | h <;> rw [h] <;> decide)
theorem sw3 (N : Nat) (P : Po u ki le ri ro) (hL : ∀ x ∈ L, x < u) (RD : Int32) : ∀ (k m : Nat) (mo : Nat → Int32), k ≤ u → Mk u ki le ri L k mo → ∃ mo', Mk u ki le ri L 0 mo' ∧ f_X7_sweep_67 N (m + k + 1) (Int32.ofNat u) RD ki le ri ma bi ro ta rs mo rw_ (Int32.ofNat k - 1) = f_X7_sweep_135 N N (Int32.ofNat u) RD ki le ri ma bi ro ta rs mo' rw_ 0 0 := by
  have hu := P.2.1
  intro k
  induction k with
  | zero =>
    intro m mo hk M
    refine ⟨mo, M, ?_⟩
    rw [f_X7_sweep_67]; dsimp only
    rw [ifb_t (by decide)]
  | succ k ih =>
    intro m mo hk M
    obtain ⟨a1, a2, a3, a4⟩ := M k (by omega)
    rw [show m + (k + 1) + 1 = (m + k + 1) + 1 from by omega, f_X7_sweep_67]; dsimp only
    rw [i_m1 _ (by omega), show k + 1 - 1 = k from by omega, ifb_f (i_nn _ (by omega)), ix_n _ _ _ (by omega) (by omega), i_cl _ (by omega)]
    have next : ∀ mo2, Mk u ki le ri L k mo2 → ∃ mo', Mk u ki le ri L 0 mo' ∧ f_X7_sweep_125 (f_X7_sweep_67 N (m + k + 1)) N (Int32.ofNat u) RD ki le ri ma bi ro ta rs mo2 rw_ (Int32.ofNat k) = f_X7_sweep_135 N N (Int32.ofNat u) RD ki le ri ma bi ro ta rs mo' rw_ 0 0 := by
      intro mo2 M2
      unfold f_X7_sweep_125
      rw [show Int32.ofNat k + (-1) = Int32.ofNat k - 1 from (Int32.sub_eq_add_neg _ _).symm]
      exact ih m mo2 (by omega) M2
    have down : ∀ mo2, Mk u ki le ri L (k + 1) mo2 → (mo2 k = 1 → ∀ c, c < u → Chd ki le ri k c → mo2 c = 1) → Mk u ki le ri L k mo2 := by
      intro mo2 M2 hcl q hq
      obtain ⟨b1, b2, b3, b4⟩ := M2 q hq
      refine ⟨b1, b2, b3, fun hkq hm => ?_⟩
      by_cases e : q = k
      · subst e; exact hcl hm
      · exact b4 (by omega) hm
    by_cases hm : mo k = 1
    · rw [ifb_t hm, ix_n _ _ _ (by omega) (by omega)]
      have leaf : ki k < 3 → ∀ c, Chd ki le ri k c → False := by
        intro h c hc
        rw [Int32.lt_iff_toInt_lt] at h
        rcases hc with ⟨g, _⟩ | ⟨g, _⟩ <;> rw [Int32.le_iff_toInt_le] at g <;> omega
      by_cases h3 : ki k < 3
      · rw [ifb_t h3]
        exact next mo (down mo M (fun _ c _ hc => (leaf h3 c hc).elim))
      · rw [ifb_f h3, ix_n _ _ _ (by omega) (by omega)]
        rcases P.2.2.1 k (by omega) with ⟨_, g, _⟩ | ⟨_, g, _⟩ | ⟨_, g, _⟩ | ⟨a, b, _, ha, hb, hkk, e1, e2, _⟩ | ⟨v, b, _, hv, hb, hkk, e1, e2, _⟩
        · exact absurd (by rw [g]; decide) h3
        · exact absurd (by rw [g]; decide) h3
        · exact absurd (by rw [g]; decide) h3
        · have g3 : 3 ≤ ki k := by rcases hkk with h | h <;> rw [h] <;> decide
          have g5 : ki k < 5 := by rcases hkk with h | h <;> rw [h] <;> decide
          rw [e2, ix_n _ _ _ (by omega) (by omega), ix_n _ _ _ (by omega) (by omega), ifb_f (by rcases hkk with h | h <;> rw [h] <;> decide), ix_n _ _ _ (by omega) (by omega), e1, ix_n _ _ _ (by omega) (by omega), i_cl _ (by omega), i_cl _ (by omega)]
          have c1 : Chd ki le ri k b := Or.inl ⟨g3, e2⟩
          have c2 : Chd ki le ri k a := Or.inr ⟨g3, g5, e1⟩
          have M1 := mk_upd P hL M (by omega) hm (by omega) (by omega) c1
          have hm1 : upd mo b 1 k = 1 := by rw [upd_ne _ _ _ _ (by omega)]; exact hm
          have M2 := mk_upd P hL M1 (by omega) hm1 (by omega) (by omega) c2
          refine next _ (down _ M2 (fun _ c hc hch => ?_))
          rcases hch with ⟨_, g⟩ | ⟨_, _, g⟩
          · rw [e2, i_eq _ _ (by omega) (by omega)] at g
            subst g
            by_cases e : b = a
            · rw [e, upd_at]
            · rw [upd_ne _ _ _ _ e, upd_at]
          · rw [e1, i_eq _ _ (by omega) (by omega)] at g
            subst g; rw [upd_at]
        · have g3 : 3 ≤ ki k := by rcases hkk with h | h <;> rw [h] <;> decide
          rw [e2, ix_n _ _ _ (by omega) (by omega), ix_n _ _ _ (by omega) (by omega), ifb_t (by rcases hkk with h | h <;> rw [h] <;> decide), i_cl _ (by omega)]
          have c1 : Chd ki le ri k b := Or.inl ⟨g3, e2⟩
          have M1 := mk_upd P hL M (by omega) hm (by omega) (by omega) c1
          refine next _ (down _ M1 (fun _ c hc hch => ?_))
          rcases hch with ⟨_, g⟩ | ⟨_, g5, g⟩
          · rw [e2, i_eq _ _ (by omega) (by omega)] at g
            subst g; rw [upd_at]
          · exact absurd g5 (by rcases hkk with h | h <;> rw [h] <;> decide)
    · rw [ifb_f hm]
      exact next mo (down mo M (fun g => absurd g hm))
end SW
section CP
variable {u : Nat} {ta rs : Nat → Int32} {rw_ : Nat → Int64}
theorem upd_self (f : Nat → Int32) (k p : Nat) : upd f k (f p) p = f p := by
  unfold upd; split
  · rfl
  · rfl
def cpR (ro : Nat → Int32) (k p i : Nat) : Nat → Int32 := fun j => if 9 * k ≤ j ∧ j < 9 * k + i then ro (9 * p + (j - 9 * k)) else ro j
theorem sw_row (N : Nat) (K : Int32 → Int32 → (Nat → Int32) → (Nat → Int32) → (Nat → Int32) → (Nat → Int32) → (Nat → Int32) → (Nat → Int32) → (Nat → Int32) → (Nat → Int32) → (Nat → Int32) → (Nat → Int64) → Int32 → Int32 → Option ((Int32) × (Nat → Int32) × (Nat → Int32) × (Nat → Int32) × (Nat → Int32) × (Nat → Int32) × (Nat → Int32) × (Nat → Int32) × (Nat → Int32) × (Nat → Int32))) (US RD : Int32) (ki le ri ma bi mo : Nat → Int32) (ro : Nat → Int32) (k p : Nat) (hkp : k ≤ p) (hp : p < 24000) : ∀ (d m i : Nat), i + d = 9 → f_X7_sweep_273 K N (m + d + 1) US RD ki le ri ma bi (cpR ro k p i) ta rs mo rw_ (Int32.ofNat k) (Int32.ofNat p) (Int32.ofNat i) = K US RD ki le ri ma bi (cpR ro k p 9) ta rs (upd mo p (Int32.ofNat k)) rw_ (Int32.ofNat (k + 1)) (Int32.ofNat (p + 1))
  | 0, m, i, h => by
    have : i = 9 := by omega
    subst this
    rw [f_X7_sweep_273]; dsimp only
    rw [ifb_t (by decide), ix_n _ _ _ (by omega) (by omega), i_cl _ (by omega)]
    unfold f_X7_sweep_317
    rw [show Int32.ofNat k + 1 = Int32.ofNat (k + 1) from i_add k 1, show Int32.ofNat p + 1 = Int32.ofNat (p + 1) from i_add p 1]
  | d + 1, m, i, h => by
    rw [show m + (d + 1) + 1 = (m + d + 1) + 1 from by omega, f_X7_sweep_273]; dsimp only
    rw [ifb_f (by rw [show (9 : Int32) = Int32.ofNat 9 from rfl, i_le _ _ (by omega) (by omega)]; omega), show (9 : Int32) * Int32.ofNat p = Int32.ofNat (9 * p) from i_mul 9 p, show (9 : Int32) * Int32.ofNat k = Int32.ofNat (9 * k) from i_mul 9 k, i_add, i_add, ix_n _ _ _ (by omega) (by omega), ix_n _ _ _ (by omega) (by omega), i_cl _ (by omega), i_cl _ (by omega), i_p1]
    have e : upd (cpR ro k p i) (9 * k + i) (cpR ro k p i (9 * p + i)) = cpR ro k p (i + 1) := by
      funext j
      unfold upd cpR
      have hx : (if 9 * k ≤ 9 * p + i ∧ 9 * p + i < 9 * k + i then ro (9 * p + (9 * p + i - 9 * k)) else ro (9 * p + i)) = ro (9 * p + i) := by
        rw [if_neg (by omega)]
      rw [hx]
      by_cases c1 : j = 9 * k + i
      · rw [if_pos c1, if_pos (by omega)]; congr 1; omega
      · rw [if_neg c1]
        by_cases c2 : 9 * k ≤ j ∧ j < 9 * k + i
        · rw [if_pos c2, if_pos (by omega)]
        · rw [if_neg c2, if_neg (by omega)]
    rw [e]
    exact sw_row N K US RD ki le ri ma bi mo ro k p hkp hp d m (i + 1) (by omega)
def nL (M : Nat → Bool) (ki le : Nat → Int32) (q : Nat) : Int32 := if ki q = 3 ∨ ki q = 4 then Int32.ofNat (rk M (le q).toNatClampNeg) else le q
def nR (M : Nat → Bool) (ki ri : Nat → Int32) (q : Nat) : Int32 := if ki q < 3 then ri q else Int32.ofNat (rk M (ri q).toNatClampNeg)
def Cp (u : Nat) (M : Nat → Bool) (KI LE RI MA BI RO : Nat → Int32) (p : Nat) (ki le ri ma bi ro mo : Nat → Int32) : Prop :=
  (∀ q, q < u → rk M p ≤ q → ki q = KI q ∧ le q = LE q ∧ ri q = RI q ∧ ma q = MA q ∧ bi q = BI q ∧ ∀ i, i < 9 → ro (9 * q + i) = RO (9 * q + i)) ∧
  (∀ q, q < p → M q = true → ki (rk M q) = KI q ∧ le (rk M q) = nL M KI LE q ∧ ri (rk M q) = nR M KI RI q ∧ ma (rk M q) = MA q ∧ bi (rk M q) = BI q ∧ (∀ i, i < 9 → ro (9 * rk M q + i) = RO (9 * q + i)) ∧ mo q = Int32.ofNat (rk M q)) ∧
  (∀ q, q < u → p ≤ q → (mo q = 1 ↔ M q = true))
theorem cp_step {M : Nat → Bool} {KI LE RI MA BI RO : Nat → Int32} {p : Nat} {ki le ri ma bi ro mo : Nat → Int32} (C : Cp u M KI LE RI MA BI RO p ki le ri ma bi ro mo) (hp : p < u) (hm : M p = true) : Cp u M KI LE RI MA BI RO (p + 1) (upd ki (rk M p) (ki p)) (upd le (rk M p) (nL M KI LE p)) (upd ri (rk M p) (nR M KI RI p)) (upd ma (rk M p) (ma p)) (upd bi (rk M p) (bi p)) (cpR ro (rk M p) p 9) (upd mo p (Int32.ofNat (rk M p))) := by
  obtain ⟨c1, c2, c3⟩ := C
  have hle := rk_le M p
  obtain ⟨d1, d2, d3, d4, d5, d6⟩ := c1 p hp hle
  refine ⟨fun q hq h => ?_, fun q hq hmq => ?_, fun q hq h => ?_⟩
  · rw [rk_s, if_pos hm] at h
    obtain ⟨e1, e2, e3, e4, e5, e6⟩ := c1 q hq (by omega)
    rw [upd_ne _ _ _ _ (by omega), upd_ne _ _ _ _ (by omega), upd_ne _ _ _ _ (by omega), upd_ne _ _ _ _ (by omega), upd_ne _ _ _ _ (by omega)]
    refine ⟨e1, e2, e3, e4, e5, fun i hi => ?_⟩
    unfold cpR; rw [if_neg (by omega)]; exact e6 i hi
  · by_cases e : q = p
    · subst e
      rw [upd_at, upd_at, upd_at, upd_at, upd_at, upd_at]
      refine ⟨d1, rfl, rfl, d4, d5, fun i hi => ?_, rfl⟩
      unfold cpR; rw [if_pos (by omega), show 9 * q + (9 * rk M q + i - 9 * rk M q) = 9 * q + i from by omega]; exact d6 i hi
    · have hlt := rk_lt M (show q < p by omega) hmq
      obtain ⟨e1, e2, e3, e4, e5, e6, e7⟩ := c2 q (by omega) hmq
      rw [upd_ne _ _ _ _ (by omega), upd_ne _ _ _ _ (by omega), upd_ne _ _ _ _ (by omega), upd_ne _ _ _ _ (by omega), upd_ne _ _ _ _ (by omega), upd_ne _ _ _ _ (by omega)]
      refine ⟨e1, e2, e3, e4, e5, fun i hi => ?_, e7⟩
      unfold cpR; rw [if_neg (by omega)]; exact e6 i hi
  · rw [upd_ne _ _ _ _ (by omega)]; exact c3 q hq (by omega)
theorem sw4 (N : Nat) (hN : 20 ≤ N) {M : Nat → Bool} {KI LE RI MA BI RO : Nat → Int32} (P : Po u KI LE RI RO) (cl : ∀ q, q < u → M q = true → ∀ c, c < u → Chd KI LE RI q c → M c = true) (RD : Int32) : ∀ (d m p : Nat) (ki le ri ma bi ro mo : Nat → Int32), p + d = u → Cp u M KI LE RI MA BI RO p ki le ri ma bi ro mo → ∃ ki' le' ri' ma' bi' ro' mo', Cp u M KI LE RI MA BI RO u ki' le' ri' ma' bi' ro' mo' ∧ f_X7_sweep_135 N (m + d + 1) (Int32.ofNat u) RD ki le ri ma bi ro ta rs mo rw_ (Int32.ofNat (rk M p)) (Int32.ofNat p) = f_X7_sweep_330 N N (Int32.ofNat (rk M u)) RD ki' le' ri' ma' bi' ro' ta rs mo' rw_ 0
  | 0, m, p, ki, le, ri, ma, bi, ro, mo, h, C => by
    have hu := P.2.1
    have : p = u := by omega
    subst this
    refine ⟨ki, le, ri, ma, bi, ro, mo, C, ?_⟩
    rw [f_X7_sweep_135]; dsimp only
    rw [ifb_t (by rw [i_le _ _ (by omega) (by omega)]; omega)]
  | d + 1, m, p, ki, le, ri, ma, bi, ro, mo, h, C => by
    have hu := P.2.1
    have hp : p < u := by omega
    have hle := rk_le M p
    obtain ⟨c1, c2, c3⟩ := C
    obtain ⟨d1, d2, d3, d4, d5, d6⟩ := c1 p hp hle
    rw [show m + (d + 1) + 1 = (m + d + 1) + 1 from by omega, f_X7_sweep_135]; dsimp only
    rw [ifb_f (by rw [i_le _ _ (by omega) (by omega)]; omega), ix_n _ _ _ (by omega) (by omega), i_cl _ (by omega), i_cl _ (by omega)]
    by_cases hm : M p = true
    · rw [ifb_t ((c3 p hp (Nat.le_refl _)).mpr hm), ix_n _ _ _ (by omega) (by omega), ix_n _ _ _ (by omega) (by omega), ix_n _ _ _ (by omega) (by omega), upd_self]
      have S := cp_step ⟨c1, c2, c3⟩ hp hm
      obtain ⟨ki', le', ri', ma', bi', ro', mo', C', e'⟩ := sw4 N hN P cl RD d m (p + 1) _ _ _ _ _ _ _ (by omega) S
      refine ⟨ki', le', ri', ma', bi', ro', mo', C', ?_⟩
      rw [← e', rk_s, if_pos hm]

      have fin : ∀ le2, f_X7_sweep_246 (f_X7_sweep_135 N (m + d + 1)) N (Int32.ofNat u) RD (upd ki (rk M p) (ki p)) le2 ri ma bi ro ta rs mo rw_ (Int32.ofNat (rk M p)) (Int32.ofNat p) (Int32.ofNat (rk M p)) (nR M KI RI p) = f_X7_sweep_135 N (m + d + 1) (Int32.ofNat u) RD (upd ki (rk M p) (ki p)) le2 (upd ri (rk M p) (nR M KI RI p)) (upd ma (rk M p) (ma p)) (upd bi (rk M p) (bi p)) (cpR ro (rk M p) p 9) ta rs (upd mo p (Int32.ofNat (rk M p))) rw_ (Int32.ofNat (rk M p + 1)) (Int32.ofNat (p + 1)) := by
        intro le2
        unfold f_X7_sweep_246
        rw [ix_n _ _ _ (by omega) (by omega), ix_n _ _ _ (by omega) (by omega), ix_n _ _ _ (by omega) (by omega), ix_n _ _ _ (by omega) (by omega), ix_n _ _ _ (by omega) (by omega), i_cl _ (by omega), i_cl _ (by omega)]
        have e0 : cpR ro (rk M p) p 0 = ro := by
          funext j; unfold cpR; rw [if_neg (by omega)]
        have := sw_row (ta := ta) (rs := rs) (rw_ := rw_) N (f_X7_sweep_135 N (m + d + 1)) (Int32.ofNat u) RD (upd ki (rk M p) (ki p)) le2 (upd ri (rk M p) (nR M KI RI p)) (upd ma (rk M p) (ma p)) (upd bi (rk M p) (bi p)) mo ro (rk M p) p hle (by omega) 9 (N - 10) 0 rfl
        rw [e0, show N - 10 + 9 + 1 = N from by omega] at this
        exact this
      have mid : ∀ s2, s2 = nL M KI LE p → f_X7_sweep_210 (f_X7_sweep_135 N (m + d + 1)) N (Int32.ofNat u) RD (upd ki (rk M p) (ki p)) le ri ma bi ro ta rs mo rw_ (Int32.ofNat (rk M p)) (Int32.ofNat p) (Int32.ofNat (rk M p)) s2 = f_X7_sweep_135 N (m + d + 1) (Int32.ofNat u) RD (upd ki (rk M p) (ki p)) (upd le (rk M p) (nL M KI LE p)) (upd ri (rk M p) (nR M KI RI p)) (upd ma (rk M p) (ma p)) (upd bi (rk M p) (bi p)) (cpR ro (rk M p) p 9) ta rs (upd mo p (Int32.ofNat (rk M p))) rw_ (Int32.ofNat (rk M p + 1)) (Int32.ofNat (p + 1)) := by
        intro s2 hs
        subst hs
        unfold f_X7_sweep_210
        rw [ix_n _ _ _ (by omega) (by omega), ix_n _ _ _ (by omega) (by omega), i_cl _ (by omega), i_cl _ (by omega), upd_self, d1]
        by_cases h3 : KI p < 3
        · rw [ifb_t h3, ix_n _ _ _ (by omega) (by omega), d3]
          have er : nR M KI RI p = RI p := by unfold nR; rw [if_pos h3]
          rw [← er, ← d1]
          exact fin _
        · obtain ⟨b, hb, eb, hc⟩ : ∃ b, b < p ∧ RI p = Int32.ofNat b ∧ Chd KI LE RI p b := by
            rcases P.2.2.1 p hp with ⟨_, g, _⟩ | ⟨_, g, _⟩ | ⟨_, g, _⟩ | ⟨a, b, _, ha, hb, hkk, e1, e2, _⟩ | ⟨v, b, _, hv, hb, hkk, e1, e2, _⟩
            · exact absurd (by rw [g]; decide) h3
            · exact absurd (by rw [g]; decide) h3
            · exact absurd (by rw [g]; decide) h3
            · exact ⟨b, hb, e2, Or.inl ⟨by rcases hkk with h | h <;> rw [h] <;> decide, e2⟩⟩
            · exact ⟨b, hb, e2, Or.inl ⟨by rcases hkk with h | h <;> rw [h] <;> decide, e2⟩⟩
          have mb := cl p hp hm b (by omega) hc
          have er : nR M KI RI p = Int32.ofNat (rk M b) := by unfold nR; rw [if_neg h3, eb, i_cl _ (by omega)]
          rw [ifb_f h3, ix_n _ _ _ (by omega) (by omega), d3, eb, ix_n _ _ _ (by omega) (by omega), i_cl _ (by omega), (c2 b hb mb).2.2.2.2.2.2, ← er, ← d1]
          exact fin _
      have low : (KI p = 3 ∨ KI p = 4) → f_X7_sweep_190 (f_X7_sweep_135 N (m + d + 1)) N (Int32.ofNat u) RD (upd ki (rk M p) (ki p)) le ri ma bi ro ta rs mo rw_ (Int32.ofNat (rk M p)) (Int32.ofNat p) (Int32.ofNat (rk M p)) = f_X7_sweep_135 N (m + d + 1) (Int32.ofNat u) RD (upd ki (rk M p) (ki p)) (upd le (rk M p) (nL M KI LE p)) (upd ri (rk M p) (nR M KI RI p)) (upd ma (rk M p) (ma p)) (upd bi (rk M p) (bi p)) (cpR ro (rk M p) p 9) ta rs (upd mo p (Int32.ofNat (rk M p))) rw_ (Int32.ofNat (rk M p + 1)) (Int32.ofNat (p + 1)) := by
        intro h34
        obtain ⟨a, ha, ea, hc⟩ : ∃ a, a < p ∧ LE p = Int32.ofNat a ∧ Chd KI LE RI p a := by
          rcases P.2.2.1 p hp with ⟨_, g, _⟩ | ⟨_, g, _⟩ | ⟨_, g, _⟩ | ⟨a, b, _, ha, hb, hkk, e1, e2, _⟩ | ⟨v, b, _, hv, hb, hkk, e1, e2, _⟩
          · exact absurd h34 (by rw [g]; decide)
          · exact absurd h34 (by rw [g]; decide)
          · exact absurd h34 (by rw [g]; decide)
          · exact ⟨a, ha, e1, Or.inr ⟨by rcases hkk with h | h <;> rw [h] <;> decide, by rcases hkk with h | h <;> rw [h] <;> decide, e1⟩⟩
          · exact absurd h34 (by rcases hkk with h | h <;> rw [h] <;> decide)
        have mb := cl p hp hm a (by omega) hc
        unfold f_X7_sweep_190
        rw [ix_n _ _ _ (by omega) (by omega), i_cl _ (by omega), d2, ea, ix_n _ _ _ (by omega) (by omega), i_cl _ (by omega)]
        refine mid _ ?_
        unfold nL; rw [if_pos h34, ea, i_cl _ (by omega), (c2 a ha mb).2.2.2.2.2.2]
      by_cases h3 : ki p = 3
      · rw [ifb_t h3]
        exact low (Or.inl (d1 ▸ h3))
      · rw [ifb_f h3, ix_n _ _ _ (by omega) (by omega)]
        by_cases h4 : ki p = 4
        · rw [ifb_t h4]
          exact low (Or.inr (d1 ▸ h4))
        · rw [ifb_f h4, ix_n _ _ _ (by omega) (by omega)]
          refine mid _ ?_
          unfold nL; rw [if_neg (by rw [← d1]; exact fun g => g.elim h3 h4), d2]
    · rw [ifb_f (fun g => hm ((c3 p hp (Nat.le_refl _)).mp g))]
      have er : rk M (p + 1) = rk M p := by rw [rk_s, if_neg hm]; rfl
      unfold f_X7_sweep_317
      rw [show Int32.ofNat p + 1 = Int32.ofNat (p + 1) from i_add p 1, ← er]
      apply sw4 N hN P cl RD d m (p + 1) _ _ _ _ _ _ _ (by omega)
      refine ⟨fun q hq h => c1 q hq (by omega), fun q hq hmq => ?_, fun q hq h => c3 q hq (by omega)⟩
      by_cases e : q = p
      · subst e; exact absurd hmq hm
      · exact c2 q (by omega) hmq
end CP
section SW5
variable {u : Nat} {ki le ri ma bi ro ta rs mo : Nat → Int32} {rw_ : Nat → Int64} {L : List Nat}
theorem sw5 (N : Nat) (M : Nat → Bool) (US : Int32) (hL : L.length ≤ 2000) (hx : ∀ x ∈ L, x < 24000 ∧ mo x = Int32.ofNat (rk M x)) : ∀ (d m k : Nat) (rs : Nat → Int32), k + d = L.length → (∀ i, i < L.length → rs i = if i < k then Int32.ofNat (rk M (L.getD i 0)) else Int32.ofNat (L.getD i 0)) → ∃ rs' : Nat → Int32, (∀ i, i < L.length → rs' i = Int32.ofNat (rk M (L.getD i 0))) ∧ f_X7_sweep_330 N (m + d + 1) US (Int32.ofNat L.length) ki le ri ma bi ro ta rs mo rw_ (Int32.ofNat k) = f_X7_sweep_363 N N US (Int32.ofNat L.length) ki le ri ma bi ro ta rs' mo rw_ 0
  | 0, m, k, rs, h, hr => by
    refine ⟨rs, fun i hi => ?_, ?_⟩
    · rw [hr i hi, if_pos (by omega)]
    · rw [f_X7_sweep_330]; dsimp only
      rw [ifb_t (by rw [i_le _ _ (by omega) (by omega)]; omega)]
  | d + 1, m, k, rs, h, hr => by
    have hk : k < L.length := by omega
    have eg : L.getD k 0 = L[k] := by simp [List.getD_eq_getElem?_getD, List.getElem?_eq_getElem hk]
    have er : rs k = Int32.ofNat (L.getD k 0) := by rw [hr k hk, if_neg (by omega)]
    have hxk := hx (L.getD k 0) (by rw [eg]; exact List.getElem_mem hk)
    rw [show m + (d + 1) + 1 = (m + d + 1) + 1 from by omega, f_X7_sweep_330]; dsimp only
    rw [ifb_f (by rw [i_le _ _ (by omega) (by omega)]; omega), ix_n _ _ _ (by omega) (by omega), i_cl _ (by omega), er, ix_n _ _ _ (by omega) (by omega), ix_n _ _ _ (by omega) (by omega), i_cl _ (by omega), i_p1, hxk.2]
    apply sw5 N M US hL hx d m (k + 1) _ (by omega)
    intro i hi
    by_cases e : i = k
    · subst e; rw [upd_at, if_pos (by omega)]
    · rw [upd_ne _ _ _ _ e, hr i hi]
      by_cases c : i < k
      · rw [if_pos c, if_pos (by omega)]
      · rw [if_neg c, if_neg (by omega)]
theorem sw6 (N : Nat) (US RD : Int32) : ∀ (d m k : Nat) (ta : Nat → Int32), k + d = 65536 → (∀ i, i < k → ta i = 0) → ∃ ta' : Nat → Int32, (∀ i, i < 65536 → ta' i = 0) ∧ f_X7_sweep_363 N (m + d + 1) US RD ki le ri ma bi ro ta rs mo rw_ (Int32.ofNat k) = f_X7_sweep_384 N N US RD ki le ri ma bi ro ta' rs mo rw_ 0
  | 0, m, k, ta, h, hr => by
    have : k = 65536 := by omega
    subst this
    refine ⟨ta, hr, ?_⟩
    rw [f_X7_sweep_363]; dsimp only
    rw [ifb_t (by decide)]
  | d + 1, m, k, ta, h, hr => by
    rw [show m + (d + 1) + 1 = (m + d + 1) + 1 from by omega, f_X7_sweep_363]; dsimp only
    rw [ifb_f (by rw [show (65536 : Int32) = Int32.ofNat 65536 from rfl, i_le _ _ (by omega) (by omega)]; omega), ix_n _ _ _ (by omega) (by omega), i_cl _ (by omega), i_p1]
    apply sw6 N US RD d m (k + 1) _ (by omega)
    intro i hi
    by_cases e : i = k
    · subst e; rw [upd_at]
    · rw [upd_ne _ _ _ _ e]; exact hr i (by omega)
theorem cn_zero (t : Nat → Int32) : ∀ n, (∀ i, i < n → t i = 0) → cn t n = 0
  | 0, _ => rfl
  | n + 1, h => by
    unfold cn
    rw [cn_zero t n (fun i hi => h i (by omega)), h n (by omega), if_pos (by decide)]
theorem tb_zero (h : ∀ i, i < 65536 → ta i = 0) : Tb 0 ki le ri ro ta := ⟨fun i hi => Or.inl (h i hi), cn_zero ta 65536 h, fun p hp => by omega⟩
theorem tb_ins (T : Tb u ki le ri ro ta) (hu : u < 24000) {d : Nat} (hd : d < 65536) (hd1 : ta ((wn ki le ri ro u + d) % 65536) ≤ 0) (hd2 : ∀ e, e < d → ¬ (ta ((wn ki le ri ro u + e) % 65536) ≤ 0)) : Tb (u + 1) ki le ri ro (upd ta ((wn ki le ri ro u + d) % 65536) (Int32.ofNat (u + 1))) := by
  refine ⟨?_, ?_, ?_⟩
  · intro h hh'
    by_cases hx : h = (wn ki le ri ro u + d) % 65536
    · rw [hx, upd_at]; exact Or.inr ⟨u, by omega, rfl⟩
    · rw [upd_ne _ _ _ _ hx]
      rcases T.1 h hh' with g | ⟨p, hp, g⟩
      · exact Or.inl g
      · exact Or.inr ⟨p, by omega, g⟩
  · rw [cn_upd ta _ _ hd1 (i_pos u (by omega)) 65536 (Nat.mod_lt _ (by omega)), T.2.1]
  · intro p hp
    by_cases hpu : p = u
    · subst hpu
      refine ⟨d, hd, by rw [upd_at], fun e he => ?_⟩
      have := hd2 e he
      by_cases hx : (wn ki le ri ro p + e) % 65536 = (wn ki le ri ro p + d) % 65536
      · rw [hx] at this; exact absurd hd1 this
      · rw [upd_ne _ _ _ _ hx]; exact this
    · obtain ⟨d', hd', g1, g2⟩ := T.2.2 p (by omega)
      refine ⟨d', hd', ?_, fun e he => ?_⟩
      · by_cases hx : (wn ki le ri ro p + d') % 65536 = (wn ki le ri ro u + d) % 65536
        · rw [hx] at g1
          rw [g1] at hd1
          exact absurd hd1 (i_pos p (by omega))
        · rw [upd_ne _ _ _ _ hx]; exact g1
      · by_cases hx : (wn ki le ri ro p + e) % 65536 = (wn ki le ri ro u + d) % 65536
        · rw [hx, upd_at]; exact i_pos u (by omega)
        · rw [upd_ne _ _ _ _ hx]; exact g2 e he
theorem sw_walk (N : Nat) (K : Int32 → Int32 → (Nat → Int32) → (Nat → Int32) → (Nat → Int32) → (Nat → Int32) → (Nat → Int32) → (Nat → Int32) → (Nat → Int32) → (Nat → Int32) → (Nat → Int32) → (Nat → Int64) → Int32 → Option ((Int32) × (Nat → Int32) × (Nat → Int32) × (Nat → Int32) × (Nat → Int32) × (Nat → Int32) × (Nat → Int32) × (Nat → Int32) × (Nat → Int32) × (Nat → Int32))) (US RD : Int32) (p h0 d : Nat) (hh : h0 < 65536) (hd1 : ta ((h0 + d) % 65536) ≤ 0) (hd2 : ∀ e, e < d → ¬ (ta ((h0 + e) % 65536) ≤ 0)) : ∀ (x m e : Nat), e + x = d → f_X7_sweep_431 K N (m + x + 1) US RD ki le ri ma bi ro ta rs mo rw_ (Int32.ofNat p) (Int32.ofNat ((h0 + e) % 65536)) = K US RD ki le ri ma bi ro (upd ta ((h0 + d) % 65536) (Int32.ofNat (p + 1))) rs mo rw_ (Int32.ofNat (p + 1))
  | 0, m, e, h => by
    have : e = d := by omega
    subst this
    have hlt : (h0 + e) % 65536 < 65536 := Nat.mod_lt _ (by omega)
    rw [f_X7_sweep_431]; dsimp only
    rw [ix_n _ _ _ hlt (by omega), i_cl _ (by omega), ifb_t hd1, ix_n _ _ _ hlt (by omega), show Int32.ofNat p + 1 = Int32.ofNat (p + 1) from i_add p 1]
  | x + 1, m, e, h => by
    have hlt : (h0 + e) % 65536 < 65536 := Nat.mod_lt _ (by omega)
    rw [show m + (x + 1) + 1 = (m + x + 1) + 1 from by omega, f_X7_sweep_431]; dsimp only
    rw [ix_n _ _ _ hlt (by omega), i_cl _ (by omega), ifb_f (hd2 e (by omega)), show Int32.ofNat ((h0 + e) % 65536) + 1 = Int32.ofNat ((h0 + e) % 65536 + 1) from i_add _ 1, and_mod _ (by omega), show ((h0 + e) % 65536 + 1) % 65536 = (h0 + (e + 1)) % 65536 from by omega]
    exact sw_walk N K US RD p h0 d hh hd1 hd2 x m (e + 1) (by omega)
theorem sw7 (N : Nat) (hN : 70000 ≤ N) (hu : u ≤ 24000) (RD : Int32) : ∀ (d m p : Nat) (ta : Nat → Int32), p + d = u → Tb p ki le ri ro ta → ∃ ta', Tb u ki le ri ro ta' ∧ f_X7_sweep_384 N (m + d + 1) (Int32.ofNat u) RD ki le ri ma bi ro ta rs mo rw_ (Int32.ofNat p) = some (Int32.ofNat u, ki, le, ri, ma, bi, ro, ta', rs, mo)
  | 0, m, p, ta, h, T => by
    have : p = u := by omega
    subst this
    refine ⟨ta, T, ?_⟩
    rw [f_X7_sweep_384]; dsimp only
    rw [ifb_t (by rw [i_le _ _ (by omega) (by omega)]; omega)]
  | d + 1, m, p, ta, h, T => by
    have hp : p < u := by omega
    rw [show m + (d + 1) + 1 = (m + d + 1) + 1 from by omega, f_X7_sweep_384]; dsimp only
    rw [ifb_f (by rw [i_le _ _ (by omega) (by omega)]; omega), ix_n _ _ _ (by omega) (by omega), ix_n _ _ _ (by omega) (by omega), ix_n _ _ _ (by omega) (by omega), ix_n _ _ _ (by omega) (by omega), i_cl _ (by omega)]
    have hh := o_hash N (by omega) ro rw_ (Int32.ofNat p) (ki p) (le p) (ri p) (fun i => ro (9 * p + i)) (fun h2 => Or.inl ⟨p, by omega, rfl, fun i hi => rfl⟩)
    have hlt := wn_lt ki le ri ro p
    have eh : hs (ki p) (le p) (ri p) (fun i => ro (9 * p + i)) = Int32.ofNat (wn ki le ri ro p) := by
      obtain ⟨n, hn, e⟩ := hs_lt (ki p) (le p) (ri p) (fun i => ro (9 * p + i))
      unfold wn; rw [e, i_cl _ (by omega)]
    obtain ⟨x, hx, hd1, hd2⟩ := T.room (by omega) (wn ki le ri ro p) hlt
    obtain ⟨ta', T', e'⟩ := sw7 N hN hu RD d m (p + 1) _ (by omega) (tb_ins T (by omega) hx hd1 hd2)
    refine ⟨ta', T', ?_⟩
    rw [← e']
    have w := sw_walk (ki := ki) (le := le) (ri := ri) (ma := ma) (bi := bi) (ro := ro) (rs := rs) (mo := mo) (rw_ := rw_) N (f_X7_sweep_384 N (m + d + 1)) (Int32.ofNat u) RD p (wn ki le ri ro p) x hlt hd1 hd2 x (N - x - 1) 0 (by omega)
    rw [show N - x - 1 + x + 1 = N from by omega, show (wn ki le ri ro p + 0) % 65536 = wn ki le ri ro p from by omega] at w
    unfold f_X7_sweep_426
    by_cases h2 : ki p = 2
    · rw [if_pos h2] at hh
      rw [ifb_t h2, bd hh, eh]; exact w
    · rw [if_neg h2] at hh
      rw [ifb_f h2, bd hh, eh]; exact w
end SW5
section SWM
variable {u : Nat} {ki le ri ma bi ro ta rs mo KI LE RI MA BI RO : Nat → Int32} {rw_ : Nat → Int64} {L : List Nat} {M : Nat → Bool}
theorem cp_same (P : Po u KI LE RI RO) (cl : ∀ q, q < u → M q = true → ∀ c, c < u → Chd KI LE RI q c → M c = true) (C : Cp u M KI LE RI MA BI RO u ki le ri ma bi ro mo) {p q : Nat} (hp : p < u) (hq : q < u) (mp : M p = true) (mq : M q = true) (h1 : ki (rk M p) = ki (rk M q)) (h2 : le (rk M p) = le (rk M q)) (h3 : ri (rk M p) = ri (rk M q)) (h4 : ki (rk M p) = 2 → ∀ i, i < 9 → ro (9 * rk M p + i) = ro (9 * rk M q + i)) : p = q := by
  have hu := P.2.1
  obtain ⟨a1, a2, a3, _, _, a6, _⟩ := C.2.1 p hp mp
  obtain ⟨b1, b2, b3, _, _, b6, _⟩ := C.2.1 q hq mq
  rw [a1, b1] at h1
  rw [a2, b2] at h2
  rw [a3, b3] at h3
  have rl : ∀ x, x < u → rk M x < 2147483648 := fun x hx => by have := rk_le M x; omega
  refine P.2.2.2 p q hp hq h1 ?_ ?_ (fun g i hi => ?_)
  · unfold nL at h2
    rw [← h1] at h2
    by_cases h34 : KI p = 3 ∨ KI p = 4
    · rw [if_pos h34, if_pos h34] at h2
      rcases P.2.2.1 p hp with ⟨_, g, _⟩ | ⟨_, g, _⟩ | ⟨_, g, _⟩ | ⟨a, b, _, ha, hb, hkk, e1, e2, _⟩ | ⟨v, b, _, hv, hb, hkk, e1, e2, _⟩
      · exact absurd h34 (by rw [g]; decide)
      · exact absurd h34 (by rw [g]; decide)
      · exact absurd h34 (by rw [g]; decide)
      · rcases P.2.2.1 q hq with ⟨_, g, _⟩ | ⟨_, g, _⟩ | ⟨_, g, _⟩ | ⟨a', b', _, ha', hb', hkk', e1', e2', _⟩ | ⟨v', b', _, hv', hb', hkk', e1', e2', _⟩
        · exact absurd h34 (by rw [h1, g]; decide)
        · exact absurd h34 (by rw [h1, g]; decide)
        · exact absurd h34 (by rw [h1, g]; decide)
        · rw [e1, e1', i_cl _ (by omega), i_cl _ (by omega), i_eq _ _ (rl a (by omega)) (rl a' (by omega))] at h2
          have m1 := cl p hp mp a (by omega) (Or.inr ⟨by rcases hkk with h | h <;> rw [h] <;> decide, by rcases hkk with h | h <;> rw [h] <;> decide, e1⟩)
          have m2 := cl q hq mq a' (by omega) (Or.inr ⟨by rcases hkk' with h | h <;> rw [h] <;> decide, by rcases hkk' with h | h <;> rw [h] <;> decide, e1'⟩)
          rw [e1, e1', rk_inj M m1 m2 h2]
        · exact absurd h34 (by rw [h1]; rcases hkk' with h | h <;> rw [h] <;> decide)
      · exact absurd h34 (by rcases hkk with h | h <;> rw [h] <;> decide)
    · rw [if_neg h34, if_neg h34] at h2
      exact h2
  · unfold nR at h3
    rw [← h1] at h3
    by_cases h34 : KI p < 3
    · rw [if_pos h34, if_pos h34] at h3
      exact h3
    · rw [if_neg h34, if_neg h34] at h3
      have fd : ∀ x, x < u → ¬ (KI x < 3) → M x = true → ∃ b, b < u ∧ RI x = Int32.ofNat b ∧ M b = true := by
        intro x hx hk mx
        rcases P.2.2.1 x hx with ⟨_, g, _⟩ | ⟨_, g, _⟩ | ⟨_, g, _⟩ | ⟨a, b, _, ha, hb, hkk, e1, e2, _⟩ | ⟨v, b, _, hv, hb, hkk, e1, e2, _⟩
        · exact absurd (by rw [g]; decide) hk
        · exact absurd (by rw [g]; decide) hk
        · exact absurd (by rw [g]; decide) hk
        · exact ⟨b, by omega, e2, cl x hx mx b (by omega) (Or.inl ⟨by rcases hkk with h | h <;> rw [h] <;> decide, e2⟩)⟩
        · exact ⟨b, by omega, e2, cl x hx mx b (by omega) (Or.inl ⟨by rcases hkk with h | h <;> rw [h] <;> decide, e2⟩)⟩
      obtain ⟨b, hb, eb, mb⟩ := fd p hp h34 mp
      obtain ⟨b', hb', eb', mb'⟩ := fd q hq (by rw [← h1]; exact h34) mq
      rw [eb, eb', i_cl _ (by omega), i_cl _ (by omega), i_eq _ _ (rl b hb) (rl b' hb')] at h3
      rw [eb, eb', rk_inj M mb mb' h3]
  · rw [← a6 i hi, ← b6 i hi]
    exact h4 (by rw [a1]; exact g) i hi
theorem cp_nodes (P : Po u KI LE RI RO) (cl : ∀ q, q < u → M q = true → ∀ c, c < u → Chd KI LE RI q c → M c = true) (m0 : M 0 = true) (m1 : M 1 = true) (C : Cp u M KI LE RI MA BI RO u ki le ri ma bi ro mo) : ∀ n, 2 ≤ n → n ≤ u → Po (rk M n) ki le ri ro ∧ ∀ q, q < n → M q = true → dn ki le ri ro (rk M q) = dn KI LE RI RO q := by
  have hu := P.2.1
  have h2u := P.1
  have r1 : rk M 1 = 1 := by rw [rk_s, rk_z, if_pos m0]
  have r2 : rk M 2 = 2 := by rw [rk_s, r1, if_pos m1]
  have r0 : rk M 0 = 0 := rfl
  have uniq : ∀ n, n ≤ u → ∀ p q, p < rk M n → q < rk M n → ki p = ki q → le p = le q → ri p = ri q → (ki p = 2 → ∀ i, i < 9 → ro (9 * p + i) = ro (9 * q + i)) → p = q := by
    intro n hn p q hp hq g1 g2 g3 g4
    obtain ⟨p', a1, a2, a3⟩ := rk_sur M n p hp
    obtain ⟨q', b1, b2, b3⟩ := rk_sur M n q hq
    subst a3; subst b3
    rw [cp_same P cl C (by omega) (by omega) a2 b2 g1 g2 g3 g4]
  intro n
  induction n with
  | zero => intro h; omega
  | succ n ih =>
    intro h2 hn
    by_cases e2 : n + 1 = 2
    · have : n = 1 := by omega
      subst this
      obtain ⟨a1, a2, a3, _⟩ := C.2.1 0 (by omega) m0
      obtain ⟨b1, b2, b3, _⟩ := C.2.1 1 (by omega) m1
      rw [r0] at a1 a2 a3
      rw [r1] at b1 b2 b3
      have k0 : KI 0 = 0 ∧ LE 0 = 0 ∧ RI 0 = 0 := by
        rcases P.2.2.1 0 (by omega) with ⟨_, h⟩ | ⟨h, _⟩ | ⟨h, _⟩ | ⟨a, b, h, _⟩ | ⟨v, b, h, _⟩
        · exact h
        all_goals omega
      have k1 : KI 1 = 1 ∧ LE 1 = 0 ∧ RI 1 = 0 := by
        rcases P.2.2.1 1 (by omega) with ⟨h, _⟩ | ⟨_, h⟩ | ⟨h, _⟩ | ⟨a, b, h, _⟩ | ⟨v, b, h, _⟩
        · omega
        · exact h
        all_goals omega
      have n0 : ki 0 = 0 ∧ le 0 = 0 ∧ ri 0 = 0 := by
        rw [a1, a2, a3]; unfold nL nR
        rw [k0.1, if_neg (by decide), if_pos (by decide)]
        exact ⟨rfl, k0.2⟩
      have n1 : ki 1 = 1 ∧ le 1 = 0 ∧ ri 1 = 0 := by
        rw [b1, b2, b3]; unfold nL nR
        rw [k1.1, if_neg (by decide), if_pos (by decide)]
        exact ⟨rfl, k1.2⟩
      have r2' : rk M (1 + 1) = 2 := r2
      refine ⟨⟨by omega, by omega, fun p hp => ?_, uniq 2 (by omega)⟩, fun q hq mq => ?_⟩
      · rw [r2'] at hp
        have : p = 0 ∨ p = 1 := by omega
        rcases this with e | e
        · subst e; exact Or.inl ⟨rfl, n0⟩
        · subst e; exact Or.inr (Or.inl ⟨rfl, n1⟩)
      · have : q = 0 ∨ q = 1 := by omega
        rcases this with e | e
        · subst e; rw [r0, dn0 n0.1, dn0 k0.1]
        · subst e; rw [r1, dn1 n1.1, dn1 k1.1]
    · obtain ⟨P', D⟩ := ih (by omega) (by omega)
      by_cases mn : M n = true
      · obtain ⟨a1, a2, a3, _, _, a6, _⟩ := C.2.1 n (by omega) mn
        have es : rk M (n + 1) = rk M n + 1 := by rw [rk_s, if_pos mn]
        have hle := rk_le M n
        have r2n : 2 ≤ rk M n := by have := rk_mono M 2 n (by omega); omega
        have mk : Nd ki le ri ro (rk M n) → Po (rk M (n + 1)) ki le ri ro := by
          intro hn'
          refine ⟨by omega, by omega, fun p hp => ?_, uniq (n + 1) (by omega)⟩
          by_cases e : p = rk M n
          · rw [e]; exact hn'
          · exact P'.2.2.1 p (by omega)
        have fin : Nd ki le ri ro (rk M n) → dn ki le ri ro (rk M n) = dn KI LE RI RO n → Po (rk M (n + 1)) ki le ri ro ∧ ∀ q, q < n + 1 → M q = true → dn ki le ri ro (rk M q) = dn KI LE RI RO q := by
          intro hn' hd
          refine ⟨mk hn', fun q hq mq => ?_⟩
          by_cases e : q = n
          · rw [e]; exact hd
          · exact D q (by omega) mq
        rcases P.2.2.1 n (by omega) with ⟨g, _⟩ | ⟨g, _⟩ | ⟨_, g, gl, gr, gA⟩ | ⟨a, b, _, ha, hb, hkk, e1, e2', ok⟩ | ⟨v, b, _, hv, hb, hkk, e1, e2', ok⟩
        · omega
        · omega
        · have el : le (rk M n) = LE n := by rw [a2]; unfold nL; rw [g, if_neg (by decide)]
          have er : ri (rk M n) = RI n := by rw [a3]; unfold nR; rw [g, if_pos (by decide)]
          have ea : aRow le ro (rk M n) = aRow LE RO n := by
            unfold aRow; rw [el]; congr 1
            apply List.map_congr_left
            intro i hi
            exact a6 i (List.mem_range.mp hi)
          refine fin (Or.inr (Or.inr (Or.inl ⟨r2n, by rw [a1, g], by rw [el]; exact gl, by rw [er, gr], by rw [ea]; exact gA⟩))) ?_
          rw [dn2 (by rw [a1, g]), dn2 g, ea]
        · have c1 := cl n (by omega) mn a (by omega) (Or.inr ⟨by rcases hkk with h | h <;> rw [h] <;> decide, by rcases hkk with h | h <;> rw [h] <;> decide, e1⟩)
          have c2 := cl n (by omega) mn b (by omega) (Or.inl ⟨by rcases hkk with h | h <;> rw [h] <;> decide, e2'⟩)
          have el : le (rk M n) = Int32.ofNat (rk M a) := by rw [a2]; unfold nL; rw [if_pos hkk, e1, i_cl _ (by omega)]
          have er : ri (rk M n) = Int32.ofNat (rk M b) := by rw [a3]; unfold nR; rw [if_neg (by rcases hkk with h | h <;> rw [h] <;> decide), e2', i_cl _ (by omega)]
          have la := rk_lt M ha c1
          have lb := rk_lt M hb c2
          have da := D a ha c1
          have db := D b hb c2
          have hk' : ki (rk M n) = 3 ∨ ki (rk M n) = 4 := by rw [a1]; exact hkk
          have hN : Nd ki le ri ro (rk M n) := Or.inr (Or.inr (Or.inr (Or.inl ⟨rk M a, rk M b, r2n, la, lb, hk', el, er, by rw [da, db]; exact ok⟩)))
          refine fin hN ?_
          rw [dnb (mk hN) (by omega) la lb hk' el er, da, db, a1, dnb P (by omega) ha hb hkk e1 e2']
        · have c2 := cl n (by omega) mn b (by omega) (Or.inl ⟨by rcases hkk with h | h <;> rw [h] <;> decide, e2'⟩)
          have el : le (rk M n) = Int32.ofNat v := by rw [a2]; unfold nL; rw [if_neg (by rcases hkk with h | h <;> rw [h] <;> decide), e1]
          have er : ri (rk M n) = Int32.ofNat (rk M b) := by rw [a3]; unfold nR; rw [if_neg (by rcases hkk with h | h <;> rw [h] <;> decide), e2', i_cl _ (by omega)]
          have lb := rk_lt M hb c2
          have db := D b hb c2
          have hk' : ki (rk M n) = 5 ∨ ki (rk M n) = 6 := by rw [a1]; exact hkk
          have hN : Nd ki le ri ro (rk M n) := Or.inr (Or.inr (Or.inr (Or.inr ⟨v, rk M b, r2n, hv, lb, hk', el, er, by rw [db]; exact ok⟩)))
          refine fin hN ?_
          rw [dnq (mk hN) (by omega) hv lb hk' el er, db, a1, dnq P (by omega) hv hb hkk e1 e2']
      · have es : rk M (n + 1) = rk M n := by rw [rk_s, if_neg mn]; rfl
        rw [es]
        refine ⟨P', fun q hq mq => ?_⟩
        by_cases e : q = n
        · subst e; exact absurd mq mn
        · exact D q (by omega) mq
def Swp (u : Nat) (ki le ri ro : Nat → Int32) (L : List Nat) (u' : Nat) (ki' le' ri' ma' bi' ro' ta' rs' : Nat → Int32) (L' : List Nat) : Prop := Pool u' ki' le' ri' ma' bi' ro' ta' ∧ RLs u' rs' L' ∧ L'.map (dn ki' le' ri' ro') = L.map (dn ki le ri ro) ∧ u' ≤ u
def Cov (fs gs : List (List (List Int32))) : Prop := ∀ f ∈ fs, ∃ g ∈ gs, ∃ s t, g = s ++ f ++ t
def sml (gs : List (List (List Int32))) : Nat := (gs.map List.length).sum
theorem rk_rel {α : Type} (R : Nat → α → Prop) (n : Nat) : ∀ (L : List α) (M : Nat → Bool), (∀ p, p < n → M p = true → ∃ x ∈ L, R p x) → (∀ p q x, p < n → q < n → M p = true → M q = true → R p x → R q x → p = q) → rk M n ≤ L.length
  | [], M, h, _ => by
    have := rk_list [] M n (fun p hp mp => by obtain ⟨x, hx, _⟩ := h p hp mp; exact absurd hx (by simp))
    exact this
  | x :: L, M, h, inj => by
    rcases Classical.em (∃ p, p < n ∧ M p = true ∧ R p x) with ⟨p, hp, mp, hr⟩ | no
    · have h1 := rk_rem M p n
      have h2 := rk_rel R n L (fun q => M q && decide (q ≠ p)) (fun q hq mq => by
        simp only [Bool.and_eq_true, decide_eq_true_eq] at mq
        obtain ⟨y, hy, hr'⟩ := h q hq mq.1
        rcases List.mem_cons.mp hy with g | g
        · subst g; exact absurd (inj q p _ hq hp mq.1 mp hr' hr) mq.2
        · exact ⟨y, g, hr'⟩) (fun a b y ha hb ma mb => by
        simp only [Bool.and_eq_true, decide_eq_true_eq] at ma mb
        exact inj a b y ha hb ma.1 mb.1)
      simp only [List.length_cons]
      split at h1 <;> omega
    · have := rk_rel R n L M (fun q hq mq => by
        obtain ⟨y, hy, hr'⟩ := h q hq mq
        rcases List.mem_cons.mp hy with g | g
        · subst g; exact absurd ⟨q, hq, mq, hr'⟩ no
        · exact ⟨y, g, hr'⟩) inj
      simp only [List.length_cons]; omega
theorem ndl_inf (P : Po u ki le ri ro) : ∀ p, p < u → ∀ f, p < f → ∀ q ∈ ndl ki le ri f p, q < u ∧ ∃ s t, dn ki le ri ro p = s ++ dn ki le ri ro q ++ t := by
  have hu2 := P.2.1
  intro p
  induction p using Nat.strongRecOn with
  | ind p ih =>
    intro hp f hf q hq
    obtain ⟨f, rfl⟩ : ∃ g, f = g + 1 := ⟨f - 1, by omega⟩
    have me : q = p → q < u ∧ ∃ s t, dn ki le ri ro p = s ++ dn ki le ri ro q ++ t := fun e => by
      subst e; exact ⟨hp, [], [], by simp⟩
    rcases P.2.2.1 p hp with ⟨_, h, _⟩ | ⟨_, h, _⟩ | ⟨_, h, _⟩ | ⟨a, b, _, ha, hb, hk, e1, e2, _⟩ | ⟨v, b, _, hv, hb, hk, e1, e2, _⟩
    · unfold ndl at hq; rw [if_pos (by rw [h]; decide)] at hq; exact me (List.mem_singleton.mp hq)
    · unfold ndl at hq; rw [if_pos (by rw [h]; decide)] at hq; exact me (List.mem_singleton.mp hq)
    · unfold ndl at hq; rw [if_pos (by rw [h]; decide)] at hq; exact me (List.mem_singleton.mp hq)
    · have ea : (le p).toNatClampNeg = a := by rw [e1, i_cl _ (by omega)]
      have eb : (ri p).toNatClampNeg = b := by rw [e2, i_cl _ (by omega)]
      unfold ndl at hq
      rw [if_neg (by rcases hk with h | h <;> rw [h] <;> decide), if_pos (by rcases hk with h | h <;> rw [h] <;> decide), ea, eb] at hq
      rcases List.mem_append.mp hq with hq | hq
      · rcases List.mem_append.mp hq with hq | hq
        · obtain ⟨g, s, t, e⟩ := ih a ha (by omega) f (by omega) q hq
          exact ⟨g, s, t ++ dn ki le ri ro b ++ [row0 (ki p + 3)], by rw [dnb P hp ha hb hk e1 e2, e]; simp⟩
        · obtain ⟨g, s, t, e⟩ := ih b hb (by omega) f (by omega) q hq
          exact ⟨g, dn ki le ri ro a ++ s, t ++ [row0 (ki p + 3)], by rw [dnb P hp ha hb hk e1 e2, e]; simp⟩
      · exact me (List.mem_singleton.mp hq)
    · have eb : (ri p).toNatClampNeg = b := by rw [e2, i_cl _ (by omega)]
      unfold ndl at hq
      rw [if_neg (by rcases hk with h | h <;> rw [h] <;> decide), if_neg (by rcases hk with h | h <;> rw [h] <;> decide), eb] at hq
      rcases List.mem_append.mp hq with hq | hq
      · obtain ⟨g, s, t, e⟩ := ih b hb (by omega) f (by omega) q hq
        exact ⟨g, s, t ++ [rowq (ki p + 3) v], by rw [dnq P hp hv hb hk e1 e2, e]; simp⟩
      · exact me (List.mem_singleton.mp hq)
def pos2 (gs : List (List (List Int32))) : List (List (List Int32) × Nat) := gs.flatMap (fun g => (List.range g.length).map (fun e => (g, e)))
theorem pos2_len : ∀ gs, (pos2 gs).length = sml gs
  | [] => rfl
  | g :: gs => by
    have := pos2_len gs
    unfold pos2 sml at *
    rw [List.flatMap_cons, List.length_append, this, List.map_cons, List.sum_cons, List.length_map, List.length_range]
theorem cov_count (P : Po u ki le ri ro) (gs : List (List (List Int32))) (h : ∀ p, p < u → M p = true → p < 2 ∨ ∃ g ∈ gs, ∃ s t, g = s ++ dn ki le ri ro p ++ t) : rk M u ≤ 2 + sml gs := by
  have := rk_rel (fun p (x : Sum Nat (List (List Int32) × Nat)) => match x with
    | .inl k => p = k
    | .inr (g, e) => ∃ s t, g = s ++ dn ki le ri ro p ++ t ∧ (s ++ dn ki le ri ro p).length = e + 1) u ([Sum.inl 0, Sum.inl 1] ++ (pos2 gs).map Sum.inr) M (fun p hp mp => by
      rcases h p hp mp with g | ⟨g, hg, s, t, e⟩
      · have : p = 0 ∨ p = 1 := by omega
        rcases this with e | e
        · exact ⟨Sum.inl 0, by simp, e⟩
        · exact ⟨Sum.inl 1, by simp, e⟩
      · have hpos := (dn_fm P p hp).pos
        refine ⟨Sum.inr (g, (s ++ dn ki le ri ro p).length - 1), ?_, s, t, e, by simp; omega⟩
        refine List.mem_append_right _ (List.mem_map.mpr ⟨_, ?_, rfl⟩)
        refine List.mem_flatMap.mpr ⟨g, hg, List.mem_map.mpr ⟨_, List.mem_range.mpr ?_, rfl⟩⟩
        rw [e]; simp; omega) (fun p q x hp hq mp mq hpx hqx => by
      rcases x with k | ⟨g, e⟩
      · exact hpx.trans hqx.symm
      · obtain ⟨s, t, e1, l1⟩ := hpx
        obtain ⟨s', t', e2, l2⟩ := hqx
        have : s ++ dn ki le ri ro p = s' ++ dn ki le ri ro q := by
          have a1 : g.take (e + 1) = s ++ dn ki le ri ro p := by rw [e1, ← l1, List.take_left']; rfl
          have a2 : g.take (e + 1) = s' ++ dn ki le ri ro q := by rw [e2, ← l2, List.take_left']; rfl
          rw [← a1, a2]
        exact dn_inj P p hp q hq ((dn_fm P p hp).tail (dn_fm P q hq) this).1)
  rw [List.length_append, List.length_map, pos2_len] at this
  exact this
theorem o_sweep (N : Nat) (hN : 70000 ≤ N) (P : Pool u ki le ri ma bi ro ta) (R : RLs u rs L) : ∃ u' ki' le' ri' ma' bi' ro' ta' rs' mo' L', f_X7_sweep N (Int32.ofNat u) (Int32.ofNat L.length) ki le ri ma bi ro ta rs mo rw_ = some (Int32.ofNat u', ki', le', ri', ma', bi', ro', ta', rs', mo') ∧ Swp u ki le ri ro L u' ki' le' ri' ma' bi' ro' ta' rs' L' ∧ ∀ gs, Cov (L.map (dn ki le ri ro)) gs → u' ≤ 2 + sml gs := by
  obtain ⟨P, T, MB⟩ := P
  have hu := P.2.1
  have h2u := P.1
  obtain ⟨mo1, q1, e1⟩ := sw1 (ki := ki) (le := le) (ri := ri) (ma := ma) (bi := bi) (ro := ro) (ta := ta) (rs := rs) (rw_ := rw_) N hu (Int32.ofNat L.length) u (N - u - 1) 0 mo (by omega) (fun q hq => by omega)
  rw [show N - u - 1 + u + 1 = N from by omega] at e1
  obtain ⟨mo2, q2, e2⟩ := sw2 (ki := ki) (le := le) (ri := ri) (ma := ma) (bi := bi) (ro := ro) (ta := ta) (rw_ := rw_) N hu R L.length (N - L.length - 1) 0 mo1 (by omega) (fun q hq => by
    rw [q1 q hq]
    refine ⟨?_, ?_⟩
    · split
      · exact Or.inr rfl
      · exact Or.inl rfl
    · rw [List.take_zero]
      split
      · rename_i h; exact ⟨fun _ => Or.inl h, fun _ => rfl⟩
      · rename_i h
        refine ⟨fun g => absurd g (by decide), fun g => ?_⟩
        rcases g with g | g
        · exact absurd g h
        · exact absurd g (by simp))
  have hl := R.1
  rw [show N - L.length - 1 + L.length + 1 = N from by omega] at e2
  have ndself : ∀ x ∈ L, x ∈ ndl ki le ri u x := fun x hx => (ndl_ok P x (R.2.2 x hx) u (R.2.2 x hx)).2.1
  obtain ⟨mo3, q3, e3⟩ := sw3 (ma := ma) (bi := bi) (ta := ta) (rs := rs) (rw_ := rw_) N P R.2.2 (Int32.ofNat L.length) u (N - u - 1) mo2 (Nat.le_refl _) (fun q hq => by
    obtain ⟨g1, g2⟩ := q2 q hq
    refine ⟨g1, g2.mpr, fun h => ?_, fun h => by omega⟩
    rcases g2.mp h with h | h
    · exact Or.inl h
    · exact Or.inr ⟨q, h, ndself q h⟩)
  rw [show N - u - 1 + u + 1 = N from by omega] at e3
  let M : Nat → Bool := fun q => decide (mo3 q = 1)
  have hM : ∀ q, M q = true ↔ mo3 q = 1 := fun q => by show decide (mo3 q = 1) = true ↔ _; rw [decide_eq_true_eq]
  have cl : ∀ q, q < u → M q = true → ∀ c, c < u → Chd ki le ri q c → M c = true := fun q hq mq c hc hch => (hM c).mpr ((q3 q hq).2.2.2 (by omega) ((hM q).mp mq) c hc hch)
  obtain ⟨ki4, le4, ri4, ma4, bi4, ro4, mo4, C, e4⟩ := sw4 (ta := ta) (rs := rs) (rw_ := rw_) (M := M) (MA := ma) (BI := bi) N (by omega) P cl (Int32.ofNat L.length) u (N - u - 1) 0 ki le ri ma bi ro mo3 (by omega) ⟨fun q hq _ => ⟨rfl, rfl, rfl, rfl, rfl, fun i hi => rfl⟩, fun q hq => by omega, fun q hq _ => (hM q).symm⟩
  rw [show N - u - 1 + u + 1 = N from by omega] at e4
  have mL : ∀ x ∈ L, M x = true := fun x hx => (hM x).mpr ((q3 x (R.2.2 x hx)).2.1 (Or.inr hx))
  obtain ⟨rs5, q5, e5⟩ := sw5 (ki := ki4) (le := le4) (ri := ri4) (ma := ma4) (bi := bi4) (ro := ro4) (ta := ta) (mo := mo4) (rw_ := rw_) N M (Int32.ofNat (rk M u)) hl (fun x hx => ⟨by have := R.2.2 x hx; omega, (C.2.1 x (R.2.2 x hx) (mL x hx)).2.2.2.2.2.2⟩) L.length (N - L.length - 1) 0 rs (by omega) (fun i hi => by rw [if_neg (by omega)]; exact R.2.1 i hi)
  rw [show N - L.length - 1 + L.length + 1 = N from by omega] at e5
  obtain ⟨ta6, q6, e6⟩ := sw6 (ki := ki4) (le := le4) (ri := ri4) (ma := ma4) (bi := bi4) (ro := ro4) (rs := rs5) (mo := mo4) (rw_ := rw_) N (Int32.ofNat (rk M u)) (Int32.ofNat L.length) 65536 (N - 65537) 0 ta rfl (fun i hi => by omega)
  rw [show N - 65537 + 65536 + 1 = N from by omega] at e6
  have hru := rk_le M u
  obtain ⟨ta7, T7, e7⟩ := sw7 (u := rk M u) (ki := ki4) (le := le4) (ri := ri4) (ma := ma4) (bi := bi4) (ro := ro4) (rs := rs5) (mo := mo4) (rw_ := rw_) N hN (by omega) (Int32.ofNat L.length) (rk M u) (N - rk M u - 1) 0 ta6 (by omega) (tb_zero q6)
  rw [show N - rk M u - 1 + rk M u + 1 = N from by omega] at e7
  obtain ⟨P', D⟩ := cp_nodes P cl ((hM 0).mpr ((q3 0 (by omega)).2.1 (Or.inl (by omega)))) ((hM 1).mpr ((q3 1 (by omega)).2.1 (Or.inl (by omega)))) C u h2u (Nat.le_refl _)
  refine ⟨rk M u, ki4, le4, ri4, ma4, bi4, ro4, ta7, rs5, mo4, L.map (rk M), ?_, ⟨⟨P', T7, ?_⟩, ?_, ?_, hru⟩, ?_⟩
  · unfold f_X7_sweep
    exact e1.trans (e2.trans (e3.trans (e4.trans (e5.trans (e6.trans e7)))))
  · intro p hp
    obtain ⟨q, g1, g2, g3⟩ := rk_sur M u p hp
    subst g3
    obtain ⟨_, _, _, a4, a5, _⟩ := C.2.1 q g1 g2
    rw [a4, a5, D q g1 g2]
    exact MB q g1
  · refine ⟨by rw [List.length_map]; exact hl, fun i hi => ?_, fun x hx => ?_⟩
    · rw [List.length_map] at hi
      rw [q5 i hi]
      congr 1
      simp [List.getD_eq_getElem?_getD, List.getElem?_eq_getElem hi]
    · obtain ⟨y, hy, rfl⟩ := List.mem_map.mp hx
      exact rk_lt M (R.2.2 y hy) (mL y hy)
  · rw [List.map_map]
    apply List.map_congr_left
    intro x hx
    exact D x (R.2.2 x hx) (mL x hx)
  · intro gs hc
    refine cov_count P gs (fun p hp mp => ?_)
    rcases (q3 p hp).2.2.1 ((hM p).mp mp) with g | ⟨x, hx, g⟩
    · exact Or.inl g
    · right
      obtain ⟨_, s, t, e⟩ := ndl_inf P x (R.2.2 x hx) u (R.2.2 x hx) p g
      obtain ⟨g', hg', s', t', e'⟩ := hc _ (List.mem_map.mpr ⟨x, hx, rfl⟩)
      exact ⟨g', hg', s' ++ s, t ++ t', by rw [e', e]; simp⟩
theorem o_sweepIf (N : Nat) (hN : 70000 ≤ N) (P : Pool u ki le ri ma bi ro ta) (R : RLs u rs L) (gs : List (List (List Int32))) (hc : Cov (L.map (dn ki le ri ro)) gs) (hB : sml gs ≤ 19998) : ∃ u' ki' le' ri' ma' bi' ro' ta' rs' mo' L', f_X7_sweepIfFull N (Int32.ofNat u) (Int32.ofNat L.length) ki le ri ma bi ro ta rs mo rw_ = some (Int32.ofNat u', ki', le', ri', ma', bi', ro', ta', rs', mo') ∧ Swp u ki le ri ro L u' ki' le' ri' ma' bi' ro' ta' rs' L' ∧ u' ≤ 20000 := by
  have hu := P.1.2.1
  unfold f_X7_sweepIfFull f_X7_sweepIfFull_14
  by_cases h : u ≤ 20000
  · rw [ifb_t (by rw [show (20000 : Int32) = Int32.ofNat 20000 from rfl, i_le _ _ (by omega) (by omega)]; exact h)]
    exact ⟨u, ki, le, ri, ma, bi, ro, ta, rs, mo, L, rfl, ⟨P, R, rfl, Nat.le_refl _⟩, by omega⟩
  · rw [ifb_f (by rw [show (20000 : Int32) = Int32.ofNat 20000 from rfl, i_le _ _ (by omega) (by omega)]; exact h)]
    obtain ⟨u', ki', le', ri', ma', bi', ro', ta', rs', mo', L', e, S, hb⟩ := o_sweep (mo := mo) (rw_ := rw_) N hN P R
    rw [bd e]
    have := hb gs hc
    exact ⟨u', ki', le', ri', ma', bi', ro', ta', rs', mo', L', rfl, S, by omega⟩
end SWM
