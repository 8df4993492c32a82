def pk (t : Nat → Int32) (sz p : Nat) : Int32 := if p < sz then t p &&& 255 else -1
def blf (t : Nat → Int32) (sz : Nat) : Nat → Nat → Nat
  | 0, p => p
  | n + 1, p => if pk t sz p = 32 then blf t sz n (p + 1) else p
def bls (t : Nat → Int32) (sz p : Nat) : Nat := blf t sz (sz - p) p
abbrev isD (c : Int32) : Prop := 48 ≤ c ∧ c ≤ 57
abbrev isV (c : Int32) : Prop := 97 ≤ c ∧ c ≤ 104
section LEX
variable {t : Nat → Int32} {sz : Nat}
theorem pk_out {p : Nat} (h : sz ≤ p) : pk t sz p = -1 := by unfold pk; rw [if_neg (by omega)]
theorem and255 (x : Int32) : ∃ n : Nat, n < 256 ∧ x &&& 255 = Int32.ofNat n := by
  have h : (x &&& 255).toBitVec.toNat ≤ 255 := by
    rw [Int32.toBitVec_and, BitVec.toNat_and]
    exact Nat.and_le_right
  refine ⟨(x &&& 255).toBitVec.toNat, by omega, ?_⟩
  apply Int32.toBitVec_inj.mp
  apply BitVec.eq_of_toNat_eq
  show _ = (BitVec.ofNat 32 _).toNat
  rw [BitVec.toNat_ofNat, Nat.mod_eq_of_lt (by omega)]
theorem pk_cases (p : Nat) : (sz ≤ p ∧ pk t sz p = -1) ∨ (p < sz ∧ ∃ n : Nat, n < 256 ∧ pk t sz p = Int32.ofNat n) := by
  by_cases h : p < sz
  · right; refine ⟨h, ?_⟩; unfold pk; rw [if_pos h]; exact and255 _
  · left; exact ⟨by omega, pk_out (by omega)⟩
theorem pkk_in {p : Nat} {c : Int32} (h : pk t sz p = c) (hc : c ≠ -1) : p < sz := by
  rcases pk_cases (t := t) (sz := sz) p with ⟨_, g⟩ | ⟨g, _⟩
  · exact absurd (h.symm.trans g) hc
  · exact g
theorem isD_n {c : Int32} (h : isD c) : ∃ d : Nat, d ≤ 9 ∧ c = Int32.ofNat (48 + d) := by
  obtain ⟨h1, h2⟩ := h
  rw [Int32.le_iff_toInt_le] at h1 h2
  rw [show (48 : Int32).toInt = 48 from rfl] at h1
  rw [show (57 : Int32).toInt = 57 from rfl] at h2
  refine ⟨(c.toInt - 48).toNat, by omega, ?_⟩
  apply Int32.toInt_inj.mp
  rw [i_toInt _ (by omega)]; omega
theorem isV_n {c : Int32} (h : isV c) : ∃ d : Nat, d < 8 ∧ c = Int32.ofNat (97 + d) := by
  obtain ⟨h1, h2⟩ := h
  rw [Int32.le_iff_toInt_le] at h1 h2
  rw [show (97 : Int32).toInt = 97 from rfl] at h1
  rw [show (104 : Int32).toInt = 104 from rfl] at h2
  refine ⟨(c.toInt - 97).toNat, by omega, ?_⟩
  apply Int32.toInt_inj.mp
  rw [i_toInt _ (by omega)]; omega
theorem D_in {p : Nat} (h : isD (pk t sz p)) : p < sz := pkk_in rfl (fun e => by rw [e] at h; exact absurd h (by decide))
theorem V_in {p : Nat} (h : isV (pk t sz p)) : p < sz := pkk_in rfl (fun e => by rw [e] at h; exact absurd h (by decide))
theorem D_not_V {c : Int32} (h : isD c) : ¬ isV c := by
  obtain ⟨d, hd, rfl⟩ := isD_n h
  rintro ⟨h1, _⟩
  rw [show (97 : Int32) = Int32.ofNat 97 from rfl, i_le _ _ (by omega) (by omega)] at h1; omega
theorem blf_le : ∀ n p, p ≤ blf t sz n p ∧ blf t sz n p ≤ p + n
  | 0, p => ⟨Nat.le_refl _, Nat.le_refl _⟩
  | n + 1, p => by
    unfold blf; split
    · have := blf_le n (p + 1); omega
    · omega
theorem bls_le (p : Nat) (h : p ≤ sz) : p ≤ bls t sz p ∧ bls t sz p ≤ sz := by
  have := blf_le (t := t) (sz := sz) (sz - p) p
  unfold bls; omega
theorem bls_ge (p : Nat) : p ≤ bls t sz p := (blf_le _ _).1
theorem bls_id {p : Nat} (h : pk t sz p ≠ 32) : bls t sz p = p := by
  unfold bls
  cases sz - p with
  | zero => rfl
  | succ n => unfold blf; rw [if_neg h]
theorem bls_out {p : Nat} (h : sz ≤ p) : bls t sz p = p := bls_id (by rw [pk_out h]; decide)
theorem blf_ne : ∀ n p, sz ≤ p + n → pk t sz (blf t sz n p) ≠ 32
  | 0, p, h => by show pk t sz p ≠ 32; rw [pk_out (show sz ≤ p from h)]; decide
  | n + 1, p, h => by
    unfold blf
    by_cases c : pk t sz p = 32
    · rw [if_pos c]; exact blf_ne n (p + 1) (by omega)
    · rw [if_neg c]; exact c
theorem bls_ne (p : Nat) : pk t sz (bls t sz p) ≠ 32 := blf_ne _ _ (by omega)
theorem bls_bls (p : Nat) : bls t sz (bls t sz p) = bls t sz p := bls_id (bls_ne p)
theorem bls_step {p : Nat} (h : pk t sz p = 32) : bls t sz p = bls t sz (p + 1) := by
  have hp := pkk_in h (by decide)
  unfold bls
  rw [show sz - p = (sz - (p + 1)) + 1 from by omega, blf, if_pos h]
end LEX
def dvl (c : Int32) : Nat := (c - 48).toNatClampNeg
def vvl (c : Int32) : Nat := (c - 97).toNatClampNeg
theorem dvl_n (d : Nat) (h : d ≤ 9) : dvl (Int32.ofNat (48 + d)) = d := by
  unfold dvl; rw [show (48 : Int32) = Int32.ofNat 48 from rfl, i_sub _ _ (by omega), i_cl _ (by omega)]; omega
theorem vvl_n (d : Nat) (h : d < 8) : vvl (Int32.ofNat (97 + d)) = d := by
  unfold vvl; rw [show (97 : Int32) = Int32.ofNat 97 from rfl, i_sub _ _ (by omega), i_cl _ (by omega)]; omega
def addc (c : Nat → Int) (j : Nat) (x : Int) : Nat → Int := fun i => if i = j then c i + x else c i
section SPEC
variable (t : Nat → Int32) (sz : Nat)
def dg4 : Nat → Nat → Nat → Nat × Nat
  | 0, p, v => (v, p)
  | n + 1, p, v => if isD (pk t sz p) then dg4 n (p + 1) (10 * v + dvl (pk t sz p)) else (v, p)
def sUnd (p : Nat) : Except Nat (Nat × Nat) :=
  if pk t sz p = 47 then (if isD (pk t sz (p + 1)) ∧ pk t sz (p + 1) ≠ 48 then (if pk t sz (p + 1) = 49 ∧ (48 ≤ pk t sz (p + 2) ∧ pk t sz (p + 2) ≤ 50) then .ok (10 + dvl (pk t sz (p + 2)), p + 3) else .ok (dvl (pk t sz (p + 1)), p + 2)) else .error (p + 1)) else .ok (1, p)
def sTail (f : Int) (v b p : Nat) (c : Nat → Int) : Except Nat (Nat × (Nat → Int)) :=
  if isD (pk t sz p) then .error p else if isV (pk t sz (bls t sz p)) then .ok (bls t sz p + 1, addc c (vvl (pk t sz (bls t sz p))) (f * v * (27720 / b : Nat))) else .ok (bls t sz p, addc c 8 (f * v * (27720 / b : Nat)))
def sItem (f : Int) (p : Nat) (c : Nat → Int) : Except Nat (Nat × (Nat → Int)) :=
  if isV (pk t sz (bls t sz p)) then .ok (bls t sz p + 1, addc c (vvl (pk t sz (bls t sz p))) (f * 27720)) else if isD (pk t sz (bls t sz p)) then (match sUnd t sz (dg4 t sz 4 (bls t sz p) 0).2 with
    | .error e => .error e
    | .ok (b, p3) => sTail t sz f (dg4 t sz 4 (bls t sz p) 0).1 b p3 c) else .error (bls t sz p)
def sSd (m : Int) (last : Bool) : Nat → Int → Nat → (Nat → Int) → Except Nat (Nat × (Nat → Int))
  | 0, _, p, _ => .error p
  | n + 1, f, p, c => match sItem t sz f p c with
    | .error e => .error e
    | .ok (p', c') => if pk t sz (bls t sz p') = 43 then sSd m last n m (bls t sz p' + 1) c' else if pk t sz (bls t sz p') = 45 ∧ ¬ (last = true ∧ pk t sz (bls t sz p' + 1) = 62) then sSd m last n (-m) (bls t sz p' + 1) c' else .ok (bls t sz p', c')
def sSide (m : Int) (last : Bool) (p : Nat) (c : Nat → Int) : Except Nat (Nat × (Nat → Int)) :=
  if pk t sz (bls t sz p) = 45 then sSd t sz m last 241 (-m) (bls t sz p + 1) c else sSd t sz m last 241 m (bls t sz p) c
def sRel (p : Nat) : Except Nat (Nat × Int32 × (Nat → Int)) := match sSide t sz 1 false p (fun _ => 0) with
  | .error e => .error e
  | .ok (p1, c) => if pk t sz p1 = 60 ∨ pk t sz p1 = 61 ∨ pk t sz p1 = 33 ∨ pk t sz p1 = 62 then (if pk t sz p1 = 33 ∧ ¬ (pk t sz (p1 + 1) = 61) then .error (p1 + 1) else match sSide t sz (-1) true (if pk t sz p1 ≠ 61 ∧ pk t sz (p1 + 1) = 61 then p1 + 2 else p1 + 1) c with
    | .error e => .error e
    | .ok (p2, c2) => .ok (p2, (if pk t sz p1 = 61 then 2 else if pk t sz p1 = 33 then 3 else if pk t sz (p1 + 1) = 61 then 5 else 4), if pk t sz p1 = 62 then (fun j => - c2 j) else c2)) else .error p1
abbrev PR := Except Nat (Nat × List (List Int32) × Bool)
def sLeaf (p : Nat) : PR :=
  if pk t sz (bls t sz p) = 84 then .ok (bls t sz p + 1, fT, false) else if pk t sz (bls t sz p) = 70 then .ok (bls t sz p + 1, fF, false) else match sRel t sz (bls t sz p) with
    | .error e => .error e
    | .ok (p2, k, c) => match stl k c with
      | some r => .ok (p2, [r], false)
      | none => .ok (p2, fT, true)
def sRow (ch k : Int32) (U : Nat → PR) : Nat → Nat → List (List Int32) → Bool → PR
  | 0, p, _, _ => .error p
  | n + 1, p, F, g => if pk t sz (bls t sz p) = ch then (match U (bls t sz p + 1) with
    | .error e => .error e
    | .ok (p3, G, h) => sRow ch k U n p3 (mk k F G) (g || h)) else .ok (bls t sz p, F, g)
def sRows (ch k : Int32) (U : Nat → PR) (p : Nat) : PR := match U p with
  | .error e => .error e
  | .ok (p1, F, g) => sRow t sz ch k U 241 p1 F g
def sArr (A : Nat → PR) : Nat → Nat → PR
  | 0, p => .error p
  | n + 1, p => match A p with
    | .error e => .error e
    | .ok (p1, F, g) => if pk t sz p1 = 45 then (if pk t sz (p1 + 1) = 62 then (match sArr A n (p1 + 2) with
      | .error e => .error e
      | .ok (p3, G, h) => .ok (p3, mk 7 (ng F) G, g || h)) else .error (p1 + 1)) else .ok (p1, F, g)
def sForm (U : Nat → PR) (p : Nat) : PR := sArr t sz (sRows t sz 124 7 (sRows t sz 38 6 U)) 241 p
def isO (c : Int32) : Prop := c = 33 ∨ c = 69 ∨ c = 65 ∨ c = 40
def sU : Nat → Nat → PR
  | 0, p => if pk t sz (bls t sz p) = 33 ∨ pk t sz (bls t sz p) = 69 ∨ pk t sz (bls t sz p) = 65 ∨ pk t sz (bls t sz p) = 40 then .error (bls t sz p) else sLeaf t sz p
  | k + 1, p =>
    if pk t sz (bls t sz p) = 33 then (match sU k (bls t sz p + 1) with
      | .error e => .error e
      | .ok (p2, F, g) => .ok (p2, ng F, g))
    else if pk t sz (bls t sz p) = 40 then (match sForm t sz (sU k) (bls t sz p + 1) with
      | .error e => .error e
      | .ok (p2, F, g) => if pk t sz (bls t sz p2) = 41 then .ok (bls t sz p2 + 1, F, g) else .error (bls t sz p2))
    else if pk t sz (bls t sz p) = 69 ∨ pk t sz (bls t sz p) = 65 then (
      if isV (pk t sz (bls t sz (bls t sz p + 1))) then (
        if pk t sz (bls t sz (bls t sz (bls t sz p + 1) + 1)) = 46 then (match sU k (bls t sz (bls t sz (bls t sz p + 1) + 1) + 1) with
          | .error e => .error e
          | .ok (p2, F, g) => .ok (p2, bq (if pk t sz (bls t sz p) = 69 then 8 else 9) (vvl (pk t sz (bls t sz (bls t sz p + 1)))) F, g))
        else .error (bls t sz (bls t sz (bls t sz p + 1) + 1)))
      else .error (bls t sz (bls t sz p + 1)))
    else sLeaf t sz p
def sRead : Int32 × Option (List (List Int32)) := match sForm t sz (sU t sz 20) 0 with
  | .error e => (Int32.ofNat e, none)
  | .ok (p, F, g) => if p < sz then (Int32.ofNat p, none) else if g then (-2, none) else (-1, some F)
end SPEC
section LEXF
variable {t : Nat → Int32} {sz : Nat}
theorem dg4_ok : ∀ n p v, p ≤ sz → p ≤ (dg4 t sz n p v).2 ∧ (dg4 t sz n p v).2 ≤ sz ∧ (dg4 t sz n p v).1 < (v + 1) * 10 ^ n
  | 0, p, v, h => ⟨Nat.le_refl _, h, by show v < (v + 1) * 1; omega⟩
  | n + 1, p, v, h => by
    unfold dg4
    by_cases c : isD (pk t sz p)
    · rw [if_pos c]
      have hp := D_in c
      obtain ⟨d, hd, e⟩ := isD_n c
      have := dg4_ok n (p + 1) (10 * v + dvl (pk t sz p)) (by omega)
      rw [e, dvl_n d hd] at this
      rw [e, dvl_n d hd]
      refine ⟨by omega, by omega, ?_⟩
      have h2 : (10 * v + d + 1) * 10 ^ n ≤ (v + 1) * 10 ^ (n + 1) := by
        rw [Nat.pow_succ, show (v + 1) * (10 ^ n * 10) = ((v + 1) * 10) * 10 ^ n from by rw [Nat.mul_comm (10 ^ n) 10, Nat.mul_assoc]]
        exact Nat.mul_le_mul (by omega) (Nat.le_refl _)
      omega
    · rw [if_neg c]
      refine ⟨Nat.le_refl _, h, ?_⟩
      have : 1 ≤ 10 ^ (n + 1) := Nat.one_le_pow _ _ (by omega)
      have h2 : v + 1 ≤ (v + 1) * 10 ^ (n + 1) := by
        have := Nat.mul_le_mul (Nat.le_refl (v + 1)) this
        omega
      omega
theorem dg4_pos {p : Nat} (h : isD (pk t sz p)) : p < (dg4 t sz 4 p 0).2 := by
  rw [show dg4 t sz 4 p 0 = if isD (pk t sz p) then dg4 t sz 3 (p + 1) (10 * 0 + dvl (pk t sz p)) else (0, p) from rfl, if_pos h]
  have := dg4_ok (t := t) (sz := sz) 3 (p + 1) (10 * 0 + dvl (pk t sz p)) (by have := D_in h; omega)
  omega
theorem sUnd_ok {p : Nat} (hp : p ≤ sz) : (∀ e, sUnd t sz p = .error e → e ≤ sz) ∧ ∀ b p3, sUnd t sz p = .ok (b, p3) → p ≤ p3 ∧ p3 ≤ sz ∧ 1 ≤ b ∧ b ≤ 12 := by
  unfold sUnd
  by_cases c : pk t sz p = 47
  · have hp2 := pkk_in c (by decide)
    rw [if_pos c]
    by_cases c2 : isD (pk t sz (p + 1)) ∧ pk t sz (p + 1) ≠ 48
    · rw [if_pos c2]
      have hp3 := D_in c2.1
      obtain ⟨d, hd, ed⟩ := isD_n c2.1
      by_cases c3 : pk t sz (p + 1) = 49 ∧ (48 ≤ pk t sz (p + 2) ∧ pk t sz (p + 2) ≤ 50)
      · rw [if_pos c3]
        have c4 : isD (pk t sz (p + 2)) := ⟨c3.2.1, by
          have := c3.2.2
          rw [Int32.le_iff_toInt_le] at this ⊢
          rw [show (50 : Int32).toInt = 50 from rfl] at this
          rw [show (57 : Int32).toInt = 57 from rfl]; omega⟩
        have hp4 := D_in c4
        obtain ⟨d2, hd2, ed2⟩ := isD_n c4
        have h50 : d2 ≤ 2 := by
          have := c3.2.2
          rw [ed2, show (50 : Int32) = Int32.ofNat 50 from rfl, i_le _ _ (by omega) (by omega)] at this; omega
        refine ⟨fun e h => (nomatch h), fun b p3 h => ?_⟩
        injection h with h; injection h with h1 h2
        rw [ed2, dvl_n d2 hd2] at h1
        omega
      · rw [if_neg c3]
        refine ⟨fun e h => (nomatch h), fun b p3 h => ?_⟩
        injection h with h; injection h with h1 h2
        have hd0 : d ≠ 0 := fun e0 => c2.2 (by rw [ed, e0]; rfl)
        rw [ed, dvl_n d hd] at h1
        omega
    · rw [if_neg c2]
      refine ⟨fun e h => ?_, fun b p3 h => (nomatch h)⟩
      injection h with h; omega
  · rw [if_neg c]
    refine ⟨fun e h => (nomatch h), fun b p3 h => ?_⟩
    injection h with h; injection h with h1 h2
    omega
def CB (c : Nat → Int) (p : Nat) : Prop := ∀ j, -(277172280 * (p : Int)) ≤ c j ∧ c j ≤ 277172280 * (p : Int)
theorem CB.mono {c : Nat → Int} {p p' : Nat} (h : CB c p) (hp : p ≤ p') : CB c p' := fun j => by
  have := h j; omega
theorem CB.add {c : Nat → Int} {p p' : Nat} (h : CB c p) (hp : p < p') {j : Nat} {x : Int} (h1 : -277172280 ≤ x) (h2 : x ≤ 277172280) : CB (addc c j x) p' := fun i => by
  have := h i
  unfold addc; split <;> omega
theorem num_bd {f : Int} (hf : f = 1 ∨ f = -1) {v b : Nat} (hv : v ≤ 9999) (hb : 1 ≤ b) : -277172280 ≤ f * v * (27720 / b : Nat) ∧ f * v * (27720 / b : Nat) ≤ 277172280 := by
  have h1 : 27720 / b ≤ 27720 := Nat.div_le_self _ _
  have h2 : v * (27720 / b) ≤ 9999 * 27720 := Nat.mul_le_mul hv h1
  have h3 : ((v * (27720 / b) : Nat) : Int) = (v : Int) * (27720 / b : Nat) := Int.natCast_mul _ _
  rcases hf with rfl | rfl
  · rw [Int.one_mul, ← h3]; omega
  · rw [show (-1 : Int) * v * (27720 / b : Nat) = -((v : Int) * (27720 / b : Nat)) from by rw [Int.mul_assoc]; omega, ← h3]; omega
theorem sTail_ok {f : Int} (hf : f = 1 ∨ f = -1) {v b p : Nat} (hv : v ≤ 9999) (hb : 1 ≤ b) (hp : p ≤ sz) {c : Nat → Int} {q : Nat} (hc : CB c q) (hq : q < p) : (∀ e, sTail t sz f v b p c = .error e → e ≤ sz) ∧ ∀ p' c', sTail t sz f v b p c = .ok (p', c') → p ≤ p' ∧ p' ≤ sz ∧ CB c' p' := by
  have hbd := num_bd hf hv hb
  have hbl := bls_le (t := t) p hp
  unfold sTail
  by_cases c1 : isD (pk t sz p)
  · rw [if_pos c1]
    refine ⟨fun e h => by injection h with h; omega, fun p' c' h => (nomatch h)⟩
  · rw [if_neg c1]
    by_cases c2 : isV (pk t sz (bls t sz p))
    · rw [if_pos c2]
      have := V_in c2
      refine ⟨fun e h => (nomatch h), fun p' c' h => ?_⟩
      injection h with h; injection h with h1 h2
      subst h1; subst h2
      exact ⟨by omega, by omega, hc.add (by omega) hbd.1 hbd.2⟩
    · rw [if_neg c2]
      refine ⟨fun e h => (nomatch h), fun p' c' h => ?_⟩
      injection h with h; injection h with h1 h2
      subst h1; subst h2
      exact ⟨by omega, by omega, hc.add (by omega) hbd.1 hbd.2⟩
theorem sItem_ok {f : Int} (hf : f = 1 ∨ f = -1) {p : Nat} (hp : p ≤ sz) {c : Nat → Int} (hc : CB c p) : (∀ e, sItem t sz f p c = .error e → e ≤ sz) ∧ ∀ p' c', sItem t sz f p c = .ok (p', c') → p < p' ∧ p' ≤ sz ∧ CB c' p' := by
  have hbl := bls_le (t := t) p hp
  unfold sItem
  by_cases c1 : isV (pk t sz (bls t sz p))
  · rw [if_pos c1]
    have := V_in c1
    refine ⟨fun e h => (nomatch h), fun p' c' h => ?_⟩
    injection h with h; injection h with h1 h2
    subst h1; subst h2
    exact ⟨by omega, by omega, hc.add (by omega) (by rcases hf with rfl | rfl <;> omega) (by rcases hf with rfl | rfl <;> omega)⟩
  · rw [if_neg c1]
    by_cases c2 : isD (pk t sz (bls t sz p))
    · rw [if_pos c2]
      have hdg := dg4_ok (t := t) (sz := sz) 4 (bls t sz p) 0 (by omega)
      have hdp := dg4_pos c2
      have hu := sUnd_ok (t := t) hdg.2.1
      have hv : (dg4 t sz 4 (bls t sz p) 0).1 ≤ 9999 := by have := hdg.2.2; omega
      cases hx : sUnd t sz (dg4 t sz 4 (bls t sz p) 0).2 with
      | error e =>
        refine ⟨fun e' h => by injection h with h; have := hu.1 e hx; omega, fun p' c' h => (nomatch h)⟩
      | ok x =>
        obtain ⟨b, p3⟩ := x
        obtain ⟨u1, u2, u3, u4⟩ := hu.2 b p3 hx
        obtain ⟨s1, s2⟩ := sTail_ok (t := t) hf hv u3 u2 hc (show p < p3 by omega)
        refine ⟨s1, fun p' c' h => ?_⟩
        obtain ⟨a1, a2, a3⟩ := s2 p' c' h
        exact ⟨by omega, a2, a3⟩
    · rw [if_neg c2]
      refine ⟨fun e h => by injection h with h; omega, fun p' c' h => (nomatch h)⟩
theorem sSd_ok {m : Int} (hm : m = 1 ∨ m = -1) {last : Bool} : ∀ (n : Nat) (f : Int) (p : Nat) (c : Nat → Int), (f = 1 ∨ f = -1) → p ≤ sz → CB c p → sz < p + n → (∀ e, sSd t sz m last n f p c = .error e → e ≤ sz) ∧ ∀ p' c', sSd t sz m last n f p c = .ok (p', c') → p < p' ∧ p' ≤ sz ∧ CB c' p' ∧ bls t sz p' = p'
  | 0, f, p, c, hf, hp, hc, hn => by omega
  | n + 1, f, p, c, hf, hp, hc, hn => by
    obtain ⟨i1, i2⟩ := sItem_ok (t := t) hf hp hc
    unfold sSd
    cases hx : sItem t sz f p c with
    | error e => exact ⟨fun e' h => by injection h with h; have := i1 e hx; omega, fun p' c' h => (nomatch h)⟩
    | ok x =>
      obtain ⟨p1, c1⟩ := x
      obtain ⟨a1, a2, a3⟩ := i2 p1 c1 hx
      have hbl := bls_le (t := t) p1 a2
      have rec_ : ∀ f', (f' = 1 ∨ f' = -1) → bls t sz p1 < sz → (∀ e, sSd t sz m last n f' (bls t sz p1 + 1) c1 = .error e → e ≤ sz) ∧ ∀ p' c', sSd t sz m last n f' (bls t sz p1 + 1) c1 = .ok (p', c') → p < p' ∧ p' ≤ sz ∧ CB c' p' ∧ bls t sz p' = p' := by
        intro f' hf' hlt
        obtain ⟨r1, r2⟩ := sSd_ok hm n f' (bls t sz p1 + 1) c1 hf' (by omega) (a3.mono (by omega)) (by omega)
        refine ⟨r1, fun p' c' h => ?_⟩
        obtain ⟨b1, b2, b3⟩ := r2 p' c' h
        exact ⟨by omega, b2, b3⟩
      dsimp only
      by_cases c1' : pk t sz (bls t sz p1) = 43
      · rw [if_pos c1']
        exact rec_ m hm (pkk_in c1' (by decide))
      · rw [if_neg c1']
        by_cases c2 : pk t sz (bls t sz p1) = 45 ∧ ¬ (last = true ∧ pk t sz (bls t sz p1 + 1) = 62)
        · rw [if_pos c2]
          exact rec_ (-m) (by rcases hm with rfl | rfl; exact Or.inr rfl; exact Or.inl rfl) (pkk_in c2.1 (by decide))
        · rw [if_neg c2]
          refine ⟨fun e h => (nomatch h), fun p' c' h => ?_⟩
          injection h with h; injection h with h1 h2
          subst h1; subst h2
          exact ⟨by omega, by omega, a3.mono (by omega), bls_bls p1⟩
theorem sSide_ok (hsz : sz ≤ 240) {m : Int} (hm : m = 1 ∨ m = -1) {last : Bool} {p : Nat} {c : Nat → Int} (hp : p ≤ sz) (hc : CB c p) : (∀ e, sSide t sz m last p c = .error e → e ≤ sz) ∧ ∀ p' c', sSide t sz m last p c = .ok (p', c') → p < p' ∧ p' ≤ sz ∧ CB c' p' ∧ bls t sz p' = p' := by
  have hbl := bls_le (t := t) p hp
  unfold sSide
  by_cases h : pk t sz (bls t sz p) = 45
  · rw [if_pos h]
    have := pkk_in h (by decide)
    obtain ⟨r1, r2⟩ := sSd_ok (t := t) (sz := sz) (last := last) hm 241 (-m) (bls t sz p + 1) c (by rcases hm with rfl | rfl; exact Or.inr rfl; exact Or.inl rfl) (by omega) (hc.mono (by omega)) (by omega)
    refine ⟨r1, fun p' c' h => ?_⟩
    obtain ⟨b1, b2, b3⟩ := r2 p' c' h
    exact ⟨by omega, b2, b3⟩
  · rw [if_neg h]
    obtain ⟨r1, r2⟩ := sSd_ok (t := t) (sz := sz) (last := last) hm 241 m (bls t sz p) c hm (by omega) (hc.mono (by omega)) (by omega)
    refine ⟨r1, fun p' c' h => ?_⟩
    obtain ⟨b1, b2, b3⟩ := r2 p' c' h
    exact ⟨by omega, b2, b3⟩
theorem CB.zero (p : Nat) : CB (fun _ => 0) p := fun j => by
  show -(277172280 * (p : Int)) ≤ 0 ∧ (0 : Int) ≤ _
  omega
theorem sRel_ok (hsz : sz ≤ 240) {p : Nat} (hp : p ≤ sz) : (∀ e, sRel t sz p = .error e → e ≤ sz) ∧ ∀ p' k c, sRel t sz p = .ok (p', k, c) → p + 3 ≤ p' ∧ p' ≤ sz ∧ CB c p' ∧ (k = 2 ∨ k = 3 ∨ k = 4 ∨ k = 5) ∧ bls t sz p' = p' := by
  obtain ⟨s1, s2⟩ := sSide_ok (t := t) (last := false) hsz (Or.inl rfl) hp (CB.zero p)
  unfold sRel
  cases hx : sSide t sz 1 false p (fun _ => 0) with
  | error e => exact ⟨fun e' h => by injection h with h; have := s1 e hx; omega, fun p' k c h => (nomatch h)⟩
  | ok x =>
    obtain ⟨p1, c1⟩ := x
    obtain ⟨a1, a2, a3, a4⟩ := s2 p1 c1 hx
    dsimp only
    by_cases h1 : pk t sz p1 = 60 ∨ pk t sz p1 = 61 ∨ pk t sz p1 = 33 ∨ pk t sz p1 = 62
    · rw [if_pos h1]
      have hp1 : p1 < sz := by rcases h1 with h | h | h | h <;> exact pkk_in h (by decide)
      by_cases h2 : pk t sz p1 = 33 ∧ ¬ (pk t sz (p1 + 1) = 61)
      · rw [if_pos h2]
        exact ⟨fun e' h => by injection h with h; omega, fun p' k c h => (nomatch h)⟩
      · rw [if_neg h2]
        have hq : ∃ q, (if pk t sz p1 ≠ 61 ∧ pk t sz (p1 + 1) = 61 then p1 + 2 else p1 + 1) = q ∧ p1 + 1 ≤ q ∧ q ≤ sz := by
          by_cases h3 : pk t sz p1 ≠ 61 ∧ pk t sz (p1 + 1) = 61
          · have := pkk_in h3.2 (by decide)
            exact ⟨_, rfl, by rw [if_pos h3]; omega, by rw [if_pos h3]; omega⟩
          · exact ⟨_, rfl, by rw [if_neg h3]; omega, by rw [if_neg h3]; omega⟩
        obtain ⟨q, eq, q1, q2⟩ := hq
        rw [eq]
        obtain ⟨r1, r2⟩ := sSide_ok (t := t) (last := true) hsz (Or.inr rfl) q2 (a3.mono (show p1 ≤ q by omega))
        cases hy : sSide t sz (-1) true q c1 with
        | error e => exact ⟨fun e' h => by injection h with h; have := r1 e hy; omega, fun p' k c h => (nomatch h)⟩
        | ok y =>
          obtain ⟨p2, c2⟩ := y
          obtain ⟨b1, b2, b3, b4⟩ := r2 p2 c2 hy
          refine ⟨fun e h => (nomatch h), fun p' k c h => ?_⟩
          injection h with h; injection h with h1' h2'; injection h2' with h2' h3'
          subst h1'; subst h2'; subst h3'
          refine ⟨by omega, b2, ?_, ?_, b4⟩
          · split
            · intro j; have := b3 j; show _ ≤ -(c2 j) ∧ -(c2 j) ≤ _; omega
            · exact b3
          · split
            · exact Or.inl rfl
            · split
              · exact Or.inr (Or.inl rfl)
              · split
                · exact Or.inr (Or.inr (Or.inr rfl))
                · exact Or.inr (Or.inr (Or.inl rfl))
    · rw [if_neg h1]
      exact ⟨fun e' h => by injection h with h; omega, fun p' k c h => (nomatch h)⟩
end LEXF
section FRMF
variable {t : Nat → Int32} {sz : Nat}
def UOk (sz : Nat) (wt : List (List Int32) → Nat) (Q : Nat → Prop) (U : Nat → PR) : Prop := ∀ p, p ≤ sz → (∀ e, U p = .error e → e ≤ sz) ∧ ∀ p' F g, U p = .ok (p', F, g) → p < p' ∧ p' ≤ sz ∧ Fm F ∧ wt F + p ≤ p' ∧ Q p'
theorem row_ok {wt : List (List Int32) → Nat} {Q : Nat → Prop} {U : Nat → PR} (hU : UOk sz wt Q U) (hw : ∀ F, Fm F → wB F ≤ wt F) {ch k : Int32} (hk : k = 6 ∨ k = 7) (hch : ch ≠ -1) (p0 : Nat) : ∀ (n p : Nat) (F : List (List Int32)) (g : Bool), p ≤ sz → sz < p + n → p0 < p → Fm F → wB F + p0 ≤ p → Q p → (∀ e, sRow t sz ch k U n p F g = .error e → e ≤ sz) ∧ ∀ p' F' g', sRow t sz ch k U n p F g = .ok (p', F', g') → p0 < p' ∧ p' ≤ sz ∧ Fm F' ∧ wB F' + p0 ≤ p' ∧ pk t sz p' ≠ ch ∧ ∃ p3, Q p3 ∧ p' = bls t sz p3
  | 0, p, F, g, hp, hn, _, _, _, _ => by omega
  | n + 1, p, F, g, hp, hn, hp0, hF, hwF, hQ => by
    have hbl := bls_le (t := t) p hp
    unfold sRow
    by_cases c : pk t sz (bls t sz p) = ch
    · rw [if_pos c]
      have hlt := pkk_in c hch
      obtain ⟨u1, u2⟩ := hU (bls t sz p + 1) (by omega)
      cases hx : U (bls t sz p + 1) with
      | error e => exact ⟨fun e' h => by injection h with h; have := u1 e hx; omega, fun p' F' g' h => (nomatch h)⟩
      | ok x =>
        obtain ⟨p3, G, h⟩ := x
        obtain ⟨a1, a2, a3, a4, a5⟩ := u2 p3 G h hx
        have hw3 := hw G a3
        have hmk := (w_mk hF a3 hk).1
        exact row_ok hU hw hk hch p0 n p3 (mk k F G) (g || h) a2 (by omega) (by omega) (mk_fm hF a3 hk) (by omega) a5
    · rw [if_neg c]
      refine ⟨fun e h => (nomatch h), fun p' F' g' h => ?_⟩
      injection h with h; injection h with h1 h2; injection h2 with h2 h3
      subst h1; subst h2
      exact ⟨by omega, by omega, hF, by omega, c, p, hQ, rfl⟩
theorem rows_ok (hsz : sz ≤ 240) {wt : List (List Int32) → Nat} {Q : Nat → Prop} {U : Nat → PR} (hU : UOk sz wt Q U) (hw : ∀ F, Fm F → wB F ≤ wt F) {ch k : Int32} (hk : k = 6 ∨ k = 7) (hch : ch ≠ -1) : UOk sz wB (fun p' => pk t sz p' ≠ ch ∧ ∃ p3, Q p3 ∧ p' = bls t sz p3) (sRows t sz ch k U) := by
  intro p hp
  obtain ⟨u1, u2⟩ := hU p hp
  unfold sRows
  cases hx : U p with
  | error e => exact ⟨fun e' h => by injection h with h; have := u1 e hx; omega, fun p' F' g' h => (nomatch h)⟩
  | ok x =>
    obtain ⟨p3, G, h⟩ := x
    obtain ⟨a1, a2, a3, a4, a5⟩ := u2 p3 G h hx
    have hw3 := hw G a3
    exact row_ok (t := t) hU hw hk hch p 241 p3 G h a2 (by omega) (by omega) a3 (by omega) a5
theorem arr_ok (hsz : sz ≤ 240) {Q : Nat → Prop} {A : Nat → PR} (hA : UOk sz wB Q A) : ∀ (n p : Nat), p ≤ sz → sz < p + n → (∀ e, sArr t sz A n p = .error e → e ≤ sz) ∧ ∀ p' F g, sArr t sz A n p = .ok (p', F, g) → p < p' ∧ p' ≤ sz ∧ Fm F ∧ wB F + p ≤ p' ∧ Q p' ∧ pk t sz p' ≠ 45
  | 0, p, hp, hn => by omega
  | n + 1, p, hp, hn => by
    obtain ⟨u1, u2⟩ := hA p hp
    unfold sArr
    cases hx : A p with
    | error e => exact ⟨fun e' h => by injection h with h; have := u1 e hx; omega, fun p' F' g' h => (nomatch h)⟩
    | ok x =>
      obtain ⟨p1, F, g⟩ := x
      obtain ⟨a1, a2, a3, a4, a5⟩ := u2 p1 F g hx
      dsimp only
      by_cases c : pk t sz p1 = 45
      · rw [if_pos c]
        have h1 := pkk_in c (by decide)
        by_cases c2 : pk t sz (p1 + 1) = 62
        · rw [if_pos c2]
          have h2 := pkk_in c2 (by decide)
          obtain ⟨r1, r2⟩ := arr_ok hsz hA n (p1 + 2) (by omega) (by omega)
          cases hy : sArr t sz A n (p1 + 2) with
          | error e => exact ⟨fun e' h => by injection h with h; have := r1 e hy; omega, fun p' F' g' h => (nomatch h)⟩
          | ok y =>
            obtain ⟨p3, G, h⟩ := y
            obtain ⟨b1, b2, b3, b4, b5, b6⟩ := r2 p3 G h hy
            refine ⟨fun e h => (nomatch h), fun p' F' g' h => ?_⟩
            injection h with h; injection h with h1 h2; injection h2 with h2 h3
            subst h1; subst h2
            have hn := ng_fm a3
            have hmk := (w_mk hn.1 b3 (Or.inr rfl : (7 : Int32) = 6 ∨ (7 : Int32) = 7)).1
            rw [(w_ng a3).1] at hmk
            exact ⟨by omega, b2, mk_fm hn.1 b3 (Or.inr rfl), by omega, b5, b6⟩
        · rw [if_neg c2]
          exact ⟨fun e' h => by injection h with h; omega, fun p' F' g' h => (nomatch h)⟩
      · rw [if_neg c]
        refine ⟨fun e h => (nomatch h), fun p' F' g' h => ?_⟩
        injection h with h; injection h with h1 h2; injection h2 with h2 h3
        subst h1; subst h2
        exact ⟨a1, a2, a3, a4, a5, c⟩
def Fend (t : Nat → Int32) (sz p : Nat) : Prop := bls t sz p = p ∧ pk t sz p ≠ 38 ∧ pk t sz p ≠ 124 ∧ pk t sz p ≠ 45
theorem form_ok (hsz : sz ≤ 240) {U : Nat → PR} (hU : UOk sz wU (fun _ => True) U) : UOk sz wB (Fend t sz) (sForm t sz U) := by
  intro p hp
  have h1 := rows_ok (t := t) hsz hU (fun F hF => (w_le hF).2.1) (k := 6) (ch := 38) (Or.inl rfl) (by decide)
  have h2 := rows_ok (t := t) hsz h1 (fun F hF => Nat.le_refl _) (k := 7) (ch := 124) (Or.inr rfl) (by decide)
  obtain ⟨r1, r2⟩ := arr_ok (t := t) hsz h2 241 p hp (by omega)
  refine ⟨r1, fun p' F g h => ?_⟩
  obtain ⟨a1, a2, a3, a4, ⟨a5, p3, ⟨a6, p4, _, e4⟩, e3⟩, a7⟩ := r2 p' F g h
  refine ⟨a1, a2, a3, a4, ?_⟩
  have e5 : p' = p3 := by rw [e3, e4, bls_bls]
  subst e5
  exact ⟨by rw [e4, bls_bls], a6, a5, a7⟩
theorem leaf_ok (hsz : sz ≤ 240) : UOk sz wU (fun _ => True) (sLeaf t sz) := by
  intro p hp
  have hbl := bls_le (t := t) p hp
  unfold sLeaf
  have wT : wU fT = 1 := by have := (w_leaf (show Leaf (row0 0) from Or.inl rfl)).2; rw [if_pos (by decide)] at this; exact this
  have wF : wU fF = 1 := by have := (w_leaf (show Leaf (row0 1) from Or.inr (Or.inl rfl))).2; rw [if_pos (by decide)] at this; exact this
  have FT : Fm fT := Fm.leaf (Or.inl rfl)
  by_cases c1 : pk t sz (bls t sz p) = 84
  · rw [if_pos c1]
    have := pkk_in c1 (by decide)
    refine ⟨fun e h => (nomatch h), fun p' F' g' h => ?_⟩
    injection h with h; injection h with h1 h2; injection h2 with h2 h3
    subst h1; subst h2
    exact ⟨by omega, by omega, FT, by omega, trivial⟩
  · rw [if_neg c1]
    by_cases c2 : pk t sz (bls t sz p) = 70
    · rw [if_pos c2]
      have := pkk_in c2 (by decide)
      refine ⟨fun e h => (nomatch h), fun p' F' g' h => ?_⟩
      injection h with h; injection h with h1 h2; injection h2 with h2 h3
      subst h1; subst h2
      exact ⟨by omega, by omega, Fm.leaf (Or.inr (Or.inl rfl)), by omega, trivial⟩
    · rw [if_neg c2]
      obtain ⟨s1, s2⟩ := sRel_ok (t := t) hsz hbl.2
      cases hx : sRel t sz (bls t sz p) with
      | error e => exact ⟨fun e' h => by injection h with h; have := s1 e hx; omega, fun p' F' g' h => (nomatch h)⟩
      | ok x =>
        obtain ⟨p2, k, c⟩ := x
        obtain ⟨a1, a2, a3, a4, a5⟩ := s2 p2 k c hx
        dsimp only
        cases hy : stl k c with
        | none =>
          refine ⟨fun e h => (nomatch h), fun p' F' g' h => ?_⟩
          injection h with h; injection h with h1 h2; injection h2 with h2 h3
          subst h1; subst h2
          exact ⟨by omega, by omega, FT, by omega, trivial⟩
        | some r =>
          refine ⟨fun e h => (nomatch h), fun p' F' g' h => ?_⟩
          injection h with h; injection h with h1 h2; injection h2 with h2 h3
          subst h1; subst h2
          have hl := (stl_leaf a4 hy).1
          have hwr : wU [r] ≤ 3 := by rw [(w_leaf hl).2]; split <;> omega
          exact ⟨by omega, by omega, Fm.leaf hl, by omega, trivial⟩
theorem u_ok (hsz : sz ≤ 240) : ∀ k, UOk sz wU (fun _ => True) (sU t sz k)
  | 0 => by
    intro p hp
    have hbl := bls_le (t := t) p hp
    unfold sU
    by_cases c : pk t sz (bls t sz p) = 33 ∨ pk t sz (bls t sz p) = 69 ∨ pk t sz (bls t sz p) = 65 ∨ pk t sz (bls t sz p) = 40
    · rw [if_pos c]
      exact ⟨fun e' h => by injection h with h; omega, fun p' F' g' h => (nomatch h)⟩
    · rw [if_neg c]
      exact leaf_ok hsz p hp
  | k + 1 => by
    intro p hp
    have hbl := bls_le (t := t) p hp
    have ih := u_ok hsz k
    unfold sU
    by_cases c1 : pk t sz (bls t sz p) = 33
    · rw [if_pos c1]
      have := pkk_in c1 (by decide)
      obtain ⟨u1, u2⟩ := ih (bls t sz p + 1) (by omega)
      cases hx : sU t sz k (bls t sz p + 1) with
      | error e => exact ⟨fun e' h => by injection h with h; have := u1 e hx; omega, fun p' F' g' h => (nomatch h)⟩
      | ok x =>
        obtain ⟨p2, F, g⟩ := x
        obtain ⟨a1, a2, a3, a4, _⟩ := u2 p2 F g hx
        refine ⟨fun e h => (nomatch h), fun p' F' g' h => ?_⟩
        injection h with h; injection h with h1 h2; injection h2 with h2 h3
        subst h1; subst h2
        exact ⟨by omega, a2, (ng_fm a3).1, by rw [(w_ng a3).2]; omega, trivial⟩
    · rw [if_neg c1]
      by_cases c2 : pk t sz (bls t sz p) = 40
      · rw [if_pos c2]
        have := pkk_in c2 (by decide)
        obtain ⟨u1, u2⟩ := form_ok (t := t) hsz ih (bls t sz p + 1) (by omega)
        cases hx : sForm t sz (sU t sz k) (bls t sz p + 1) with
        | error e => exact ⟨fun e' h => by injection h with h; have := u1 e hx; omega, fun p' F' g' h => (nomatch h)⟩
        | ok x =>
          obtain ⟨p2, F, g⟩ := x
          obtain ⟨a1, a2, a3, a4, a5⟩ := u2 p2 F g hx
          have hb2 := bls_le (t := t) p2 a2
          dsimp only
          by_cases c3 : pk t sz (bls t sz p2) = 41
          · rw [if_pos c3]
            have := pkk_in c3 (by decide)
            refine ⟨fun e h => (nomatch h), fun p' F' g' h => ?_⟩
            injection h with h; injection h with h1 h2; injection h2 with h2 h3
            subst h1; subst h2
            have := w_le a3
            exact ⟨by omega, by omega, a3, by omega, trivial⟩
          · rw [if_neg c3]
            exact ⟨fun e' h => by injection h with h; omega, fun p' F' g' h => (nomatch h)⟩
      · rw [if_neg c2]
        by_cases c3 : pk t sz (bls t sz p) = 69 ∨ pk t sz (bls t sz p) = 65
        · rw [if_pos c3]
          have h1 : bls t sz p < sz := by rcases c3 with h | h <;> exact pkk_in h (by decide)
          have hb1 := bls_le (t := t) (sz := sz) (bls t sz p + 1) (by omega)
          by_cases c4 : isV (pk t sz (bls t sz (bls t sz p + 1)))
          · rw [if_pos c4]
            have h2 := V_in c4
            obtain ⟨v, hv, ev⟩ := isV_n c4
            have hb2 := bls_le (t := t) (sz := sz) (bls t sz (bls t sz p + 1) + 1) (by omega)
            by_cases c5 : pk t sz (bls t sz (bls t sz (bls t sz p + 1) + 1)) = 46
            · rw [if_pos c5]
              have h3 := pkk_in c5 (by decide)
              obtain ⟨u1, u2⟩ := ih (bls t sz (bls t sz (bls t sz p + 1) + 1) + 1) (by omega)
              cases hx : sU t sz k (bls t sz (bls t sz (bls t sz p + 1) + 1) + 1) with
              | error e => exact ⟨fun e' h => by injection h with h; have := u1 e hx; omega, fun p' F' g' h => (nomatch h)⟩
              | ok x =>
                obtain ⟨p2, F, g⟩ := x
                obtain ⟨a1, a2, a3, a4, _⟩ := u2 p2 F g hx
                refine ⟨fun e h => (nomatch h), fun p' F' g' h => ?_⟩
                injection h with h; injection h with h1' h2'; injection h2' with h2' h3'
                subst h1'; subst h2'
                have hk8 : (if pk t sz (bls t sz p) = 69 then (8 : Int32) else 9) = 8 ∨ (if pk t sz (bls t sz p) = 69 then (8 : Int32) else 9) = 9 := by split; exact Or.inl rfl; exact Or.inr rfl
                have hvv : vvl (pk t sz (bls t sz (bls t sz p + 1))) < 8 := by rw [ev, vvl_n v hv]; exact hv
                have hw := (w_bq a3 hk8 (vvl (pk t sz (bls t sz (bls t sz p + 1))))).2
                exact ⟨by omega, a2, bq_fm a3 hk8 hvv, by omega, trivial⟩
            · rw [if_neg c5]
              exact ⟨fun e' h => by injection h with h; omega, fun p' F' g' h => (nomatch h)⟩
          · rw [if_neg c4]
            exact ⟨fun e' h => by injection h with h; omega, fun p' F' g' h => (nomatch h)⟩
        · rw [if_neg c3]
          exact leaf_ok hsz p hp
theorem read_fi (hsz : sz ≤ 240) {F : List (List Int32)} {x : Int32} (h : sRead t sz = (x, some F)) : FI F := by
  unfold sRead at h
  obtain ⟨u1, u2⟩ := form_ok (t := t) hsz (u_ok hsz 20) 0 (by omega)
  cases hx : sForm t sz (sU t sz 20) 0 with
  | error e => rw [hx] at h; injection h with _ h; exact (nomatch h)
  | ok y =>
    obtain ⟨p, G, g⟩ := y
    obtain ⟨a1, a2, a3, a4, a5⟩ := u2 p G g hx
    rw [hx] at h
    dsimp only at h
    split at h
    · injection h with _ h; exact (nomatch h)
    · split at h
      · injection h with _ h; exact (nomatch h)
      · injection h with _ h; injection h with h; subst h
        have := (w_le a3).1
        exact ⟨a3, by omega, Or.inr (by omega)⟩
end FRMF
