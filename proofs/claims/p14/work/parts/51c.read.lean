abbrev PT := Int32 × (Int32) × (Int32) × (Int32) × (Int32) × (Int32) × (Int32) × (Int32) × (Nat → Int32) × (Nat → Int32) × (Nat → Int32) × (Nat → Int64) × (Nat → Int32)
def zK (N n : Nat) (length : Int32) (bytes : Nat → Int32) (great : Int32) (sa : Nat → Int32) (nu : Nat → Int64) (wa : Nat → Int32) (y1 : Int32) (z56 : Int32 × (Int32) × (Int32) × (Int32) × (Int32) × (Int32) × (Int32) × (Nat → Int32) × (Nat → Int32)) : Option PT :=
  ifb (z56.1 = 0) (f_X2_parse_62 N length z56.2.1 z56.2.2.1 z56.2.2.2.1 z56.2.2.2.2.1 great bytes z56.2.2.2.2.2.1 z56.2.2.2.2.2.2.1 z56.2.2.2.2.2.2.2.1 2400 sa z56.2.2.2.2.2.2.2.2 nu wa) (ifb (z56.2.2.1 < length) ((f_X2_connective N length z56.2.1 z56.2.2.1 z56.2.2.2.1 bytes z56.2.2.2.2.2.1 z56.2.2.2.2.2.2.1 z56.2.2.2.2.2.2.2.1 2400 sa z56.2.2.2.2.2.2.2.2 wa).bind (fun z84 => ifb (z84.1 = 0) (some (z84.2.2.1, z84.2.1, z84.2.2.1, z84.2.2.2.1, z56.2.2.2.2.1, great, z84.2.2.2.2.1, z84.2.2.2.2.2.1, z84.2.2.2.2.2.2.1, sa, z84.2.2.2.2.2.2.2.1, nu, z84.2.2.2.2.2.2.2.2)) (f_X2_parse_34 N n length z84.2.1 z84.2.2.1 z84.2.2.2.1 z56.2.2.2.2.1 great bytes z84.2.2.2.2.1 z84.2.2.2.2.2.1 z84.2.2.2.2.2.2.1 2400 sa z84.2.2.2.2.2.2.2.1 nu z84.2.2.2.2.2.2.2.2 (y1 + 1)))) ((f_X2_finish N z56.2.1 z56.2.2.1 z56.2.2.2.1 z56.2.2.2.2.1 great z56.2.2.2.2.2.1 z56.2.2.2.2.2.2.1 z56.2.2.2.2.2.2.2.1 2400 sa z56.2.2.2.2.2.2.2.2 wa).bind (fun z79 => some (z79.1, z79.2.1, z56.2.2.1, z79.2.2.1, z56.2.2.2.2.1, great, z79.2.2.2.1, z79.2.2.2.2.1, z79.2.2.2.2.2.1, sa, z79.2.2.2.2.2.2, nu, wa))))
def aK (N n : Nat) (length : Int32) (bytes : Nat → Int32) (great pa ro : Int32) (ce sa lo : Nat → Int32) (nu : Nat → Int64) (y1 : Int32) (z42 : Int32 × (Int32) × (Int32) × (Int32) × (Int32) × (Nat → Int32)) : Option PT :=
  ifb (z42.1 = 0) (f_X2_parse_62 N length z42.2.1 z42.2.2.1 z42.2.2.2.1 z42.2.2.2.2.1 great bytes pa ro ce 2400 sa lo nu z42.2.2.2.2.2) ((f_X2_plainUnit N length z42.2.2.1 great bytes pa ro ce 2400 sa lo nu).bind (fun z49 => ifb (z49.1 = 0) (f_X2_parse_62 N length z42.2.1 z49.2.1 z42.2.2.2.1 z42.2.2.2.2.1 z49.2.2.1 bytes z49.2.2.2.1 z49.2.2.2.2.1 z49.2.2.2.2.2.1 2400 z49.2.2.2.2.2.2.1 z49.2.2.2.2.2.2.2.1 z49.2.2.2.2.2.2.2.2 z42.2.2.2.2.2) ((f_X2_endings N length z42.2.1 z49.2.1 z42.2.2.2.1 z42.2.2.2.2.1 bytes z49.2.2.2.1 z49.2.2.2.2.1 z49.2.2.2.2.2.1 2400 z49.2.2.2.2.2.2.1 z49.2.2.2.2.2.2.2.1 z42.2.2.2.2.2).bind (zK N n length bytes z49.2.2.1 z49.2.2.2.2.2.2.1 z49.2.2.2.2.2.2.2.2 z42.2.2.2.2.2 y1))))
def RunZ (N n f sz : Nat) (t : Nat → Int32) (p y Y : Nat) (wt op pr gr pa ro : Int32) (ce sa lo wa : Nat → Int32) (nu : Nat → Int64) : Option PT := (f_X2_endings_2 N f (Int32.ofNat sz) wt (Int32.ofNat p) op pr t pa ro ce 2400 sa lo wa (Int32.ofNat y)).bind (zK N n (Int32.ofNat sz) t gr sa nu wa (Int32.ofNat Y))
def RunA (N n f sz : Nat) (t : Nat → Int32) (p y Y : Nat) (wt op pr gr pa ro : Int32) (ce sa lo wa : Nat → Int32) (nu : Nat → Int64) : Option PT := (f_X2_openings_2 N f (Int32.ofNat sz) wt (Int32.ofNat p) op pr t wa (Int32.ofNat y)).bind (aK N n (Int32.ofNat sz) t gr pa ro ce sa lo nu (Int32.ofNat Y))
def Out (o : Option PT) (an : Int32) : Prop := ∃ wt ap op pr gr pa ro ce sa lo nu wa, o = some (an, wt, ap, op, pr, gr, pa, ro, ce, sa, lo, nu, wa) ∧ ∃ st, Be pa ro ce 2400 sa lo st
theorem run_parse (N n sz : Nat) (t : Nat → Int32) (p Y : Nat) (wt op pr gr pa ro : Int32) (ce sa lo wa : Nat → Int32) (nu : Nat → Int64) (hY : Y ≤ 240) : f_X2_parse_34 N (n + 1) (Int32.ofNat sz) wt (Int32.ofNat p) op pr gr t pa ro ce 2400 sa lo nu wa (Int32.ofNat Y) = RunA N n N sz t p 0 Y wt op pr gr pa ro ce sa lo wa nu := by
  rw [f_X2_parse_34]; dsimp only
  rw [ifb_f (by rw [show (240 : Int32) = Int32.ofNat 240 from rfl, i_lt _ _ (by omega) (by omega)]; omega)]
  rfl
section RUN
variable {t : Nat → Int32} {sz : Nat} {W : List Int32} {s : List (List (List Int32))} {wt op pa ro gr : Int32} {ce sa lo wa : Nat → Int32} {nu : Nat → Int64}
theorem co_total (N : Nat) (hN : 100000 ≤ N) {b : Nat} (hb1 : 1 ≤ b) (hb : b ≤ 4) : ∀ (W : List Int32) (s : List (List (List Int32))) (wt op pa ro : Int32) (ce sa lo wa : Nat → Int32), RS W s wt op pa ro ce sa lo wa → s.length = bn W + 1 → ∃ W' s' wt' op' pa' ro' ce' lo', f_X2_carryOut N wt op pa ro ce 2400 sa lo wa (Int32.ofNat b) = some (wt', op', pa', ro', ce', lo') ∧ RS W' s' wt' op' pa' ro' ce' sa lo' wa
  | [], s, wt, op, pa, ro, ce, sa, lo, wa, R, hs => ⟨_, _, _, _, _, _, _, _, co_id N hN hb1 hb R (by show 0 < b; omega), R⟩
  | w :: W, s, wt, op, pa, ro, ce, sa, lo, wa, R, hs => by
    by_cases ht : b ≤ tg w
    · obtain ⟨s', op', pa', ro', ce', lo', e, R', hs'⟩ := co_one N hN R (tg_par (R.2.2.2.2.1 w List.mem_cons_self) (by omega)) hs
      rw [co_pop N hN hb1 hb R ht e R' hs']
      exact co_total N hN hb1 hb W s' _ _ _ _ _ _ _ _ R' hs'
    · exact ⟨_, _, _, _, _, _, _, _, co_id N hN hb1 hb R (by show tg w < b; omega), R⟩
theorem z_co (N n f : Nat) {p y Y : Nat} {pr : Int32} {wt' op' pa' ro' : Int32} {ce' lo' : Nat → Int32} (h : f_X2_carryOut N wt op pa ro ce 2400 sa lo wa (Int32.ofNat 4) = f_X2_carryOut N wt' op' pa' ro' ce' 2400 sa lo' wa (Int32.ofNat 4)) (hy : y ≤ 240) : RunZ N n (f + 1) sz t p y Y wt op pr gr pa ro ce sa lo wa nu = RunZ N n (f + 1) sz t p y Y wt' op' pr gr pa' ro' ce' sa lo' wa nu := by
  unfold RunZ
  congr 1
  rw [f_X2_endings_2]; dsimp only
  rw [ifb_f (by rw [show (240 : Int32) = Int32.ofNat 240 from rfl, i_lt _ _ (by omega) (by omega)]; omega), ifb_f (by rw [show (240 : Int32) = Int32.ofNat 240 from rfl, i_lt _ _ (by omega) (by omega)]; omega), show (4 : Int32) = Int32.ofNat 4 from rfl, h]
theorem z_end (N f : Nat) (hN : 100000 ≤ N) (hsz : sz ≤ 240) {p y : Nat} {pr : Int32} (R : RS W s wt op pa ro ce sa lo wa) (ht : tgs W < 4) (hp : p ≤ sz) (hy : y ≤ 240) : f_X2_endings_2 N (f + 1) (Int32.ofNat sz) wt (Int32.ofNat p) op pr t pa ro ce 2400 sa lo wa (Int32.ofNat y) = ifb (pk t sz (bls t sz p) = 41) (ifb (pr = 0) (some (0, wt, Int32.ofNat (bls t sz p), op, pr, pa, ro, ce, lo)) ((f_X2_carryOut N wt op pa ro ce 2400 sa lo wa 1).bind (fun z36 => f_X2_endings_2 N f (Int32.ofNat sz) (jmax (z36.1 - 1) 0) (Int32.ofNat (bls t sz p) + 1) (z36.2.1 - 1) (pr - 1) t z36.2.2.1 z36.2.2.2.1 z36.2.2.2.2.1 2400 sa z36.2.2.2.2.2 wa (Int32.ofNat y + 1)))) (some (1, wt, Int32.ofNat (bls t sz p), op, pr, pa, ro, ce, lo)) := by
  rw [f_X2_endings_2]; dsimp only
  rw [ifb_f (by rw [show (240 : Int32) = Int32.ofNat 240 from rfl, i_lt _ _ (by omega) (by omega)]; omega), bd (show f_X2_carryOut N wt op pa ro ce 2400 sa lo wa 4 = _ from co_id N hN (b := 4) (by omega) (by omega) R ht)]
  dsimp only
  rw [bd (c_next N (by omega) hsz (by omega))]
theorem b_of (R : RS W s wt op pa ro ce sa lo wa) : ∃ st, Be pa ro ce 2400 sa lo st := ⟨_, R.2.2.2.1⟩
theorem z_fault (N n f : Nat) (hN : 100000 ≤ N) (hsz : sz ≤ 240) {p y Y : Nat} {k : Nat} (R : RS W s wt op pa ro ce sa lo wa) (ht : tgs W < 4) (hp : p ≤ sz) (hy : y ≤ 240) (hk : k ≤ 240) (h1 : pk t sz (bls t sz p) ≠ 38) (h2 : pk t sz (bls t sz p) ≠ 124) (h3 : pk t sz (bls t sz p) ≠ 45) (h4 : k = 0 ∨ pk t sz (bls t sz p) ≠ 41) (h5 : bls t sz p < sz ∨ 0 < k) : Out (RunZ N n (f + 1) sz t p y Y wt op (Int32.ofNat k) gr pa ro ce sa lo wa nu) (Int32.ofNat (bls t sz p)) := by
  have hbl := bls_le (t := t) (sz := sz) p hp
  unfold RunZ
  rw [z_end N f hN hsz R ht hp hy]
  by_cases c : pk t sz (bls t sz p) = 41
  · have hk0 : k = 0 := h4.resolve_right (fun g => g c)
    subst hk0
    rw [ifb_t c, ifb_t (show Int32.ofNat 0 = 0 from rfl)]
    show Out (zK _ _ _ _ _ _ _ _ _ _) _
    unfold zK f_X2_parse_62
    dsimp only
    rw [ifb_t rfl]
    exact ⟨_, _, _, _, _, _, _, _, _, _, _, _, rfl, b_of R⟩
  · rw [ifb_f c]
    show Out (zK _ _ _ _ _ _ _ _ _ _) _
    unfold zK
    dsimp only
    rw [ifb_f (by decide)]
    by_cases c2 : bls t sz p < sz
    · rw [ifb_t (by rw [i_lt _ _ (by omega) (by omega)]; exact c2)]
      have e : f_X2_connective N (Int32.ofNat sz) wt (Int32.ofNat (bls t sz p)) op t pa ro ce 2400 sa lo wa = some (0, wt, Int32.ofNat (bls t sz p), op, pa, ro, ce, lo, wa) := by
        unfold f_X2_connective
        rw [bd (c_next N (by omega) hsz (by omega)), bls_bls]
        dsimp only
        rw [ifb_f h1, ifb_f h2, ifb_f h3]
      rw [bd e]
      dsimp only
      rw [ifb_t rfl]
      exact ⟨_, _, _, _, _, _, _, _, _, _, _, _, rfl, b_of R⟩
    · have hk0 : 0 < k := h5.resolve_left c2
      rw [ifb_f (by rw [i_lt _ _ (by omega) (by omega)]; exact c2)]
      unfold f_X2_finish
      rw [ifb_f (by rw [show (0 : Int32) = Int32.ofNat 0 from rfl, i_le _ _ (by omega) (by omega)]; omega)]
      exact ⟨_, _, _, _, _, _, _, _, _, _, _, _, rfl, b_of R⟩
def EqS (N k : Nat) (sa wa : Nat → Int32) (wt op pa ro : Int32) (ce lo : Nat → Int32) (wt' op' pa' ro' : Int32) (ce' lo' : Nat → Int32) : Prop := ∀ b, 1 ≤ b → b ≤ k → f_X2_carryOut N wt op pa ro ce 2400 sa lo wa (Int32.ofNat b) = f_X2_carryOut N wt' op' pa' ro' ce' 2400 sa lo' wa (Int32.ofNat b)
theorem z_close (N n f : Nat) (hN : 100000 ≤ N) (hsz : sz ≤ 240) {p y Y : Nat} (R : RS W s wt op pa ro ce sa lo wa) (ht : tgs W < 4) (hp : p ≤ sz) (hy : y ≤ 240) (h41 : pk t sz (bls t sz p) = 41) {W0 : List Int32} {s0 : List (List (List Int32))} {wt' op' pa' ro' : Int32} {ce' lo' : Nat → Int32} (E : EqS N 1 sa wa wt op pa ro ce lo wt' op' pa' ro' ce' lo') (R0 : RS (11 :: W0) s0 wt' op' pa' ro' ce' sa lo' wa) : RunZ N n (f + 1) sz t p y Y wt op (Int32.ofNat (cP (11 :: W0))) gr pa ro ce sa lo wa nu = RunZ N n f sz t (bls t sz p + 1) (y + 1) Y (Int32.ofNat W0.length) (Int32.ofNat (cO W0)) (Int32.ofNat (cP W0)) gr pa' ro' ce' sa lo' wa nu ∧ RS W0 s0 (Int32.ofNat W0.length) (Int32.ofNat (cO W0)) pa' ro' ce' sa lo' wa := by
  obtain ⟨a1, a2, a3, a4, a5, a6⟩ := id R0
  have hwl : ((11 : Int32) :: W0).length = W0.length + 1 := rfl
  have hO : cO (11 :: W0) = 1 + cO W0 := by
    show (if (11 : Int32) = 6 ∨ (11 : Int32) = 7 ∨ (11 : Int32) = 10 then 0 else 1) + cO W0 = 1 + cO W0
    rw [if_neg (by decide)]
  have hP : cP (11 :: W0) = 1 + cP W0 := by
    show (if (11 : Int32) = 11 then 1 else 0) + cP W0 = 1 + cP W0
    rw [if_pos rfl]
  rw [hwl] at a1 a6
  refine ⟨?_, rfl, rfl, (rev_pop a3).1, a4, fun v hv => a5 v (List.mem_cons_of_mem _ hv), by omega⟩
  have hcP : cP W0 ≤ W0.length := by
    clear R0 a1 a2 a3 a4 a5 a6 hwl hO hP E
    induction W0 with
    | nil => exact Nat.le_refl _
    | cons w W ih =>
      show (if w = 11 then 1 else 0) + cP W ≤ W.length + 1
      split <;> omega
  have hbl := bls_le (t := t) (sz := sz) p hp
  unfold RunZ
  rw [z_end N f hN hsz R ht hp hy, ifb_t h41, ifb_f (by rw [hP, show (0 : Int32) = Int32.ofNat 0 from rfl, i_eq _ _ (by omega) (by omega)]; omega)]
  have e1 : f_X2_carryOut N wt op pa ro ce 2400 sa lo wa 1 = some (wt', op', pa', ro', ce', lo') := by
    rw [show (1 : Int32) = Int32.ofNat 1 from rfl, E 1 (by omega) (by omega)]
    exact co_id N hN (by omega) (by omega) R0 (by show tg 11 < 1; decide)
  rw [bd e1]
  dsimp only
  rw [a1, a2, hO, hP, i_m1 _ (by omega), i_m1 _ (by omega), i_m1 _ (by omega), i_p1, i_p1, show W0.length + 1 - 1 = W0.length from by omega, show 1 + cO W0 - 1 = cO W0 from by omega, show 1 + cP W0 - 1 = cP W0 from by omega, jmax0 _ (by omega)]
theorem c_await (N : Nat) (R : RS W s wt op pa ro ce sa lo wa) (w : Int32) (hW : W.length < 240) : f_X2_await N wt wa w = some (Int32.ofNat (W.length + 1), upd wa W.length w) ∧ ∀ i, i < (w :: W).length → upd wa W.length w i = (w :: W).reverse.getD i 0 := by
  obtain ⟨a1, a2, a3, a4, a5, a6⟩ := R
  constructor
  · unfold f_X2_await f_X2_await_30
    rw [a1, ifb_f (by rw [show (240 : Int32) = Int32.ofNat 240 from rfl, i_le _ _ (by omega) (by omega)]; omega), ix_n _ _ _ (by omega) (by omega), i_cl _ (by omega), i_p1]
  · intro i hi
    rw [List.length_cons] at hi
    by_cases c : i = W.length
    · subst c
      rw [upd_at, List.reverse_cons, List.getD_eq_getElem?_getD, List.getElem?_append_right (by simp)]
      simp
    · rw [upd_ne _ _ _ _ c, a3 i (by omega), List.reverse_cons, List.getD_eq_getElem?_getD, List.getD_eq_getElem?_getD, List.getElem?_append_left (by simp; omega)]
theorem z_conn (N n f : Nat) (hN : 100000 ≤ N) (hsz : sz ≤ 240) {p y Y : Nat} {pr : Int32} (R : RS W s wt op pa ro ce sa lo wa) (ht : tgs W < 4) (hp : p ≤ sz) (hy : y ≤ 240) (hY : Y + 1 ≤ 240) {W0 : List Int32} {s0 : List (List (List Int32))} {wt' op' pa' ro' : Int32} {ce' lo' : Nat → Int32} {b q : Nat} {w : Int32} (hb : (b = 3 ∧ w = 6 ∧ pk t sz (bls t sz p) = 38 ∧ q = bls t sz p + 1) ∨ (b = 2 ∧ w = 7 ∧ pk t sz (bls t sz p) = 124 ∧ q = bls t sz p + 1) ∨ (b = 2 ∧ w = 10 ∧ pk t sz (bls t sz p) = 45 ∧ pk t sz (bls t sz p + 1) = 62 ∧ q = bls t sz p + 2)) (E : EqS N b sa wa wt op pa ro ce lo wt' op' pa' ro' ce' lo') (R0 : RS W0 s0 wt' op' pa' ro' ce' sa lo' wa) (ht0 : tgs W0 < b) (hc : s0.flatten.length + W0.length + 1 ≤ q) : RunZ N (n + 1) (f + 1) sz t p y Y wt op pr gr pa ro ce sa lo wa nu = RunA N n N sz t q 0 (Y + 1) (Int32.ofNat (W0.length + 1)) (Int32.ofNat (cO W0)) pr gr pa' ro' ce' sa lo' (upd wa W0.length w) nu ∧ RS (w :: W0) s0 (Int32.ofNat (W0.length + 1)) (Int32.ofNat (cO W0)) pa' ro' ce' sa lo' (upd wa W0.length w) ∧ q ≤ sz := by
  have hbl := bls_le (t := t) (sz := sz) p hp
  have hq : q ≤ sz := by
    rcases hb with ⟨_, _, h, rfl⟩ | ⟨_, _, h, rfl⟩ | ⟨_, _, h, h', rfl⟩
    · have := pkk_in h (by decide); omega
    · have := pkk_in h (by decide); omega
    · have := pkk_in h' (by decide); omega
  have hlt : bls t sz p < sz := by
    rcases hb with ⟨_, _, h, _⟩ | ⟨_, _, h, _⟩ | ⟨_, _, h, _⟩ <;> exact pkk_in h (by decide)
  have hn41 : ¬ (pk t sz (bls t sz p) = 41) := by
    rcases hb with ⟨_, _, h, _⟩ | ⟨_, _, h, _⟩ | ⟨_, _, h, _⟩ <;> rw [h] <;> decide
  have hw : w = 6 ∨ w = 7 ∨ w = 10 := by
    rcases hb with ⟨_, h, _⟩ | ⟨_, h, _⟩ | ⟨_, h, _⟩
    · exact Or.inl h
    · exact Or.inr (Or.inl h)
    · exact Or.inr (Or.inr h)
  have hb4 : 1 ≤ b ∧ b ≤ 4 := by rcases hb with ⟨h, _⟩ | ⟨h, _⟩ | ⟨h, _⟩ <;> omega
  obtain ⟨a1, a2, a3, a4, a5, a6⟩ := id R0
  obtain ⟨ea, ha⟩ := c_await N R0 w (by omega)
  have hO : cO (w :: W0) = cO W0 := by
    show (if w = 6 ∨ w = 7 ∨ w = 10 then 0 else 1) + cO W0 = cO W0
    rw [if_pos hw]; omega
  refine ⟨?_, ⟨rfl, by rw [hO], ha, a4, fun v hv => ?_, by rw [List.length_cons]; omega⟩, hq⟩
  · unfold RunZ
    rw [z_end N f hN hsz R ht hp hy, ifb_f hn41]
    show zK _ _ _ _ _ _ _ _ _ _ = _
    unfold zK
    dsimp only
    rw [ifb_f (by decide), ifb_t (by rw [i_lt _ _ (by omega) (by omega)]; exact hlt)]
    have eco : f_X2_carryOut N wt op pa ro ce 2400 sa lo wa (Int32.ofNat b) = some (wt', op', pa', ro', ce', lo') := by
      rw [E b hb4.1 (Nat.le_refl _)]
      exact co_id N hN hb4.1 hb4.2 R0 ht0
    have e : f_X2_connective N (Int32.ofNat sz) wt (Int32.ofNat (bls t sz p)) op t pa ro ce 2400 sa lo wa = some (1, Int32.ofNat (W0.length + 1), Int32.ofNat q, op', pa', ro', ce', lo', upd wa W0.length w) := by
      unfold f_X2_connective f_X2_connective_92
      rw [bd (c_next N (by omega) hsz (by omega)), bls_bls]
      dsimp only
      rcases hb with ⟨rfl, rfl, h, rfl⟩ | ⟨rfl, rfl, h, rfl⟩ | ⟨rfl, rfl, h, h', rfl⟩
      · rw [ifb_t h, show (3 : Int32) = Int32.ofNat 3 from rfl, bd eco, bd ea, i_p1]
      · rw [ifb_f (by rw [h]; decide), ifb_t h, show (2 : Int32) = Int32.ofNat 2 from rfl, bd eco, bd ea, i_p1]
      · rw [ifb_f (by rw [h]; decide), ifb_f (by rw [h]; decide), ifb_t h, i_p1, bd (c_letterAt N _ hsz (by omega)), ifb_t h', show (2 : Int32) = Int32.ofNat 2 from rfl, bd eco, bd ea, i_p1]
    rw [bd e]
    dsimp only
    rw [ifb_f (by decide), i_p1, run_parse N n sz t q (Y + 1) _ _ _ _ _ _ _ _ _ _ _ hY, a2]
  · rcases List.mem_cons.mp hv with g | g
    · rw [g]; rcases hw with h | h | h
      · exact Or.inl h
      · exact Or.inr (Or.inl h)
      · exact Or.inr (Or.inr (Or.inl h))
    · exact a5 v g
theorem z_minus (N n f : Nat) (hN : 100000 ≤ N) (hsz : sz ≤ 240) {p y Y : Nat} {pr : Int32} (R : RS W s wt op pa ro ce sa lo wa) (ht : tgs W < 4) (hp : p ≤ sz) (hy : y ≤ 240) (h1 : pk t sz (bls t sz p) = 45) (h2 : pk t sz (bls t sz p + 1) ≠ 62) : Out (RunZ N n (f + 1) sz t p y Y wt op pr gr pa ro ce sa lo wa nu) (Int32.ofNat (bls t sz p + 1)) := by
  have hbl := bls_le (t := t) (sz := sz) p hp
  have hlt := pkk_in h1 (by decide)
  unfold RunZ
  rw [z_end N f hN hsz R ht hp hy, ifb_f (by rw [h1]; decide)]
  show Out (zK _ _ _ _ _ _ _ _ _ _) _
  unfold zK
  dsimp only
  rw [ifb_f (by decide), ifb_t (by rw [i_lt _ _ (by omega) (by omega)]; exact hlt)]
  have e : f_X2_connective N (Int32.ofNat sz) wt (Int32.ofNat (bls t sz p)) op t pa ro ce 2400 sa lo wa = some (0, wt, Int32.ofNat (bls t sz p + 1), op, pa, ro, ce, lo, wa) := by
    unfold f_X2_connective
    rw [bd (c_next N (by omega) hsz (by omega)), bls_bls]
    dsimp only
    rw [ifb_f (by rw [h1]; decide), ifb_f (by rw [h1]; decide), ifb_t h1, i_p1, bd (c_letterAt N _ hsz (by omega)), ifb_f h2]
  rw [bd e]
  dsimp only
  rw [ifb_t rfl]
  exact ⟨_, _, _, _, _, _, _, _, _, _, _, _, rfl, b_of R⟩
theorem z_fin (N n f : Nat) (hN : 100000 ≤ N) (hsz : sz ≤ 240) {p y Y : Nat} (R : RS W s wt op pa ro ce sa lo wa) (ht : tgs W < 4) (hp : p ≤ sz) (hy : y ≤ 240) (he : bls t sz p = sz) {s0 : List (List (List Int32))} {wt' op' pa' ro' : Int32} {ce' lo' : Nat → Int32} (E : EqS N 1 sa wa wt op pa ro ce lo wt' op' pa' ro' ce' lo') (R0 : RS [] s0 wt' op' pa' ro' ce' sa lo' wa) (G : Bool) : ∃ wt'' ap op'' pr nu' wa', RunZ N n (f + 1) sz t p y Y wt op 0 (b2i G) pa ro ce sa lo wa nu = some ((if G then -2 else -1), wt'', ap, op'', pr, b2i G, pa', ro', ce', sa, lo', nu', wa') ∧ Be pa' ro' ce' 2400 sa lo' s0.reverse := by
  have h41 : ¬ (pk t sz (bls t sz p) = 41) := by rw [he, pk_out (Nat.le_refl _)]; decide
  unfold RunZ
  rw [z_end N f hN hsz R ht hp hy, ifb_f h41]
  show ∃ wt'' ap op'' pr nu' wa', zK _ _ _ _ _ _ _ _ _ _ = _ ∧ _
  unfold zK
  dsimp only
  rw [ifb_f (by decide), ifb_f (by rw [he, i_lt _ _ (by omega) (by omega)]; omega)]
  have e1 : f_X2_carryOut N wt op pa ro ce 2400 sa lo wa 1 = some (wt', op', pa', ro', ce', lo') := by
    rw [show (1 : Int32) = Int32.ofNat 1 from rfl, E 1 (by omega) (by omega)]
    exact co_id N hN (by omega) (by omega) R0 (by show 0 < 1; omega)
  unfold f_X2_finish f_X2_finish_30
  rw [ifb_t (by decide), bd e1]
  cases G with
  | true =>
    rw [ifb_f (by decide)]
    exact ⟨_, _, _, _, _, _, rfl, R0.2.2.2.1⟩
  | false =>
    rw [ifb_t (by decide)]
    exact ⟨_, _, _, _, _, _, rfl, R0.2.2.2.1⟩
end RUN
section AST
variable {t : Nat → Int32} {sz : Nat} {W : List Int32} {s : List (List (List Int32))} {wt op pa ro gr : Int32} {ce sa lo wa : Nat → Int32} {nu : Nat → Int64}
theorem a_unf (N n f : Nat) (hN : 100000 ≤ N) (hsz : sz ≤ 240) {p y Y : Nat} {pr : Int32} (hp : p ≤ sz) (hy : y ≤ 240) : RunA N n (f + 1) sz t p y Y wt op pr gr pa ro ce sa lo wa nu = (ifb (pk t sz (bls t sz p) = 33) (f_X2_openings_40 (f_X2_openings_2 N f) N (Int32.ofNat sz) wt (Int32.ofNat (bls t sz p)) op pr t wa (Int32.ofNat y) (pk t sz (bls t sz p))) (ifb (pk t sz (bls t sz p) = 69) (f_X2_openings_40 (f_X2_openings_2 N f) N (Int32.ofNat sz) wt (Int32.ofNat (bls t sz p)) op pr t wa (Int32.ofNat y) (pk t sz (bls t sz p))) (ifb (pk t sz (bls t sz p) = 65) (f_X2_openings_40 (f_X2_openings_2 N f) N (Int32.ofNat sz) wt (Int32.ofNat (bls t sz p)) op pr t wa (Int32.ofNat y) (pk t sz (bls t sz p))) (ifb (pk t sz (bls t sz p) = 40) (f_X2_openings_40 (f_X2_openings_2 N f) N (Int32.ofNat sz) wt (Int32.ofNat (bls t sz p)) op pr t wa (Int32.ofNat y) (pk t sz (bls t sz p))) (some (1, wt, Int32.ofNat (bls t sz p), op, pr, wa)))))).bind (aK N n (Int32.ofNat sz) t gr pa ro ce sa lo nu (Int32.ofNat Y)) := by
  unfold RunA
  congr 1
  rw [f_X2_openings_2]; dsimp only
  rw [ifb_f (by rw [show (240 : Int32) = Int32.ofNat 240 from rfl, i_lt _ _ (by omega) (by omega)]; omega), bd (c_next N (by omega) hsz (by omega))]
theorem a_letter (N n f : Nat) (hN : 100000 ≤ N) (hsz : sz ≤ 240) {p y Y : Nat} {pr : Int32} (hp : p ≤ sz) (hy : y ≤ 240) (h : pk t sz (bls t sz p) = 33 ∨ pk t sz (bls t sz p) = 69 ∨ pk t sz (bls t sz p) = 65 ∨ pk t sz (bls t sz p) = 40) : RunA N n (f + 1) sz t p y Y wt op pr gr pa ro ce sa lo wa nu = (f_X2_openings_40 (f_X2_openings_2 N f) N (Int32.ofNat sz) wt (Int32.ofNat (bls t sz p)) op pr t wa (Int32.ofNat y) (pk t sz (bls t sz p))).bind (aK N n (Int32.ofNat sz) t gr pa ro ce sa lo nu (Int32.ofNat Y)) := by
  rw [a_unf N n f hN hsz hp hy]
  congr 1
  by_cases c1 : pk t sz (bls t sz p) = 33
  · rw [ifb_t c1]
  · rw [ifb_f c1]
    by_cases c2 : pk t sz (bls t sz p) = 69
    · rw [ifb_t c2]
    · rw [ifb_f c2]
      by_cases c3 : pk t sz (bls t sz p) = 65
      · rw [ifb_t c3]
      · rw [ifb_f c3, ifb_t (by rcases h with g | g | g | g; exact absurd g c1; exact absurd g c2; exact absurd g c3; exact g)]
theorem a_full (N n f : Nat) (hN : 100000 ≤ N) (hsz : sz ≤ 240) {p y Y : Nat} {pr : Int32} (R : RS W s wt op pa ro ce sa lo wa) (hp : p ≤ sz) (hy : y ≤ 240) (h : pk t sz (bls t sz p) = 33 ∨ pk t sz (bls t sz p) = 69 ∨ pk t sz (bls t sz p) = 65 ∨ pk t sz (bls t sz p) = 40) (hO : cO W = 20) : Out (RunA N n (f + 1) sz t p y Y wt op pr gr pa ro ce sa lo wa nu) (Int32.ofNat (bls t sz p)) := by
  rw [a_letter N n f hN hsz hp hy h]
  unfold f_X2_openings_40
  rw [ifb_f (by rw [R.2.1, hO]; decide)]
  show Out (aK _ _ _ _ _ _ _ _ _ _ _ _ _) _
  unfold aK f_X2_parse_62
  dsimp only
  rw [ifb_t rfl]
  exact ⟨_, _, _, _, _, _, _, _, _, _, _, _, rfl, b_of R⟩
theorem rs_push (N : Nat) (R : RS W s wt op pa ro ce sa lo wa) {w : Int32} (hok : okW w) (h1 : s.flatten.length + W.length + 1 ≤ 240) (hO : cO (w :: W) = 1 + cO W) : f_X2_await N wt wa w = some (Int32.ofNat (W.length + 1), upd wa W.length w) ∧ op + 1 = Int32.ofNat (cO (w :: W)) ∧ RS (w :: W) s (Int32.ofNat (W.length + 1)) (Int32.ofNat (cO (w :: W))) pa ro ce sa lo (upd wa W.length w) := by
  obtain ⟨a1, a2, a3, a4, a5, a6⟩ := id R
  obtain ⟨ea, ha⟩ := c_await N R w (by omega)
  refine ⟨ea, by rw [a2, i_p1, hO]; congr 1; omega, rfl, rfl, ha, a4, fun v hv => ?_, by rw [List.length_cons]; omega⟩
  rcases List.mem_cons.mp hv with g | g
  · rw [g]; exact hok
  · exact a5 v g
theorem lt20 {n : Nat} (h : n < 20) : Int32.ofNat n < 20 := by rw [show (20 : Int32) = Int32.ofNat 20 from rfl, i_lt _ _ (by omega) (by omega)]; exact h
theorem a_not (N n f : Nat) (hN : 100000 ≤ N) (hsz : sz ≤ 240) {p y Y : Nat} {pr : Int32} (R : RS W s wt op pa ro ce sa lo wa) (hp : p ≤ sz) (hy : y ≤ 240) (h : pk t sz (bls t sz p) = 33) (hO : cO W < 20) (hc : s.flatten.length + W.length ≤ p) : RunA N n (f + 1) sz t p y Y wt op pr gr pa ro ce sa lo wa nu = RunA N n f sz t (bls t sz p + 1) (y + 1) Y (Int32.ofNat (W.length + 1)) (Int32.ofNat (cO (12 :: W))) pr gr pa ro ce sa lo (upd wa W.length 12) nu ∧ RS (12 :: W) s (Int32.ofNat (W.length + 1)) (Int32.ofNat (cO (12 :: W))) pa ro ce sa lo (upd wa W.length 12) ∧ cO (12 :: W) = 1 + cO W := by
  have hbl := bls_le (t := t) (sz := sz) p hp
  have hlt := pkk_in h (by decide)
  have hO1 : cO (12 :: W) = 1 + cO W := by
    show (if (12 : Int32) = 6 ∨ (12 : Int32) = 7 ∨ (12 : Int32) = 10 then 0 else 1) + cO W = 1 + cO W
    rw [if_neg (by decide)]
  obtain ⟨ea, eo, R'⟩ := rs_push N R (w := 12) (Or.inr (Or.inr (Or.inr (Or.inr (Or.inl rfl))))) (by omega) hO1
  refine ⟨?_, R', hO1⟩
  rw [a_letter N n f hN hsz hp hy (Or.inl h)]
  unfold RunA
  congr 1
  unfold f_X2_openings_40 f_X2_openings_133
  rw [ifb_t (by rw [R.2.1]; exact lt20 hO), ifb_t h, bd ea, i_p1, i_p1, eo]
theorem a_par (N n f : Nat) (hN : 100000 ≤ N) (hsz : sz ≤ 240) {p y Y : Nat} (R : RS W s wt op pa ro ce sa lo wa) (hp : p ≤ sz) (hy : y ≤ 240) (h : pk t sz (bls t sz p) = 40) (hO : cO W < 20) (hc : s.flatten.length + W.length ≤ p) : RunA N n (f + 1) sz t p y Y wt op (Int32.ofNat (cP W)) gr pa ro ce sa lo wa nu = RunA N n f sz t (bls t sz p + 1) (y + 1) Y (Int32.ofNat (W.length + 1)) (Int32.ofNat (cO (11 :: W))) (Int32.ofNat (cP (11 :: W))) gr pa ro ce sa lo (upd wa W.length 11) nu ∧ RS (11 :: W) s (Int32.ofNat (W.length + 1)) (Int32.ofNat (cO (11 :: W))) pa ro ce sa lo (upd wa W.length 11) ∧ cO (11 :: W) = 1 + cO W := by
  have hbl := bls_le (t := t) (sz := sz) p hp
  have hlt := pkk_in h (by decide)
  have hO1 : cO (11 :: W) = 1 + cO W := by
    show (if (11 : Int32) = 6 ∨ (11 : Int32) = 7 ∨ (11 : Int32) = 10 then 0 else 1) + cO W = 1 + cO W
    rw [if_neg (by decide)]
  have hP1 : cP (11 :: W) = 1 + cP W := by
    show (if (11 : Int32) = 11 then 1 else 0) + cP W = 1 + cP W
    rw [if_pos rfl]
  obtain ⟨ea, eo, R'⟩ := rs_push N R (w := 11) (Or.inr (Or.inr (Or.inr (Or.inl rfl)))) (by omega) hO1
  refine ⟨?_, R', hO1⟩
  rw [a_letter N n f hN hsz hp hy (Or.inr (Or.inr (Or.inr h)))]
  unfold RunA
  congr 1
  unfold f_X2_openings_40 f_X2_openings_133
  rw [ifb_t (by rw [R.2.1]; exact lt20 hO), ifb_f (by rw [h]; decide), ifb_t h, bd ea, i_p1, i_p1, i_p1, eo, hP1, show cP W + 1 = 1 + cP W from by omega]
theorem a_qu (N n f : Nat) (hN : 100000 ≤ N) (hsz : sz ≤ 240) {p y Y : Nat} {pr : Int32} (R : RS W s wt op pa ro ce sa lo wa) (hp : p ≤ sz) (hy : y ≤ 240) (h : pk t sz (bls t sz p) = 69 ∨ pk t sz (bls t sz p) = 65) (hO : cO W < 20) (hc : s.flatten.length + W.length ≤ p) : (¬ isV (pk t sz (bls t sz (bls t sz p + 1))) ∧ Out (RunA N n (f + 1) sz t p y Y wt op pr gr pa ro ce sa lo wa nu) (Int32.ofNat (bls t sz (bls t sz p + 1)))) ∨ (isV (pk t sz (bls t sz (bls t sz p + 1))) ∧ pk t sz (bls t sz (bls t sz (bls t sz p + 1) + 1)) ≠ 46 ∧ Out (RunA N n (f + 1) sz t p y Y wt op pr gr pa ro ce sa lo wa nu) (Int32.ofNat (bls t sz (bls t sz (bls t sz p + 1) + 1)))) ∨ (isV (pk t sz (bls t sz (bls t sz p + 1))) ∧ pk t sz (bls t sz (bls t sz (bls t sz p + 1) + 1)) = 46 ∧ ∃ w, w = wq (if pk t sz (bls t sz p) = 69 then 8 else 9) (vvl (pk t sz (bls t sz (bls t sz p + 1)))) ∧ RunA N n (f + 1) sz t p y Y wt op pr gr pa ro ce sa lo wa nu = RunA N n f sz t (bls t sz (bls t sz (bls t sz p + 1) + 1) + 1) (y + 1) Y (Int32.ofNat (W.length + 1)) (Int32.ofNat (cO (w :: W))) pr gr pa ro ce sa lo (upd wa W.length w) nu ∧ RS (w :: W) s (Int32.ofNat (W.length + 1)) (Int32.ofNat (cO (w :: W))) pa ro ce sa lo (upd wa W.length w) ∧ cO (w :: W) = 1 + cO W) := by
  have hbl := bls_le (t := t) (sz := sz) p hp
  have hlt : bls t sz p < sz := by rcases h with g | g <;> exact pkk_in g (by decide)
  have hb1 := bls_le (t := t) (sz := sz) (bls t sz p + 1) (by omega)
  rw [a_letter N n f hN hsz hp hy (by rcases h with g | g; exact Or.inr (Or.inl g); exact Or.inr (Or.inr (Or.inl g)))]
  have e40 : ∃ k : Int32, k = (if pk t sz (bls t sz p) = 69 then 8 else 9) ∧ (k = 8 ∨ k = 9) ∧ f_X2_openings_40 (f_X2_openings_2 N f) N (Int32.ofNat sz) wt (Int32.ofNat (bls t sz p)) op pr t wa (Int32.ofNat y) (pk t sz (bls t sz p)) = f_X2_openings_125 (f_X2_openings_2 N f) N (Int32.ofNat sz) wt (Int32.ofNat (bls t sz p + 1)) (op + 1) pr t wa (Int32.ofNat y) k := by
    unfold f_X2_openings_40
    rw [ifb_t (by rw [R.2.1]; exact lt20 hO), ifb_f (by rcases h with g | g <;> rw [g] <;> decide), ifb_f (by rcases h with g | g <;> rw [g] <;> decide), i_p1]
    by_cases c : pk t sz (bls t sz p) = 69
    · exact ⟨8, by rw [if_pos c], Or.inl rfl, by rw [ifb_t c]⟩
    · exact ⟨9, by rw [if_neg c], Or.inr rfl, by rw [ifb_f c]⟩
  obtain ⟨k, ek, hk, e40⟩ := e40
  rw [e40, ← ek]
  unfold f_X2_openings_125 f_X2_binder
  rw [bd (c_next N (by omega) hsz (by omega))]
  dsimp only
  rw [bd (c_var N _)]
  by_cases c1 : isV (pk t sz (bls t sz (bls t sz p + 1)))
  · obtain ⟨v1, v2⟩ := var_val c1
    have hlt2 := V_in c1
    have hb2 := bls_le (t := t) (sz := sz) (bls t sz (bls t sz p + 1) + 1) (by omega)
    rw [if_pos c1, v1, ifb_f (ne_m1 _ (by omega)), i_p1, bd (c_next N (by omega) hsz (by omega))]
    dsimp only
    by_cases c2 : pk t sz (bls t sz (bls t sz (bls t sz p + 1) + 1)) = 46
    · have hlt3 := pkk_in c2 (by decide)
      right; right
      have hok : okW (wq k (vvl (pk t sz (bls t sz (bls t sz p + 1))))) := Or.inr (Or.inr (Or.inr (Or.inr (Or.inr ⟨k, _, hk, v2, rfl⟩))))
      have hO1 : cO (wq k (vvl (pk t sz (bls t sz (bls t sz p + 1)))) :: W) = 1 + cO W := by
        have e1 := (wq_kd hk v2).1
        show (if wq k (vvl (pk t sz (bls t sz (bls t sz p + 1)))) = 6 ∨ wq k (vvl (pk t sz (bls t sz (bls t sz p + 1)))) = 7 ∨ wq k (vvl (pk t sz (bls t sz (bls t sz p + 1)))) = 10 then 0 else 1) + cO W = 1 + cO W
        rw [if_neg (by rintro (g | g | g) <;> rw [g] at e1 <;> rcases hk with rfl | rfl <;> exact absurd e1 (by decide))]
      obtain ⟨ea, eo, R'⟩ := rs_push N R hok (by omega) hO1
      refine ⟨c1, c2, _, rfl, ?_, R', hO1⟩
      have ea' : f_X2_await N wt wa (k ||| (Int32.ofNat (vvl (pk t sz (bls t sz (bls t sz p + 1)))) <<< (4 &&& 31))) = some (Int32.ofNat (W.length + 1), upd wa W.length (wq k (vvl (pk t sz (bls t sz (bls t sz p + 1)))))) := ea
      unfold RunA
      congr 1
      rw [ifb_t c2, bd ea']
      dsimp only
      rw [Option.bind_some]
      dsimp only
      rw [ifb_f (by decide)]
      unfold f_X2_openings_133
      rw [i_p1, i_p1, eo]
    · right; left
      refine ⟨c1, c2, ?_⟩
      rw [ifb_f c2, Option.bind_some]
      dsimp only
      rw [ifb_t rfl]
      show Out (aK _ _ _ _ _ _ _ _ _ _ _ _ _) _
      unfold aK f_X2_parse_62
      dsimp only
      rw [ifb_t rfl]
      exact ⟨_, _, _, _, _, _, _, _, _, _, _, _, rfl, b_of R⟩
  · left
    refine ⟨c1, ?_⟩
    rw [if_neg c1, ifb_t rfl, Option.bind_some]
    dsimp only
    rw [ifb_t rfl]
    show Out (aK _ _ _ _ _ _ _ _ _ _ _ _ _) _
    unfold aK f_X2_parse_62
    dsimp only
    rw [ifb_t rfl]
    exact ⟨_, _, _, _, _, _, _, _, _, _, _, _, rfl, b_of R⟩
theorem a_plain (N n f : Nat) (hN : 100000 ≤ N) (hsz : sz ≤ 240) {p y Y : Nat} {pr : Int32} (R : RS W s wt op pa ro ce sa lo wa) (hs : s.length = bn W) (hp : p ≤ sz) (hy : y ≤ 240) (h : ¬ (pk t sz (bls t sz p) = 33 ∨ pk t sz (bls t sz p) = 69 ∨ pk t sz (bls t sz p) = 65 ∨ pk t sz (bls t sz p) = 40)) (hc : s.flatten.length + W.length ≤ p) (G : Bool) : match sLeaf t sz p with
    | .error e => Out (RunA N n (f + 1) sz t p y Y wt op pr (b2i G) pa ro ce sa lo wa nu) (Int32.ofNat e)
    | .ok (p', F, g) => ∃ pa' ro' ce' sa' lo' nu', RunA N n (f + 1) sz t p y Y wt op pr (b2i G) pa ro ce sa lo wa nu = RunZ N n N sz t p' 0 Y wt op pr (b2i (G || g)) pa' ro' ce' sa' lo' wa nu' ∧ RS W (F :: s) wt op pa' ro' ce' sa' lo' wa := by
  have hbl := bls_le (t := t) (sz := sz) p hp
  obtain ⟨a1, a2, a3, a4, a5, a6⟩ := id R
  have hfr := flat_rev s
  have hbn : bn W ≤ W.length := by
    clear R hs hc a1 a2 a3 a5 a6
    induction W with
    | nil => exact Nat.le_refl _
    | cons w W ih =>
      show (if w = 6 ∨ w = 7 ∨ w = 10 then 1 else 0) + bn W ≤ W.length + 1
      split <;> omega
  have hin : bls t sz p = sz ∨ bls t sz p < sz := by omega
  have e0 : RunA N n (f + 1) sz t p y Y wt op pr (b2i G) pa ro ce sa lo wa nu = aK N n (Int32.ofNat sz) t (b2i G) pa ro ce sa lo nu (Int32.ofNat Y) (1, wt, Int32.ofNat (bls t sz p), op, pr, wa) := by
    rw [a_unf N n f hN hsz hp hy, ifb_f (fun g => h (Or.inl g)), ifb_f (fun g => h (Or.inr (Or.inl g))), ifb_f (fun g => h (Or.inr (Or.inr (Or.inl g)))), ifb_f (fun g => h (Or.inr (Or.inr (Or.inr g))))]; rfl
  have hsl : sLeaf t sz (bls t sz p) = sLeaf t sz p := by unfold sLeaf; rw [bls_bls]

  have lok := leaf_ok (t := t) hsz p hp
  rw [e0]
  unfold aK
  dsimp only
  rw [ifb_f (show ¬ ((1 : Int32) = 0) by decide)]
  by_cases hfull : s.flatten.length + W.length + 1 ≤ 240
  · have cp := c_plain (t := t) (n := 2400) N (by omega) hsz a4 (by rw [List.length_reverse]; omega) (by rw [hfr]; omega) G hbl.2 nu
    rw [hsl] at cp
    cases hx : sLeaf t sz p with
    | error e =>
      rw [hx] at cp
      have he := lok.1 e hx
      obtain ⟨G', pa', ro', ce', sa', lo', nu', hh⟩ := cp
      rcases hh with ⟨e1, hb⟩ | ⟨hD, e1, F, hF1, hb⟩
      · rw [bd e1]
        dsimp only
        rw [ifb_t rfl]
        exact ⟨_, _, _, _, _, _, _, _, _, _, _, _, rfl, hb⟩
      · rw [bd e1]
        dsimp only
        rw [ifb_f (by decide)]
        have hlt := D_in hD
        have R' : RS W (F :: s) wt op pa' ro' ce' sa' lo' wa := ⟨a1, a2, a3, by simpa using hb, a5, by rw [show (F :: s).flatten.length = F.length + s.flatten.length from by simp, hF1]; omega⟩
        obtain ⟨W2, s2, wt2, op2, pa2, ro2, ce2, lo2, e2, R2⟩ := co_total N hN (b := 4) (by omega) (by omega) W (F :: s) _ _ _ _ _ _ _ _ R' (by simp [hs])
        have nD : ∀ x : Int32, ¬ isD x → ¬ (pk t sz e = x) := fun x hx g => by rw [g] at hD; exact hx hD
        have ee : f_X2_endings N (Int32.ofNat sz) wt (Int32.ofNat e) op pr t pa' ro' ce' 2400 sa' lo' wa = some (1, wt2, Int32.ofNat e, op2, pr, pa2, ro2, ce2, lo2) := by
          unfold f_X2_endings
          obtain ⟨M, rfl⟩ : ∃ M, N = M + 1 := ⟨N - 1, by omega⟩
          rw [f_X2_endings_2]; dsimp only
          rw [ifb_f (by decide), show (4 : Int32) = Int32.ofNat 4 from rfl, bd e2]
          dsimp only
          rw [bd (c_next (M + 1) (by omega) hsz (by omega)), bls_id (nD 32 (by decide))]
          dsimp only
          rw [ifb_f (nD 41 (by decide))]
        rw [bd ee]
        unfold zK
        dsimp only
        have ec : f_X2_connective N (Int32.ofNat sz) wt2 (Int32.ofNat e) op2 t pa2 ro2 ce2 2400 sa' lo2 wa = some (0, wt2, Int32.ofNat e, op2, pa2, ro2, ce2, lo2, wa) := by
          unfold f_X2_connective
          rw [bd (c_next N (by omega) hsz (by omega)), bls_id (nD 32 (by decide))]
          dsimp only
          rw [ifb_f (nD 38 (by decide)), ifb_f (nD 124 (by decide)), ifb_f (nD 45 (by decide))]
        rw [ifb_f (by decide), ifb_t (by rw [i_lt _ _ (by omega) (by omega)]; exact hlt), bd ec]
        dsimp only
        rw [ifb_t rfl]
        exact ⟨_, _, _, _, _, _, _, _, _, _, _, _, rfl, b_of R2⟩
    | ok z =>
      obtain ⟨p', F, g⟩ := z
      rw [hx] at cp
      obtain ⟨l1, l2, l3, l4, _⟩ := lok.2 p' F g hx
      obtain ⟨pa', ro', ce', sa', lo', nu', e1, hb⟩ := cp
      have hw := w_le l3
      rw [bd e1]
      dsimp only
      rw [ifb_f (by decide)]
      refine ⟨pa', ro', ce', sa', lo', nu', rfl, a1, a2, a3, by simpa using hb, a5, ?_⟩
      have : (F :: s).flatten.length = F.length + s.flatten.length := by simp
      rw [this]; omega
  ·
    have hend : bls t sz p = 240 := by omega
    have hpk : pk t sz (bls t sz p) = -1 := pk_out (by omega)
    have hex : sLeaf t sz p = .error (bls t sz p) := by
      cases hx : sLeaf t sz p with
      | ok z =>
        obtain ⟨p', F, g⟩ := z
        have := (lok.2 p' F g hx)
        omega
      | error e =>
        have : sLeaf t sz p = .error (bls t sz p) := by
          unfold sLeaf sRel sSide
          rw [bls_bls, hpk, if_neg (by decide), if_neg (by decide), if_neg (by decide)]
          have : sSd t sz 1 false 241 1 (bls t sz p) (fun _ => 0) = .error (bls t sz p) := by
            unfold sSd sItem
            rw [bls_bls, hpk, if_neg (by decide), if_neg (by decide)]
          rw [this]
        rw [← hx, this]
    rw [hex]
    dsimp only
    have ep : ∃ nu', f_X2_plainUnit N (Int32.ofNat sz) (Int32.ofNat (bls t sz p)) (b2i G) t pa ro ce 2400 sa lo nu = some (0, Int32.ofNat (bls t sz p), b2i G, pa, ro, ce, sa, lo, nu') := by
      obtain ⟨nu0, e0', h0⟩ := t_empty N (by omega) nu
      unfold f_X2_plainUnit f_X2_atom
      rw [bd (c_next N (by omega) hsz (by omega)), bls_bls]
      dsimp only
      rw [hpk, ifb_f (by decide), ifb_f (by decide), bd e0']
      have es : f_X2_side N (Int32.ofNat sz) (Int32.ofNat (bls t sz p)) t nu0 1 = some (0, Int32.ofNat (bls t sz p), nu0) := by
        unfold f_X2_side f_X2_side_24
        rw [bd (c_next N (by omega) hsz (by omega)), bls_bls, hpk]
        dsimp only
        rw [ifb_f (by decide)]
        obtain ⟨M, rfl⟩ : ∃ M, N = M + 1 := ⟨N - 1, by omega⟩
        rw [f_X2_side_26]; dsimp only
        rw [ifb_f (by decide)]
        have ei : f_X2_item (M + 1) (Int32.ofNat sz) (Int32.ofNat (bls t sz p)) t nu0 1 = some (0, Int32.ofNat (bls t sz p), nu0) := by
          unfold f_X2_item
          rw [bd (c_next (M + 1) (by omega) hsz (by omega)), bls_bls, hpk]
          dsimp only
          rw [bd (c_var (M + 1) _), if_neg (by decide), ifb_t rfl, bd (c_dig (M + 1) _), if_neg (by decide), ifb_t rfl]
        rw [bd ei]
        dsimp only
        rw [ifb_t rfl]
      rw [bd es]
      dsimp only
      rw [ifb_t rfl, Option.bind_some]
      dsimp only
      rw [ckp_t (Or.inl rfl)]
      exact ⟨nu0, rfl⟩
    obtain ⟨nu', ep⟩ := ep
    rw [bd ep]
    dsimp only
    rw [ifb_t rfl]
    exact ⟨_, _, _, _, _, _, _, _, _, _, _, _, rfl, b_of R⟩
end AST
def ZRes (N kq sz : Nat) (t : Nat → Int32) (W : List Int32) (s : List (List (List Int32))) (F : List (List Int32)) (p' : Nat) (G' : Bool) (pr : Int32) (o : Option PT) : Prop := ∃ n f x y Y W' s' wt op pa ro ce sa lo wa nu wt' op' pa' ro' ce' lo', o = RunZ N n (f + 1) sz t x y Y wt op pr (b2i G') pa ro ce sa lo wa nu ∧ n + 1 + Y = N ∧ f + 1 + y = N ∧ y ≤ x ∧ Y ≤ x ∧ x ≤ p' ∧ bls t sz x = bls t sz p' ∧ RS W' s' wt op pa ro ce sa lo wa ∧ (tgs W < 4 → tgs W' < 4) ∧ EqS N kq sa wa wt op pa ro ce lo wt' op' pa' ro' ce' lo' ∧ RS W (F :: s) wt' op' pa' ro' ce' sa lo' wa ∧ (F :: s).flatten.length + W.length ≤ x
def AOk (N kq lim sz : Nat) (t : Nat → Int32) (k : Nat) (U : Nat → PR) : Prop := ∀ (n f p y Y : Nat) (W : List Int32) (s : List (List (List Int32))) (wt op pa ro : Int32) (ce sa lo wa : Nat → Int32) (nu : Nat → Int64) (G : Bool), p ≤ sz → y ≤ p → Y ≤ p → f + 1 + y = N → n + 1 + Y = N → RS W s wt op pa ro ce sa lo wa → s.length = bn W → s.flatten.length + W.length ≤ p → cO W + k = 20 → tgs W < lim → match U p with
  | .error e => Out (RunA N n (f + 1) sz t p y Y wt op (Int32.ofNat (cP W)) (b2i G) pa ro ce sa lo wa nu) (Int32.ofNat e)
  | .ok (p', F, g) => ZRes N kq sz t W s F p' (G || g) (Int32.ofNat (cP W)) (RunA N n (f + 1) sz t p y Y wt op (Int32.ofNat (cP W)) (b2i G) pa ro ce sa lo wa nu)
section MAIN
variable {t : Nat → Int32} {sz N : Nat}
theorem fl2 (a b : List (List Int32)) (s : List (List (List Int32))) : (a :: b :: s).flatten.length = a.length + b.length + s.flatten.length := by simp; omega
theorem fl1 (a : List (List Int32)) (s : List (List (List Int32))) : (a :: s).flatten.length = a.length + s.flatten.length := by simp
theorem EqS.le {k k' : Nat} {sa wa : Nat → Int32} {wt op pa ro : Int32} {ce lo : Nat → Int32} {wt' op' pa' ro' : Int32} {ce' lo' : Nat → Int32} (E : EqS N k sa wa wt op pa ro ce lo wt' op' pa' ro' ce' lo') (h : k' ≤ k) : EqS N k' sa wa wt op pa ro ce lo wt' op' pa' ro' ce' lo' := fun b h1 h2 => E b h1 (by omega)
theorem EqS.tr {k : Nat} {sa wa : Nat → Int32} {wt op pa ro : Int32} {ce lo : Nat → Int32} {wt' op' pa' ro' : Int32} {ce' lo' : Nat → Int32} {wt2 op2 pa2 ro2 : Int32} {ce2 lo2 : Nat → Int32} (E : EqS N k sa wa wt op pa ro ce lo wt' op' pa' ro' ce' lo') (E' : EqS N k sa wa wt' op' pa' ro' ce' lo' wt2 op2 pa2 ro2 ce2 lo2) : EqS N k sa wa wt op pa ro ce lo wt2 op2 pa2 ro2 ce2 lo2 := fun b h1 h2 => (E b h1 h2).trans (E' b h1 h2)
theorem EqS.rf {k : Nat} {sa wa : Nat → Int32} {wt op pa ro : Int32} {ce lo : Nat → Int32} : EqS N k sa wa wt op pa ro ce lo wt op pa ro ce lo := fun b h1 h2 => rfl
theorem ZRes.le {kq kq' : Nat} {W : List Int32} {s : List (List (List Int32))} {F : List (List Int32)} {p' : Nat} {G' : Bool} {pr : Int32} {o : Option PT} (Z : ZRes N kq sz t W s F p' G' pr o) (h : kq' ≤ kq) : ZRes N kq' sz t W s F p' G' pr o := by
  obtain ⟨n, f, x, y, Y, W', s', wt, op, pa, ro, ce, sa, lo, wa, nu, wt', op', pa', ro', ce', lo', h1, h2, h3, h4, h5, h6, h7, h8, h9, h10, h11, h12⟩ := Z
  exact ⟨n, f, x, y, Y, W', s', wt, op, pa, ro, ce, sa, lo, wa, nu, wt', op', pa', ro', ce', lo', h1, h2, h3, h4, h5, h6, h7, h8, h9, h10.le h, h11, h12⟩
theorem bn_w {w : Int32} (hw : w = 6 ∨ w = 7 ∨ w = 10) (W : List Int32) : bn (w :: W) = bn W + 1 := by
  show (if w = 6 ∨ w = 7 ∨ w = 10 then 1 else 0) + bn W = bn W + 1
  rw [if_pos hw]; omega
theorem cO_w {w : Int32} (hw : w = 6 ∨ w = 7 ∨ w = 10) (W : List Int32) : cO (w :: W) = cO W := by
  show (if w = 6 ∨ w = 7 ∨ w = 10 then 0 else 1) + cO W = cO W
  rw [if_pos hw]; omega
theorem cP_w {w : Int32} (hw : w ≠ 11) (W : List Int32) : cP (w :: W) = cP W := by
  show (if w = 11 then 1 else 0) + cP W = cP W
  rw [if_neg hw]; omega
theorem row_c (hN : 100000 ≤ N) (hsz : sz ≤ 240) {kq lim k : Nat} {U : Nat → PR} (hU : AOk N kq lim sz t k U) {wt0 : List (List Int32) → Nat} {Q : Nat → Prop} (hok : UOk sz wt0 Q U) {b : Nat} {w ch : Int32} (hb : (b = 3 ∧ w = 6 ∧ ch = 38) ∨ (b = 2 ∧ w = 7 ∧ ch = 124)) (hkq : b ≤ kq) (hlim : b < lim) {W : List Int32} {s : List (List (List Int32))} (hs : s.length = bn W) (hO : cO W + k = 20) (ht : tgs W < b) (G0 : Bool) (o : Option PT) : ∀ (m p : Nat) (F : List (List Int32)) (g : Bool), p ≤ sz → sz < p + m → ZRes N b sz t W s F p (G0 || g) (Int32.ofNat (cP W)) o → match sRow t sz ch w U m p F g with
    | .error e => Out o (Int32.ofNat e)
    | .ok (p', F', g') => ZRes N b sz t W s F' p' (G0 || g') (Int32.ofNat (cP W)) o
  | 0, p, F, g, hp, hm, Z => by omega
  | m + 1, p, F, g, hp, hm, Z => by
    have hbl := bls_le (t := t) (sz := sz) p hp
    have hw : w = 6 ∨ w = 7 ∨ w = 10 := by rcases hb with ⟨_, h, _⟩ | ⟨_, h, _⟩; exact Or.inl h; exact Or.inr (Or.inl h)
    have hw67 : w = 6 ∨ w = 7 := by rcases hb with ⟨_, h, _⟩ | ⟨_, h, _⟩; exact Or.inl h; exact Or.inr h
    have htw : tg w = b := by rcases hb with ⟨rfl, rfl, _⟩ | ⟨rfl, rfl, _⟩ <;> decide
    have hch : ch ≠ -1 := by rcases hb with ⟨_, _, rfl⟩ | ⟨_, _, rfl⟩ <;> decide
    have hb3 : b ≤ 3 ∧ 1 ≤ b := by rcases hb with ⟨h, _⟩ | ⟨h, _⟩ <;> omega
    have hw11 : w ≠ 11 := by rcases hw67 with h | h <;> rw [h] <;> decide
    obtain ⟨n, f, x, y, Y, W', s', wt, op, pa, ro, ce, sa, lo, wa, nu, wt', op', pa', ro', ce', lo', h1, h2, h3, h4, h5, h6, h7, h8, h9, h10, h11, h12⟩ := id Z
    unfold sRow
    by_cases c : pk t sz (bls t sz p) = ch
    · rw [if_pos c]
      have hlt := pkk_in c hch
      obtain ⟨n, rfl⟩ : ∃ n', n = n' + 1 := ⟨n - 1, by omega⟩
      rw [← h7] at c hlt ⊢
      have hblx := bls_le (t := t) (sz := sz) x (by omega)
      obtain ⟨e1, R1, hq⟩ := z_conn (t := t) (sz := sz) (gr := b2i (G0 || g)) (nu := nu) (pr := Int32.ofNat (cP W)) N n f hN hsz h8 (h9 (by omega)) (show x ≤ sz by omega) (show y ≤ 240 by omega) (show Y + 1 ≤ 240 by omega) (b := b) (w := w) (q := bls t sz x + 1) (by
        rcases hb with ⟨rfl, rfl, rfl⟩ | ⟨rfl, rfl, rfl⟩
        · exact Or.inl ⟨rfl, rfl, c, rfl⟩
        · exact Or.inr (Or.inl ⟨rfl, rfl, c, rfl⟩)) h10 h11 ht (by omega)
      rw [h1, e1]
      have hcO := cO_w hw W
      rw [← hcO] at R1 ⊢
      have au := hU n (N - 1) (bls t sz x + 1) 0 (Y + 1) (w :: W) (F :: s) _ _ _ _ _ _ _ _ nu (G0 || g) hq (by omega) (by omega) (by omega) (by omega) R1 (by rw [bn_w hw]; simp [hs]) (by rw [List.length_cons]; omega) (by rw [hcO]; exact hO) (by show tg w < lim; omega)
      rw [show N - 1 + 1 = N from by omega, cP_w hw11 W] at au
      obtain ⟨u1, u2⟩ := hok (bls t sz x + 1) hq
      cases hx : U (bls t sz x + 1) with
      | error e => rw [hx] at au; exact au
      | ok z =>
        obtain ⟨p3, G, h⟩ := z
        rw [hx] at au
        obtain ⟨v1, v2, v3, v4, v5⟩ := u2 p3 G h hx
        dsimp only at au ⊢
        obtain ⟨n2, f2, x2, y2, Y2, W2, s2, wt2, op2, pa2, ro2, ce2, sa2, lo2, wa2, nu2, wt3, op3, pa3, ro3, ce3, lo3, k1, k2, k3, k4, k5, k6, k7, k8, k9, k10, k11, k12⟩ := au
        obtain ⟨pa4, ro4, ce4, lo4, e4, R4⟩ := co_bin N hN hw67 k11
        have hE : EqS N b sa2 wa2 wt3 op3 pa3 ro3 ce3 lo3 (Int32.ofNat W.length) op3 pa4 ro4 ce4 lo4 := fun b' hb1 hb2 => co_pop N hN hb1 (by omega) k11 (by omega) e4 R4 (by simp [hs])
        have hml := mk_len w F G
        rw [fl2] at k12
        rw [List.length_cons] at k12
        have := row_c hN hsz hU hok hb hkq hlim hs hO ht G0 (RunA N n N sz t (bls t sz x + 1) 0 (Y + 1) (Int32.ofNat (W.length + 1)) (Int32.ofNat (cO (w :: W))) (Int32.ofNat (cP W)) (b2i (G0 || g)) pa' ro' ce' sa lo' (upd wa W.length w) nu) m p3 (mk w F G) (g || h) v2 (by omega) ⟨n2, f2, x2, y2, Y2, W2, s2, wt2, op2, pa2, ro2, ce2, sa2, lo2, wa2, nu2, _, _, _, _, _, _, by rw [k1, Bool.or_assoc], k2, k3, k4, k5, k6, k7, k8, fun _ => k9 (by show tg w < 4; omega), (k10.le hkq).tr hE, R4, by rw [fl1]; omega⟩
        exact this
    · rw [if_neg c]
      exact ⟨n, f, x, y, Y, W', s', wt, op, pa, ro, ce, sa, lo, wa, nu, wt', op', pa', ro', ce', lo', h1, h2, h3, h4, h5, by omega, by rw [h7, bls_bls], h8, h9, h10, h11, h12⟩
theorem rows_c (hN : 100000 ≤ N) (hsz : sz ≤ 240) {kq lim k : Nat} {U : Nat → PR} (hU : AOk N kq lim sz t k U) {wt0 : List (List Int32) → Nat} {Q : Nat → Prop} (hok : UOk sz wt0 Q U) {b : Nat} {w ch : Int32} (hb : (b = 3 ∧ w = 6 ∧ ch = 38) ∨ (b = 2 ∧ w = 7 ∧ ch = 124)) (hkq : b ≤ kq) (hlim : b < lim) : AOk N b b sz t k (sRows t sz ch w U) := by
  intro n f p y Y W s wt op pa ro ce sa lo wa nu G hp hy hY hf hn R hs hc hO ht
  have au := hU n f p y Y W s wt op pa ro ce sa lo wa nu G hp hy hY hf hn R hs hc hO (by omega)
  obtain ⟨u1, u2⟩ := hok p hp
  unfold sRows
  cases hx : U p with
  | error e => rw [hx] at au; exact au
  | ok z =>
    obtain ⟨p1, F, g⟩ := z
    rw [hx] at au
    obtain ⟨v1, v2, v3, v4, v5⟩ := u2 p1 F g hx
    exact row_c hN hsz hU hok hb hkq hlim hs hO ht G _ 241 p1 F g v2 (by omega) (ZRes.le au hkq)
theorem arr_c (hN : 100000 ≤ N) (hsz : sz ≤ 240) {k : Nat} {A : Nat → PR} (hA : AOk N 2 2 sz t k A) {Q : Nat → Prop} (hok : UOk sz wB Q A) (hQ : ∀ p, Q p → bls t sz p = p) : ∀ m, ∀ (n f p y Y : Nat) (W : List Int32) (s : List (List (List Int32))) (wt op pa ro : Int32) (ce sa lo wa : Nat → Int32) (nu : Nat → Int64) (G : Bool), sz < p + m → p ≤ sz → y ≤ p → Y ≤ p → f + 1 + y = N → n + 1 + Y = N → RS W s wt op pa ro ce sa lo wa → s.length = bn W → s.flatten.length + W.length ≤ p → cO W + k = 20 → tgs W < 2 → match sArr t sz A m p with
    | .error e => Out (RunA N n (f + 1) sz t p y Y wt op (Int32.ofNat (cP W)) (b2i G) pa ro ce sa lo wa nu) (Int32.ofNat e)
    | .ok (p', F, g) => ZRes N 1 sz t W s F p' (G || g) (Int32.ofNat (cP W)) (RunA N n (f + 1) sz t p y Y wt op (Int32.ofNat (cP W)) (b2i G) pa ro ce sa lo wa nu)
  | 0, n, f, p, y, Y, W, s, wt, op, pa, ro, ce, sa, lo, wa, nu, G, hm, hp, hy, hY, hf, hn, R, hs, hc, hO, ht => by omega
  | m + 1, n, f, p, y, Y, W, s, wt, op, pa, ro, ce, sa, lo, wa, nu, G, hm, hp, hy, hY, hf, hn, R, hs, hc, hO, ht => by
    have au := hA n f p y Y W s wt op pa ro ce sa lo wa nu G hp hy hY hf hn R hs hc hO ht
    obtain ⟨u1, u2⟩ := hok p hp
    unfold sArr
    cases hx : A p with
    | error e => rw [hx] at au; exact au
    | ok z =>
      obtain ⟨p1, F, g⟩ := z
      rw [hx] at au
      obtain ⟨v1, v2, v3, v4, v5⟩ := u2 p1 F g hx
      have hb1 := hQ p1 v5
      dsimp only at au ⊢
      obtain ⟨n, f, x, y, Y, W', s', wt, op, pa, ro, ce, sa, lo, wa, nu, wt', op', pa', ro', ce', lo', h1, h2, h3, h4, h5, h6, h7, h8, h9, h10, h11, h12⟩ := id au
      have hx1 : bls t sz x = p1 := by rw [h7, hb1]
      by_cases c : pk t sz p1 = 45
      · rw [if_pos c]
        have hlt := pkk_in c (by decide)
        by_cases c2 : pk t sz (p1 + 1) = 62
        · rw [if_pos c2]
          have hlt2 := pkk_in c2 (by decide)
          obtain ⟨n, rfl⟩ : ∃ n', n = n' + 1 := ⟨n - 1, by omega⟩
          obtain ⟨e1, R1, hq⟩ := z_conn (t := t) (sz := sz) (gr := b2i (G || g)) (nu := nu) (pr := Int32.ofNat (cP W)) N n f hN hsz h8 (h9 (by omega)) (show x ≤ sz by omega) (show y ≤ 240 by omega) (show Y + 1 ≤ 240 by omega) (b := 2) (w := 10) (q := p1 + 2) (by
            rw [hx1]; exact Or.inr (Or.inr ⟨rfl, rfl, c, c2, rfl⟩)) h10 h11 ht (by omega)
          rw [h1, e1]
          have hcO := cO_w (w := 10) (Or.inr (Or.inr rfl)) W
          rw [← hcO] at R1 ⊢
          have ih := arr_c hN hsz hA hok hQ m n (N - 1) (p1 + 2) 0 (Y + 1) (10 :: W) (F :: s) _ _ _ _ _ _ _ _ nu (G || g) (by omega) hq (by omega) (by omega) (by omega) (by omega) R1 (by rw [bn_w (Or.inr (Or.inr rfl))]; simp [hs]) (by rw [List.length_cons]; omega) (by rw [hcO]; exact hO) (by show tg 10 < 2; decide)
          rw [show N - 1 + 1 = N from by omega, cP_w (w := 10) (by decide) W] at ih
          cases hz : sArr t sz A m (p1 + 2) with
          | error e => rw [hz] at ih; exact ih
          | ok z =>
            obtain ⟨p3, H, h⟩ := z
            rw [hz] at ih
            dsimp only at ih ⊢
            obtain ⟨n2, f2, x2, y2, Y2, W2, s2, wt2, op2, pa2, ro2, ce2, sa2, lo2, wa2, nu2, wt3, op3, pa3, ro3, ce3, lo3, k1, k2, k3, k4, k5, k6, k7, k8, k9, k10, k11, k12⟩ := ih
            obtain ⟨pa4, ro4, ce4, lo4, e4, R4⟩ := co_arr N hN k11
            have htg10 : tg 10 = 1 := by decide
            have hE : EqS N 1 sa2 wa2 wt3 op3 pa3 ro3 ce3 lo3 (Int32.ofNat W.length) op3 pa4 ro4 ce4 lo4 := fun b' hb1 hb2 => co_pop N hN hb1 (by omega) k11 (by rw [htg10]; omega) e4 R4 (by simp [hs])
            have hml := mk_len 7 (ng F) H
            rw [ng_len] at hml
            rw [fl2] at k12
            rw [List.length_cons] at k12
            exact ⟨n2, f2, x2, y2, Y2, W2, s2, wt2, op2, pa2, ro2, ce2, sa2, lo2, wa2, nu2, _, _, _, _, _, _, by rw [k1, Bool.or_assoc], k2, k3, k4, k5, k6, k7, k8, fun _ => k9 (by show tg 10 < 4; decide), k10.tr hE, R4, by rw [fl1]; omega⟩
        · rw [if_neg c2, h1]
          have := z_minus (t := t) (sz := sz) (gr := b2i (G || g)) (nu := nu) (pr := Int32.ofNat (cP W)) (Y := Y) N n f hN hsz h8 (h9 (by omega)) (show x ≤ sz by omega) (show y ≤ 240 by omega) (by rw [hx1]; exact c) (by rw [hx1]; exact c2)
          rw [hx1] at this
          exact this
      · rw [if_neg c]
        exact ZRes.le au (by omega)
theorem form_c (hN : 100000 ≤ N) (hsz : sz ≤ 240) {k : Nat} {U : Nat → PR} (hU : AOk N 4 5 sz t k U) (hok : UOk sz wU (fun _ => True) U) : AOk N 1 2 sz t k (sForm t sz U) := by
  have k1 := rows_ok (t := t) hsz hok (fun F hF => (w_le hF).2.1) (k := 6) (ch := 38) (Or.inl rfl) (by decide)
  have k2 := rows_ok (t := t) hsz k1 (fun F hF => Nat.le_refl _) (k := 7) (ch := 124) (Or.inr rfl) (by decide)
  have a1 := rows_c hN hsz hU hok (b := 3) (w := 6) (ch := 38) (Or.inl ⟨rfl, rfl, rfl⟩) (by omega) (by omega)
  have a2 := rows_c hN hsz a1 k1 (b := 2) (w := 7) (ch := 124) (Or.inr ⟨rfl, rfl, rfl⟩) (by omega) (by omega)
  intro n f p y Y W s wt op pa ro ce sa lo wa nu G hp hy hY hf hn R hs hc hO ht
  exact arr_c hN hsz a2 k2 (fun p hp => by obtain ⟨_, p3, _, e⟩ := hp; rw [e, bls_bls]) 241 n f p y Y W s wt op pa ro ce sa lo wa nu G (by omega) hp hy hY hf hn R hs hc hO ht
theorem unit_leaf (hN : 100000 ≤ N) (hsz : sz ≤ 240) (n f p y Y : Nat) (W : List Int32) (s : List (List (List Int32))) (wt op pa ro : Int32) (ce sa lo wa : Nat → Int32) (nu : Nat → Int64) (G : Bool) (hp : p ≤ sz) (hy : y ≤ p) (hY : Y ≤ p) (hf : f + 1 + y = N) (hn : n + 1 + Y = N) (R : RS W s wt op pa ro ce sa lo wa) (hs : s.length = bn W) (hc : s.flatten.length + W.length ≤ p) (h : ¬ (pk t sz (bls t sz p) = 33 ∨ pk t sz (bls t sz p) = 69 ∨ pk t sz (bls t sz p) = 65 ∨ pk t sz (bls t sz p) = 40)) : match sLeaf t sz p with
    | .error e => Out (RunA N n (f + 1) sz t p y Y wt op (Int32.ofNat (cP W)) (b2i G) pa ro ce sa lo wa nu) (Int32.ofNat e)
    | .ok (p', F, g) => ZRes N 4 sz t W s F p' (G || g) (Int32.ofNat (cP W)) (RunA N n (f + 1) sz t p y Y wt op (Int32.ofNat (cP W)) (b2i G) pa ro ce sa lo wa nu) := by
  have ap := a_plain (t := t) (sz := sz) (nu := nu) (Y := Y) (pr := Int32.ofNat (cP W)) N n f hN hsz R hs hp (show y ≤ 240 by omega) h hc G
  have lok := leaf_ok (t := t) hsz p hp
  cases hx : sLeaf t sz p with
  | error e => rw [hx] at ap; exact ap
  | ok z =>
    obtain ⟨p', F, g⟩ := z
    rw [hx] at ap
    obtain ⟨l1, l2, l3, l4, _⟩ := lok.2 p' F g hx
    have hw := w_le l3
    obtain ⟨pa', ro', ce', sa', lo', nu', e, R'⟩ := ap
    exact ⟨n, N - 1, p', 0, Y, W, F :: s, wt, op, pa', ro', ce', sa', lo', wa, nu', _, _, _, _, _, _, by rw [e, show N - 1 + 1 = N from by omega], hn, by omega, by omega, by omega, Nat.le_refl _, rfl, R', fun g => g, EqS.rf, R', by rw [fl1]; omega⟩
theorem unit_c (hN : 100000 ≤ N) (hsz : sz ≤ 240) : ∀ k, AOk N 4 5 sz t k (sU t sz k)
  | 0 => by
    intro n f p y Y W s wt op pa ro ce sa lo wa nu G hp hy hY hf hn R hs hc hO ht
    unfold sU
    by_cases c : pk t sz (bls t sz p) = 33 ∨ pk t sz (bls t sz p) = 69 ∨ pk t sz (bls t sz p) = 65 ∨ pk t sz (bls t sz p) = 40
    · rw [if_pos c]
      exact a_full N n f hN hsz R hp (by omega) c (by omega)
    · rw [if_neg c]
      exact unit_leaf hN hsz n f p y Y W s wt op pa ro ce sa lo wa nu G hp hy hY hf hn R hs hc c
  | k + 1 => by
    intro n f p y Y W s wt op pa ro ce sa lo wa nu G hp hy hY hf hn R hs hc hO ht
    have hbl := bls_le (t := t) (sz := sz) p hp
    have ih := unit_c hN hsz k
    have uok := u_ok (t := t) hsz k
    obtain ⟨f, rfl⟩ : ∃ f', f = f' + 1 := ⟨f - 1, by omega⟩
    unfold sU
    by_cases c1 : pk t sz (bls t sz p) = 33
    · rw [if_pos c1]
      have hlt := pkk_in c1 (by decide)
      obtain ⟨e1, R1, hO1⟩ := a_not (t := t) (sz := sz) (gr := b2i G) (nu := nu) (Y := Y) (pr := Int32.ofNat (cP W)) N n (f + 1) hN hsz R hp (show y ≤ 240 by omega) c1 (by omega) hc
      rw [e1]
      have au := ih n f (bls t sz p + 1) (y + 1) Y (12 :: W) s _ _ _ _ _ _ _ _ nu G (by omega) (by omega) (by omega) (by omega) hn R1 (by rw [hs]; show bn W = (if (12 : Int32) = 6 ∨ (12 : Int32) = 7 ∨ (12 : Int32) = 10 then 1 else 0) + bn W; rw [if_neg (by decide)]; omega) (by rw [List.length_cons]; omega) (by omega) (by show tg 12 < 5; decide)
      rw [cP_w (w := 12) (by decide)] at au
      cases hx : sU t sz k (bls t sz p + 1) with
      | error e => rw [hx] at au; exact au
      | ok z =>
        obtain ⟨p2, F, g⟩ := z
        rw [hx] at au
        dsimp only at au ⊢
        obtain ⟨n2, f2, x2, y2, Y2, W2, s2, wt2, op2, pa2, ro2, ce2, sa2, lo2, wa2, nu2, wt3, op3, pa3, ro3, ce3, lo3, k1, k2, k3, k4, k5, k6, k7, k8, k9, k10, k11, k12⟩ := au
        obtain ⟨_, v2, _⟩ := (uok (bls t sz p + 1) (by omega)).2 p2 F g hx
        obtain ⟨op4, pa4, ro4, ce4, lo4, e4, R4⟩ := co_not N hN k11
        have hE : f_X2_carryOut N wt2 op2 pa2 ro2 ce2 2400 sa2 lo2 wa2 (Int32.ofNat 4) = f_X2_carryOut N (Int32.ofNat W.length) op4 pa4 ro4 ce4 2400 sa2 lo4 wa2 (Int32.ofNat 4) := (k10 4 (by omega) (by omega)).trans (co_pop N hN (by omega) (by omega) k11 (by decide) e4 R4 (by simp [hs]))
        rw [fl1] at k12
        rw [List.length_cons] at k12
        exact ⟨n2, f2, x2, y2, Y2, W, ng F :: s, _, _, _, _, _, sa2, _, wa2, nu2, _, _, _, _, _, _, by rw [k1, z_co N n2 f2 hE (by omega)], k2, k3, k4, k5, k6, k7, R4, fun g => g, EqS.rf, R4, by rw [fl1, ng_len]; omega⟩
    · rw [if_neg c1]
      by_cases c2 : pk t sz (bls t sz p) = 40
      · rw [if_pos c2]
        have hlt := pkk_in c2 (by decide)
        obtain ⟨e1, R1, hO1⟩ := a_par (t := t) (sz := sz) (gr := b2i G) (nu := nu) (Y := Y) N n (f + 1) hN hsz R hp (show y ≤ 240 by omega) c2 (by omega) hc
        rw [e1]
        have au := form_c hN hsz ih uok n f (bls t sz p + 1) (y + 1) Y (11 :: W) s _ _ _ _ _ _ _ _ nu G (by omega) (by omega) (by omega) (by omega) hn R1 (by rw [hs]; show bn W = (if (11 : Int32) = 6 ∨ (11 : Int32) = 7 ∨ (11 : Int32) = 10 then 1 else 0) + bn W; rw [if_neg (by decide)]; omega) (by rw [List.length_cons]; omega) (by omega) (by show tg 11 < 2; decide)
        cases hx : sForm t sz (sU t sz k) (bls t sz p + 1) with
        | error e => rw [hx] at au; exact au
        | ok z =>
          obtain ⟨p2, F, g⟩ := z
          rw [hx] at au
          obtain ⟨v1, v2, v3, v4, v5⟩ := (form_ok (t := t) hsz uok (bls t sz p + 1) (by omega)).2 p2 F g hx
          obtain ⟨w1, w2, w3, w4⟩ := v5
          dsimp only at au ⊢
          obtain ⟨n2, f2, x2, y2, Y2, W2, s2, wt2, op2, pa2, ro2, ce2, sa2, lo2, wa2, nu2, wt3, op3, pa3, ro3, ce3, lo3, k1, k2, k3, k4, k5, k6, k7, k8, k9, k10, k11, k12⟩ := au
          have ht2 : tgs W2 < 4 := k9 (by show tg 11 < 4; decide)
          have hP1 : cP (11 :: W) = 1 + cP W := by
            show (if (11 : Int32) = 11 then 1 else 0) + cP W = 1 + cP W
            rw [if_pos rfl]
          have hcap := k11.2.2.2.2.2
          have hcP : cP (11 :: W) ≤ (11 :: W).length := by
            clear k11 k12 hcap k10 k1 hP1 R1 e1
            generalize (11 : Int32) :: W = V
            induction V with
            | nil => exact Nat.le_refl _
            | cons w V ih2 =>
              show (if w = 11 then 1 else 0) + cP V ≤ V.length + 1
              split <;> omega
          by_cases c3 : pk t sz (bls t sz p2) = 41
          · rw [if_pos c3]
            have hlt3 := pkk_in c3 (by decide)
            obtain ⟨f2, rfl⟩ : ∃ f', f2 = f' + 1 := ⟨f2 - 1, by omega⟩
            obtain ⟨e5, R5⟩ := z_close (t := t) (sz := sz) (gr := b2i (G || g)) (nu := nu2) (Y := Y2) N n2 (f2 + 1) hN hsz k8 ht2 (show x2 ≤ sz by omega) (show y2 ≤ 240 by omega) (by rw [k7]; exact c3) k10 k11
            have hblx := bls_le (t := t) (sz := sz) x2 (by omega)
            rw [k7] at e5 hblx
            rw [List.length_cons] at k12
            exact ⟨n2, f2, bls t sz p2 + 1, y2 + 1, Y2, W, F :: s, _, _, _, _, _, sa2, _, wa2, nu2, _, _, _, _, _, _, by rw [k1, e5], k2, by omega, by omega, by omega, Nat.le_refl _, rfl, R5, fun g => g, EqS.rf, R5, by omega⟩
          · rw [if_neg c3, k1]
            have := z_fault (t := t) (sz := sz) (gr := b2i (G || g)) (nu := nu2) (Y := Y2) (k := cP (11 :: W)) N n2 f2 hN hsz k8 ht2 (show x2 ≤ sz by omega) (show y2 ≤ 240 by omega) (by omega) (by rw [k7, w1]; exact w2) (by rw [k7, w1]; exact w3) (by rw [k7, w1]; exact w4) (Or.inr (by rw [k7]; exact c3)) (Or.inr (by omega))
            rw [k7] at this
            exact this
      · rw [if_neg c2]
        by_cases c3 : pk t sz (bls t sz p) = 69 ∨ pk t sz (bls t sz p) = 65
        · rw [if_pos c3]
          have hlt : bls t sz p < sz := by rcases c3 with h | h <;> exact pkk_in h (by decide)
          have aq := a_qu (t := t) (sz := sz) (gr := b2i G) (nu := nu) (Y := Y) (pr := Int32.ofNat (cP W)) N n (f + 1) hN hsz R hp (show y ≤ 240 by omega) c3 (by omega) hc
          rcases aq with ⟨d1, ho⟩ | ⟨d1, d2, ho⟩ | ⟨d1, d2, w, hw, e1, R1, hO1⟩
          · rw [if_neg d1]; exact ho
          · rw [if_pos d1, if_neg d2]; exact ho
          · rw [if_pos d1, if_pos d2, e1]
            obtain ⟨_, v2⟩ := var_val d1
            have hk8 : (if pk t sz (bls t sz p) = 69 then (8 : Int32) else 9) = 8 ∨ (if pk t sz (bls t sz p) = 69 then (8 : Int32) else 9) = 9 := by split; exact Or.inl rfl; exact Or.inr rfl
            generalize (if pk t sz (bls t sz p) = 69 then (8 : Int32) else 9) = kk at *
            generalize hvv : vvl (pk t sz (bls t sz (bls t sz p + 1))) = vv at *
            have hb1 := bls_le (t := t) (sz := sz) (bls t sz p + 1) (by omega)
            have hlt2 := V_in d1
            have hb2 := bls_le (t := t) (sz := sz) (bls t sz (bls t sz p + 1) + 1) (by omega)
            have hlt3 := pkk_in d2 (by decide)
            generalize hq : bls t sz (bls t sz (bls t sz p + 1) + 1) = q at *
            have wk := (wq_kd hk8 v2).1
            have hnb : ¬ (w = 6 ∨ w = 7 ∨ w = 10) := by
              rw [hw]; rintro (g | g | g) <;> rw [g] at wk <;> rcases hk8 with h | h <;> rw [h] at wk <;> exact absurd wk (by decide)
            have hn11 : w ≠ 11 := by
              rw [hw]; intro g; rw [g] at wk; rcases hk8 with h | h <;> rw [h] at wk <;> exact absurd wk (by decide)
            have htg : tg w = 4 := by
              unfold tg; rw [hw, wk]
              rcases hk8 with h | h <;> rw [h] <;> decide
            have hbn : bn (w :: W) = bn W := by
              show (if w = 6 ∨ w = 7 ∨ w = 10 then 1 else 0) + bn W = bn W
              rw [if_neg hnb]; omega
            have au := ih n f (q + 1) (y + 1) Y (w :: W) s _ _ _ _ _ _ _ _ nu G (by omega) (by omega) (by omega) (by omega) hn R1 (by rw [hbn]; exact hs) (by rw [List.length_cons]; omega) (by omega) (by show tg w < 5; omega)
            rw [cP_w hn11] at au
            cases hx : sU t sz k (q + 1) with
            | error e => rw [hx] at au; exact au
            | ok z =>
              obtain ⟨p2, F, g⟩ := z
              rw [hx] at au
              dsimp only at au ⊢
              obtain ⟨n2, f2, x2, y2, Y2, W2, s2, wt2, op2, pa2, ro2, ce2, sa2, lo2, wa2, nu2, wt3, op3, pa3, ro3, ce3, lo3, k1, k2, k3, k4, k5, k6, k7, k8, k9, k10, k11, k12⟩ := au
              obtain ⟨_, v2', _⟩ := (uok (q + 1) (by omega)).2 p2 F g hx
              have k11' := k11
              rw [hw] at k11'
              obtain ⟨op4, pa4, ro4, ce4, lo4, e4, R4⟩ := co_qu N hN hk8 v2 k11'
              have hE : f_X2_carryOut N wt2 op2 pa2 ro2 ce2 2400 sa2 lo2 wa2 (Int32.ofNat 4) = f_X2_carryOut N (Int32.ofNat W.length) op4 pa4 ro4 ce4 2400 sa2 lo4 wa2 (Int32.ofNat 4) := (k10 4 (by omega) (by omega)).trans (co_pop N hN (by omega) (by omega) k11' (by rw [← hw]; omega) e4 R4 (by simp [hs]))
              have hbl2 := bq_len kk vv F
              rw [fl1] at k12
              rw [List.length_cons] at k12
              exact ⟨n2, f2, x2, y2, Y2, W, bq kk vv F :: s, _, _, _, _, _, sa2, _, wa2, nu2, _, _, _, _, _, _, by rw [k1, z_co N n2 f2 hE (by omega)], k2, k3, k4, k5, k6, k7, R4, fun g => g, EqS.rf, R4, by rw [fl1]; omega⟩
        · rw [if_neg c3]
          exact unit_leaf hN hsz n (f + 1) p y Y W s wt op pa ro ce sa lo wa nu G hp hy hY hf hn R hs hc (by rintro (g | g | g | g); exact c1 g; exact c3 (Or.inl g); exact c3 (Or.inr g); exact c2 g)
end MAIN
section CREAD
variable {t : Nat → Int32} {sz : Nat}
theorem c_parse (N : Nat) (hN : 100000 ≤ N) (hsz : sz ≤ 240) {pa ro : Int32} {ce sa lo : Nat → Int32} {st : List (List (List Int32))} (B : Be pa ro ce 2400 sa lo st) (w a o p g : Int32) (nu : Nat → Int64) (wa : Nat → Int32) : ∃ wt' at' op' pr' gr' pa' ro' ce' sa' lo' nu' wa', f_X2_parse N (Int32.ofNat sz) w a o p g t pa ro ce 2400 sa lo nu wa = some ((sRead t sz).1, wt', at', op', pr', gr', pa', ro', ce', sa', lo', nu', wa') ∧ (∃ st', Be pa' ro' ce' 2400 sa' lo' st') ∧ ∀ F, (sRead t sz).2 = some F → Be pa' ro' ce' 2400 sa' lo' [F] := by
  obtain ⟨e1, B1⟩ := b_begin (st' := []) B N
  have R : RS [] [] 0 0 0 0 ce sa lo wa := ⟨rfl, rfl, fun i hi => absurd hi (by simp), B1, fun w hw => absurd hw (by simp), by simp⟩
  have fc := form_c (t := t) (sz := sz) hN hsz (unit_c hN hsz 20) (u_ok hsz 20) (N - 1) (N - 1) 0 0 0 [] [] 0 0 0 0 ce sa lo wa nu false (by omega) (by omega) (by omega) (by omega) (by omega) R rfl (by simp) rfl (by show 0 < 2; omega)
  have fo := form_ok (t := t) hsz (u_ok (t := t) hsz 20) 0 (by omega)
  have ep : f_X2_parse N (Int32.ofNat sz) w a o p g t pa ro ce 2400 sa lo nu wa = RunA N (N - 1) (N - 1 + 1) sz t 0 0 0 0 0 (Int32.ofNat (cP [])) (b2i false) 0 0 ce sa lo wa nu := by
    unfold f_X2_parse
    rw [bd e1]
    dsimp only
    have := run_parse N (N - 1) sz t 0 0 0 0 0 0 0 0 ce sa lo wa nu (by omega)
    rw [show N - 1 + 1 = N from by omega] at this ⊢
    exact this
  rw [ep]
  have out : ∀ an, Out (RunA N (N - 1) (N - 1 + 1) sz t 0 0 0 0 0 (Int32.ofNat (cP [])) (b2i false) 0 0 ce sa lo wa nu) an → sRead t sz = (an, none) → ∃ wt' at' op' pr' gr' pa' ro' ce' sa' lo' nu' wa', RunA N (N - 1) (N - 1 + 1) sz t 0 0 0 0 0 (Int32.ofNat (cP [])) (b2i false) 0 0 ce sa lo wa nu = some ((sRead t sz).1, wt', at', op', pr', gr', pa', ro', ce', sa', lo', nu', wa') ∧ (∃ st', Be pa' ro' ce' 2400 sa' lo' st') ∧ ∀ F, (sRead t sz).2 = some F → Be pa' ro' ce' 2400 sa' lo' [F] := by
    intro an ho hr
    obtain ⟨wt, ap, op, pr, gr, pa, ro, ce, sa, lo, nu, wa, e, hb⟩ := ho
    rw [hr]
    exact ⟨_, _, _, _, _, _, _, _, _, _, _, _, e, hb, fun F h => (nomatch h)⟩
  cases hx : sForm t sz (sU t sz 20) 0 with
  | error e =>
    rw [hx] at fc
    exact out _ fc (by unfold sRead; rw [hx])
  | ok z =>
    obtain ⟨p1, F, g⟩ := z
    rw [hx] at fc
    obtain ⟨v1, v2, v3, v4, v5⟩ := fo.2 p1 F g hx
    obtain ⟨w1, w2, w3, w4⟩ := v5
    dsimp only at fc
    obtain ⟨n2, f2, x2, y2, Y2, W2, s2, wt2, op2, pa2, ro2, ce2, sa2, lo2, wa2, nu2, wt3, op3, pa3, ro3, ce3, lo3, k1, k2, k3, k4, k5, k6, k7, k8, k9, k10, k11, k12⟩ := fc
    have ht2 : tgs W2 < 4 := k9 (by show 0 < 4; omega)
    by_cases c : p1 < sz
    · have := z_fault (t := t) (sz := sz) (gr := b2i (false || g)) (nu := nu2) (Y := Y2) (k := 0) N n2 f2 hN hsz k8 ht2 (show x2 ≤ sz by omega) (show y2 ≤ 240 by omega) (by omega) (by rw [k7, w1]; exact w2) (by rw [k7, w1]; exact w3) (by rw [k7, w1]; exact w4) (Or.inl rfl) (Or.inl (by rw [k7, w1]; exact c))
      rw [k7, w1] at this
      refine out _ ?_ (by unfold sRead; rw [hx]; dsimp only; rw [if_pos c])
      rw [k1]; exact this
    · have hp1 : p1 = sz := by omega
      obtain ⟨wt'', ap, op'', pr, nu', wa', e, hb⟩ := z_fin (t := t) (sz := sz) (nu := nu2) (Y := Y2) N n2 f2 hN hsz k8 ht2 (show x2 ≤ sz by omega) (show y2 ≤ 240 by omega) (by rw [k7, w1, hp1]) k10 k11 (false || g)
      have er : sRead t sz = (if g then (-2, none) else (-1, some F)) := by
        unfold sRead; rw [hx]; dsimp only; rw [if_neg c]
      rw [k1]
      have e' : RunZ N n2 (f2 + 1) sz t x2 y2 Y2 wt2 op2 (Int32.ofNat (cP [])) (b2i (false || g)) pa2 ro2 ce2 sa2 lo2 wa2 nu2 = _ := e
      rw [e', er]
      cases g with
      | true => exact ⟨_, _, _, _, _, _, _, _, _, _, _, _, rfl, ⟨_, hb⟩, fun F h => (nomatch h)⟩
      | false => exact ⟨_, _, _, _, _, _, _, _, _, _, _, _, rfl, ⟨_, hb⟩, fun F' h => by injection h with h; subst h; exact hb⟩
theorem sRead_none (hsz : sz ≤ 240) : ((sRead t sz).1 = -1 ↔ ∃ F, (sRead t sz).2 = some F) := by
  have fo := form_ok (t := t) hsz (u_ok (t := t) hsz 20) 0 (by omega)
  have hne : ∀ n : Nat, n ≤ sz → ¬ (Int32.ofNat n = -1) := fun n hn => ne_m1 _ (by omega)
  unfold sRead
  cases hx : sForm t sz (sU t sz 20) 0 with
  | error e => exact ⟨fun h => absurd h (hne e (fo.1 e hx)), fun ⟨F, h⟩ => (nomatch h)⟩
  | ok z =>
    obtain ⟨p1, F, g⟩ := z
    obtain ⟨v1, v2, v3, v4, v5⟩ := fo.2 p1 F g hx
    dsimp only
    by_cases c : p1 < sz
    · rw [if_pos c]
      exact ⟨fun h => absurd h (hne p1 v2), fun ⟨F, h⟩ => (nomatch h)⟩
    · rw [if_neg c]
      cases g with
      | true => exact ⟨fun h => absurd (show (-2 : Int32) = -1 from h) (by decide), fun ⟨F, h⟩ => (nomatch h)⟩
      | false => exact ⟨fun _ => ⟨F, rfl⟩, fun _ => rfl⟩
theorem y_read (N : Nat) (hN : 110000 ≤ N) (hsz : sz ≤ 240) {pa ro : Int32} {ce sa lo : Nat → Int32} {st : List (List (List Int32))} (B : Be pa ro ce 2400 sa lo st) {fr : Int32} {fc : Nat → Int32} {F0 : List (List Int32)} (C : CF fr fc F0) (w a o p g : Int32) (nu : Nat → Int64) (wa : Nat → Int32) : ∃ los' wt' at' op' pr' gr' pa' ro' ce' sa' lo' nu' wa' fr' fc', f_X6_read N (fv F0) (Int32.ofNat sz) w a o p g t pa ro ce 2400 sa lo nu wa fr fc 4000 = some ((sRead t sz).1, los', wt', at', op', pr', gr', pa', ro', ce', sa', lo', nu', wa', fr', fc') ∧ (∃ st', Be pa' ro' ce' 2400 sa' lo' st') ∧ los' = fv ((sRead t sz).2.getD F0) ∧ CF fr' fc' ((sRead t sz).2.getD F0) := by
  obtain ⟨wt', at', op', pr', gr', pa', ro', ce', sa', lo', nu', wa', e, hb, hF⟩ := c_parse (t := t) N (by omega) hsz B w a o p g nu wa
  have hn := sRead_none (t := t) hsz
  unfold f_X6_read f_X6_read_24
  rw [bd e]
  dsimp only
  cases hx : (sRead t sz).2 with
  | none =>
    have hne : ¬ ((sRead t sz).1 = -1) := fun g => by obtain ⟨F, h⟩ := hn.mp g; rw [hx] at h; exact (nomatch h)
    rw [ifb_f hne]
    exact ⟨_, _, _, _, _, _, _, _, _, _, _, _, _, _, _, rfl, hb, rfl, C⟩
  | some F =>
    have h1 := hn.mpr ⟨F, hx⟩
    have hfi : FI F := read_fi (t := t) hsz (x := (sRead t sz).1) (by rw [← hx])
    obtain ⟨fc', e2, C'⟩ := y_become (hF F hx) hfi.2.1 N (fv F0) fr fc
    rw [ifb_t h1, bd e2]
    exact ⟨_, _, _, _, _, _, _, _, _, _, _, _, _, _, _, rfl, hb, rfl, C'⟩
end CREAD
