def By (x : Int32) : Prop := x.toInt8.toInt32 = x
def TX (t1 t2 : Nat → Int32) (sz : Nat) : Prop := sz ≤ 240 ∧ ∀ i, i < sz → t1 i = t2 i ∧ By (t2 i)
theorem nar_b (x : Int32) : vp_nar .byte x = x.toInt8.toInt32 := rfl
theorem by_8 (x : Int32) : By x.toInt8.toInt32 := by
  show x.toInt8.toInt32.toInt8.toInt32 = _
  rw [Int8.toInt8_toInt32]
theorem by_n (x : Int32) : By (vp_nar .byte x) := by rw [nar_b]; exact by_8 x
theorem nar_8 (x : Int32) : vp_nar .byte x.toInt8.toInt32 = x.toInt8.toInt32 := by rw [nar_b]; exact by_8 x
theorem by_62 {x : Int32} (h : By x) : x = 62 ↔ x &&& 255 = 62 := by
  have key : ∀ b : BitVec 8, ((Int8.ofBitVec b).toInt32 = 62 ↔ (Int8.ofBitVec b).toInt32 &&& 255 = 62) := by decide +kernel
  have e : x = (Int8.ofBitVec x.toInt8.toBitVec).toInt32 := h.symm
  rw [e]
  exact key _
theorem TX.tb {t1 t2 : Nat → Int32} {sz : Nat} (h : TX t1 t2 sz) : TB t2 sz := fun i hi => by_62 (h.2 i hi).2
theorem TX.read {t1 t2 : Nat → Int32} {sz : Nat} (h : TX t1 t2 sz) : sRead t1 sz = sRead t2 sz := sRead_ext (pk_ext (fun i hi => (h.2 i hi).1))
theorem TX.put {t1 t2 : Nat → Int32} {sz : Nat} (h : TX t1 t2 sz) (hs : sz < 240) {x : Int32} (hb : By x) : TX (upd t1 sz x) (upd t2 sz x) (sz + 1) := by
  refine ⟨by omega, fun i hi => ?_⟩
  by_cases c : i = sz
  · subst c; rw [upd_at, upd_at]; exact ⟨rfl, hb⟩
  · rw [upd_ne _ _ _ _ c, upd_ne _ _ _ _ c]; exact h.2 i (by omega)
theorem x2_take (N sz : Nat) (h : sz < 240) (t : Nat → Int32) (x : Int32) : f_X2_take N (Int32.ofNat sz) t x = some (Int32.ofNat (sz + 1), upd t sz (vp_nar .byte x)) := by
  unfold f_X2_take f_X2_take_30
  rw [ifb_f (by rw [show (240 : Int32) = Int32.ofNat 240 from rfl, i_le _ _ (by omega) (by omega)]; omega), ix_n _ _ _ h (by omega), i_cl _ (by omega), i_p1]
theorem sh_key (n : Nat) (hn : n + 8 ≤ 64) (b : BitVec 64) : ((b >>> n).signExtend 32).signExtend 8 = ((b.sshiftRight n).signExtend 32).signExtend 8 := by
  apply BitVec.eq_of_getLsbD_eq
  intro i hi
  simp only [BitVec.getLsbD_signExtend, BitVec.getLsbD_ushiftRight, BitVec.getLsbD_sshiftRight, if_pos (show i < 32 by omega), if_pos (show i < 64 by omega), if_pos (show n + i < 64 by omega), decide_eq_false (show ¬ (64 ≤ i) by omega), Bool.not_false, Bool.true_and]
theorem sh_k (y : Int64) (k : Nat) (hk : k < 8) : ((y.toUInt64 >>> ((8 * Int32.ofNat k).toInt64.toUInt64 &&& Int64.toUInt64 63)).toInt64).toInt32.toInt8 = (y >>> ((8 * Int32.ofNat k).toInt64 &&& 63)).toInt32.toInt8 := by
  apply Int8.toBitVec_inj.mp
  match k, hk with
  | 0, _ =>
    rw [show ((8 * Int32.ofNat 0).toInt64.toUInt64 &&& Int64.toUInt64 63) = (0 : UInt64) from by decide, show ((8 * Int32.ofNat 0).toInt64 &&& 63) = (0 : Int64) from by decide]
    exact sh_key 0 (by decide) y.toBitVec
  | 1, _ =>
    rw [show ((8 * Int32.ofNat 1).toInt64.toUInt64 &&& Int64.toUInt64 63) = (8 : UInt64) from by decide, show ((8 * Int32.ofNat 1).toInt64 &&& 63) = (8 : Int64) from by decide]
    exact sh_key 8 (by decide) y.toBitVec
  | 2, _ =>
    rw [show ((8 * Int32.ofNat 2).toInt64.toUInt64 &&& Int64.toUInt64 63) = (16 : UInt64) from by decide, show ((8 * Int32.ofNat 2).toInt64 &&& 63) = (16 : Int64) from by decide]
    exact sh_key 16 (by decide) y.toBitVec
  | 3, _ =>
    rw [show ((8 * Int32.ofNat 3).toInt64.toUInt64 &&& Int64.toUInt64 63) = (24 : UInt64) from by decide, show ((8 * Int32.ofNat 3).toInt64 &&& 63) = (24 : Int64) from by decide]
    exact sh_key 24 (by decide) y.toBitVec
  | 4, _ =>
    rw [show ((8 * Int32.ofNat 4).toInt64.toUInt64 &&& Int64.toUInt64 63) = (32 : UInt64) from by decide, show ((8 * Int32.ofNat 4).toInt64 &&& 63) = (32 : Int64) from by decide]
    exact sh_key 32 (by decide) y.toBitVec
  | 5, _ =>
    rw [show ((8 * Int32.ofNat 5).toInt64.toUInt64 &&& Int64.toUInt64 63) = (40 : UInt64) from by decide, show ((8 * Int32.ofNat 5).toInt64 &&& 63) = (40 : Int64) from by decide]
    exact sh_key 40 (by decide) y.toBitVec
  | 6, _ =>
    rw [show ((8 * Int32.ofNat 6).toInt64.toUInt64 &&& Int64.toUInt64 63) = (48 : UInt64) from by decide, show ((8 * Int32.ofNat 6).toInt64 &&& 63) = (48 : Int64) from by decide]
    exact sh_key 48 (by decide) y.toBitVec
  | 7, _ =>
    rw [show ((8 * Int32.ofNat 7).toInt64.toUInt64 &&& Int64.toUInt64 63) = (56 : UInt64) from by decide, show ((8 * Int32.ofNat 7).toInt64 &&& 63) = (56 : Int64) from by decide]
    exact sh_key 56 (by decide) y.toBitVec
theorem type_loop (N : Nat) (y : Int64) (n : Nat) (hn : n ≤ 8) (th : Int32) : ∀ (d m k sz : Nat) (t1 t2 : Nat → Int32), k + d = n → sz + d ≤ 240 → TX t1 t2 sz → ∃ t1' t2', f_X6_type_48 N (m + d + 1) (Int32.ofNat sz) t1 y (Int32.ofNat n) (Int32.ofNat k) = some (Int32.ofNat (sz + d), Int32.ofNat (sz + d), t1') ∧ f_X7_type_47 N (m + d + 1) th (Int32.ofNat sz) t2 y (Int32.ofNat n) (Int32.ofNat k) = some (Int32.ofNat (sz + d), th, Int32.ofNat (sz + d), t2') ∧ TX t1' t2' (sz + d)
  | 0, m, k, sz, t1, t2, hk, hs, h => by
    rw [f_X6_type_48, f_X7_type_47]; dsimp only
    rw [ifb_t (by rw [i_le _ _ (by omega) (by omega)]; omega), ifb_t (by rw [i_le _ _ (by omega) (by omega)]; omega)]
    exact ⟨t1, t2, rfl, rfl, h⟩
  | d + 1, m, k, sz, t1, t2, hk, hs, h => by
    rw [show m + (d + 1) + 1 = (m + d + 1) + 1 from by omega, f_X6_type_48, f_X7_type_47]; dsimp only
    rw [ifb_f (by rw [i_le _ _ (by omega) (by omega)]; omega), ifb_f (by rw [i_le _ _ (by omega) (by omega)]; omega), bd (x2_take N sz (by omega) t1 _), ix_n _ _ _ (show sz < 240 by omega) (by omega), i_cl _ (by omega), i_p1, i_p1, sh_k y k (by omega)]
    dsimp only
    obtain ⟨t1', t2', e1, e2, h'⟩ := type_loop N y n hn th d m (k + 1) (sz + 1) _ _ (by omega) (by omega) (h.put (by omega) (by_n ((y >>> ((8 * Int32.ofNat k).toInt64 &&& 63)).toInt32.toInt8.toInt32)))
    rw [show sz + 1 + d = sz + (d + 1) from by omega] at e1 e2 h'
    exact ⟨t1', t2', e1, e2, h'⟩
theorem i_of_nn {x : Int32} (h : ¬ (x < 0)) : ∃ n : Nat, n < 2147483648 ∧ x = Int32.ofNat n := by
  rw [Int32.lt_iff_toInt_lt, show (0 : Int32).toInt = 0 from rfl] at h
  have hb := Int32.toInt_lt x
  refine ⟨x.toInt.toNat, by omega, ?_⟩
  apply Int32.toInt_inj.mp
  rw [i_toInt _ (by omega)]; omega
theorem hh_type_1 {N : Nat} {l : Int32} {t : Nat → Int32} {p3 : Nat → Int64} {y : Int64} {x : Int32} (h : f_X6_type_I N y x = some ()) : hh_L_type N l t p3 y x = some (1, l, t, p3) := by
  unfold hh_L_type; simp only [h]
theorem hh_type_2 {N : Nat} {l : Int32} {t : Nat → Int32} {p3 : Nat → Int64} {y : Int64} {x : Int32} (h : f_X6_type_I N y x = none) (h2 : f_X6_type_U N l y x = some ()) : hh_L_type N l t p3 y x = some (2, l, t, p3) := by
  unfold hh_L_type; simp only [h, h2]
theorem hh_type_0 {N : Nat} {l : Int32} {t : Nat → Int32} {p3 : Nat → Int64} {y : Int64} {x : Int32} (h : f_X6_type_I N y x = none) (h2 : f_X6_type_U N l y x = none) : hh_L_type N l t p3 y x = f_L_type N l t p3 y x := by
  unfold hh_L_type; simp only [h, h2]
theorem lb_type (N : Nat) (hN : 20 ≤ N) {sz : Nat} {t1 t2 : Nat → Int32} (h : TX t1 t2 sz) (p3 : Nat → Int64) (y : Int64) (x : Int32) (th : Int32) : ∃ k sz' t1' t2' p3' b, hh_L_type N (Int32.ofNat sz) t1 p3 y x = some (k, Int32.ofNat sz', t1', p3') ∧ f_X7_type N th (Int32.ofNat sz) t2 y x = some (b, k, Int32.ofNat sz', t2') ∧ TX t1' t2' sz' ∧ (k = 0 → p3' 0 = b.toInt64) := by
  have hs := h.1
  by_cases c1 : x < 0
  · have e1 : f_X6_type_I N y x = some () := by unfold f_X6_type_I f_X6_type_I_10; rw [ifb_t c1]
    have e2 : f_X7_type N th (Int32.ofNat sz) t2 y x = some (0, 1, Int32.ofNat sz, t2) := by
      unfold f_X7_type f_X7_type_11 f_X7_type_32; rw [ifb_t c1, ifb_f (by decide)]
    exact ⟨1, sz, t1, t2, p3, 0, hh_type_1 e1, e2, h, fun e => absurd e (by decide)⟩
  · by_cases c2 : x ≤ 8
    · have e1 : f_X6_type_I N y x = none := by unfold f_X6_type_I f_X6_type_I_10; rw [ifb_f c1, ifb_t c2]
      obtain ⟨n, hn0, rfl⟩ := i_of_nn c1
      have hn : n ≤ 8 := by rw [show (8 : Int32) = Int32.ofNat 8 from rfl, i_le _ _ (by omega) (by omega)] at c2; exact c2
      by_cases c3 : sz + n ≤ 240
      · have c4 : Int32.ofNat sz + Int32.ofNat n ≤ 240 := by rw [i_add, show (240 : Int32) = Int32.ofNat 240 from rfl, i_le _ _ (by omega) (by omega)]; exact c3
        have e2 : f_X6_type_U N (Int32.ofNat sz) y (Int32.ofNat n) = none := by unfold f_X6_type_U; rw [ifb_f c1, ifb_t c2, ifb_t c4]
        obtain ⟨t1', t2', g1, g2, h'⟩ := type_loop N y n hn 0 n (N - n - 1) 0 sz t1 t2 (by omega) (by omega) h
        rw [show N - n - 1 + n + 1 = N from by omega] at g1 g2
        have e3 : f_X6_type N (Int32.ofNat sz) t1 y (Int32.ofNat n) = some (Int32.ofNat (sz + n), Int32.ofNat (sz + n), t1') := by
          unfold f_X6_type; rw [ifb_f c1, ifb_t c2, ifb_t c4]; exact g1
        have e4 : f_X7_type N th (Int32.ofNat sz) t2 y (Int32.ofNat n) = some (Int32.ofNat (sz + n), 0, Int32.ofNat (sz + n), t2') := by
          unfold f_X7_type f_X7_type_32; rw [ifb_f c1, ifb_t c2, ifb_t c4, ifb_t (by decide)]; exact g2
        refine ⟨0, sz + n, t1', t2', vp_updL p3 (0 : Int32).toNatClampNeg (Int32.ofNat (sz + n)).toInt64, Int32.ofNat (sz + n), ?_, e4, h', fun _ => rfl⟩
        rw [hh_type_0 e1 e2]
        unfold f_L_type
        rw [bd e3]
        rfl
      · have c4 : ¬ (Int32.ofNat sz + Int32.ofNat n ≤ 240) := by rw [i_add, show (240 : Int32) = Int32.ofNat 240 from rfl, i_le _ _ (by omega) (by omega)]; exact c3
        have e2 : f_X6_type_U N (Int32.ofNat sz) y (Int32.ofNat n) = some () := by unfold f_X6_type_U; rw [ifb_f c1, ifb_t c2, ifb_f c4]
        have e4 : f_X7_type N th (Int32.ofNat sz) t2 y (Int32.ofNat n) = some (0, 2, Int32.ofNat sz, t2) := by
          unfold f_X7_type f_X7_type_32; rw [ifb_f c1, ifb_t c2, ifb_f c4, ifb_f (by decide)]
        exact ⟨2, sz, t1, t2, p3, 0, hh_type_2 e1 e2, e4, h, fun e => absurd e (by decide)⟩
    · have e1 : f_X6_type_I N y x = some () := by unfold f_X6_type_I f_X6_type_I_10; rw [ifb_f c1, ifb_f c2]
      have e2 : f_X7_type N th (Int32.ofNat sz) t2 y x = some (0, 1, Int32.ofNat sz, t2) := by
        unfold f_X7_type f_X7_type_11 f_X7_type_32; rw [ifb_f c1, ifb_f c2, ifb_f (by decide)]
      exact ⟨1, sz, t1, t2, p3, 0, hh_type_1 e1, e2, h, fun e => absurd e (by decide)⟩
theorem hh_value_1 {N : Nat} {ab be : Nat → Int32} {x1 x2 x3 : Int32} (h : f_X6_value_I N x1 x2 x3 = some ()) : hh_L_value N ab be x1 x2 x3 = some (1, ab, be) := by
  unfold hh_L_value; simp only [h]
theorem hh_value_0 {N : Nat} {ab be : Nat → Int32} {x1 x2 x3 : Int32} (h : f_X6_value_I N x1 x2 x3 = none) : hh_L_value N ab be x1 x2 x3 = f_L_value N ab be x1 x2 x3 := by
  unfold hh_L_value; simp only [h]
theorem x7_value_1 {N : Nat} {ab be : Nat → Int32} {x1 x2 x3 th : Int32} : f_X7_value_34 N th ab be x1 x2 x3 = some (1, ab, be) := by
  unfold f_X7_value_34 f_X7_value_39 f_X7_value_63; rw [ifb_f (by decide)]
theorem i_lt_le {x y : Int32} : ¬ (x ≤ y) ↔ y < x := by rw [Int32.le_iff_toInt_le, Int32.lt_iff_toInt_lt]; omega
theorem lb_value (N : Nat) {ab be : Nat → Int32} (V : Vl ab be) (x1 x2 x3 th : Int32) : ∃ k ab' be', hh_L_value N ab be x1 x2 x3 = some (k, ab', be') ∧ f_X7_value N th ab be x1 x2 x3 = some (k, ab', be') ∧ Vl ab' be' := by
  have bad : f_X6_value_I N x1 x2 x3 = some () → f_X7_value N th ab be x1 x2 x3 = some (1, ab, be) → ∃ k ab' be', hh_L_value N ab be x1 x2 x3 = some (k, ab', be') ∧ f_X7_value N th ab be x1 x2 x3 = some (k, ab', be') ∧ Vl ab' be' := fun e1 e2 => ⟨1, ab, be, hh_value_1 e1, e2, V⟩
  by_cases c1 : x1 < 0
  · exact bad (by unfold f_X6_value_I f_X6_value_I_10; rw [ifb_t c1]) (by unfold f_X7_value; rw [ifb_t c1, x7_value_1])
  by_cases c2 : x1 < 8
  · have d2 : ¬ (7 < x1) := by
      rw [Int32.lt_iff_toInt_lt] at c2 ⊢
      rw [show (8 : Int32).toInt = 8 from rfl] at c2
      rw [show (7 : Int32).toInt = 7 from rfl]; omega
    by_cases c3 : x2 < -99
    · exact bad (by unfold f_X6_value_I f_X6_value_I_32; rw [ifb_f c1, ifb_t c2, ifb_t c3]) (by unfold f_X7_value; rw [ifb_f c1, ifb_f d2, ifb_t c3, x7_value_1])
    by_cases c4 : x2 ≤ 99
    · have d4 : ¬ (99 < x2) := fun g => (i_lt_le.mpr g) c4
      by_cases c5 : x3 < 1
      · exact bad (by unfold f_X6_value_I f_X6_value_I_53; rw [ifb_f c1, ifb_t c2, ifb_f c3, ifb_t c4, ifb_t c5]) (by unfold f_X7_value; rw [ifb_f c1, ifb_f d2, ifb_f c3, ifb_f d4, ifb_t c5, x7_value_1])
      by_cases c6 : x3 ≤ 9
      · obtain ⟨v, hv0, rfl⟩ := i_of_nn c1
        have hv : v < 8 := by rw [show (8 : Int32) = Int32.ofNat 8 from rfl, i_lt _ _ (by omega) (by omega)] at c2; exact c2
        have e1 : f_X6_value_I N (Int32.ofNat v) x2 x3 = none := by unfold f_X6_value_I; rw [ifb_f c1, ifb_t c2, ifb_f c3, ifb_t c4, ifb_f c5, ifb_t c6]
        have e2 : f_X6_value N ab be (Int32.ofNat v) x2 x3 = some (upd ab v x2, upd be v x3) := by
          unfold f_X6_value
          rw [ifb_f c1, ifb_t c2, ifb_f c3, ifb_t c4, ifb_f c5, ifb_t c6, ix_n _ _ _ hv (by omega), ix_n _ _ _ hv (by omega), i_cl _ (by omega)]
        have e3 : f_X7_value N th ab be (Int32.ofNat v) x2 x3 = some (0, upd ab v x2, upd be v x3) := by
          unfold f_X7_value f_X7_value_39 f_X7_value_63
          rw [ifb_f c1, ifb_f d2, ifb_f c3, ifb_f d4, ifb_f c5, ifb_t c6, ifb_t rfl, ix_n _ _ _ hv (by omega), ix_n _ _ _ hv (by omega), i_cl _ (by omega)]
        refine ⟨0, upd ab v x2, upd be v x3, ?_, e3, fun w hw => ?_⟩
        · rw [hh_value_0 e1]; unfold f_L_value; rw [bd e2]
        rw [Int32.lt_iff_toInt_lt] at c3 c5
        rw [Int32.le_iff_toInt_le] at c4 c6
        rw [show (-99 : Int32).toInt = -99 from rfl] at c3
        rw [show (99 : Int32).toInt = 99 from rfl] at c4
        rw [show (1 : Int32).toInt = 1 from rfl] at c5
        rw [show (9 : Int32).toInt = 9 from rfl] at c6
        by_cases c : w = v
        · subst c; rw [upd_at, upd_at]; omega
        · rw [upd_ne _ _ _ _ c, upd_ne _ _ _ _ c]; exact V w hw
      · exact bad (by unfold f_X6_value_I f_X6_value_I_53; rw [ifb_f c1, ifb_t c2, ifb_f c3, ifb_t c4, ifb_f c5, ifb_f c6]) (by unfold f_X7_value; rw [ifb_f c1, ifb_f d2, ifb_f c3, ifb_f d4, ifb_f c5, ifb_f c6, x7_value_1])
    · exact bad (by unfold f_X6_value_I f_X6_value_I_32; rw [ifb_f c1, ifb_t c2, ifb_f c3, ifb_f c4]) (by unfold f_X7_value; rw [ifb_f c1, ifb_f d2, ifb_f c3, ifb_t (i_lt_le.mp c4), x7_value_1])
  · have d2 : 7 < x1 := by
      rw [Int32.lt_iff_toInt_lt] at c2 ⊢
      rw [show (8 : Int32).toInt = 8 from rfl] at c2
      rw [show (7 : Int32).toInt = 7 from rfl]; omega
    exact bad (by unfold f_X6_value_I f_X6_value_I_10; rw [ifb_f c1, ifb_f c2]) (by unfold f_X7_value; rw [ifb_f c1, ifb_t d2, x7_value_1])
