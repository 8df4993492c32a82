section LAWM
variable {u : Nat} {ki le ri ma bi ro ta rs : Nat → Int32} {F : List (List Int32)}
theorem RefS.root (S : RefS u ki le ri ma bi ro ta rs F) : ∃ x, x < u ∧ x < 24000 ∧ rs 0 = Int32.ofNat x ∧ dn ki le ri ro x = F := by
  obtain ⟨P, x, R, hd⟩ := S
  have h1 : x < u := R.2.2 x (by simp)
  have h2 := P.1.2.1
  exact ⟨x, h1, by omega, R.2.1 0 (by simp), hd⟩
theorem x0_c : (0 : Int32).toNatClampNeg = 0 := rfl
theorem ix_0 {α : Type} (k : Option α) : ix 0 2000 k = k := ix_n 0 2000 k (by omega) (by omega)
theorem o_write7 (N : Nat) (hN : 20 ≤ N) (S : RefS u ki le ri ma bi ro ta rs F) (h4 : F.length ≤ 400) (th os : Int32) (ou : Nat → Int32) : ∃ ke', f_X7_write N th os ki le ri ro rs ou = some (Int32.ofNat (txt F).length, 0, Int32.ofNat (txt F).length, ke') ∧ Ou (Int32.ofNat (txt F).length) ke' (txt F) := by
  obtain ⟨x, h1, h2, h3, hd⟩ := S.root
  obtain ⟨o', ke', e, O⟩ := o_sayAll N hN S.1.1 450 x 0 ou [] h1 (by rw [hd]; omega) ⟨rfl, by simp, fun i hi => absurd hi (by simp)⟩ (by rw [hd]; simp; omega)
  rw [hd, List.nil_append] at O
  have ho := O.1
  subst ho
  refine ⟨ke', ?_, O⟩
  unfold f_X7_write f_X7_sayAll
  rw [ix_0, x0_c, h3, bd e]
theorem lb_write (N : Nat) (hN : 4000 ≤ N) (S : RefS u ki le ri ma bi ro ta rs F) {fr : Int32} {fc : Nat → Int32} (C : CF fr fc F) (sl sw : Int32) (sk sp wo : Nat → Int32) (th os : Int32) (ou : Nat → Int32) : ∃ m wk' k1 sp' wo' k2, f_X6_write N sl sw sk sp wo fr fc 4000 = some (m, m, wk', k1, sp', wo') ∧ f_X7_write N th os ki le ri ro rs ou = some (m, 0, m, k2) ∧ OU2 m k1 k2 := by
  obtain ⟨le', wk', ke', sp', wo', e1, O1⟩ := y_write N hN C sl sw sk sp wo
  obtain ⟨k2, e2, O2⟩ := o_write7 N (by omega) S C.2.2 th os ou
  have h := O1.1
  subst h
  exact ⟨_, wk', ke', sp', wo', k2, e1, e2, txt F, O1, O2⟩
theorem lb_free (S : RefS u ki le ri ma bi ro ta rs F) (N : Nat) (th : Int32) : f_X6_free N (fv F) = some (fv F) ∧ f_X7_free N th bi rs = some (fv F, 0) := by
  obtain ⟨x, h1, h2, h3, hd⟩ := S.root
  refine ⟨rfl, ?_⟩
  unfold f_X7_free
  rw [ix_0, x0_c, h3, ix_n _ _ _ h2 (by omega), i_cl _ (by omega), (S.1.2.2 x h1).2.1, hd]
theorem o_cnt7 (S : RefS u ki le ri ma bi ro ta rs F) (h4 : F.length ≤ 400) (N : Nat) {w : Nat} (hw : w = 1 ∨ w = 2 ∨ w = 3) : f_X7_count N ki le ri (rs 0) (Int32.ofNat w) = some (Int32.ofNat (cv w F)) := by
  obtain ⟨x, h1, h2, h3, hd⟩ := S.root
  have := o_count N S.1.1 hw 450 x h1 (by rw [hd]; omega) (by rw [hd]; omega)
  rw [hd] at this
  unfold f_X7_count
  rw [h3]; exact this
theorem o_holds7 (N : Nat) (hN : 20 ≤ N) (S : RefS u ki le ri ma bi ro ta rs F) (hF : Fm F) (h4 : F.length ≤ 400) {ab be : Nat → Int32} (V : Vl ab be) (th : Int32) : (Qf F → f_X7_holds N th ki le ri ro rs ab be = some (ev ab be F, 0)) ∧ (¬ Qf F → f_X7_holds N th ki le ri ro rs ab be = some (0, 1)) := by
  obtain ⟨x, h1, h2, h3, hd⟩ := S.root
  have hc := o_cnt7 S h4 N (w := 2) (Or.inr (Or.inl rfl))
  have hcv : cv 2 F = kin F 8 9 := rfl
  have hk2 : kin F 8 9 ≤ F.length := List.countP_le_length
  have e0 : f_X7_count N ki le ri (rs (0 : Int32).toNatClampNeg) 2 = some (Int32.ofNat (kin F 8 9)) := hc
  constructor
  · intro q
    rw [(kin0 hF).mpr q] at e0
    have ei := o_isTrue7 N hN S.1.1 V 450 x h1 (by rw [hd]; omega) (by rw [hd]; exact q)
    rw [hd] at ei
    have ei2 : f_X7_isTrue N ki le ri ro ab be (rs (0 : Int32).toNatClampNeg) = some (ev ab be F) := by
      unfold f_X7_isTrue; rw [x0_c, h3]; exact ei
    unfold f_X7_holds f_X7_holds_20 f_X7_holds_52
    rw [ix_0, bd e0, ifb_t (by decide), ifb_t (by decide), ix_0, bd ei2]
    rcases ev01 (ab := ab) (be := be) hF q with g | g
    · rw [g, ifb_t rfl]
    · rw [g, ifb_f (by decide)]
  · intro q
    have hc0 : kin F 8 9 ≠ 0 := fun g => q ((kin0 hF).mp g)
    unfold f_X7_holds f_X7_holds_20 f_X7_holds_52
    rw [ix_0, bd e0, ifb_f (by rw [show (0 : Int32) = Int32.ofNat 0 from rfl, i_le _ _ (by omega) (by omega)]; omega), ifb_f (by decide)]
theorem lb_holds (N : Nat) (hN : 1000 ≤ N) (S : RefS u ki le ri ma bi ro ta rs F) {fr : Int32} {fc : Nat → Int32} (C : CF fr fc F) {ab be : Nat → Int32} (V : Vl ab be) (sp fo : Nat → Int32) (p3 : Nat → Int64) (th : Int32) : ∃ k sp' fo' p3' b, hh_L_holds N fr fc 4000 ab be sp fo p3 = some (k, sp', fo', p3') ∧ f_X7_holds N th ki le ri ro rs ab be = some (b, k) ∧ (k = 0 → p3' 0 = b.toInt64) := by
  have R := o_holds7 N (by omega) S C.2.1 C.2.2 V th
  rcases Classical.em (Qf F) with q | q
  · obtain ⟨e1, sp', fo', e2⟩ := y_holds N hN C V sp fo q
    refine ⟨0, sp', fo', vp_updL p3 (0 : Int32).toNatClampNeg (ev ab be F).toInt64, _, ?_, R.1 q, fun _ => rfl⟩
    unfold hh_L_holds
    simp only [e1]
    unfold f_L_holds
    rw [bd e2]
    rfl
  · have e1 := y_holds_S N hN C q
    refine ⟨1, sp, fo, p3, 0, ?_, R.2 q, fun e => absurd e (by decide)⟩
    unfold hh_L_holds
    simp only [e1]
end LAWM
section DEPTH
variable {r1 : Int32} {c1 : Nat → Int32} {n1 : Nat} {l : List (List Int32)} {sp : Nat → Int32}
theorem dp_130 {K : Int32 → (Nat → Int32) → Nat → (Nat → Int32) → (Nat → Int32) → Int32 → Int32 → Option (Int32 × (Nat → Int32) × (Nat → Int32))} {y1 : Int32} {k : Nat} (N : Nat) (HK : ∀ fo, ∃ z fo', K r1 c1 n1 sp fo y1 (Int32.ofNat k + 1) = some (z, sp, fo')) (hk : k < 400) (fo : Nat → Int32) (a b c : Int32) : ∃ z fo', f_X6_depth_130 K N r1 c1 n1 sp fo y1 (Int32.ofNat k) (Int32.ofNat k) a b c = some (z, sp, fo') := by
  unfold f_X6_depth_130
  rw [ix_n _ _ _ hk (by omega)]
  exact HK _
theorem dp_104 {K : Int32 → (Nat → Int32) → Nat → (Nat → Int32) → (Nat → Int32) → Int32 → Int32 → Option (Int32 × (Nat → Int32) × (Nat → Int32))} {y1 : Int32} {k : Nat} (N : Nat) (HK : ∀ fo, ∃ z fo', K r1 c1 n1 sp fo y1 (Int32.ofNat k + 1) = some (z, sp, fo')) (hk : k < 400) (fo : Nat → Int32) {y5 : Int32} (h5 : y5 < 0 ∨ ∃ j : Nat, j < 400 ∧ y5 = Int32.ofNat j) (s : Int32) : ∃ z fo', f_X6_depth_104 K N r1 c1 n1 sp fo y1 (Int32.ofNat k) y5 s = some (z, sp, fo') := by
  unfold f_X6_depth_104
  rcases h5 with h | ⟨j, hj, rfl⟩
  · rw [ifb_t h]; exact dp_130 N HK hk fo _ _ _
  · rw [ifb_f (i_nn _ (by omega)), ix_n _ _ _ hj (by omega)]; exact dp_130 N HK hk fo _ _ _
theorem dp_80 {K : Int32 → (Nat → Int32) → Nat → (Nat → Int32) → (Nat → Int32) → Int32 → Int32 → Option (Int32 × (Nat → Int32) × (Nat → Int32))} {y1 : Int32} {k : Nat} (N : Nat) (HK : ∀ fo, ∃ z fo', K r1 c1 n1 sp fo y1 (Int32.ofNat k + 1) = some (z, sp, fo')) (hk : k < 400) (fo : Nat → Int32) {y5 : Int32} (h5 : y5 < 0 ∨ ∃ j : Nat, j < 400 ∧ y5 = Int32.ofNat j) {y4 : Int32} (h4 : y4 < 0 ∨ ∃ j : Nat, j < 400 ∧ y4 = Int32.ofNat j) (y3 : Int32) : ∃ z fo', f_X6_depth_80 K N r1 c1 n1 sp fo y1 (Int32.ofNat k) y3 y4 y5 = some (z, sp, fo') := by
  unfold f_X6_depth_80 f_X6_depth_103
  by_cases c : y3 < 6
  · rw [ifb_t c]; exact dp_104 N HK hk fo h5 _
  · rw [ifb_f c]
    rcases h4 with h | ⟨j, hj, rfl⟩
    · rw [ifb_t h]; exact dp_104 N HK hk fo h5 _
    · rw [ifb_f (i_nn _ (by omega)), ix_n _ _ _ hj (by omega)]; exact dp_104 N HK hk fo h5 _
theorem k_m1 (k : Nat) (hk : k ≤ 400) : (Int32.ofNat k - 1) < 0 ∨ ∃ j : Nat, j < 400 ∧ Int32.ofNat k - 1 = Int32.ofNat j := by
  by_cases h : k = 0
  · subst h; left; decide
  · right; exact ⟨k - 1, by omega, i_m1 _ (by omega)⟩
theorem dp_loop (T : Tr r1 c1 n1 l) (F : Fm l) (h400 : l.length ≤ 400) (N : Nat) (hsp : Spk sp l l.length) : ∀ (d m k : Nat) (fo : Nat → Int32), k + d = l.length → ∃ z fo', f_X6_depth_27 N (m + d + 1) r1 c1 n1 sp fo (Int32.ofNat l.length) (Int32.ofNat k) = some (z, sp, fo')
  | 0, m, k, fo, hk => by
    have hpos := F.pos
    rw [f_X6_depth_27]; dsimp only
    unfold f_X6_depth_157
    rw [ifb_t (by rw [i_le _ _ (by omega) (by omega)]; omega), ifb_f (by rw [show (0 : Int32) = Int32.ofNat 0 from rfl, i_le _ _ (by omega) (by omega)]; omega), i_m1 _ (by omega), ix_n _ _ _ (by omega) (by omega)]
    exact ⟨_, _, rfl⟩
  | d + 1, m, k, fo, hk => by
    have hkl : k < l.length := by omega
    rw [show m + (d + 1) + 1 = (m + d + 1) + 1 from by omega, f_X6_depth_27]; dsimp only
    rw [ifb_f (by rw [i_le _ _ (by omega) (by omega)]; omega), bd (t_kind T N k hkl)]
    have HK : ∀ fo, ∃ z fo', f_X6_depth_27 N (m + d + 1) r1 c1 n1 sp fo (Int32.ofNat l.length) (Int32.ofNat k + 1) = some (z, sp, fo') := fun fo => by
      rw [i_p1]; exact dp_loop T F h400 N hsp d m (k + 1) fo (by omega)
    have h4 := k_m1 k (by omega)
    have m1 : (-1 : Int32) < 0 ∨ ∃ j : Nat, j < 400 ∧ (-1 : Int32) = Int32.ofNat j := Or.inl (by decide)
    have g58 : ∀ y3 : Int32, ∃ z fo', f_X6_depth_58 (f_X6_depth_27 N (m + d + 1)) N r1 c1 n1 sp fo (Int32.ofNat l.length) (Int32.ofNat k) y3 (Int32.ofNat k - 1) = some (z, sp, fo') := by
      intro y3
      unfold f_X6_depth_58
      by_cases h : k = 0
      · subst h
        rw [ifb_t (by decide)]
        exact dp_80 N HK (by omega) fo m1 h4 y3
      · obtain ⟨pre, f, post, e, hf, hp⟩ := F.sub (k - 1) (by omega)
        have hl : pre.length + f.length ≤ l.length := by rw [e]; simp
        have := hsp pre f post e hf hl
        rw [show pre.length + f.length - 1 = k - 1 from by omega] at this
        rw [i_m1 k (by omega)] at h4 ⊢
        rw [ifb_f (i_nn _ (by omega)), ix_n _ _ _ (by omega) (by omega), i_cl _ (by omega), this]
        exact dp_80 N HK (by omega) fo (k_m1 pre.length (by omega)) h4 y3
    by_cases c6 : lc l k 0 = 6
    · rw [ifb_t c6]; exact g58 _
    · rw [ifb_f c6]
      by_cases c7 : lc l k 0 = 7
      · rw [ifb_t c7]; exact g58 _
      · rw [ifb_f c7]; exact dp_80 N HK (by omega) fo m1 h4 _
end DEPTH
theorem x_depth (N : Nat) (hN : 1000 ≤ N) {fr : Int32} {fc : Nat → Int32} {F : List (List Int32)} (C : CF fr fc F) (sp fo : Nat → Int32) : ∃ z sp' fo', f_X6_depth N fr fc 4000 sp fo = some (z, sp', fo') := by
  obtain ⟨T, hF, h4⟩ := C
  obtain ⟨sp', e1, hsp⟩ := t_measure T hF h4 N (by omega) sp
  obtain ⟨z, fo', e2⟩ := dp_loop T hF h4 N hsp F.length (N - F.length - 1) 0 fo (by omega)
  rw [show N - F.length - 1 + F.length + 1 = N from by omega] at e2
  unfold f_X6_depth
  rw [bd e1]
  have hr := T.1
  subst hr
  rw [jmin400 _ h4]
  exact ⟨z, sp', fo', e2⟩
theorem six {x : Int32} (h : ¬ (x.toInt < 0 ∨ 5 < x.toInt)) : x = 0 ∨ x = 1 ∨ x = 2 ∨ x = 3 ∨ x = 4 ∨ x = 5 := by
  have e : ∀ n : Int32, x.toInt = n.toInt → x = n := fun n h => Int32.toInt_inj.mp h
  have : x.toInt = 0 ∨ x.toInt = 1 ∨ x.toInt = 2 ∨ x.toInt = 3 ∨ x.toInt = 4 ∨ x.toInt = 5 := by omega
  rcases this with g | g | g | g | g | g
  · exact Or.inl (e 0 g)
  · exact Or.inr (Or.inl (e 1 g))
  · exact Or.inr (Or.inr (Or.inl (e 2 g)))
  · exact Or.inr (Or.inr (Or.inr (Or.inl (e 3 g))))
  · exact Or.inr (Or.inr (Or.inr (Or.inr (Or.inl (e 4 g)))))
  · exact Or.inr (Or.inr (Or.inr (Or.inr (Or.inr (e 5 g)))))
theorem lb_told6 (N : Nat) (hN : 1000 ≤ N) {fr : Int32} {fc : Nat → Int32} {F : List (List Int32)} (C : CF fr fc F) (pp tt : Int32) (sp fo : Nat → Int32) (p3 : Nat → Int64) (x : Int32) : ∃ k sp' fo' p3', hh_L_told N pp tt fr fc 4000 sp fo p3 x = some (k, sp', fo', p3') := by
  have h400 := C.2.2
  by_cases c : x.toInt < 0 ∨ 5 < x.toInt
  · have e1 : f_X6_told_I N x = some () := by unfold f_X6_told_I; rw [ifb_t c]
    refine ⟨1, sp, fo, p3, ?_⟩
    unfold hh_L_told; simp only [e1]
  · have fin : f_X6_told_I N x = none → (∃ z sp' fo', f_X6_told N pp tt fr fc 4000 sp fo x = some (z, sp', fo')) → ∃ k sp' fo' p3', hh_L_told N pp tt fr fc 4000 sp fo p3 x = some (k, sp', fo', p3') := by
      rintro e1 ⟨z, sp', fo', e2⟩
      refine ⟨0, sp', fo', vp_updL p3 (0 : Int32).toNatClampNeg z.toInt64, ?_⟩
      unfold hh_L_told; simp only [e1]
      unfold f_L_told
      rw [bd e2]
      rfl
    obtain ⟨zd, spd, fod, ed⟩ := x_depth N hN C sp fo
    have h1 := t_howMany C.1 N (by omega) 2 5
    have h2 := t_howMany C.1 N (by omega) 8 9
    rcases six c with rfl | rfl | rfl | rfl | rfl | rfl
    · exact fin rfl ⟨_, _, _, rfl⟩
    · refine fin rfl ?_
      show ∃ z sp' fo', (f_X5_howMany N fr fc 4000 2 5).bind (fun z54 => some (z54, sp, fo)) = some (z, sp', fo')
      rw [bd h1]; exact ⟨_, _, _, rfl⟩
    · refine fin rfl ?_
      show ∃ z sp' fo', (f_X5_howMany N fr fc 4000 8 9).bind (fun z54 => some (z54, sp, fo)) = some (z, sp', fo')
      rw [bd h2]; exact ⟨_, _, _, rfl⟩
    · refine fin rfl ?_
      show ∃ z sp' fo', (f_X6_depth N fr fc 4000 sp fo).bind (fun z71 => some (z71.1, z71.2.1, z71.2.2)) = some (z, sp', fo')
      rw [bd ed]; exact ⟨_, _, _, rfl⟩
    · exact fin rfl ⟨_, _, _, rfl⟩
    · exact fin rfl ⟨_, _, _, rfl⟩
theorem o_told7 {u : Nat} {ki le ri ma bi ro ta rs : Nat → Int32} {F : List (List Int32)} (N : Nat) (S : RefS u ki le ri ma bi ro ta rs F) (h4 : F.length ≤ 400) (th pts tko x : Int32) : ∃ b k, f_X7_told N th pts tko ki le ri ma rs x = some (b, k) := by
  obtain ⟨y, h1, h2, h3, hd⟩ := S.root
  have c1 := o_cnt7 S h4 N (w := 1) (Or.inl rfl)
  have c2 := o_cnt7 S h4 N (w := 2) (Or.inr (Or.inl rfl))
  have c3 := o_cnt7 S h4 N (w := 3) (Or.inr (Or.inr rfl))
  have g31 : ∀ th' y1 s0 : Int32, (s0.toInt < 0 ∨ 5 < s0.toInt ∨ y1 = s0) → ∃ b k, f_X7_told_31 N th' pts tko ki le ri ma rs y1 s0 = some (b, k) := by
    intro th' y1 s0 hy
    by_cases c : s0.toInt < 0 ∨ 5 < s0.toInt
    · unfold f_X7_told_31; rw [ifb_t c]; exact ⟨_, _, rfl⟩
    · have : y1 = s0 := by
        rcases hy with h | h | h
        · exact absurd (Or.inl h) c
        · exact absurd (Or.inr h) c
        · exact h
      subst this
      rcases six c with rfl | rfl | rfl | rfl | rfl | rfl
      · show ∃ b k, ix 0 2000 (ix (rs (0 : Int32).toNatClampNeg) 24000 (some (ma (rs (0 : Int32).toNatClampNeg).toNatClampNeg, th'))) = some (b, k)
        rw [ix_0, x0_c, h3, ix_n _ _ _ h2 (by omega)]; exact ⟨_, _, rfl⟩
      · show ∃ b k, ix 0 2000 ((f_X7_count N ki le ri (rs 0) (Int32.ofNat 1)).bind (fun z88 => some (z88, th'))) = some (b, k)
        rw [ix_0, bd c1]; exact ⟨_, _, rfl⟩
      · show ∃ b k, ix 0 2000 ((f_X7_count N ki le ri (rs 0) (Int32.ofNat 2)).bind (fun z88 => some (z88, th'))) = some (b, k)
        rw [ix_0, bd c2]; exact ⟨_, _, rfl⟩
      · show ∃ b k, ix 0 2000 ((f_X7_count N ki le ri (rs 0) (Int32.ofNat 3)).bind (fun z88 => some (z88, th'))) = some (b, k)
        rw [ix_0, bd c3]; exact ⟨_, _, rfl⟩
      · exact ⟨_, _, rfl⟩
      · exact ⟨_, _, rfl⟩
  unfold f_X7_told f_X7_told_10 f_X7_told_15
  by_cases a1 : x < 0
  · rw [ifb_t a1, ifb_f (by decide)]
    exact g31 _ _ _ (Or.inr (Or.inl (by decide)))
  · rw [ifb_f a1]
    by_cases a2 : x ≤ 5
    · rw [ifb_t a2, ifb_t (by decide)]; exact g31 _ _ _ (Or.inr (Or.inr rfl))
    · rw [ifb_f a2, ifb_f (by decide)]; exact g31 _ _ _ (Or.inr (Or.inl (by decide)))
theorem fi_read {t : Nat → Int32} {sz : Nat} (hsz : sz ≤ 240) {F0 : List (List Int32)} (h0 : FI F0) : FI ((sRead t sz).2.getD F0) := by
  have fo := form_ok (t := t) hsz (u_ok (t := t) hsz 20) 0 (by omega)
  unfold sRead
  cases hx : sForm t sz (sU t sz 20) 0 with
  | error e => exact h0
  | ok z =>
    obtain ⟨p1, F, g⟩ := z
    obtain ⟨v1, v2, v3, v4, v5⟩ := fo.2 p1 F g hx
    have hF : FI F := ⟨v3, by have := (w_le v3).1; omega, Or.inr (by omega)⟩
    dsimp only
    split
    · exact h0
    · cases g
      · exact hF
      · exact h0
