theorem pdq_7 : (parseMethodDescriptor "([II)[I").map (fun d => d.parameters.length) = some 2 := by decide +kernel
theorem gm_137 : (Cond.arrayClass .int) ∈ W0 := q_l 1 67 (by decide +kernel) (by decide +kernel)
theorem gm_390 : (Cond.methodLink "java/util/Arrays" 304 yJ9_min_7cf53) ∈ W0 := q_l 2 80 (by decide +kernel) (by decide +kernel)
theorem gm_393 : (Cond.methodLink "java/util/Arrays" 150 ⟨"java/lang/System", "arraycopy", "(Ljava/lang/Object;ILjava/lang/Object;II)V"⟩) ∈ W0 := q_l 2 83 (by decide +kernel) (by decide +kernel)
theorem gm_837 : (Cond.methodLink "LinearTruths$Tree" 28 yJ7_copyOf_59c91) ∈ W0 := q_l 4 47 (by decide +kernel) (by decide +kernel)
theorem cs_J7_copyOf_59c91 : Cs yJ7_copyOf_59c91 cJ7_copyOf_59c91 3 (some (.array .int)) 2 := ⟨q_l 4 48 (by decide +kernel) (by decide +kernel), q_l 1 9 (by decide +kernel) (by decide +kernel), q_l 4 49 rfl (by decide +kernel), ⟨ncq_0.1, ncq_0.2, pdq_7⟩⟩
set_option maxHeartbeats 4000000 in
set_option maxRecDepth 100000 in
theorem c_J7_copyOf (l : Launch) (D : va_G) (cI cJ cB : ClassId) (a sz n0 : Nat) (f : Nat → Int32) (k : Int32) (hk : ¬ k < 0) (hn : n0 < k.toNatClampNeg) (hk2 : k.toNatClampNeg ≤ 100000) : Mz l yJ7_copyOf_59c91 cJ7_copyOf_59c91 3 (some (.array .int)) { frames := 1, cells := 1, slots := k.toNatClampNeg, locals := 40 } D (ty0 cI cJ cB) [.ref a, .int k] sz [(a, .inl (cI, n0, .inl f))] (fun q => some (.ref q)) (fun q => [(a, .inl (cI, n0, .inl f)), (q, .inl (cI, k.toNatClampNeg, .inl (va_cpy f (fun _ => 0) 0 0 n0)))]) 1 k.toNatClampNeg := by
  have e1 : (Int32.ofNat n0).toInt = n0 := Int32.toInt_ofNat_of_lt (by omega)
  have e2 : (k.toNatClampNeg : Int) = k.toInt := by
    show ((k.toInt.toNat : Nat) : Int) = k.toInt
    rw [Int32.lt_iff_toInt_lt, show (0 : Int32).toInt = 0 from rfl] at hk
    omega
  have e3 : (Int32.ofNat n0).toNatClampNeg = n0 := by show (Int32.ofNat n0).toInt.toNat = n0; omega
  refine Mz.of (by decide) (Nat.le_of_ble_eq_true rfl) ?_
  intro p e s m below meth c CX hK hsz hP hD ls hl
  have CX : Cx p m c cJ7_copyOf_59c91 3 s ([.ref a, .int k] : List Value).toArray (Cond.code yJ7_copyOf_59c91 cJ7_copyOf_59c91 3 (some (.array .int))) RJ7 meth (some (.array .int)) := CX
  obtain ⟨F, hr, hlk, hNw⟩ := id CX
  have hx := F.1
  have hb := F.2.1
  have hown := F.2.2.2.1
  have hl : lv_has ls 3 [(0, .ref a), (1, .int k)] := hl
  have hS : va_S (va_A [(a, .inl (cI, n0, .inl f))] sz) s.heap s.heap [] := va_S.rf
  have hA : ∀ q, s.heap.size ≤ q → va_A [(a, .inl (cI, n0, .inl f))] sz q := fun q hq => Or.inr (hsz ▸ hq)
  refine lv_iload_n hx hb dJ7_copyOf_59c91_0 rfl (lv_at hl 1 rfl) ?_
  refine lv_aload_n hx hb dJ7_copyOf_59c91_1 rfl (lv_at hl 0 rfl) ?_
  refine va_alen (v := (Int32.ofNat n0)) hx hb hK hP 0 0 rfl rfl rfl dJ7_copyOf_59c91_2 ?_
  refine lv_icmp_ne (tgt := 14) hx hb dJ7_copyOf_59c91_3 (by decide) (fun c3 => ?_) (fun c3 => ?_)
  · refine lv_iload_n hx hb dJ7_copyOf_59c91_14 rfl (lv_at hl 1 rfl) ?_
    refine g_newi (N := k.toNatClampNeg) F hK hP hD hS hA gm_137 hk rfl (by omega) (by show 0 + 1 ≤ 1; omega) (by show 0 + k.toNatClampNeg ≤ k.toNatClampNeg; omega) dJ7_copyOf_59c91_15 (fun q H hP hD hS => ?_)
    have hP : va_P D vwCl [(a, .inl (cI, n0, .inl f)), (q, .inl (cI, k.toNatClampNeg, .inl (fun _ => 0)))] H := hP
    have hD : va_D _ [(a, .inl (cI, n0, .inl f)), (q, .inl (cI, k.toNatClampNeg, .inl (fun _ => 0)))] := hD
    refine lv_astore_n (lv' := [(2, .ref q), (0, .ref a), (1, .int k)]) hx hb dJ7_copyOf_59c91_17 rfl hl (by decide) rfl (fun ls hl => ?_)
    refine lv_aload_n hx hb dJ7_copyOf_59c91_18 rfl (lv_at hl 1 rfl) ?_
    refine lv_iconst (v := 0) hx hb dJ7_copyOf_59c91_19 (by decide) ?_
    refine lv_aload_n hx hb dJ7_copyOf_59c91_20 rfl (lv_at hl 0 rfl) ?_
    refine lv_iconst (v := 0) hx hb dJ7_copyOf_59c91_21 (by decide) ?_
    refine lv_aload_n hx hb dJ7_copyOf_59c91_22 rfl (lv_at hl 1 rfl) ?_
    refine va_alen (v := (Int32.ofNat n0)) hx hb hK hP 0 0 rfl rfl rfl dJ7_copyOf_59c91_23 ?_
    refine lv_iload_n hx hb dJ7_copyOf_59c91_24 rfl (lv_at hl 2 rfl) ?_
    refine va_mmin hx hb (F.2.2.1.trans hl.1.symm) hown (F.2.2.2.2 _ (q_in gm_390)) (F.2.2.2.2 _ (q_in wm_391)) (F.2.2.2.2 _ (q_in wm_75)) (F.2.2.2.2 _ (q_in wm_392)) (Nat.le_of_ble_eq_true rfl) (Nat.le_of_ble_eq_true rfl) (by show 0 + 1 ≤ 1; omega) (by show 0 + k.toNatClampNeg ≤ k.toNatClampNeg; omega) dJ7_copyOf_59c91_25 ?_
    have hm : (if k < Int32.ofNat n0 then k else Int32.ofNat n0) = Int32.ofNat n0 := by
      rw [if_neg]
      rw [Int32.lt_iff_toInt_lt]; omega
    rw [hm]
    refine va_copyi hx hb (F.2.2.1.trans hl.1.symm) hown (F.2.2.2.2 _ (q_in gm_393)) (F.2.2.2.2 _ (q_in wm_395)) (F.2.2.2.2 _ (q_in wm_394)) (F.2.2.2.2 _ (q_in wm_89)) hK hP hD hS 0 1 0 0 rfl rfl rfl rfl rfl (by decide) (by decide) (by rw [Int32.lt_iff_toInt_lt, e1, show (0 : Int32).toInt = 0 from rfl]; omega) (by rw [e3]; show 0 + n0 ≤ n0; omega) (by rw [e3]; show 0 + n0 ≤ _; omega) (fun _ _ => rfl) (Nat.le_of_ble_eq_true rfl) (Nat.le_of_ble_eq_true rfl) dJ7_copyOf_59c91_28 (fun H locs hP hD hS => ?_)
    have hP : va_P D vwCl [(a, .inl (cI, n0, .inl f)), (q, .inl (cI, k.toNatClampNeg, .inl (va_cpy f (fun _ => 0) 0 0 (Int32.ofNat n0).toNatClampNeg)))] H := hP
    have hD : va_D _ [(a, .inl (cI, n0, .inl f)), (q, .inl (cI, k.toNatClampNeg, .inl (va_cpy f (fun _ => 0) 0 0 (Int32.ofNat n0).toNatClampNeg)))] := hD
    rw [e3] at hP hD
    refine lv_aload_n hx hb dJ7_copyOf_59c91_31 rfl (lv_at hl 0 rfl) ?_
    refine W.widen (k := 1) (n := k.toNatClampNeg) (by omega) (by omega) ?_
    exact z_aret F hr hlk dJ7_copyOf_59c91_32 q rfl hP hD hS
  · exfalso
    rw [c3, e3] at hn
    omega
section G_X5_reserve
abbrev ws_X5_reserve (cI cJ cB : ClassId) (a0 a_cells : Nat) (rows : Int32) (cells : Nat → Int32) (cells_n : Nat) : va_W := [(a0, .inr (7, [.ref a_cells, .int rows])), (a_cells, .inl (cI, cells_n, .inl cells))]
abbrev rm_X5_reserve (k : Nat) : Room := { frames := 2, cells := k, slots := 100000 * k, locals := 80 }
def f_X5_reserve (N : Nat) (rows : Int32) (cells : Nat → Int32) (cells_n : Nat) (x1 : Int32) : Option (Int32 × (Nat → Int32) × Nat) := ifb ((rows + x1) ≤ 10000) (ifb (((rows + x1) * 10) ≤ (Int32.ofNat cells_n)) (some (1, cells, cells_n)) (ckp ((¬ (jmin (2 * (rows + x1)) 10000) * 10 < 0) ∧ cells_n < ((jmin (2 * (rows + x1)) 10000) * 10).toNatClampNeg ∧ ((jmin (2 * (rows + x1)) 10000) * 10).toNatClampNeg ≤ 100000 ∧ ph ((jmin (2 * (rows + x1)) 10000) * 10).toNatClampNeg < ph cells_n) (some (1, va_cpy cells (fun _ => 0) 0 0 cells_n, ((jmin (2 * (rows + x1)) 10000) * 10).toNatClampNeg)))) (some (0, cells, cells_n))
theorem mo_X5_reserve {N : Nat} {rows : Int32} {cells : Nat → Int32} {cells_n : Nat} {x1 : Int32} {z : Int32 × (Nat → Int32) × Nat} (h : f_X5_reserve N rows cells cells_n x1 = some z) : ph z.2.2 ≤ ph cells_n := by
  unfold f_X5_reserve at h
  unfold ifb at h
  split at h
  · split at h
    · obtain rfl := Option.some.inj h; exact Nat.le_refl _
    · obtain ⟨hc, h⟩ := o_c h
      obtain rfl := Option.some.inj h; exact Nat.le_of_lt hc.2.2.2
  · obtain rfl := Option.some.inj h; exact Nat.le_refl _
end G_X5_reserve
set_option maxHeartbeats 4000000 in
set_option maxRecDepth 100000 in
theorem c_X5_reserve (l : Launch) (D : va_G) (cI cJ cB : ClassId) (a0 a_cells : Nat) (sz : Nat) (rows : Int32) (cells : Nat → Int32) (cells_n : Nat) (x1 : Int32) (N : Nat) {z : Int32 × (Nat → Int32) × Nat} (h : f_X5_reserve N rows cells cells_n x1 = some z) : ph z.2.2 ≤ ph cells_n ∧ Mz l yX5_reserve cX5_reserve 3 (some .boolean) (rm_X5_reserve (ph cells_n - ph z.2.2)) D (ty0 cI cJ cB) [.ref a0, .int x1] sz (ws_X5_reserve cI cJ cB a0 a_cells rows cells cells_n) (fun _ => some (.int z.1)) (fun q => ws_X5_reserve cI cJ cB a0 q rows z.2.1 z.2.2) (ph cells_n - ph z.2.2) (100000 * (ph cells_n - ph z.2.2)) := by
  have hph : ph z.2.2 ≤ ph cells_n := mo_X5_reserve h
  refine ⟨hph, ?_⟩
  refine Mz.of (by decide) (Nat.le_of_ble_eq_true rfl) ?_
  intro p e s m below meth c CX hK hsz hP hD ls hl
  have CX : Cx p m c cX5_reserve 3 s ([.ref a0, .int x1] : List Value).toArray (Cond.code yX5_reserve cX5_reserve 3 (some .boolean)) RX5 meth (some .boolean) := CX
  obtain ⟨F, hr, hlk, hNw⟩ := id CX
  have hx := F.1
  have hb := F.2.1
  have hown := F.2.2.2.1
  have hl : lv_has ls 3 [(0, .ref a0), (1, .int x1)] := hl
  have hS : va_S (va_A (ws_X5_reserve cI cJ cB a0 a_cells rows cells cells_n) sz) s.heap s.heap [] := va_S.rf
  have hA : ∀ q, s.heap.size ≤ q → va_A (ws_X5_reserve cI cJ cB a0 a_cells rows cells cells_n) sz q := fun q hq => Or.inr (hsz ▸ hq)
  unfold f_X5_reserve at h
  refine lv_aload_n hx hb dX5_reserve_0 rfl (lv_at hl 0 rfl) ?_
  refine r_get F hK hP 0 1 rfl inW_X5 wm_126 rfl (by decide) rfl dX5_reserve_1 ?_
  refine lv_iload_n hx hb dX5_reserve_4 rfl (lv_at hl 1 rfl) ?_
  refine lv_iadd hx hb dX5_reserve_5 ?_
  refine lv_istore_n (lv' := [(2, .int (rows + x1)), (0, .ref a0), (1, .int x1)]) hx hb dX5_reserve_6 rfl hl (by decide) rfl (fun ls hl => ?_)
  refine lv_iload_n hx hb dX5_reserve_7 rfl (lv_at hl 0 rfl) ?_
  refine lv_sipush (v := 10000) hx hb dX5_reserve_8 (by decide) ?_
  refine lv_icmp_le (tgt := 16) hx hb dX5_reserve_11 (by decide) (fun c11 => ?_) (fun c11 => ?_)
  · have h := o_t c11 h
    refine lv_iload_n hx hb dX5_reserve_16 rfl (lv_at hl 0 rfl) ?_
    refine lv_bipush (v := 10) hx hb dX5_reserve_17 (by decide) ?_
    refine lv_imul hx hb dX5_reserve_19 ?_
    refine lv_aload_n hx hb dX5_reserve_20 rfl (lv_at hl 1 rfl) ?_
    refine r_get F hK hP 0 0 rfl inW_X5 wm_125 rfl (by decide) rfl dX5_reserve_21 ?_
    refine va_alen (v := (Int32.ofNat cells_n)) hx hb hK hP 1 0 rfl rfl rfl dX5_reserve_24 ?_
    refine lv_icmp_le (tgt := 51) hx hb dX5_reserve_25 (by decide) (fun c25 => ?_) (fun c25 => ?_)
    · have h := o_t c25 h
      refine lv_iconst (v := 1) hx hb dX5_reserve_51 (by decide) ?_
      obtain rfl := Option.some.inj h
      refine W.widen (k := ph cells_n - ph cells_n) (n := 100000 * (ph cells_n - ph cells_n)) (by omega) (by omega) ?_
      exact z_ret (v := 1) F hr hlk rfl dX5_reserve_52 a_cells rfl hP hD hS
    · have h := o_f c25 h
      obtain ⟨⟨k1, k2, k3, k4⟩, h⟩ := o_c h
      obtain rfl := Option.some.inj h
      have hph : ph ((jmin (2 * (rows + x1)) 10000) * 10).toNatClampNeg ≤ ph cells_n := hph
      have hge : 1 ≤ ph cells_n - ph ((jmin (2 * (rows + x1)) 10000) * 10).toNatClampNeg := by omega
      refine lv_aload_n hx hb dX5_reserve_28 rfl (lv_at hl 1 rfl) ?_
      refine lv_aload_n hx hb dX5_reserve_29 rfl (lv_at hl 1 rfl) ?_
      refine r_get F hK hP 0 0 rfl inW_X5 wm_125 rfl (by decide) rfl dX5_reserve_30 ?_
      refine lv_iconst (v := 2) hx hb dX5_reserve_33 (by decide) ?_
      refine lv_iload_n hx hb dX5_reserve_34 rfl (lv_at hl 0 rfl) ?_
      refine lv_imul hx hb dX5_reserve_35 ?_
      refine lv_sipush (v := 10000) hx hb dX5_reserve_36 (by decide) ?_
      refine va_mmin hx hb (F.2.2.1.trans hl.1.symm) hown (F.2.2.2.2 _ (q_in wm_785)) (F.2.2.2.2 _ (q_in wm_391)) (F.2.2.2.2 _ (q_in wm_75)) (F.2.2.2.2 _ (q_in wm_392)) (Nat.le_of_ble_eq_true rfl) (Nat.le_of_ble_eq_true rfl) (Nat.zero_le _) (Nat.zero_le _) dX5_reserve_39 ?_
      refine lv_bipush (v := 10) hx hb dX5_reserve_42 (by decide) ?_
      refine lv_imul hx hb dX5_reserve_44 ?_
      refine kz_s (wn := fun q => [(a0, .inr (7, [.ref a_cells, .int rows])), (a_cells, .inl (cI, cells_n, .inl cells)), (q, .inl (cI, ((jmin (2 * (rows + x1)) 10000) * 10).toNatClampNeg, .inl (va_cpy cells (fun _ => 0) 0 0 cells_n)))]) (As := [.ref a_cells, .int ((jmin (2 * (rows + x1)) 10000) * 10)]) (rest := [.ref a0]) F hNw hK hP hD hS hA (c_J7_copyOf l D cI cJ cB a_cells _ cells_n cells ((jmin (2 * (rows + x1)) 10000) * 10) k1 k2 k3) gm_837 cs_J7_copyOf_59c91 [1] [0] [0, 1, 2] (⟨rfl, rfl, rfl, by decide, rfl⟩ : Ix [1] [0] [0, 1, 2] 2) rfl (fun q => rfl) rfl ⟨rfl, rfl, Nat.le_of_ble_eq_true rfl, Nat.le_of_ble_eq_true rfl⟩ hl.1 rfl (Nat.le_of_ble_eq_true rfl) ⟨by show 0 + 1 ≤ ph cells_n - ph ((jmin (2 * (rows + x1)) 10000) * 10).toNatClampNeg; omega, by show 0 + ((jmin (2 * (rows + x1)) 10000) * 10).toNatClampNeg ≤ 100000 * (ph cells_n - ph ((jmin (2 * (rows + x1)) 10000) * 10).toNatClampNeg); omega⟩ dX5_reserve_45 (fun q H locs hP hD hS => ?_)
      refine r_put (wn := [(a0, .inr (7, [.ref q, .int rows])), (a_cells, .inl (cI, cells_n, .inl cells)), (q, .inl (cI, ((jmin (2 * (rows + x1)) 10000) * 10).toNatClampNeg, .inl (va_cpy cells (fun _ => 0) 0 0 cells_n)))]) F hK hP hD hS 0 0 rfl inW_X5 wm_125 tyX5_ok nmX5 rfl rfl (by decide) rfl rfl (Nat.le_of_ble_eq_true rfl) rfl dX5_reserve_48 (fun H locs hP hD hS => ?_)
      refine lv_iconst (v := 1) hx hb dX5_reserve_51 (by decide) ?_
      have hP := hP.sub (ws' := ws_X5_reserve cI cJ cB a0 q rows (va_cpy cells (fun _ => 0) 0 0 cells_n) ((jmin (2 * (rows + x1)) 10000) * 10).toNatClampNeg) [0, 2] rfl
      have hD := hD.sub (ws' := ws_X5_reserve cI cJ cB a0 q rows (va_cpy cells (fun _ => 0) 0 0 cells_n) ((jmin (2 * (rows + x1)) 10000) * 10).toNatClampNeg) [0, 2] (by decide) rfl
      refine W.widen (k := ph cells_n - ph ((jmin (2 * (rows + x1)) 10000) * 10).toNatClampNeg) (n := 100000 * (ph cells_n - ph ((jmin (2 * (rows + x1)) 10000) * 10).toNatClampNeg)) (by omega) (by omega) ?_
      exact z_ret (v := 1) F hr hlk rfl dX5_reserve_52 q rfl hP hD hS
  · have h := o_f c11 h
    refine lv_iconst (v := 0) hx hb dX5_reserve_14 (by decide) ?_
    obtain rfl := Option.some.inj h
    refine W.widen (k := ph cells_n - ph cells_n) (n := 100000 * (ph cells_n - ph cells_n)) (by omega) (by omega) ?_
    exact z_ret (v := 0) F hr hlk rfl dX5_reserve_15 a_cells rfl hP hD hS
