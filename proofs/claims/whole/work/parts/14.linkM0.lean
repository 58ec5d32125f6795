theorem k_In_bitCount {g : GE} {v0 : Int32} {m : Mem} {r : Option AV} {m' : Mem} {x : Int32} (h : In_bitCount v0 m = some x) (hp : (fun x : Int32 => r = some (vi x) ∧ m' = m) x) : V g Y_In_bitCount 0 [some (vi v0)] [] m (PM g Y_In_bitCount r m') := by
  unfold In_bitCount at h
  refine V_iload_n (i := 0) (pc := 0) dJ6_bitCount_0f7a4_0 rfl rfl ?_
  refine V_iload_n (i := 0) (pc := 1) dJ6_bitCount_0f7a4_1 rfl rfl ?_
  refine V_iconst (v := 1) (pc := 2) dJ6_bitCount_0f7a4_2 rfl ?_
  refine V_iushr (pc := 3) dJ6_bitCount_0f7a4_3 ?_
  refine V_ldcw (v := 1431655765) (pc := 4) dJ6_bitCount_0f7a4_4 con_In_265 ?_
  refine V_iand (pc := 7) dJ6_bitCount_0f7a4_7 ?_
  refine V_isub (pc := 8) dJ6_bitCount_0f7a4_8 ?_
  refine V_istore_n (i := 0) (ls' := [some (vi (v0 - (((v0.toUInt32 >>> ((1 : Int32).toUInt32 &&& Int32.toUInt32 31)).toInt32) &&& 1431655765)))]) (pc := 9) dJ6_bitCount_0f7a4_9 rfl (Nat.le_of_ble_eq_true rfl) rfl ?_
  refine V_iload_n (i := 0) (pc := 10) dJ6_bitCount_0f7a4_10 rfl rfl ?_
  refine V_ldcw (v := 858993459) (pc := 11) dJ6_bitCount_0f7a4_11 con_In_266 ?_
  refine V_iand (pc := 14) dJ6_bitCount_0f7a4_14 ?_
  refine V_iload_n (i := 0) (pc := 15) dJ6_bitCount_0f7a4_15 rfl rfl ?_
  refine V_iconst (v := 2) (pc := 16) dJ6_bitCount_0f7a4_16 rfl ?_
  refine V_iushr (pc := 17) dJ6_bitCount_0f7a4_17 ?_
  refine V_ldcw (v := 858993459) (pc := 18) dJ6_bitCount_0f7a4_18 con_In_266 ?_
  refine V_iand (pc := 21) dJ6_bitCount_0f7a4_21 ?_
  refine V_iadd (pc := 22) dJ6_bitCount_0f7a4_22 ?_
  refine V_istore_n (i := 0) (ls' := [some (vi (((v0 - (((v0.toUInt32 >>> ((1 : Int32).toUInt32 &&& Int32.toUInt32 31)).toInt32) &&& 1431655765)) &&& 858993459) + ((((v0 - (((v0.toUInt32 >>> ((1 : Int32).toUInt32 &&& Int32.toUInt32 31)).toInt32) &&& 1431655765)).toUInt32 >>> ((2 : Int32).toUInt32 &&& Int32.toUInt32 31)).toInt32) &&& 858993459)))]) (pc := 23) dJ6_bitCount_0f7a4_23 rfl (Nat.le_of_ble_eq_true rfl) rfl ?_
  refine V_iload_n (i := 0) (pc := 24) dJ6_bitCount_0f7a4_24 rfl rfl ?_
  refine V_iload_n (i := 0) (pc := 25) dJ6_bitCount_0f7a4_25 rfl rfl ?_
  refine V_iconst (v := 4) (pc := 26) dJ6_bitCount_0f7a4_26 rfl ?_
  refine V_iushr (pc := 27) dJ6_bitCount_0f7a4_27 ?_
  refine V_iadd (pc := 28) dJ6_bitCount_0f7a4_28 ?_
  refine V_ldcw (v := 252645135) (pc := 29) dJ6_bitCount_0f7a4_29 con_In_267 ?_
  refine V_iand (pc := 32) dJ6_bitCount_0f7a4_32 ?_
  refine V_istore_n (i := 0) (ls' := [some (vi (((((v0 - (((v0.toUInt32 >>> ((1 : Int32).toUInt32 &&& Int32.toUInt32 31)).toInt32) &&& 1431655765)) &&& 858993459) + ((((v0 - (((v0.toUInt32 >>> ((1 : Int32).toUInt32 &&& Int32.toUInt32 31)).toInt32) &&& 1431655765)).toUInt32 >>> ((2 : Int32).toUInt32 &&& Int32.toUInt32 31)).toInt32) &&& 858993459)) + (((((v0 - (((v0.toUInt32 >>> ((1 : Int32).toUInt32 &&& Int32.toUInt32 31)).toInt32) &&& 1431655765)) &&& 858993459) + ((((v0 - (((v0.toUInt32 >>> ((1 : Int32).toUInt32 &&& Int32.toUInt32 31)).toInt32) &&& 1431655765)).toUInt32 >>> ((2 : Int32).toUInt32 &&& Int32.toUInt32 31)).toInt32) &&& 858993459)).toUInt32 >>> ((4 : Int32).toUInt32 &&& Int32.toUInt32 31)).toInt32)) &&& 252645135))]) (pc := 33) dJ6_bitCount_0f7a4_33 rfl (Nat.le_of_ble_eq_true rfl) rfl ?_
  refine V_iload_n (i := 0) (pc := 34) dJ6_bitCount_0f7a4_34 rfl rfl ?_
  refine V_iload_n (i := 0) (pc := 35) dJ6_bitCount_0f7a4_35 rfl rfl ?_
  refine V_bipush (v := 8) (pc := 36) dJ6_bitCount_0f7a4_36 rfl ?_
  refine V_iushr (pc := 38) dJ6_bitCount_0f7a4_38 ?_
  refine V_iadd (pc := 39) dJ6_bitCount_0f7a4_39 ?_
  refine V_istore_n (i := 0) (ls' := [some (vi ((((((v0 - (((v0.toUInt32 >>> ((1 : Int32).toUInt32 &&& Int32.toUInt32 31)).toInt32) &&& 1431655765)) &&& 858993459) + ((((v0 - (((v0.toUInt32 >>> ((1 : Int32).toUInt32 &&& Int32.toUInt32 31)).toInt32) &&& 1431655765)).toUInt32 >>> ((2 : Int32).toUInt32 &&& Int32.toUInt32 31)).toInt32) &&& 858993459)) + (((((v0 - (((v0.toUInt32 >>> ((1 : Int32).toUInt32 &&& Int32.toUInt32 31)).toInt32) &&& 1431655765)) &&& 858993459) + ((((v0 - (((v0.toUInt32 >>> ((1 : Int32).toUInt32 &&& Int32.toUInt32 31)).toInt32) &&& 1431655765)).toUInt32 >>> ((2 : Int32).toUInt32 &&& Int32.toUInt32 31)).toInt32) &&& 858993459)).toUInt32 >>> ((4 : Int32).toUInt32 &&& Int32.toUInt32 31)).toInt32)) &&& 252645135) + (((((((v0 - (((v0.toUInt32 >>> ((1 : Int32).toUInt32 &&& Int32.toUInt32 31)).toInt32) &&& 1431655765)) &&& 858993459) + ((((v0 - (((v0.toUInt32 >>> ((1 : Int32).toUInt32 &&& Int32.toUInt32 31)).toInt32) &&& 1431655765)).toUInt32 >>> ((2 : Int32).toUInt32 &&& Int32.toUInt32 31)).toInt32) &&& 858993459)) + (((((v0 - (((v0.toUInt32 >>> ((1 : Int32).toUInt32 &&& Int32.toUInt32 31)).toInt32) &&& 1431655765)) &&& 858993459) + ((((v0 - (((v0.toUInt32 >>> ((1 : Int32).toUInt32 &&& Int32.toUInt32 31)).toInt32) &&& 1431655765)).toUInt32 >>> ((2 : Int32).toUInt32 &&& Int32.toUInt32 31)).toInt32) &&& 858993459)).toUInt32 >>> ((4 : Int32).toUInt32 &&& Int32.toUInt32 31)).toInt32)) &&& 252645135).toUInt32 >>> ((8 : Int32).toUInt32 &&& Int32.toUInt32 31)).toInt32)))]) (pc := 40) dJ6_bitCount_0f7a4_40 rfl (Nat.le_of_ble_eq_true rfl) rfl ?_
  refine V_iload_n (i := 0) (pc := 41) dJ6_bitCount_0f7a4_41 rfl rfl ?_
  refine V_iload_n (i := 0) (pc := 42) dJ6_bitCount_0f7a4_42 rfl rfl ?_
  refine V_bipush (v := 16) (pc := 43) dJ6_bitCount_0f7a4_43 rfl ?_
  refine V_iushr (pc := 45) dJ6_bitCount_0f7a4_45 ?_
  refine V_iadd (pc := 46) dJ6_bitCount_0f7a4_46 ?_
  refine V_istore_n (i := 0) (ls' := [some (vi (((((((v0 - (((v0.toUInt32 >>> ((1 : Int32).toUInt32 &&& Int32.toUInt32 31)).toInt32) &&& 1431655765)) &&& 858993459) + ((((v0 - (((v0.toUInt32 >>> ((1 : Int32).toUInt32 &&& Int32.toUInt32 31)).toInt32) &&& 1431655765)).toUInt32 >>> ((2 : Int32).toUInt32 &&& Int32.toUInt32 31)).toInt32) &&& 858993459)) + (((((v0 - (((v0.toUInt32 >>> ((1 : Int32).toUInt32 &&& Int32.toUInt32 31)).toInt32) &&& 1431655765)) &&& 858993459) + ((((v0 - (((v0.toUInt32 >>> ((1 : Int32).toUInt32 &&& Int32.toUInt32 31)).toInt32) &&& 1431655765)).toUInt32 >>> ((2 : Int32).toUInt32 &&& Int32.toUInt32 31)).toInt32) &&& 858993459)).toUInt32 >>> ((4 : Int32).toUInt32 &&& Int32.toUInt32 31)).toInt32)) &&& 252645135) + (((((((v0 - (((v0.toUInt32 >>> ((1 : Int32).toUInt32 &&& Int32.toUInt32 31)).toInt32) &&& 1431655765)) &&& 858993459) + ((((v0 - (((v0.toUInt32 >>> ((1 : Int32).toUInt32 &&& Int32.toUInt32 31)).toInt32) &&& 1431655765)).toUInt32 >>> ((2 : Int32).toUInt32 &&& Int32.toUInt32 31)).toInt32) &&& 858993459)) + (((((v0 - (((v0.toUInt32 >>> ((1 : Int32).toUInt32 &&& Int32.toUInt32 31)).toInt32) &&& 1431655765)) &&& 858993459) + ((((v0 - (((v0.toUInt32 >>> ((1 : Int32).toUInt32 &&& Int32.toUInt32 31)).toInt32) &&& 1431655765)).toUInt32 >>> ((2 : Int32).toUInt32 &&& Int32.toUInt32 31)).toInt32) &&& 858993459)).toUInt32 >>> ((4 : Int32).toUInt32 &&& Int32.toUInt32 31)).toInt32)) &&& 252645135).toUInt32 >>> ((8 : Int32).toUInt32 &&& Int32.toUInt32 31)).toInt32)) + ((((((((v0 - (((v0.toUInt32 >>> ((1 : Int32).toUInt32 &&& Int32.toUInt32 31)).toInt32) &&& 1431655765)) &&& 858993459) + ((((v0 - (((v0.toUInt32 >>> ((1 : Int32).toUInt32 &&& Int32.toUInt32 31)).toInt32) &&& 1431655765)).toUInt32 >>> ((2 : Int32).toUInt32 &&& Int32.toUInt32 31)).toInt32) &&& 858993459)) + (((((v0 - (((v0.toUInt32 >>> ((1 : Int32).toUInt32 &&& Int32.toUInt32 31)).toInt32) &&& 1431655765)) &&& 858993459) + ((((v0 - (((v0.toUInt32 >>> ((1 : Int32).toUInt32 &&& Int32.toUInt32 31)).toInt32) &&& 1431655765)).toUInt32 >>> ((2 : Int32).toUInt32 &&& Int32.toUInt32 31)).toInt32) &&& 858993459)).toUInt32 >>> ((4 : Int32).toUInt32 &&& Int32.toUInt32 31)).toInt32)) &&& 252645135) + (((((((v0 - (((v0.toUInt32 >>> ((1 : Int32).toUInt32 &&& Int32.toUInt32 31)).toInt32) &&& 1431655765)) &&& 858993459) + ((((v0 - (((v0.toUInt32 >>> ((1 : Int32).toUInt32 &&& Int32.toUInt32 31)).toInt32) &&& 1431655765)).toUInt32 >>> ((2 : Int32).toUInt32 &&& Int32.toUInt32 31)).toInt32) &&& 858993459)) + (((((v0 - (((v0.toUInt32 >>> ((1 : Int32).toUInt32 &&& Int32.toUInt32 31)).toInt32) &&& 1431655765)) &&& 858993459) + ((((v0 - (((v0.toUInt32 >>> ((1 : Int32).toUInt32 &&& Int32.toUInt32 31)).toInt32) &&& 1431655765)).toUInt32 >>> ((2 : Int32).toUInt32 &&& Int32.toUInt32 31)).toInt32) &&& 858993459)).toUInt32 >>> ((4 : Int32).toUInt32 &&& Int32.toUInt32 31)).toInt32)) &&& 252645135).toUInt32 >>> ((8 : Int32).toUInt32 &&& Int32.toUInt32 31)).toInt32)).toUInt32 >>> ((16 : Int32).toUInt32 &&& Int32.toUInt32 31)).toInt32)))]) (pc := 47) dJ6_bitCount_0f7a4_47 rfl (Nat.le_of_ble_eq_true rfl) rfl ?_
  refine V_iload_n (i := 0) (pc := 48) dJ6_bitCount_0f7a4_48 rfl rfl ?_
  refine V_bipush (v := 63) (pc := 49) dJ6_bitCount_0f7a4_49 rfl ?_
  refine V_iand (pc := 51) dJ6_bitCount_0f7a4_51 ?_
  obtain rfl := Option.some.inj h
  exact E_i (pc := 52) dJ6_bitCount_0f7a4_52 rfl hp
theorem e_In_bitCount {g : GE} {v0 : Int32} {m : Mem} {x : Int32} (h : In_bitCount v0 m = some x) : Ev g Y_In_bitCount [vi v0] m (some (vi x)) m :=
  Ev_of 0 (by decide +kernel) rfl (Nat.le_of_ble_eq_true rfl) rfl (k_In_bitCount  h ⟨rfl, rfl⟩)
theorem k_Mo_in {g : GE} {v0 : Int64} {v2 : Int64} {v4 : Int64} {m : Mem} {r : Option AV} {m' : Mem} {x : Int32} (h : Mo_in v0 v2 v4 m = some x) (hp : (fun x : Int32 => r = some (vi x) ∧ m' = m) x) : V g Y_Mo_in 0 [some (vl v0), none, some (vl v2), none, some (vl v4), none] [] m (PM g Y_Mo_in r m') := by
  unfold Mo_in at h
  refine V_lload_n (i := 0) (pc := 0) dX11_in_0 rfl rfl ?_
  refine V_lload_n (i := 2) (pc := 1) dX11_in_1 rfl rfl ?_
  refine V_lif_lt (pc := 2) (tgt := 17) dX11_in_2 dX11_in_3 rfl (fun q => ?_) (fun q => ?_)
  · have h := ite_t q h
    refine V_iconst (v := 0) (pc := 17) dX11_in_17 rfl ?_
    obtain rfl := Option.some.inj h
    exact E_z (pc := 18) dX11_in_18 rfl rfl hp
  · have h := ite_f q h
    refine V_lload_n (i := 0) (pc := 6) dX11_in_6 rfl rfl ?_
    refine V_lload (i := 4) (pc := 7) dX11_in_7 rfl ?_
    refine V_lif_gt (pc := 9) (tgt := 17) dX11_in_9 dX11_in_10 rfl (fun q => ?_) (fun q => ?_)
    · have h := ite_t q h
      refine V_iconst (v := 0) (pc := 17) dX11_in_17 rfl ?_
      obtain rfl := Option.some.inj h
      exact E_z (pc := 18) dX11_in_18 rfl rfl hp
    · have h := ite_f q h
      refine V_iconst (v := 1) (pc := 13) dX11_in_13 rfl ?_
      refine V_goto (tgt := 18) (pc := 14) dX11_in_14 rfl ?_
      obtain rfl := Option.some.inj h
      exact E_z (pc := 18) dX11_in_18 rfl rfl hp
theorem e_Mo_in {g : GE} {v0 : Int64} {v2 : Int64} {v4 : Int64} {m : Mem} {x : Int32} (h : Mo_in v0 v2 v4 m = some x) : Ev g Y_Mo_in [vl v0, vl v2, vl v4] m (some (vi x)) m :=
  Ev_of 0 (by decide +kernel) rfl (Nat.le_of_ble_eq_true rfl) rfl (k_Mo_in  h ⟨rfl, rfl⟩)
theorem k_Mo_holds {g : GE} {v0 : Int32} {v1 : Int32} {m : Mem} {r : Option AV} {m' : Mem} {x : Int32} (h : Mo_holds v0 v1 m = some x) (hp : (fun x : Int32 => r = some (vi x) ∧ m' = m) x) : V g Y_Mo_holds 0 [some (vi v0), some (vi v1)] [] m (PM g Y_Mo_holds r m') := by
  unfold Mo_holds at h
  refine V_iload_n (i := 0) (pc := 0) dX11_holds_0 rfl rfl ?_
  refine V_iload_n (i := 1) (pc := 1) dX11_holds_1 rfl rfl ?_
  refine V_ishr (pc := 2) dX11_holds_2 ?_
  refine V_iconst (v := 1) (pc := 3) dX11_holds_3 rfl ?_
  refine V_iand (pc := 4) dX11_holds_4 ?_
  refine V_iconst (v := 1) (pc := 5) dX11_holds_5 rfl ?_
  refine V_icmp_ne (pc := 6) (tgt := 13) dX11_holds_6 rfl (fun q => ?_) (fun q => ?_)
  · have h := ite_f q h
    refine V_iconst (v := 0) (pc := 13) dX11_holds_13 rfl ?_
    obtain rfl := Option.some.inj h
    exact E_z (pc := 14) dX11_holds_14 rfl rfl hp
  · have h := ite_t q h
    refine V_iconst (v := 1) (pc := 9) dX11_holds_9 rfl ?_
    refine V_goto (tgt := 14) (pc := 10) dX11_holds_10 rfl ?_
    obtain rfl := Option.some.inj h
    exact E_z (pc := 14) dX11_holds_14 rfl rfl hp
theorem e_Mo_holds {g : GE} {v0 : Int32} {v1 : Int32} {m : Mem} {x : Int32} (h : Mo_holds v0 v1 m = some x) : Ev g Y_Mo_holds [vi v0, vi v1] m (some (vi x)) m :=
  Ev_of 0 (by decide +kernel) rfl (Nat.le_of_ble_eq_true rfl) rfl (k_Mo_holds  h ⟨rfl, rfl⟩)
theorem k_Mo_empties_l2 {g : GE} {v0 : Nat}  {v1 : Int32} {m : Mem} (h_v0 : kd v0 = 20) {r : Option AV} {m' : Mem} {x : (Int32 × Mem) ⊕ (Mem)} (h : Mo_empties_l2 v0 v1 m = some x) (hp : (Sum.elim (fun s : Int32 × Mem => V g Y_Mo_empties 2 [some (vr v0), some (vi s.1)] [] s.2 (PM g Y_Mo_empties r m')) (fun x : Mem => r = none ∧ m' = x)) x) : V g Y_Mo_empties 2 [some (vr v0), some (vi v1)] [] m (PM g Y_Mo_empties r m') := by
  unfold Mo_empties_l2 at h
  refine V_iload_n (i := 1) (pc := 2) dX11_empties_2 rfl rfl ?_
  refine V_sipush (v := 200) (pc := 3) dX11_empties_3 rfl ?_
  refine V_icmp_ge (pc := 6) (tgt := 19) dX11_empties_6 rfl (fun q => ?_) (fun q => ?_)
  · have h := ite_t q h
    obtain ⟨y1, hu1, rfl⟩ := up_e h
    have h := hu1
    refine V_aload_n (i := 0) (pc := 19) dX11_empties_19 rfl rfl ?_
    refine V_bipush (v := 11) (pc := 20) dX11_empties_20 rfl ?_
    refine V_iconst (v := 1) (pc := 22) dX11_empties_22 rfl ?_
    obtain ⟨hg23, h⟩ := gd_e h
    refine V_iast_lt (pc := 23) dX11_empties_23 h_v0 rfl hg23 h (fun m23 h => ?_)
    refine V_aload_n (i := 0) (pc := 24) dX11_empties_24 rfl rfl ?_
    refine V_bipush (v := 12) (pc := 25) dX11_empties_25 rfl ?_
    refine V_iconst (v := 5) (pc := 27) dX11_empties_27 rfl ?_
    obtain ⟨hg28, h⟩ := gd_e h
    refine V_iast_lt (pc := 28) dX11_empties_28 h_v0 rfl hg28 h (fun m28 h => ?_)
    refine V_aload_n (i := 0) (pc := 29) dX11_empties_29 rfl rfl ?_
    refine V_bipush (v := 13) (pc := 30) dX11_empties_30 rfl ?_
    refine V_bipush (v := 50) (pc := 32) dX11_empties_32 rfl ?_
    obtain ⟨hg34, h⟩ := gd_e h
    refine V_iast_lt (pc := 34) dX11_empties_34 h_v0 rfl hg34 h (fun m34 h => ?_)
    refine V_aload_n (i := 0) (pc := 35) dX11_empties_35 rfl rfl ?_
    refine V_bipush (v := 14) (pc := 36) dX11_empties_36 rfl ?_
    refine V_bipush (v := 50) (pc := 38) dX11_empties_38 rfl ?_
    obtain ⟨hg40, h⟩ := gd_e h
    refine V_iast_lt (pc := 40) dX11_empties_40 h_v0 rfl hg40 h (fun m40 h => ?_)
    refine V_aload_n (i := 0) (pc := 41) dX11_empties_41 rfl rfl ?_
    refine V_bipush (v := 15) (pc := 42) dX11_empties_42 rfl ?_
    refine V_bipush (v := 20) (pc := 44) dX11_empties_44 rfl ?_
    obtain ⟨hg46, h⟩ := gd_e h
    refine V_iast_lt (pc := 46) dX11_empties_46 h_v0 rfl hg46 h (fun m46 h => ?_)
    obtain rfl := Option.some.inj h
    exact E_v (pc := 47) dX11_empties_47 rfl hp
  · have h := ite_f q h
    refine V_aload_n (i := 0) (pc := 9) dX11_empties_9 rfl rfl ?_
    refine V_iload_n (i := 1) (pc := 10) dX11_empties_10 rfl rfl ?_
    refine V_iconst (v := 0) (pc := 11) dX11_empties_11 rfl ?_
    obtain ⟨hg12, h⟩ := gd_e h
    refine V_iast_lt (pc := 12) dX11_empties_12 h_v0 rfl hg12 h (fun m12 h => ?_)
    refine V_iinc (i := 1) (v := (v1 + 1)) (ls' := [some (vr v0), some (vi (v1 + 1))]) (pc := 13) dX11_empties_13 rfl rfl (Nat.le_of_ble_eq_true rfl) rfl ?_
    refine V_goto (tgt := 2) (pc := 16) dX11_empties_16 rfl ?_
    obtain rfl := Option.some.inj h
    exact hp
theorem k_Mo_empties {g : GE} {v0 : Nat} {m : Mem} (h_v0 : kd v0 = 20) {r : Option AV} {m' : Mem} {x : Mem} (h : Mo_empties v0 m = some x) (hp : (fun x : Mem => r = none ∧ m' = x) x) : V g Y_Mo_empties 0 [some (vr v0), none] [] m (PM g Y_Mo_empties r m') := by
  unfold Mo_empties at h
  refine V_iconst (v := 0) (pc := 0) dX11_empties_0 rfl ?_
  refine V_istore_n (i := 1) (ls' := [some (vr v0), some (vi 0)]) (pc := 1) dX11_empties_1 rfl (Nat.le_of_ble_eq_true rfl) rfl ?_
  exact loop_V (A := fun s : Int32 × Mem => V g Y_Mo_empties 2 [some (vr v0), some (vi s.1)] [] s.2 (PM g Y_Mo_empties r m')) (fun s x h hp => k_Mo_empties_l2 h_v0 h hp) (0, m) _ h hp
theorem e_Mo_empties {g : GE} {v0 : Nat} {m : Mem} (h_v0 : kd v0 = 20) {x : Mem} (h : Mo_empties v0 m = some x) : Ev g Y_Mo_empties [vr v0] m (none) x :=
  Ev_of 1 (by decide +kernel) rfl (Nat.le_of_ble_eq_true rfl) rfl (k_Mo_empties h_v0 h ⟨rfl, rfl⟩)
theorem k_Mo_keep_l17 {g : GE} {this : Nat} {v1 : Int32} {v2 : Int32} {m : Mem} (h_this : kd this = 12) {r : Option AV} {m' : Mem} {x : (Int32 × Mem) ⊕ (Int32 × Mem)} (h : Mo_keep_l17 this v1 v2 m = some x) (hp : (Sum.elim (fun s : Int32 × Mem => V g Y_Mo_keep 17 [some (vr this), some (vi v1), some (vi s.1)] [] s.2 (PM g Y_Mo_keep r m')) (fun x : Int32 × Mem => r = some (vi x.1) ∧ m' = x.2)) x) : V g Y_Mo_keep 17 [some (vr this), some (vi v1), some (vi v2)] [] m (PM g Y_Mo_keep r m') := by
  unfold Mo_keep_l17 at h
  refine V_iload_n (i := 2) (pc := 17) dX11_keep_17 rfl rfl ?_
  refine V_sipush (v := 200) (pc := 18) dX11_keep_18 rfl ?_
  refine V_icmp_ge (pc := 21) (tgt := 48) dX11_keep_21 rfl (fun q => ?_) (fun q => ?_)
  · have h := ite_t q h
    obtain ⟨y1, hu1, rfl⟩ := up_e h
    have h := hu1
    refine V_aload_n (i := 0) (pc := 48) dX11_keep_48 rfl rfl ?_
    refine V_getR (b := (this + 3)) (pc := 49) dX11_keep_49 fl_Mo_20 h_this rfl rfl ?_
    refine V_iload_n (i := 1) (pc := 52) dX11_keep_52 rfl rfl ?_
    refine V_iconst (v := 1) (pc := 53) dX11_keep_53 rfl ?_
    obtain ⟨hg54, h⟩ := gd_e h
    refine V_zast_lt (pc := 54) dX11_keep_54 (kf_11_3 h_this) (af_11_3 h_this) hg54 h (fun m54 h => ?_)
    refine V_iconst (v := 0) (pc := 55) dX11_keep_55 rfl ?_
    obtain rfl := Option.some.inj h
    exact E_i (pc := 56) dX11_keep_56 rfl hp
  · have h := ite_f q h
    refine V_aload_n (i := 0) (pc := 24) dX11_keep_24 rfl rfl ?_
    refine V_getR (b := (this + 2)) (pc := 25) dX11_keep_25 fl_Mo_17 h_this rfl rfl ?_
    refine V_sipush (v := 200) (pc := 28) dX11_keep_28 rfl ?_
    refine V_iload_n (i := 1) (pc := 31) dX11_keep_31 rfl rfl ?_
    refine V_imul (pc := 32) dX11_keep_32 ?_
    refine V_iload_n (i := 2) (pc := 33) dX11_keep_33 rfl rfl ?_
    refine V_iadd (pc := 34) dX11_keep_34 ?_
    refine V_aload_n (i := 0) (pc := 35) dX11_keep_35 rfl rfl ?_
    refine V_getR (b := (this + 1)) (pc := 36) dX11_keep_36 fl_Mo_13 h_this rfl rfl ?_
    refine V_iload_n (i := 2) (pc := 39) dX11_keep_39 rfl rfl ?_
    obtain ⟨hg40, h⟩ := gd_e h
    refine V_iald (pc := 40) dX11_keep_40 (kf_11_1 h_this) (af_11_1 h_this) hg40 ?_
    obtain ⟨hg41, h⟩ := gd_e h
    refine V_iast_lt (pc := 41) dX11_keep_41 (kf_11_2 h_this) (af_11_2 h_this) hg41 h (fun m41 h => ?_)
    refine V_iinc (i := 2) (v := (v2 + 1)) (ls' := [some (vr this), some (vi v1), some (vi (v2 + 1))]) (pc := 42) dX11_keep_42 rfl rfl (Nat.le_of_ble_eq_true rfl) rfl ?_
    refine V_goto (tgt := 17) (pc := 45) dX11_keep_45 rfl ?_
    obtain rfl := Option.some.inj h
    exact hp
theorem k_Mo_keep {g : GE} {this : Nat} {v1 : Int32} {m : Mem} (h_this : kd this = 12) {r : Option AV} {m' : Mem} {x : Int32 × Mem} (h : Mo_keep this v1 m = some x) (hp : (fun x : Int32 × Mem => r = some (vi x.1) ∧ m' = x.2) x) : V g Y_Mo_keep 0 [some (vr this), some (vi v1), none] [] m (PM g Y_Mo_keep r m') := by
  unfold Mo_keep at h
  refine V_iload_n (i := 1) (pc := 0) dX11_keep_0 rfl rfl ?_
  refine V_i2l (pc := 1) dX11_keep_1 ?_
  refine V_lconst (v := 0) (pc := 2) dX11_keep_2 rfl ?_
  refine V_ldc2 (v := 2) (pc := 3) dX11_keep_3 con_Mo_82 ?_
  obtain ⟨r6, e6, h⟩ := bnd h
  refine V_invS1 (pc := 6) dX11_keep_6 (e_Mo_in  e6) is_Mo_84 (rm_Mo_keep_Mo_in _ _ _) rfl (Nat.le_of_ble_eq_true rfl) rfl ?_
  refine V_if_ne (pc := 9) (tgt := 15) dX11_keep_9 rfl (fun q => ?_) (fun q => ?_)
  · have h := ite_f q h
    refine V_iconst (v := 0) (pc := 15) dX11_keep_15 rfl ?_
    refine V_istore_n (i := 2) (ls' := [some (vr this), some (vi v1), some (vi 0)]) (pc := 16) dX11_keep_16 rfl (Nat.le_of_ble_eq_true rfl) rfl ?_
    exact loop_V (A := fun s : Int32 × Mem => V g Y_Mo_keep 17 [some (vr this), some (vi v1), some (vi s.1)] [] s.2 (PM g Y_Mo_keep r m')) (fun s x h hp => k_Mo_keep_l17 h_this h hp) (0, m) _ h hp
  · have h := ite_t q h
    refine V_bipush (v := (-2)) (pc := 12) dX11_keep_12 rfl ?_
    obtain rfl := Option.some.inj h
    exact E_i (pc := 14) dX11_keep_14 rfl hp
theorem e_Mo_keep {g : GE} {this : Nat} {v1 : Int32} {m : Mem} (h_this : kd this = 12) {x : Int32 × Mem} (h : Mo_keep this v1 m = some x) : Ev g Y_Mo_keep [vr this, vi v1] m (some (vi x.1)) x.2 :=
  Ev_of 1 (by decide +kernel) rfl (Nat.le_of_ble_eq_true rfl) rfl (k_Mo_keep h_this h ⟨rfl, rfl⟩)
theorem k_Mo_back_l29 {g : GE} {this : Nat} {v1 : Int32} {v2 : Int32} {m : Mem} (h_this : kd this = 12) {r : Option AV} {m' : Mem} {x : (Int32 × Mem) ⊕ (Int32 × Mem)} (h : Mo_back_l29 this v1 v2 m = some x) (hp : (Sum.elim (fun s : Int32 × Mem => V g Y_Mo_back 29 [some (vr this), some (vi v1), some (vi s.1)] [] s.2 (PM g Y_Mo_back r m')) (fun x : Int32 × Mem => r = some (vi x.1) ∧ m' = x.2)) x) : V g Y_Mo_back 29 [some (vr this), some (vi v1), some (vi v2)] [] m (PM g Y_Mo_back r m') := by
  unfold Mo_back_l29 at h
  refine V_iload_n (i := 2) (pc := 29) dX11_back_29 rfl rfl ?_
  refine V_sipush (v := 200) (pc := 30) dX11_back_30 rfl ?_
  refine V_icmp_ge (pc := 33) (tgt := 60) dX11_back_33 rfl (fun q => ?_) (fun q => ?_)
  · have h := ite_t q h
    obtain ⟨y1, hu1, rfl⟩ := up_e h
    have h := hu1
    refine V_iconst (v := 0) (pc := 60) dX11_back_60 rfl ?_
    obtain rfl := Option.some.inj h
    exact E_i (pc := 61) dX11_back_61 rfl hp
  · have h := ite_f q h
    refine V_aload_n (i := 0) (pc := 36) dX11_back_36 rfl rfl ?_
    refine V_getR (b := (this + 1)) (pc := 37) dX11_back_37 fl_Mo_13 h_this rfl rfl ?_
    refine V_iload_n (i := 2) (pc := 40) dX11_back_40 rfl rfl ?_
    refine V_aload_n (i := 0) (pc := 41) dX11_back_41 rfl rfl ?_
    refine V_getR (b := (this + 2)) (pc := 42) dX11_back_42 fl_Mo_17 h_this rfl rfl ?_
    refine V_sipush (v := 200) (pc := 45) dX11_back_45 rfl ?_
    refine V_iload_n (i := 1) (pc := 48) dX11_back_48 rfl rfl ?_
    refine V_imul (pc := 49) dX11_back_49 ?_
    refine V_iload_n (i := 2) (pc := 50) dX11_back_50 rfl rfl ?_
    refine V_iadd (pc := 51) dX11_back_51 ?_
    obtain ⟨hg52, h⟩ := gd_e h
    refine V_iald (pc := 52) dX11_back_52 (kf_11_2 h_this) (af_11_2 h_this) hg52 ?_
    obtain ⟨hg53, h⟩ := gd_e h
    refine V_iast_lt (pc := 53) dX11_back_53 (kf_11_1 h_this) (af_11_1 h_this) hg53 h (fun m53 h => ?_)
    refine V_iinc (i := 2) (v := (v2 + 1)) (ls' := [some (vr this), some (vi v1), some (vi (v2 + 1))]) (pc := 54) dX11_back_54 rfl rfl (Nat.le_of_ble_eq_true rfl) rfl ?_
    refine V_goto (tgt := 29) (pc := 57) dX11_back_57 rfl ?_
    obtain rfl := Option.some.inj h
    exact hp
theorem k_Mo_back {g : GE} {this : Nat} {v1 : Int32} {m : Mem} (h_this : kd this = 12) {r : Option AV} {m' : Mem} {x : Int32 × Mem} (h : Mo_back this v1 m = some x) (hp : (fun x : Int32 × Mem => r = some (vi x.1) ∧ m' = x.2) x) : V g Y_Mo_back 0 [some (vr this), some (vi v1), none] [] m (PM g Y_Mo_back r m') := by
  unfold Mo_back at h
  refine V_iload_n (i := 1) (pc := 0) dX11_back_0 rfl rfl ?_
  refine V_i2l (pc := 1) dX11_back_1 ?_
  refine V_lconst (v := 0) (pc := 2) dX11_back_2 rfl ?_
  refine V_ldc2 (v := 2) (pc := 3) dX11_back_3 con_Mo_82 ?_
  obtain ⟨r6, e6, h⟩ := bnd h
  refine V_invS1 (pc := 6) dX11_back_6 (e_Mo_in  e6) is_Mo_84 (rm_Mo_back_Mo_in _ _ _) rfl (Nat.le_of_ble_eq_true rfl) rfl ?_
  refine V_if_ne (pc := 9) (tgt := 15) dX11_back_9 rfl (fun q => ?_) (fun q => ?_)
  · have h := ite_f q h
    refine V_aload_n (i := 0) (pc := 15) dX11_back_15 rfl rfl ?_
    refine V_getR (b := (this + 3)) (pc := 16) dX11_back_16 fl_Mo_20 h_this rfl rfl ?_
    refine V_iload_n (i := 1) (pc := 19) dX11_back_19 rfl rfl ?_
    obtain ⟨hg20, h⟩ := gd_e h
    refine V_zald (pc := 20) dX11_back_20 (kf_11_3 h_this) (af_11_3 h_this) hg20 ?_
    refine V_if_ne (pc := 21) (tgt := 27) dX11_back_21 rfl (fun q => ?_) (fun q => ?_)
    · have h := ite_f q h
      refine V_iconst (v := 0) (pc := 27) dX11_back_27 rfl ?_
      refine V_istore_n (i := 2) (ls' := [some (vr this), some (vi v1), some (vi 0)]) (pc := 28) dX11_back_28 rfl (Nat.le_of_ble_eq_true rfl) rfl ?_
      exact loop_V (A := fun s : Int32 × Mem => V g Y_Mo_back 29 [some (vr this), some (vi v1), some (vi s.1)] [] s.2 (PM g Y_Mo_back r m')) (fun s x h hp => k_Mo_back_l29 h_this h hp) (0, m) _ h hp
    · have h := ite_t q h
      refine V_bipush (v := (-6)) (pc := 24) dX11_back_24 rfl ?_
      obtain rfl := Option.some.inj h
      exact E_i (pc := 26) dX11_back_26 rfl hp
  · have h := ite_t q h
    refine V_bipush (v := (-2)) (pc := 12) dX11_back_12 rfl ?_
    obtain rfl := Option.some.inj h
    exact E_i (pc := 14) dX11_back_14 rfl hp
theorem e_Mo_back {g : GE} {this : Nat} {v1 : Int32} {m : Mem} (h_this : kd this = 12) {x : Int32 × Mem} (h : Mo_back this v1 m = some x) : Ev g Y_Mo_back [vr this, vi v1] m (some (vi x.1)) x.2 :=
  Ev_of 1 (by decide +kernel) rfl (Nat.le_of_ble_eq_true rfl) rfl (k_Mo_back h_this h ⟨rfl, rfl⟩)
theorem k_Mo_isFloe {g : GE} {this : Nat} {m : Mem} (h_this : kd this = 12) {r : Option AV} {m' : Mem} {x : Int32} (h : Mo_isFloe this m = some x) (hp : (fun x : Int32 => r = some (vi x) ∧ m' = m) x) : V g Y_Mo_isFloe 0 [some (vr this)] [] m (PM g Y_Mo_isFloe r m') := by
  unfold Mo_isFloe at h
  refine V_aload_n (i := 0) (pc := 0) dX11_isFloe_0 rfl rfl ?_
  refine V_getR (b := (this + 1)) (pc := 1) dX11_isFloe_1 fl_Mo_13 h_this rfl rfl ?_
  refine V_iconst (v := 1) (pc := 4) dX11_isFloe_4 rfl ?_
  obtain ⟨hg5, h⟩ := gd_e h
  refine V_iald (pc := 5) dX11_isFloe_5 (kf_11_1 h_this) (af_11_1 h_this) hg5 ?_
  refine V_if_le (pc := 6) (tgt := 13) dX11_isFloe_6 rfl (fun q => ?_) (fun q => ?_)
  · have h := ite_t q h
    refine V_iconst (v := 0) (pc := 13) dX11_isFloe_13 rfl ?_
    obtain rfl := Option.some.inj h
    exact E_z (pc := 14) dX11_isFloe_14 rfl rfl hp
  · have h := ite_f q h
    refine V_iconst (v := 1) (pc := 9) dX11_isFloe_9 rfl ?_
    refine V_goto (tgt := 14) (pc := 10) dX11_isFloe_10 rfl ?_
    obtain rfl := Option.some.inj h
    exact E_z (pc := 14) dX11_isFloe_14 rfl rfl hp
theorem e_Mo_isFloe {g : GE} {this : Nat} {m : Mem} (h_this : kd this = 12) {x : Int32} (h : Mo_isFloe this m = some x) : Ev g Y_Mo_isFloe [vr this] m (some (vi x)) m :=
  Ev_of 0 (by decide +kernel) rfl (Nat.le_of_ble_eq_true rfl) rfl (k_Mo_isFloe h_this h ⟨rfl, rfl⟩)
theorem k_Mo_ofCrack {g : GE} {this : Nat} {v1 : Int32} {v2 : Int32} {m : Mem} (h_this : kd this = 12) {r : Option AV} {m' : Mem} {x : Int32} (h : Mo_ofCrack this v1 v2 m = some x) (hp : (fun x : Int32 => r = some (vi x) ∧ m' = m) x) : V g Y_Mo_ofCrack 0 [some (vr this), some (vi v1), some (vi v2)] [] m (PM g Y_Mo_ofCrack r m') := by
  unfold Mo_ofCrack at h
  refine V_aload_n (i := 0) (pc := 0) dX11_ofCrack_0 rfl rfl ?_
  refine V_getR (b := (this + 1)) (pc := 1) dX11_ofCrack_1 fl_Mo_13 h_this rfl rfl ?_
  refine V_bipush (v := 24) (pc := 4) dX11_ofCrack_4 rfl ?_
  refine V_bipush (v := 8) (pc := 6) dX11_ofCrack_6 rfl ?_
  refine V_iload_n (i := 1) (pc := 8) dX11_ofCrack_8 rfl rfl ?_
  refine V_imul (pc := 9) dX11_ofCrack_9 ?_
  refine V_iadd (pc := 10) dX11_ofCrack_10 ?_
  refine V_iload_n (i := 2) (pc := 11) dX11_ofCrack_11 rfl rfl ?_
  refine V_iadd (pc := 12) dX11_ofCrack_12 ?_
  obtain ⟨hg13, h⟩ := gd_e h
  refine V_iald (pc := 13) dX11_ofCrack_13 (kf_11_1 h_this) (af_11_1 h_this) hg13 ?_
  obtain rfl := Option.some.inj h
  exact E_i (pc := 14) dX11_ofCrack_14 rfl hp
theorem e_Mo_ofCrack {g : GE} {this : Nat} {v1 : Int32} {v2 : Int32} {m : Mem} (h_this : kd this = 12) {x : Int32} (h : Mo_ofCrack this v1 v2 m = some x) : Ev g Y_Mo_ofCrack [vr this, vi v1, vi v2] m (some (vi x)) m :=
  Ev_of 0 (by decide +kernel) rfl (Nat.le_of_ble_eq_true rfl) rfl (k_Mo_ofCrack h_this h ⟨rfl, rfl⟩)
theorem k_Mo_ofSort {g : GE} {this : Nat} {v1 : Int32} {v2 : Int32} {m : Mem} (h_this : kd this = 12) {r : Option AV} {m' : Mem} {x : Int32} (h : Mo_ofSort this v1 v2 m = some x) (hp : (fun x : Int32 => r = some (vi x) ∧ m' = m) x) : V g Y_Mo_ofSort 0 [some (vr this), some (vi v1), some (vi v2)] [] m (PM g Y_Mo_ofSort r m') := by
  unfold Mo_ofSort at h
  refine V_aload_n (i := 0) (pc := 0) dX11_ofSort_0 rfl rfl ?_
  refine V_getR (b := (this + 1)) (pc := 1) dX11_ofSort_1 fl_Mo_13 h_this rfl rfl ?_
  refine V_bipush (v := 80) (pc := 4) dX11_ofSort_4 rfl ?_
  refine V_iconst (v := 4) (pc := 6) dX11_ofSort_6 rfl ?_
  refine V_iload_n (i := 1) (pc := 7) dX11_ofSort_7 rfl rfl ?_
  refine V_imul (pc := 8) dX11_ofSort_8 ?_
  refine V_iadd (pc := 9) dX11_ofSort_9 ?_
  refine V_iload_n (i := 2) (pc := 10) dX11_ofSort_10 rfl rfl ?_
  refine V_iadd (pc := 11) dX11_ofSort_11 ?_
  obtain ⟨hg12, h⟩ := gd_e h
  refine V_iald (pc := 12) dX11_ofSort_12 (kf_11_1 h_this) (af_11_1 h_this) hg12 ?_
  obtain rfl := Option.some.inj h
  exact E_i (pc := 13) dX11_ofSort_13 rfl hp
theorem e_Mo_ofSort {g : GE} {this : Nat} {v1 : Int32} {v2 : Int32} {m : Mem} (h_this : kd this = 12) {x : Int32} (h : Mo_ofSort this v1 v2 m = some x) : Ev g Y_Mo_ofSort [vr this, vi v1, vi v2] m (some (vi x)) m :=
  Ev_of 0 (by decide +kernel) rfl (Nat.le_of_ble_eq_true rfl) rfl (k_Mo_ofSort h_this h ⟨rfl, rfl⟩)
theorem k_Mo_ofHeap {g : GE} {this : Nat} {v1 : Int32} {v2 : Int32} {m : Mem} (h_this : kd this = 12) {r : Option AV} {m' : Mem} {x : Int32} (h : Mo_ofHeap this v1 v2 m = some x) (hp : (fun x : Int32 => r = some (vi x) ∧ m' = m) x) : V g Y_Mo_ofHeap 0 [some (vr this), some (vi v1), some (vi v2)] [] m (PM g Y_Mo_ofHeap r m') := by
  unfold Mo_ofHeap at h
  refine V_aload_n (i := 0) (pc := 0) dX11_ofHeap_0 rfl rfl ?_
  refine V_getR (b := (this + 1)) (pc := 1) dX11_ofHeap_1 fl_Mo_13 h_this rfl rfl ?_
  refine V_bipush (v := 116) (pc := 4) dX11_ofHeap_4 rfl ?_
  refine V_bipush (v := 9) (pc := 6) dX11_ofHeap_6 rfl ?_
  refine V_iload_n (i := 1) (pc := 8) dX11_ofHeap_8 rfl rfl ?_
  refine V_imul (pc := 9) dX11_ofHeap_9 ?_
  refine V_iadd (pc := 10) dX11_ofHeap_10 ?_
  refine V_iload_n (i := 2) (pc := 11) dX11_ofHeap_11 rfl rfl ?_
  refine V_iadd (pc := 12) dX11_ofHeap_12 ?_
  obtain ⟨hg13, h⟩ := gd_e h
  refine V_iald (pc := 13) dX11_ofHeap_13 (kf_11_1 h_this) (af_11_1 h_this) hg13 ?_
  obtain rfl := Option.some.inj h
  exact E_i (pc := 14) dX11_ofHeap_14 rfl hp
theorem e_Mo_ofHeap {g : GE} {this : Nat} {v1 : Int32} {v2 : Int32} {m : Mem} (h_this : kd this = 12) {x : Int32} (h : Mo_ofHeap this v1 v2 m = some x) : Ev g Y_Mo_ofHeap [vr this, vi v1, vi v2] m (some (vi x)) m :=
  Ev_of 0 (by decide +kernel) rfl (Nat.le_of_ble_eq_true rfl) rfl (k_Mo_ofHeap h_this h ⟨rfl, rfl⟩)
theorem k_Mo_ofGroup {g : GE} {this : Nat} {v1 : Int32} {v2 : Int32} {m : Mem} (h_this : kd this = 12) {r : Option AV} {m' : Mem} {x : Int32} (h : Mo_ofGroup this v1 v2 m = some x) (hp : (fun x : Int32 => r = some (vi x) ∧ m' = m) x) : V g Y_Mo_ofGroup 0 [some (vr this), some (vi v1), some (vi v2)] [] m (PM g Y_Mo_ofGroup r m') := by
  unfold Mo_ofGroup at h
  refine V_aload_n (i := 0) (pc := 0) dX11_ofGroup_0 rfl rfl ?_
  refine V_getR (b := (this + 1)) (pc := 1) dX11_ofGroup_1 fl_Mo_13 h_this rfl rfl ?_
  refine V_sipush (v := 188) (pc := 4) dX11_ofGroup_4 rfl ?_
  refine V_iconst (v := 3) (pc := 7) dX11_ofGroup_7 rfl ?_
  refine V_iload_n (i := 1) (pc := 8) dX11_ofGroup_8 rfl rfl ?_
  refine V_imul (pc := 9) dX11_ofGroup_9 ?_
  refine V_iadd (pc := 10) dX11_ofGroup_10 ?_
  refine V_iload_n (i := 2) (pc := 11) dX11_ofGroup_11 rfl rfl ?_
  refine V_iadd (pc := 12) dX11_ofGroup_12 ?_
  obtain ⟨hg13, h⟩ := gd_e h
  refine V_iald (pc := 13) dX11_ofGroup_13 (kf_11_1 h_this) (af_11_1 h_this) hg13 ?_
  obtain rfl := Option.some.inj h
  exact E_i (pc := 14) dX11_ofGroup_14 rfl hp
theorem e_Mo_ofGroup {g : GE} {this : Nat} {v1 : Int32} {v2 : Int32} {m : Mem} (h_this : kd this = 12) {x : Int32} (h : Mo_ofGroup this v1 v2 m = some x) : Ev g Y_Mo_ofGroup [vr this, vi v1, vi v2] m (some (vi x)) m :=
  Ev_of 0 (by decide +kernel) rfl (Nat.le_of_ble_eq_true rfl) rfl (k_Mo_ofGroup h_this h ⟨rfl, rfl⟩)
theorem k_Mo_isThere {g : GE} {this : Nat} {v1 : Int32} {m : Mem} (h_this : kd this = 12) {r : Option AV} {m' : Mem} {x : Int32} (h : Mo_isThere this v1 m = some x) (hp : (fun x : Int32 => r = some (vi x) ∧ m' = m) x) : V g Y_Mo_isThere 0 [some (vr this), some (vi v1)] [] m (PM g Y_Mo_isThere r m') := by
  unfold Mo_isThere at h
  refine V_aload_n (i := 0) (pc := 0) dX11_isThere_0 rfl rfl ?_
  refine V_iload_n (i := 1) (pc := 1) dX11_isThere_1 rfl rfl ?_
  refine V_iconst (v := 0) (pc := 2) dX11_isThere_2 rfl ?_
  obtain ⟨r3, e3, h⟩ := bnd h
  refine V_invV1 (c := 11) (pc := 3) dX11_isThere_3 (e_Mo_ofHeap h_this e3) iv_Mo_88 (rm_Mo_isThere_Mo_ofHeap _ _ _) rfl h_this cf_11 rfl (Nat.le_of_ble_eq_true rfl) rfl ?_
  refine V_iconst (v := 1) (pc := 6) dX11_isThere_6 rfl ?_
  refine V_icmp_ne (pc := 7) (tgt := 14) dX11_isThere_7 rfl (fun q => ?_) (fun q => ?_)
  · have h := ite_f q h
    refine V_iconst (v := 0) (pc := 14) dX11_isThere_14 rfl ?_
    obtain rfl := Option.some.inj h
    exact E_z (pc := 15) dX11_isThere_15 rfl rfl hp
  · have h := ite_t q h
    refine V_iconst (v := 1) (pc := 10) dX11_isThere_10 rfl ?_
    refine V_goto (tgt := 15) (pc := 11) dX11_isThere_11 rfl ?_
    obtain rfl := Option.some.inj h
    exact E_z (pc := 15) dX11_isThere_15 rfl rfl hp
theorem e_Mo_isThere {g : GE} {this : Nat} {v1 : Int32} {m : Mem} (h_this : kd this = 12) {x : Int32} (h : Mo_isThere this v1 m = some x) : Ev g Y_Mo_isThere [vr this, vi v1] m (some (vi x)) m :=
  Ev_of 0 (by decide +kernel) rfl (Nat.le_of_ble_eq_true rfl) rfl (k_Mo_isThere h_this h ⟨rfl, rfl⟩)
theorem k_Mo_feed_l55 {g : GE} {this : Nat}  {v6 : Int32} {m : Mem} (h_this : kd this = 12) {r : Option AV} {m' : Mem} {x : (Int32 × Mem) ⊕ (Int32 × Mem)} (h : Mo_feed_l55 this v6 m = some x) (hp : (Sum.elim (fun s : Int32 × Mem => V g Y_Mo_feed 55 [some (vr this), none, none, none, none, none, some (vi s.1)] [] s.2 (PM g Y_Mo_feed r m')) (fun x : Int32 × Mem => r = some (vi x.1) ∧ m' = x.2)) x) : V g Y_Mo_feed 55 [some (vr this), none, none, none, none, none, some (vi v6)] [] m (PM g Y_Mo_feed r m') := by
  unfold Mo_feed_l55 at h
  refine V_iload (i := 6) (pc := 55) dX11_feed_55 rfl ?_
  refine V_bipush (v := 20) (pc := 57) dX11_feed_57 rfl ?_
  refine V_icmp_ge (pc := 59) (tgt := 101) dX11_feed_59 rfl (fun q => ?_) (fun q => ?_)
  · have h := ite_t q h
    obtain ⟨y1, hu1, rfl⟩ := up_e h
    have h := hu1
    refine V_aload_n (i := 0) (pc := 101) dX11_feed_101 rfl rfl ?_
    refine V_dupr (pc := 102) dX11_feed_102 ?_
    refine V_getI (pc := 103) dX11_feed_103 fl_Mo_92 h_this rfl ?_
    refine V_bipush (v := 20) (pc := 106) dX11_feed_106 rfl ?_
    refine V_iadd (pc := 108) dX11_feed_108 ?_
    refine V_putI_lt (pc := 109) dX11_feed_109 fp_Mo_92 h_this rfl rfl rfl h (fun m109 h => ?_)
    refine V_aload_n (i := 0) (pc := 112) dX11_feed_112 rfl rfl ?_
    refine V_getI (pc := 113) dX11_feed_113 fl_Mo_92 h_this rfl ?_
    obtain rfl := Option.some.inj h
    exact E_i (pc := 116) dX11_feed_116 rfl hp
  · have h := ite_f q h
    refine V_aload_n (i := 0) (pc := 62) dX11_feed_62 rfl rfl ?_
    refine V_getR (b := (this + 4)) (pc := 63) dX11_feed_63 fl_Mo_24 h_this rfl rfl ?_
    refine V_aload_n (i := 0) (pc := 66) dX11_feed_66 rfl rfl ?_
    refine V_getI (pc := 67) dX11_feed_67 fl_Mo_92 h_this rfl ?_
    refine V_iload (i := 6) (pc := 70) dX11_feed_70 rfl ?_
    refine V_iadd (pc := 72) dX11_feed_72 ?_
    refine V_aload_n (i := 0) (pc := 73) dX11_feed_73 rfl rfl ?_
    refine V_getR (b := (this + 5)) (pc := 74) dX11_feed_74 fl_Mo_28 h_this rfl rfl ?_
    refine V_iload (i := 6) (pc := 77) dX11_feed_77 rfl ?_
    refine V_iconst (v := 4) (pc := 79) dX11_feed_79 rfl ?_
    refine V_idiv (pc := 80) dX11_feed_80 (by decide) ?_
    obtain ⟨hg81, h⟩ := gd_e h
    refine V_iald (pc := 81) dX11_feed_81 (kf_11_6 h_this) (af_11_6 h_this) hg81 ?_
    refine V_bipush (v := 24) (pc := 82) dX11_feed_82 rfl ?_
    refine V_bipush (v := 8) (pc := 84) dX11_feed_84 rfl ?_
    refine V_iload (i := 6) (pc := 86) dX11_feed_86 rfl ?_
    refine V_iconst (v := 4) (pc := 88) dX11_feed_88 rfl ?_
    refine V_irem (pc := 89) dX11_feed_89 (by decide) ?_
    refine V_imul (pc := 90) dX11_feed_90 ?_
    refine V_isub (pc := 91) dX11_feed_91 ?_
    refine V_ishr (pc := 92) dX11_feed_92 ?_
    refine V_i2b (pc := 93) dX11_feed_93 ?_
    obtain ⟨hg94, h⟩ := gd_e h
    refine V_bast_lt (pc := 94) dX11_feed_94 (kf_11_4 h_this) (af_11_4 h_this) hg94 h (fun m94 h => ?_)
    refine V_iinc (i := 6) (v := (v6 + 1)) (ls' := [some (vr this), none, none, none, none, none, some (vi (v6 + 1))]) (pc := 95) dX11_feed_95 rfl rfl (Nat.le_of_ble_eq_true rfl) rfl ?_
    refine V_goto (tgt := 55) (pc := 98) dX11_feed_98 rfl ?_
    obtain rfl := Option.some.inj h
    exact hp
theorem k_Mo_feed {g : GE} {this : Nat} {v1 : Int32} {v2 : Int32} {v3 : Int32} {v4 : Int32} {v5 : Int32} {m : Mem} (h_this : kd this = 12) {r : Option AV} {m' : Mem} {x : Int32 × Mem} (h : Mo_feed this v1 v2 v3 v4 v5 m = some x) (hp : (fun x : Int32 × Mem => r = some (vi x.1) ∧ m' = x.2) x) : V g Y_Mo_feed 0 [some (vr this), some (vi v1), some (vi v2), some (vi v3), some (vi v4), some (vi v5), none] [] m (PM g Y_Mo_feed r m') := by
  unfold Mo_feed at h
  refine V_aload_n (i := 0) (pc := 0) dX11_feed_0 rfl rfl ?_
  refine V_getI (pc := 1) dX11_feed_1 fl_Mo_92 h_this rfl ?_
  refine V_bipush (v := 20) (pc := 4) dX11_feed_4 rfl ?_
  refine V_iadd (pc := 6) dX11_feed_6 ?_
  refine V_sipush (v := 1600) (pc := 7) dX11_feed_7 rfl ?_
  refine V_icmp_le (pc := 10) (tgt := 15) dX11_feed_10 rfl (fun q => ?_) (fun q => ?_)
  · have h := ite_t q h
    refine V_aload_n (i := 0) (pc := 15) dX11_feed_15 rfl rfl ?_
    refine V_getR (b := (this + 5)) (pc := 16) dX11_feed_16 fl_Mo_28 h_this rfl rfl ?_
    refine V_iconst (v := 0) (pc := 19) dX11_feed_19 rfl ?_
    refine V_iload_n (i := 1) (pc := 20) dX11_feed_20 rfl rfl ?_
    obtain ⟨hg21, h⟩ := gd_e h
    refine V_iast_lt (pc := 21) dX11_feed_21 (kf_11_6 h_this) (af_11_6 h_this) hg21 h (fun m21 h => ?_)
    refine V_aload_n (i := 0) (pc := 22) dX11_feed_22 rfl rfl ?_
    refine V_getR (b := (this + 5)) (pc := 23) dX11_feed_23 fl_Mo_28 h_this rfl rfl ?_
    refine V_iconst (v := 1) (pc := 26) dX11_feed_26 rfl ?_
    refine V_iload_n (i := 2) (pc := 27) dX11_feed_27 rfl rfl ?_
    obtain ⟨hg28, h⟩ := gd_e h
    refine V_iast_lt (pc := 28) dX11_feed_28 (kf_11_6 h_this) (af_11_6 h_this) hg28 h (fun m28 h => ?_)
    refine V_aload_n (i := 0) (pc := 29) dX11_feed_29 rfl rfl ?_
    refine V_getR (b := (this + 5)) (pc := 30) dX11_feed_30 fl_Mo_28 h_this rfl rfl ?_
    refine V_iconst (v := 2) (pc := 33) dX11_feed_33 rfl ?_
    refine V_iload_n (i := 3) (pc := 34) dX11_feed_34 rfl rfl ?_
    obtain ⟨hg35, h⟩ := gd_e h
    refine V_iast_lt (pc := 35) dX11_feed_35 (kf_11_6 h_this) (af_11_6 h_this) hg35 h (fun m35 h => ?_)
    refine V_aload_n (i := 0) (pc := 36) dX11_feed_36 rfl rfl ?_
    refine V_getR (b := (this + 5)) (pc := 37) dX11_feed_37 fl_Mo_28 h_this rfl rfl ?_
    refine V_iconst (v := 3) (pc := 40) dX11_feed_40 rfl ?_
    refine V_iload (i := 4) (pc := 41) dX11_feed_41 rfl ?_
    obtain ⟨hg43, h⟩ := gd_e h
    refine V_iast_lt (pc := 43) dX11_feed_43 (kf_11_6 h_this) (af_11_6 h_this) hg43 h (fun m43 h => ?_)
    refine V_aload_n (i := 0) (pc := 44) dX11_feed_44 rfl rfl ?_
    refine V_getR (b := (this + 5)) (pc := 45) dX11_feed_45 fl_Mo_28 h_this rfl rfl ?_
    refine V_iconst (v := 4) (pc := 48) dX11_feed_48 rfl ?_
    refine V_iload (i := 5) (pc := 49) dX11_feed_49 rfl ?_
    obtain ⟨hg51, h⟩ := gd_e h
    refine V_iast_lt (pc := 51) dX11_feed_51 (kf_11_6 h_this) (af_11_6 h_this) hg51 h (fun m51 h => ?_)
    refine V_iconst (v := 0) (pc := 52) dX11_feed_52 rfl ?_
    refine V_istore (i := 6) (ls' := [some (vr this), some (vi v1), some (vi v2), some (vi v3), some (vi v4), some (vi v5), some (vi 0)]) (pc := 53) dX11_feed_53 (Nat.le_of_ble_eq_true rfl) rfl ?_
    refine V_sub (ls' := [some (vr this), none, none, none, none, none, some (vi 0)]) (And.intro rfl (And.intro rfl trivial)) ?_
    exact loop_V (A := fun s : Int32 × Mem => V g Y_Mo_feed 55 [some (vr this), none, none, none, none, none, some (vi s.1)] [] s.2 (PM g Y_Mo_feed r m')) (fun s x h hp => k_Mo_feed_l55 h_this h hp) (0, m51) _ h hp
  · have h := ite_f q h
    refine V_iconst (v := (-1)) (pc := 13) dX11_feed_13 rfl ?_
    obtain rfl := Option.some.inj h
    exact E_i (pc := 14) dX11_feed_14 rfl hp
theorem e_Mo_feed {g : GE} {this : Nat} {v1 : Int32} {v2 : Int32} {v3 : Int32} {v4 : Int32} {v5 : Int32} {m : Mem} (h_this : kd this = 12) {x : Int32 × Mem} (h : Mo_feed this v1 v2 v3 v4 v5 m = some x) : Ev g Y_Mo_feed [vr this, vi v1, vi v2, vi v3, vi v4, vi v5] m (some (vi x.1)) x.2 :=
  Ev_of 1 (by decide +kernel) rfl (Nat.le_of_ble_eq_true rfl) rfl (k_Mo_feed h_this h ⟨rfl, rfl⟩)
theorem k_Mo_end {g : GE} {this : Nat} {v1 : Int32} {m : Mem} (h_this : kd this = 12) {r : Option AV} {m' : Mem} {x : Int32 × Mem} (h : Mo_end this v1 m = some x) (hp : (fun x : Int32 × Mem => r = some (vi x.1) ∧ m' = x.2) x) : V g Y_Mo_end 0 [some (vr this), some (vi v1)] [] m (PM g Y_Mo_end r m') := by
  unfold Mo_end at h
  refine V_iload_n (i := 1) (pc := 0) dX11_end_0 rfl rfl ?_
  refine V_i2l (pc := 1) dX11_end_1 ?_
  refine V_lconst (v := 0) (pc := 2) dX11_end_2 rfl ?_
  refine V_aload_n (i := 0) (pc := 3) dX11_end_3 rfl rfl ?_
  refine V_getI (pc := 4) dX11_end_4 fl_Mo_92 h_this rfl ?_
  refine V_i2l (pc := 7) dX11_end_7 ?_
  obtain ⟨r8, e8, h⟩ := bnd h
  refine V_invS1 (pc := 8) dX11_end_8 (e_Mo_in  e8) is_Mo_84 (rm_Mo_end_Mo_in _ _ _) rfl (Nat.le_of_ble_eq_true rfl) rfl ?_
  refine V_if_ne (pc := 11) (tgt := 16) dX11_end_11 rfl (fun q => ?_) (fun q => ?_)
  · have h := ite_f q h
    refine V_aload_n (i := 0) (pc := 16) dX11_end_16 rfl rfl ?_
    refine V_iload_n (i := 1) (pc := 17) dX11_end_17 rfl rfl ?_
    refine V_putI_lt (pc := 18) dX11_end_18 fp_Mo_92 h_this rfl rfl rfl h (fun m18 h => ?_)
    refine V_iload_n (i := 1) (pc := 21) dX11_end_21 rfl rfl ?_
    obtain rfl := Option.some.inj h
    exact E_i (pc := 22) dX11_end_22 rfl hp
  · have h := ite_t q h
    refine V_iconst (v := (-1)) (pc := 14) dX11_end_14 rfl ?_
    obtain rfl := Option.some.inj h
    exact E_i (pc := 15) dX11_end_15 rfl hp
theorem e_Mo_end {g : GE} {this : Nat} {v1 : Int32} {m : Mem} (h_this : kd this = 12) {x : Int32 × Mem} (h : Mo_end this v1 m = some x) : Ev g Y_Mo_end [vr this, vi v1] m (some (vi x.1)) x.2 :=
  Ev_of 0 (by decide +kernel) rfl (Nat.le_of_ble_eq_true rfl) rfl (k_Mo_end h_this h ⟨rfl, rfl⟩)
theorem k_Mo_see {g : GE} {this : Nat} {v1 : Int32} {m : Mem} (h_this : kd this = 12) {r : Option AV} {m' : Mem} {x : Int32} (h : Mo_see this v1 m = some x) (hp : (fun x : Int32 => r = some (vi x) ∧ m' = m) x) : V g Y_Mo_see 0 [some (vr this), some (vi v1)] [] m (PM g Y_Mo_see r m') := by
  unfold Mo_see at h
  refine V_iload_n (i := 1) (pc := 0) dX11_see_0 rfl rfl ?_
  refine V_aload_n (i := 0) (pc := 1) dX11_see_1 rfl rfl ?_
  refine V_getI (pc := 2) dX11_see_2 fl_Mo_95 h_this rfl ?_
  refine V_icmp_ge (pc := 5) (tgt := 21) dX11_see_5 rfl (fun q => ?_) (fun q => ?_)
  · have h := ite_t q h
    refine V_iconst (v := (-1)) (pc := 21) dX11_see_21 rfl ?_
    obtain rfl := Option.some.inj h
    exact E_i (pc := 22) dX11_see_22 rfl hp
  · have h := ite_f q h
    refine V_aload_n (i := 0) (pc := 8) dX11_see_8 rfl rfl ?_
    refine V_getR (b := (this + 4)) (pc := 9) dX11_see_9 fl_Mo_24 h_this rfl rfl ?_
    refine V_iload_n (i := 1) (pc := 12) dX11_see_12 rfl rfl ?_
    obtain ⟨hg13, h⟩ := gd_e h
    refine V_bald (pc := 13) dX11_see_13 (kf_11_4 h_this) (af_11_4 h_this) hg13 ?_
    refine V_sipush (v := 255) (pc := 14) dX11_see_14 rfl ?_
    refine V_iand (pc := 17) dX11_see_17 ?_
    refine V_goto (tgt := 22) (pc := 18) dX11_see_18 rfl ?_
    obtain rfl := Option.some.inj h
    exact E_i (pc := 22) dX11_see_22 rfl hp
theorem e_Mo_see {g : GE} {this : Nat} {v1 : Int32} {m : Mem} (h_this : kd this = 12) {x : Int32} (h : Mo_see this v1 m = some x) : Ev g Y_Mo_see [vr this, vi v1] m (some (vi x)) m :=
  Ev_of 0 (by decide +kernel) rfl (Nat.le_of_ble_eq_true rfl) rfl (k_Mo_see h_this h ⟨rfl, rfl⟩)
theorem k_Mo_advance_b26 {g : GE} {this : Nat}   {m : Mem} (h_this : kd this = 12) {r : Option AV} {m' : Mem} {x : (Mem) ⊕ (Mem)} (h : Mo_advance_b26 this m = some x) (hp : (Sum.elim (fun s : Mem => V g Y_Mo_advance 0 [some (vr this), none] [] s (PM g Y_Mo_advance r m')) (fun x : Mem => r = none ∧ m' = x)) x) : V g Y_Mo_advance 26 [some (vr this), none] [] m (PM g Y_Mo_advance r m') := by
  unfold Mo_advance_b26 at h
  refine V_aload_n (i := 0) (pc := 26) dX11_advance_26 rfl rfl ?_
  refine V_dupr (pc := 27) dX11_advance_27 ?_
  refine V_getI (pc := 28) dX11_advance_28 fl_Mo_98 h_this rfl ?_
  refine V_iconst (v := 1) (pc := 31) dX11_advance_31 rfl ?_
  refine V_iadd (pc := 32) dX11_advance_32 ?_
  refine V_putI_lt (pc := 33) dX11_advance_33 fp_Mo_98 h_this rfl rfl rfl h (fun m33 h => ?_)
  refine V_goto (tgt := 0) (pc := 36) dX11_advance_36 rfl ?_
  obtain rfl := Option.some.inj h
  exact hp
theorem k_Mo_advance_b226 {g : GE} {this : Nat} {k1 : Int32}  {m : Mem} (h_this : kd this = 12) {r : Option AV} {m' : Mem} {x : Mem} (h : Mo_advance_b226 this k1 m = some x) (hp : (fun x : Mem => r = none ∧ m' = x) x) : V g Y_Mo_advance 226 [some (vr this), none] [vi k1, vr this] m (PM g Y_Mo_advance r m') := by
  unfold Mo_advance_b226 at h
  refine V_putI_lt (pc := 226) dX11_advance_226 fp_Mo_108 h_this rfl rfl rfl h (fun m226 h => ?_)
  refine V_aload_n (i := 0) (pc := 229) dX11_advance_229 rfl rfl ?_
  refine V_dupr (pc := 230) dX11_advance_230 ?_
  refine V_getI (pc := 231) dX11_advance_231 fl_Mo_98 h_this rfl ?_
  refine V_iconst (v := 1) (pc := 234) dX11_advance_234 rfl ?_
  refine V_iadd (pc := 235) dX11_advance_235 ?_
  refine V_putI_lt (pc := 236) dX11_advance_236 fp_Mo_98 h_this rfl rfl rfl h (fun m236 h => ?_)
  obtain rfl := Option.some.inj h
  exact E_v (pc := 239) dX11_advance_239 rfl hp
theorem k_Mo_advance_l144 {g : GE} {this : Nat}   {m : Mem} (h_this : kd this = 12) {r : Option AV} {m' : Mem} {x : (Mem) ⊕ (Mem)} (h : Mo_advance_l144 this m = some x) (hp : (Sum.elim (fun s : Mem => V g Y_Mo_advance 144 [some (vr this), none] [] s (PM g Y_Mo_advance r m')) (fun x : Mem => r = none ∧ m' = x)) x) : V g Y_Mo_advance 144 [some (vr this), none] [] m (PM g Y_Mo_advance r m') := by
  unfold Mo_advance_l144 at h
  refine V_aload_n (i := 0) (pc := 144) dX11_advance_144 rfl rfl ?_
  refine V_aload_n (i := 0) (pc := 145) dX11_advance_145 rfl rfl ?_
  refine V_getI (pc := 146) dX11_advance_146 fl_Mo_98 h_this rfl ?_
  obtain ⟨r149, e149, h⟩ := bnd h
  refine V_invV1 (c := 11) (pc := 149) dX11_advance_149 (e_Mo_see h_this e149) iv_Mo_101 (rm_Mo_advance_Mo_see _ _ _) rfl h_this cf_11 rfl (Nat.le_of_ble_eq_true rfl) rfl ?_
  refine V_i2l (pc := 152) dX11_advance_152 ?_
  refine V_ldc2 (v := 48) (pc := 153) dX11_advance_153 con_Mo_115 ?_
  refine V_ldc2 (v := 57) (pc := 156) dX11_advance_156 con_Mo_117 ?_
  obtain ⟨r159, e159, h⟩ := bnd h
  refine V_invS1 (pc := 159) dX11_advance_159 (e_Mo_in  e159) is_Mo_84 (rm_Mo_advance_Mo_in _ _ _) rfl (Nat.le_of_ble_eq_true rfl) rfl ?_
  refine V_if_eq (pc := 162) (tgt := 206) dX11_advance_162 rfl (fun q => ?_) (fun q => ?_)
  · have h := ite_t q h
    obtain ⟨y2, hu2, rfl⟩ := up_e h
    have h := hu2
    refine V_aload_n (i := 0) (pc := 206) dX11_advance_206 rfl rfl ?_
    refine V_iconst (v := 2) (pc := 207) dX11_advance_207 rfl ?_
    refine V_putI_lt (pc := 208) dX11_advance_208 fp_Mo_108 h_this rfl rfl rfl h (fun m208 h => ?_)
    refine V_goto (tgt := 239) (pc := 211) dX11_advance_211 rfl ?_
    obtain rfl := Option.some.inj h
    exact E_v (pc := 239) dX11_advance_239 rfl hp
  · have h := ite_f q h
    refine V_aload_n (i := 0) (pc := 165) dX11_advance_165 rfl rfl ?_
    refine V_ldc (v := 99999) (pc := 166) dX11_advance_166 con_Mo_122 ?_
    refine V_bipush (v := 10) (pc := 168) dX11_advance_168 rfl ?_
    refine V_aload_n (i := 0) (pc := 170) dX11_advance_170 rfl rfl ?_
    refine V_getI (pc := 171) dX11_advance_171 fl_Mo_119 h_this rfl ?_
    refine V_imul (pc := 174) dX11_advance_174 ?_
    refine V_aload_n (i := 0) (pc := 175) dX11_advance_175 rfl rfl ?_
    refine V_aload_n (i := 0) (pc := 176) dX11_advance_176 rfl rfl ?_
    refine V_getI (pc := 177) dX11_advance_177 fl_Mo_98 h_this rfl ?_
    obtain ⟨r180, e180, h⟩ := bnd h
    refine V_invV1 (c := 11) (pc := 180) dX11_advance_180 (e_Mo_see h_this e180) iv_Mo_101 (rm_Mo_advance_Mo_see _ _ _) rfl h_this cf_11 rfl (Nat.le_of_ble_eq_true rfl) rfl ?_
    refine V_iadd (pc := 183) dX11_advance_183 ?_
    refine V_bipush (v := 48) (pc := 184) dX11_advance_184 rfl ?_
    refine V_isub (pc := 186) dX11_advance_186 ?_
    refine V_mmin (pc := 187) dX11_advance_187 ma_Mo_123 (rmM_Mo_advance _ _ _) (Nat.le_of_ble_eq_true rfl) ?_
    refine V_putI_lt (pc := 190) dX11_advance_190 fp_Mo_119 h_this rfl rfl rfl h (fun m190 h => ?_)
    refine V_aload_n (i := 0) (pc := 193) dX11_advance_193 rfl rfl ?_
    refine V_dupr (pc := 194) dX11_advance_194 ?_
    refine V_getI (pc := 195) dX11_advance_195 fl_Mo_98 h_this rfl ?_
    refine V_iconst (v := 1) (pc := 198) dX11_advance_198 rfl ?_
    refine V_iadd (pc := 199) dX11_advance_199 ?_
    refine V_putI_lt (pc := 200) dX11_advance_200 fp_Mo_98 h_this rfl rfl rfl h (fun m200 h => ?_)
    refine V_goto (tgt := 144) (pc := 203) dX11_advance_203 rfl ?_
    obtain rfl := Option.some.inj h
    exact hp
theorem k_Mo_advance_l83 {g : GE} {this : Nat}   {m : Mem} (h_this : kd this = 12) {r : Option AV} {m' : Mem} {x : (Mem) ⊕ (Mem)} (h : Mo_advance_l83 this m = some x) (hp : (Sum.elim (fun s : Mem => V g Y_Mo_advance 83 [some (vr this), none] [] s (PM g Y_Mo_advance r m')) (fun x : Mem => r = none ∧ m' = x)) x) : V g Y_Mo_advance 83 [some (vr this), none] [] m (PM g Y_Mo_advance r m') := by
  unfold Mo_advance_l83 at h
  refine V_aload_n (i := 0) (pc := 83) dX11_advance_83 rfl rfl ?_
  refine V_aload_n (i := 0) (pc := 84) dX11_advance_84 rfl rfl ?_
  refine V_getI (pc := 85) dX11_advance_85 fl_Mo_98 h_this rfl ?_
  obtain ⟨r88, e88, h⟩ := bnd h
  refine V_invV1 (c := 11) (pc := 88) dX11_advance_88 (e_Mo_see h_this e88) iv_Mo_101 (rm_Mo_advance_Mo_see _ _ _) rfl h_this cf_11 rfl (Nat.le_of_ble_eq_true rfl) rfl ?_
  refine V_i2l (pc := 91) dX11_advance_91 ?_
  refine V_ldc2 (v := 97) (pc := 92) dX11_advance_92 con_Mo_111 ?_
  refine V_ldc2 (v := 122) (pc := 95) dX11_advance_95 con_Mo_113 ?_
  obtain ⟨r98, e98, h⟩ := bnd h
  refine V_invS1 (pc := 98) dX11_advance_98 (e_Mo_in  e98) is_Mo_84 (rm_Mo_advance_Mo_in _ _ _) rfl (Nat.le_of_ble_eq_true rfl) rfl ?_
  refine V_if_eq (pc := 101) (tgt := 117) dX11_advance_101 rfl (fun q => ?_) (fun q => ?_)
  · have h := ite_t q h
    obtain ⟨y3, hu3, rfl⟩ := up_e h
    have h := hu3
    refine V_aload_n (i := 0) (pc := 117) dX11_advance_117 rfl rfl ?_
    refine V_iconst (v := 1) (pc := 118) dX11_advance_118 rfl ?_
    refine V_putI_lt (pc := 119) dX11_advance_119 fp_Mo_108 h_this rfl rfl rfl h (fun m119 h => ?_)
    refine V_goto (tgt := 239) (pc := 122) dX11_advance_122 rfl ?_
    obtain rfl := Option.some.inj h
    exact E_v (pc := 239) dX11_advance_239 rfl hp
  · have h := ite_f q h
    refine V_aload_n (i := 0) (pc := 104) dX11_advance_104 rfl rfl ?_
    refine V_dupr (pc := 105) dX11_advance_105 ?_
    refine V_getI (pc := 106) dX11_advance_106 fl_Mo_98 h_this rfl ?_
    refine V_iconst (v := 1) (pc := 109) dX11_advance_109 rfl ?_
    refine V_iadd (pc := 110) dX11_advance_110 ?_
    refine V_putI_lt (pc := 111) dX11_advance_111 fp_Mo_98 h_this rfl rfl rfl h (fun m111 h => ?_)
    refine V_goto (tgt := 83) (pc := 114) dX11_advance_114 rfl ?_
    obtain rfl := Option.some.inj h
    exact hp
theorem k_Mo_advance_l0 {g : GE} {this : Nat}   {m : Mem} (h_this : kd this = 12) {r : Option AV} {m' : Mem} {x : (Mem) ⊕ (Mem)} (h : Mo_advance_l0 this m = some x) (hp : (Sum.elim (fun s : Mem => V g Y_Mo_advance 0 [some (vr this), none] [] s (PM g Y_Mo_advance r m')) (fun x : Mem => r = none ∧ m' = x)) x) : V g Y_Mo_advance 0 [some (vr this), none] [] m (PM g Y_Mo_advance r m') := by
  unfold Mo_advance_l0 at h
  refine V_aload_n (i := 0) (pc := 0) dX11_advance_0 rfl rfl ?_
  refine V_aload_n (i := 0) (pc := 1) dX11_advance_1 rfl rfl ?_
  refine V_getI (pc := 2) dX11_advance_2 fl_Mo_98 h_this rfl ?_
  obtain ⟨r5, e5, h⟩ := bnd h
  refine V_invV1 (c := 11) (pc := 5) dX11_advance_5 (e_Mo_see h_this e5) iv_Mo_101 (rm_Mo_advance_Mo_see _ _ _) rfl h_this cf_11 rfl (Nat.le_of_ble_eq_true rfl) rfl ?_
  refine V_bipush (v := 32) (pc := 8) dX11_advance_8 rfl ?_
  refine V_icmp_eq (pc := 10) (tgt := 26) dX11_advance_10 rfl (fun q => ?_) (fun q => ?_)
  · have h := ite_t q h
    exact k_Mo_advance_b26 h_this h hp
  · have h := ite_f q h
    refine V_aload_n (i := 0) (pc := 13) dX11_advance_13 rfl rfl ?_
    refine V_aload_n (i := 0) (pc := 14) dX11_advance_14 rfl rfl ?_
    refine V_getI (pc := 15) dX11_advance_15 fl_Mo_98 h_this rfl ?_
    obtain ⟨r18, e18, h⟩ := bnd h
    refine V_invV1 (c := 11) (pc := 18) dX11_advance_18 (e_Mo_see h_this e18) iv_Mo_101 (rm_Mo_advance_Mo_see _ _ _) rfl h_this cf_11 rfl (Nat.le_of_ble_eq_true rfl) rfl ?_
    refine V_bipush (v := 10) (pc := 21) dX11_advance_21 rfl ?_
    refine V_icmp_ne (pc := 23) (tgt := 39) dX11_advance_23 rfl (fun q => ?_) (fun q => ?_)
    · have h := ite_f q h
      obtain ⟨y1, hu1, rfl⟩ := up_e h
      have h := hu1
      refine V_aload_n (i := 0) (pc := 39) dX11_advance_39 rfl rfl ?_
      refine V_aload_n (i := 0) (pc := 40) dX11_advance_40 rfl rfl ?_
      refine V_getI (pc := 41) dX11_advance_41 fl_Mo_98 h_this rfl ?_
      refine V_putI_lt (pc := 44) dX11_advance_44 fp_Mo_105 h_this rfl rfl rfl h (fun m44 h => ?_)
      refine V_aload_n (i := 0) (pc := 47) dX11_advance_47 rfl rfl ?_
      refine V_aload_n (i := 0) (pc := 48) dX11_advance_48 rfl rfl ?_
      refine V_getI (pc := 49) dX11_advance_49 fl_Mo_98 h_this rfl ?_
      obtain ⟨r52, e52, h⟩ := bnd h
      refine V_invV1 (c := 11) (pc := 52) dX11_advance_52 (e_Mo_see h_this e52) iv_Mo_101 (rm_Mo_advance_Mo_see _ _ _) rfl h_this cf_11 rfl (Nat.le_of_ble_eq_true rfl) rfl ?_
      refine V_istore_n (i := 1) (ls' := [some (vr this), some (vi r52)]) (pc := 55) dX11_advance_55 rfl (Nat.le_of_ble_eq_true rfl) rfl ?_
      refine V_iload_n (i := 1) (pc := 56) dX11_advance_56 rfl rfl ?_
      refine V_iconst (v := (-1)) (pc := 57) dX11_advance_57 rfl ?_
      refine V_icmp_ne (pc := 58) (tgt := 69) dX11_advance_58 rfl (fun q => ?_) (fun q => ?_)
      · have h := ite_f q h
        refine V_iload_n (i := 1) (pc := 69) dX11_advance_69 rfl rfl ?_
        refine V_i2l (pc := 70) dX11_advance_70 ?_
        refine V_ldc2 (v := 97) (pc := 71) dX11_advance_71 con_Mo_111 ?_
        refine V_ldc2 (v := 122) (pc := 74) dX11_advance_74 con_Mo_113 ?_
        obtain ⟨r77, e77, h⟩ := bnd h
        refine V_invS1 (pc := 77) dX11_advance_77 (e_Mo_in  e77) is_Mo_84 (rm_Mo_advance_Mo_in _ _ _) rfl (Nat.le_of_ble_eq_true rfl) rfl ?_
        refine V_if_eq (pc := 80) (tgt := 125) dX11_advance_80 rfl (fun q => ?_) (fun q => ?_)
        · have h := ite_t q h
          refine V_iload_n (i := 1) (pc := 125) dX11_advance_125 rfl rfl ?_
          refine V_i2l (pc := 126) dX11_advance_126 ?_
          refine V_ldc2 (v := 48) (pc := 127) dX11_advance_127 con_Mo_115 ?_
          refine V_ldc2 (v := 57) (pc := 130) dX11_advance_130 con_Mo_117 ?_
          obtain ⟨r133, e133, h⟩ := bnd h
          refine V_invS1 (pc := 133) dX11_advance_133 (e_Mo_in  e133) is_Mo_84 (rm_Mo_advance_Mo_in _ _ _) rfl (Nat.le_of_ble_eq_true rfl) rfl ?_
          refine V_if_eq (pc := 136) (tgt := 214) dX11_advance_136 rfl (fun q => ?_) (fun q => ?_)
          · have h := ite_t q h
            refine V_aload_n (i := 0) (pc := 214) dX11_advance_214 rfl rfl ?_
            refine V_iload_n (i := 1) (pc := 215) dX11_advance_215 rfl rfl ?_
            refine V_bipush (v := 59) (pc := 216) dX11_advance_216 rfl ?_
            refine V_icmp_ne (pc := 218) (tgt := 225) dX11_advance_218 rfl (fun q => ?_) (fun q => ?_)
            · have h := ite_f q h
              refine V_iconst (v := 4) (pc := 225) dX11_advance_225 rfl ?_
              refine V_sub (ls' := [some (vr this), none]) (And.intro rfl trivial) ?_
              exact k_Mo_advance_b226 h_this h hp
            · have h := ite_t q h
              refine V_iconst (v := 3) (pc := 221) dX11_advance_221 rfl ?_
              refine V_goto (tgt := 226) (pc := 222) dX11_advance_222 rfl ?_
              refine V_sub (ls' := [some (vr this), none]) (And.intro rfl trivial) ?_
              exact k_Mo_advance_b226 h_this h hp
          · have h := ite_f q h
            refine V_aload_n (i := 0) (pc := 139) dX11_advance_139 rfl rfl ?_
            refine V_iconst (v := 0) (pc := 140) dX11_advance_140 rfl ?_
            refine V_putI_lt (pc := 141) dX11_advance_141 fp_Mo_119 h_this rfl rfl rfl h (fun m141 h => ?_)
            refine V_sub (ls' := [some (vr this), none]) (And.intro rfl trivial) ?_
            exact loop_V (A := fun s : Mem => V g Y_Mo_advance 144 [some (vr this), none] [] s (PM g Y_Mo_advance r m')) (fun s x h hp => k_Mo_advance_l144 h_this h hp) (m141) _ h hp
        · have h := ite_f q h
          refine V_sub (ls' := [some (vr this), none]) (And.intro rfl trivial) ?_
          exact loop_V (A := fun s : Mem => V g Y_Mo_advance 83 [some (vr this), none] [] s (PM g Y_Mo_advance r m')) (fun s x h hp => k_Mo_advance_l83 h_this h hp) (m44) _ h hp
      · have h := ite_t q h
        refine V_aload_n (i := 0) (pc := 61) dX11_advance_61 rfl rfl ?_
        refine V_iconst (v := 0) (pc := 62) dX11_advance_62 rfl ?_
        refine V_putI_lt (pc := 63) dX11_advance_63 fp_Mo_108 h_this rfl rfl rfl h (fun m63 h => ?_)
        refine V_goto (tgt := 239) (pc := 66) dX11_advance_66 rfl ?_
        obtain rfl := Option.some.inj h
        exact E_v (pc := 239) dX11_advance_239 rfl hp
    · have h := ite_t q h
      exact k_Mo_advance_b26 h_this h hp
theorem k_Mo_advance {g : GE} {this : Nat} {m : Mem} (h_this : kd this = 12) {r : Option AV} {m' : Mem} {x : Mem} (h : Mo_advance this m = some x) (hp : (fun x : Mem => r = none ∧ m' = x) x) : V g Y_Mo_advance 0 [some (vr this), none] [] m (PM g Y_Mo_advance r m') := by
  unfold Mo_advance at h
  exact loop_V (A := fun s : Mem => V g Y_Mo_advance 0 [some (vr this), none] [] s (PM g Y_Mo_advance r m')) (fun s x h hp => k_Mo_advance_l0 h_this h hp) (m) _ h hp
theorem e_Mo_advance {g : GE} {this : Nat} {m : Mem} (h_this : kd this = 12) {x : Mem} (h : Mo_advance this m = some x) : Ev g Y_Mo_advance [vr this] m (none) x :=
  Ev_of 1 (by decide +kernel) rfl (Nat.le_of_ble_eq_true rfl) rfl (k_Mo_advance h_this h ⟨rfl, rfl⟩)
theorem k_Mo_good {g : GE} {this : Nat} {m : Mem} (h_this : kd this = 12) {r : Option AV} {m' : Mem} {x : Int32} (h : Mo_good this m = some x) (hp : (fun x : Int32 => r = some (vi x) ∧ m' = m) x) : V g Y_Mo_good 0 [some (vr this)] [] m (PM g Y_Mo_good r m') := by
  unfold Mo_good at h
  refine V_aload_n (i := 0) (pc := 0) dX11_good_0 rfl rfl ?_
  refine V_getI (pc := 1) dX11_good_1 fl_Mo_128 h_this rfl ?_
  refine V_if_ne (pc := 4) (tgt := 11) dX11_good_4 rfl (fun q => ?_) (fun q => ?_)
  · have h := ite_f q h
    refine V_iconst (v := 0) (pc := 11) dX11_good_11 rfl ?_
    obtain rfl := Option.some.inj h
    exact E_z (pc := 12) dX11_good_12 rfl rfl hp
  · have h := ite_t q h
    refine V_iconst (v := 1) (pc := 7) dX11_good_7 rfl ?_
    refine V_goto (tgt := 12) (pc := 8) dX11_good_8 rfl ?_
    obtain rfl := Option.some.inj h
    exact E_z (pc := 12) dX11_good_12 rfl rfl hp
theorem e_Mo_good {g : GE} {this : Nat} {m : Mem} (h_this : kd this = 12) {x : Int32} (h : Mo_good this m = some x) : Ev g Y_Mo_good [vr this] m (some (vi x)) m :=
  Ev_of 0 (by decide +kernel) rfl (Nat.le_of_ble_eq_true rfl) rfl (k_Mo_good h_this h ⟨rfl, rfl⟩)
theorem k_Mo_errs {g : GE} {this : Nat} {v1 : Int32} {m : Mem} (h_this : kd this = 12) {r : Option AV} {m' : Mem} {x : Mem} (h : Mo_errs this v1 m = some x) (hp : (fun x : Mem => r = none ∧ m' = x) x) : V g Y_Mo_errs 0 [some (vr this), some (vi v1)] [] m (PM g Y_Mo_errs r m') := by
  unfold Mo_errs at h
  refine V_aload_n (i := 0) (pc := 0) dX11_errs_0 rfl rfl ?_
  obtain ⟨r1, e1, h⟩ := bnd h
  refine V_invV1 (c := 11) (pc := 1) dX11_errs_1 (e_Mo_good h_this e1) iv_Mo_131 (rm_Mo_errs_Mo_good _ _ _) rfl h_this cf_11 rfl (Nat.le_of_ble_eq_true rfl) rfl ?_
  refine V_if_ne (pc := 4) (tgt := 8) dX11_errs_4 rfl (fun q => ?_) (fun q => ?_)
  · have h := ite_f q h
    refine V_aload_n (i := 0) (pc := 8) dX11_errs_8 rfl rfl ?_
    refine V_iload_n (i := 1) (pc := 9) dX11_errs_9 rfl rfl ?_
    refine V_putI_lt (pc := 10) dX11_errs_10 fp_Mo_128 h_this rfl rfl rfl h (fun m10 h => ?_)
    refine V_aload_n (i := 0) (pc := 13) dX11_errs_13 rfl rfl ?_
    refine V_aload_n (i := 0) (pc := 14) dX11_errs_14 rfl rfl ?_
    refine V_getI (pc := 15) dX11_errs_15 fl_Mo_105 h_this rfl ?_
    refine V_putI_lt (pc := 18) dX11_errs_18 fp_Mo_31 h_this rfl rfl rfl h (fun m18 h => ?_)
    obtain rfl := Option.some.inj h
    exact E_v (pc := 21) dX11_errs_21 rfl hp
  · have h := ite_t q h
    obtain rfl := Option.some.inj h
    exact E_v (pc := 7) dX11_errs_7 rfl hp
theorem e_Mo_errs {g : GE} {this : Nat} {v1 : Int32} {m : Mem} (h_this : kd this = 12) {x : Mem} (h : Mo_errs this v1 m = some x) : Ev g Y_Mo_errs [vr this, vi v1] m (none) x :=
  Ev_of 0 (by decide +kernel) rfl (Nat.le_of_ble_eq_true rfl) rfl (k_Mo_errs h_this h ⟨rfl, rfl⟩)
theorem k_Mo_is_b75 {g : GE} {this : Nat} {v1 : Nat} {v3 : Int32} {k0 : Int32}  {m : Mem} (h_this : kd this = 12) (h_v1 : isS v1) {r : Option AV} {m' : Mem} {x : (Int32 × Int32) ⊕ (Int32)} (h : Mo_is_b75 this v1 v3 k0 m = some x) (hp : (Sum.elim (fun s : Int32 × Int32 => V g Y_Mo_is 39 [some (vr this), some (vr v1), some (vi s.1), some (vi s.2)] [] m (PM g Y_Mo_is r m')) (fun x : Int32 => r = some (vi x) ∧ m' = m)) x) : V g Y_Mo_is 75 [some (vr this), some (vr v1), none, some (vi v3)] [vi k0] m (PM g Y_Mo_is r m') := by
  unfold Mo_is_b75 at h
  refine V_istore_n (i := 2) (ls' := [some (vr this), some (vr v1), some (vi k0), some (vi v3)]) (pc := 75) dX11_is_75 rfl (Nat.le_of_ble_eq_true rfl) rfl ?_
  refine V_iinc (i := 3) (v := (v3 + 1)) (ls' := [some (vr this), some (vr v1), some (vi k0), some (vi (v3 + 1))]) (pc := 76) dX11_is_76 rfl rfl (Nat.le_of_ble_eq_true rfl) rfl ?_
  refine V_goto (tgt := 39) (pc := 79) dX11_is_79 rfl ?_
  obtain rfl := Option.some.inj h
  exact hp
theorem k_Mo_is_l39 {g : GE} {this : Nat} {v1 : Nat}  {v2 : Int32} {v3 : Int32} {m : Mem} (h_this : kd this = 12) (h_v1 : isS v1) {r : Option AV} {m' : Mem} {x : (Int32 × Int32) ⊕ (Int32)} (h : Mo_is_l39 this v1 v2 v3 m = some x) (hp : (Sum.elim (fun s : Int32 × Int32 => V g Y_Mo_is 39 [some (vr this), some (vr v1), some (vi s.1), some (vi s.2)] [] m (PM g Y_Mo_is r m')) (fun x : Int32 => r = some (vi x) ∧ m' = m)) x) : V g Y_Mo_is 39 [some (vr this), some (vr v1), some (vi v2), some (vi v3)] [] m (PM g Y_Mo_is r m') := by
  unfold Mo_is_l39 at h
  refine V_iload_n (i := 3) (pc := 39) dX11_is_39 rfl rfl ?_
  refine V_aload_n (i := 1) (pc := 40) dX11_is_40 rfl rfl ?_
  obtain ⟨r41, e41, h⟩ := bnd h
  refine V_invStr (pc := 41) dX11_is_41 (e_S_length h_v1 e41) iv_Mo_135 (rm_Mo_is_S_length _ _ _) rfl h_v1 rfl (Nat.le_of_ble_eq_true rfl) rfl ?_
  refine V_icmp_ge (pc := 44) (tgt := 82) dX11_is_44 rfl (fun q => ?_) (fun q => ?_)
  · have h := ite_t q h
    obtain ⟨y1, hu1, rfl⟩ := up_e h
    have h := hu1
    refine V_iload_n (i := 2) (pc := 82) dX11_is_82 rfl rfl ?_
    obtain ⟨hz, h⟩ := gd_e h
    obtain rfl := Option.some.inj h
    exact E_z (pc := 83) dX11_is_83 rfl (nar_z hz) hp
  · have h := ite_f q h
    refine V_iload_n (i := 2) (pc := 47) dX11_is_47 rfl rfl ?_
    refine V_if_eq (pc := 48) (tgt := 82) dX11_is_48 rfl (fun q => ?_) (fun q => ?_)
    · have h := ite_t q h
      obtain ⟨y2, hu2, rfl⟩ := up_e h
      have h := hu2
      refine V_iload_n (i := 2) (pc := 82) dX11_is_82 rfl rfl ?_
      obtain ⟨hz, h⟩ := gd_e h
      obtain rfl := Option.some.inj h
      exact E_z (pc := 83) dX11_is_83 rfl (nar_z hz) hp
    · have h := ite_f q h
      refine V_aload_n (i := 0) (pc := 51) dX11_is_51 rfl rfl ?_
      refine V_getR (b := (this + 4)) (pc := 52) dX11_is_52 fl_Mo_24 h_this rfl rfl ?_
      refine V_aload_n (i := 0) (pc := 55) dX11_is_55 rfl rfl ?_
      refine V_getI (pc := 56) dX11_is_56 fl_Mo_105 h_this rfl ?_
      refine V_iload_n (i := 3) (pc := 59) dX11_is_59 rfl rfl ?_
      refine V_iadd (pc := 60) dX11_is_60 ?_
      obtain ⟨hg61, h⟩ := gd_e h
      refine V_bald (pc := 61) dX11_is_61 (kf_11_4 h_this) (af_11_4 h_this) hg61 ?_
      refine V_aload_n (i := 1) (pc := 62) dX11_is_62 rfl rfl ?_
      refine V_iload_n (i := 3) (pc := 63) dX11_is_63 rfl rfl ?_
      obtain ⟨r64, e64, h⟩ := bnd h
      refine V_invStr (pc := 64) dX11_is_64 (e_S_charAt h_v1 e64) iv_Mo_141 (rm_Mo_is_S_charAt _ _ _) rfl h_v1 rfl (Nat.le_of_ble_eq_true rfl) rfl ?_
      refine V_icmp_ne (pc := 67) (tgt := 74) dX11_is_67 rfl (fun q => ?_) (fun q => ?_)
      · have h := ite_f q h
        refine V_iconst (v := 0) (pc := 74) dX11_is_74 rfl ?_
        refine V_sub (ls' := [some (vr this), some (vr v1), none, some (vi v3)]) (And.intro rfl (And.intro rfl (And.intro rfl trivial))) ?_
        exact k_Mo_is_b75 h_this h_v1 h hp
      · have h := ite_t q h
        refine V_iconst (v := 1) (pc := 70) dX11_is_70 rfl ?_
        refine V_goto (tgt := 75) (pc := 71) dX11_is_71 rfl ?_
        refine V_sub (ls' := [some (vr this), some (vr v1), none, some (vi v3)]) (And.intro rfl (And.intro rfl (And.intro rfl trivial))) ?_
        exact k_Mo_is_b75 h_this h_v1 h hp
theorem k_Mo_is_b36 {g : GE} {this : Nat} {v1 : Nat} {k0 : Int32}  {m : Mem} (h_this : kd this = 12) (h_v1 : isS v1) {r : Option AV} {m' : Mem} {x : Int32} (h : Mo_is_b36 this v1 k0 m = some x) (hp : (fun x : Int32 => r = some (vi x) ∧ m' = m) x) : V g Y_Mo_is 36 [some (vr this), some (vr v1), none, none] [vi k0] m (PM g Y_Mo_is r m') := by
  unfold Mo_is_b36 at h
  refine V_istore_n (i := 2) (ls' := [some (vr this), some (vr v1), some (vi k0), none]) (pc := 36) dX11_is_36 rfl (Nat.le_of_ble_eq_true rfl) rfl ?_
  refine V_iconst (v := 0) (pc := 37) dX11_is_37 rfl ?_
  refine V_istore_n (i := 3) (ls' := [some (vr this), some (vr v1), some (vi k0), some (vi 0)]) (pc := 38) dX11_is_38 rfl (Nat.le_of_ble_eq_true rfl) rfl ?_
  exact loop_V (A := fun s : Int32 × Int32 => V g Y_Mo_is 39 [some (vr this), some (vr v1), some (vi s.1), some (vi s.2)] [] m (PM g Y_Mo_is r m')) (fun s x h hp => k_Mo_is_l39 h_this h_v1 h hp) (k0, 0) _ h hp
theorem k_Mo_is_b35 {g : GE} {this : Nat} {v1 : Nat}   {m : Mem} (h_this : kd this = 12) (h_v1 : isS v1) {r : Option AV} {m' : Mem} {x : Int32} (h : Mo_is_b35 this v1 m = some x) (hp : (fun x : Int32 => r = some (vi x) ∧ m' = m) x) : V g Y_Mo_is 35 [some (vr this), some (vr v1), none, none] [] m (PM g Y_Mo_is r m') := by
  unfold Mo_is_b35 at h
  refine V_iconst (v := 0) (pc := 35) dX11_is_35 rfl ?_
  exact k_Mo_is_b36 h_this h_v1 h hp
theorem k_Mo_is {g : GE} {this : Nat} {v1 : Nat} {m : Mem} (h_this : kd this = 12) (h_v1 : isS v1) {r : Option AV} {m' : Mem} {x : Int32} (h : Mo_is this v1 m = some x) (hp : (fun x : Int32 => r = some (vi x) ∧ m' = m) x) : V g Y_Mo_is 0 [some (vr this), some (vr v1), none, none] [] m (PM g Y_Mo_is r m') := by
  unfold Mo_is at h
  refine V_aload_n (i := 0) (pc := 0) dX11_is_0 rfl rfl ?_
  obtain ⟨r1, e1, h⟩ := bnd h
  refine V_invV1 (c := 11) (pc := 1) dX11_is_1 (e_Mo_good h_this e1) iv_Mo_131 (rm_Mo_is_Mo_good _ _ _) rfl h_this cf_11 rfl (Nat.le_of_ble_eq_true rfl) rfl ?_
  refine V_if_eq (pc := 4) (tgt := 35) dX11_is_4 rfl (fun q => ?_) (fun q => ?_)
  · have h := ite_t q h
    exact k_Mo_is_b35 h_this h_v1 h hp
  · have h := ite_f q h
    refine V_aload_n (i := 0) (pc := 7) dX11_is_7 rfl rfl ?_
    refine V_getI (pc := 8) dX11_is_8 fl_Mo_108 h_this rfl ?_
    refine V_iconst (v := 1) (pc := 11) dX11_is_11 rfl ?_
    refine V_icmp_ne (pc := 12) (tgt := 35) dX11_is_12 rfl (fun q => ?_) (fun q => ?_)
    · have h := ite_f q h
      exact k_Mo_is_b35 h_this h_v1 h hp
    · have h := ite_t q h
      refine V_aload_n (i := 0) (pc := 15) dX11_is_15 rfl rfl ?_
      refine V_getI (pc := 16) dX11_is_16 fl_Mo_98 h_this rfl ?_
      refine V_aload_n (i := 0) (pc := 19) dX11_is_19 rfl rfl ?_
      refine V_getI (pc := 20) dX11_is_20 fl_Mo_105 h_this rfl ?_
      refine V_isub (pc := 23) dX11_is_23 ?_
      refine V_aload_n (i := 1) (pc := 24) dX11_is_24 rfl rfl ?_
      obtain ⟨r25, e25, h⟩ := bnd h
      refine V_invStr (pc := 25) dX11_is_25 (e_S_length h_v1 e25) iv_Mo_135 (rm_Mo_is_S_length _ _ _) rfl h_v1 rfl (Nat.le_of_ble_eq_true rfl) rfl ?_
      refine V_icmp_ne (pc := 28) (tgt := 35) dX11_is_28 rfl (fun q => ?_) (fun q => ?_)
      · have h := ite_f q h
        exact k_Mo_is_b35 h_this h_v1 h hp
      · have h := ite_t q h
        refine V_iconst (v := 1) (pc := 31) dX11_is_31 rfl ?_
        refine V_goto (tgt := 36) (pc := 32) dX11_is_32 rfl ?_
        exact k_Mo_is_b36 h_this h_v1 h hp
theorem e_Mo_is {g : GE} {this : Nat} {v1 : Nat} {m : Mem} (h_this : kd this = 12) (h_v1 : isS v1) {x : Int32} (h : Mo_is this v1 m = some x) : Ev g Y_Mo_is [vr this, vr v1] m (some (vi x)) m :=
  Ev_of 2 (by decide +kernel) rfl (Nat.le_of_ble_eq_true rfl) rfl (k_Mo_is h_this h_v1 h ⟨rfl, rfl⟩)
theorem k_Mo_takes {g : GE} {this : Nat} {v1 : Nat} {m : Mem} (h_this : kd this = 12) (h_v1 : isS v1) {r : Option AV} {m' : Mem} {x : Int32 × Mem} (h : Mo_takes this v1 m = some x) (hp : (fun x : Int32 × Mem => r = some (vi x.1) ∧ m' = x.2) x) : V g Y_Mo_takes 0 [some (vr this), some (vr v1), none] [] m (PM g Y_Mo_takes r m') := by
  unfold Mo_takes at h
  refine V_aload_n (i := 0) (pc := 0) dX11_takes_0 rfl rfl ?_
  refine V_aload_n (i := 1) (pc := 1) dX11_takes_1 rfl rfl ?_
  obtain ⟨r2, e2, h⟩ := bnd h
  refine V_invV1 (c := 11) (pc := 2) dX11_takes_2 (e_Mo_is h_this h_v1 e2) iv_Mo_145 (rm_Mo_takes_Mo_is _ _ _) rfl h_this cf_11 rfl (Nat.le_of_ble_eq_true rfl) rfl ?_
  refine V_istore_n (i := 2) (ls' := [some (vr this), some (vr v1), some (vi r2)]) (pc := 5) dX11_takes_5 rfl (Nat.le_of_ble_eq_true rfl) rfl ?_
  refine V_iload_n (i := 2) (pc := 6) dX11_takes_6 rfl rfl ?_
  refine V_if_eq (pc := 7) (tgt := 14) dX11_takes_7 rfl (fun q => ?_) (fun q => ?_)
  · have h := ite_t q h
    refine V_iload_n (i := 2) (pc := 14) dX11_takes_14 rfl rfl ?_
    obtain ⟨hz, h⟩ := gd_e h
    obtain rfl := Option.some.inj h
    exact E_z (pc := 15) dX11_takes_15 rfl (nar_z hz) hp
  · have h := ite_f q h
    refine V_aload_n (i := 0) (pc := 10) dX11_takes_10 rfl rfl ?_
    obtain ⟨m11, e11, h⟩ := bnd h
    refine V_invV0 (c := 11) (pc := 11) dX11_takes_11 (e_Mo_advance h_this e11) iv_Mo_149 (rm_Mo_takes_Mo_advance _ _ _) rfl h_this cf_11 rfl (Nat.le_of_ble_eq_true rfl) rfl ?_
    refine V_iload_n (i := 2) (pc := 14) dX11_takes_14 rfl rfl ?_
    obtain ⟨hz, h⟩ := gd_e h
    obtain rfl := Option.some.inj h
    exact E_z (pc := 15) dX11_takes_15 rfl (nar_z hz) hp
theorem e_Mo_takes {g : GE} {this : Nat} {v1 : Nat} {m : Mem} (h_this : kd this = 12) (h_v1 : isS v1) {x : Int32 × Mem} (h : Mo_takes this v1 m = some x) : Ev g Y_Mo_takes [vr this, vr v1] m (some (vi x.1)) x.2 :=
  Ev_of 1 (by decide +kernel) rfl (Nat.le_of_ble_eq_true rfl) rfl (k_Mo_takes h_this h_v1 h ⟨rfl, rfl⟩)
theorem k_Mo_needs {g : GE} {this : Nat} {v1 : Nat} {m : Mem} (h_this : kd this = 12) (h_v1 : isS v1) {r : Option AV} {m' : Mem} {x : Mem} (h : Mo_needs this v1 m = some x) (hp : (fun x : Mem => r = none ∧ m' = x) x) : V g Y_Mo_needs 0 [some (vr this), some (vr v1)] [] m (PM g Y_Mo_needs r m') := by
  unfold Mo_needs at h
  refine V_aload_n (i := 0) (pc := 0) dX11_needs_0 rfl rfl ?_
  refine V_aload_n (i := 1) (pc := 1) dX11_needs_1 rfl rfl ?_
  obtain ⟨r2, e2, h⟩ := bnd h
  refine V_invV1 (c := 11) (pc := 2) dX11_needs_2 (e_Mo_takes h_this h_v1 e2) iv_Mo_152 (rm_Mo_needs_Mo_takes _ _ _) rfl h_this cf_11 rfl (Nat.le_of_ble_eq_true rfl) rfl ?_
  refine V_if_ne (pc := 5) (tgt := 13) dX11_needs_5 rfl (fun q => ?_) (fun q => ?_)
  · have h := ite_f q h
    obtain rfl := Option.some.inj h
    exact E_v (pc := 13) dX11_needs_13 rfl hp
  · have h := ite_t q h
    refine V_aload_n (i := 0) (pc := 8) dX11_needs_8 rfl rfl ?_
    refine V_iconst (v := 1) (pc := 9) dX11_needs_9 rfl ?_
    obtain ⟨m10, e10, h⟩ := bnd h
    refine V_invV0 (c := 11) (pc := 10) dX11_needs_10 (e_Mo_errs h_this e10) iv_Mo_155 (rm_Mo_needs_Mo_errs _ _ _) rfl h_this cf_11 rfl (Nat.le_of_ble_eq_true rfl) rfl ?_
    obtain rfl := Option.some.inj h
    exact E_v (pc := 13) dX11_needs_13 rfl hp
theorem e_Mo_needs {g : GE} {this : Nat} {v1 : Nat} {m : Mem} (h_this : kd this = 12) (h_v1 : isS v1) {x : Mem} (h : Mo_needs this v1 m = some x) : Ev g Y_Mo_needs [vr this, vr v1] m (none) x :=
  Ev_of 0 (by decide +kernel) rfl (Nat.le_of_ble_eq_true rfl) rfl (k_Mo_needs h_this h_v1 h ⟨rfl, rfl⟩)
theorem k_Mo_number_b47 {g : GE} {this : Nat}   {m : Mem} (h_this : kd this = 12) {r : Option AV} {m' : Mem} {x : Int32 × Mem} (h : Mo_number_b47 this m = some x) (hp : (fun x : Int32 × Mem => r = some (vi x.1) ∧ m' = x.2) x) : V g Y_Mo_number 47 [some (vr this), none, none, none] [] m (PM g Y_Mo_number r m') := by
  unfold Mo_number_b47 at h
  refine V_aload_n (i := 0) (pc := 47) dX11_number_47 rfl rfl ?_
  obtain ⟨r48, e48, h⟩ := bnd h
  refine V_invV1 (c := 11) (pc := 48) dX11_number_48 (e_Mo_good h_this e48) iv_Mo_131 (rm_Mo_number_Mo_good _ _ _) rfl h_this cf_11 rfl (Nat.le_of_ble_eq_true rfl) rfl ?_
  refine V_if_ne (pc := 51) (tgt := 56) dX11_number_51 rfl (fun q => ?_) (fun q => ?_)
  · have h := ite_f q h
    refine V_aload_n (i := 0) (pc := 56) dX11_number_56 rfl rfl ?_
    refine V_getI (pc := 57) dX11_number_57 fl_Mo_119 h_this rfl ?_
    refine V_istore_n (i := 3) (ls' := [some (vr this), none, none, some (vi (rI m this 11))]) (pc := 60) dX11_number_60 rfl (Nat.le_of_ble_eq_true rfl) rfl ?_
    refine V_aload_n (i := 0) (pc := 61) dX11_number_61 rfl rfl ?_
    obtain ⟨m62, e62, h⟩ := bnd h
    refine V_invV0 (c := 11) (pc := 62) dX11_number_62 (e_Mo_advance h_this e62) iv_Mo_149 (rm_Mo_number_Mo_advance _ _ _) rfl h_this cf_11 rfl (Nat.le_of_ble_eq_true rfl) rfl ?_
    refine V_iload_n (i := 3) (pc := 65) dX11_number_65 rfl rfl ?_
    obtain rfl := Option.some.inj h
    exact E_i (pc := 66) dX11_number_66 rfl hp
  · have h := ite_t q h
    refine V_iconst (v := 0) (pc := 54) dX11_number_54 rfl ?_
    obtain rfl := Option.some.inj h
    exact E_i (pc := 55) dX11_number_55 rfl hp
theorem k_Mo_number_b20 {g : GE} {this : Nat} {v1 : Int32} {v2 : Int32}  {m : Mem} (h_this : kd this = 12) {r : Option AV} {m' : Mem} {x : Int32 × Mem} (h : Mo_number_b20 this v1 v2 m = some x) (hp : (fun x : Int32 × Mem => r = some (vi x.1) ∧ m' = x.2) x) : V g Y_Mo_number 20 [some (vr this), some (vi v1), some (vi v2), none] [] m (PM g Y_Mo_number r m') := by
  unfold Mo_number_b20 at h
  refine V_aload_n (i := 0) (pc := 20) dX11_number_20 rfl rfl ?_
  obtain ⟨r21, e21, h⟩ := bnd h
  refine V_invV1 (c := 11) (pc := 21) dX11_number_21 (e_Mo_good h_this e21) iv_Mo_131 (rm_Mo_number_Mo_good _ _ _) rfl h_this cf_11 rfl (Nat.le_of_ble_eq_true rfl) rfl ?_
  refine V_if_eq (pc := 24) (tgt := 47) dX11_number_24 rfl (fun q => ?_) (fun q => ?_)
  · have h := ite_t q h
    refine V_sub (ls' := [some (vr this), none, none, none]) (And.intro rfl trivial) ?_
    exact k_Mo_number_b47 h_this h hp
  · have h := ite_f q h
    refine V_aload_n (i := 0) (pc := 27) dX11_number_27 rfl rfl ?_
    refine V_getI (pc := 28) dX11_number_28 fl_Mo_119 h_this rfl ?_
    refine V_i2l (pc := 31) dX11_number_31 ?_
    refine V_iload_n (i := 1) (pc := 32) dX11_number_32 rfl rfl ?_
    refine V_i2l (pc := 33) dX11_number_33 ?_
    refine V_iload_n (i := 2) (pc := 34) dX11_number_34 rfl rfl ?_
    refine V_i2l (pc := 35) dX11_number_35 ?_
    obtain ⟨r36, e36, h⟩ := bnd h
    refine V_invS1 (pc := 36) dX11_number_36 (e_Mo_in  e36) is_Mo_84 (rm_Mo_number_Mo_in _ _ _) rfl (Nat.le_of_ble_eq_true rfl) rfl ?_
    refine V_if_ne (pc := 39) (tgt := 47) dX11_number_39 rfl (fun q => ?_) (fun q => ?_)
    · have h := ite_f q h
      refine V_sub (ls' := [some (vr this), none, none, none]) (And.intro rfl trivial) ?_
      exact k_Mo_number_b47 h_this h hp
    · have h := ite_t q h
      refine V_aload_n (i := 0) (pc := 42) dX11_number_42 rfl rfl ?_
      refine V_iconst (v := 2) (pc := 43) dX11_number_43 rfl ?_
      obtain ⟨m44, e44, h⟩ := bnd h
      refine V_invV0 (c := 11) (pc := 44) dX11_number_44 (e_Mo_errs h_this e44) iv_Mo_155 (rm_Mo_number_Mo_errs _ _ _) rfl h_this cf_11 rfl (Nat.le_of_ble_eq_true rfl) rfl ?_
      refine V_sub (ls' := [some (vr this), none, none, none]) (And.intro rfl trivial) ?_
      exact k_Mo_number_b47 h_this h hp
theorem k_Mo_number {g : GE} {this : Nat} {v1 : Int32} {v2 : Int32} {m : Mem} (h_this : kd this = 12) {r : Option AV} {m' : Mem} {x : Int32 × Mem} (h : Mo_number this v1 v2 m = some x) (hp : (fun x : Int32 × Mem => r = some (vi x.1) ∧ m' = x.2) x) : V g Y_Mo_number 0 [some (vr this), some (vi v1), some (vi v2), none] [] m (PM g Y_Mo_number r m') := by
  unfold Mo_number at h
  refine V_aload_n (i := 0) (pc := 0) dX11_number_0 rfl rfl ?_
  obtain ⟨r1, e1, h⟩ := bnd h
  refine V_invV1 (c := 11) (pc := 1) dX11_number_1 (e_Mo_good h_this e1) iv_Mo_131 (rm_Mo_number_Mo_good _ _ _) rfl h_this cf_11 rfl (Nat.le_of_ble_eq_true rfl) rfl ?_
  refine V_if_eq (pc := 4) (tgt := 20) dX11_number_4 rfl (fun q => ?_) (fun q => ?_)
  · have h := ite_t q h
    exact k_Mo_number_b20 h_this h hp
  · have h := ite_f q h
    refine V_aload_n (i := 0) (pc := 7) dX11_number_7 rfl rfl ?_
    refine V_getI (pc := 8) dX11_number_8 fl_Mo_108 h_this rfl ?_
    refine V_iconst (v := 2) (pc := 11) dX11_number_11 rfl ?_
    refine V_icmp_eq (pc := 12) (tgt := 20) dX11_number_12 rfl (fun q => ?_) (fun q => ?_)
    · have h := ite_t q h
      exact k_Mo_number_b20 h_this h hp
    · have h := ite_f q h
      refine V_aload_n (i := 0) (pc := 15) dX11_number_15 rfl rfl ?_
      refine V_iconst (v := 1) (pc := 16) dX11_number_16 rfl ?_
      obtain ⟨m17, e17, h⟩ := bnd h
      refine V_invV0 (c := 11) (pc := 17) dX11_number_17 (e_Mo_errs h_this e17) iv_Mo_155 (rm_Mo_number_Mo_errs _ _ _) rfl h_this cf_11 rfl (Nat.le_of_ble_eq_true rfl) rfl ?_
      exact k_Mo_number_b20 h_this h hp
theorem e_Mo_number {g : GE} {this : Nat} {v1 : Int32} {v2 : Int32} {m : Mem} (h_this : kd this = 12) {x : Int32 × Mem} (h : Mo_number this v1 v2 m = some x) : Ev g Y_Mo_number [vr this, vi v1, vi v2] m (some (vi x.1)) x.2 :=
  Ev_of 1 (by decide +kernel) rfl (Nat.le_of_ble_eq_true rfl) rfl (k_Mo_number h_this h ⟨rfl, rfl⟩)
theorem k_Mo_told {g : GE} {this : Nat} {v1 : Nat} {v2 : Int32} {v3 : Int32} {m : Mem} (h_this : kd this = 12) (h_v1 : isS v1) {r : Option AV} {m' : Mem} {x : Int32 × Mem} (h : Mo_told this v1 v2 v3 m = some x) (hp : (fun x : Int32 × Mem => r = some (vi x.1) ∧ m' = x.2) x) : V g Y_Mo_told 0 [some (vr this), some (vr v1), some (vi v2), some (vi v3)] [] m (PM g Y_Mo_told r m') := by
  unfold Mo_told at h
  refine V_aload_n (i := 0) (pc := 0) dX11_told_0 rfl rfl ?_
  refine V_aload_n (i := 1) (pc := 1) dX11_told_1 rfl rfl ?_
  obtain ⟨m2, e2, h⟩ := bnd h
  refine V_invV0 (c := 11) (pc := 2) dX11_told_2 (e_Mo_needs h_this h_v1 e2) iv_Mo_159 (rm_Mo_told_Mo_needs _ _ _) rfl h_this cf_11 rfl (Nat.le_of_ble_eq_true rfl) rfl ?_
  refine V_aload_n (i := 0) (pc := 5) dX11_told_5 rfl rfl ?_
  refine V_iload_n (i := 2) (pc := 6) dX11_told_6 rfl rfl ?_
  refine V_iload_n (i := 3) (pc := 7) dX11_told_7 rfl rfl ?_
  obtain ⟨r8, e8, h⟩ := bnd h
  refine V_invV1 (c := 11) (pc := 8) dX11_told_8 (e_Mo_number h_this e8) iv_Mo_163 (rm_Mo_told_Mo_number _ _ _) rfl h_this cf_11 rfl (Nat.le_of_ble_eq_true rfl) rfl ?_
  obtain rfl := Option.some.inj h
  exact E_i (pc := 11) dX11_told_11 rfl hp
theorem e_Mo_told {g : GE} {this : Nat} {v1 : Nat} {v2 : Int32} {v3 : Int32} {m : Mem} (h_this : kd this = 12) (h_v1 : isS v1) {x : Int32 × Mem} (h : Mo_told this v1 v2 v3 m = some x) : Ev g Y_Mo_told [vr this, vr v1, vi v2, vi v3] m (some (vi x.1)) x.2 :=
  Ev_of 0 (by decide +kernel) rfl (Nat.le_of_ble_eq_true rfl) rfl (k_Mo_told h_this h_v1 h ⟨rfl, rfl⟩)
theorem k_Mo_fault {g : GE} {this : Nat} {v1 : Int32} {m : Mem} (h_this : kd this = 12) {r : Option AV} {m' : Mem} {x : Int32} (h : Mo_fault this v1 m = some x) (hp : (fun x : Int32 => r = some (vi x) ∧ m' = m) x) : V g Y_Mo_fault 0 [some (vr this), some (vi v1)] [] m (PM g Y_Mo_fault r m') := by
  unfold Mo_fault at h
  refine V_iload_n (i := 1) (pc := 0) dX11_fault_0 rfl rfl ?_
  refine V_if_ne (pc := 1) (tgt := 11) dX11_fault_1 rfl (fun q => ?_) (fun q => ?_)
  · have h := ite_f q h
    refine V_iload_n (i := 1) (pc := 11) dX11_fault_11 rfl rfl ?_
    refine V_iconst (v := 1) (pc := 12) dX11_fault_12 rfl ?_
    refine V_icmp_ne (pc := 13) (tgt := 23) dX11_fault_13 rfl (fun q => ?_) (fun q => ?_)
    · have h := ite_f q h
      refine V_iconst (v := (-1)) (pc := 23) dX11_fault_23 rfl ?_
      obtain rfl := Option.some.inj h
      exact E_i (pc := 24) dX11_fault_24 rfl hp
    · have h := ite_t q h
      refine V_aload_n (i := 0) (pc := 16) dX11_fault_16 rfl rfl ?_
      refine V_getI (pc := 17) dX11_fault_17 fl_Mo_31 h_this rfl ?_
      refine V_goto (tgt := 24) (pc := 20) dX11_fault_20 rfl ?_
      obtain rfl := Option.some.inj h
      exact E_i (pc := 24) dX11_fault_24 rfl hp
  · have h := ite_t q h
    refine V_aload_n (i := 0) (pc := 4) dX11_fault_4 rfl rfl ?_
    refine V_getI (pc := 5) dX11_fault_5 fl_Mo_128 h_this rfl ?_
    refine V_goto (tgt := 24) (pc := 8) dX11_fault_8 rfl ?_
    obtain rfl := Option.some.inj h
    exact E_i (pc := 24) dX11_fault_24 rfl hp
theorem e_Mo_fault {g : GE} {this : Nat} {v1 : Int32} {m : Mem} (h_this : kd this = 12) {x : Int32} (h : Mo_fault this v1 m = some x) : Ev g Y_Mo_fault [vr this, vi v1] m (some (vi x)) m :=
  Ev_of 0 (by decide +kernel) rfl (Nat.le_of_ble_eq_true rfl) rfl (k_Mo_fault h_this h ⟨rfl, rfl⟩)
theorem k_Mo_readFloe {g : GE} {this : Nat} {m : Mem} (h_this : kd this = 12) {r : Option AV} {m' : Mem} {x : Mem} (h : Mo_readFloe this m = some x) (hp : (fun x : Mem => r = none ∧ m' = x) x) : V g Y_Mo_readFloe 0 [some (vr this)] [] m (PM g Y_Mo_readFloe r m') := by
  unfold Mo_readFloe at h
  refine V_aload_n (i := 0) (pc := 0) dX11_readFloe_0 rfl rfl ?_
  refine V_ldcS (i := 0) (tx := "floe") (pc := 1) dX11_readFloe_1 (by decide +kernel) ?_
  obtain ⟨m3, e3, h⟩ := bnd h
  refine V_invV0 (c := 11) (pc := 3) dX11_readFloe_3 (e_Mo_needs h_this (isS_lit 0 (Nat.le_of_ble_eq_true rfl)) e3) iv_Mo_159 (rm_Mo_readFloe_Mo_needs _ _ _) rfl h_this cf_11 rfl (Nat.le_of_ble_eq_true rfl) rfl ?_
  refine V_aload_n (i := 0) (pc := 6) dX11_readFloe_6 rfl rfl ?_
  refine V_getR (b := (this + 6)) (pc := 7) dX11_readFloe_7 fl_Mo_34 h_this rfl rfl ?_
  refine V_iconst (v := 1) (pc := 10) dX11_readFloe_10 rfl ?_
  refine V_aload_n (i := 0) (pc := 11) dX11_readFloe_11 rfl rfl ?_
  refine V_ldcS (i := 1) (tx := "wide") (pc := 12) dX11_readFloe_12 (by decide +kernel) ?_
  refine V_iconst (v := 2) (pc := 14) dX11_readFloe_14 rfl ?_
  refine V_bipush (v := 12) (pc := 15) dX11_readFloe_15 rfl ?_
  obtain ⟨r17, e17, h⟩ := bnd h
  refine V_invV1 (c := 11) (pc := 17) dX11_readFloe_17 (e_Mo_told h_this (isS_lit 1 (Nat.le_of_ble_eq_true rfl)) e17) iv_Mo_170 (rm_Mo_readFloe_Mo_told _ _ _) rfl h_this cf_11 rfl (Nat.le_of_ble_eq_true rfl) rfl ?_
  obtain ⟨hg20, h⟩ := gd_e h
  refine V_iast_lt (pc := 20) dX11_readFloe_20 (kf_11_14 h_this) (af_11_14 h_this) hg20 h (fun m20 h => ?_)
  refine V_aload_n (i := 0) (pc := 21) dX11_readFloe_21 rfl rfl ?_
  refine V_getR (b := (this + 6)) (pc := 22) dX11_readFloe_22 fl_Mo_34 h_this rfl rfl ?_
  refine V_iconst (v := 2) (pc := 25) dX11_readFloe_25 rfl ?_
  refine V_aload_n (i := 0) (pc := 26) dX11_readFloe_26 rfl rfl ?_
  refine V_ldcS (i := 2) (tx := "deep") (pc := 27) dX11_readFloe_27 (by decide +kernel) ?_
  refine V_iconst (v := 2) (pc := 29) dX11_readFloe_29 rfl ?_
  refine V_bipush (v := 12) (pc := 30) dX11_readFloe_30 rfl ?_
  obtain ⟨r32, e32, h⟩ := bnd h
  refine V_invV1 (c := 11) (pc := 32) dX11_readFloe_32 (e_Mo_told h_this (isS_lit 2 (Nat.le_of_ble_eq_true rfl)) e32) iv_Mo_170 (rm_Mo_readFloe_Mo_told _ _ _) rfl h_this cf_11 rfl (Nat.le_of_ble_eq_true rfl) rfl ?_
  obtain ⟨hg35, h⟩ := gd_e h
  refine V_iast_lt (pc := 35) dX11_readFloe_35 (kf_11_14 h_this) (af_11_14 h_this) hg35 h (fun m35 h => ?_)
  refine V_aload_n (i := 0) (pc := 36) dX11_readFloe_36 rfl rfl ?_
  refine V_getR (b := (this + 6)) (pc := 37) dX11_readFloe_37 fl_Mo_34 h_this rfl rfl ?_
  refine V_iconst (v := 3) (pc := 40) dX11_readFloe_40 rfl ?_
  refine V_aload_n (i := 0) (pc := 41) dX11_readFloe_41 rfl rfl ?_
  refine V_ldcS (i := 3) (tx := "people") (pc := 42) dX11_readFloe_42 (by decide +kernel) ?_
  refine V_iconst (v := 1) (pc := 44) dX11_readFloe_44 rfl ?_
  refine V_bipush (v := 28) (pc := 45) dX11_readFloe_45 rfl ?_
  obtain ⟨r47, e47, h⟩ := bnd h
  refine V_invV1 (c := 11) (pc := 47) dX11_readFloe_47 (e_Mo_told h_this (isS_lit 3 (Nat.le_of_ble_eq_true rfl)) e47) iv_Mo_170 (rm_Mo_readFloe_Mo_told _ _ _) rfl h_this cf_11 rfl (Nat.le_of_ble_eq_true rfl) rfl ?_
  obtain ⟨hg50, h⟩ := gd_e h
  refine V_iast_lt (pc := 50) dX11_readFloe_50 (kf_11_14 h_this) (af_11_14 h_this) hg50 h (fun m50 h => ?_)
  refine V_aload_n (i := 0) (pc := 51) dX11_readFloe_51 rfl rfl ?_
  refine V_getR (b := (this + 6)) (pc := 52) dX11_readFloe_52 fl_Mo_34 h_this rfl rfl ?_
  refine V_iconst (v := 4) (pc := 55) dX11_readFloe_55 rfl ?_
  refine V_aload_n (i := 0) (pc := 56) dX11_readFloe_56 rfl rfl ?_
  refine V_ldcS (i := 4) (tx := "days") (pc := 57) dX11_readFloe_57 (by decide +kernel) ?_
  refine V_iconst (v := 1) (pc := 59) dX11_readFloe_59 rfl ?_
  refine V_bipush (v := 60) (pc := 60) dX11_readFloe_60 rfl ?_
  obtain ⟨r62, e62, h⟩ := bnd h
  refine V_invV1 (c := 11) (pc := 62) dX11_readFloe_62 (e_Mo_told h_this (isS_lit 4 (Nat.le_of_ble_eq_true rfl)) e62) iv_Mo_170 (rm_Mo_readFloe_Mo_told _ _ _) rfl h_this cf_11 rfl (Nat.le_of_ble_eq_true rfl) rfl ?_
  obtain ⟨hg65, h⟩ := gd_e h
  refine V_iast_lt (pc := 65) dX11_readFloe_65 (kf_11_14 h_this) (af_11_14 h_this) hg65 h (fun m65 h => ?_)
  obtain rfl := Option.some.inj h
  exact E_v (pc := 66) dX11_readFloe_66 rfl hp
theorem e_Mo_readFloe {g : GE} {this : Nat} {m : Mem} (h_this : kd this = 12) {x : Mem} (h : Mo_readFloe this m = some x) : Ev g Y_Mo_readFloe [vr this] m (none) x :=
  Ev_of 0 (by decide +kernel) rfl (Nat.le_of_ble_eq_true rfl) rfl (k_Mo_readFloe h_this h ⟨rfl, rfl⟩)
theorem k_Mo_readCrack_b167 {g : GE} {this : Nat} {k1 : Int32} {k2 : Int32}  {m : Mem} (h_this : kd this = 12) {r : Option AV} {m' : Mem} {x : Mem} (h : Mo_readCrack_b167 this k1 k2 m = some x) (hp : (fun x : Mem => r = none ∧ m' = x) x) : V g Y_Mo_readCrack 167 [some (vr this), none, none] [vi k2, vi k1, vr (this + 6)] m (PM g Y_Mo_readCrack r m') := by
  unfold Mo_readCrack_b167 at h
  obtain ⟨hg167, h⟩ := gd_e h
  refine V_iast_lt (pc := 167) dX11_readCrack_167 (kf_11_14 h_this) (af_11_14 h_this) hg167 h (fun m167 h => ?_)
  refine V_aload_n (i := 0) (pc := 168) dX11_readCrack_168 rfl rfl ?_
  refine V_getR (b := (this + 6)) (pc := 169) dX11_readCrack_169 fl_Mo_34 h_this rfl rfl ?_
  refine V_iconst (v := 5) (pc := 172) dX11_readCrack_172 rfl ?_
  refine V_dup2 (pc := 173) dX11_readCrack_173 ?_
  obtain ⟨hg174, h⟩ := gd_e h
  refine V_iald (pc := 174) dX11_readCrack_174 (kf_11_14 h_this) (af_11_14 h_this) hg174 ?_
  refine V_iconst (v := 1) (pc := 175) dX11_readCrack_175 rfl ?_
  refine V_iadd (pc := 176) dX11_readCrack_176 ?_
  obtain ⟨hg177, h⟩ := gd_e h
  refine V_iast_lt (pc := 177) dX11_readCrack_177 (kf_11_14 h_this) (af_11_14 h_this) hg177 h (fun m177 h => ?_)
  obtain rfl := Option.some.inj h
  exact E_v (pc := 178) dX11_readCrack_178 rfl hp
theorem k_Mo_readCrack_b69 {g : GE} {this : Nat} {v1 : Int32} {k1 : Int32} {k3 : Int32} {k5 : Int32}  {m : Mem} (h_this : kd this = 12) {r : Option AV} {m' : Mem} {x : Mem} (h : Mo_readCrack_b69 this v1 k1 k3 k5 m = some x) (hp : (fun x : Mem => r = none ∧ m' = x) x) : V g Y_Mo_readCrack 69 [some (vr this), some (vi v1), none] [vi k5, vr (this + 6), vi k3, vr this, vi k1, vr (this + 6)] m (PM g Y_Mo_readCrack r m') := by
  unfold Mo_readCrack_b69 at h
  obtain ⟨hg69, h⟩ := gd_e h
  refine V_iald (pc := 69) dX11_readCrack_69 (kf_11_14 h_this) (af_11_14 h_this) hg69 ?_
  refine V_iconst (v := 1) (pc := 70) dX11_readCrack_70 rfl ?_
  refine V_isub (pc := 71) dX11_readCrack_71 ?_
  obtain ⟨r72, e72, h⟩ := bnd h
  refine V_invV1 (c := 11) (pc := 72) dX11_readCrack_72 (e_Mo_number h_this e72) iv_Mo_163 (rm_Mo_readCrack_Mo_number _ _ _) rfl h_this cf_11 rfl (Nat.le_of_ble_eq_true rfl) rfl ?_
  obtain ⟨hg75, h⟩ := gd_e h
  refine V_iast_lt (pc := 75) dX11_readCrack_75 (kf_11_14 h_this) (af_11_14 h_this) hg75 h (fun m75 h => ?_)
  refine V_aload_n (i := 0) (pc := 76) dX11_readCrack_76 rfl rfl ?_
  refine V_getR (b := (this + 6)) (pc := 77) dX11_readCrack_77 fl_Mo_34 h_this rfl rfl ?_
  refine V_iload_n (i := 1) (pc := 80) dX11_readCrack_80 rfl rfl ?_
  refine V_iconst (v := 2) (pc := 81) dX11_readCrack_81 rfl ?_
  refine V_iadd (pc := 82) dX11_readCrack_82 ?_
  refine V_aload_n (i := 0) (pc := 83) dX11_readCrack_83 rfl rfl ?_
  refine V_ldcS (i := 7) (tx := "odds") (pc := 84) dX11_readCrack_84 (by decide +kernel) ?_
  refine V_iconst (v := 0) (pc := 86) dX11_readCrack_86 rfl ?_
  refine V_sipush (v := 500) (pc := 87) dX11_readCrack_87 rfl ?_
  obtain ⟨r90, e90, h⟩ := bnd h
  refine V_invV1 (c := 11) (pc := 90) dX11_readCrack_90 (e_Mo_told h_this (isS_lit 7 (Nat.le_of_ble_eq_true rfl)) e90) iv_Mo_170 (rm_Mo_readCrack_Mo_told _ _ _) rfl h_this cf_11 rfl (Nat.le_of_ble_eq_true rfl) rfl ?_
  obtain ⟨hg93, h⟩ := gd_e h
  refine V_iast_lt (pc := 93) dX11_readCrack_93 (kf_11_14 h_this) (af_11_14 h_this) hg93 h (fun m93 h => ?_)
  refine V_aload_n (i := 0) (pc := 94) dX11_readCrack_94 rfl rfl ?_
  refine V_getR (b := (this + 6)) (pc := 95) dX11_readCrack_95 fl_Mo_34 h_this rfl rfl ?_
  refine V_iload_n (i := 1) (pc := 98) dX11_readCrack_98 rfl rfl ?_
  refine V_iconst (v := 3) (pc := 99) dX11_readCrack_99 rfl ?_
  refine V_iadd (pc := 100) dX11_readCrack_100 ?_
  refine V_aload_n (i := 0) (pc := 101) dX11_readCrack_101 rfl rfl ?_
  refine V_ldcS (i := 8) (tx := "swell") (pc := 102) dX11_readCrack_102 (by decide +kernel) ?_
  refine V_iconst (v := 0) (pc := 104) dX11_readCrack_104 rfl ?_
  refine V_bipush (v := 99) (pc := 105) dX11_readCrack_105 rfl ?_
  obtain ⟨r107, e107, h⟩ := bnd h
  refine V_invV1 (c := 11) (pc := 107) dX11_readCrack_107 (e_Mo_told h_this (isS_lit 8 (Nat.le_of_ble_eq_true rfl)) e107) iv_Mo_170 (rm_Mo_readCrack_Mo_told _ _ _) rfl h_this cf_11 rfl (Nat.le_of_ble_eq_true rfl) rfl ?_
  obtain ⟨hg110, h⟩ := gd_e h
  refine V_iast_lt (pc := 110) dX11_readCrack_110 (kf_11_14 h_this) (af_11_14 h_this) hg110 h (fun m110 h => ?_)
  refine V_aload_n (i := 0) (pc := 111) dX11_readCrack_111 rfl rfl ?_
  refine V_getR (b := (this + 6)) (pc := 112) dX11_readCrack_112 fl_Mo_34 h_this rfl rfl ?_
  refine V_iload_n (i := 1) (pc := 115) dX11_readCrack_115 rfl rfl ?_
  refine V_iconst (v := 4) (pc := 116) dX11_readCrack_116 rfl ?_
  refine V_iadd (pc := 117) dX11_readCrack_117 ?_
  refine V_aload_n (i := 0) (pc := 118) dX11_readCrack_118 rfl rfl ?_
  refine V_ldcS (i := 9) (tx := "warm") (pc := 119) dX11_readCrack_119 (by decide +kernel) ?_
  refine V_iconst (v := 0) (pc := 121) dX11_readCrack_121 rfl ?_
  refine V_bipush (v := 99) (pc := 122) dX11_readCrack_122 rfl ?_
  obtain ⟨r124, e124, h⟩ := bnd h
  refine V_invV1 (c := 11) (pc := 124) dX11_readCrack_124 (e_Mo_told h_this (isS_lit 9 (Nat.le_of_ble_eq_true rfl)) e124) iv_Mo_170 (rm_Mo_readCrack_Mo_told _ _ _) rfl h_this cf_11 rfl (Nat.le_of_ble_eq_true rfl) rfl ?_
  obtain ⟨hg127, h⟩ := gd_e h
  refine V_iast_lt (pc := 127) dX11_readCrack_127 (kf_11_14 h_this) (af_11_14 h_this) hg127 h (fun m127 h => ?_)
  refine V_aload_n (i := 0) (pc := 128) dX11_readCrack_128 rfl rfl ?_
  refine V_getR (b := (this + 6)) (pc := 129) dX11_readCrack_129 fl_Mo_34 h_this rfl rfl ?_
  refine V_iload_n (i := 1) (pc := 132) dX11_readCrack_132 rfl rfl ?_
  refine V_iconst (v := 5) (pc := 133) dX11_readCrack_133 rfl ?_
  refine V_iadd (pc := 134) dX11_readCrack_134 ?_
  refine V_aload_n (i := 0) (pc := 135) dX11_readCrack_135 rfl rfl ?_
  refine V_ldcS (i := 10) (tx := "weight") (pc := 136) dX11_readCrack_136 (by decide +kernel) ?_
  refine V_iconst (v := 0) (pc := 138) dX11_readCrack_138 rfl ?_
  refine V_bipush (v := 99) (pc := 139) dX11_readCrack_139 rfl ?_
  obtain ⟨r141, e141, h⟩ := bnd h
  refine V_invV1 (c := 11) (pc := 141) dX11_readCrack_141 (e_Mo_told h_this (isS_lit 10 (Nat.le_of_ble_eq_true rfl)) e141) iv_Mo_170 (rm_Mo_readCrack_Mo_told _ _ _) rfl h_this cf_11 rfl (Nat.le_of_ble_eq_true rfl) rfl ?_
  obtain ⟨hg144, h⟩ := gd_e h
  refine V_iast_lt (pc := 144) dX11_readCrack_144 (kf_11_14 h_this) (af_11_14 h_this) hg144 h (fun m144 h => ?_)
  refine V_aload_n (i := 0) (pc := 145) dX11_readCrack_145 rfl rfl ?_
  refine V_getR (b := (this + 6)) (pc := 146) dX11_readCrack_146 fl_Mo_34 h_this rfl rfl ?_
  refine V_iload_n (i := 1) (pc := 149) dX11_readCrack_149 rfl rfl ?_
  refine V_bipush (v := 6) (pc := 150) dX11_readCrack_150 rfl ?_
  refine V_iadd (pc := 152) dX11_readCrack_152 ?_
  refine V_aload_n (i := 0) (pc := 153) dX11_readCrack_153 rfl rfl ?_
  refine V_ldcS (i := 11) (tx := "old") (pc := 154) dX11_readCrack_154 (by decide +kernel) ?_
  obtain ⟨r156, e156, h⟩ := bnd h
  refine V_invV1 (c := 11) (pc := 156) dX11_readCrack_156 (e_Mo_takes h_this (isS_lit 11 (Nat.le_of_ble_eq_true rfl)) e156) iv_Mo_152 (rm_Mo_readCrack_Mo_takes _ _ _) rfl h_this cf_11 rfl (Nat.le_of_ble_eq_true rfl) rfl ?_
  refine V_if_eq (pc := 159) (tgt := 166) dX11_readCrack_159 rfl (fun q => ?_) (fun q => ?_)
  · have h := ite_t q h
    refine V_iconst (v := 0) (pc := 166) dX11_readCrack_166 rfl ?_
    refine V_sub (ls' := [some (vr this), none, none]) (And.intro rfl trivial) ?_
    exact k_Mo_readCrack_b167 h_this h hp
  · have h := ite_f q h
    refine V_iconst (v := 1) (pc := 162) dX11_readCrack_162 rfl ?_
    refine V_goto (tgt := 167) (pc := 163) dX11_readCrack_163 rfl ?_
    refine V_sub (ls' := [some (vr this), none, none]) (And.intro rfl trivial) ?_
    exact k_Mo_readCrack_b167 h_this h hp
theorem k_Mo_readCrack_b46 {g : GE} {this : Nat} {v1 : Int32} {v2 : Int32} {k1 : Int32} {k2 : Int32}  {m : Mem} (h_this : kd this = 12) {r : Option AV} {m' : Mem} {x : Mem} (h : Mo_readCrack_b46 this v1 v2 k1 k2 m = some x) (hp : (fun x : Mem => r = none ∧ m' = x) x) : V g Y_Mo_readCrack 46 [some (vr this), some (vi v1), some (vi v2)] [vi k2, vi k1, vr (this + 6)] m (PM g Y_Mo_readCrack r m') := by
  unfold Mo_readCrack_b46 at h
  obtain ⟨hg46, h⟩ := gd_e h
  refine V_iast_lt (pc := 46) dX11_readCrack_46 (kf_11_14 h_this) (af_11_14 h_this) hg46 h (fun m46 h => ?_)
  refine V_aload_n (i := 0) (pc := 47) dX11_readCrack_47 rfl rfl ?_
  refine V_getR (b := (this + 6)) (pc := 48) dX11_readCrack_48 fl_Mo_34 h_this rfl rfl ?_
  refine V_iload_n (i := 1) (pc := 51) dX11_readCrack_51 rfl rfl ?_
  refine V_iconst (v := 1) (pc := 52) dX11_readCrack_52 rfl ?_
  refine V_iadd (pc := 53) dX11_readCrack_53 ?_
  refine V_aload_n (i := 0) (pc := 54) dX11_readCrack_54 rfl rfl ?_
  refine V_iconst (v := 1) (pc := 55) dX11_readCrack_55 rfl ?_
  refine V_aload_n (i := 0) (pc := 56) dX11_readCrack_56 rfl rfl ?_
  refine V_getR (b := (this + 6)) (pc := 57) dX11_readCrack_57 fl_Mo_34 h_this rfl rfl ?_
  refine V_iload_n (i := 2) (pc := 60) dX11_readCrack_60 rfl rfl ?_
  refine V_if_eq (pc := 61) (tgt := 68) dX11_readCrack_61 rfl (fun q => ?_) (fun q => ?_)
  · have h := ite_t q h
    refine V_iconst (v := 2) (pc := 68) dX11_readCrack_68 rfl ?_
    refine V_sub (ls' := [some (vr this), some (vi v1), none]) (And.intro rfl (And.intro rfl trivial)) ?_
    exact k_Mo_readCrack_b69 h_this h hp
  · have h := ite_f q h
    refine V_iconst (v := 1) (pc := 64) dX11_readCrack_64 rfl ?_
    refine V_goto (tgt := 69) (pc := 65) dX11_readCrack_65 rfl ?_
    refine V_sub (ls' := [some (vr this), some (vi v1), none]) (And.intro rfl (And.intro rfl trivial)) ?_
    exact k_Mo_readCrack_b69 h_this h hp
theorem k_Mo_readCrack_b30 {g : GE} {this : Nat} {v1 : Int32} {v2 : Int32}  {m : Mem} (h_this : kd this = 12) {r : Option AV} {m' : Mem} {x : Mem} (h : Mo_readCrack_b30 this v1 v2 m = some x) (hp : (fun x : Mem => r = none ∧ m' = x) x) : V g Y_Mo_readCrack 30 [some (vr this), some (vi v1), some (vi v2)] [] m (PM g Y_Mo_readCrack r m') := by
  unfold Mo_readCrack_b30 at h
  refine V_aload_n (i := 0) (pc := 30) dX11_readCrack_30 rfl rfl ?_
  refine V_getR (b := (this + 6)) (pc := 31) dX11_readCrack_31 fl_Mo_34 h_this rfl rfl ?_
  refine V_iload_n (i := 1) (pc := 34) dX11_readCrack_34 rfl rfl ?_
  refine V_iconst (v := 0) (pc := 35) dX11_readCrack_35 rfl ?_
  refine V_iadd (pc := 36) dX11_readCrack_36 ?_
  refine V_iload_n (i := 2) (pc := 37) dX11_readCrack_37 rfl rfl ?_
  refine V_if_eq (pc := 38) (tgt := 45) dX11_readCrack_38 rfl (fun q => ?_) (fun q => ?_)
  · have h := ite_t q h
    refine V_iconst (v := 1) (pc := 45) dX11_readCrack_45 rfl ?_
    exact k_Mo_readCrack_b46 h_this h hp
  · have h := ite_f q h
    refine V_iconst (v := 0) (pc := 41) dX11_readCrack_41 rfl ?_
    refine V_goto (tgt := 46) (pc := 42) dX11_readCrack_42 rfl ?_
    exact k_Mo_readCrack_b46 h_this h hp
theorem k_Mo_readCrack {g : GE} {this : Nat} {m : Mem} (h_this : kd this = 12) {r : Option AV} {m' : Mem} {x : Mem} (h : Mo_readCrack this m = some x) (hp : (fun x : Mem => r = none ∧ m' = x) x) : V g Y_Mo_readCrack 0 [some (vr this), none, none] [] m (PM g Y_Mo_readCrack r m') := by
  unfold Mo_readCrack at h
  refine V_bipush (v := 24) (pc := 0) dX11_readCrack_0 rfl ?_
  refine V_bipush (v := 8) (pc := 2) dX11_readCrack_2 rfl ?_
  refine V_aload_n (i := 0) (pc := 4) dX11_readCrack_4 rfl rfl ?_
  refine V_getR (b := (this + 6)) (pc := 5) dX11_readCrack_5 fl_Mo_34 h_this rfl rfl ?_
  refine V_iconst (v := 5) (pc := 8) dX11_readCrack_8 rfl ?_
  obtain ⟨hg9, h⟩ := gd_e h
  refine V_iald (pc := 9) dX11_readCrack_9 (kf_11_14 h_this) (af_11_14 h_this) hg9 ?_
  refine V_imul (pc := 10) dX11_readCrack_10 ?_
  refine V_iadd (pc := 11) dX11_readCrack_11 ?_
  refine V_istore_n (i := 1) (ls' := [some (vr this), some (vi (24 + (8 * (rI m (this + 6) (ix 5))))), none]) (pc := 12) dX11_readCrack_12 rfl (Nat.le_of_ble_eq_true rfl) rfl ?_
  refine V_aload_n (i := 0) (pc := 13) dX11_readCrack_13 rfl rfl ?_
  refine V_ldcS (i := 5) (tx := "down") (pc := 14) dX11_readCrack_14 (by decide +kernel) ?_
  obtain ⟨r16, e16, h⟩ := bnd h
  refine V_invV1 (c := 11) (pc := 16) dX11_readCrack_16 (e_Mo_takes h_this (isS_lit 5 (Nat.le_of_ble_eq_true rfl)) e16) iv_Mo_152 (rm_Mo_readCrack_Mo_takes _ _ _) rfl h_this cf_11 rfl (Nat.le_of_ble_eq_true rfl) rfl ?_
  refine V_istore_n (i := 2) (ls' := [some (vr this), some (vi (24 + (8 * (rI m (this + 6) (ix 5))))), some (vi r16.1)]) (pc := 19) dX11_readCrack_19 rfl (Nat.le_of_ble_eq_true rfl) rfl ?_
  refine V_iload_n (i := 2) (pc := 20) dX11_readCrack_20 rfl rfl ?_
  refine V_if_ne (pc := 21) (tgt := 30) dX11_readCrack_21 rfl (fun q => ?_) (fun q => ?_)
  · have h := ite_f q h
    exact k_Mo_readCrack_b30 h_this h hp
  · have h := ite_t q h
    refine V_aload_n (i := 0) (pc := 24) dX11_readCrack_24 rfl rfl ?_
    refine V_ldcS (i := 6) (tx := "along") (pc := 25) dX11_readCrack_25 (by decide +kernel) ?_
    obtain ⟨m27, e27, h⟩ := bnd h
    refine V_invV0 (c := 11) (pc := 27) dX11_readCrack_27 (e_Mo_needs h_this (isS_lit 6 (Nat.le_of_ble_eq_true rfl)) e27) iv_Mo_159 (rm_Mo_readCrack_Mo_needs _ _ _) rfl h_this cf_11 rfl (Nat.le_of_ble_eq_true rfl) rfl ?_
    exact k_Mo_readCrack_b30 h_this h hp
theorem e_Mo_readCrack {g : GE} {this : Nat} {m : Mem} (h_this : kd this = 12) {x : Mem} (h : Mo_readCrack this m = some x) : Ev g Y_Mo_readCrack [vr this] m (none) x :=
  Ev_of 2 (by decide +kernel) rfl (Nat.le_of_ble_eq_true rfl) rfl (k_Mo_readCrack h_this h ⟨rfl, rfl⟩)
theorem k_Mo_readKind {g : GE} {this : Nat} {m : Mem} (h_this : kd this = 12) {r : Option AV} {m' : Mem} {x : Int32 × Mem} (h : Mo_readKind this m = some x) (hp : (fun x : Int32 × Mem => r = some (vi x.1) ∧ m' = x.2) x) : V g Y_Mo_readKind 0 [some (vr this)] [] m (PM g Y_Mo_readKind r m') := by
  unfold Mo_readKind at h
  refine V_aload_n (i := 0) (pc := 0) dX11_readKind_0 rfl rfl ?_
  refine V_ldcS (i := 12) (tx := "food") (pc := 1) dX11_readKind_1 (by decide +kernel) ?_
  obtain ⟨r3, e3, h⟩ := bnd h
  refine V_invV1 (c := 11) (pc := 3) dX11_readKind_3 (e_Mo_takes h_this (isS_lit 12 (Nat.le_of_ble_eq_true rfl)) e3) iv_Mo_152 (rm_Mo_readKind_Mo_takes _ _ _) rfl h_this cf_11 rfl (Nat.le_of_ble_eq_true rfl) rfl ?_
  refine V_if_eq (pc := 6) (tgt := 11) dX11_readKind_6 rfl (fun q => ?_) (fun q => ?_)
  · have h := ite_t q h
    refine V_aload_n (i := 0) (pc := 11) dX11_readKind_11 rfl rfl ?_
    refine V_ldcS (i := 13) (tx := "beds") (pc := 12) dX11_readKind_12 (by decide +kernel) ?_
    obtain ⟨r14, e14, h⟩ := bnd h
    refine V_invV1 (c := 11) (pc := 14) dX11_readKind_14 (e_Mo_takes h_this (isS_lit 13 (Nat.le_of_ble_eq_true rfl)) e14) iv_Mo_152 (rm_Mo_readKind_Mo_takes _ _ _) rfl h_this cf_11 rfl (Nat.le_of_ble_eq_true rfl) rfl ?_
    refine V_if_eq (pc := 17) (tgt := 22) dX11_readKind_17 rfl (fun q => ?_) (fun q => ?_)
    · have h := ite_t q h
      refine V_aload_n (i := 0) (pc := 22) dX11_readKind_22 rfl rfl ?_
      refine V_ldcS (i := 14) (tx := "seats") (pc := 23) dX11_readKind_23 (by decide +kernel) ?_
      obtain ⟨r25, e25, h⟩ := bnd h
      refine V_invV1 (c := 11) (pc := 25) dX11_readKind_25 (e_Mo_takes h_this (isS_lit 14 (Nat.le_of_ble_eq_true rfl)) e25) iv_Mo_152 (rm_Mo_readKind_Mo_takes _ _ _) rfl h_this cf_11 rfl (Nat.le_of_ble_eq_true rfl) rfl ?_
      refine V_if_eq (pc := 28) (tgt := 33) dX11_readKind_28 rfl (fun q => ?_) (fun q => ?_)
      · have h := ite_t q h
        refine V_aload_n (i := 0) (pc := 33) dX11_readKind_33 rfl rfl ?_
        refine V_ldcS (i := 15) (tx := "heat") (pc := 34) dX11_readKind_34 (by decide +kernel) ?_
        obtain ⟨m36, e36, h⟩ := bnd h
        refine V_invV0 (c := 11) (pc := 36) dX11_readKind_36 (e_Mo_needs h_this (isS_lit 15 (Nat.le_of_ble_eq_true rfl)) e36) iv_Mo_159 (rm_Mo_readKind_Mo_needs _ _ _) rfl h_this cf_11 rfl (Nat.le_of_ble_eq_true rfl) rfl ?_
        refine V_iconst (v := 3) (pc := 39) dX11_readKind_39 rfl ?_
        obtain rfl := Option.some.inj h
        exact E_i (pc := 40) dX11_readKind_40 rfl hp
      · have h := ite_f q h
        refine V_iconst (v := 2) (pc := 31) dX11_readKind_31 rfl ?_
        obtain rfl := Option.some.inj h
        exact E_i (pc := 32) dX11_readKind_32 rfl hp
    · have h := ite_f q h
      refine V_iconst (v := 1) (pc := 20) dX11_readKind_20 rfl ?_
      obtain rfl := Option.some.inj h
      exact E_i (pc := 21) dX11_readKind_21 rfl hp
  · have h := ite_f q h
    refine V_iconst (v := 0) (pc := 9) dX11_readKind_9 rfl ?_
    obtain rfl := Option.some.inj h
    exact E_i (pc := 10) dX11_readKind_10 rfl hp
theorem e_Mo_readKind {g : GE} {this : Nat} {m : Mem} (h_this : kd this = 12) {x : Int32 × Mem} (h : Mo_readKind this m = some x) : Ev g Y_Mo_readKind [vr this] m (some (vi x.1)) x.2 :=
  Ev_of 0 (by decide +kernel) rfl (Nat.le_of_ble_eq_true rfl) rfl (k_Mo_readKind h_this h ⟨rfl, rfl⟩)
theorem k_Mo_readSort {g : GE} {this : Nat} {m : Mem} (h_this : kd this = 12) {r : Option AV} {m' : Mem} {x : Mem} (h : Mo_readSort this m = some x) (hp : (fun x : Mem => r = none ∧ m' = x) x) : V g Y_Mo_readSort 0 [some (vr this), none] [] m (PM g Y_Mo_readSort r m') := by
  unfold Mo_readSort at h
  refine V_bipush (v := 80) (pc := 0) dX11_readSort_0 rfl ?_
  refine V_iconst (v := 4) (pc := 2) dX11_readSort_2 rfl ?_
  refine V_aload_n (i := 0) (pc := 3) dX11_readSort_3 rfl rfl ?_
  refine V_getR (b := (this + 6)) (pc := 4) dX11_readSort_4 fl_Mo_34 h_this rfl rfl ?_
  refine V_bipush (v := 6) (pc := 7) dX11_readSort_7 rfl ?_
  obtain ⟨hg9, h⟩ := gd_e h
  refine V_iald (pc := 9) dX11_readSort_9 (kf_11_14 h_this) (af_11_14 h_this) hg9 ?_
  refine V_imul (pc := 10) dX11_readSort_10 ?_
  refine V_iadd (pc := 11) dX11_readSort_11 ?_
  refine V_istore_n (i := 1) (ls' := [some (vr this), some (vi (80 + (4 * (rI m (this + 6) (ix 6)))))]) (pc := 12) dX11_readSort_12 rfl (Nat.le_of_ble_eq_true rfl) rfl ?_
  refine V_aload_n (i := 0) (pc := 13) dX11_readSort_13 rfl rfl ?_
  refine V_getR (b := (this + 6)) (pc := 14) dX11_readSort_14 fl_Mo_34 h_this rfl rfl ?_
  refine V_iload_n (i := 1) (pc := 17) dX11_readSort_17 rfl rfl ?_
  refine V_iconst (v := 0) (pc := 18) dX11_readSort_18 rfl ?_
  refine V_iadd (pc := 19) dX11_readSort_19 ?_
  refine V_aload_n (i := 0) (pc := 20) dX11_readSort_20 rfl rfl ?_
  obtain ⟨r21, e21, h⟩ := bnd h
  refine V_invV1 (c := 11) (pc := 21) dX11_readSort_21 (e_Mo_readKind h_this e21) iv_Mo_202 (rm_Mo_readSort_Mo_readKind _ _ _) rfl h_this cf_11 rfl (Nat.le_of_ble_eq_true rfl) rfl ?_
  obtain ⟨hg24, h⟩ := gd_e h
  refine V_iast_lt (pc := 24) dX11_readSort_24 (kf_11_14 h_this) (af_11_14 h_this) hg24 h (fun m24 h => ?_)
  refine V_aload_n (i := 0) (pc := 25) dX11_readSort_25 rfl rfl ?_
  refine V_getR (b := (this + 6)) (pc := 26) dX11_readSort_26 fl_Mo_34 h_this rfl rfl ?_
  refine V_iload_n (i := 1) (pc := 29) dX11_readSort_29 rfl rfl ?_
  refine V_iconst (v := 1) (pc := 30) dX11_readSort_30 rfl ?_
  refine V_iadd (pc := 31) dX11_readSort_31 ?_
  refine V_aload_n (i := 0) (pc := 32) dX11_readSort_32 rfl rfl ?_
  refine V_ldcS (i := 16) (tx := "gives") (pc := 33) dX11_readSort_33 (by decide +kernel) ?_
  refine V_iconst (v := 1) (pc := 35) dX11_readSort_35 rfl ?_
  refine V_bipush (v := 99) (pc := 36) dX11_readSort_36 rfl ?_
  obtain ⟨r38, e38, h⟩ := bnd h
  refine V_invV1 (c := 11) (pc := 38) dX11_readSort_38 (e_Mo_told h_this (isS_lit 16 (Nat.le_of_ble_eq_true rfl)) e38) iv_Mo_170 (rm_Mo_readSort_Mo_told _ _ _) rfl h_this cf_11 rfl (Nat.le_of_ble_eq_true rfl) rfl ?_
  obtain ⟨hg41, h⟩ := gd_e h
  refine V_iast_lt (pc := 41) dX11_readSort_41 (kf_11_14 h_this) (af_11_14 h_this) hg41 h (fun m41 h => ?_)
  refine V_aload_n (i := 0) (pc := 42) dX11_readSort_42 rfl rfl ?_
  refine V_getR (b := (this + 6)) (pc := 43) dX11_readSort_43 fl_Mo_34 h_this rfl rfl ?_
  refine V_iload_n (i := 1) (pc := 46) dX11_readSort_46 rfl rfl ?_
  refine V_iconst (v := 2) (pc := 47) dX11_readSort_47 rfl ?_
  refine V_iadd (pc := 48) dX11_readSort_48 ?_
  refine V_aload_n (i := 0) (pc := 49) dX11_readSort_49 rfl rfl ?_
  refine V_ldcS (i := 17) (tx := "tons") (pc := 50) dX11_readSort_50 (by decide +kernel) ?_
  refine V_iconst (v := 1) (pc := 52) dX11_readSort_52 rfl ?_
  refine V_bipush (v := 99) (pc := 53) dX11_readSort_53 rfl ?_
  obtain ⟨r55, e55, h⟩ := bnd h
  refine V_invV1 (c := 11) (pc := 55) dX11_readSort_55 (e_Mo_told h_this (isS_lit 17 (Nat.le_of_ble_eq_true rfl)) e55) iv_Mo_170 (rm_Mo_readSort_Mo_told _ _ _) rfl h_this cf_11 rfl (Nat.le_of_ble_eq_true rfl) rfl ?_
  obtain ⟨hg58, h⟩ := gd_e h
  refine V_iast_lt (pc := 58) dX11_readSort_58 (kf_11_14 h_this) (af_11_14 h_this) hg58 h (fun m58 h => ?_)
  refine V_aload_n (i := 0) (pc := 59) dX11_readSort_59 rfl rfl ?_
  refine V_getR (b := (this + 6)) (pc := 60) dX11_readSort_60 fl_Mo_34 h_this rfl rfl ?_
  refine V_iload_n (i := 1) (pc := 63) dX11_readSort_63 rfl rfl ?_
  refine V_iconst (v := 3) (pc := 64) dX11_readSort_64 rfl ?_
  refine V_iadd (pc := 65) dX11_readSort_65 ?_
  refine V_aload_n (i := 0) (pc := 66) dX11_readSort_66 rfl rfl ?_
  refine V_ldcS (i := 18) (tx := "many") (pc := 67) dX11_readSort_67 (by decide +kernel) ?_
  refine V_iconst (v := 0) (pc := 69) dX11_readSort_69 rfl ?_
  refine V_bipush (v := 20) (pc := 70) dX11_readSort_70 rfl ?_
  obtain ⟨r72, e72, h⟩ := bnd h
  refine V_invV1 (c := 11) (pc := 72) dX11_readSort_72 (e_Mo_told h_this (isS_lit 18 (Nat.le_of_ble_eq_true rfl)) e72) iv_Mo_170 (rm_Mo_readSort_Mo_told _ _ _) rfl h_this cf_11 rfl (Nat.le_of_ble_eq_true rfl) rfl ?_
  obtain ⟨hg75, h⟩ := gd_e h
  refine V_iast_lt (pc := 75) dX11_readSort_75 (kf_11_14 h_this) (af_11_14 h_this) hg75 h (fun m75 h => ?_)
  refine V_aload_n (i := 0) (pc := 76) dX11_readSort_76 rfl rfl ?_
  refine V_getR (b := (this + 6)) (pc := 77) dX11_readSort_77 fl_Mo_34 h_this rfl rfl ?_
  refine V_bipush (v := 6) (pc := 80) dX11_readSort_80 rfl ?_
  refine V_dup2 (pc := 82) dX11_readSort_82 ?_
  obtain ⟨hg83, h⟩ := gd_e h
  refine V_iald (pc := 83) dX11_readSort_83 (kf_11_14 h_this) (af_11_14 h_this) hg83 ?_
  refine V_iconst (v := 1) (pc := 84) dX11_readSort_84 rfl ?_
  refine V_iadd (pc := 85) dX11_readSort_85 ?_
  obtain ⟨hg86, h⟩ := gd_e h
  refine V_iast_lt (pc := 86) dX11_readSort_86 (kf_11_14 h_this) (af_11_14 h_this) hg86 h (fun m86 h => ?_)
  obtain rfl := Option.some.inj h
  exact E_v (pc := 87) dX11_readSort_87 rfl hp
theorem e_Mo_readSort {g : GE} {this : Nat} {m : Mem} (h_this : kd this = 12) {x : Mem} (h : Mo_readSort this m = some x) : Ev g Y_Mo_readSort [vr this] m (none) x :=
  Ev_of 1 (by decide +kernel) rfl (Nat.le_of_ble_eq_true rfl) rfl (k_Mo_readSort h_this h ⟨rfl, rfl⟩)
theorem k_Mo_readOther {g : GE} {this : Nat} {m : Mem} (h_this : kd this = 12) {r : Option AV} {m' : Mem} {x : Mem} (h : Mo_readOther this m = some x) (hp : (fun x : Mem => r = none ∧ m' = x) x) : V g Y_Mo_readOther 0 [some (vr this), none] [] m (PM g Y_Mo_readOther r m') := by
  unfold Mo_readOther at h
  refine V_bipush (v := 104) (pc := 0) dX11_readOther_0 rfl ?_
  refine V_iconst (v := 3) (pc := 2) dX11_readOther_2 rfl ?_
  refine V_aload_n (i := 0) (pc := 3) dX11_readOther_3 rfl rfl ?_
  refine V_getR (b := (this + 6)) (pc := 4) dX11_readOther_4 fl_Mo_34 h_this rfl rfl ?_
  refine V_bipush (v := 7) (pc := 7) dX11_readOther_7 rfl ?_
  obtain ⟨hg9, h⟩ := gd_e h
  refine V_iald (pc := 9) dX11_readOther_9 (kf_11_14 h_this) (af_11_14 h_this) hg9 ?_
  refine V_imul (pc := 10) dX11_readOther_10 ?_
  refine V_iadd (pc := 11) dX11_readOther_11 ?_
  refine V_istore_n (i := 1) (ls' := [some (vr this), some (vi (104 + (3 * (rI m (this + 6) (ix 7)))))]) (pc := 12) dX11_readOther_12 rfl (Nat.le_of_ble_eq_true rfl) rfl ?_
  refine V_aload_n (i := 0) (pc := 13) dX11_readOther_13 rfl rfl ?_
  refine V_getR (b := (this + 6)) (pc := 14) dX11_readOther_14 fl_Mo_34 h_this rfl rfl ?_
  refine V_iload_n (i := 1) (pc := 17) dX11_readOther_17 rfl rfl ?_
  refine V_aload_n (i := 0) (pc := 18) dX11_readOther_18 rfl rfl ?_
  refine V_ldcS (i := 19) (tx := "day") (pc := 19) dX11_readOther_19 (by decide +kernel) ?_
  refine V_iconst (v := 1) (pc := 21) dX11_readOther_21 rfl ?_
  refine V_bipush (v := 60) (pc := 22) dX11_readOther_22 rfl ?_
  obtain ⟨r24, e24, h⟩ := bnd h
  refine V_invV1 (c := 11) (pc := 24) dX11_readOther_24 (e_Mo_told h_this (isS_lit 19 (Nat.le_of_ble_eq_true rfl)) e24) iv_Mo_170 (rm_Mo_readOther_Mo_told _ _ _) rfl h_this cf_11 rfl (Nat.le_of_ble_eq_true rfl) rfl ?_
  obtain ⟨hg27, h⟩ := gd_e h
  refine V_iast_lt (pc := 27) dX11_readOther_27 (kf_11_14 h_this) (af_11_14 h_this) hg27 h (fun m27 h => ?_)
  refine V_aload_n (i := 0) (pc := 28) dX11_readOther_28 rfl rfl ?_
  refine V_getR (b := (this + 6)) (pc := 29) dX11_readOther_29 fl_Mo_34 h_this rfl rfl ?_
  refine V_iload_n (i := 1) (pc := 32) dX11_readOther_32 rfl rfl ?_
  refine V_iconst (v := 1) (pc := 33) dX11_readOther_33 rfl ?_
  refine V_iadd (pc := 34) dX11_readOther_34 ?_
  refine V_aload_n (i := 0) (pc := 35) dX11_readOther_35 rfl rfl ?_
  refine V_ldcS (i := 7) (tx := "odds") (pc := 36) dX11_readOther_36 (by decide +kernel) ?_
  refine V_iconst (v := 0) (pc := 38) dX11_readOther_38 rfl ?_
  refine V_bipush (v := 100) (pc := 39) dX11_readOther_39 rfl ?_
  obtain ⟨r41, e41, h⟩ := bnd h
  refine V_invV1 (c := 11) (pc := 41) dX11_readOther_41 (e_Mo_told h_this (isS_lit 7 (Nat.le_of_ble_eq_true rfl)) e41) iv_Mo_170 (rm_Mo_readOther_Mo_told _ _ _) rfl h_this cf_11 rfl (Nat.le_of_ble_eq_true rfl) rfl ?_
  obtain ⟨hg44, h⟩ := gd_e h
  refine V_iast_lt (pc := 44) dX11_readOther_44 (kf_11_14 h_this) (af_11_14 h_this) hg44 h (fun m44 h => ?_)
  refine V_aload_n (i := 0) (pc := 45) dX11_readOther_45 rfl rfl ?_
  refine V_getR (b := (this + 6)) (pc := 46) dX11_readOther_46 fl_Mo_34 h_this rfl rfl ?_
  refine V_iload_n (i := 1) (pc := 49) dX11_readOther_49 rfl rfl ?_
  refine V_iconst (v := 2) (pc := 50) dX11_readOther_50 rfl ?_
  refine V_iadd (pc := 51) dX11_readOther_51 ?_
  refine V_aload_n (i := 0) (pc := 52) dX11_readOther_52 rfl rfl ?_
  refine V_ldcS (i := 20) (tx := "breaks") (pc := 53) dX11_readOther_53 (by decide +kernel) ?_
  refine V_iconst (v := 0) (pc := 55) dX11_readOther_55 rfl ?_
  refine V_sipush (v := 9999) (pc := 56) dX11_readOther_56 rfl ?_
  obtain ⟨r59, e59, h⟩ := bnd h
  refine V_invV1 (c := 11) (pc := 59) dX11_readOther_59 (e_Mo_told h_this (isS_lit 20 (Nat.le_of_ble_eq_true rfl)) e59) iv_Mo_170 (rm_Mo_readOther_Mo_told _ _ _) rfl h_this cf_11 rfl (Nat.le_of_ble_eq_true rfl) rfl ?_
  obtain ⟨hg62, h⟩ := gd_e h
  refine V_iast_lt (pc := 62) dX11_readOther_62 (kf_11_14 h_this) (af_11_14 h_this) hg62 h (fun m62 h => ?_)
  refine V_aload_n (i := 0) (pc := 63) dX11_readOther_63 rfl rfl ?_
  refine V_getR (b := (this + 6)) (pc := 64) dX11_readOther_64 fl_Mo_34 h_this rfl rfl ?_
  refine V_bipush (v := 7) (pc := 67) dX11_readOther_67 rfl ?_
  refine V_dup2 (pc := 69) dX11_readOther_69 ?_
  obtain ⟨hg70, h⟩ := gd_e h
  refine V_iald (pc := 70) dX11_readOther_70 (kf_11_14 h_this) (af_11_14 h_this) hg70 ?_
  refine V_iconst (v := 1) (pc := 71) dX11_readOther_71 rfl ?_
  refine V_iadd (pc := 72) dX11_readOther_72 ?_
  obtain ⟨hg73, h⟩ := gd_e h
  refine V_iast_lt (pc := 73) dX11_readOther_73 (kf_11_14 h_this) (af_11_14 h_this) hg73 h (fun m73 h => ?_)
  obtain rfl := Option.some.inj h
  exact E_v (pc := 74) dX11_readOther_74 rfl hp
theorem e_Mo_readOther {g : GE} {this : Nat} {m : Mem} (h_this : kd this = 12) {x : Mem} (h : Mo_readOther this m = some x) : Ev g Y_Mo_readOther [vr this] m (none) x :=
  Ev_of 1 (by decide +kernel) rfl (Nat.le_of_ble_eq_true rfl) rfl (k_Mo_readOther h_this h ⟨rfl, rfl⟩)
theorem k_Mo_onceHere {g : GE} {this : Nat} {m : Mem} (h_this : kd this = 12) {r : Option AV} {m' : Mem} {x : Int32} (h : Mo_onceHere this m = some x) (hp : (fun x : Int32 => r = some (vi x) ∧ m' = m) x) : V g Y_Mo_onceHere 0 [some (vr this)] [] m (PM g Y_Mo_onceHere r m') := by
  unfold Mo_onceHere at h
  refine V_aload_n (i := 0) (pc := 0) dX11_onceHere_0 rfl rfl ?_
  refine V_ldcS (i := 21) (tx := "sea") (pc := 1) dX11_onceHere_1 (by decide +kernel) ?_
  obtain ⟨r3, e3, h⟩ := bnd h
  refine V_invV1 (c := 11) (pc := 3) dX11_onceHere_3 (e_Mo_is h_this (isS_lit 21 (Nat.le_of_ble_eq_true rfl)) e3) iv_Mo_145 (rm_Mo_onceHere_Mo_is _ _ _) rfl h_this cf_11 rfl (Nat.le_of_ble_eq_true rfl) rfl ?_
  refine V_if_eq (pc := 6) (tgt := 13) dX11_onceHere_6 rfl (fun q => ?_) (fun q => ?_)
  · have h := ite_t q h
    refine V_aload_n (i := 0) (pc := 13) dX11_onceHere_13 rfl rfl ?_
    refine V_ldcS (i := 22) (tx := "shuts") (pc := 14) dX11_onceHere_14 (by decide +kernel) ?_
    obtain ⟨r16, e16, h⟩ := bnd h
    refine V_invV1 (c := 11) (pc := 16) dX11_onceHere_16 (e_Mo_is h_this (isS_lit 22 (Nat.le_of_ble_eq_true rfl)) e16) iv_Mo_145 (rm_Mo_onceHere_Mo_is _ _ _) rfl h_this cf_11 rfl (Nat.le_of_ble_eq_true rfl) rfl ?_
    refine V_if_eq (pc := 19) (tgt := 26) dX11_onceHere_19 rfl (fun q => ?_) (fun q => ?_)
    · have h := ite_t q h
      refine V_aload_n (i := 0) (pc := 26) dX11_onceHere_26 rfl rfl ?_
      refine V_ldcS (i := 23) (tx := "fetch") (pc := 27) dX11_onceHere_27 (by decide +kernel) ?_
      obtain ⟨r29, e29, h⟩ := bnd h
      refine V_invV1 (c := 11) (pc := 29) dX11_onceHere_29 (e_Mo_is h_this (isS_lit 23 (Nat.le_of_ble_eq_true rfl)) e29) iv_Mo_145 (rm_Mo_onceHere_Mo_is _ _ _) rfl h_this cf_11 rfl (Nat.le_of_ble_eq_true rfl) rfl ?_
      refine V_if_eq (pc := 32) (tgt := 39) dX11_onceHere_32 rfl (fun q => ?_) (fun q => ?_)
      · have h := ite_t q h
        refine V_aload_n (i := 0) (pc := 39) dX11_onceHere_39 rfl rfl ?_
        refine V_ldcS (i := 24) (tx := "sees") (pc := 40) dX11_onceHere_40 (by decide +kernel) ?_
        obtain ⟨r42, e42, h⟩ := bnd h
        refine V_invV1 (c := 11) (pc := 42) dX11_onceHere_42 (e_Mo_is h_this (isS_lit 24 (Nat.le_of_ble_eq_true rfl)) e42) iv_Mo_145 (rm_Mo_onceHere_Mo_is _ _ _) rfl h_this cf_11 rfl (Nat.le_of_ble_eq_true rfl) rfl ?_
        refine V_if_eq (pc := 45) (tgt := 52) dX11_onceHere_45 rfl (fun q => ?_) (fun q => ?_)
        · have h := ite_t q h
          refine V_aload_n (i := 0) (pc := 52) dX11_onceHere_52 rfl rfl ?_
          refine V_ldcS (i := 25) (tx := "drift") (pc := 53) dX11_onceHere_53 (by decide +kernel) ?_
          obtain ⟨r55, e55, h⟩ := bnd h
          refine V_invV1 (c := 11) (pc := 55) dX11_onceHere_55 (e_Mo_is h_this (isS_lit 25 (Nat.le_of_ble_eq_true rfl)) e55) iv_Mo_145 (rm_Mo_onceHere_Mo_is _ _ _) rfl h_this cf_11 rfl (Nat.le_of_ble_eq_true rfl) rfl ?_
          refine V_if_eq (pc := 58) (tgt := 65) dX11_onceHere_58 rfl (fun q => ?_) (fun q => ?_)
          · have h := ite_t q h
            refine V_aload_n (i := 0) (pc := 65) dX11_onceHere_65 rfl rfl ?_
            refine V_ldcS (i := 20) (tx := "breaks") (pc := 66) dX11_onceHere_66 (by decide +kernel) ?_
            obtain ⟨r68, e68, h⟩ := bnd h
            refine V_invV1 (c := 11) (pc := 68) dX11_onceHere_68 (e_Mo_is h_this (isS_lit 20 (Nat.le_of_ble_eq_true rfl)) e68) iv_Mo_145 (rm_Mo_onceHere_Mo_is _ _ _) rfl h_this cf_11 rfl (Nat.le_of_ble_eq_true rfl) rfl ?_
            refine V_if_eq (pc := 71) (tgt := 78) dX11_onceHere_71 rfl (fun q => ?_) (fun q => ?_)
            · have h := ite_t q h
              refine V_iconst (v := (-1)) (pc := 78) dX11_onceHere_78 rfl ?_
              obtain rfl := Option.some.inj h
              exact E_i (pc := 79) dX11_onceHere_79 rfl hp
            · have h := ite_f q h
              refine V_iconst (v := 5) (pc := 74) dX11_onceHere_74 rfl ?_
              refine V_goto (tgt := 79) (pc := 75) dX11_onceHere_75 rfl ?_
              obtain rfl := Option.some.inj h
              exact E_i (pc := 79) dX11_onceHere_79 rfl hp
          · have h := ite_f q h
            refine V_iconst (v := 4) (pc := 61) dX11_onceHere_61 rfl ?_
            refine V_goto (tgt := 79) (pc := 62) dX11_onceHere_62 rfl ?_
            obtain rfl := Option.some.inj h
            exact E_i (pc := 79) dX11_onceHere_79 rfl hp
        · have h := ite_f q h
          refine V_iconst (v := 3) (pc := 48) dX11_onceHere_48 rfl ?_
          refine V_goto (tgt := 79) (pc := 49) dX11_onceHere_49 rfl ?_
          obtain rfl := Option.some.inj h
          exact E_i (pc := 79) dX11_onceHere_79 rfl hp
      · have h := ite_f q h
        refine V_iconst (v := 2) (pc := 35) dX11_onceHere_35 rfl ?_
        refine V_goto (tgt := 79) (pc := 36) dX11_onceHere_36 rfl ?_
        obtain rfl := Option.some.inj h
        exact E_i (pc := 79) dX11_onceHere_79 rfl hp
    · have h := ite_f q h
      refine V_iconst (v := 1) (pc := 22) dX11_onceHere_22 rfl ?_
      refine V_goto (tgt := 79) (pc := 23) dX11_onceHere_23 rfl ?_
      obtain rfl := Option.some.inj h
      exact E_i (pc := 79) dX11_onceHere_79 rfl hp
  · have h := ite_f q h
    refine V_iconst (v := 0) (pc := 9) dX11_onceHere_9 rfl ?_
    refine V_goto (tgt := 79) (pc := 10) dX11_onceHere_10 rfl ?_
    obtain rfl := Option.some.inj h
    exact E_i (pc := 79) dX11_onceHere_79 rfl hp
theorem e_Mo_onceHere {g : GE} {this : Nat} {m : Mem} (h_this : kd this = 12) {x : Int32} (h : Mo_onceHere this m = some x) : Ev g Y_Mo_onceHere [vr this] m (some (vi x)) m :=
  Ev_of 0 (by decide +kernel) rfl (Nat.le_of_ble_eq_true rfl) rfl (k_Mo_onceHere h_this h ⟨rfl, rfl⟩)
theorem k_Mo_readOnce_b161 {g : GE} {this : Nat} {v1 : Int32}  {m : Mem} (h_this : kd this = 12) {r : Option AV} {m' : Mem} {x : Mem} (h : Mo_readOnce_b161 this v1 m = some x) (hp : (fun x : Mem => r = none ∧ m' = x) x) : V g Y_Mo_readOnce 161 [some (vr this), some (vi v1)] [] m (PM g Y_Mo_readOnce r m') := by
  unfold Mo_readOnce_b161 at h
  refine V_iload_n (i := 1) (pc := 161) dX11_readOnce_161 rfl rfl ?_
  refine V_iconst (v := 5) (pc := 162) dX11_readOnce_162 rfl ?_
  refine V_icmp_ne (pc := 163) (tgt := 198) dX11_readOnce_163 rfl (fun q => ?_) (fun q => ?_)
  · have h := ite_f q h
    obtain rfl := Option.some.inj h
    exact E_v (pc := 198) dX11_readOnce_198 rfl hp
  · have h := ite_t q h
    refine V_aload_n (i := 0) (pc := 166) dX11_readOnce_166 rfl rfl ?_
    refine V_getR (b := (this + 6)) (pc := 167) dX11_readOnce_167 fl_Mo_34 h_this rfl rfl ?_
    refine V_bipush (v := 16) (pc := 170) dX11_readOnce_170 rfl ?_
    refine V_aload_n (i := 0) (pc := 172) dX11_readOnce_172 rfl rfl ?_
    refine V_iconst (v := 0) (pc := 173) dX11_readOnce_173 rfl ?_
    refine V_sipush (v := 9999) (pc := 174) dX11_readOnce_174 rfl ?_
    obtain ⟨r177, e177, h⟩ := bnd h
    refine V_invV1 (c := 11) (pc := 177) dX11_readOnce_177 (e_Mo_number h_this e177) iv_Mo_163 (rm_Mo_readOnce_Mo_number _ _ _) rfl h_this cf_11 rfl (Nat.le_of_ble_eq_true rfl) rfl ?_
    obtain ⟨hg180, h⟩ := gd_e h
    refine V_iast_lt (pc := 180) dX11_readOnce_180 (kf_11_14 h_this) (af_11_14 h_this) hg180 h (fun m180 h => ?_)
    refine V_aload_n (i := 0) (pc := 181) dX11_readOnce_181 rfl rfl ?_
    refine V_getR (b := (this + 6)) (pc := 182) dX11_readOnce_182 fl_Mo_34 h_this rfl rfl ?_
    refine V_bipush (v := 17) (pc := 185) dX11_readOnce_185 rfl ?_
    refine V_aload_n (i := 0) (pc := 187) dX11_readOnce_187 rfl rfl ?_
    refine V_ldcS (i := 28) (tx := "crossing") (pc := 188) dX11_readOnce_188 (by decide +kernel) ?_
    refine V_iconst (v := 0) (pc := 190) dX11_readOnce_190 rfl ?_
    refine V_sipush (v := 9999) (pc := 191) dX11_readOnce_191 rfl ?_
    obtain ⟨r194, e194, h⟩ := bnd h
    refine V_invV1 (c := 11) (pc := 194) dX11_readOnce_194 (e_Mo_told h_this (isS_lit 28 (Nat.le_of_ble_eq_true rfl)) e194) iv_Mo_170 (rm_Mo_readOnce_Mo_told _ _ _) rfl h_this cf_11 rfl (Nat.le_of_ble_eq_true rfl) rfl ?_
    obtain ⟨hg197, h⟩ := gd_e h
    refine V_iast_lt (pc := 197) dX11_readOnce_197 (kf_11_14 h_this) (af_11_14 h_this) hg197 h (fun m197 h => ?_)
    obtain rfl := Option.some.inj h
    exact E_v (pc := 198) dX11_readOnce_198 rfl hp
theorem k_Mo_readOnce_b126 {g : GE} {this : Nat} {v1 : Int32}  {m : Mem} (h_this : kd this = 12) {r : Option AV} {m' : Mem} {x : Mem} (h : Mo_readOnce_b126 this v1 m = some x) (hp : (fun x : Mem => r = none ∧ m' = x) x) : V g Y_Mo_readOnce 126 [some (vr this), some (vi v1)] [] m (PM g Y_Mo_readOnce r m') := by
  unfold Mo_readOnce_b126 at h
  refine V_iload_n (i := 1) (pc := 126) dX11_readOnce_126 rfl rfl ?_
  refine V_iconst (v := 4) (pc := 127) dX11_readOnce_127 rfl ?_
  refine V_icmp_ne (pc := 128) (tgt := 161) dX11_readOnce_128 rfl (fun q => ?_) (fun q => ?_)
  · have h := ite_f q h
    exact k_Mo_readOnce_b161 h_this h hp
  · have h := ite_t q h
    refine V_aload_n (i := 0) (pc := 131) dX11_readOnce_131 rfl rfl ?_
    refine V_getR (b := (this + 6)) (pc := 132) dX11_readOnce_132 fl_Mo_34 h_this rfl rfl ?_
    refine V_bipush (v := 14) (pc := 135) dX11_readOnce_135 rfl ?_
    refine V_aload_n (i := 0) (pc := 137) dX11_readOnce_137 rfl rfl ?_
    refine V_iconst (v := 0) (pc := 138) dX11_readOnce_138 rfl ?_
    refine V_bipush (v := 100) (pc := 139) dX11_readOnce_139 rfl ?_
    obtain ⟨r141, e141, h⟩ := bnd h
    refine V_invV1 (c := 11) (pc := 141) dX11_readOnce_141 (e_Mo_number h_this e141) iv_Mo_163 (rm_Mo_readOnce_Mo_number _ _ _) rfl h_this cf_11 rfl (Nat.le_of_ble_eq_true rfl) rfl ?_
    obtain ⟨hg144, h⟩ := gd_e h
    refine V_iast_lt (pc := 144) dX11_readOnce_144 (kf_11_14 h_this) (af_11_14 h_this) hg144 h (fun m144 h => ?_)
    refine V_aload_n (i := 0) (pc := 145) dX11_readOnce_145 rfl rfl ?_
    refine V_getR (b := (this + 6)) (pc := 146) dX11_readOnce_146 fl_Mo_34 h_this rfl rfl ?_
    refine V_bipush (v := 15) (pc := 149) dX11_readOnce_149 rfl ?_
    refine V_aload_n (i := 0) (pc := 151) dX11_readOnce_151 rfl rfl ?_
    refine V_ldcS (i := 27) (tx := "land") (pc := 152) dX11_readOnce_152 (by decide +kernel) ?_
    refine V_iconst (v := 0) (pc := 154) dX11_readOnce_154 rfl ?_
    refine V_bipush (v := 60) (pc := 155) dX11_readOnce_155 rfl ?_
    obtain ⟨r157, e157, h⟩ := bnd h
    refine V_invV1 (c := 11) (pc := 157) dX11_readOnce_157 (e_Mo_told h_this (isS_lit 27 (Nat.le_of_ble_eq_true rfl)) e157) iv_Mo_170 (rm_Mo_readOnce_Mo_told _ _ _) rfl h_this cf_11 rfl (Nat.le_of_ble_eq_true rfl) rfl ?_
    obtain ⟨hg160, h⟩ := gd_e h
    refine V_iast_lt (pc := 160) dX11_readOnce_160 (kf_11_14 h_this) (af_11_14 h_this) hg160 h (fun m160 h => ?_)
    exact k_Mo_readOnce_b161 h_this h hp
theorem k_Mo_readOnce_b107 {g : GE} {this : Nat} {v1 : Int32}  {m : Mem} (h_this : kd this = 12) {r : Option AV} {m' : Mem} {x : Mem} (h : Mo_readOnce_b107 this v1 m = some x) (hp : (fun x : Mem => r = none ∧ m' = x) x) : V g Y_Mo_readOnce 107 [some (vr this), some (vi v1)] [] m (PM g Y_Mo_readOnce r m') := by
  unfold Mo_readOnce_b107 at h
  refine V_iload_n (i := 1) (pc := 107) dX11_readOnce_107 rfl rfl ?_
  refine V_iconst (v := 3) (pc := 108) dX11_readOnce_108 rfl ?_
  refine V_icmp_ne (pc := 109) (tgt := 126) dX11_readOnce_109 rfl (fun q => ?_) (fun q => ?_)
  · have h := ite_f q h
    exact k_Mo_readOnce_b126 h_this h hp
  · have h := ite_t q h
    refine V_aload_n (i := 0) (pc := 112) dX11_readOnce_112 rfl rfl ?_
    refine V_getR (b := (this + 6)) (pc := 113) dX11_readOnce_113 fl_Mo_34 h_this rfl rfl ?_
    refine V_bipush (v := 13) (pc := 116) dX11_readOnce_116 rfl ?_
    refine V_aload_n (i := 0) (pc := 118) dX11_readOnce_118 rfl rfl ?_
    refine V_iconst (v := 0) (pc := 119) dX11_readOnce_119 rfl ?_
    refine V_bipush (v := 100) (pc := 120) dX11_readOnce_120 rfl ?_
    obtain ⟨r122, e122, h⟩ := bnd h
    refine V_invV1 (c := 11) (pc := 122) dX11_readOnce_122 (e_Mo_number h_this e122) iv_Mo_163 (rm_Mo_readOnce_Mo_number _ _ _) rfl h_this cf_11 rfl (Nat.le_of_ble_eq_true rfl) rfl ?_
    obtain ⟨hg125, h⟩ := gd_e h
    refine V_iast_lt (pc := 125) dX11_readOnce_125 (kf_11_14 h_this) (af_11_14 h_this) hg125 h (fun m125 h => ?_)
    exact k_Mo_readOnce_b126 h_this h hp
theorem k_Mo_readOnce_b72 {g : GE} {this : Nat} {v1 : Int32}  {m : Mem} (h_this : kd this = 12) {r : Option AV} {m' : Mem} {x : Mem} (h : Mo_readOnce_b72 this v1 m = some x) (hp : (fun x : Mem => r = none ∧ m' = x) x) : V g Y_Mo_readOnce 72 [some (vr this), some (vi v1)] [] m (PM g Y_Mo_readOnce r m') := by
  unfold Mo_readOnce_b72 at h
  refine V_iload_n (i := 1) (pc := 72) dX11_readOnce_72 rfl rfl ?_
  refine V_iconst (v := 2) (pc := 73) dX11_readOnce_73 rfl ?_
  refine V_icmp_ne (pc := 74) (tgt := 107) dX11_readOnce_74 rfl (fun q => ?_) (fun q => ?_)
  · have h := ite_f q h
    exact k_Mo_readOnce_b107 h_this h hp
  · have h := ite_t q h
    refine V_aload_n (i := 0) (pc := 77) dX11_readOnce_77 rfl rfl ?_
    refine V_getR (b := (this + 6)) (pc := 78) dX11_readOnce_78 fl_Mo_34 h_this rfl rfl ?_
    refine V_bipush (v := 11) (pc := 81) dX11_readOnce_81 rfl ?_
    refine V_aload_n (i := 0) (pc := 83) dX11_readOnce_83 rfl rfl ?_
    refine V_iconst (v := 0) (pc := 84) dX11_readOnce_84 rfl ?_
    refine V_bipush (v := 60) (pc := 85) dX11_readOnce_85 rfl ?_
    obtain ⟨r87, e87, h⟩ := bnd h
    refine V_invV1 (c := 11) (pc := 87) dX11_readOnce_87 (e_Mo_number h_this e87) iv_Mo_163 (rm_Mo_readOnce_Mo_number _ _ _) rfl h_this cf_11 rfl (Nat.le_of_ble_eq_true rfl) rfl ?_
    obtain ⟨hg90, h⟩ := gd_e h
    refine V_iast_lt (pc := 90) dX11_readOnce_90 (kf_11_14 h_this) (af_11_14 h_this) hg90 h (fun m90 h => ?_)
    refine V_aload_n (i := 0) (pc := 91) dX11_readOnce_91 rfl rfl ?_
    refine V_getR (b := (this + 6)) (pc := 92) dX11_readOnce_92 fl_Mo_34 h_this rfl rfl ?_
    refine V_bipush (v := 12) (pc := 95) dX11_readOnce_95 rfl ?_
    refine V_aload_n (i := 0) (pc := 97) dX11_readOnce_97 rfl rfl ?_
    refine V_ldcS (i := 26) (tx := "across") (pc := 98) dX11_readOnce_98 (by decide +kernel) ?_
    refine V_iconst (v := 0) (pc := 100) dX11_readOnce_100 rfl ?_
    refine V_bipush (v := 60) (pc := 101) dX11_readOnce_101 rfl ?_
    obtain ⟨r103, e103, h⟩ := bnd h
    refine V_invV1 (c := 11) (pc := 103) dX11_readOnce_103 (e_Mo_told h_this (isS_lit 26 (Nat.le_of_ble_eq_true rfl)) e103) iv_Mo_170 (rm_Mo_readOnce_Mo_told _ _ _) rfl h_this cf_11 rfl (Nat.le_of_ble_eq_true rfl) rfl ?_
    obtain ⟨hg106, h⟩ := gd_e h
    refine V_iast_lt (pc := 106) dX11_readOnce_106 (kf_11_14 h_this) (af_11_14 h_this) hg106 h (fun m106 h => ?_)
    exact k_Mo_readOnce_b107 h_this h hp
theorem k_Mo_readOnce_b53 {g : GE} {this : Nat} {v1 : Int32}  {m : Mem} (h_this : kd this = 12) {r : Option AV} {m' : Mem} {x : Mem} (h : Mo_readOnce_b53 this v1 m = some x) (hp : (fun x : Mem => r = none ∧ m' = x) x) : V g Y_Mo_readOnce 53 [some (vr this), some (vi v1)] [] m (PM g Y_Mo_readOnce r m') := by
  unfold Mo_readOnce_b53 at h
  refine V_iload_n (i := 1) (pc := 53) dX11_readOnce_53 rfl rfl ?_
  refine V_iconst (v := 1) (pc := 54) dX11_readOnce_54 rfl ?_
  refine V_icmp_ne (pc := 55) (tgt := 72) dX11_readOnce_55 rfl (fun q => ?_) (fun q => ?_)
  · have h := ite_f q h
    exact k_Mo_readOnce_b72 h_this h hp
  · have h := ite_t q h
    refine V_aload_n (i := 0) (pc := 58) dX11_readOnce_58 rfl rfl ?_
    refine V_getR (b := (this + 6)) (pc := 59) dX11_readOnce_59 fl_Mo_34 h_this rfl rfl ?_
    refine V_bipush (v := 10) (pc := 62) dX11_readOnce_62 rfl ?_
    refine V_aload_n (i := 0) (pc := 64) dX11_readOnce_64 rfl rfl ?_
    refine V_iconst (v := 0) (pc := 65) dX11_readOnce_65 rfl ?_
    refine V_bipush (v := 100) (pc := 66) dX11_readOnce_66 rfl ?_
    obtain ⟨r68, e68, h⟩ := bnd h
    refine V_invV1 (c := 11) (pc := 68) dX11_readOnce_68 (e_Mo_number h_this e68) iv_Mo_163 (rm_Mo_readOnce_Mo_number _ _ _) rfl h_this cf_11 rfl (Nat.le_of_ble_eq_true rfl) rfl ?_
    obtain ⟨hg71, h⟩ := gd_e h
    refine V_iast_lt (pc := 71) dX11_readOnce_71 (kf_11_14 h_this) (af_11_14 h_this) hg71 h (fun m71 h => ?_)
    exact k_Mo_readOnce_b72 h_this h hp
theorem k_Mo_readOnce {g : GE} {this : Nat} {v1 : Int32} {m : Mem} (h_this : kd this = 12) {r : Option AV} {m' : Mem} {x : Mem} (h : Mo_readOnce this v1 m = some x) (hp : (fun x : Mem => r = none ∧ m' = x) x) : V g Y_Mo_readOnce 0 [some (vr this), some (vi v1)] [] m (PM g Y_Mo_readOnce r m') := by
  unfold Mo_readOnce at h
  refine V_aload_n (i := 0) (pc := 0) dX11_readOnce_0 rfl rfl ?_
  obtain ⟨m1, e1, h⟩ := bnd h
  refine V_invV0 (c := 11) (pc := 1) dX11_readOnce_1 (e_Mo_advance h_this e1) iv_Mo_149 (rm_Mo_readOnce_Mo_advance _ _ _) rfl h_this cf_11 rfl (Nat.le_of_ble_eq_true rfl) rfl ?_
  refine V_aload_n (i := 0) (pc := 4) dX11_readOnce_4 rfl rfl ?_
  refine V_getR (b := (this + 6)) (pc := 5) dX11_readOnce_5 fl_Mo_34 h_this rfl rfl ?_
  refine V_bipush (v := 20) (pc := 8) dX11_readOnce_8 rfl ?_
  refine V_dup2 (pc := 10) dX11_readOnce_10 ?_
  obtain ⟨hg11, h⟩ := gd_e h
  refine V_iald (pc := 11) dX11_readOnce_11 (kf_11_14 h_this) (af_11_14 h_this) hg11 ?_
  refine V_iconst (v := 1) (pc := 12) dX11_readOnce_12 rfl ?_
  refine V_iload_n (i := 1) (pc := 13) dX11_readOnce_13 rfl rfl ?_
  refine V_ishl (pc := 14) dX11_readOnce_14 ?_
  refine V_ior (pc := 15) dX11_readOnce_15 ?_
  obtain ⟨hg16, h⟩ := gd_e h
  refine V_iast_lt (pc := 16) dX11_readOnce_16 (kf_11_14 h_this) (af_11_14 h_this) hg16 h (fun m16 h => ?_)
  refine V_iload_n (i := 1) (pc := 17) dX11_readOnce_17 rfl rfl ?_
  refine V_if_ne (pc := 18) (tgt := 53) dX11_readOnce_18 rfl (fun q => ?_) (fun q => ?_)
  · have h := ite_f q h
    exact k_Mo_readOnce_b53 h_this h hp
  · have h := ite_t q h
    refine V_aload_n (i := 0) (pc := 21) dX11_readOnce_21 rfl rfl ?_
    refine V_getR (b := (this + 6)) (pc := 22) dX11_readOnce_22 fl_Mo_34 h_this rfl rfl ?_
    refine V_bipush (v := 8) (pc := 25) dX11_readOnce_25 rfl ?_
    refine V_aload_n (i := 0) (pc := 27) dX11_readOnce_27 rfl rfl ?_
    refine V_ldcS (i := 8) (tx := "swell") (pc := 28) dX11_readOnce_28 (by decide +kernel) ?_
    refine V_iconst (v := 0) (pc := 30) dX11_readOnce_30 rfl ?_
    refine V_bipush (v := 9) (pc := 31) dX11_readOnce_31 rfl ?_
    obtain ⟨r33, e33, h⟩ := bnd h
    refine V_invV1 (c := 11) (pc := 33) dX11_readOnce_33 (e_Mo_told h_this (isS_lit 8 (Nat.le_of_ble_eq_true rfl)) e33) iv_Mo_170 (rm_Mo_readOnce_Mo_told _ _ _) rfl h_this cf_11 rfl (Nat.le_of_ble_eq_true rfl) rfl ?_
    obtain ⟨hg36, h⟩ := gd_e h
    refine V_iast_lt (pc := 36) dX11_readOnce_36 (kf_11_14 h_this) (af_11_14 h_this) hg36 h (fun m36 h => ?_)
    refine V_aload_n (i := 0) (pc := 37) dX11_readOnce_37 rfl rfl ?_
    refine V_getR (b := (this + 6)) (pc := 38) dX11_readOnce_38 fl_Mo_34 h_this rfl rfl ?_
    refine V_bipush (v := 9) (pc := 41) dX11_readOnce_41 rfl ?_
    refine V_aload_n (i := 0) (pc := 43) dX11_readOnce_43 rfl rfl ?_
    refine V_ldcS (i := 9) (tx := "warm") (pc := 44) dX11_readOnce_44 (by decide +kernel) ?_
    refine V_iconst (v := 0) (pc := 46) dX11_readOnce_46 rfl ?_
    refine V_bipush (v := 9) (pc := 47) dX11_readOnce_47 rfl ?_
    obtain ⟨r49, e49, h⟩ := bnd h
    refine V_invV1 (c := 11) (pc := 49) dX11_readOnce_49 (e_Mo_told h_this (isS_lit 9 (Nat.le_of_ble_eq_true rfl)) e49) iv_Mo_170 (rm_Mo_readOnce_Mo_told _ _ _) rfl h_this cf_11 rfl (Nat.le_of_ble_eq_true rfl) rfl ?_
    obtain ⟨hg52, h⟩ := gd_e h
    refine V_iast_lt (pc := 52) dX11_readOnce_52 (kf_11_14 h_this) (af_11_14 h_this) hg52 h (fun m52 h => ?_)
    exact k_Mo_readOnce_b53 h_this h hp
theorem e_Mo_readOnce {g : GE} {this : Nat} {v1 : Int32} {m : Mem} (h_this : kd this = 12) {x : Mem} (h : Mo_readOnce this v1 m = some x) : Ev g Y_Mo_readOnce [vr this, vi v1] m (none) x :=
  Ev_of 0 (by decide +kernel) rfl (Nat.le_of_ble_eq_true rfl) rfl (k_Mo_readOnce h_this h ⟨rfl, rfl⟩)
theorem k_Mo_readNext_b132 {g : GE} {this : Nat} {v1 : Int32}  {m : Mem} (h_this : kd this = 12) {r : Option AV} {m' : Mem} {x : Mem} (h : Mo_readNext_b132 this v1 m = some x) (hp : (fun x : Mem => r = none ∧ m' = x) x) : V g Y_Mo_readNext 132 [some (vr this), some (vi v1)] [] m (PM g Y_Mo_readNext r m') := by
  unfold Mo_readNext_b132 at h
  refine V_aload_n (i := 0) (pc := 132) dX11_readNext_132 rfl rfl ?_
  obtain ⟨r133, e133, h⟩ := bnd h
  refine V_invV1 (c := 11) (pc := 133) dX11_readNext_133 (e_Mo_good h_this e133) iv_Mo_131 (rm_Mo_readNext_Mo_good _ _ _) rfl h_this cf_11 rfl (Nat.le_of_ble_eq_true rfl) rfl ?_
  refine V_if_ne (pc := 136) (tgt := 140) dX11_readNext_136 rfl (fun q => ?_) (fun q => ?_)
  · have h := ite_f q h
    refine V_iload_n (i := 1) (pc := 140) dX11_readNext_140 rfl rfl ?_
    refine V_iconst (v := (-1)) (pc := 141) dX11_readNext_141 rfl ?_
    refine V_icmp_eq (pc := 142) (tgt := 153) dX11_readNext_142 rfl (fun q => ?_) (fun q => ?_)
    · have h := ite_t q h
      refine V_aload_n (i := 0) (pc := 153) dX11_readNext_153 rfl rfl ?_
      refine V_ldcS (i := 29) (tx := "crack") (pc := 154) dX11_readNext_154 (by decide +kernel) ?_
      obtain ⟨r156, e156, h⟩ := bnd h
      refine V_invV1 (c := 11) (pc := 156) dX11_readNext_156 (e_Mo_takes h_this (isS_lit 29 (Nat.le_of_ble_eq_true rfl)) e156) iv_Mo_152 (rm_Mo_readNext_Mo_takes _ _ _) rfl h_this cf_11 rfl (Nat.le_of_ble_eq_true rfl) rfl ?_
      refine V_if_eq (pc := 159) (tgt := 169) dX11_readNext_159 rfl (fun q => ?_) (fun q => ?_)
      · have h := ite_t q h
        refine V_aload_n (i := 0) (pc := 169) dX11_readNext_169 rfl rfl ?_
        refine V_ldcS (i := 30) (tx := "sort") (pc := 170) dX11_readNext_170 (by decide +kernel) ?_
        obtain ⟨r172, e172, h⟩ := bnd h
        refine V_invV1 (c := 11) (pc := 172) dX11_readNext_172 (e_Mo_takes h_this (isS_lit 30 (Nat.le_of_ble_eq_true rfl)) e172) iv_Mo_152 (rm_Mo_readNext_Mo_takes _ _ _) rfl h_this cf_11 rfl (Nat.le_of_ble_eq_true rfl) rfl ?_
        refine V_if_eq (pc := 175) (tgt := 185) dX11_readNext_175 rfl (fun q => ?_) (fun q => ?_)
        · have h := ite_t q h
          refine V_aload_n (i := 0) (pc := 185) dX11_readNext_185 rfl rfl ?_
          refine V_ldcS (i := 31) (tx := "other") (pc := 186) dX11_readNext_186 (by decide +kernel) ?_
          obtain ⟨r188, e188, h⟩ := bnd h
          refine V_invV1 (c := 11) (pc := 188) dX11_readNext_188 (e_Mo_takes h_this (isS_lit 31 (Nat.le_of_ble_eq_true rfl)) e188) iv_Mo_152 (rm_Mo_readNext_Mo_takes _ _ _) rfl h_this cf_11 rfl (Nat.le_of_ble_eq_true rfl) rfl ?_
          refine V_if_eq (pc := 191) (tgt := 198) dX11_readNext_191 rfl (fun q => ?_) (fun q => ?_)
          · have h := ite_t q h
            obtain rfl := Option.some.inj h
            exact E_v (pc := 198) dX11_readNext_198 rfl hp
          · have h := ite_f q h
            refine V_aload_n (i := 0) (pc := 194) dX11_readNext_194 rfl rfl ?_
            obtain ⟨m195, e195, h⟩ := bnd h
            refine V_invV0 (c := 11) (pc := 195) dX11_readNext_195 (e_Mo_readOther h_this e195) iv_Mo_252 (rm_Mo_readNext_Mo_readOther _ _ _) rfl h_this cf_11 rfl (Nat.le_of_ble_eq_true rfl) rfl ?_
            obtain rfl := Option.some.inj h
            exact E_v (pc := 198) dX11_readNext_198 rfl hp
        · have h := ite_f q h
          refine V_aload_n (i := 0) (pc := 178) dX11_readNext_178 rfl rfl ?_
          obtain ⟨m179, e179, h⟩ := bnd h
          refine V_invV0 (c := 11) (pc := 179) dX11_readNext_179 (e_Mo_readSort h_this e179) iv_Mo_249 (rm_Mo_readNext_Mo_readSort _ _ _) rfl h_this cf_11 rfl (Nat.le_of_ble_eq_true rfl) rfl ?_
          refine V_goto (tgt := 198) (pc := 182) dX11_readNext_182 rfl ?_
          obtain rfl := Option.some.inj h
          exact E_v (pc := 198) dX11_readNext_198 rfl hp
      · have h := ite_f q h
        refine V_aload_n (i := 0) (pc := 162) dX11_readNext_162 rfl rfl ?_
        obtain ⟨m163, e163, h⟩ := bnd h
        refine V_invV0 (c := 11) (pc := 163) dX11_readNext_163 (e_Mo_readCrack h_this e163) iv_Mo_246 (rm_Mo_readNext_Mo_readCrack _ _ _) rfl h_this cf_11 rfl (Nat.le_of_ble_eq_true rfl) rfl ?_
        refine V_goto (tgt := 198) (pc := 166) dX11_readNext_166 rfl ?_
        obtain rfl := Option.some.inj h
        exact E_v (pc := 198) dX11_readNext_198 rfl hp
    · have h := ite_f q h
      refine V_aload_n (i := 0) (pc := 145) dX11_readNext_145 rfl rfl ?_
      refine V_iload_n (i := 1) (pc := 146) dX11_readNext_146 rfl rfl ?_
      obtain ⟨m147, e147, h⟩ := bnd h
      refine V_invV0 (c := 11) (pc := 147) dX11_readNext_147 (e_Mo_readOnce h_this e147) iv_Mo_243 (rm_Mo_readNext_Mo_readOnce _ _ _) rfl h_this cf_11 rfl (Nat.le_of_ble_eq_true rfl) rfl ?_
      refine V_goto (tgt := 198) (pc := 150) dX11_readNext_150 rfl ?_
      obtain rfl := Option.some.inj h
      exact E_v (pc := 198) dX11_readNext_198 rfl hp
  · have h := ite_t q h
    obtain rfl := Option.some.inj h
    exact E_v (pc := 139) dX11_readNext_139 rfl hp
theorem k_Mo_readNext_b127 {g : GE} {this : Nat} {v1 : Int32}  {m : Mem} (h_this : kd this = 12) {r : Option AV} {m' : Mem} {x : Mem} (h : Mo_readNext_b127 this v1 m = some x) (hp : (fun x : Mem => r = none ∧ m' = x) x) : V g Y_Mo_readNext 127 [some (vr this), some (vi v1)] [] m (PM g Y_Mo_readNext r m') := by
  unfold Mo_readNext_b127 at h
  refine V_aload_n (i := 0) (pc := 127) dX11_readNext_127 rfl rfl ?_
  refine V_iconst (v := 3) (pc := 128) dX11_readNext_128 rfl ?_
  obtain ⟨m129, e129, h⟩ := bnd h
  refine V_invV0 (c := 11) (pc := 129) dX11_readNext_129 (e_Mo_errs h_this e129) iv_Mo_155 (rm_Mo_readNext_Mo_errs _ _ _) rfl h_this cf_11 rfl (Nat.le_of_ble_eq_true rfl) rfl ?_
  exact k_Mo_readNext_b132 h_this h hp
theorem k_Mo_readNext_b107 {g : GE} {this : Nat} {v1 : Int32}  {m : Mem} (h_this : kd this = 12) {r : Option AV} {m' : Mem} {x : Mem} (h : Mo_readNext_b107 this v1 m = some x) (hp : (fun x : Mem => r = none ∧ m' = x) x) : V g Y_Mo_readNext 107 [some (vr this), some (vi v1)] [] m (PM g Y_Mo_readNext r m') := by
  unfold Mo_readNext_b107 at h
  refine V_aload_n (i := 0) (pc := 107) dX11_readNext_107 rfl rfl ?_
  refine V_ldcS (i := 31) (tx := "other") (pc := 108) dX11_readNext_108 (by decide +kernel) ?_
  obtain ⟨r110, e110, h⟩ := bnd h
  refine V_invV1 (c := 11) (pc := 110) dX11_readNext_110 (e_Mo_is h_this (isS_lit 31 (Nat.le_of_ble_eq_true rfl)) e110) iv_Mo_145 (rm_Mo_readNext_Mo_is _ _ _) rfl h_this cf_11 rfl (Nat.le_of_ble_eq_true rfl) rfl ?_
  refine V_if_eq (pc := 113) (tgt := 132) dX11_readNext_113 rfl (fun q => ?_) (fun q => ?_)
  · have h := ite_t q h
    exact k_Mo_readNext_b132 h_this h hp
  · have h := ite_f q h
    refine V_aload_n (i := 0) (pc := 116) dX11_readNext_116 rfl rfl ?_
    refine V_getR (b := (this + 6)) (pc := 117) dX11_readNext_117 fl_Mo_34 h_this rfl rfl ?_
    refine V_bipush (v := 7) (pc := 120) dX11_readNext_120 rfl ?_
    obtain ⟨hg122, h⟩ := gd_e h
    refine V_iald (pc := 122) dX11_readNext_122 (kf_11_14 h_this) (af_11_14 h_this) hg122 ?_
    refine V_iconst (v := 4) (pc := 123) dX11_readNext_123 rfl ?_
    refine V_icmp_ne (pc := 124) (tgt := 132) dX11_readNext_124 rfl (fun q => ?_) (fun q => ?_)
    · have h := ite_f q h
      exact k_Mo_readNext_b132 h_this h hp
    · have h := ite_t q h
      exact k_Mo_readNext_b127 h_this h hp
theorem k_Mo_readNext_b86 {g : GE} {this : Nat} {v1 : Int32}  {m : Mem} (h_this : kd this = 12) {r : Option AV} {m' : Mem} {x : Mem} (h : Mo_readNext_b86 this v1 m = some x) (hp : (fun x : Mem => r = none ∧ m' = x) x) : V g Y_Mo_readNext 86 [some (vr this), some (vi v1)] [] m (PM g Y_Mo_readNext r m') := by
  unfold Mo_readNext_b86 at h
  refine V_aload_n (i := 0) (pc := 86) dX11_readNext_86 rfl rfl ?_
  refine V_ldcS (i := 30) (tx := "sort") (pc := 87) dX11_readNext_87 (by decide +kernel) ?_
  obtain ⟨r89, e89, h⟩ := bnd h
  refine V_invV1 (c := 11) (pc := 89) dX11_readNext_89 (e_Mo_is h_this (isS_lit 30 (Nat.le_of_ble_eq_true rfl)) e89) iv_Mo_145 (rm_Mo_readNext_Mo_is _ _ _) rfl h_this cf_11 rfl (Nat.le_of_ble_eq_true rfl) rfl ?_
  refine V_if_eq (pc := 92) (tgt := 107) dX11_readNext_92 rfl (fun q => ?_) (fun q => ?_)
  · have h := ite_t q h
    exact k_Mo_readNext_b107 h_this h hp
  · have h := ite_f q h
    refine V_aload_n (i := 0) (pc := 95) dX11_readNext_95 rfl rfl ?_
    refine V_getR (b := (this + 6)) (pc := 96) dX11_readNext_96 fl_Mo_34 h_this rfl rfl ?_
    refine V_bipush (v := 6) (pc := 99) dX11_readNext_99 rfl ?_
    obtain ⟨hg101, h⟩ := gd_e h
    refine V_iald (pc := 101) dX11_readNext_101 (kf_11_14 h_this) (af_11_14 h_this) hg101 ?_
    refine V_bipush (v := 6) (pc := 102) dX11_readNext_102 rfl ?_
    refine V_icmp_eq (pc := 104) (tgt := 127) dX11_readNext_104 rfl (fun q => ?_) (fun q => ?_)
    · have h := ite_t q h
      exact k_Mo_readNext_b127 h_this h hp
    · have h := ite_f q h
      exact k_Mo_readNext_b107 h_this h hp
theorem k_Mo_readNext_b66 {g : GE} {this : Nat} {v1 : Int32}  {m : Mem} (h_this : kd this = 12) {r : Option AV} {m' : Mem} {x : Mem} (h : Mo_readNext_b66 this v1 m = some x) (hp : (fun x : Mem => r = none ∧ m' = x) x) : V g Y_Mo_readNext 66 [some (vr this), some (vi v1)] [] m (PM g Y_Mo_readNext r m') := by
  unfold Mo_readNext_b66 at h
  refine V_aload_n (i := 0) (pc := 66) dX11_readNext_66 rfl rfl ?_
  refine V_ldcS (i := 29) (tx := "crack") (pc := 67) dX11_readNext_67 (by decide +kernel) ?_
  obtain ⟨r69, e69, h⟩ := bnd h
  refine V_invV1 (c := 11) (pc := 69) dX11_readNext_69 (e_Mo_is h_this (isS_lit 29 (Nat.le_of_ble_eq_true rfl)) e69) iv_Mo_145 (rm_Mo_readNext_Mo_is _ _ _) rfl h_this cf_11 rfl (Nat.le_of_ble_eq_true rfl) rfl ?_
  refine V_if_eq (pc := 72) (tgt := 86) dX11_readNext_72 rfl (fun q => ?_) (fun q => ?_)
  · have h := ite_t q h
    exact k_Mo_readNext_b86 h_this h hp
  · have h := ite_f q h
    refine V_aload_n (i := 0) (pc := 75) dX11_readNext_75 rfl rfl ?_
    refine V_getR (b := (this + 6)) (pc := 76) dX11_readNext_76 fl_Mo_34 h_this rfl rfl ?_
    refine V_iconst (v := 5) (pc := 79) dX11_readNext_79 rfl ?_
    obtain ⟨hg80, h⟩ := gd_e h
    refine V_iald (pc := 80) dX11_readNext_80 (kf_11_14 h_this) (af_11_14 h_this) hg80 ?_
    refine V_bipush (v := 7) (pc := 81) dX11_readNext_81 rfl ?_
    refine V_icmp_eq (pc := 83) (tgt := 127) dX11_readNext_83 rfl (fun q => ?_) (fun q => ?_)
    · have h := ite_t q h
      exact k_Mo_readNext_b127 h_this h hp
    · have h := ite_f q h
      exact k_Mo_readNext_b86 h_this h hp
theorem k_Mo_readNext_b42 {g : GE} {this : Nat} {v1 : Int32}  {m : Mem} (h_this : kd this = 12) {r : Option AV} {m' : Mem} {x : Mem} (h : Mo_readNext_b42 this v1 m = some x) (hp : (fun x : Mem => r = none ∧ m' = x) x) : V g Y_Mo_readNext 42 [some (vr this), some (vi v1)] [] m (PM g Y_Mo_readNext r m') := by
  unfold Mo_readNext_b42 at h
  refine V_iload_n (i := 1) (pc := 42) dX11_readNext_42 rfl rfl ?_
  refine V_iconst (v := (-1)) (pc := 43) dX11_readNext_43 rfl ?_
  refine V_icmp_eq (pc := 44) (tgt := 66) dX11_readNext_44 rfl (fun q => ?_) (fun q => ?_)
  · have h := ite_t q h
    exact k_Mo_readNext_b66 h_this h hp
  · have h := ite_f q h
    refine V_aload_n (i := 0) (pc := 47) dX11_readNext_47 rfl rfl ?_
    refine V_getR (b := (this + 6)) (pc := 48) dX11_readNext_48 fl_Mo_34 h_this rfl rfl ?_
    refine V_bipush (v := 20) (pc := 51) dX11_readNext_51 rfl ?_
    obtain ⟨hg53, h⟩ := gd_e h
    refine V_iald (pc := 53) dX11_readNext_53 (kf_11_14 h_this) (af_11_14 h_this) hg53 ?_
    refine V_iload_n (i := 1) (pc := 54) dX11_readNext_54 rfl rfl ?_
    obtain ⟨r55, e55, h⟩ := bnd h
    refine V_invS1 (pc := 55) dX11_readNext_55 (e_Mo_holds  e55) is_Mo_239 (rm_Mo_readNext_Mo_holds _ _ _) rfl (Nat.le_of_ble_eq_true rfl) rfl ?_
    refine V_if_eq (pc := 58) (tgt := 66) dX11_readNext_58 rfl (fun q => ?_) (fun q => ?_)
    · have h := ite_t q h
      exact k_Mo_readNext_b66 h_this h hp
    · have h := ite_f q h
      refine V_aload_n (i := 0) (pc := 61) dX11_readNext_61 rfl rfl ?_
      refine V_iconst (v := 2) (pc := 62) dX11_readNext_62 rfl ?_
      obtain ⟨m63, e63, h⟩ := bnd h
      refine V_invV0 (c := 11) (pc := 63) dX11_readNext_63 (e_Mo_errs h_this e63) iv_Mo_155 (rm_Mo_readNext_Mo_errs _ _ _) rfl h_this cf_11 rfl (Nat.le_of_ble_eq_true rfl) rfl ?_
      exact k_Mo_readNext_b66 h_this h hp
theorem k_Mo_readNext {g : GE} {this : Nat} {m : Mem} (h_this : kd this = 12) {r : Option AV} {m' : Mem} {x : Mem} (h : Mo_readNext this m = some x) (hp : (fun x : Mem => r = none ∧ m' = x) x) : V g Y_Mo_readNext 0 [some (vr this), none] [] m (PM g Y_Mo_readNext r m') := by
  unfold Mo_readNext at h
  refine V_aload_n (i := 0) (pc := 0) dX11_readNext_0 rfl rfl ?_
  obtain ⟨r1, e1, h⟩ := bnd h
  refine V_invV1 (c := 11) (pc := 1) dX11_readNext_1 (e_Mo_onceHere h_this e1) iv_Mo_230 (rm_Mo_readNext_Mo_onceHere _ _ _) rfl h_this cf_11 rfl (Nat.le_of_ble_eq_true rfl) rfl ?_
  refine V_istore_n (i := 1) (ls' := [some (vr this), some (vi r1)]) (pc := 4) dX11_readNext_4 rfl (Nat.le_of_ble_eq_true rfl) rfl ?_
  refine V_iload_n (i := 1) (pc := 5) dX11_readNext_5 rfl rfl ?_
  refine V_iconst (v := (-1)) (pc := 6) dX11_readNext_6 rfl ?_
  refine V_icmp_ne (pc := 7) (tgt := 42) dX11_readNext_7 rfl (fun q => ?_) (fun q => ?_)
  · have h := ite_f q h
    exact k_Mo_readNext_b42 h_this h hp
  · have h := ite_t q h
    refine V_aload_n (i := 0) (pc := 10) dX11_readNext_10 rfl rfl ?_
    refine V_ldcS (i := 29) (tx := "crack") (pc := 11) dX11_readNext_11 (by decide +kernel) ?_
    obtain ⟨r13, e13, h⟩ := bnd h
    refine V_invV1 (c := 11) (pc := 13) dX11_readNext_13 (e_Mo_is h_this (isS_lit 29 (Nat.le_of_ble_eq_true rfl)) e13) iv_Mo_145 (rm_Mo_readNext_Mo_is _ _ _) rfl h_this cf_11 rfl (Nat.le_of_ble_eq_true rfl) rfl ?_
    refine V_if_ne (pc := 16) (tgt := 42) dX11_readNext_16 rfl (fun q => ?_) (fun q => ?_)
    · have h := ite_f q h
      exact k_Mo_readNext_b42 h_this h hp
    · have h := ite_t q h
      refine V_aload_n (i := 0) (pc := 19) dX11_readNext_19 rfl rfl ?_
      refine V_ldcS (i := 30) (tx := "sort") (pc := 20) dX11_readNext_20 (by decide +kernel) ?_
      obtain ⟨r22, e22, h⟩ := bnd h
      refine V_invV1 (c := 11) (pc := 22) dX11_readNext_22 (e_Mo_is h_this (isS_lit 30 (Nat.le_of_ble_eq_true rfl)) e22) iv_Mo_145 (rm_Mo_readNext_Mo_is _ _ _) rfl h_this cf_11 rfl (Nat.le_of_ble_eq_true rfl) rfl ?_
      refine V_if_ne (pc := 25) (tgt := 42) dX11_readNext_25 rfl (fun q => ?_) (fun q => ?_)
      · have h := ite_f q h
        exact k_Mo_readNext_b42 h_this h hp
      · have h := ite_t q h
        refine V_aload_n (i := 0) (pc := 28) dX11_readNext_28 rfl rfl ?_
        refine V_ldcS (i := 31) (tx := "other") (pc := 29) dX11_readNext_29 (by decide +kernel) ?_
        obtain ⟨r31, e31, h⟩ := bnd h
        refine V_invV1 (c := 11) (pc := 31) dX11_readNext_31 (e_Mo_is h_this (isS_lit 31 (Nat.le_of_ble_eq_true rfl)) e31) iv_Mo_145 (rm_Mo_readNext_Mo_is _ _ _) rfl h_this cf_11 rfl (Nat.le_of_ble_eq_true rfl) rfl ?_
        refine V_if_ne (pc := 34) (tgt := 42) dX11_readNext_34 rfl (fun q => ?_) (fun q => ?_)
        · have h := ite_f q h
          exact k_Mo_readNext_b42 h_this h hp
        · have h := ite_t q h
          refine V_aload_n (i := 0) (pc := 37) dX11_readNext_37 rfl rfl ?_
          refine V_iconst (v := 1) (pc := 38) dX11_readNext_38 rfl ?_
          obtain ⟨m39, e39, h⟩ := bnd h
          refine V_invV0 (c := 11) (pc := 39) dX11_readNext_39 (e_Mo_errs h_this e39) iv_Mo_155 (rm_Mo_readNext_Mo_errs _ _ _) rfl h_this cf_11 rfl (Nat.le_of_ble_eq_true rfl) rfl ?_
          exact k_Mo_readNext_b42 h_this h hp
theorem e_Mo_readNext {g : GE} {this : Nat} {m : Mem} (h_this : kd this = 12) {x : Mem} (h : Mo_readNext this m = some x) : Ev g Y_Mo_readNext [vr this] m (none) x :=
  Ev_of 1 (by decide +kernel) rfl (Nat.le_of_ble_eq_true rfl) rfl (k_Mo_readNext h_this h ⟨rfl, rfl⟩)
theorem k_Mo_readLine_b51 {g : GE} {this : Nat}   {m : Mem} (h_this : kd this = 12) {r : Option AV} {m' : Mem} {x : Mem} (h : Mo_readLine_b51 this m = some x) (hp : (fun x : Mem => r = none ∧ m' = x) x) : V g Y_Mo_readLine 51 [some (vr this)] [] m (PM g Y_Mo_readLine r m') := by
  unfold Mo_readLine_b51 at h
  refine V_aload_n (i := 0) (pc := 51) dX11_readLine_51 rfl rfl ?_
  refine V_getR (b := (this + 6)) (pc := 52) dX11_readLine_52 fl_Mo_34 h_this rfl rfl ?_
  refine V_iconst (v := 0) (pc := 55) dX11_readLine_55 rfl ?_
  refine V_dup2 (pc := 56) dX11_readLine_56 ?_
  obtain ⟨hg57, h⟩ := gd_e h
  refine V_iald (pc := 57) dX11_readLine_57 (kf_11_14 h_this) (af_11_14 h_this) hg57 ?_
  refine V_iconst (v := 1) (pc := 58) dX11_readLine_58 rfl ?_
  refine V_iadd (pc := 59) dX11_readLine_59 ?_
  obtain ⟨hg60, h⟩ := gd_e h
  refine V_iast_lt (pc := 60) dX11_readLine_60 (kf_11_14 h_this) (af_11_14 h_this) hg60 h (fun m60 h => ?_)
  obtain rfl := Option.some.inj h
  exact E_v (pc := 61) dX11_readLine_61 rfl hp
theorem k_Mo_readLine_b40 {g : GE} {this : Nat}   {m : Mem} (h_this : kd this = 12) {r : Option AV} {m' : Mem} {x : Mem} (h : Mo_readLine_b40 this m = some x) (hp : (fun x : Mem => r = none ∧ m' = x) x) : V g Y_Mo_readLine 40 [some (vr this)] [] m (PM g Y_Mo_readLine r m') := by
  unfold Mo_readLine_b40 at h
  refine V_aload_n (i := 0) (pc := 40) dX11_readLine_40 rfl rfl ?_
  obtain ⟨r41, e41, h⟩ := bnd h
  refine V_invV1 (c := 11) (pc := 41) dX11_readLine_41 (e_Mo_good h_this e41) iv_Mo_131 (rm_Mo_readLine_Mo_good _ _ _) rfl h_this cf_11 rfl (Nat.le_of_ble_eq_true rfl) rfl ?_
  refine V_if_eq (pc := 44) (tgt := 51) dX11_readLine_44 rfl (fun q => ?_) (fun q => ?_)
  · have h := ite_t q h
    exact k_Mo_readLine_b51 h_this h hp
  · have h := ite_f q h
    refine V_aload_n (i := 0) (pc := 47) dX11_readLine_47 rfl rfl ?_
    obtain ⟨m48, e48, h⟩ := bnd h
    refine V_invV0 (c := 11) (pc := 48) dX11_readLine_48 (e_Mo_advance h_this e48) iv_Mo_149 (rm_Mo_readLine_Mo_advance _ _ _) rfl h_this cf_11 rfl (Nat.le_of_ble_eq_true rfl) rfl ?_
    exact k_Mo_readLine_b51 h_this h hp
theorem k_Mo_readLine_b20 {g : GE} {this : Nat}   {m : Mem} (h_this : kd this = 12) {r : Option AV} {m' : Mem} {x : Mem} (h : Mo_readLine_b20 this m = some x) (hp : (fun x : Mem => r = none ∧ m' = x) x) : V g Y_Mo_readLine 20 [some (vr this)] [] m (PM g Y_Mo_readLine r m') := by
  unfold Mo_readLine_b20 at h
  refine V_aload_n (i := 0) (pc := 20) dX11_readLine_20 rfl rfl ?_
  obtain ⟨r21, e21, h⟩ := bnd h
  refine V_invV1 (c := 11) (pc := 21) dX11_readLine_21 (e_Mo_good h_this e21) iv_Mo_131 (rm_Mo_readLine_Mo_good _ _ _) rfl h_this cf_11 rfl (Nat.le_of_ble_eq_true rfl) rfl ?_
  refine V_if_eq (pc := 24) (tgt := 40) dX11_readLine_24 rfl (fun q => ?_) (fun q => ?_)
  · have h := ite_t q h
    exact k_Mo_readLine_b40 h_this h hp
  · have h := ite_f q h
    refine V_aload_n (i := 0) (pc := 27) dX11_readLine_27 rfl rfl ?_
    refine V_getI (pc := 28) dX11_readLine_28 fl_Mo_108 h_this rfl ?_
    refine V_iconst (v := 3) (pc := 31) dX11_readLine_31 rfl ?_
    refine V_icmp_eq (pc := 32) (tgt := 40) dX11_readLine_32 rfl (fun q => ?_) (fun q => ?_)
    · have h := ite_t q h
      exact k_Mo_readLine_b40 h_this h hp
    · have h := ite_f q h
      refine V_aload_n (i := 0) (pc := 35) dX11_readLine_35 rfl rfl ?_
      refine V_iconst (v := 1) (pc := 36) dX11_readLine_36 rfl ?_
      obtain ⟨m37, e37, h⟩ := bnd h
      refine V_invV0 (c := 11) (pc := 37) dX11_readLine_37 (e_Mo_errs h_this e37) iv_Mo_155 (rm_Mo_readLine_Mo_errs _ _ _) rfl h_this cf_11 rfl (Nat.le_of_ble_eq_true rfl) rfl ?_
      exact k_Mo_readLine_b40 h_this h hp
theorem k_Mo_readLine {g : GE} {this : Nat} {m : Mem} (h_this : kd this = 12) {r : Option AV} {m' : Mem} {x : Mem} (h : Mo_readLine this m = some x) (hp : (fun x : Mem => r = none ∧ m' = x) x) : V g Y_Mo_readLine 0 [some (vr this)] [] m (PM g Y_Mo_readLine r m') := by
  unfold Mo_readLine at h
  refine V_aload_n (i := 0) (pc := 0) dX11_readLine_0 rfl rfl ?_
  refine V_getR (b := (this + 6)) (pc := 1) dX11_readLine_1 fl_Mo_34 h_this rfl rfl ?_
  refine V_iconst (v := 0) (pc := 4) dX11_readLine_4 rfl ?_
  obtain ⟨hg5, h⟩ := gd_e h
  refine V_iald (pc := 5) dX11_readLine_5 (kf_11_14 h_this) (af_11_14 h_this) hg5 ?_
  refine V_if_ne (pc := 6) (tgt := 16) dX11_readLine_6 rfl (fun q => ?_) (fun q => ?_)
  · have h := ite_f q h
    refine V_aload_n (i := 0) (pc := 16) dX11_readLine_16 rfl rfl ?_
    obtain ⟨m17, e17, h⟩ := bnd h
    refine V_invV0 (c := 11) (pc := 17) dX11_readLine_17 (e_Mo_readNext h_this e17) iv_Mo_258 (rm_Mo_readLine_Mo_readNext _ _ _) rfl h_this cf_11 rfl (Nat.le_of_ble_eq_true rfl) rfl ?_
    exact k_Mo_readLine_b20 h_this h hp
  · have h := ite_t q h
    refine V_aload_n (i := 0) (pc := 9) dX11_readLine_9 rfl rfl ?_
    obtain ⟨m10, e10, h⟩ := bnd h
    refine V_invV0 (c := 11) (pc := 10) dX11_readLine_10 (e_Mo_readFloe h_this e10) iv_Mo_255 (rm_Mo_readLine_Mo_readFloe _ _ _) rfl h_this cf_11 rfl (Nat.le_of_ble_eq_true rfl) rfl ?_
    refine V_goto (tgt := 20) (pc := 13) dX11_readLine_13 rfl ?_
    exact k_Mo_readLine_b20 h_this h hp
theorem e_Mo_readLine {g : GE} {this : Nat} {m : Mem} (h_this : kd this = 12) {x : Mem} (h : Mo_readLine this m = some x) : Ev g Y_Mo_readLine [vr this] m (none) x :=
  Ev_of 0 (by decide +kernel) rfl (Nat.le_of_ble_eq_true rfl) rfl (k_Mo_readLine h_this h ⟨rfl, rfl⟩)
theorem k_Mo_floe_l72 {g : GE} {this : Nat}  {v1 : Int32} {m : Mem} (h_this : kd this = 12) {r : Option AV} {m' : Mem} {x : (Int32 × Mem) ⊕ (Int32 × Mem)} (h : Mo_floe_l72 this v1 m = some x) (hp : (Sum.elim (fun s : Int32 × Mem => V g Y_Mo_floe 72 [some (vr this), some (vi s.1)] [] s.2 (PM g Y_Mo_floe r m')) (fun x : Int32 × Mem => r = some (vi x.1) ∧ m' = x.2)) x) : V g Y_Mo_floe 72 [some (vr this), some (vi v1)] [] m (PM g Y_Mo_floe r m') := by
  unfold Mo_floe_l72 at h
  refine V_iload_n (i := 1) (pc := 72) dX11_floe_72 rfl rfl ?_
  refine V_sipush (v := 200) (pc := 73) dX11_floe_73 rfl ?_
  refine V_icmp_ge (pc := 76) (tgt := 97) dX11_floe_76 rfl (fun q => ?_) (fun q => ?_)
  · have h := ite_t q h
    obtain ⟨y2, hu2, rfl⟩ := up_e h
    have h := hu2
    refine V_aload_n (i := 0) (pc := 97) dX11_floe_97 rfl rfl ?_
    refine V_getR (b := (this + 1)) (pc := 98) dX11_floe_98 fl_Mo_13 h_this rfl rfl ?_
    refine V_sipush (v := 190) (pc := 101) dX11_floe_101 rfl ?_
    refine V_aload_n (i := 0) (pc := 104) dX11_floe_104 rfl rfl ?_
    refine V_getR (b := (this + 1)) (pc := 105) dX11_floe_105 fl_Mo_13 h_this rfl rfl ?_
    refine V_iconst (v := 3) (pc := 108) dX11_floe_108 rfl ?_
    obtain ⟨hg109, h⟩ := gd_e h
    refine V_iald (pc := 109) dX11_floe_109 (kf_11_1 h_this) (af_11_1 h_this) hg109 ?_
    obtain ⟨hg110, h⟩ := gd_e h
    refine V_iast_lt (pc := 110) dX11_floe_110 (kf_11_1 h_this) (af_11_1 h_this) hg110 h (fun m110 h => ?_)
    refine V_aload_n (i := 0) (pc := 111) dX11_floe_111 rfl rfl ?_
    refine V_iconst (v := 0) (pc := 112) dX11_floe_112 rfl ?_
    refine V_putI_lt (pc := 113) dX11_floe_113 fp_Mo_264 h_this rfl rfl rfl h (fun m113 h => ?_)
    refine V_aload_n (i := 0) (pc := 116) dX11_floe_116 rfl rfl ?_
    refine V_getR (b := (this + 1)) (pc := 117) dX11_floe_117 fl_Mo_13 h_this rfl rfl ?_
    refine V_iconst (v := 0) (pc := 120) dX11_floe_120 rfl ?_
    obtain ⟨hg121, h⟩ := gd_e h
    refine V_iald (pc := 121) dX11_floe_121 (kf_11_1 h_this) (af_11_1 h_this) hg121 ?_
    obtain rfl := Option.some.inj h
    exact E_i (pc := 122) dX11_floe_122 rfl hp
  · have h := ite_f q h
    refine V_aload_n (i := 0) (pc := 79) dX11_floe_79 rfl rfl ?_
    refine V_getR (b := (this + 1)) (pc := 80) dX11_floe_80 fl_Mo_13 h_this rfl rfl ?_
    refine V_iload_n (i := 1) (pc := 83) dX11_floe_83 rfl rfl ?_
    refine V_aload_n (i := 0) (pc := 84) dX11_floe_84 rfl rfl ?_
    refine V_getR (b := (this + 6)) (pc := 85) dX11_floe_85 fl_Mo_34 h_this rfl rfl ?_
    refine V_iload_n (i := 1) (pc := 88) dX11_floe_88 rfl rfl ?_
    obtain ⟨hg89, h⟩ := gd_e h
    refine V_iald (pc := 89) dX11_floe_89 (kf_11_14 h_this) (af_11_14 h_this) hg89 ?_
    obtain ⟨hg90, h⟩ := gd_e h
    refine V_iast_lt (pc := 90) dX11_floe_90 (kf_11_1 h_this) (af_11_1 h_this) hg90 h (fun m90 h => ?_)
    refine V_iinc (i := 1) (v := (v1 + 1)) (ls' := [some (vr this), some (vi (v1 + 1))]) (pc := 91) dX11_floe_91 rfl rfl (Nat.le_of_ble_eq_true rfl) rfl ?_
    refine V_goto (tgt := 72) (pc := 94) dX11_floe_94 rfl ?_
    obtain rfl := Option.some.inj h
    exact hp
theorem k_Mo_floe_b60 {g : GE} {this : Nat}   {m : Mem} (h_this : kd this = 12) {r : Option AV} {m' : Mem} {x : Int32 × Mem} (h : Mo_floe_b60 this m = some x) (hp : (fun x : Int32 × Mem => r = some (vi x.1) ∧ m' = x.2) x) : V g Y_Mo_floe 60 [some (vr this), none] [] m (PM g Y_Mo_floe r m') := by
  unfold Mo_floe_b60 at h
  refine V_aload_n (i := 0) (pc := 60) dX11_floe_60 rfl rfl ?_
  obtain ⟨r61, e61, h⟩ := bnd h
  refine V_invV1 (c := 11) (pc := 61) dX11_floe_61 (e_Mo_good h_this e61) iv_Mo_131 (rm_Mo_floe_Mo_good _ _ _) rfl h_this cf_11 rfl (Nat.le_of_ble_eq_true rfl) rfl ?_
  refine V_if_ne (pc := 64) (tgt := 70) dX11_floe_64 rfl (fun q => ?_) (fun q => ?_)
  · have h := ite_f q h
    refine V_iconst (v := 0) (pc := 70) dX11_floe_70 rfl ?_
    refine V_istore_n (i := 1) (ls' := [some (vr this), some (vi 0)]) (pc := 71) dX11_floe_71 rfl (Nat.le_of_ble_eq_true rfl) rfl ?_
    exact loop_V (A := fun s : Int32 × Mem => V g Y_Mo_floe 72 [some (vr this), some (vi s.1)] [] s.2 (PM g Y_Mo_floe r m')) (fun s x h hp => k_Mo_floe_l72 h_this h hp) (0, m) _ h hp
  · have h := ite_t q h
    refine V_bipush (v := (-4)) (pc := 67) dX11_floe_67 rfl ?_
    obtain rfl := Option.some.inj h
    exact E_i (pc := 69) dX11_floe_69 rfl hp
theorem k_Mo_floe_l39 {g : GE} {this : Nat}   {m : Mem} (h_this : kd this = 12) {r : Option AV} {m' : Mem} {x : (Mem) ⊕ (Int32 × Mem)} (h : Mo_floe_l39 this m = some x) (hp : (Sum.elim (fun s : Mem => V g Y_Mo_floe 39 [some (vr this), none] [] s (PM g Y_Mo_floe r m')) (fun x : Int32 × Mem => r = some (vi x.1) ∧ m' = x.2)) x) : V g Y_Mo_floe 39 [some (vr this), none] [] m (PM g Y_Mo_floe r m') := by
  unfold Mo_floe_l39 at h
  refine V_aload_n (i := 0) (pc := 39) dX11_floe_39 rfl rfl ?_
  obtain ⟨r40, e40, h⟩ := bnd h
  refine V_invV1 (c := 11) (pc := 40) dX11_floe_40 (e_Mo_good h_this e40) iv_Mo_131 (rm_Mo_floe_Mo_good _ _ _) rfl h_this cf_11 rfl (Nat.le_of_ble_eq_true rfl) rfl ?_
  refine V_if_eq (pc := 43) (tgt := 60) dX11_floe_43 rfl (fun q => ?_) (fun q => ?_)
  · have h := ite_t q h
    obtain ⟨y1, hu1, rfl⟩ := up_e h
    have h := hu1
    exact k_Mo_floe_b60 h_this h hp
  · have h := ite_f q h
    refine V_aload_n (i := 0) (pc := 46) dX11_floe_46 rfl rfl ?_
    refine V_getI (pc := 47) dX11_floe_47 fl_Mo_108 h_this rfl ?_
    refine V_if_eq (pc := 50) (tgt := 60) dX11_floe_50 rfl (fun q => ?_) (fun q => ?_)
    · have h := ite_t q h
      obtain ⟨y3, hu3, rfl⟩ := up_e h
      have h := hu3
      exact k_Mo_floe_b60 h_this h hp
    · have h := ite_f q h
      refine V_aload_n (i := 0) (pc := 53) dX11_floe_53 rfl rfl ?_
      obtain ⟨m54, e54, h⟩ := bnd h
      refine V_invV0 (c := 11) (pc := 54) dX11_floe_54 (e_Mo_readLine h_this e54) iv_Mo_261 (rm_Mo_floe_Mo_readLine _ _ _) rfl h_this cf_11 rfl (Nat.le_of_ble_eq_true rfl) rfl ?_
      refine V_goto (tgt := 39) (pc := 57) dX11_floe_57 rfl ?_
      obtain rfl := Option.some.inj h
      exact hp
theorem k_Mo_floe {g : GE} {this : Nat} {m : Mem} (h_this : kd this = 12) {r : Option AV} {m' : Mem} {x : Int32 × Mem} (h : Mo_floe this m = some x) (hp : (fun x : Int32 × Mem => r = some (vi x.1) ∧ m' = x.2) x) : V g Y_Mo_floe 0 [some (vr this), none] [] m (PM g Y_Mo_floe r m') := by
  unfold Mo_floe at h
  refine V_aload_n (i := 0) (pc := 0) dX11_floe_0 rfl rfl ?_
  refine V_aload_n (i := 0) (pc := 1) dX11_floe_1 rfl rfl ?_
  refine V_getI (pc := 2) dX11_floe_2 fl_Mo_92 h_this rfl ?_
  refine V_putI_lt (pc := 5) dX11_floe_5 fp_Mo_95 h_this rfl rfl rfl h (fun m5 h => ?_)
  refine V_aload_n (i := 0) (pc := 8) dX11_floe_8 rfl rfl ?_
  refine V_iconst (v := 0) (pc := 9) dX11_floe_9 rfl ?_
  refine V_putI_lt (pc := 10) dX11_floe_10 fp_Mo_92 h_this rfl rfl rfl h (fun m10 h => ?_)
  refine V_aload_n (i := 0) (pc := 13) dX11_floe_13 rfl rfl ?_
  refine V_iconst (v := 0) (pc := 14) dX11_floe_14 rfl ?_
  refine V_putI_lt (pc := 15) dX11_floe_15 fp_Mo_98 h_this rfl rfl rfl h (fun m15 h => ?_)
  refine V_aload_n (i := 0) (pc := 18) dX11_floe_18 rfl rfl ?_
  refine V_iconst (v := 0) (pc := 19) dX11_floe_19 rfl ?_
  refine V_putI_lt (pc := 20) dX11_floe_20 fp_Mo_128 h_this rfl rfl rfl h (fun m20 h => ?_)
  refine V_aload_n (i := 0) (pc := 23) dX11_floe_23 rfl rfl ?_
  refine V_iconst (v := (-1)) (pc := 24) dX11_floe_24 rfl ?_
  refine V_putI_lt (pc := 25) dX11_floe_25 fp_Mo_31 h_this rfl rfl rfl h (fun m25 h => ?_)
  refine V_aload_n (i := 0) (pc := 28) dX11_floe_28 rfl rfl ?_
  refine V_getR (b := (this + 6)) (pc := 29) dX11_floe_29 fl_Mo_34 h_this rfl rfl ?_
  obtain ⟨m32, e32, h⟩ := bnd h
  refine V_invS0 (pc := 32) dX11_floe_32 (e_Mo_empties (kf_11_14 h_this) e32) is_Mo_78 (rm_Mo_floe_Mo_empties _ _ _) rfl (Nat.le_of_ble_eq_true rfl) rfl ?_
  refine V_aload_n (i := 0) (pc := 35) dX11_floe_35 rfl rfl ?_
  obtain ⟨m36, e36, h⟩ := bnd h
  refine V_invV0 (c := 11) (pc := 36) dX11_floe_36 (e_Mo_advance h_this e36) iv_Mo_149 (rm_Mo_floe_Mo_advance _ _ _) rfl h_this cf_11 rfl (Nat.le_of_ble_eq_true rfl) rfl ?_
  exact loop_V (A := fun s : Mem => V g Y_Mo_floe 39 [some (vr this), none] [] s (PM g Y_Mo_floe r m')) (fun s x h hp => k_Mo_floe_l39 h_this h hp) (m36) _ h hp
theorem e_Mo_floe {g : GE} {this : Nat} {m : Mem} (h_this : kd this = 12) {x : Int32 × Mem} (h : Mo_floe this m = some x) : Ev g Y_Mo_floe [vr this] m (some (vi x.1)) x.2 :=
  Ev_of 1 (by decide +kernel) rfl (Nat.le_of_ble_eq_true rfl) rfl (k_Mo_floe h_this h ⟨rfl, rfl⟩)
theorem k_Mo_isCell {g : GE} {this : Nat} {v1 : Int32} {v2 : Int32} {m : Mem} (h_this : kd this = 12) {r : Option AV} {m' : Mem} {x : Int32} (h : Mo_isCell this v1 v2 m = some x) (hp : (fun x : Int32 => r = some (vi x) ∧ m' = m) x) : V g Y_Mo_isCell 0 [some (vr this), some (vi v1), some (vi v2)] [] m (PM g Y_Mo_isCell r m') := by
  unfold Mo_isCell at h
  refine V_iload_n (i := 1) (pc := 0) dX11_isCell_0 rfl rfl ?_
  refine V_i2l (pc := 1) dX11_isCell_1 ?_
  refine V_lconst (v := 0) (pc := 2) dX11_isCell_2 rfl ?_
  refine V_aload_n (i := 0) (pc := 3) dX11_isCell_3 rfl rfl ?_
  refine V_getR (b := (this + 1)) (pc := 4) dX11_isCell_4 fl_Mo_13 h_this rfl rfl ?_
  refine V_iconst (v := 1) (pc := 7) dX11_isCell_7 rfl ?_
  obtain ⟨hg8, h⟩ := gd_e h
  refine V_iald (pc := 8) dX11_isCell_8 (kf_11_1 h_this) (af_11_1 h_this) hg8 ?_
  refine V_iconst (v := 1) (pc := 9) dX11_isCell_9 rfl ?_
  refine V_isub (pc := 10) dX11_isCell_10 ?_
  refine V_i2l (pc := 11) dX11_isCell_11 ?_
  obtain ⟨r12, e12, h⟩ := bnd h
  refine V_invS1 (pc := 12) dX11_isCell_12 (e_Mo_in  e12) is_Mo_84 (rm_Mo_isCell_Mo_in _ _ _) rfl (Nat.le_of_ble_eq_true rfl) rfl ?_
  refine V_if_eq (pc := 15) (tgt := 40) dX11_isCell_15 rfl (fun q => ?_) (fun q => ?_)
  · have h := ite_t q h
    refine V_iconst (v := 0) (pc := 40) dX11_isCell_40 rfl ?_
    obtain rfl := Option.some.inj h
    exact E_z (pc := 41) dX11_isCell_41 rfl rfl hp
  · have h := ite_f q h
    refine V_iload_n (i := 2) (pc := 18) dX11_isCell_18 rfl rfl ?_
    refine V_i2l (pc := 19) dX11_isCell_19 ?_
    refine V_lconst (v := 0) (pc := 20) dX11_isCell_20 rfl ?_
    refine V_aload_n (i := 0) (pc := 21) dX11_isCell_21 rfl rfl ?_
    refine V_getR (b := (this + 1)) (pc := 22) dX11_isCell_22 fl_Mo_13 h_this rfl rfl ?_
    refine V_iconst (v := 2) (pc := 25) dX11_isCell_25 rfl ?_
    obtain ⟨hg26, h⟩ := gd_e h
    refine V_iald (pc := 26) dX11_isCell_26 (kf_11_1 h_this) (af_11_1 h_this) hg26 ?_
    refine V_iconst (v := 1) (pc := 27) dX11_isCell_27 rfl ?_
    refine V_isub (pc := 28) dX11_isCell_28 ?_
    refine V_i2l (pc := 29) dX11_isCell_29 ?_
    obtain ⟨r30, e30, h⟩ := bnd h
    refine V_invS1 (pc := 30) dX11_isCell_30 (e_Mo_in  e30) is_Mo_84 (rm_Mo_isCell_Mo_in _ _ _) rfl (Nat.le_of_ble_eq_true rfl) rfl ?_
    refine V_if_eq (pc := 33) (tgt := 40) dX11_isCell_33 rfl (fun q => ?_) (fun q => ?_)
    · have h := ite_t q h
      refine V_iconst (v := 0) (pc := 40) dX11_isCell_40 rfl ?_
      obtain rfl := Option.some.inj h
      exact E_z (pc := 41) dX11_isCell_41 rfl rfl hp
    · have h := ite_f q h
      refine V_iconst (v := 1) (pc := 36) dX11_isCell_36 rfl ?_
      refine V_goto (tgt := 41) (pc := 37) dX11_isCell_37 rfl ?_
      obtain rfl := Option.some.inj h
      exact E_z (pc := 41) dX11_isCell_41 rfl rfl hp
theorem e_Mo_isCell {g : GE} {this : Nat} {v1 : Int32} {v2 : Int32} {m : Mem} (h_this : kd this = 12) {x : Int32} (h : Mo_isCell this v1 v2 m = some x) : Ev g Y_Mo_isCell [vr this, vi v1, vi v2] m (some (vi x)) m :=
  Ev_of 0 (by decide +kernel) rfl (Nat.le_of_ble_eq_true rfl) rfl (k_Mo_isCell h_this h ⟨rfl, rfl⟩)
theorem k_Mo_isSort {g : GE} {this : Nat} {v1 : Int32} {m : Mem} (h_this : kd this = 12) {r : Option AV} {m' : Mem} {x : Int32} (h : Mo_isSort this v1 m = some x) (hp : (fun x : Int32 => r = some (vi x) ∧ m' = m) x) : V g Y_Mo_isSort 0 [some (vr this), some (vi v1)] [] m (PM g Y_Mo_isSort r m') := by
  unfold Mo_isSort at h
  refine V_iload_n (i := 1) (pc := 0) dX11_isSort_0 rfl rfl ?_
  refine V_i2l (pc := 1) dX11_isSort_1 ?_
  refine V_lconst (v := 0) (pc := 2) dX11_isSort_2 rfl ?_
  refine V_aload_n (i := 0) (pc := 3) dX11_isSort_3 rfl rfl ?_
  refine V_getR (b := (this + 1)) (pc := 4) dX11_isSort_4 fl_Mo_13 h_this rfl rfl ?_
  refine V_bipush (v := 6) (pc := 7) dX11_isSort_7 rfl ?_
  obtain ⟨hg9, h⟩ := gd_e h
  refine V_iald (pc := 9) dX11_isSort_9 (kf_11_1 h_this) (af_11_1 h_this) hg9 ?_
  refine V_iconst (v := 1) (pc := 10) dX11_isSort_10 rfl ?_
  refine V_isub (pc := 11) dX11_isSort_11 ?_
  refine V_i2l (pc := 12) dX11_isSort_12 ?_
  obtain ⟨r13, e13, h⟩ := bnd h
  refine V_invS1 (pc := 13) dX11_isSort_13 (e_Mo_in  e13) is_Mo_84 (rm_Mo_isSort_Mo_in _ _ _) rfl (Nat.le_of_ble_eq_true rfl) rfl ?_
  obtain ⟨hz, h⟩ := gd_e h
  obtain rfl := Option.some.inj h
  exact E_z (pc := 16) dX11_isSort_16 rfl (nar_z hz) hp
theorem e_Mo_isSort {g : GE} {this : Nat} {v1 : Int32} {m : Mem} (h_this : kd this = 12) {x : Int32} (h : Mo_isSort this v1 m = some x) : Ev g Y_Mo_isSort [vr this, vi v1] m (some (vi x)) m :=
  Ev_of 0 (by decide +kernel) rfl (Nat.le_of_ble_eq_true rfl) rfl (k_Mo_isSort h_this h ⟨rfl, rfl⟩)
theorem k_Mo_isHeap {g : GE} {v0 : Int32} {m : Mem} {r : Option AV} {m' : Mem} {x : Int32} (h : Mo_isHeap v0 m = some x) (hp : (fun x : Int32 => r = some (vi x) ∧ m' = m) x) : V g Y_Mo_isHeap 0 [some (vi v0)] [] m (PM g Y_Mo_isHeap r m') := by
  unfold Mo_isHeap at h
  refine V_iload_n (i := 0) (pc := 0) dX11_isHeap_0 rfl rfl ?_
  refine V_i2l (pc := 1) dX11_isHeap_1 ?_
  refine V_lconst (v := 0) (pc := 2) dX11_isHeap_2 rfl ?_
  refine V_ldc2 (v := 7) (pc := 3) dX11_isHeap_3 con_Mo_267 ?_
  obtain ⟨r6, e6, h⟩ := bnd h
  refine V_invS1 (pc := 6) dX11_isHeap_6 (e_Mo_in  e6) is_Mo_84 (rm_Mo_isHeap_Mo_in _ _ _) rfl (Nat.le_of_ble_eq_true rfl) rfl ?_
  obtain ⟨hz, h⟩ := gd_e h
  obtain rfl := Option.some.inj h
  exact E_z (pc := 9) dX11_isHeap_9 rfl (nar_z hz) hp
theorem e_Mo_isHeap {g : GE} {v0 : Int32} {m : Mem} {x : Int32} (h : Mo_isHeap v0 m = some x) : Ev g Y_Mo_isHeap [vi v0] m (some (vi x)) m :=
  Ev_of 0 (by decide +kernel) rfl (Nat.le_of_ble_eq_true rfl) rfl (k_Mo_isHeap  h ⟨rfl, rfl⟩)
theorem k_Mo_isGroup {g : GE} {v0 : Int32} {m : Mem} {r : Option AV} {m' : Mem} {x : Int32} (h : Mo_isGroup v0 m = some x) (hp : (fun x : Int32 => r = some (vi x) ∧ m' = m) x) : V g Y_Mo_isGroup 0 [some (vi v0)] [] m (PM g Y_Mo_isGroup r m') := by
  unfold Mo_isGroup at h
  refine V_iload_n (i := 0) (pc := 0) dX11_isGroup_0 rfl rfl ?_
  refine V_i2l (pc := 1) dX11_isGroup_1 ?_
  refine V_lconst (v := 0) (pc := 2) dX11_isGroup_2 rfl ?_
  refine V_ldc2 (v := 3) (pc := 3) dX11_isGroup_3 con_Mo_269 ?_
  obtain ⟨r6, e6, h⟩ := bnd h
  refine V_invS1 (pc := 6) dX11_isGroup_6 (e_Mo_in  e6) is_Mo_84 (rm_Mo_isGroup_Mo_in _ _ _) rfl (Nat.le_of_ble_eq_true rfl) rfl ?_
  obtain ⟨hz, h⟩ := gd_e h
  obtain rfl := Option.some.inj h
  exact E_z (pc := 9) dX11_isGroup_9 rfl (nar_z hz) hp
theorem e_Mo_isGroup {g : GE} {v0 : Int32} {m : Mem} {x : Int32} (h : Mo_isGroup v0 m = some x) : Ev g Y_Mo_isGroup [vi v0] m (some (vi x)) m :=
  Ev_of 0 (by decide +kernel) rfl (Nat.le_of_ble_eq_true rfl) rfl (k_Mo_isGroup  h ⟨rfl, rfl⟩)
theorem k_Mo_isCrack {g : GE} {this : Nat} {v1 : Int32} {m : Mem} (h_this : kd this = 12) {r : Option AV} {m' : Mem} {x : Int32} (h : Mo_isCrack this v1 m = some x) (hp : (fun x : Int32 => r = some (vi x) ∧ m' = m) x) : V g Y_Mo_isCrack 0 [some (vr this), some (vi v1)] [] m (PM g Y_Mo_isCrack r m') := by
  unfold Mo_isCrack at h
  refine V_iload_n (i := 1) (pc := 0) dX11_isCrack_0 rfl rfl ?_
  refine V_i2l (pc := 1) dX11_isCrack_1 ?_
  refine V_lconst (v := 0) (pc := 2) dX11_isCrack_2 rfl ?_
  refine V_aload_n (i := 0) (pc := 3) dX11_isCrack_3 rfl rfl ?_
  refine V_getR (b := (this + 1)) (pc := 4) dX11_isCrack_4 fl_Mo_13 h_this rfl rfl ?_
  refine V_iconst (v := 5) (pc := 7) dX11_isCrack_7 rfl ?_
  obtain ⟨hg8, h⟩ := gd_e h
  refine V_iald (pc := 8) dX11_isCrack_8 (kf_11_1 h_this) (af_11_1 h_this) hg8 ?_
  refine V_iconst (v := 1) (pc := 9) dX11_isCrack_9 rfl ?_
  refine V_isub (pc := 10) dX11_isCrack_10 ?_
  refine V_i2l (pc := 11) dX11_isCrack_11 ?_
  obtain ⟨r12, e12, h⟩ := bnd h
  refine V_invS1 (pc := 12) dX11_isCrack_12 (e_Mo_in  e12) is_Mo_84 (rm_Mo_isCrack_Mo_in _ _ _) rfl (Nat.le_of_ble_eq_true rfl) rfl ?_
  obtain ⟨hz, h⟩ := gd_e h
  obtain rfl := Option.some.inj h
  exact E_z (pc := 15) dX11_isCrack_15 rfl (nar_z hz) hp
theorem e_Mo_isCrack {g : GE} {this : Nat} {v1 : Int32} {m : Mem} (h_this : kd this = 12) {x : Int32} (h : Mo_isCrack this v1 m = some x) : Ev g Y_Mo_isCrack [vr this, vi v1] m (some (vi x)) m :=
  Ev_of 0 (by decide +kernel) rfl (Nat.le_of_ble_eq_true rfl) rfl (k_Mo_isCrack h_this h ⟨rfl, rfl⟩)
theorem k_Mo_sets {g : GE} {this : Nat} {m : Mem} (h_this : kd this = 12) {r : Option AV} {m' : Mem} {x : Int32} (h : Mo_sets this m = some x) (hp : (fun x : Int32 => r = some (vi x) ∧ m' = m) x) : V g Y_Mo_sets 0 [some (vr this)] [] m (PM g Y_Mo_sets r m') := by
  unfold Mo_sets at h
  refine V_iconst (v := 1) (pc := 0) dX11_sets_0 rfl ?_
  refine V_aload_n (i := 0) (pc := 1) dX11_sets_1 rfl rfl ?_
  refine V_getR (b := (this + 1)) (pc := 2) dX11_sets_2 fl_Mo_13 h_this rfl rfl ?_
  refine V_iconst (v := 5) (pc := 5) dX11_sets_5 rfl ?_
  obtain ⟨hg6, h⟩ := gd_e h
  refine V_iald (pc := 6) dX11_sets_6 (kf_11_1 h_this) (af_11_1 h_this) hg6 ?_
  refine V_ishl (pc := 7) dX11_sets_7 ?_
  obtain rfl := Option.some.inj h
  exact E_i (pc := 8) dX11_sets_8 rfl hp
theorem e_Mo_sets {g : GE} {this : Nat} {m : Mem} (h_this : kd this = 12) {x : Int32} (h : Mo_sets this m = some x) : Ev g Y_Mo_sets [vr this] m (some (vi x)) m :=
  Ev_of 0 (by decide +kernel) rfl (Nat.le_of_ble_eq_true rfl) rfl (k_Mo_sets h_this h ⟨rfl, rfl⟩)
theorem k_Mo_isSet {g : GE} {this : Nat} {v1 : Int32} {m : Mem} (h_this : kd this = 12) {r : Option AV} {m' : Mem} {x : Int32} (h : Mo_isSet this v1 m = some x) (hp : (fun x : Int32 => r = some (vi x) ∧ m' = m) x) : V g Y_Mo_isSet 0 [some (vr this), some (vi v1)] [] m (PM g Y_Mo_isSet r m') := by
  unfold Mo_isSet at h
  refine V_aload_n (i := 0) (pc := 0) dX11_isSet_0 rfl rfl ?_
  obtain ⟨r1, e1, h⟩ := bnd h
  refine V_invV1 (c := 11) (pc := 1) dX11_isSet_1 (e_Mo_isFloe h_this e1) iv_Mo_271 (rm_Mo_isSet_Mo_isFloe _ _ _) rfl h_this cf_11 rfl (Nat.le_of_ble_eq_true rfl) rfl ?_
  refine V_if_eq (pc := 4) (tgt := 27) dX11_isSet_4 rfl (fun q => ?_) (fun q => ?_)
  · have h := ite_t q h
    refine V_iconst (v := 0) (pc := 27) dX11_isSet_27 rfl ?_
    obtain rfl := Option.some.inj h
    exact E_z (pc := 28) dX11_isSet_28 rfl rfl hp
  · have h := ite_f q h
    refine V_iload_n (i := 1) (pc := 7) dX11_isSet_7 rfl rfl ?_
    refine V_i2l (pc := 8) dX11_isSet_8 ?_
    refine V_lconst (v := 0) (pc := 9) dX11_isSet_9 rfl ?_
    refine V_aload_n (i := 0) (pc := 10) dX11_isSet_10 rfl rfl ?_
    obtain ⟨r11, e11, h⟩ := bnd h
    refine V_invV1 (c := 11) (pc := 11) dX11_isSet_11 (e_Mo_sets h_this e11) iv_Mo_274 (rm_Mo_isSet_Mo_sets _ _ _) rfl h_this cf_11 rfl (Nat.le_of_ble_eq_true rfl) rfl ?_
    refine V_iconst (v := 1) (pc := 14) dX11_isSet_14 rfl ?_
    refine V_isub (pc := 15) dX11_isSet_15 ?_
    refine V_i2l (pc := 16) dX11_isSet_16 ?_
    obtain ⟨r17, e17, h⟩ := bnd h
    refine V_invS1 (pc := 17) dX11_isSet_17 (e_Mo_in  e17) is_Mo_84 (rm_Mo_isSet_Mo_in _ _ _) rfl (Nat.le_of_ble_eq_true rfl) rfl ?_
    refine V_if_eq (pc := 20) (tgt := 27) dX11_isSet_20 rfl (fun q => ?_) (fun q => ?_)
    · have h := ite_t q h
      refine V_iconst (v := 0) (pc := 27) dX11_isSet_27 rfl ?_
      obtain rfl := Option.some.inj h
      exact E_z (pc := 28) dX11_isSet_28 rfl rfl hp
    · have h := ite_f q h
      refine V_iconst (v := 1) (pc := 23) dX11_isSet_23 rfl ?_
      refine V_goto (tgt := 28) (pc := 24) dX11_isSet_24 rfl ?_
      obtain rfl := Option.some.inj h
      exact E_z (pc := 28) dX11_isSet_28 rfl rfl hp
theorem e_Mo_isSet {g : GE} {this : Nat} {v1 : Int32} {m : Mem} (h_this : kd this = 12) {x : Int32} (h : Mo_isSet this v1 m = some x) : Ev g Y_Mo_isSet [vr this, vi v1] m (some (vi x)) m :=
  Ev_of 0 (by decide +kernel) rfl (Nat.le_of_ble_eq_true rfl) rfl (k_Mo_isSet h_this h ⟨rfl, rfl⟩)
theorem k_Mo_setHeap {g : GE} {this : Nat} {v1 : Int32} {v2 : Int32} {v3 : Int32} {m : Mem} (h_this : kd this = 12) {r : Option AV} {m' : Mem} {x : Mem} (h : Mo_setHeap this v1 v2 v3 m = some x) (hp : (fun x : Mem => r = none ∧ m' = x) x) : V g Y_Mo_setHeap 0 [some (vr this), some (vi v1), some (vi v2), some (vi v3)] [] m (PM g Y_Mo_setHeap r m') := by
  unfold Mo_setHeap at h
  refine V_aload_n (i := 0) (pc := 0) dX11_setHeap_0 rfl rfl ?_
  refine V_getR (b := (this + 1)) (pc := 1) dX11_setHeap_1 fl_Mo_13 h_this rfl rfl ?_
  refine V_bipush (v := 116) (pc := 4) dX11_setHeap_4 rfl ?_
  refine V_bipush (v := 9) (pc := 6) dX11_setHeap_6 rfl ?_
  refine V_iload_n (i := 1) (pc := 8) dX11_setHeap_8 rfl rfl ?_
  refine V_imul (pc := 9) dX11_setHeap_9 ?_
  refine V_iadd (pc := 10) dX11_setHeap_10 ?_
  refine V_iload_n (i := 2) (pc := 11) dX11_setHeap_11 rfl rfl ?_
  refine V_iadd (pc := 12) dX11_setHeap_12 ?_
  refine V_iload_n (i := 3) (pc := 13) dX11_setHeap_13 rfl rfl ?_
  obtain ⟨hg14, h⟩ := gd_e h
  refine V_iast_lt (pc := 14) dX11_setHeap_14 (kf_11_1 h_this) (af_11_1 h_this) hg14 h (fun m14 h => ?_)
  obtain rfl := Option.some.inj h
  exact E_v (pc := 15) dX11_setHeap_15 rfl hp
theorem e_Mo_setHeap {g : GE} {this : Nat} {v1 : Int32} {v2 : Int32} {v3 : Int32} {m : Mem} (h_this : kd this = 12) {x : Mem} (h : Mo_setHeap this v1 v2 v3 m = some x) : Ev g Y_Mo_setHeap [vr this, vi v1, vi v2, vi v3] m (none) x :=
  Ev_of 0 (by decide +kernel) rfl (Nat.le_of_ble_eq_true rfl) rfl (k_Mo_setHeap h_this h ⟨rfl, rfl⟩)
theorem k_Mo_heap_l40 {g : GE} {this : Nat} {v1 : Int32} {v4 : Int32} {v5 : Int32} {m : Mem} (h_this : kd this = 12) {r : Option AV} {m' : Mem} {x : (Int32 × Mem) ⊕ (Int32 × Mem)} (h : Mo_heap_l40 this v1 v4 v5 m = some x) (hp : (Sum.elim (fun s : Int32 × Mem => V g Y_Mo_heap 40 [some (vr this), some (vi v1), none, none, some (vi v4), some (vi s.1)] [] s.2 (PM g Y_Mo_heap r m')) (fun x : Int32 × Mem => r = some (vi x.1) ∧ m' = x.2)) x) : V g Y_Mo_heap 40 [some (vr this), some (vi v1), none, none, some (vi v4), some (vi v5)] [] m (PM g Y_Mo_heap r m') := by
  unfold Mo_heap_l40 at h
  refine V_iload (i := 5) (pc := 40) dX11_heap_40 rfl ?_
  refine V_bipush (v := 9) (pc := 42) dX11_heap_42 rfl ?_
  refine V_icmp_ge (pc := 44) (tgt := 61) dX11_heap_44 rfl (fun q => ?_) (fun q => ?_)
  · have h := ite_t q h
    obtain ⟨y1, hu1, rfl⟩ := up_e h
    have h := hu1
    refine V_iload (i := 4) (pc := 61) dX11_heap_61 rfl ?_
    obtain rfl := Option.some.inj h
    exact E_i (pc := 63) dX11_heap_63 rfl hp
  · have h := ite_f q h
    refine V_aload_n (i := 0) (pc := 47) dX11_heap_47 rfl rfl ?_
    refine V_iload_n (i := 1) (pc := 48) dX11_heap_48 rfl rfl ?_
    refine V_iload (i := 5) (pc := 49) dX11_heap_49 rfl ?_
    refine V_iconst (v := 0) (pc := 51) dX11_heap_51 rfl ?_
    obtain ⟨m52, e52, h⟩ := bnd h
    refine V_invV0 (c := 11) (pc := 52) dX11_heap_52 (e_Mo_setHeap h_this e52) iv_Mo_284 (rm_Mo_heap_Mo_setHeap _ _ _) rfl h_this cf_11 rfl (Nat.le_of_ble_eq_true rfl) rfl ?_
    refine V_iinc (i := 5) (v := (v5 + 1)) (ls' := [some (vr this), some (vi v1), none, none, some (vi v4), some (vi (v5 + 1))]) (pc := 55) dX11_heap_55 rfl rfl (Nat.le_of_ble_eq_true rfl) rfl ?_
    refine V_goto (tgt := 40) (pc := 58) dX11_heap_58 rfl ?_
    obtain rfl := Option.some.inj h
    exact hp
theorem k_Mo_heap_b24 {g : GE} {this : Nat} {v1 : Int32} {v2 : Int32} {v3 : Int32}  {m : Mem} (h_this : kd this = 12) {r : Option AV} {m' : Mem} {x : Int32 × Mem} (h : Mo_heap_b24 this v1 v2 v3 m = some x) (hp : (fun x : Int32 × Mem => r = some (vi x.1) ∧ m' = x.2) x) : V g Y_Mo_heap 24 [some (vr this), some (vi v1), some (vi v2), some (vi v3), none, none] [] m (PM g Y_Mo_heap r m') := by
  unfold Mo_heap_b24 at h
  refine V_aload_n (i := 0) (pc := 24) dX11_heap_24 rfl rfl ?_
  refine V_iload_n (i := 1) (pc := 25) dX11_heap_25 rfl rfl ?_
  refine V_iconst (v := 0) (pc := 26) dX11_heap_26 rfl ?_
  obtain ⟨r27, e27, h⟩ := bnd h
  refine V_invV1 (c := 11) (pc := 27) dX11_heap_27 (e_Mo_ofHeap h_this e27) iv_Mo_88 (rm_Mo_heap_Mo_ofHeap _ _ _) rfl h_this cf_11 rfl (Nat.le_of_ble_eq_true rfl) rfl ?_
  refine V_istore (i := 4) (ls' := [some (vr this), some (vi v1), some (vi v2), some (vi v3), some (vi r27), none]) (pc := 30) dX11_heap_30 (Nat.le_of_ble_eq_true rfl) rfl ?_
  refine V_iload_n (i := 2) (pc := 32) dX11_heap_32 rfl rfl ?_
  refine V_iconst (v := (-1)) (pc := 33) dX11_heap_33 rfl ?_
  refine V_icmp_ne (pc := 34) (tgt := 64) dX11_heap_34 rfl (fun q => ?_) (fun q => ?_)
  · have h := ite_f q h
    refine V_aload_n (i := 0) (pc := 64) dX11_heap_64 rfl rfl ?_
    refine V_iload_n (i := 1) (pc := 65) dX11_heap_65 rfl rfl ?_
    refine V_iconst (v := 0) (pc := 66) dX11_heap_66 rfl ?_
    refine V_iconst (v := 1) (pc := 67) dX11_heap_67 rfl ?_
    obtain ⟨m68, e68, h⟩ := bnd h
    refine V_invV0 (c := 11) (pc := 68) dX11_heap_68 (e_Mo_setHeap h_this e68) iv_Mo_284 (rm_Mo_heap_Mo_setHeap _ _ _) rfl h_this cf_11 rfl (Nat.le_of_ble_eq_true rfl) rfl ?_
    refine V_aload_n (i := 0) (pc := 71) dX11_heap_71 rfl rfl ?_
    refine V_iload_n (i := 1) (pc := 72) dX11_heap_72 rfl rfl ?_
    refine V_iconst (v := 1) (pc := 73) dX11_heap_73 rfl ?_
    refine V_iload_n (i := 2) (pc := 74) dX11_heap_74 rfl rfl ?_
    obtain ⟨m75, e75, h⟩ := bnd h
    refine V_invV0 (c := 11) (pc := 75) dX11_heap_75 (e_Mo_setHeap h_this e75) iv_Mo_284 (rm_Mo_heap_Mo_setHeap _ _ _) rfl h_this cf_11 rfl (Nat.le_of_ble_eq_true rfl) rfl ?_
    refine V_aload_n (i := 0) (pc := 78) dX11_heap_78 rfl rfl ?_
    refine V_iload_n (i := 1) (pc := 79) dX11_heap_79 rfl rfl ?_
    refine V_iconst (v := 2) (pc := 80) dX11_heap_80 rfl ?_
    refine V_iload_n (i := 3) (pc := 81) dX11_heap_81 rfl rfl ?_
    obtain ⟨m82, e82, h⟩ := bnd h
    refine V_invV0 (c := 11) (pc := 82) dX11_heap_82 (e_Mo_setHeap h_this e82) iv_Mo_284 (rm_Mo_heap_Mo_setHeap _ _ _) rfl h_this cf_11 rfl (Nat.le_of_ble_eq_true rfl) rfl ?_
    refine V_iload (i := 4) (pc := 85) dX11_heap_85 rfl ?_
    obtain rfl := Option.some.inj h
    exact E_i (pc := 87) dX11_heap_87 rfl hp
  · have h := ite_t q h
    refine V_iconst (v := 0) (pc := 37) dX11_heap_37 rfl ?_
    refine V_istore (i := 5) (ls' := [some (vr this), some (vi v1), some (vi v2), some (vi v3), some (vi r27), some (vi 0)]) (pc := 38) dX11_heap_38 (Nat.le_of_ble_eq_true rfl) rfl ?_
    refine V_sub (ls' := [some (vr this), some (vi v1), none, none, some (vi r27), some (vi 0)]) (And.intro rfl (And.intro rfl (And.intro rfl (And.intro rfl trivial)))) ?_
    exact loop_V (A := fun s : Int32 × Mem => V g Y_Mo_heap 40 [some (vr this), some (vi v1), none, none, some (vi r27), some (vi s.1)] [] s.2 (PM g Y_Mo_heap r m')) (fun s x h hp => k_Mo_heap_l40 h_this h hp) (0, m) _ h hp
theorem k_Mo_heap {g : GE} {this : Nat} {v1 : Int32} {v2 : Int32} {v3 : Int32} {m : Mem} (h_this : kd this = 12) {r : Option AV} {m' : Mem} {x : Int32 × Mem} (h : Mo_heap this v1 v2 v3 m = some x) (hp : (fun x : Int32 × Mem => r = some (vi x.1) ∧ m' = x.2) x) : V g Y_Mo_heap 0 [some (vr this), some (vi v1), some (vi v2), some (vi v3), none, none] [] m (PM g Y_Mo_heap r m') := by
  unfold Mo_heap at h
  refine V_iload_n (i := 1) (pc := 0) dX11_heap_0 rfl rfl ?_
  obtain ⟨r1, e1, h⟩ := bnd h
  refine V_invS1 (pc := 1) dX11_heap_1 (e_Mo_isHeap  e1) is_Mo_277 (rm_Mo_heap_Mo_isHeap _ _ _) rfl (Nat.le_of_ble_eq_true rfl) rfl ?_
  refine V_if_eq (pc := 4) (tgt := 21) dX11_heap_4 rfl (fun q => ?_) (fun q => ?_)
  · have h := ite_t q h
    refine V_bipush (v := (-2)) (pc := 21) dX11_heap_21 rfl ?_
    obtain rfl := Option.some.inj h
    exact E_i (pc := 23) dX11_heap_23 rfl hp
  · have h := ite_f q h
    refine V_iload_n (i := 2) (pc := 7) dX11_heap_7 rfl rfl ?_
    refine V_iconst (v := (-1)) (pc := 8) dX11_heap_8 rfl ?_
    refine V_icmp_eq (pc := 9) (tgt := 24) dX11_heap_9 rfl (fun q => ?_) (fun q => ?_)
    · have h := ite_t q h
      exact k_Mo_heap_b24 h_this h hp
    · have h := ite_f q h
      refine V_aload_n (i := 0) (pc := 12) dX11_heap_12 rfl rfl ?_
      refine V_iload_n (i := 2) (pc := 13) dX11_heap_13 rfl rfl ?_
      refine V_iload_n (i := 3) (pc := 14) dX11_heap_14 rfl rfl ?_
      obtain ⟨r15, e15, h⟩ := bnd h
      refine V_invV1 (c := 11) (pc := 15) dX11_heap_15 (e_Mo_isCell h_this e15) iv_Mo_281 (rm_Mo_heap_Mo_isCell _ _ _) rfl h_this cf_11 rfl (Nat.le_of_ble_eq_true rfl) rfl ?_
      refine V_if_ne (pc := 18) (tgt := 24) dX11_heap_18 rfl (fun q => ?_) (fun q => ?_)
      · have h := ite_f q h
        exact k_Mo_heap_b24 h_this h hp
      · have h := ite_t q h
        refine V_bipush (v := (-2)) (pc := 21) dX11_heap_21 rfl ?_
        obtain rfl := Option.some.inj h
        exact E_i (pc := 23) dX11_heap_23 rfl hp
theorem e_Mo_heap {g : GE} {this : Nat} {v1 : Int32} {v2 : Int32} {v3 : Int32} {m : Mem} (h_this : kd this = 12) {x : Int32 × Mem} (h : Mo_heap this v1 v2 v3 m = some x) : Ev g Y_Mo_heap [vr this, vi v1, vi v2, vi v3] m (some (vi x.1)) x.2 :=
  Ev_of 2 (by decide +kernel) rfl (Nat.le_of_ble_eq_true rfl) rfl (k_Mo_heap h_this h ⟨rfl, rfl⟩)
theorem k_Mo_inHeaps_l4 {g : GE} {this : Nat} {v1 : Int32} {v2 : Int32} {v3 : Int32} {m : Mem} (h_this : kd this = 12) {r : Option AV} {m' : Mem} {x : (Int32 × Int32) ⊕ (Int32)} (h : Mo_inHeaps_l4 this v1 v2 v3 m = some x) (hp : (Sum.elim (fun s : Int32 × Int32 => V g Y_Mo_inHeaps 4 [some (vr this), some (vi v1), some (vi s.1), some (vi s.2)] [] m (PM g Y_Mo_inHeaps r m')) (fun x : Int32 => r = some (vi x) ∧ m' = m)) x) : V g Y_Mo_inHeaps 4 [some (vr this), some (vi v1), some (vi v2), some (vi v3)] [] m (PM g Y_Mo_inHeaps r m') := by
  unfold Mo_inHeaps_l4 at h
  refine V_iload_n (i := 3) (pc := 4) dX11_inHeaps_4 rfl rfl ?_
  refine V_bipush (v := 8) (pc := 5) dX11_inHeaps_5 rfl ?_
  refine V_icmp_ge (pc := 7) (tgt := 27) dX11_inHeaps_7 rfl (fun q => ?_) (fun q => ?_)
  · have h := ite_t q h
    obtain ⟨y1, hu1, rfl⟩ := up_e h
    have h := hu1
    refine V_iload_n (i := 2) (pc := 27) dX11_inHeaps_27 rfl rfl ?_
    obtain rfl := Option.some.inj h
    exact E_i (pc := 28) dX11_inHeaps_28 rfl hp
  · have h := ite_f q h
    refine V_iload_n (i := 2) (pc := 10) dX11_inHeaps_10 rfl rfl ?_
    refine V_aload_n (i := 0) (pc := 11) dX11_inHeaps_11 rfl rfl ?_
    refine V_iload_n (i := 3) (pc := 12) dX11_inHeaps_12 rfl rfl ?_
    refine V_iconst (v := 3) (pc := 13) dX11_inHeaps_13 rfl ?_
    refine V_iload_n (i := 1) (pc := 14) dX11_inHeaps_14 rfl rfl ?_
    refine V_iadd (pc := 15) dX11_inHeaps_15 ?_
    obtain ⟨r16, e16, h⟩ := bnd h
    refine V_invV1 (c := 11) (pc := 16) dX11_inHeaps_16 (e_Mo_ofHeap h_this e16) iv_Mo_88 (rm_Mo_inHeaps_Mo_ofHeap _ _ _) rfl h_this cf_11 rfl (Nat.le_of_ble_eq_true rfl) rfl ?_
    refine V_iadd (pc := 19) dX11_inHeaps_19 ?_
    refine V_istore_n (i := 2) (ls' := [some (vr this), some (vi v1), some (vi (v2 + r16)), some (vi v3)]) (pc := 20) dX11_inHeaps_20 rfl (Nat.le_of_ble_eq_true rfl) rfl ?_
    refine V_iinc (i := 3) (v := (v3 + 1)) (ls' := [some (vr this), some (vi v1), some (vi (v2 + r16)), some (vi (v3 + 1))]) (pc := 21) dX11_inHeaps_21 rfl rfl (Nat.le_of_ble_eq_true rfl) rfl ?_
    refine V_goto (tgt := 4) (pc := 24) dX11_inHeaps_24 rfl ?_
    obtain rfl := Option.some.inj h
    exact hp
theorem k_Mo_inHeaps {g : GE} {this : Nat} {v1 : Int32} {m : Mem} (h_this : kd this = 12) {r : Option AV} {m' : Mem} {x : Int32} (h : Mo_inHeaps this v1 m = some x) (hp : (fun x : Int32 => r = some (vi x) ∧ m' = m) x) : V g Y_Mo_inHeaps 0 [some (vr this), some (vi v1), none, none] [] m (PM g Y_Mo_inHeaps r m') := by
  unfold Mo_inHeaps at h
  refine V_iconst (v := 0) (pc := 0) dX11_inHeaps_0 rfl ?_
  refine V_istore_n (i := 2) (ls' := [some (vr this), some (vi v1), some (vi 0), none]) (pc := 1) dX11_inHeaps_1 rfl (Nat.le_of_ble_eq_true rfl) rfl ?_
  refine V_iconst (v := 0) (pc := 2) dX11_inHeaps_2 rfl ?_
  refine V_istore_n (i := 3) (ls' := [some (vr this), some (vi v1), some (vi 0), some (vi 0)]) (pc := 3) dX11_inHeaps_3 rfl (Nat.le_of_ble_eq_true rfl) rfl ?_
  exact loop_V (A := fun s : Int32 × Int32 => V g Y_Mo_inHeaps 4 [some (vr this), some (vi v1), some (vi s.1), some (vi s.2)] [] m (PM g Y_Mo_inHeaps r m')) (fun s x h hp => k_Mo_inHeaps_l4 h_this h hp) (0, 0) _ h hp
theorem e_Mo_inHeaps {g : GE} {this : Nat} {v1 : Int32} {m : Mem} (h_this : kd this = 12) {x : Int32} (h : Mo_inHeaps this v1 m = some x) : Ev g Y_Mo_inHeaps [vr this, vi v1] m (some (vi x)) m :=
  Ev_of 2 (by decide +kernel) rfl (Nat.le_of_ble_eq_true rfl) rfl (k_Mo_inHeaps h_this h ⟨rfl, rfl⟩)
theorem k_Mo_put {g : GE} {this : Nat} {v1 : Int32} {v2 : Int32} {v3 : Int32} {m : Mem} (h_this : kd this = 12) {r : Option AV} {m' : Mem} {x : Int32 × Mem} (h : Mo_put this v1 v2 v3 m = some x) (hp : (fun x : Int32 × Mem => r = some (vi x.1) ∧ m' = x.2) x) : V g Y_Mo_put 0 [some (vr this), some (vi v1), some (vi v2), some (vi v3)] [] m (PM g Y_Mo_put r m') := by
  unfold Mo_put at h
  refine V_iload_n (i := 1) (pc := 0) dX11_put_0 rfl rfl ?_
  obtain ⟨r1, e1, h⟩ := bnd h
  refine V_invS1 (pc := 1) dX11_put_1 (e_Mo_isHeap  e1) is_Mo_277 (rm_Mo_put_Mo_isHeap _ _ _) rfl (Nat.le_of_ble_eq_true rfl) rfl ?_
  refine V_if_eq (pc := 4) (tgt := 27) dX11_put_4 rfl (fun q => ?_) (fun q => ?_)
  · have h := ite_t q h
    refine V_bipush (v := (-2)) (pc := 27) dX11_put_27 rfl ?_
    obtain rfl := Option.some.inj h
    exact E_i (pc := 29) dX11_put_29 rfl hp
  · have h := ite_f q h
    refine V_aload_n (i := 0) (pc := 7) dX11_put_7 rfl rfl ?_
    refine V_iload_n (i := 1) (pc := 8) dX11_put_8 rfl rfl ?_
    obtain ⟨r9, e9, h⟩ := bnd h
    refine V_invV1 (c := 11) (pc := 9) dX11_put_9 (e_Mo_isThere h_this e9) iv_Mo_288 (rm_Mo_put_Mo_isThere _ _ _) rfl h_this cf_11 rfl (Nat.le_of_ble_eq_true rfl) rfl ?_
    refine V_if_eq (pc := 12) (tgt := 27) dX11_put_12 rfl (fun q => ?_) (fun q => ?_)
    · have h := ite_t q h
      refine V_bipush (v := (-2)) (pc := 27) dX11_put_27 rfl ?_
      obtain rfl := Option.some.inj h
      exact E_i (pc := 29) dX11_put_29 rfl hp
    · have h := ite_f q h
      refine V_aload_n (i := 0) (pc := 15) dX11_put_15 rfl rfl ?_
      refine V_iload_n (i := 2) (pc := 16) dX11_put_16 rfl rfl ?_
      obtain ⟨r17, e17, h⟩ := bnd h
      refine V_invV1 (c := 11) (pc := 17) dX11_put_17 (e_Mo_isSort h_this e17) iv_Mo_291 (rm_Mo_put_Mo_isSort _ _ _) rfl h_this cf_11 rfl (Nat.le_of_ble_eq_true rfl) rfl ?_
      refine V_if_eq (pc := 20) (tgt := 27) dX11_put_20 rfl (fun q => ?_) (fun q => ?_)
      · have h := ite_t q h
        refine V_bipush (v := (-2)) (pc := 27) dX11_put_27 rfl ?_
        obtain rfl := Option.some.inj h
        exact E_i (pc := 29) dX11_put_29 rfl hp
      · have h := ite_f q h
        refine V_iload_n (i := 3) (pc := 23) dX11_put_23 rfl rfl ?_
        refine V_if_ge (pc := 24) (tgt := 30) dX11_put_24 rfl (fun q => ?_) (fun q => ?_)
        · have h := ite_t q h
          refine V_aload_n (i := 0) (pc := 30) dX11_put_30 rfl rfl ?_
          refine V_iload_n (i := 2) (pc := 31) dX11_put_31 rfl rfl ?_
          obtain ⟨r32, e32, h⟩ := bnd h
          refine V_invV1 (c := 11) (pc := 32) dX11_put_32 (e_Mo_inHeaps h_this e32) iv_Mo_294 (rm_Mo_put_Mo_inHeaps _ _ _) rfl h_this cf_11 rfl (Nat.le_of_ble_eq_true rfl) rfl ?_
          refine V_aload_n (i := 0) (pc := 35) dX11_put_35 rfl rfl ?_
          refine V_iload_n (i := 1) (pc := 36) dX11_put_36 rfl rfl ?_
          refine V_iconst (v := 3) (pc := 37) dX11_put_37 rfl ?_
          refine V_iload_n (i := 2) (pc := 38) dX11_put_38 rfl rfl ?_
          refine V_iadd (pc := 39) dX11_put_39 ?_
          obtain ⟨r40, e40, h⟩ := bnd h
          refine V_invV1 (c := 11) (pc := 40) dX11_put_40 (e_Mo_ofHeap h_this e40) iv_Mo_88 (rm_Mo_put_Mo_ofHeap _ _ _) rfl h_this cf_11 rfl (Nat.le_of_ble_eq_true rfl) rfl ?_
          refine V_isub (pc := 43) dX11_put_43 ?_
          refine V_i2l (pc := 44) dX11_put_44 ?_
          refine V_iload_n (i := 3) (pc := 45) dX11_put_45 rfl rfl ?_
          refine V_i2l (pc := 46) dX11_put_46 ?_
          refine V_ladd (pc := 47) dX11_put_47 ?_
          refine V_aload_n (i := 0) (pc := 48) dX11_put_48 rfl rfl ?_
          refine V_iload_n (i := 2) (pc := 49) dX11_put_49 rfl rfl ?_
          refine V_iconst (v := 3) (pc := 50) dX11_put_50 rfl ?_
          obtain ⟨r51, e51, h⟩ := bnd h
          refine V_invV1 (c := 11) (pc := 51) dX11_put_51 (e_Mo_ofSort h_this e51) iv_Mo_297 (rm_Mo_put_Mo_ofSort _ _ _) rfl h_this cf_11 rfl (Nat.le_of_ble_eq_true rfl) rfl ?_
          refine V_i2l (pc := 54) dX11_put_54 ?_
          refine V_lif_le (pc := 55) (tgt := 62) dX11_put_55 dX11_put_56 rfl (fun q => ?_) (fun q => ?_)
          · have h := ite_t q h
            refine V_aload_n (i := 0) (pc := 62) dX11_put_62 rfl rfl ?_
            refine V_iload_n (i := 1) (pc := 63) dX11_put_63 rfl rfl ?_
            refine V_iconst (v := 3) (pc := 64) dX11_put_64 rfl ?_
            refine V_iload_n (i := 2) (pc := 65) dX11_put_65 rfl rfl ?_
            refine V_iadd (pc := 66) dX11_put_66 ?_
            refine V_iload_n (i := 3) (pc := 67) dX11_put_67 rfl rfl ?_
            obtain ⟨m68, e68, h⟩ := bnd h
            refine V_invV0 (c := 11) (pc := 68) dX11_put_68 (e_Mo_setHeap h_this e68) iv_Mo_284 (rm_Mo_put_Mo_setHeap _ _ _) rfl h_this cf_11 rfl (Nat.le_of_ble_eq_true rfl) rfl ?_
            refine V_aload_n (i := 0) (pc := 71) dX11_put_71 rfl rfl ?_
            refine V_iload_n (i := 2) (pc := 72) dX11_put_72 rfl rfl ?_
            refine V_iconst (v := 3) (pc := 73) dX11_put_73 rfl ?_
            obtain ⟨r74, e74, h⟩ := bnd h
            refine V_invV1 (c := 11) (pc := 74) dX11_put_74 (e_Mo_ofSort h_this e74) iv_Mo_297 (rm_Mo_put_Mo_ofSort _ _ _) rfl h_this cf_11 rfl (Nat.le_of_ble_eq_true rfl) rfl ?_
            refine V_aload_n (i := 0) (pc := 77) dX11_put_77 rfl rfl ?_
            refine V_iload_n (i := 2) (pc := 78) dX11_put_78 rfl rfl ?_
            obtain ⟨r79, e79, h⟩ := bnd h
            refine V_invV1 (c := 11) (pc := 79) dX11_put_79 (e_Mo_inHeaps h_this e79) iv_Mo_294 (rm_Mo_put_Mo_inHeaps _ _ _) rfl h_this cf_11 rfl (Nat.le_of_ble_eq_true rfl) rfl ?_
            refine V_isub (pc := 82) dX11_put_82 ?_
            obtain rfl := Option.some.inj h
            exact E_i (pc := 83) dX11_put_83 rfl hp
          · have h := ite_f q h
            refine V_bipush (v := (-3)) (pc := 59) dX11_put_59 rfl ?_
            obtain rfl := Option.some.inj h
            exact E_i (pc := 61) dX11_put_61 rfl hp
        · have h := ite_f q h
          refine V_bipush (v := (-2)) (pc := 27) dX11_put_27 rfl ?_
          obtain rfl := Option.some.inj h
          exact E_i (pc := 29) dX11_put_29 rfl hp
theorem e_Mo_put {g : GE} {this : Nat} {v1 : Int32} {v2 : Int32} {v3 : Int32} {m : Mem} (h_this : kd this = 12) {x : Int32 × Mem} (h : Mo_put this v1 v2 v3 m = some x) : Ev g Y_Mo_put [vr this, vi v1, vi v2, vi v3] m (some (vi x.1)) x.2 :=
  Ev_of 0 (by decide +kernel) rfl (Nat.le_of_ble_eq_true rfl) rfl (k_Mo_put h_this h ⟨rfl, rfl⟩)
theorem k_Mo_sleepers_l4 {g : GE} {this : Nat}  {v1 : Int32} {v2 : Int32} {m : Mem} (h_this : kd this = 12) {r : Option AV} {m' : Mem} {x : (Int32 × Int32) ⊕ (Int32)} (h : Mo_sleepers_l4 this v1 v2 m = some x) (hp : (Sum.elim (fun s : Int32 × Int32 => V g Y_Mo_sleepers 4 [some (vr this), some (vi s.1), some (vi s.2)] [] m (PM g Y_Mo_sleepers r m')) (fun x : Int32 => r = some (vi x) ∧ m' = m)) x) : V g Y_Mo_sleepers 4 [some (vr this), some (vi v1), some (vi v2)] [] m (PM g Y_Mo_sleepers r m') := by
  unfold Mo_sleepers_l4 at h
  refine V_iload_n (i := 2) (pc := 4) dX11_sleepers_4 rfl rfl ?_
  refine V_iconst (v := 4) (pc := 5) dX11_sleepers_5 rfl ?_
  refine V_icmp_ge (pc := 6) (tgt := 24) dX11_sleepers_6 rfl (fun q => ?_) (fun q => ?_)
  · have h := ite_t q h
    obtain ⟨y1, hu1, rfl⟩ := up_e h
    have h := hu1
    refine V_iload_n (i := 1) (pc := 24) dX11_sleepers_24 rfl rfl ?_
    obtain rfl := Option.some.inj h
    exact E_i (pc := 25) dX11_sleepers_25 rfl hp
  · have h := ite_f q h
    refine V_iload_n (i := 1) (pc := 9) dX11_sleepers_9 rfl rfl ?_
    refine V_aload_n (i := 0) (pc := 10) dX11_sleepers_10 rfl rfl ?_
    refine V_iload_n (i := 2) (pc := 11) dX11_sleepers_11 rfl rfl ?_
    refine V_iconst (v := 2) (pc := 12) dX11_sleepers_12 rfl ?_
    obtain ⟨r13, e13, h⟩ := bnd h
    refine V_invV1 (c := 11) (pc := 13) dX11_sleepers_13 (e_Mo_ofGroup h_this e13) iv_Mo_300 (rm_Mo_sleepers_Mo_ofGroup _ _ _) rfl h_this cf_11 rfl (Nat.le_of_ble_eq_true rfl) rfl ?_
    refine V_iadd (pc := 16) dX11_sleepers_16 ?_
    refine V_istore_n (i := 1) (ls' := [some (vr this), some (vi (v1 + r13)), some (vi v2)]) (pc := 17) dX11_sleepers_17 rfl (Nat.le_of_ble_eq_true rfl) rfl ?_
    refine V_iinc (i := 2) (v := (v2 + 1)) (ls' := [some (vr this), some (vi (v1 + r13)), some (vi (v2 + 1))]) (pc := 18) dX11_sleepers_18 rfl rfl (Nat.le_of_ble_eq_true rfl) rfl ?_
    refine V_goto (tgt := 4) (pc := 21) dX11_sleepers_21 rfl ?_
    obtain rfl := Option.some.inj h
    exact hp
theorem k_Mo_sleepers {g : GE} {this : Nat} {m : Mem} (h_this : kd this = 12) {r : Option AV} {m' : Mem} {x : Int32} (h : Mo_sleepers this m = some x) (hp : (fun x : Int32 => r = some (vi x) ∧ m' = m) x) : V g Y_Mo_sleepers 0 [some (vr this), none, none] [] m (PM g Y_Mo_sleepers r m') := by
  unfold Mo_sleepers at h
  refine V_iconst (v := 0) (pc := 0) dX11_sleepers_0 rfl ?_
  refine V_istore_n (i := 1) (ls' := [some (vr this), some (vi 0), none]) (pc := 1) dX11_sleepers_1 rfl (Nat.le_of_ble_eq_true rfl) rfl ?_
  refine V_iconst (v := 0) (pc := 2) dX11_sleepers_2 rfl ?_
  refine V_istore_n (i := 2) (ls' := [some (vr this), some (vi 0), some (vi 0)]) (pc := 3) dX11_sleepers_3 rfl (Nat.le_of_ble_eq_true rfl) rfl ?_
  exact loop_V (A := fun s : Int32 × Int32 => V g Y_Mo_sleepers 4 [some (vr this), some (vi s.1), some (vi s.2)] [] m (PM g Y_Mo_sleepers r m')) (fun s x h hp => k_Mo_sleepers_l4 h_this h hp) (0, 0) _ h hp
theorem e_Mo_sleepers {g : GE} {this : Nat} {m : Mem} (h_this : kd this = 12) {x : Int32} (h : Mo_sleepers this m = some x) : Ev g Y_Mo_sleepers [vr this] m (some (vi x)) m :=
  Ev_of 2 (by decide +kernel) rfl (Nat.le_of_ble_eq_true rfl) rfl (k_Mo_sleepers h_this h ⟨rfl, rfl⟩)
theorem k_Mo_sleep {g : GE} {this : Nat} {v1 : Int32} {v2 : Int32} {v3 : Int32} {v4 : Int32} {m : Mem} (h_this : kd this = 12) {r : Option AV} {m' : Mem} {x : Int32 × Mem} (h : Mo_sleep this v1 v2 v3 v4 m = some x) (hp : (fun x : Int32 × Mem => r = some (vi x.1) ∧ m' = x.2) x) : V g Y_Mo_sleep 0 [some (vr this), some (vi v1), some (vi v2), some (vi v3), some (vi v4)] [] m (PM g Y_Mo_sleep r m') := by
  unfold Mo_sleep at h
  refine V_iload_n (i := 1) (pc := 0) dX11_sleep_0 rfl rfl ?_
  obtain ⟨r1, e1, h⟩ := bnd h
  refine V_invS1 (pc := 1) dX11_sleep_1 (e_Mo_isGroup  e1) is_Mo_303 (rm_Mo_sleep_Mo_isGroup _ _ _) rfl (Nat.le_of_ble_eq_true rfl) rfl ?_
  refine V_if_eq (pc := 4) (tgt := 29) dX11_sleep_4 rfl (fun q => ?_) (fun q => ?_)
  · have h := ite_t q h
    refine V_bipush (v := (-2)) (pc := 29) dX11_sleep_29 rfl ?_
    obtain rfl := Option.some.inj h
    exact E_i (pc := 31) dX11_sleep_31 rfl hp
  · have h := ite_f q h
    refine V_aload_n (i := 0) (pc := 7) dX11_sleep_7 rfl rfl ?_
    refine V_iload_n (i := 2) (pc := 8) dX11_sleep_8 rfl rfl ?_
    refine V_iload_n (i := 3) (pc := 9) dX11_sleep_9 rfl rfl ?_
    obtain ⟨r10, e10, h⟩ := bnd h
    refine V_invV1 (c := 11) (pc := 10) dX11_sleep_10 (e_Mo_isCell h_this e10) iv_Mo_281 (rm_Mo_sleep_Mo_isCell _ _ _) rfl h_this cf_11 rfl (Nat.le_of_ble_eq_true rfl) rfl ?_
    refine V_if_eq (pc := 13) (tgt := 29) dX11_sleep_13 rfl (fun q => ?_) (fun q => ?_)
    · have h := ite_t q h
      refine V_bipush (v := (-2)) (pc := 29) dX11_sleep_29 rfl ?_
      obtain rfl := Option.some.inj h
      exact E_i (pc := 31) dX11_sleep_31 rfl hp
    · have h := ite_f q h
      refine V_iload (i := 4) (pc := 16) dX11_sleep_16 rfl ?_
      refine V_i2l (pc := 18) dX11_sleep_18 ?_
      refine V_lconst (v := 0) (pc := 19) dX11_sleep_19 rfl ?_
      refine V_ldc2 (v := 28) (pc := 20) dX11_sleep_20 con_Mo_306 ?_
      obtain ⟨r23, e23, h⟩ := bnd h
      refine V_invS1 (pc := 23) dX11_sleep_23 (e_Mo_in  e23) is_Mo_84 (rm_Mo_sleep_Mo_in _ _ _) rfl (Nat.le_of_ble_eq_true rfl) rfl ?_
      refine V_if_ne (pc := 26) (tgt := 32) dX11_sleep_26 rfl (fun q => ?_) (fun q => ?_)
      · have h := ite_f q h
        refine V_aload_n (i := 0) (pc := 32) dX11_sleep_32 rfl rfl ?_
        obtain ⟨r33, e33, h⟩ := bnd h
        refine V_invV1 (c := 11) (pc := 33) dX11_sleep_33 (e_Mo_sleepers h_this e33) iv_Mo_308 (rm_Mo_sleep_Mo_sleepers _ _ _) rfl h_this cf_11 rfl (Nat.le_of_ble_eq_true rfl) rfl ?_
        refine V_aload_n (i := 0) (pc := 36) dX11_sleep_36 rfl rfl ?_
        refine V_iload_n (i := 1) (pc := 37) dX11_sleep_37 rfl rfl ?_
        refine V_iconst (v := 2) (pc := 38) dX11_sleep_38 rfl ?_
        obtain ⟨r39, e39, h⟩ := bnd h
        refine V_invV1 (c := 11) (pc := 39) dX11_sleep_39 (e_Mo_ofGroup h_this e39) iv_Mo_300 (rm_Mo_sleep_Mo_ofGroup _ _ _) rfl h_this cf_11 rfl (Nat.le_of_ble_eq_true rfl) rfl ?_
        refine V_isub (pc := 42) dX11_sleep_42 ?_
        refine V_iload (i := 4) (pc := 43) dX11_sleep_43 rfl ?_
        refine V_iadd (pc := 45) dX11_sleep_45 ?_
        refine V_aload_n (i := 0) (pc := 46) dX11_sleep_46 rfl rfl ?_
        refine V_getR (b := (this + 1)) (pc := 47) dX11_sleep_47 fl_Mo_13 h_this rfl rfl ?_
        refine V_iconst (v := 3) (pc := 50) dX11_sleep_50 rfl ?_
        obtain ⟨hg51, h⟩ := gd_e h
        refine V_iald (pc := 51) dX11_sleep_51 (kf_11_1 h_this) (af_11_1 h_this) hg51 ?_
        refine V_icmp_le (pc := 52) (tgt := 58) dX11_sleep_52 rfl (fun q => ?_) (fun q => ?_)
        · have h := ite_t q h
          refine V_aload_n (i := 0) (pc := 58) dX11_sleep_58 rfl rfl ?_
          refine V_getR (b := (this + 1)) (pc := 59) dX11_sleep_59 fl_Mo_13 h_this rfl rfl ?_
          refine V_sipush (v := 188) (pc := 62) dX11_sleep_62 rfl ?_
          refine V_iconst (v := 3) (pc := 65) dX11_sleep_65 rfl ?_
          refine V_iload_n (i := 1) (pc := 66) dX11_sleep_66 rfl rfl ?_
          refine V_imul (pc := 67) dX11_sleep_67 ?_
          refine V_iadd (pc := 68) dX11_sleep_68 ?_
          refine V_iload_n (i := 2) (pc := 69) dX11_sleep_69 rfl rfl ?_
          obtain ⟨hg70, h⟩ := gd_e h
          refine V_iast_lt (pc := 70) dX11_sleep_70 (kf_11_1 h_this) (af_11_1 h_this) hg70 h (fun m70 h => ?_)
          refine V_aload_n (i := 0) (pc := 71) dX11_sleep_71 rfl rfl ?_
          refine V_getR (b := (this + 1)) (pc := 72) dX11_sleep_72 fl_Mo_13 h_this rfl rfl ?_
          refine V_sipush (v := 188) (pc := 75) dX11_sleep_75 rfl ?_
          refine V_iconst (v := 3) (pc := 78) dX11_sleep_78 rfl ?_
          refine V_iload_n (i := 1) (pc := 79) dX11_sleep_79 rfl rfl ?_
          refine V_imul (pc := 80) dX11_sleep_80 ?_
          refine V_iadd (pc := 81) dX11_sleep_81 ?_
          refine V_iconst (v := 1) (pc := 82) dX11_sleep_82 rfl ?_
          refine V_iadd (pc := 83) dX11_sleep_83 ?_
          refine V_iload_n (i := 3) (pc := 84) dX11_sleep_84 rfl rfl ?_
          obtain ⟨hg85, h⟩ := gd_e h
          refine V_iast_lt (pc := 85) dX11_sleep_85 (kf_11_1 h_this) (af_11_1 h_this) hg85 h (fun m85 h => ?_)
          refine V_aload_n (i := 0) (pc := 86) dX11_sleep_86 rfl rfl ?_
          refine V_getR (b := (this + 1)) (pc := 87) dX11_sleep_87 fl_Mo_13 h_this rfl rfl ?_
          refine V_sipush (v := 188) (pc := 90) dX11_sleep_90 rfl ?_
          refine V_iconst (v := 3) (pc := 93) dX11_sleep_93 rfl ?_
          refine V_iload_n (i := 1) (pc := 94) dX11_sleep_94 rfl rfl ?_
          refine V_imul (pc := 95) dX11_sleep_95 ?_
          refine V_iadd (pc := 96) dX11_sleep_96 ?_
          refine V_iconst (v := 2) (pc := 97) dX11_sleep_97 rfl ?_
          refine V_iadd (pc := 98) dX11_sleep_98 ?_
          refine V_iload (i := 4) (pc := 99) dX11_sleep_99 rfl ?_
          obtain ⟨hg101, h⟩ := gd_e h
          refine V_iast_lt (pc := 101) dX11_sleep_101 (kf_11_1 h_this) (af_11_1 h_this) hg101 h (fun m101 h => ?_)
          refine V_aload_n (i := 0) (pc := 102) dX11_sleep_102 rfl rfl ?_
          obtain ⟨r103, e103, h⟩ := bnd h
          refine V_invV1 (c := 11) (pc := 103) dX11_sleep_103 (e_Mo_sleepers h_this e103) iv_Mo_308 (rm_Mo_sleep_Mo_sleepers _ _ _) rfl h_this cf_11 rfl (Nat.le_of_ble_eq_true rfl) rfl ?_
          obtain rfl := Option.some.inj h
          exact E_i (pc := 106) dX11_sleep_106 rfl hp
        · have h := ite_f q h
          refine V_bipush (v := (-3)) (pc := 55) dX11_sleep_55 rfl ?_
          obtain rfl := Option.some.inj h
          exact E_i (pc := 57) dX11_sleep_57 rfl hp
      · have h := ite_t q h
        refine V_bipush (v := (-2)) (pc := 29) dX11_sleep_29 rfl ?_
        obtain rfl := Option.some.inj h
        exact E_i (pc := 31) dX11_sleep_31 rfl hp
theorem e_Mo_sleep {g : GE} {this : Nat} {v1 : Int32} {v2 : Int32} {v3 : Int32} {v4 : Int32} {m : Mem} (h_this : kd this = 12) {x : Int32 × Mem} (h : Mo_sleep this v1 v2 v3 v4 m = some x) : Ev g Y_Mo_sleep [vr this, vi v1, vi v2, vi v3, vi v4] m (some (vi x.1)) x.2 :=
  Ev_of 0 (by decide +kernel) rfl (Nat.le_of_ble_eq_true rfl) rfl (k_Mo_sleep h_this h ⟨rfl, rfl⟩)
theorem k_Mo_open {g : GE} {this : Nat} {v1 : Int32} {m : Mem} (h_this : kd this = 12) {r : Option AV} {m' : Mem} {x : Int32 × Mem} (h : Mo_open this v1 m = some x) (hp : (fun x : Int32 × Mem => r = some (vi x.1) ∧ m' = x.2) x) : V g Y_Mo_open 0 [some (vr this), some (vi v1), none] [] m (PM g Y_Mo_open r m') := by
  unfold Mo_open at h
  refine V_aload_n (i := 0) (pc := 0) dX11_open_0 rfl rfl ?_
  refine V_iload_n (i := 1) (pc := 1) dX11_open_1 rfl rfl ?_
  obtain ⟨r2, e2, h⟩ := bnd h
  refine V_invV1 (c := 11) (pc := 2) dX11_open_2 (e_Mo_isSet h_this e2) iv_Mo_311 (rm_Mo_open_Mo_isSet _ _ _) rfl h_this cf_11 rfl (Nat.le_of_ble_eq_true rfl) rfl ?_
  refine V_if_ne (pc := 5) (tgt := 11) dX11_open_5 rfl (fun q => ?_) (fun q => ?_)
  · have h := ite_f q h
    refine V_aload_n (i := 0) (pc := 11) dX11_open_11 rfl rfl ?_
    refine V_getR (b := (this + 1)) (pc := 12) dX11_open_12 fl_Mo_13 h_this rfl rfl ?_
    refine V_bipush (v := 18) (pc := 15) dX11_open_15 rfl ?_
    obtain ⟨hg17, h⟩ := gd_e h
    refine V_iald (pc := 17) dX11_open_17 (kf_11_1 h_this) (af_11_1 h_this) hg17 ?_
    refine V_istore_n (i := 2) (ls' := [some (vr this), some (vi v1), some (vi (rI m (this + 1) (ix 18)))]) (pc := 18) dX11_open_18 rfl (Nat.le_of_ble_eq_true rfl) rfl ?_
    refine V_aload_n (i := 0) (pc := 19) dX11_open_19 rfl rfl ?_
    refine V_getR (b := (this + 1)) (pc := 20) dX11_open_20 fl_Mo_13 h_this rfl rfl ?_
    refine V_bipush (v := 18) (pc := 23) dX11_open_23 rfl ?_
    refine V_iload_n (i := 1) (pc := 25) dX11_open_25 rfl rfl ?_
    obtain ⟨hg26, h⟩ := gd_e h
    refine V_iast_lt (pc := 26) dX11_open_26 (kf_11_1 h_this) (af_11_1 h_this) hg26 h (fun m26 h => ?_)
    refine V_iload_n (i := 2) (pc := 27) dX11_open_27 rfl rfl ?_
    obtain rfl := Option.some.inj h
    exact E_i (pc := 28) dX11_open_28 rfl hp
  · have h := ite_t q h
    refine V_bipush (v := (-2)) (pc := 8) dX11_open_8 rfl ?_
    obtain rfl := Option.some.inj h
    exact E_i (pc := 10) dX11_open_10 rfl hp
theorem e_Mo_open {g : GE} {this : Nat} {v1 : Int32} {m : Mem} (h_this : kd this = 12) {x : Int32 × Mem} (h : Mo_open this v1 m = some x) : Ev g Y_Mo_open [vr this, vi v1] m (some (vi x.1)) x.2 :=
  Ev_of 1 (by decide +kernel) rfl (Nat.le_of_ble_eq_true rfl) rfl (k_Mo_open h_this h ⟨rfl, rfl⟩)
theorem k_Mo_tonsOf_l4 {g : GE} {this : Nat} {v1 : Int32} {v2 : Int32} {v3 : Int32} {m : Mem} (h_this : kd this = 12) {r : Option AV} {m' : Mem} {x : (Int32 × Int32) ⊕ (Int32)} (h : Mo_tonsOf_l4 this v1 v2 v3 m = some x) (hp : (Sum.elim (fun s : Int32 × Int32 => V g Y_Mo_tonsOf 4 [some (vr this), some (vi v1), some (vi s.1), some (vi s.2)] [] m (PM g Y_Mo_tonsOf r m')) (fun x : Int32 => r = some (vi x) ∧ m' = m)) x) : V g Y_Mo_tonsOf 4 [some (vr this), some (vi v1), some (vi v2), some (vi v3)] [] m (PM g Y_Mo_tonsOf r m') := by
  unfold Mo_tonsOf_l4 at h
  refine V_iload_n (i := 3) (pc := 4) dX11_tonsOf_4 rfl rfl ?_
  refine V_aload_n (i := 0) (pc := 5) dX11_tonsOf_5 rfl rfl ?_
  refine V_getR (b := (this + 1)) (pc := 6) dX11_tonsOf_6 fl_Mo_13 h_this rfl rfl ?_
  refine V_bipush (v := 6) (pc := 9) dX11_tonsOf_9 rfl ?_
  obtain ⟨hg11, h⟩ := gd_e h
  refine V_iald (pc := 11) dX11_tonsOf_11 (kf_11_1 h_this) (af_11_1 h_this) hg11 ?_
  refine V_icmp_ge (pc := 12) (tgt := 39) dX11_tonsOf_12 rfl (fun q => ?_) (fun q => ?_)
  · have h := ite_t q h
    obtain ⟨y1, hu1, rfl⟩ := up_e h
    have h := hu1
    refine V_iload_n (i := 2) (pc := 39) dX11_tonsOf_39 rfl rfl ?_
    obtain rfl := Option.some.inj h
    exact E_i (pc := 40) dX11_tonsOf_40 rfl hp
  · have h := ite_f q h
    refine V_iload_n (i := 2) (pc := 15) dX11_tonsOf_15 rfl rfl ?_
    refine V_aload_n (i := 0) (pc := 16) dX11_tonsOf_16 rfl rfl ?_
    refine V_iload_n (i := 1) (pc := 17) dX11_tonsOf_17 rfl rfl ?_
    refine V_iconst (v := 3) (pc := 18) dX11_tonsOf_18 rfl ?_
    refine V_iload_n (i := 3) (pc := 19) dX11_tonsOf_19 rfl rfl ?_
    refine V_iadd (pc := 20) dX11_tonsOf_20 ?_
    obtain ⟨r21, e21, h⟩ := bnd h
    refine V_invV1 (c := 11) (pc := 21) dX11_tonsOf_21 (e_Mo_ofHeap h_this e21) iv_Mo_88 (rm_Mo_tonsOf_Mo_ofHeap _ _ _) rfl h_this cf_11 rfl (Nat.le_of_ble_eq_true rfl) rfl ?_
    refine V_aload_n (i := 0) (pc := 24) dX11_tonsOf_24 rfl rfl ?_
    refine V_iload_n (i := 3) (pc := 25) dX11_tonsOf_25 rfl rfl ?_
    refine V_iconst (v := 2) (pc := 26) dX11_tonsOf_26 rfl ?_
    obtain ⟨r27, e27, h⟩ := bnd h
    refine V_invV1 (c := 11) (pc := 27) dX11_tonsOf_27 (e_Mo_ofSort h_this e27) iv_Mo_297 (rm_Mo_tonsOf_Mo_ofSort _ _ _) rfl h_this cf_11 rfl (Nat.le_of_ble_eq_true rfl) rfl ?_
    refine V_imul (pc := 30) dX11_tonsOf_30 ?_
    refine V_iadd (pc := 31) dX11_tonsOf_31 ?_
    refine V_istore_n (i := 2) (ls' := [some (vr this), some (vi v1), some (vi (v2 + (r21 * r27))), some (vi v3)]) (pc := 32) dX11_tonsOf_32 rfl (Nat.le_of_ble_eq_true rfl) rfl ?_
    refine V_iinc (i := 3) (v := (v3 + 1)) (ls' := [some (vr this), some (vi v1), some (vi (v2 + (r21 * r27))), some (vi (v3 + 1))]) (pc := 33) dX11_tonsOf_33 rfl rfl (Nat.le_of_ble_eq_true rfl) rfl ?_
    refine V_goto (tgt := 4) (pc := 36) dX11_tonsOf_36 rfl ?_
    obtain rfl := Option.some.inj h
    exact hp
theorem k_Mo_tonsOf {g : GE} {this : Nat} {v1 : Int32} {m : Mem} (h_this : kd this = 12) {r : Option AV} {m' : Mem} {x : Int32} (h : Mo_tonsOf this v1 m = some x) (hp : (fun x : Int32 => r = some (vi x) ∧ m' = m) x) : V g Y_Mo_tonsOf 0 [some (vr this), some (vi v1), none, none] [] m (PM g Y_Mo_tonsOf r m') := by
  unfold Mo_tonsOf at h
  refine V_iconst (v := 0) (pc := 0) dX11_tonsOf_0 rfl ?_
  refine V_istore_n (i := 2) (ls' := [some (vr this), some (vi v1), some (vi 0), none]) (pc := 1) dX11_tonsOf_1 rfl (Nat.le_of_ble_eq_true rfl) rfl ?_
  refine V_iconst (v := 0) (pc := 2) dX11_tonsOf_2 rfl ?_
  refine V_istore_n (i := 3) (ls' := [some (vr this), some (vi v1), some (vi 0), some (vi 0)]) (pc := 3) dX11_tonsOf_3 rfl (Nat.le_of_ble_eq_true rfl) rfl ?_
  exact loop_V (A := fun s : Int32 × Int32 => V g Y_Mo_tonsOf 4 [some (vr this), some (vi v1), some (vi s.1), some (vi s.2)] [] m (PM g Y_Mo_tonsOf r m')) (fun s x h hp => k_Mo_tonsOf_l4 h_this h hp) (0, 0) _ h hp
theorem e_Mo_tonsOf {g : GE} {this : Nat} {v1 : Int32} {m : Mem} (h_this : kd this = 12) {x : Int32} (h : Mo_tonsOf this v1 m = some x) : Ev g Y_Mo_tonsOf [vr this, vi v1] m (some (vi x)) m :=
  Ev_of 2 (by decide +kernel) rfl (Nat.le_of_ble_eq_true rfl) rfl (k_Mo_tonsOf h_this h ⟨rfl, rfl⟩)
theorem k_Mo_lies {g : GE} {this : Nat} {v1 : Int32} {v2 : Int32} {m : Mem} (h_this : kd this = 12) {r : Option AV} {m' : Mem} {x : Int32} (h : Mo_lies this v1 v2 m = some x) (hp : (fun x : Int32 => r = some (vi x) ∧ m' = m) x) : V g Y_Mo_lies 0 [some (vr this), some (vi v1), some (vi v2)] [] m (PM g Y_Mo_lies r m') := by
  unfold Mo_lies at h
  refine V_iload_n (i := 1) (pc := 0) dX11_lies_0 rfl rfl ?_
  obtain ⟨r1, e1, h⟩ := bnd h
  refine V_invS1 (pc := 1) dX11_lies_1 (e_Mo_isHeap  e1) is_Mo_277 (rm_Mo_lies_Mo_isHeap _ _ _) rfl (Nat.le_of_ble_eq_true rfl) rfl ?_
  refine V_if_eq (pc := 4) (tgt := 26) dX11_lies_4 rfl (fun q => ?_) (fun q => ?_)
  · have h := ite_t q h
    refine V_bipush (v := (-2)) (pc := 26) dX11_lies_26 rfl ?_
    obtain rfl := Option.some.inj h
    exact E_i (pc := 28) dX11_lies_28 rfl hp
  · have h := ite_f q h
    refine V_iload_n (i := 2) (pc := 7) dX11_lies_7 rfl rfl ?_
    refine V_i2l (pc := 8) dX11_lies_8 ?_
    refine V_lconst (v := 0) (pc := 9) dX11_lies_9 rfl ?_
    refine V_iconst (v := 2) (pc := 10) dX11_lies_10 rfl ?_
    refine V_aload_n (i := 0) (pc := 11) dX11_lies_11 rfl rfl ?_
    refine V_getR (b := (this + 1)) (pc := 12) dX11_lies_12 fl_Mo_13 h_this rfl rfl ?_
    refine V_bipush (v := 6) (pc := 15) dX11_lies_15 rfl ?_
    obtain ⟨hg17, h⟩ := gd_e h
    refine V_iald (pc := 17) dX11_lies_17 (kf_11_1 h_this) (af_11_1 h_this) hg17 ?_
    refine V_iadd (pc := 18) dX11_lies_18 ?_
    refine V_i2l (pc := 19) dX11_lies_19 ?_
    obtain ⟨r20, e20, h⟩ := bnd h
    refine V_invS1 (pc := 20) dX11_lies_20 (e_Mo_in  e20) is_Mo_84 (rm_Mo_lies_Mo_in _ _ _) rfl (Nat.le_of_ble_eq_true rfl) rfl ?_
    refine V_if_ne (pc := 23) (tgt := 29) dX11_lies_23 rfl (fun q => ?_) (fun q => ?_)
    · have h := ite_f q h
      refine V_aload_n (i := 0) (pc := 29) dX11_lies_29 rfl rfl ?_
      refine V_iload_n (i := 1) (pc := 30) dX11_lies_30 rfl rfl ?_
      obtain ⟨r31, e31, h⟩ := bnd h
      refine V_invV1 (c := 11) (pc := 31) dX11_lies_31 (e_Mo_isThere h_this e31) iv_Mo_288 (rm_Mo_lies_Mo_isThere _ _ _) rfl h_this cf_11 rfl (Nat.le_of_ble_eq_true rfl) rfl ?_
      refine V_if_ne (pc := 34) (tgt := 39) dX11_lies_34 rfl (fun q => ?_) (fun q => ?_)
      · have h := ite_f q h
        refine V_iload_n (i := 2) (pc := 39) dX11_lies_39 rfl rfl ?_
        refine V_iconst (v := 2) (pc := 40) dX11_lies_40 rfl ?_
        refine V_icmp_ge (pc := 41) (tgt := 55) dX11_lies_41 rfl (fun q => ?_) (fun q => ?_)
        · have h := ite_t q h
          refine V_iload_n (i := 2) (pc := 55) dX11_lies_55 rfl rfl ?_
          refine V_iconst (v := 2) (pc := 56) dX11_lies_56 rfl ?_
          refine V_icmp_ne (pc := 57) (tgt := 68) dX11_lies_57 rfl (fun q => ?_) (fun q => ?_)
          · have h := ite_f q h
            refine V_aload_n (i := 0) (pc := 68) dX11_lies_68 rfl rfl ?_
            refine V_iload_n (i := 1) (pc := 69) dX11_lies_69 rfl rfl ?_
            refine V_iload_n (i := 2) (pc := 70) dX11_lies_70 rfl rfl ?_
            obtain ⟨r71, e71, h⟩ := bnd h
            refine V_invV1 (c := 11) (pc := 71) dX11_lies_71 (e_Mo_ofHeap h_this e71) iv_Mo_88 (rm_Mo_lies_Mo_ofHeap _ _ _) rfl h_this cf_11 rfl (Nat.le_of_ble_eq_true rfl) rfl ?_
            obtain rfl := Option.some.inj h
            exact E_i (pc := 74) dX11_lies_74 rfl hp
          · have h := ite_t q h
            refine V_aload_n (i := 0) (pc := 60) dX11_lies_60 rfl rfl ?_
            refine V_iload_n (i := 1) (pc := 61) dX11_lies_61 rfl rfl ?_
            obtain ⟨r62, e62, h⟩ := bnd h
            refine V_invV1 (c := 11) (pc := 62) dX11_lies_62 (e_Mo_tonsOf h_this e62) iv_Mo_314 (rm_Mo_lies_Mo_tonsOf _ _ _) rfl h_this cf_11 rfl (Nat.le_of_ble_eq_true rfl) rfl ?_
            refine V_goto (tgt := 74) (pc := 65) dX11_lies_65 rfl ?_
            obtain rfl := Option.some.inj h
            exact E_i (pc := 74) dX11_lies_74 rfl hp
        · have h := ite_f q h
          refine V_aload_n (i := 0) (pc := 44) dX11_lies_44 rfl rfl ?_
          refine V_iload_n (i := 1) (pc := 45) dX11_lies_45 rfl rfl ?_
          refine V_iconst (v := 1) (pc := 46) dX11_lies_46 rfl ?_
          refine V_iload_n (i := 2) (pc := 47) dX11_lies_47 rfl rfl ?_
          refine V_iadd (pc := 48) dX11_lies_48 ?_
          obtain ⟨r49, e49, h⟩ := bnd h
          refine V_invV1 (c := 11) (pc := 49) dX11_lies_49 (e_Mo_ofHeap h_this e49) iv_Mo_88 (rm_Mo_lies_Mo_ofHeap _ _ _) rfl h_this cf_11 rfl (Nat.le_of_ble_eq_true rfl) rfl ?_
          refine V_goto (tgt := 74) (pc := 52) dX11_lies_52 rfl ?_
          obtain rfl := Option.some.inj h
          exact E_i (pc := 74) dX11_lies_74 rfl hp
      · have h := ite_t q h
        refine V_iconst (v := (-1)) (pc := 37) dX11_lies_37 rfl ?_
        obtain rfl := Option.some.inj h
        exact E_i (pc := 38) dX11_lies_38 rfl hp
    · have h := ite_t q h
      refine V_bipush (v := (-2)) (pc := 26) dX11_lies_26 rfl ?_
      obtain rfl := Option.some.inj h
      exact E_i (pc := 28) dX11_lies_28 rfl hp
theorem e_Mo_lies {g : GE} {this : Nat} {v1 : Int32} {v2 : Int32} {m : Mem} (h_this : kd this = 12) {x : Int32} (h : Mo_lies this v1 v2 m = some x) : Ev g Y_Mo_lies [vr this, vi v1, vi v2] m (some (vi x)) m :=
  Ev_of 0 (by decide +kernel) rfl (Nat.le_of_ble_eq_true rfl) rfl (k_Mo_lies h_this h ⟨rfl, rfl⟩)
theorem k_Mo_nearOf_b71 {g : GE} {this : Nat} {v1 : Int32} {v2 : Int32} {v3 : Int32}  {m : Mem} (h_this : kd this = 12) {r : Option AV} {m' : Mem} {x : (Int32 × Int32) ⊕ (Int32)} (h : Mo_nearOf_b71 this v1 v2 v3 m = some x) (hp : (Sum.elim (fun s : Int32 × Int32 => V g Y_Mo_nearOf 4 [some (vr this), some (vi v1), some (vi s.1), some (vi s.2), none] [] m (PM g Y_Mo_nearOf r m')) (fun x : Int32 => r = some (vi x) ∧ m' = m)) x) : V g Y_Mo_nearOf 71 [some (vr this), some (vi v1), some (vi v2), some (vi v3), none] [] m (PM g Y_Mo_nearOf r m') := by
  unfold Mo_nearOf_b71 at h
  refine V_iinc (i := 3) (v := (v3 + 1)) (ls' := [some (vr this), some (vi v1), some (vi v2), some (vi (v3 + 1)), none]) (pc := 71) dX11_nearOf_71 rfl rfl (Nat.le_of_ble_eq_true rfl) rfl ?_
  refine V_goto (tgt := 4) (pc := 74) dX11_nearOf_74 rfl ?_
  obtain rfl := Option.some.inj h
  exact hp
theorem k_Mo_nearOf_b63 {g : GE} {this : Nat} {v1 : Int32} {v2 : Int32} {v3 : Int32}  {m : Mem} (h_this : kd this = 12) {r : Option AV} {m' : Mem} {x : (Int32 × Int32) ⊕ (Int32)} (h : Mo_nearOf_b63 this v1 v2 v3 m = some x) (hp : (Sum.elim (fun s : Int32 × Int32 => V g Y_Mo_nearOf 4 [some (vr this), some (vi v1), some (vi s.1), some (vi s.2), none] [] m (PM g Y_Mo_nearOf r m')) (fun x : Int32 => r = some (vi x) ∧ m' = m)) x) : V g Y_Mo_nearOf 63 [some (vr this), some (vi v1), some (vi v2), some (vi v3), none] [] m (PM g Y_Mo_nearOf r m') := by
  unfold Mo_nearOf_b63 at h
  refine V_iload_n (i := 2) (pc := 63) dX11_nearOf_63 rfl rfl ?_
  refine V_aload_n (i := 0) (pc := 64) dX11_nearOf_64 rfl rfl ?_
  refine V_iload_n (i := 3) (pc := 65) dX11_nearOf_65 rfl rfl ?_
  obtain ⟨r66, e66, h⟩ := bnd h
  refine V_invV1 (c := 11) (pc := 66) dX11_nearOf_66 (e_Mo_tonsOf h_this e66) iv_Mo_314 (rm_Mo_nearOf_Mo_tonsOf _ _ _) rfl h_this cf_11 rfl (Nat.le_of_ble_eq_true rfl) rfl ?_
  refine V_iadd (pc := 69) dX11_nearOf_69 ?_
  refine V_istore_n (i := 2) (ls' := [some (vr this), some (vi v1), some (vi (v2 + r66)), some (vi v3), none]) (pc := 70) dX11_nearOf_70 rfl (Nat.le_of_ble_eq_true rfl) rfl ?_
  exact k_Mo_nearOf_b71 h_this h hp
theorem k_Mo_nearOf_b26 {g : GE} {this : Nat} {v1 : Int32} {v2 : Int32} {v3 : Int32} {k1 : Int32} {k2 : Int32}  {m : Mem} (h_this : kd this = 12) {r : Option AV} {m' : Mem} {x : (Int32 × Int32) ⊕ (Int32)} (h : Mo_nearOf_b26 this v1 v2 v3 k1 k2 m = some x) (hp : (Sum.elim (fun s : Int32 × Int32 => V g Y_Mo_nearOf 4 [some (vr this), some (vi v1), some (vi s.1), some (vi s.2), none] [] m (PM g Y_Mo_nearOf r m')) (fun x : Int32 => r = some (vi x) ∧ m' = m)) x) : V g Y_Mo_nearOf 26 [some (vr this), some (vi v1), some (vi v2), some (vi v3), none] [vi k2, vi k1, vr this] m (PM g Y_Mo_nearOf r m') := by
  unfold Mo_nearOf_b26 at h
  obtain ⟨r26, e26, h⟩ := bnd h
  refine V_invV1 (c := 11) (pc := 26) dX11_nearOf_26 (e_Mo_ofHeap h_this e26) iv_Mo_88 (rm_Mo_nearOf_Mo_ofHeap _ _ _) rfl h_this cf_11 rfl (Nat.le_of_ble_eq_true rfl) rfl ?_
  refine V_istore (i := 4) (ls' := [some (vr this), some (vi v1), some (vi v2), some (vi v3), some (vi r26)]) (pc := 29) dX11_nearOf_29 (Nat.le_of_ble_eq_true rfl) rfl ?_
  refine V_aload_n (i := 0) (pc := 31) dX11_nearOf_31 rfl rfl ?_
  refine V_iload_n (i := 3) (pc := 32) dX11_nearOf_32 rfl rfl ?_
  obtain ⟨r33, e33, h⟩ := bnd h
  refine V_invV1 (c := 11) (pc := 33) dX11_nearOf_33 (e_Mo_isThere h_this e33) iv_Mo_288 (rm_Mo_nearOf_Mo_isThere _ _ _) rfl h_this cf_11 rfl (Nat.le_of_ble_eq_true rfl) rfl ?_
  refine V_if_eq (pc := 36) (tgt := 71) dX11_nearOf_36 rfl (fun q => ?_) (fun q => ?_)
  · have h := ite_t q h
    refine V_sub (ls' := [some (vr this), some (vi v1), some (vi v2), some (vi v3), none]) (And.intro rfl (And.intro rfl (And.intro rfl (And.intro rfl trivial)))) ?_
    exact k_Mo_nearOf_b71 h_this h hp
  · have h := ite_f q h
    refine V_iload (i := 4) (pc := 39) dX11_nearOf_39 rfl ?_
    refine V_aload_n (i := 0) (pc := 41) dX11_nearOf_41 rfl rfl ?_
    refine V_iload_n (i := 1) (pc := 42) dX11_nearOf_42 rfl rfl ?_
    refine V_iconst (v := 1) (pc := 43) dX11_nearOf_43 rfl ?_
    obtain ⟨r44, e44, h⟩ := bnd h
    refine V_invV1 (c := 11) (pc := 44) dX11_nearOf_44 (e_Mo_ofCrack h_this e44) iv_Mo_317 (rm_Mo_nearOf_Mo_ofCrack _ _ _) rfl h_this cf_11 rfl (Nat.le_of_ble_eq_true rfl) rfl ?_
    refine V_icmp_eq (pc := 47) (tgt := 63) dX11_nearOf_47 rfl (fun q => ?_) (fun q => ?_)
    · have h := ite_t q h
      refine V_sub (ls' := [some (vr this), some (vi v1), some (vi v2), some (vi v3), none]) (And.intro rfl (And.intro rfl (And.intro rfl (And.intro rfl trivial)))) ?_
      exact k_Mo_nearOf_b63 h_this h hp
    · have h := ite_f q h
      refine V_iload (i := 4) (pc := 50) dX11_nearOf_50 rfl ?_
      refine V_aload_n (i := 0) (pc := 52) dX11_nearOf_52 rfl rfl ?_
      refine V_iload_n (i := 1) (pc := 53) dX11_nearOf_53 rfl rfl ?_
      refine V_iconst (v := 1) (pc := 54) dX11_nearOf_54 rfl ?_
      obtain ⟨r55, e55, h⟩ := bnd h
      refine V_invV1 (c := 11) (pc := 55) dX11_nearOf_55 (e_Mo_ofCrack h_this e55) iv_Mo_317 (rm_Mo_nearOf_Mo_ofCrack _ _ _) rfl h_this cf_11 rfl (Nat.le_of_ble_eq_true rfl) rfl ?_
      refine V_iconst (v := 1) (pc := 58) dX11_nearOf_58 rfl ?_
      refine V_isub (pc := 59) dX11_nearOf_59 ?_
      refine V_icmp_ne (pc := 60) (tgt := 71) dX11_nearOf_60 rfl (fun q => ?_) (fun q => ?_)
      · have h := ite_f q h
        refine V_sub (ls' := [some (vr this), some (vi v1), some (vi v2), some (vi v3), none]) (And.intro rfl (And.intro rfl (And.intro rfl (And.intro rfl trivial)))) ?_
        exact k_Mo_nearOf_b71 h_this h hp
      · have h := ite_t q h
        refine V_sub (ls' := [some (vr this), some (vi v1), some (vi v2), some (vi v3), none]) (And.intro rfl (And.intro rfl (And.intro rfl (And.intro rfl trivial)))) ?_
        exact k_Mo_nearOf_b63 h_this h hp
theorem k_Mo_nearOf_l4 {g : GE} {this : Nat} {v1 : Int32} {v2 : Int32} {v3 : Int32} {m : Mem} (h_this : kd this = 12) {r : Option AV} {m' : Mem} {x : (Int32 × Int32) ⊕ (Int32)} (h : Mo_nearOf_l4 this v1 v2 v3 m = some x) (hp : (Sum.elim (fun s : Int32 × Int32 => V g Y_Mo_nearOf 4 [some (vr this), some (vi v1), some (vi s.1), some (vi s.2), none] [] m (PM g Y_Mo_nearOf r m')) (fun x : Int32 => r = some (vi x) ∧ m' = m)) x) : V g Y_Mo_nearOf 4 [some (vr this), some (vi v1), some (vi v2), some (vi v3), none] [] m (PM g Y_Mo_nearOf r m') := by
  unfold Mo_nearOf_l4 at h
  refine V_iload_n (i := 3) (pc := 4) dX11_nearOf_4 rfl rfl ?_
  refine V_bipush (v := 8) (pc := 5) dX11_nearOf_5 rfl ?_
  refine V_icmp_ge (pc := 7) (tgt := 77) dX11_nearOf_7 rfl (fun q => ?_) (fun q => ?_)
  · have h := ite_t q h
    obtain ⟨y1, hu1, rfl⟩ := up_e h
    have h := hu1
    refine V_iload_n (i := 2) (pc := 77) dX11_nearOf_77 rfl rfl ?_
    obtain rfl := Option.some.inj h
    exact E_i (pc := 78) dX11_nearOf_78 rfl hp
  · have h := ite_f q h
    refine V_aload_n (i := 0) (pc := 10) dX11_nearOf_10 rfl rfl ?_
    refine V_iload_n (i := 3) (pc := 11) dX11_nearOf_11 rfl rfl ?_
    refine V_aload_n (i := 0) (pc := 12) dX11_nearOf_12 rfl rfl ?_
    refine V_iload_n (i := 1) (pc := 13) dX11_nearOf_13 rfl rfl ?_
    refine V_iconst (v := 0) (pc := 14) dX11_nearOf_14 rfl ?_
    obtain ⟨r15, e15, h⟩ := bnd h
    refine V_invV1 (c := 11) (pc := 15) dX11_nearOf_15 (e_Mo_ofCrack h_this e15) iv_Mo_317 (rm_Mo_nearOf_Mo_ofCrack _ _ _) rfl h_this cf_11 rfl (Nat.le_of_ble_eq_true rfl) rfl ?_
    refine V_if_ne (pc := 18) (tgt := 25) dX11_nearOf_18 rfl (fun q => ?_) (fun q => ?_)
    · have h := ite_f q h
      refine V_iconst (v := 2) (pc := 25) dX11_nearOf_25 rfl ?_
      exact k_Mo_nearOf_b26 h_this h hp
    · have h := ite_t q h
      refine V_iconst (v := 1) (pc := 21) dX11_nearOf_21 rfl ?_
      refine V_goto (tgt := 26) (pc := 22) dX11_nearOf_22 rfl ?_
      exact k_Mo_nearOf_b26 h_this h hp
theorem k_Mo_nearOf {g : GE} {this : Nat} {v1 : Int32} {m : Mem} (h_this : kd this = 12) {r : Option AV} {m' : Mem} {x : Int32} (h : Mo_nearOf this v1 m = some x) (hp : (fun x : Int32 => r = some (vi x) ∧ m' = m) x) : V g Y_Mo_nearOf 0 [some (vr this), some (vi v1), none, none, none] [] m (PM g Y_Mo_nearOf r m') := by
  unfold Mo_nearOf at h
  refine V_iconst (v := 0) (pc := 0) dX11_nearOf_0 rfl ?_
  refine V_istore_n (i := 2) (ls' := [some (vr this), some (vi v1), some (vi 0), none, none]) (pc := 1) dX11_nearOf_1 rfl (Nat.le_of_ble_eq_true rfl) rfl ?_
  refine V_iconst (v := 0) (pc := 2) dX11_nearOf_2 rfl ?_
  refine V_istore_n (i := 3) (ls' := [some (vr this), some (vi v1), some (vi 0), some (vi 0), none]) (pc := 3) dX11_nearOf_3 rfl (Nat.le_of_ble_eq_true rfl) rfl ?_
  exact loop_V (A := fun s : Int32 × Int32 => V g Y_Mo_nearOf 4 [some (vr this), some (vi v1), some (vi s.1), some (vi s.2), none] [] m (PM g Y_Mo_nearOf r m')) (fun s x h hp => k_Mo_nearOf_l4 h_this h hp) (0, 0) _ h hp
theorem e_Mo_nearOf {g : GE} {this : Nat} {v1 : Int32} {m : Mem} (h_this : kd this = 12) {x : Int32} (h : Mo_nearOf this v1 m = some x) : Ev g Y_Mo_nearOf [vr this, vi v1] m (some (vi x)) m :=
  Ev_of 3 (by decide +kernel) rfl (Nat.le_of_ble_eq_true rfl) rfl (k_Mo_nearOf h_this h ⟨rfl, rfl⟩)
theorem k_Mo_oddsBy_b70 {g : GE} {this : Nat} {k0 : Int32} {k1 : Int32}  {m : Mem} (h_this : kd this = 12) {r : Option AV} {m' : Mem} {x : Int32} (h : Mo_oddsBy_b70 this k0 k1 m = some x) (hp : (fun x : Int32 => r = some (vi x) ∧ m' = m) x) : V g Y_Mo_oddsBy 70 [none, none, none, none] [vi k1, vi k0] m (PM g Y_Mo_oddsBy r m') := by
  unfold Mo_oddsBy_b70 at h
  refine V_mmin (pc := 70) dX11_oddsBy_70 ma_Mo_123 (rmM_Mo_oddsBy _ _ _) (Nat.le_of_ble_eq_true rfl) ?_
  obtain rfl := Option.some.inj h
  exact E_i (pc := 73) dX11_oddsBy_73 rfl hp
theorem k_Mo_oddsBy {g : GE} {this : Nat} {v1 : Int32} {v2 : Int32} {m : Mem} (h_this : kd this = 12) {r : Option AV} {m' : Mem} {x : Int32} (h : Mo_oddsBy this v1 v2 m = some x) (hp : (fun x : Int32 => r = some (vi x) ∧ m' = m) x) : V g Y_Mo_oddsBy 0 [some (vr this), some (vi v1), some (vi v2), none] [] m (PM g Y_Mo_oddsBy r m') := by
  unfold Mo_oddsBy at h
  refine V_aload_n (i := 0) (pc := 0) dX11_oddsBy_0 rfl rfl ?_
  refine V_iload_n (i := 1) (pc := 1) dX11_oddsBy_1 rfl rfl ?_
  refine V_iconst (v := 2) (pc := 2) dX11_oddsBy_2 rfl ?_
  obtain ⟨r3, e3, h⟩ := bnd h
  refine V_invV1 (c := 11) (pc := 3) dX11_oddsBy_3 (e_Mo_ofCrack h_this e3) iv_Mo_317 (rm_Mo_oddsBy_Mo_ofCrack _ _ _) rfl h_this cf_11 rfl (Nat.le_of_ble_eq_true rfl) rfl ?_
  refine V_aload_n (i := 0) (pc := 6) dX11_oddsBy_6 rfl rfl ?_
  refine V_getR (b := (this + 1)) (pc := 7) dX11_oddsBy_7 fl_Mo_13 h_this rfl rfl ?_
  refine V_bipush (v := 8) (pc := 10) dX11_oddsBy_10 rfl ?_
  obtain ⟨hg12, h⟩ := gd_e h
  refine V_iald (pc := 12) dX11_oddsBy_12 (kf_11_1 h_this) (af_11_1 h_this) hg12 ?_
  refine V_aload_n (i := 0) (pc := 13) dX11_oddsBy_13 rfl rfl ?_
  refine V_iload_n (i := 1) (pc := 14) dX11_oddsBy_14 rfl rfl ?_
  refine V_iconst (v := 3) (pc := 15) dX11_oddsBy_15 rfl ?_
  obtain ⟨r16, e16, h⟩ := bnd h
  refine V_invV1 (c := 11) (pc := 16) dX11_oddsBy_16 (e_Mo_ofCrack h_this e16) iv_Mo_317 (rm_Mo_oddsBy_Mo_ofCrack _ _ _) rfl h_this cf_11 rfl (Nat.le_of_ble_eq_true rfl) rfl ?_
  refine V_imul (pc := 19) dX11_oddsBy_19 ?_
  refine V_iadd (pc := 20) dX11_oddsBy_20 ?_
  refine V_aload_n (i := 0) (pc := 21) dX11_oddsBy_21 rfl rfl ?_
  refine V_getR (b := (this + 1)) (pc := 22) dX11_oddsBy_22 fl_Mo_13 h_this rfl rfl ?_
  refine V_bipush (v := 9) (pc := 25) dX11_oddsBy_25 rfl ?_
  obtain ⟨hg27, h⟩ := gd_e h
  refine V_iald (pc := 27) dX11_oddsBy_27 (kf_11_1 h_this) (af_11_1 h_this) hg27 ?_
  refine V_aload_n (i := 0) (pc := 28) dX11_oddsBy_28 rfl rfl ?_
  refine V_iload_n (i := 1) (pc := 29) dX11_oddsBy_29 rfl rfl ?_
  refine V_iconst (v := 4) (pc := 30) dX11_oddsBy_30 rfl ?_
  obtain ⟨r31, e31, h⟩ := bnd h
  refine V_invV1 (c := 11) (pc := 31) dX11_oddsBy_31 (e_Mo_ofCrack h_this e31) iv_Mo_317 (rm_Mo_oddsBy_Mo_ofCrack _ _ _) rfl h_this cf_11 rfl (Nat.le_of_ble_eq_true rfl) rfl ?_
  refine V_imul (pc := 34) dX11_oddsBy_34 ?_
  refine V_iadd (pc := 35) dX11_oddsBy_35 ?_
  refine V_aload_n (i := 0) (pc := 36) dX11_oddsBy_36 rfl rfl ?_
  refine V_iload_n (i := 1) (pc := 37) dX11_oddsBy_37 rfl rfl ?_
  refine V_iconst (v := 5) (pc := 38) dX11_oddsBy_38 rfl ?_
  obtain ⟨r39, e39, h⟩ := bnd h
  refine V_invV1 (c := 11) (pc := 39) dX11_oddsBy_39 (e_Mo_ofCrack h_this e39) iv_Mo_317 (rm_Mo_oddsBy_Mo_ofCrack _ _ _) rfl h_this cf_11 rfl (Nat.le_of_ble_eq_true rfl) rfl ?_
  refine V_iload_n (i := 2) (pc := 42) dX11_oddsBy_42 rfl rfl ?_
  refine V_imul (pc := 43) dX11_oddsBy_43 ?_
  refine V_bipush (v := 100) (pc := 44) dX11_oddsBy_44 rfl ?_
  refine V_idiv (pc := 46) dX11_oddsBy_46 (by decide) ?_
  refine V_iadd (pc := 47) dX11_oddsBy_47 ?_
  refine V_istore_n (i := 3) (ls' := [some (vr this), some (vi v1), some (vi v2), some (vi (((r3 + ((rI m (this + 1) (ix 8)) * r16)) + ((rI m (this + 1) (ix 9)) * r31)) + ((r39 * v2) / 100)))]) (pc := 48) dX11_oddsBy_48 rfl (Nat.le_of_ble_eq_true rfl) rfl ?_
  refine V_sipush (v := 10000) (pc := 49) dX11_oddsBy_49 rfl ?_
  refine V_aload_n (i := 0) (pc := 52) dX11_oddsBy_52 rfl rfl ?_
  refine V_iload_n (i := 1) (pc := 53) dX11_oddsBy_53 rfl rfl ?_
  refine V_bipush (v := 6) (pc := 54) dX11_oddsBy_54 rfl ?_
  obtain ⟨r56, e56, h⟩ := bnd h
  refine V_invV1 (c := 11) (pc := 56) dX11_oddsBy_56 (e_Mo_ofCrack h_this e56) iv_Mo_317 (rm_Mo_oddsBy_Mo_ofCrack _ _ _) rfl h_this cf_11 rfl (Nat.le_of_ble_eq_true rfl) rfl ?_
  refine V_iconst (v := 1) (pc := 59) dX11_oddsBy_59 rfl ?_
  refine V_icmp_ne (pc := 60) (tgt := 69) dX11_oddsBy_60 rfl (fun q => ?_) (fun q => ?_)
  · have h := ite_f q h
    refine V_iload_n (i := 3) (pc := 69) dX11_oddsBy_69 rfl rfl ?_
    refine V_sub (ls' := [none, none, none, none]) trivial ?_
    exact k_Mo_oddsBy_b70 h_this h hp
  · have h := ite_t q h
    refine V_iconst (v := 2) (pc := 63) dX11_oddsBy_63 rfl ?_
    refine V_iload_n (i := 3) (pc := 64) dX11_oddsBy_64 rfl rfl ?_
    refine V_imul (pc := 65) dX11_oddsBy_65 ?_
    refine V_goto (tgt := 70) (pc := 66) dX11_oddsBy_66 rfl ?_
    refine V_sub (ls' := [none, none, none, none]) trivial ?_
    exact k_Mo_oddsBy_b70 h_this h hp
theorem e_Mo_oddsBy {g : GE} {this : Nat} {v1 : Int32} {v2 : Int32} {m : Mem} (h_this : kd this = 12) {x : Int32} (h : Mo_oddsBy this v1 v2 m = some x) : Ev g Y_Mo_oddsBy [vr this, vi v1, vi v2] m (some (vi x)) m :=
  Ev_of 1 (by decide +kernel) rfl (Nat.le_of_ble_eq_true rfl) rfl (k_Mo_oddsBy h_this h ⟨rfl, rfl⟩)
theorem k_Mo_oddsOf {g : GE} {this : Nat} {v1 : Int32} {m : Mem} (h_this : kd this = 12) {r : Option AV} {m' : Mem} {x : Int32} (h : Mo_oddsOf this v1 m = some x) (hp : (fun x : Int32 => r = some (vi x) ∧ m' = m) x) : V g Y_Mo_oddsOf 0 [some (vr this), some (vi v1)] [] m (PM g Y_Mo_oddsOf r m') := by
  unfold Mo_oddsOf at h
  refine V_aload_n (i := 0) (pc := 0) dX11_oddsOf_0 rfl rfl ?_
  refine V_iload_n (i := 1) (pc := 1) dX11_oddsOf_1 rfl rfl ?_
  refine V_aload_n (i := 0) (pc := 2) dX11_oddsOf_2 rfl rfl ?_
  refine V_iload_n (i := 1) (pc := 3) dX11_oddsOf_3 rfl rfl ?_
  obtain ⟨r4, e4, h⟩ := bnd h
  refine V_invV1 (c := 11) (pc := 4) dX11_oddsOf_4 (e_Mo_nearOf h_this e4) iv_Mo_320 (rm_Mo_oddsOf_Mo_nearOf _ _ _) rfl h_this cf_11 rfl (Nat.le_of_ble_eq_true rfl) rfl ?_
  obtain ⟨r7, e7, h⟩ := bnd h
  refine V_invV1 (c := 11) (pc := 7) dX11_oddsOf_7 (e_Mo_oddsBy h_this e7) iv_Mo_323 (rm_Mo_oddsOf_Mo_oddsBy _ _ _) rfl h_this cf_11 rfl (Nat.le_of_ble_eq_true rfl) rfl ?_
  obtain rfl := Option.some.inj h
  exact E_i (pc := 10) dX11_oddsOf_10 rfl hp
theorem e_Mo_oddsOf {g : GE} {this : Nat} {v1 : Int32} {m : Mem} (h_this : kd this = 12) {x : Int32} (h : Mo_oddsOf this v1 m = some x) : Ev g Y_Mo_oddsOf [vr this, vi v1] m (some (vi x)) m :=
  Ev_of 0 (by decide +kernel) rfl (Nat.le_of_ble_eq_true rfl) rfl (k_Mo_oddsOf h_this h ⟨rfl, rfl⟩)
theorem k_Mo_near {g : GE} {this : Nat} {v1 : Int32} {m : Mem} (h_this : kd this = 12) {r : Option AV} {m' : Mem} {x : Int32} (h : Mo_near this v1 m = some x) (hp : (fun x : Int32 => r = some (vi x) ∧ m' = m) x) : V g Y_Mo_near 0 [some (vr this), some (vi v1)] [] m (PM g Y_Mo_near r m') := by
  unfold Mo_near at h
  refine V_aload_n (i := 0) (pc := 0) dX11_near_0 rfl rfl ?_
  refine V_iload_n (i := 1) (pc := 1) dX11_near_1 rfl rfl ?_
  obtain ⟨r2, e2, h⟩ := bnd h
  refine V_invV1 (c := 11) (pc := 2) dX11_near_2 (e_Mo_isCrack h_this e2) iv_Mo_326 (rm_Mo_near_Mo_isCrack _ _ _) rfl h_this cf_11 rfl (Nat.le_of_ble_eq_true rfl) rfl ?_
  refine V_if_eq (pc := 5) (tgt := 16) dX11_near_5 rfl (fun q => ?_) (fun q => ?_)
  · have h := ite_t q h
    refine V_bipush (v := (-2)) (pc := 16) dX11_near_16 rfl ?_
    obtain rfl := Option.some.inj h
    exact E_i (pc := 18) dX11_near_18 rfl hp
  · have h := ite_f q h
    refine V_aload_n (i := 0) (pc := 8) dX11_near_8 rfl rfl ?_
    refine V_iload_n (i := 1) (pc := 9) dX11_near_9 rfl rfl ?_
    obtain ⟨r10, e10, h⟩ := bnd h
    refine V_invV1 (c := 11) (pc := 10) dX11_near_10 (e_Mo_nearOf h_this e10) iv_Mo_320 (rm_Mo_near_Mo_nearOf _ _ _) rfl h_this cf_11 rfl (Nat.le_of_ble_eq_true rfl) rfl ?_
    refine V_goto (tgt := 18) (pc := 13) dX11_near_13 rfl ?_
    obtain rfl := Option.some.inj h
    exact E_i (pc := 18) dX11_near_18 rfl hp
theorem e_Mo_near {g : GE} {this : Nat} {v1 : Int32} {m : Mem} (h_this : kd this = 12) {x : Int32} (h : Mo_near this v1 m = some x) : Ev g Y_Mo_near [vr this, vi v1] m (some (vi x)) m :=
  Ev_of 0 (by decide +kernel) rfl (Nat.le_of_ble_eq_true rfl) rfl (k_Mo_near h_this h ⟨rfl, rfl⟩)
theorem k_Mo_odds {g : GE} {this : Nat} {v1 : Int32} {m : Mem} (h_this : kd this = 12) {r : Option AV} {m' : Mem} {x : Int32} (h : Mo_odds this v1 m = some x) (hp : (fun x : Int32 => r = some (vi x) ∧ m' = m) x) : V g Y_Mo_odds 0 [some (vr this), some (vi v1)] [] m (PM g Y_Mo_odds r m') := by
  unfold Mo_odds at h
  refine V_aload_n (i := 0) (pc := 0) dX11_odds_0 rfl rfl ?_
  refine V_iload_n (i := 1) (pc := 1) dX11_odds_1 rfl rfl ?_
  obtain ⟨r2, e2, h⟩ := bnd h
  refine V_invV1 (c := 11) (pc := 2) dX11_odds_2 (e_Mo_isCrack h_this e2) iv_Mo_326 (rm_Mo_odds_Mo_isCrack _ _ _) rfl h_this cf_11 rfl (Nat.le_of_ble_eq_true rfl) rfl ?_
  refine V_if_eq (pc := 5) (tgt := 16) dX11_odds_5 rfl (fun q => ?_) (fun q => ?_)
  · have h := ite_t q h
    refine V_bipush (v := (-2)) (pc := 16) dX11_odds_16 rfl ?_
    obtain rfl := Option.some.inj h
    exact E_i (pc := 18) dX11_odds_18 rfl hp
  · have h := ite_f q h
    refine V_aload_n (i := 0) (pc := 8) dX11_odds_8 rfl rfl ?_
    refine V_iload_n (i := 1) (pc := 9) dX11_odds_9 rfl rfl ?_
    obtain ⟨r10, e10, h⟩ := bnd h
    refine V_invV1 (c := 11) (pc := 10) dX11_odds_10 (e_Mo_oddsOf h_this e10) iv_Mo_329 (rm_Mo_odds_Mo_oddsOf _ _ _) rfl h_this cf_11 rfl (Nat.le_of_ble_eq_true rfl) rfl ?_
    refine V_goto (tgt := 18) (pc := 13) dX11_odds_13 rfl ?_
    obtain rfl := Option.some.inj h
    exact E_i (pc := 18) dX11_odds_18 rfl hp
theorem e_Mo_odds {g : GE} {this : Nat} {v1 : Int32} {m : Mem} (h_this : kd this = 12) {x : Int32} (h : Mo_odds this v1 m = some x) : Ev g Y_Mo_odds [vr this, vi v1] m (some (vi x)) m :=
  Ev_of 0 (by decide +kernel) rfl (Nat.le_of_ble_eq_true rfl) rfl (k_Mo_odds h_this h ⟨rfl, rfl⟩)
theorem k_Mo_pieceOf_b86 {g : GE} {this : Nat} {v1 : Int32} {v2 : Int32} {v3 : Int32} {v4 : Int32} {v5 : Int32}  {m : Mem} (h_this : kd this = 12) {r : Option AV} {m' : Mem} {x : (Int32 × Int32) ⊕ (Int32)} (h : Mo_pieceOf_b86 this v1 v2 v3 v4 v5 m = some x) (hp : (Sum.elim (fun s : Int32 × Int32 => V g Y_Mo_pieceOf 6 [some (vr this), some (vi v1), some (vi v2), some (vi v3), some (vi s.1), some (vi s.2), none] [] m (PM g Y_Mo_pieceOf r m')) (fun x : Int32 => r = some (vi x) ∧ m' = m)) x) : V g Y_Mo_pieceOf 86 [some (vr this), some (vi v1), some (vi v2), some (vi v3), some (vi v4), some (vi v5), none] [] m (PM g Y_Mo_pieceOf r m') := by
  unfold Mo_pieceOf_b86 at h
  refine V_iinc (i := 5) (v := (v5 + 1)) (ls' := [some (vr this), some (vi v1), some (vi v2), some (vi v3), some (vi v4), some (vi (v5 + 1)), none]) (pc := 86) dX11_pieceOf_86 rfl rfl (Nat.le_of_ble_eq_true rfl) rfl ?_
  refine V_goto (tgt := 6) (pc := 89) dX11_pieceOf_89 rfl ?_
  obtain rfl := Option.some.inj h
  exact hp
theorem k_Mo_pieceOf_b83 {g : GE} {this : Nat} {v1 : Int32} {v2 : Int32} {v3 : Int32} {v5 : Int32} {k0 : Int32} {k1 : Int32}  {m : Mem} (h_this : kd this = 12) {r : Option AV} {m' : Mem} {x : (Int32 × Int32) ⊕ (Int32)} (h : Mo_pieceOf_b83 this v1 v2 v3 v5 k0 k1 m = some x) (hp : (Sum.elim (fun s : Int32 × Int32 => V g Y_Mo_pieceOf 6 [some (vr this), some (vi v1), some (vi v2), some (vi v3), some (vi s.1), some (vi s.2), none] [] m (PM g Y_Mo_pieceOf r m')) (fun x : Int32 => r = some (vi x) ∧ m' = m)) x) : V g Y_Mo_pieceOf 83 [some (vr this), some (vi v1), some (vi v2), some (vi v3), none, some (vi v5), none] [vi k1, vi k0] m (PM g Y_Mo_pieceOf r m') := by
  unfold Mo_pieceOf_b83 at h
  refine V_iadd (pc := 83) dX11_pieceOf_83 ?_
  refine V_istore (i := 4) (ls' := [some (vr this), some (vi v1), some (vi v2), some (vi v3), some (vi (k0 + k1)), some (vi v5), none]) (pc := 84) dX11_pieceOf_84 (Nat.le_of_ble_eq_true rfl) rfl ?_
  exact k_Mo_pieceOf_b86 h_this h hp
theorem k_Mo_pieceOf_b65 {g : GE} {this : Nat} {v1 : Int32} {v2 : Int32} {v3 : Int32} {v5 : Int32} {v6 : Int32} {k0 : Int32} {k1 : Int32} {k2 : Int32}  {m : Mem} (h_this : kd this = 12) {r : Option AV} {m' : Mem} {x : (Int32 × Int32) ⊕ (Int32)} (h : Mo_pieceOf_b65 this v1 v2 v3 v5 v6 k0 k1 k2 m = some x) (hp : (Sum.elim (fun s : Int32 × Int32 => V g Y_Mo_pieceOf 6 [some (vr this), some (vi v1), some (vi v2), some (vi v3), some (vi s.1), some (vi s.2), none] [] m (PM g Y_Mo_pieceOf r m')) (fun x : Int32 => r = some (vi x) ∧ m' = m)) x) : V g Y_Mo_pieceOf 65 [some (vr this), some (vi v1), some (vi v2), some (vi v3), none, some (vi v5), some (vi v6)] [vi k2, vi k1, vi k0] m (PM g Y_Mo_pieceOf r m') := by
  unfold Mo_pieceOf_b65 at h
  refine V_icmp_gt (pc := 65) (tgt := 82) dX11_pieceOf_65 rfl (fun q => ?_) (fun q => ?_)
  · have h := ite_t q h
    refine V_iconst (v := 0) (pc := 82) dX11_pieceOf_82 rfl ?_
    refine V_sub (ls' := [some (vr this), some (vi v1), some (vi v2), some (vi v3), none, some (vi v5), none]) (And.intro rfl (And.intro rfl (And.intro rfl (And.intro rfl (And.intro rfl trivial))))) ?_
    exact k_Mo_pieceOf_b83 h_this h hp
  · have h := ite_f q h
    refine V_iload (i := 6) (pc := 68) dX11_pieceOf_68 rfl ?_
    refine V_if_eq (pc := 70) (tgt := 77) dX11_pieceOf_70 rfl (fun q => ?_) (fun q => ?_)
    · have h := ite_t q h
      refine V_bipush (v := 8) (pc := 77) dX11_pieceOf_77 rfl ?_
      refine V_goto (tgt := 83) (pc := 79) dX11_pieceOf_79 rfl ?_
      refine V_sub (ls' := [some (vr this), some (vi v1), some (vi v2), some (vi v3), none, some (vi v5), none]) (And.intro rfl (And.intro rfl (And.intro rfl (And.intro rfl (And.intro rfl trivial))))) ?_
      exact k_Mo_pieceOf_b83 h_this h hp
    · have h := ite_f q h
      refine V_iconst (v := 1) (pc := 73) dX11_pieceOf_73 rfl ?_
      refine V_goto (tgt := 83) (pc := 74) dX11_pieceOf_74 rfl ?_
      refine V_sub (ls' := [some (vr this), some (vi v1), some (vi v2), some (vi v3), none, some (vi v5), none]) (And.intro rfl (And.intro rfl (And.intro rfl (And.intro rfl (And.intro rfl trivial))))) ?_
      exact k_Mo_pieceOf_b83 h_this h hp
theorem k_Mo_pieceOf_b44 {g : GE} {this : Nat} {v1 : Int32} {v2 : Int32} {v3 : Int32} {v4 : Int32} {v5 : Int32} {k0 : Int32}  {m : Mem} (h_this : kd this = 12) {r : Option AV} {m' : Mem} {x : (Int32 × Int32) ⊕ (Int32)} (h : Mo_pieceOf_b44 this v1 v2 v3 v4 v5 k0 m = some x) (hp : (Sum.elim (fun s : Int32 × Int32 => V g Y_Mo_pieceOf 6 [some (vr this), some (vi v1), some (vi v2), some (vi v3), some (vi s.1), some (vi s.2), none] [] m (PM g Y_Mo_pieceOf r m')) (fun x : Int32 => r = some (vi x) ∧ m' = m)) x) : V g Y_Mo_pieceOf 44 [some (vr this), some (vi v1), some (vi v2), some (vi v3), some (vi v4), some (vi v5), none] [vi k0] m (PM g Y_Mo_pieceOf r m') := by
  unfold Mo_pieceOf_b44 at h
  refine V_istore (i := 6) (ls' := [some (vr this), some (vi v1), some (vi v2), some (vi v3), some (vi v4), some (vi v5), some (vi k0)]) (pc := 44) dX11_pieceOf_44 (Nat.le_of_ble_eq_true rfl) rfl ?_
  refine V_iload (i := 4) (pc := 46) dX11_pieceOf_46 rfl ?_
  refine V_aload_n (i := 0) (pc := 48) dX11_pieceOf_48 rfl rfl ?_
  refine V_iload (i := 5) (pc := 49) dX11_pieceOf_49 rfl ?_
  refine V_iconst (v := 1) (pc := 51) dX11_pieceOf_51 rfl ?_
  obtain ⟨r52, e52, h⟩ := bnd h
  refine V_invV1 (c := 11) (pc := 52) dX11_pieceOf_52 (e_Mo_ofCrack h_this e52) iv_Mo_317 (rm_Mo_pieceOf_Mo_ofCrack _ _ _) rfl h_this cf_11 rfl (Nat.le_of_ble_eq_true rfl) rfl ?_
  refine V_iload (i := 6) (pc := 55) dX11_pieceOf_55 rfl ?_
  refine V_if_eq (pc := 57) (tgt := 64) dX11_pieceOf_57 rfl (fun q => ?_) (fun q => ?_)
  · have h := ite_t q h
    refine V_iload_n (i := 3) (pc := 64) dX11_pieceOf_64 rfl rfl ?_
    refine V_sub (ls' := [some (vr this), some (vi v1), some (vi v2), some (vi v3), none, some (vi v5), some (vi k0)]) (And.intro rfl (And.intro rfl (And.intro rfl (And.intro rfl (And.intro rfl (And.intro rfl trivial)))))) ?_
    exact k_Mo_pieceOf_b65 h_this h hp
  · have h := ite_f q h
    refine V_iload_n (i := 2) (pc := 60) dX11_pieceOf_60 rfl rfl ?_
    refine V_goto (tgt := 65) (pc := 61) dX11_pieceOf_61 rfl ?_
    refine V_sub (ls' := [some (vr this), some (vi v1), some (vi v2), some (vi v3), none, some (vi v5), some (vi k0)]) (And.intro rfl (And.intro rfl (And.intro rfl (And.intro rfl (And.intro rfl (And.intro rfl trivial)))))) ?_
    exact k_Mo_pieceOf_b65 h_this h hp
theorem k_Mo_pieceOf_l6 {g : GE} {this : Nat} {v1 : Int32} {v2 : Int32} {v3 : Int32} {v4 : Int32} {v5 : Int32} {m : Mem} (h_this : kd this = 12) {r : Option AV} {m' : Mem} {x : (Int32 × Int32) ⊕ (Int32)} (h : Mo_pieceOf_l6 this v1 v2 v3 v4 v5 m = some x) (hp : (Sum.elim (fun s : Int32 × Int32 => V g Y_Mo_pieceOf 6 [some (vr this), some (vi v1), some (vi v2), some (vi v3), some (vi s.1), some (vi s.2), none] [] m (PM g Y_Mo_pieceOf r m')) (fun x : Int32 => r = some (vi x) ∧ m' = m)) x) : V g Y_Mo_pieceOf 6 [some (vr this), some (vi v1), some (vi v2), some (vi v3), some (vi v4), some (vi v5), none] [] m (PM g Y_Mo_pieceOf r m') := by
  unfold Mo_pieceOf_l6 at h
  refine V_iload (i := 5) (pc := 6) dX11_pieceOf_6 rfl ?_
  refine V_aload_n (i := 0) (pc := 8) dX11_pieceOf_8 rfl rfl ?_
  refine V_getR (b := (this + 1)) (pc := 9) dX11_pieceOf_9 fl_Mo_13 h_this rfl rfl ?_
  refine V_iconst (v := 5) (pc := 12) dX11_pieceOf_12 rfl ?_
  obtain ⟨hg13, h⟩ := gd_e h
  refine V_iald (pc := 13) dX11_pieceOf_13 (kf_11_1 h_this) (af_11_1 h_this) hg13 ?_
  refine V_icmp_ge (pc := 14) (tgt := 92) dX11_pieceOf_14 rfl (fun q => ?_) (fun q => ?_)
  · have h := ite_t q h
    obtain ⟨y1, hu1, rfl⟩ := up_e h
    have h := hu1
    refine V_iload (i := 4) (pc := 92) dX11_pieceOf_92 rfl ?_
    obtain rfl := Option.some.inj h
    exact E_i (pc := 94) dX11_pieceOf_94 rfl hp
  · have h := ite_f q h
    refine V_iload_n (i := 1) (pc := 17) dX11_pieceOf_17 rfl rfl ?_
    refine V_iload (i := 5) (pc := 18) dX11_pieceOf_18 rfl ?_
    obtain ⟨r20, e20, h⟩ := bnd h
    refine V_invS1 (pc := 20) dX11_pieceOf_20 (e_Mo_holds  e20) is_Mo_239 (rm_Mo_pieceOf_Mo_holds _ _ _) rfl (Nat.le_of_ble_eq_true rfl) rfl ?_
    refine V_if_ne (pc := 23) (tgt := 29) dX11_pieceOf_23 rfl (fun q => ?_) (fun q => ?_)
    · have h := ite_f q h
      refine V_aload_n (i := 0) (pc := 29) dX11_pieceOf_29 rfl rfl ?_
      refine V_iload (i := 5) (pc := 30) dX11_pieceOf_30 rfl ?_
      refine V_iconst (v := 0) (pc := 32) dX11_pieceOf_32 rfl ?_
      obtain ⟨r33, e33, h⟩ := bnd h
      refine V_invV1 (c := 11) (pc := 33) dX11_pieceOf_33 (e_Mo_ofCrack h_this e33) iv_Mo_317 (rm_Mo_pieceOf_Mo_ofCrack _ _ _) rfl h_this cf_11 rfl (Nat.le_of_ble_eq_true rfl) rfl ?_
      refine V_if_ne (pc := 36) (tgt := 43) dX11_pieceOf_36 rfl (fun q => ?_) (fun q => ?_)
      · have h := ite_f q h
        refine V_iconst (v := 0) (pc := 43) dX11_pieceOf_43 rfl ?_
        exact k_Mo_pieceOf_b44 h_this h hp
      · have h := ite_t q h
        refine V_iconst (v := 1) (pc := 39) dX11_pieceOf_39 rfl ?_
        refine V_goto (tgt := 44) (pc := 40) dX11_pieceOf_40 rfl ?_
        exact k_Mo_pieceOf_b44 h_this h hp
    · have h := ite_t q h
      refine V_goto (tgt := 86) (pc := 26) dX11_pieceOf_26 rfl ?_
      exact k_Mo_pieceOf_b86 h_this h hp
theorem k_Mo_pieceOf {g : GE} {this : Nat} {v1 : Int32} {v2 : Int32} {v3 : Int32} {m : Mem} (h_this : kd this = 12) {r : Option AV} {m' : Mem} {x : Int32} (h : Mo_pieceOf this v1 v2 v3 m = some x) (hp : (fun x : Int32 => r = some (vi x) ∧ m' = m) x) : V g Y_Mo_pieceOf 0 [some (vr this), some (vi v1), some (vi v2), some (vi v3), none, none, none] [] m (PM g Y_Mo_pieceOf r m') := by
  unfold Mo_pieceOf at h
  refine V_iconst (v := 0) (pc := 0) dX11_pieceOf_0 rfl ?_
  refine V_istore (i := 4) (ls' := [some (vr this), some (vi v1), some (vi v2), some (vi v3), some (vi 0), none, none]) (pc := 1) dX11_pieceOf_1 (Nat.le_of_ble_eq_true rfl) rfl ?_
  refine V_iconst (v := 0) (pc := 3) dX11_pieceOf_3 rfl ?_
  refine V_istore (i := 5) (ls' := [some (vr this), some (vi v1), some (vi v2), some (vi v3), some (vi 0), some (vi 0), none]) (pc := 4) dX11_pieceOf_4 (Nat.le_of_ble_eq_true rfl) rfl ?_
  exact loop_V (A := fun s : Int32 × Int32 => V g Y_Mo_pieceOf 6 [some (vr this), some (vi v1), some (vi v2), some (vi v3), some (vi s.1), some (vi s.2), none] [] m (PM g Y_Mo_pieceOf r m')) (fun s x h hp => k_Mo_pieceOf_l6 h_this h hp) (0, 0) _ h hp
theorem e_Mo_pieceOf {g : GE} {this : Nat} {v1 : Int32} {v2 : Int32} {v3 : Int32} {m : Mem} (h_this : kd this = 12) {x : Int32} (h : Mo_pieceOf this v1 v2 v3 m = some x) : Ev g Y_Mo_pieceOf [vr this, vi v1, vi v2, vi v3] m (some (vi x)) m :=
  Ev_of 3 (by decide +kernel) rfl (Nat.le_of_ble_eq_true rfl) rfl (k_Mo_pieceOf h_this h ⟨rfl, rfl⟩)
theorem k_Mo_piece {g : GE} {this : Nat} {v1 : Int32} {v2 : Int32} {v3 : Int32} {m : Mem} (h_this : kd this = 12) {r : Option AV} {m' : Mem} {x : Int32} (h : Mo_piece this v1 v2 v3 m = some x) (hp : (fun x : Int32 => r = some (vi x) ∧ m' = m) x) : V g Y_Mo_piece 0 [some (vr this), some (vi v1), some (vi v2), some (vi v3)] [] m (PM g Y_Mo_piece r m') := by
  unfold Mo_piece at h
  refine V_aload_n (i := 0) (pc := 0) dX11_piece_0 rfl rfl ?_
  refine V_iload_n (i := 1) (pc := 1) dX11_piece_1 rfl rfl ?_
  obtain ⟨r2, e2, h⟩ := bnd h
  refine V_invV1 (c := 11) (pc := 2) dX11_piece_2 (e_Mo_isSet h_this e2) iv_Mo_311 (rm_Mo_piece_Mo_isSet _ _ _) rfl h_this cf_11 rfl (Nat.le_of_ble_eq_true rfl) rfl ?_
  refine V_if_eq (pc := 5) (tgt := 27) dX11_piece_5 rfl (fun q => ?_) (fun q => ?_)
  · have h := ite_t q h
    refine V_bipush (v := (-2)) (pc := 27) dX11_piece_27 rfl ?_
    obtain rfl := Option.some.inj h
    exact E_i (pc := 29) dX11_piece_29 rfl hp
  · have h := ite_f q h
    refine V_aload_n (i := 0) (pc := 8) dX11_piece_8 rfl rfl ?_
    refine V_iload_n (i := 2) (pc := 9) dX11_piece_9 rfl rfl ?_
    refine V_iload_n (i := 3) (pc := 10) dX11_piece_10 rfl rfl ?_
    obtain ⟨r11, e11, h⟩ := bnd h
    refine V_invV1 (c := 11) (pc := 11) dX11_piece_11 (e_Mo_isCell h_this e11) iv_Mo_281 (rm_Mo_piece_Mo_isCell _ _ _) rfl h_this cf_11 rfl (Nat.le_of_ble_eq_true rfl) rfl ?_
    refine V_if_eq (pc := 14) (tgt := 27) dX11_piece_14 rfl (fun q => ?_) (fun q => ?_)
    · have h := ite_t q h
      refine V_bipush (v := (-2)) (pc := 27) dX11_piece_27 rfl ?_
      obtain rfl := Option.some.inj h
      exact E_i (pc := 29) dX11_piece_29 rfl hp
    · have h := ite_f q h
      refine V_aload_n (i := 0) (pc := 17) dX11_piece_17 rfl rfl ?_
      refine V_iload_n (i := 1) (pc := 18) dX11_piece_18 rfl rfl ?_
      refine V_iload_n (i := 2) (pc := 19) dX11_piece_19 rfl rfl ?_
      refine V_iload_n (i := 3) (pc := 20) dX11_piece_20 rfl rfl ?_
      obtain ⟨r21, e21, h⟩ := bnd h
      refine V_invV1 (c := 11) (pc := 21) dX11_piece_21 (e_Mo_pieceOf h_this e21) iv_Mo_332 (rm_Mo_piece_Mo_pieceOf _ _ _) rfl h_this cf_11 rfl (Nat.le_of_ble_eq_true rfl) rfl ?_
      refine V_goto (tgt := 29) (pc := 24) dX11_piece_24 rfl ?_
      obtain rfl := Option.some.inj h
      exact E_i (pc := 29) dX11_piece_29 rfl hp
theorem e_Mo_piece {g : GE} {this : Nat} {v1 : Int32} {v2 : Int32} {v3 : Int32} {m : Mem} (h_this : kd this = 12) {x : Int32} (h : Mo_piece this v1 v2 v3 m = some x) : Ev g Y_Mo_piece [vr this, vi v1, vi v2, vi v3] m (some (vi x)) m :=
  Ev_of 0 (by decide +kernel) rfl (Nat.le_of_ble_eq_true rfl) rfl (k_Mo_piece h_this h ⟨rfl, rfl⟩)
theorem k_Mo_pieces_l73 {g : GE} {this : Nat} {v2 : Int64} {v4 : Int32} {v5 : Int32} {m : Mem} (h_this : kd this = 12) {r : Option AV} {m' : Mem} {x : (Int32 × Int32) ⊕ (Int32)} (h : Mo_pieces_l73 this v2 v4 v5 m = some x) (hp : (Sum.elim (fun s : Int32 × Int32 => V g Y_Mo_pieces 73 [none, none, some (vl v2), none, some (vi s.1), some (vi s.2)] [] m (PM g Y_Mo_pieces r m')) (fun x : Int32 => r = some (vi x) ∧ m' = m)) x) : V g Y_Mo_pieces 73 [none, none, some (vl v2), none, some (vi v4), some (vi v5)] [] m (PM g Y_Mo_pieces r m') := by
  unfold Mo_pieces_l73 at h
  refine V_iload (i := 5) (pc := 73) dX11_pieces_73 rfl ?_
  refine V_bipush (v := 64) (pc := 75) dX11_pieces_75 rfl ?_
  refine V_icmp_ge (pc := 77) (tgt := 98) dX11_pieces_77 rfl (fun q => ?_) (fun q => ?_)
  · have h := ite_t q h
    obtain ⟨y2, hu2, rfl⟩ := up_e h
    have h := hu2
    refine V_iload (i := 4) (pc := 98) dX11_pieces_98 rfl ?_
    obtain rfl := Option.some.inj h
    exact E_i (pc := 100) dX11_pieces_100 rfl hp
  · have h := ite_f q h
    refine V_iload (i := 4) (pc := 80) dX11_pieces_80 rfl ?_
    refine V_lload_n (i := 2) (pc := 82) dX11_pieces_82 rfl rfl ?_
    refine V_iload (i := 5) (pc := 83) dX11_pieces_83 rfl ?_
    refine V_lshr (pc := 85) dX11_pieces_85 ?_
    refine V_lconst (v := 1) (pc := 86) dX11_pieces_86 rfl ?_
    refine V_land (pc := 87) dX11_pieces_87 ?_
    refine V_l2i (pc := 88) dX11_pieces_88 ?_
    refine V_iadd (pc := 89) dX11_pieces_89 ?_
    refine V_istore (i := 4) (ls' := [none, none, some (vl v2), none, some (vi (v4 + (((v2 >>> (v5.toInt64 &&& 63)) &&& 1).toInt32))), some (vi v5)]) (pc := 90) dX11_pieces_90 (Nat.le_of_ble_eq_true rfl) rfl ?_
    refine V_iinc (i := 5) (v := (v5 + 1)) (ls' := [none, none, some (vl v2), none, some (vi (v4 + (((v2 >>> (v5.toInt64 &&& 63)) &&& 1).toInt32))), some (vi (v5 + 1))]) (pc := 92) dX11_pieces_92 rfl rfl (Nat.le_of_ble_eq_true rfl) rfl ?_
    refine V_goto (tgt := 73) (pc := 95) dX11_pieces_95 rfl ?_
    obtain rfl := Option.some.inj h
    exact hp
theorem k_Mo_pieces_l30 {g : GE} {this : Nat} {v1 : Int32} {v4 : Int32} {v2 : Int64} {v5 : Int32} {m : Mem} (h_this : kd this = 12) {r : Option AV} {m' : Mem} {x : (Int64 × Int32) ⊕ ((Int64 × Int32) ⊕ (Int32))} (h : Mo_pieces_l30 this v1 v4 v2 v5 m = some x) (hp : (Sum.elim (fun s : Int64 × Int32 => V g Y_Mo_pieces 30 [some (vr this), some (vi v1), some (vl s.1), none, some (vi v4), some (vi s.2)] [] m (PM g Y_Mo_pieces r m')) (Sum.elim (fun s : Int64 × Int32 => V g Y_Mo_pieces 16 [some (vr this), some (vi v1), some (vl s.1), none, some (vi s.2), none] [] m (PM g Y_Mo_pieces r m')) (fun x : Int32 => r = some (vi x) ∧ m' = m))) x) : V g Y_Mo_pieces 30 [some (vr this), some (vi v1), some (vl v2), none, some (vi v4), some (vi v5)] [] m (PM g Y_Mo_pieces r m') := by
  unfold Mo_pieces_l30 at h
  refine V_iload (i := 5) (pc := 30) dX11_pieces_30 rfl ?_
  refine V_aload_n (i := 0) (pc := 32) dX11_pieces_32 rfl rfl ?_
  refine V_getR (b := (this + 1)) (pc := 33) dX11_pieces_33 fl_Mo_13 h_this rfl rfl ?_
  refine V_iconst (v := 1) (pc := 36) dX11_pieces_36 rfl ?_
  obtain ⟨hg37, h⟩ := gd_e h
  refine V_iald (pc := 37) dX11_pieces_37 (kf_11_1 h_this) (af_11_1 h_this) hg37 ?_
  refine V_icmp_ge (pc := 38) (tgt := 61) dX11_pieces_38 rfl (fun q => ?_) (fun q => ?_)
  · have h := ite_t q h
    obtain ⟨y3, hu3, rfl⟩ := up_e h
    have h := hu3
    refine V_iinc (i := 4) (v := (v4 + 1)) (ls' := [some (vr this), some (vi v1), some (vl v2), none, some (vi (v4 + 1)), some (vi v5)]) (pc := 61) dX11_pieces_61 rfl rfl (Nat.le_of_ble_eq_true rfl) rfl ?_
    refine V_goto (tgt := 16) (pc := 64) dX11_pieces_64 rfl ?_
    refine V_sub (ls' := [some (vr this), some (vi v1), some (vl v2), none, some (vi (v4 + 1)), none]) (And.intro rfl (And.intro rfl (And.intro rfl (And.intro rfl trivial)))) ?_
    obtain rfl := Option.some.inj h
    exact hp
  · have h := ite_f q h
    refine V_lload_n (i := 2) (pc := 41) dX11_pieces_41 rfl rfl ?_
    refine V_lconst (v := 1) (pc := 42) dX11_pieces_42 rfl ?_
    refine V_aload_n (i := 0) (pc := 43) dX11_pieces_43 rfl rfl ?_
    refine V_iload_n (i := 1) (pc := 44) dX11_pieces_44 rfl rfl ?_
    refine V_iload (i := 5) (pc := 45) dX11_pieces_45 rfl ?_
    refine V_iload (i := 4) (pc := 47) dX11_pieces_47 rfl ?_
    obtain ⟨r49, e49, h⟩ := bnd h
    refine V_invV1 (c := 11) (pc := 49) dX11_pieces_49 (e_Mo_pieceOf h_this e49) iv_Mo_332 (rm_Mo_pieces_Mo_pieceOf _ _ _) rfl h_this cf_11 rfl (Nat.le_of_ble_eq_true rfl) rfl ?_
    refine V_lshl (pc := 52) dX11_pieces_52 ?_
    refine V_lor (pc := 53) dX11_pieces_53 ?_
    refine V_lstore_n (i := 2) (ls' := [some (vr this), some (vi v1), some (vl (v2 ||| ((1 : Int64) <<< (r49.toInt64 &&& 63)))), none, some (vi v4), some (vi v5)]) (pc := 54) dX11_pieces_54 rfl (Nat.le_of_ble_eq_true rfl) rfl ?_
    refine V_iinc (i := 5) (v := (v5 + 1)) (ls' := [some (vr this), some (vi v1), some (vl (v2 ||| ((1 : Int64) <<< (r49.toInt64 &&& 63)))), none, some (vi v4), some (vi (v5 + 1))]) (pc := 55) dX11_pieces_55 rfl rfl (Nat.le_of_ble_eq_true rfl) rfl ?_
    refine V_goto (tgt := 30) (pc := 58) dX11_pieces_58 rfl ?_
    obtain rfl := Option.some.inj h
    exact hp
theorem k_Mo_pieces_l16 {g : GE} {this : Nat} {v1 : Int32} {v2 : Int64} {v4 : Int32} {m : Mem} (h_this : kd this = 12) {r : Option AV} {m' : Mem} {x : (Int64 × Int32) ⊕ (Int32)} (h : Mo_pieces_l16 this v1 v2 v4 m = some x) (hp : (Sum.elim (fun s : Int64 × Int32 => V g Y_Mo_pieces 16 [some (vr this), some (vi v1), some (vl s.1), none, some (vi s.2), none] [] m (PM g Y_Mo_pieces r m')) (fun x : Int32 => r = some (vi x) ∧ m' = m)) x) : V g Y_Mo_pieces 16 [some (vr this), some (vi v1), some (vl v2), none, some (vi v4), none] [] m (PM g Y_Mo_pieces r m') := by
  unfold Mo_pieces_l16 at h
  refine V_iload (i := 4) (pc := 16) dX11_pieces_16 rfl ?_
  refine V_aload_n (i := 0) (pc := 18) dX11_pieces_18 rfl rfl ?_
  refine V_getR (b := (this + 1)) (pc := 19) dX11_pieces_19 fl_Mo_13 h_this rfl rfl ?_
  refine V_iconst (v := 2) (pc := 22) dX11_pieces_22 rfl ?_
  obtain ⟨hg23, h⟩ := gd_e h
  refine V_iald (pc := 23) dX11_pieces_23 (kf_11_1 h_this) (af_11_1 h_this) hg23 ?_
  refine V_icmp_ge (pc := 24) (tgt := 67) dX11_pieces_24 rfl (fun q => ?_) (fun q => ?_)
  · have h := ite_t q h
    obtain ⟨y1, hu1, rfl⟩ := up_e h
    have h := hu1
    refine V_iconst (v := 0) (pc := 67) dX11_pieces_67 rfl ?_
    refine V_istore (i := 4) (ls' := [some (vr this), some (vi v1), some (vl v2), none, some (vi 0), none]) (pc := 68) dX11_pieces_68 (Nat.le_of_ble_eq_true rfl) rfl ?_
    refine V_iconst (v := 0) (pc := 70) dX11_pieces_70 rfl ?_
    refine V_istore (i := 5) (ls' := [some (vr this), some (vi v1), some (vl v2), none, some (vi 0), some (vi 0)]) (pc := 71) dX11_pieces_71 (Nat.le_of_ble_eq_true rfl) rfl ?_
    refine V_sub (ls' := [none, none, some (vl v2), none, some (vi 0), some (vi 0)]) (And.intro rfl (And.intro rfl (And.intro rfl trivial))) ?_
    exact loop_V (A := fun s : Int32 × Int32 => V g Y_Mo_pieces 73 [none, none, some (vl v2), none, some (vi s.1), some (vi s.2)] [] m (PM g Y_Mo_pieces r m')) (fun s x h hp => k_Mo_pieces_l73 h_this h hp) (0, 0) _ h hp
  · have h := ite_f q h
    refine V_iconst (v := 0) (pc := 27) dX11_pieces_27 rfl ?_
    refine V_istore (i := 5) (ls' := [some (vr this), some (vi v1), some (vl v2), none, some (vi v4), some (vi 0)]) (pc := 28) dX11_pieces_28 (Nat.le_of_ble_eq_true rfl) rfl ?_
    exact loop_V (A := fun s : Int64 × Int32 => V g Y_Mo_pieces 30 [some (vr this), some (vi v1), some (vl s.1), none, some (vi v4), some (vi s.2)] [] m (PM g Y_Mo_pieces r m')) (fun s x h hp => k_Mo_pieces_l30 h_this h hp) (v2, 0) _ h hp
theorem k_Mo_pieces {g : GE} {this : Nat} {v1 : Int32} {m : Mem} (h_this : kd this = 12) {r : Option AV} {m' : Mem} {x : Int32} (h : Mo_pieces this v1 m = some x) (hp : (fun x : Int32 => r = some (vi x) ∧ m' = m) x) : V g Y_Mo_pieces 0 [some (vr this), some (vi v1), none, none, none, none] [] m (PM g Y_Mo_pieces r m') := by
  unfold Mo_pieces at h
  refine V_aload_n (i := 0) (pc := 0) dX11_pieces_0 rfl rfl ?_
  refine V_iload_n (i := 1) (pc := 1) dX11_pieces_1 rfl rfl ?_
  obtain ⟨r2, e2, h⟩ := bnd h
  refine V_invV1 (c := 11) (pc := 2) dX11_pieces_2 (e_Mo_isSet h_this e2) iv_Mo_311 (rm_Mo_pieces_Mo_isSet _ _ _) rfl h_this cf_11 rfl (Nat.le_of_ble_eq_true rfl) rfl ?_
  refine V_if_ne (pc := 5) (tgt := 11) dX11_pieces_5 rfl (fun q => ?_) (fun q => ?_)
  · have h := ite_f q h
    refine V_lconst (v := 0) (pc := 11) dX11_pieces_11 rfl ?_
    refine V_lstore_n (i := 2) (ls' := [some (vr this), some (vi v1), some (vl 0), none, none, none]) (pc := 12) dX11_pieces_12 rfl (Nat.le_of_ble_eq_true rfl) rfl ?_
    refine V_iconst (v := 0) (pc := 13) dX11_pieces_13 rfl ?_
    refine V_istore (i := 4) (ls' := [some (vr this), some (vi v1), some (vl 0), none, some (vi 0), none]) (pc := 14) dX11_pieces_14 (Nat.le_of_ble_eq_true rfl) rfl ?_
    exact loop_V (A := fun s : Int64 × Int32 => V g Y_Mo_pieces 16 [some (vr this), some (vi v1), some (vl s.1), none, some (vi s.2), none] [] m (PM g Y_Mo_pieces r m')) (fun s x h hp => k_Mo_pieces_l16 h_this h hp) (0, 0) _ h hp
  · have h := ite_t q h
    refine V_bipush (v := (-2)) (pc := 8) dX11_pieces_8 rfl ?_
    obtain rfl := Option.some.inj h
    exact E_i (pc := 10) dX11_pieces_10 rfl hp
theorem e_Mo_pieces {g : GE} {this : Nat} {v1 : Int32} {m : Mem} (h_this : kd this = 12) {x : Int32} (h : Mo_pieces this v1 m = some x) : Ev g Y_Mo_pieces [vr this, vi v1] m (some (vi x)) m :=
  Ev_of 4 (by decide +kernel) rfl (Nat.le_of_ble_eq_true rfl) rfl (k_Mo_pieces h_this h ⟨rfl, rfl⟩)
theorem k_Mo_beginParts_l39 {g : GE} {this : Nat}  {v1 : Int32} {m : Mem} (h_this : kd this = 12) {r : Option AV} {m' : Mem} {x : (Int32 × Mem) ⊕ (Mem)} (h : Mo_beginParts_l39 this v1 m = some x) (hp : (Sum.elim (fun s : Int32 × Mem => V g Y_Mo_beginParts 39 [some (vr this), some (vi s.1)] [] s.2 (PM g Y_Mo_beginParts r m')) (fun x : Mem => r = none ∧ m' = x)) x) : V g Y_Mo_beginParts 39 [some (vr this), some (vi v1)] [] m (PM g Y_Mo_beginParts r m') := by
  unfold Mo_beginParts_l39 at h
  refine V_iload_n (i := 1) (pc := 39) dX11_beginParts_39 rfl rfl ?_
  refine V_aload_n (i := 0) (pc := 40) dX11_beginParts_40 rfl rfl ?_
  refine V_getR (b := (this + 1)) (pc := 41) dX11_beginParts_41 fl_Mo_13 h_this rfl rfl ?_
  refine V_iconst (v := 5) (pc := 44) dX11_beginParts_44 rfl ?_
  obtain ⟨hg45, h⟩ := gd_e h
  refine V_iald (pc := 45) dX11_beginParts_45 (kf_11_1 h_this) (af_11_1 h_this) hg45 ?_
  refine V_icmp_ge (pc := 46) (tgt := 66) dX11_beginParts_46 rfl (fun q => ?_) (fun q => ?_)
  · have h := ite_t q h
    obtain ⟨y2, hu2, rfl⟩ := up_e h
    have h := hu2
    obtain rfl := Option.some.inj h
    exact E_v (pc := 66) dX11_beginParts_66 rfl hp
  · have h := ite_f q h
    refine V_aload_n (i := 0) (pc := 49) dX11_beginParts_49 rfl rfl ?_
    refine V_getR (b := (this + 8)) (pc := 50) dX11_beginParts_50 fl_Mo_41 h_this rfl rfl ?_
    refine V_iload_n (i := 1) (pc := 53) dX11_beginParts_53 rfl rfl ?_
    refine V_aload_n (i := 0) (pc := 54) dX11_beginParts_54 rfl rfl ?_
    refine V_iload_n (i := 1) (pc := 55) dX11_beginParts_55 rfl rfl ?_
    obtain ⟨r56, e56, h⟩ := bnd h
    refine V_invV1 (c := 11) (pc := 56) dX11_beginParts_56 (e_Mo_oddsOf h_this e56) iv_Mo_329 (rm_Mo_beginParts_Mo_oddsOf _ _ _) rfl h_this cf_11 rfl (Nat.le_of_ble_eq_true rfl) rfl ?_
    obtain ⟨hg59, h⟩ := gd_e h
    refine V_iast_lt (pc := 59) dX11_beginParts_59 (kf_11_16 h_this) (af_11_16 h_this) hg59 h (fun m59 h => ?_)
    refine V_iinc (i := 1) (v := (v1 + 1)) (ls' := [some (vr this), some (vi (v1 + 1))]) (pc := 60) dX11_beginParts_60 rfl rfl (Nat.le_of_ble_eq_true rfl) rfl ?_
    refine V_goto (tgt := 39) (pc := 63) dX11_beginParts_63 rfl ?_
    obtain rfl := Option.some.inj h
    exact hp
theorem k_Mo_beginParts_l2 {g : GE} {this : Nat}  {v1 : Int32} {m : Mem} (h_this : kd this = 12) {r : Option AV} {m' : Mem} {x : (Int32 × Mem) ⊕ (Mem)} (h : Mo_beginParts_l2 this v1 m = some x) (hp : (Sum.elim (fun s : Int32 × Mem => V g Y_Mo_beginParts 2 [some (vr this), some (vi s.1)] [] s.2 (PM g Y_Mo_beginParts r m')) (fun x : Mem => r = none ∧ m' = x)) x) : V g Y_Mo_beginParts 2 [some (vr this), some (vi v1)] [] m (PM g Y_Mo_beginParts r m') := by
  unfold Mo_beginParts_l2 at h
  refine V_iload_n (i := 1) (pc := 2) dX11_beginParts_2 rfl rfl ?_
  refine V_sipush (v := 128) (pc := 3) dX11_beginParts_3 rfl ?_
  refine V_icmp_ge (pc := 6) (tgt := 22) dX11_beginParts_6 rfl (fun q => ?_) (fun q => ?_)
  · have h := ite_t q h
    obtain ⟨y1, hu1, rfl⟩ := up_e h
    have h := hu1
    refine V_aload_n (i := 0) (pc := 22) dX11_beginParts_22 rfl rfl ?_
    refine V_getR (b := (this + 7)) (pc := 23) dX11_beginParts_23 fl_Mo_37 h_this rfl rfl ?_
    refine V_aload_n (i := 0) (pc := 26) dX11_beginParts_26 rfl rfl ?_
    refine V_getR (b := (this + 1)) (pc := 27) dX11_beginParts_27 fl_Mo_13 h_this rfl rfl ?_
    refine V_bipush (v := 18) (pc := 30) dX11_beginParts_30 rfl ?_
    obtain ⟨hg32, h⟩ := gd_e h
    refine V_iald (pc := 32) dX11_beginParts_32 (kf_11_1 h_this) (af_11_1 h_this) hg32 ?_
    refine V_ldc2 (v := 1000000000000) (pc := 33) dX11_beginParts_33 con_Mo_336 ?_
    obtain ⟨hg36, h⟩ := gd_e h
    refine V_last_lt (pc := 36) dX11_beginParts_36 (kf_11_15 h_this) (af_11_15 h_this) hg36 h (fun m36 h => ?_)
    refine V_iconst (v := 0) (pc := 37) dX11_beginParts_37 rfl ?_
    refine V_istore_n (i := 1) (ls' := [some (vr this), some (vi 0)]) (pc := 38) dX11_beginParts_38 rfl (Nat.le_of_ble_eq_true rfl) rfl ?_
    exact loop_V (A := fun s : Int32 × Mem => V g Y_Mo_beginParts 39 [some (vr this), some (vi s.1)] [] s.2 (PM g Y_Mo_beginParts r m')) (fun s x h hp => k_Mo_beginParts_l39 h_this h hp) (0, m36) _ h hp
  · have h := ite_f q h
    refine V_aload_n (i := 0) (pc := 9) dX11_beginParts_9 rfl rfl ?_
    refine V_getR (b := (this + 7)) (pc := 10) dX11_beginParts_10 fl_Mo_37 h_this rfl rfl ?_
    refine V_iload_n (i := 1) (pc := 13) dX11_beginParts_13 rfl rfl ?_
    refine V_lconst (v := 0) (pc := 14) dX11_beginParts_14 rfl ?_
    obtain ⟨hg15, h⟩ := gd_e h
    refine V_last_lt (pc := 15) dX11_beginParts_15 (kf_11_15 h_this) (af_11_15 h_this) hg15 h (fun m15 h => ?_)
    refine V_iinc (i := 1) (v := (v1 + 1)) (ls' := [some (vr this), some (vi (v1 + 1))]) (pc := 16) dX11_beginParts_16 rfl rfl (Nat.le_of_ble_eq_true rfl) rfl ?_
    refine V_goto (tgt := 2) (pc := 19) dX11_beginParts_19 rfl ?_
    obtain rfl := Option.some.inj h
    exact hp
theorem k_Mo_beginParts {g : GE} {this : Nat} {m : Mem} (h_this : kd this = 12) {r : Option AV} {m' : Mem} {x : Mem} (h : Mo_beginParts this m = some x) (hp : (fun x : Mem => r = none ∧ m' = x) x) : V g Y_Mo_beginParts 0 [some (vr this), none] [] m (PM g Y_Mo_beginParts r m') := by
  unfold Mo_beginParts at h
  refine V_iconst (v := 0) (pc := 0) dX11_beginParts_0 rfl ?_
  refine V_istore_n (i := 1) (ls' := [some (vr this), some (vi 0)]) (pc := 1) dX11_beginParts_1 rfl (Nat.le_of_ble_eq_true rfl) rfl ?_
  exact loop_V (A := fun s : Int32 × Mem => V g Y_Mo_beginParts 2 [some (vr this), some (vi s.1)] [] s.2 (PM g Y_Mo_beginParts r m')) (fun s x h hp => k_Mo_beginParts_l2 h_this h hp) (0, m) _ h hp
theorem e_Mo_beginParts {g : GE} {this : Nat} {m : Mem} (h_this : kd this = 12) {x : Mem} (h : Mo_beginParts this m = some x) : Ev g Y_Mo_beginParts [vr this] m (none) x :=
  Ev_of 1 (by decide +kernel) rfl (Nat.le_of_ble_eq_true rfl) rfl (k_Mo_beginParts h_this h ⟨rfl, rfl⟩)
theorem k_Mo_hour_b108 {g : GE} {this : Nat} {v1 : Int32} {v2 : Int32}  {m : Mem} (h_this : kd this = 12) {r : Option AV} {m' : Mem} {x : (Int32 × Mem) ⊕ ((Int32 × Mem) ⊕ (Mem))} (h : Mo_hour_b108 this v1 v2 m = some x) (hp : (Sum.elim (fun s : Int32 × Mem => V g Y_Mo_hour 14 [some (vr this), some (vi v1), some (vi s.1), none, none, none, none, none] [] s.2 (PM g Y_Mo_hour r m')) (Sum.elim (fun s : Int32 × Mem => V g Y_Mo_hour 2 [some (vr this), some (vi s.1), none, none, none, none, none, none] [] s.2 (PM g Y_Mo_hour r m')) (fun x : Mem => r = none ∧ m' = x))) x) : V g Y_Mo_hour 108 [some (vr this), some (vi v1), some (vi v2), none, none, none, none, none] [] m (PM g Y_Mo_hour r m') := by
  unfold Mo_hour_b108 at h
  refine V_iinc (i := 2) (v := (v2 + 1)) (ls' := [some (vr this), some (vi v1), some (vi (v2 + 1)), none, none, none, none, none]) (pc := 108) dX11_hour_108 rfl rfl (Nat.le_of_ble_eq_true rfl) rfl ?_
  refine V_goto (tgt := 14) (pc := 111) dX11_hour_111 rfl ?_
  obtain rfl := Option.some.inj h
  exact hp
theorem k_Mo_hour_l14 {g : GE} {this : Nat} {v1 : Int32} {v2 : Int32} {m : Mem} (h_this : kd this = 12) {r : Option AV} {m' : Mem} {x : (Int32 × Mem) ⊕ ((Int32 × Mem) ⊕ (Mem))} (h : Mo_hour_l14 this v1 v2 m = some x) (hp : (Sum.elim (fun s : Int32 × Mem => V g Y_Mo_hour 14 [some (vr this), some (vi v1), some (vi s.1), none, none, none, none, none] [] s.2 (PM g Y_Mo_hour r m')) (Sum.elim (fun s : Int32 × Mem => V g Y_Mo_hour 2 [some (vr this), some (vi s.1), none, none, none, none, none, none] [] s.2 (PM g Y_Mo_hour r m')) (fun x : Mem => r = none ∧ m' = x))) x) : V g Y_Mo_hour 14 [some (vr this), some (vi v1), some (vi v2), none, none, none, none, none] [] m (PM g Y_Mo_hour r m') := by
  unfold Mo_hour_l14 at h
  refine V_iload_n (i := 2) (pc := 14) dX11_hour_14 rfl rfl ?_
  refine V_aload_n (i := 0) (pc := 15) dX11_hour_15 rfl rfl ?_
  obtain ⟨r16, e16, h⟩ := bnd h
  refine V_invV1 (c := 11) (pc := 16) dX11_hour_16 (e_Mo_sets h_this e16) iv_Mo_274 (rm_Mo_hour_Mo_sets _ _ _) rfl h_this cf_11 rfl (Nat.le_of_ble_eq_true rfl) rfl ?_
  refine V_icmp_ge (pc := 19) (tgt := 114) dX11_hour_19 rfl (fun q => ?_) (fun q => ?_)
  · have h := ite_t q h
    obtain ⟨y2, hu2, rfl⟩ := up_e h
    have h := hu2
    refine V_iinc (i := 1) (v := (v1 + 1)) (ls' := [some (vr this), some (vi (v1 + 1)), some (vi v2), none, none, none, none, none]) (pc := 114) dX11_hour_114 rfl rfl (Nat.le_of_ble_eq_true rfl) rfl ?_
    refine V_goto (tgt := 2) (pc := 117) dX11_hour_117 rfl ?_
    refine V_sub (ls' := [some (vr this), some (vi (v1 + 1)), none, none, none, none, none, none]) (And.intro rfl (And.intro rfl trivial)) ?_
    obtain rfl := Option.some.inj h
    exact hp
  · have h := ite_f q h
    refine V_iload_n (i := 2) (pc := 22) dX11_hour_22 rfl rfl ?_
    refine V_iload_n (i := 1) (pc := 23) dX11_hour_23 rfl rfl ?_
    obtain ⟨r24, e24, h⟩ := bnd h
    refine V_invS1 (pc := 24) dX11_hour_24 (e_Mo_holds  e24) is_Mo_239 (rm_Mo_hour_Mo_holds _ _ _) rfl (Nat.le_of_ble_eq_true rfl) rfl ?_
    refine V_if_eq (pc := 27) (tgt := 33) dX11_hour_27 rfl (fun q => ?_) (fun q => ?_)
    · have h := ite_t q h
      refine V_iload_n (i := 2) (pc := 33) dX11_hour_33 rfl rfl ?_
      refine V_iconst (v := 1) (pc := 34) dX11_hour_34 rfl ?_
      refine V_iload_n (i := 1) (pc := 35) dX11_hour_35 rfl rfl ?_
      refine V_ishl (pc := 36) dX11_hour_36 ?_
      refine V_ior (pc := 37) dX11_hour_37 ?_
      refine V_istore_n (i := 3) (ls' := [some (vr this), some (vi v1), some (vi v2), some (vi (v2 ||| ((1 : Int32) <<< (v1 &&& 31)))), none, none, none, none]) (pc := 38) dX11_hour_38 rfl (Nat.le_of_ble_eq_true rfl) rfl ?_
      refine V_aload_n (i := 0) (pc := 39) dX11_hour_39 rfl rfl ?_
      refine V_getR (b := (this + 7)) (pc := 40) dX11_hour_40 fl_Mo_37 h_this rfl rfl ?_
      refine V_iload_n (i := 2) (pc := 43) dX11_hour_43 rfl rfl ?_
      obtain ⟨hg44, h⟩ := gd_e h
      refine V_lald (pc := 44) dX11_hour_44 (kf_11_15 h_this) (af_11_15 h_this) hg44 ?_
      refine V_aload_n (i := 0) (pc := 45) dX11_hour_45 rfl rfl ?_
      refine V_getR (b := (this + 8)) (pc := 46) dX11_hour_46 fl_Mo_41 h_this rfl rfl ?_
      refine V_iload_n (i := 1) (pc := 49) dX11_hour_49 rfl rfl ?_
      obtain ⟨hg50, h⟩ := gd_e h
      refine V_iald (pc := 50) dX11_hour_50 (kf_11_16 h_this) (af_11_16 h_this) hg50 ?_
      refine V_i2l (pc := 51) dX11_hour_51 ?_
      refine V_lmul (pc := 52) dX11_hour_52 ?_
      refine V_ldc2 (v := 10000) (pc := 53) dX11_hour_53 con_Mo_338 ?_
      refine V_ldiv (pc := 56) dX11_hour_56 (by decide) ?_
      refine V_lstore (i := 4) (ls' := [some (vr this), some (vi v1), some (vi v2), some (vi (v2 ||| ((1 : Int32) <<< (v1 &&& 31)))), some (vl (((rL m (this + 7) (ix v2)) * ((rI m (this + 8) (ix v1)).toInt64)) / 10000)), none, none, none]) (pc := 57) dX11_hour_57 (Nat.le_of_ble_eq_true rfl) rfl ?_
      refine V_aload_n (i := 0) (pc := 59) dX11_hour_59 rfl rfl ?_
      refine V_getR (b := (this + 7)) (pc := 60) dX11_hour_60 fl_Mo_37 h_this rfl rfl ?_
      refine V_iload_n (i := 3) (pc := 63) dX11_hour_63 rfl rfl ?_
      obtain ⟨hg64, h⟩ := gd_e h
      refine V_lald (pc := 64) dX11_hour_64 (kf_11_15 h_this) (af_11_15 h_this) hg64 ?_
      refine V_aload_n (i := 0) (pc := 65) dX11_hour_65 rfl rfl ?_
      refine V_getR (b := (this + 1)) (pc := 66) dX11_hour_66 fl_Mo_13 h_this rfl rfl ?_
      refine V_bipush (v := 10) (pc := 69) dX11_hour_69 rfl ?_
      obtain ⟨hg71, h⟩ := gd_e h
      refine V_iald (pc := 71) dX11_hour_71 (kf_11_1 h_this) (af_11_1 h_this) hg71 ?_
      refine V_i2l (pc := 72) dX11_hour_72 ?_
      refine V_lmul (pc := 73) dX11_hour_73 ?_
      refine V_ldc2 (v := 100) (pc := 74) dX11_hour_74 con_Mo_340 ?_
      refine V_ldiv (pc := 77) dX11_hour_77 (by decide) ?_
      refine V_lstore (i := 6) (ls' := [some (vr this), some (vi v1), some (vi v2), some (vi (v2 ||| ((1 : Int32) <<< (v1 &&& 31)))), some (vl (((rL m (this + 7) (ix v2)) * ((rI m (this + 8) (ix v1)).toInt64)) / 10000)), none, some (vl (((rL m (this + 7) (ix (v2 ||| ((1 : Int32) <<< (v1 &&& 31))))) * ((rI m (this + 1) (ix 10)).toInt64)) / 100)), none]) (pc := 78) dX11_hour_78 (Nat.le_of_ble_eq_true rfl) rfl ?_
      refine V_aload_n (i := 0) (pc := 80) dX11_hour_80 rfl rfl ?_
      refine V_getR (b := (this + 7)) (pc := 81) dX11_hour_81 fl_Mo_37 h_this rfl rfl ?_
      refine V_iload_n (i := 2) (pc := 84) dX11_hour_84 rfl rfl ?_
      refine V_dup2 (pc := 85) dX11_hour_85 ?_
      obtain ⟨hg86, h⟩ := gd_e h
      refine V_lald (pc := 86) dX11_hour_86 (kf_11_15 h_this) (af_11_15 h_this) hg86 ?_
      refine V_lload (i := 6) (pc := 87) dX11_hour_87 rfl ?_
      refine V_lload (i := 4) (pc := 89) dX11_hour_89 rfl ?_
      refine V_lsub (pc := 91) dX11_hour_91 ?_
      refine V_ladd (pc := 92) dX11_hour_92 ?_
      obtain ⟨hg93, h⟩ := gd_e h
      refine V_last_lt (pc := 93) dX11_hour_93 (kf_11_15 h_this) (af_11_15 h_this) hg93 h (fun m93 h => ?_)
      refine V_aload_n (i := 0) (pc := 94) dX11_hour_94 rfl rfl ?_
      refine V_getR (b := (this + 7)) (pc := 95) dX11_hour_95 fl_Mo_37 h_this rfl rfl ?_
      refine V_iload_n (i := 3) (pc := 98) dX11_hour_98 rfl rfl ?_
      refine V_dup2 (pc := 99) dX11_hour_99 ?_
      obtain ⟨hg100, h⟩ := gd_e h
      refine V_lald (pc := 100) dX11_hour_100 (kf_11_15 h_this) (af_11_15 h_this) hg100 ?_
      refine V_lload (i := 4) (pc := 101) dX11_hour_101 rfl ?_
      refine V_lload (i := 6) (pc := 103) dX11_hour_103 rfl ?_
      refine V_lsub (pc := 105) dX11_hour_105 ?_
      refine V_ladd (pc := 106) dX11_hour_106 ?_
      obtain ⟨hg107, h⟩ := gd_e h
      refine V_last_lt (pc := 107) dX11_hour_107 (kf_11_15 h_this) (af_11_15 h_this) hg107 h (fun m107 h => ?_)
      refine V_sub (ls' := [some (vr this), some (vi v1), some (vi v2), none, none, none, none, none]) (And.intro rfl (And.intro rfl (And.intro rfl trivial))) ?_
      exact k_Mo_hour_b108 h_this h hp
    · have h := ite_f q h
      refine V_goto (tgt := 108) (pc := 30) dX11_hour_30 rfl ?_
      exact k_Mo_hour_b108 h_this h hp
theorem k_Mo_hour_l2 {g : GE} {this : Nat}  {v1 : Int32} {m : Mem} (h_this : kd this = 12) {r : Option AV} {m' : Mem} {x : (Int32 × Mem) ⊕ (Mem)} (h : Mo_hour_l2 this v1 m = some x) (hp : (Sum.elim (fun s : Int32 × Mem => V g Y_Mo_hour 2 [some (vr this), some (vi s.1), none, none, none, none, none, none] [] s.2 (PM g Y_Mo_hour r m')) (fun x : Mem => r = none ∧ m' = x)) x) : V g Y_Mo_hour 2 [some (vr this), some (vi v1), none, none, none, none, none, none] [] m (PM g Y_Mo_hour r m') := by
  unfold Mo_hour_l2 at h
  refine V_iload_n (i := 1) (pc := 2) dX11_hour_2 rfl rfl ?_
  refine V_aload_n (i := 0) (pc := 3) dX11_hour_3 rfl rfl ?_
  refine V_getR (b := (this + 1)) (pc := 4) dX11_hour_4 fl_Mo_13 h_this rfl rfl ?_
  refine V_iconst (v := 5) (pc := 7) dX11_hour_7 rfl ?_
  obtain ⟨hg8, h⟩ := gd_e h
  refine V_iald (pc := 8) dX11_hour_8 (kf_11_1 h_this) (af_11_1 h_this) hg8 ?_
  refine V_icmp_ge (pc := 9) (tgt := 120) dX11_hour_9 rfl (fun q => ?_) (fun q => ?_)
  · have h := ite_t q h
    obtain ⟨y1, hu1, rfl⟩ := up_e h
    have h := hu1
    obtain rfl := Option.some.inj h
    exact E_v (pc := 120) dX11_hour_120 rfl hp
  · have h := ite_f q h
    refine V_iconst (v := 0) (pc := 12) dX11_hour_12 rfl ?_
    refine V_istore_n (i := 2) (ls' := [some (vr this), some (vi v1), some (vi 0), none, none, none, none, none]) (pc := 13) dX11_hour_13 rfl (Nat.le_of_ble_eq_true rfl) rfl ?_
    exact loop_V (A := fun s : Int32 × Mem => V g Y_Mo_hour 14 [some (vr this), some (vi v1), some (vi s.1), none, none, none, none, none] [] s.2 (PM g Y_Mo_hour r m')) (fun s x h hp => k_Mo_hour_l14 h_this h hp) (0, m) _ h hp
theorem k_Mo_hour {g : GE} {this : Nat} {m : Mem} (h_this : kd this = 12) {r : Option AV} {m' : Mem} {x : Mem} (h : Mo_hour this m = some x) (hp : (fun x : Mem => r = none ∧ m' = x) x) : V g Y_Mo_hour 0 [some (vr this), none, none, none, none, none, none, none] [] m (PM g Y_Mo_hour r m') := by
  unfold Mo_hour at h
  refine V_iconst (v := 0) (pc := 0) dX11_hour_0 rfl ?_
  refine V_istore_n (i := 1) (ls' := [some (vr this), some (vi 0), none, none, none, none, none, none]) (pc := 1) dX11_hour_1 rfl (Nat.le_of_ble_eq_true rfl) rfl ?_
  exact loop_V (A := fun s : Int32 × Mem => V g Y_Mo_hour 2 [some (vr this), some (vi s.1), none, none, none, none, none, none] [] s.2 (PM g Y_Mo_hour r m')) (fun s x h hp => k_Mo_hour_l2 h_this h hp) (0, m) _ h hp
theorem e_Mo_hour {g : GE} {this : Nat} {m : Mem} (h_this : kd this = 12) {x : Mem} (h : Mo_hour this m = some x) : Ev g Y_Mo_hour [vr this] m (none) x :=
  Ev_of 7 (by decide +kernel) rfl (Nat.le_of_ble_eq_true rfl) rfl (k_Mo_hour h_this h ⟨rfl, rfl⟩)
theorem k_Mo_part {g : GE} {this : Nat} {v1 : Int32} {m : Mem} (h_this : kd this = 12) {r : Option AV} {m' : Mem} {x : Int64 × Mem} (h : Mo_part this v1 m = some x) (hp : (fun x : Int64 × Mem => r = some (vl x.1) ∧ m' = x.2) x) : V g Y_Mo_part 0 [some (vr this), some (vi v1)] [] m (PM g Y_Mo_part r m') := by
  unfold Mo_part at h
  refine V_aload_n (i := 0) (pc := 0) dX11_part_0 rfl rfl ?_
  refine V_iload_n (i := 1) (pc := 1) dX11_part_1 rfl rfl ?_
  obtain ⟨r2, e2, h⟩ := bnd h
  refine V_invV1 (c := 11) (pc := 2) dX11_part_2 (e_Mo_isSet h_this e2) iv_Mo_311 (rm_Mo_part_Mo_isSet _ _ _) rfl h_this cf_11 rfl (Nat.le_of_ble_eq_true rfl) rfl ?_
  refine V_if_ne (pc := 5) (tgt := 12) dX11_part_5 rfl (fun q => ?_) (fun q => ?_)
  · have h := ite_f q h
    refine V_aload_n (i := 0) (pc := 12) dX11_part_12 rfl rfl ?_
    obtain ⟨m13, e13, h⟩ := bnd h
    refine V_invV0 (c := 11) (pc := 13) dX11_part_13 (e_Mo_beginParts h_this e13) iv_Mo_344 (rm_Mo_part_Mo_beginParts _ _ _) rfl h_this cf_11 rfl (Nat.le_of_ble_eq_true rfl) rfl ?_
    refine V_aload_n (i := 0) (pc := 16) dX11_part_16 rfl rfl ?_
    obtain ⟨m17, e17, h⟩ := bnd h
    refine V_invV0 (c := 11) (pc := 17) dX11_part_17 (e_Mo_hour h_this e17) iv_Mo_347 (rm_Mo_part_Mo_hour _ _ _) rfl h_this cf_11 rfl (Nat.le_of_ble_eq_true rfl) rfl ?_
    refine V_aload_n (i := 0) (pc := 20) dX11_part_20 rfl rfl ?_
    refine V_getR (b := (this + 7)) (pc := 21) dX11_part_21 fl_Mo_37 h_this rfl rfl ?_
    refine V_iload_n (i := 1) (pc := 24) dX11_part_24 rfl rfl ?_
    obtain ⟨hg25, h⟩ := gd_e h
    refine V_lald (pc := 25) dX11_part_25 (kf_11_15 h_this) (af_11_15 h_this) hg25 ?_
    obtain rfl := Option.some.inj h
    exact E_l (pc := 26) dX11_part_26 rfl hp
  · have h := ite_t q h
    refine V_ldc2 (v := (-2)) (pc := 8) dX11_part_8 con_Mo_342 ?_
    obtain rfl := Option.some.inj h
    exact E_l (pc := 11) dX11_part_11 rfl hp
theorem e_Mo_part {g : GE} {this : Nat} {v1 : Int32} {m : Mem} (h_this : kd this = 12) {x : Int64 × Mem} (h : Mo_part this v1 m = some x) : Ev g Y_Mo_part [vr this, vi v1] m (some (vl x.1)) x.2 :=
  Ev_of 0 (by decide +kernel) rfl (Nat.le_of_ble_eq_true rfl) rfl (k_Mo_part h_this h ⟨rfl, rfl⟩)
theorem k_Mo_ones_l4 {g : GE}  {v0 : Int32} {v1 : Int32} {v2 : Int32} {m : Mem} {r : Option AV} {m' : Mem} {x : (Int32 × Int32) ⊕ (Int32)} (h : Mo_ones_l4 v0 v1 v2 m = some x) (hp : (Sum.elim (fun s : Int32 × Int32 => V g Y_Mo_ones 4 [some (vi v0), some (vi s.1), some (vi s.2)] [] m (PM g Y_Mo_ones r m')) (fun x : Int32 => r = some (vi x) ∧ m' = m)) x) : V g Y_Mo_ones 4 [some (vi v0), some (vi v1), some (vi v2)] [] m (PM g Y_Mo_ones r m') := by
  unfold Mo_ones_l4 at h
  refine V_iload_n (i := 2) (pc := 4) dX11_ones_4 rfl rfl ?_
  refine V_bipush (v := 7) (pc := 5) dX11_ones_5 rfl ?_
  refine V_icmp_ge (pc := 7) (tgt := 24) dX11_ones_7 rfl (fun q => ?_) (fun q => ?_)
  · have h := ite_t q h
    obtain ⟨y1, hu1, rfl⟩ := up_e h
    have h := hu1
    refine V_iload_n (i := 1) (pc := 24) dX11_ones_24 rfl rfl ?_
    obtain rfl := Option.some.inj h
    exact E_i (pc := 25) dX11_ones_25 rfl hp
  · have h := ite_f q h
    refine V_iload_n (i := 1) (pc := 10) dX11_ones_10 rfl rfl ?_
    refine V_iload_n (i := 0) (pc := 11) dX11_ones_11 rfl rfl ?_
    refine V_iload_n (i := 2) (pc := 12) dX11_ones_12 rfl rfl ?_
    refine V_ishr (pc := 13) dX11_ones_13 ?_
    refine V_iconst (v := 1) (pc := 14) dX11_ones_14 rfl ?_
    refine V_iand (pc := 15) dX11_ones_15 ?_
    refine V_iadd (pc := 16) dX11_ones_16 ?_
    refine V_istore_n (i := 1) (ls' := [some (vi v0), some (vi (v1 + ((v0 >>> (v2 &&& 31)) &&& 1))), some (vi v2)]) (pc := 17) dX11_ones_17 rfl (Nat.le_of_ble_eq_true rfl) rfl ?_
    refine V_iinc (i := 2) (v := (v2 + 1)) (ls' := [some (vi v0), some (vi (v1 + ((v0 >>> (v2 &&& 31)) &&& 1))), some (vi (v2 + 1))]) (pc := 18) dX11_ones_18 rfl rfl (Nat.le_of_ble_eq_true rfl) rfl ?_
    refine V_goto (tgt := 4) (pc := 21) dX11_ones_21 rfl ?_
    obtain rfl := Option.some.inj h
    exact hp
theorem k_Mo_ones {g : GE} {v0 : Int32} {m : Mem} {r : Option AV} {m' : Mem} {x : Int32} (h : Mo_ones v0 m = some x) (hp : (fun x : Int32 => r = some (vi x) ∧ m' = m) x) : V g Y_Mo_ones 0 [some (vi v0), none, none] [] m (PM g Y_Mo_ones r m') := by
  unfold Mo_ones at h
  refine V_iconst (v := 0) (pc := 0) dX11_ones_0 rfl ?_
  refine V_istore_n (i := 1) (ls' := [some (vi v0), some (vi 0), none]) (pc := 1) dX11_ones_1 rfl (Nat.le_of_ble_eq_true rfl) rfl ?_
  refine V_iconst (v := 0) (pc := 2) dX11_ones_2 rfl ?_
  refine V_istore_n (i := 2) (ls' := [some (vi v0), some (vi 0), some (vi 0)]) (pc := 3) dX11_ones_3 rfl (Nat.le_of_ble_eq_true rfl) rfl ?_
  exact loop_V (A := fun s : Int32 × Int32 => V g Y_Mo_ones 4 [some (vi v0), some (vi s.1), some (vi s.2)] [] m (PM g Y_Mo_ones r m')) (fun s x h hp => k_Mo_ones_l4  h hp) (0, 0) _ h hp
theorem e_Mo_ones {g : GE} {v0 : Int32} {m : Mem} {x : Int32} (h : Mo_ones v0 m = some x) : Ev g Y_Mo_ones [vi v0] m (some (vi x)) m :=
  Ev_of 2 (by decide +kernel) rfl (Nat.le_of_ble_eq_true rfl) rfl (k_Mo_ones  h ⟨rfl, rfl⟩)
theorem k_Mo_isTold_l2 {g : GE} {this : Nat} {v1 : Int32} {v2 : Int32} {m : Mem} (h_this : kd this = 12) {r : Option AV} {m' : Mem} {x : (Int32) ⊕ (Int32)} (h : Mo_isTold_l2 this v1 v2 m = some x) (hp : (Sum.elim (fun s : Int32 => V g Y_Mo_isTold 2 [some (vr this), some (vi v1), some (vi s)] [] m (PM g Y_Mo_isTold r m')) (fun x : Int32 => r = some (vi x) ∧ m' = m)) x) : V g Y_Mo_isTold 2 [some (vr this), some (vi v1), some (vi v2)] [] m (PM g Y_Mo_isTold r m') := by
  unfold Mo_isTold_l2 at h
  refine V_iload_n (i := 2) (pc := 2) dX11_isTold_2 rfl rfl ?_
  refine V_aload_n (i := 0) (pc := 3) dX11_isTold_3 rfl rfl ?_
  refine V_getR (b := (this + 1)) (pc := 4) dX11_isTold_4 fl_Mo_13 h_this rfl rfl ?_
  refine V_bipush (v := 6) (pc := 7) dX11_isTold_7 rfl ?_
  obtain ⟨hg9, h⟩ := gd_e h
  refine V_iald (pc := 9) dX11_isTold_9 (kf_11_1 h_this) (af_11_1 h_this) hg9 ?_
  refine V_icmp_ge (pc := 10) (tgt := 31) dX11_isTold_10 rfl (fun q => ?_) (fun q => ?_)
  · have h := ite_t q h
    obtain ⟨y1, hu1, rfl⟩ := up_e h
    have h := hu1
    refine V_iconst (v := 0) (pc := 31) dX11_isTold_31 rfl ?_
    obtain rfl := Option.some.inj h
    exact E_z (pc := 32) dX11_isTold_32 rfl rfl hp
  · have h := ite_f q h
    refine V_aload_n (i := 0) (pc := 13) dX11_isTold_13 rfl rfl ?_
    refine V_iload_n (i := 2) (pc := 14) dX11_isTold_14 rfl rfl ?_
    refine V_iconst (v := 0) (pc := 15) dX11_isTold_15 rfl ?_
    obtain ⟨r16, e16, h⟩ := bnd h
    refine V_invV1 (c := 11) (pc := 16) dX11_isTold_16 (e_Mo_ofSort h_this e16) iv_Mo_297 (rm_Mo_isTold_Mo_ofSort _ _ _) rfl h_this cf_11 rfl (Nat.le_of_ble_eq_true rfl) rfl ?_
    refine V_iload_n (i := 1) (pc := 19) dX11_isTold_19 rfl rfl ?_
    refine V_icmp_ne (pc := 20) (tgt := 25) dX11_isTold_20 rfl (fun q => ?_) (fun q => ?_)
    · have h := ite_f q h
      refine V_iinc (i := 2) (v := (v2 + 1)) (ls' := [some (vr this), some (vi v1), some (vi (v2 + 1))]) (pc := 25) dX11_isTold_25 rfl rfl (Nat.le_of_ble_eq_true rfl) rfl ?_
      refine V_goto (tgt := 2) (pc := 28) dX11_isTold_28 rfl ?_
      obtain rfl := Option.some.inj h
      exact hp
    · have h := ite_t q h
      obtain ⟨y2, hu2, rfl⟩ := up_e h
      have h := hu2
      refine V_iconst (v := 1) (pc := 23) dX11_isTold_23 rfl ?_
      obtain rfl := Option.some.inj h
      exact E_z (pc := 24) dX11_isTold_24 rfl rfl hp
theorem k_Mo_isTold {g : GE} {this : Nat} {v1 : Int32} {m : Mem} (h_this : kd this = 12) {r : Option AV} {m' : Mem} {x : Int32} (h : Mo_isTold this v1 m = some x) (hp : (fun x : Int32 => r = some (vi x) ∧ m' = m) x) : V g Y_Mo_isTold 0 [some (vr this), some (vi v1), none] [] m (PM g Y_Mo_isTold r m') := by
  unfold Mo_isTold at h
  refine V_iconst (v := 0) (pc := 0) dX11_isTold_0 rfl ?_
  refine V_istore_n (i := 2) (ls' := [some (vr this), some (vi v1), some (vi 0)]) (pc := 1) dX11_isTold_1 rfl (Nat.le_of_ble_eq_true rfl) rfl ?_
  exact loop_V (A := fun s : Int32 => V g Y_Mo_isTold 2 [some (vr this), some (vi v1), some (vi s)] [] m (PM g Y_Mo_isTold r m')) (fun s x h hp => k_Mo_isTold_l2 h_this h hp) (0) _ h hp
theorem e_Mo_isTold {g : GE} {this : Nat} {v1 : Int32} {m : Mem} (h_this : kd this = 12) {x : Int32} (h : Mo_isTold this v1 m = some x) : Ev g Y_Mo_isTold [vr this, vi v1] m (some (vi x)) m :=
  Ev_of 1 (by decide +kernel) rfl (Nat.le_of_ble_eq_true rfl) rfl (k_Mo_isTold h_this h ⟨rfl, rfl⟩)
theorem k_Mo_peopleOn_b46 {g : GE} {this : Nat} {v1 : Int32} {v2 : Int32} {v4 : Int32} {k0 : Int32} {k1 : Int32}  {m : Mem} (h_this : kd this = 12) {r : Option AV} {m' : Mem} {x : (Int32 × Int32) ⊕ (Int32)} (h : Mo_peopleOn_b46 this v1 v2 v4 k0 k1 m = some x) (hp : (Sum.elim (fun s : Int32 × Int32 => V g Y_Mo_peopleOn 5 [some (vr this), some (vi v1), some (vi v2), some (vi s.1), some (vi s.2)] [] m (PM g Y_Mo_peopleOn r m')) (fun x : Int32 => r = some (vi x) ∧ m' = m)) x) : V g Y_Mo_peopleOn 46 [some (vr this), some (vi v1), some (vi v2), none, some (vi v4)] [vi k1, vi k0] m (PM g Y_Mo_peopleOn r m') := by
  unfold Mo_peopleOn_b46 at h
  refine V_iadd (pc := 46) dX11_peopleOn_46 ?_
  refine V_istore_n (i := 3) (ls' := [some (vr this), some (vi v1), some (vi v2), some (vi (k0 + k1)), some (vi v4)]) (pc := 47) dX11_peopleOn_47 rfl (Nat.le_of_ble_eq_true rfl) rfl ?_
  refine V_iinc (i := 4) (v := (v4 + 1)) (ls' := [some (vr this), some (vi v1), some (vi v2), some (vi (k0 + k1)), some (vi (v4 + 1))]) (pc := 48) dX11_peopleOn_48 rfl rfl (Nat.le_of_ble_eq_true rfl) rfl ?_
  refine V_goto (tgt := 5) (pc := 51) dX11_peopleOn_51 rfl ?_
  obtain rfl := Option.some.inj h
  exact hp
theorem k_Mo_peopleOn_l5 {g : GE} {this : Nat} {v1 : Int32} {v2 : Int32} {v3 : Int32} {v4 : Int32} {m : Mem} (h_this : kd this = 12) {r : Option AV} {m' : Mem} {x : (Int32 × Int32) ⊕ (Int32)} (h : Mo_peopleOn_l5 this v1 v2 v3 v4 m = some x) (hp : (Sum.elim (fun s : Int32 × Int32 => V g Y_Mo_peopleOn 5 [some (vr this), some (vi v1), some (vi v2), some (vi s.1), some (vi s.2)] [] m (PM g Y_Mo_peopleOn r m')) (fun x : Int32 => r = some (vi x) ∧ m' = m)) x) : V g Y_Mo_peopleOn 5 [some (vr this), some (vi v1), some (vi v2), some (vi v3), some (vi v4)] [] m (PM g Y_Mo_peopleOn r m') := by
  unfold Mo_peopleOn_l5 at h
  refine V_iload (i := 4) (pc := 5) dX11_peopleOn_5 rfl ?_
  refine V_iconst (v := 4) (pc := 7) dX11_peopleOn_7 rfl ?_
  refine V_icmp_ge (pc := 8) (tgt := 54) dX11_peopleOn_8 rfl (fun q => ?_) (fun q => ?_)
  · have h := ite_t q h
    obtain ⟨y1, hu1, rfl⟩ := up_e h
    have h := hu1
    refine V_iload_n (i := 3) (pc := 54) dX11_peopleOn_54 rfl rfl ?_
    obtain rfl := Option.some.inj h
    exact E_i (pc := 55) dX11_peopleOn_55 rfl hp
  · have h := ite_f q h
    refine V_iload_n (i := 3) (pc := 11) dX11_peopleOn_11 rfl rfl ?_
    refine V_aload_n (i := 0) (pc := 12) dX11_peopleOn_12 rfl rfl ?_
    refine V_iload_n (i := 1) (pc := 13) dX11_peopleOn_13 rfl rfl ?_
    refine V_aload_n (i := 0) (pc := 14) dX11_peopleOn_14 rfl rfl ?_
    refine V_iload (i := 4) (pc := 15) dX11_peopleOn_15 rfl ?_
    refine V_iconst (v := 0) (pc := 17) dX11_peopleOn_17 rfl ?_
    obtain ⟨r18, e18, h⟩ := bnd h
    refine V_invV1 (c := 11) (pc := 18) dX11_peopleOn_18 (e_Mo_ofGroup h_this e18) iv_Mo_300 (rm_Mo_peopleOn_Mo_ofGroup _ _ _) rfl h_this cf_11 rfl (Nat.le_of_ble_eq_true rfl) rfl ?_
    refine V_aload_n (i := 0) (pc := 21) dX11_peopleOn_21 rfl rfl ?_
    refine V_iload (i := 4) (pc := 22) dX11_peopleOn_22 rfl ?_
    refine V_iconst (v := 1) (pc := 24) dX11_peopleOn_24 rfl ?_
    obtain ⟨r25, e25, h⟩ := bnd h
    refine V_invV1 (c := 11) (pc := 25) dX11_peopleOn_25 (e_Mo_ofGroup h_this e25) iv_Mo_300 (rm_Mo_peopleOn_Mo_ofGroup _ _ _) rfl h_this cf_11 rfl (Nat.le_of_ble_eq_true rfl) rfl ?_
    obtain ⟨r28, e28, h⟩ := bnd h
    refine V_invV1 (c := 11) (pc := 28) dX11_peopleOn_28 (e_Mo_pieceOf h_this e28) iv_Mo_332 (rm_Mo_peopleOn_Mo_pieceOf _ _ _) rfl h_this cf_11 rfl (Nat.le_of_ble_eq_true rfl) rfl ?_
    refine V_iload_n (i := 2) (pc := 31) dX11_peopleOn_31 rfl rfl ?_
    refine V_icmp_ne (pc := 32) (tgt := 45) dX11_peopleOn_32 rfl (fun q => ?_) (fun q => ?_)
    · have h := ite_f q h
      refine V_iconst (v := 0) (pc := 45) dX11_peopleOn_45 rfl ?_
      refine V_sub (ls' := [some (vr this), some (vi v1), some (vi v2), none, some (vi v4)]) (And.intro rfl (And.intro rfl (And.intro rfl (And.intro rfl trivial)))) ?_
      exact k_Mo_peopleOn_b46 h_this h hp
    · have h := ite_t q h
      refine V_aload_n (i := 0) (pc := 35) dX11_peopleOn_35 rfl rfl ?_
      refine V_iload (i := 4) (pc := 36) dX11_peopleOn_36 rfl ?_
      refine V_iconst (v := 2) (pc := 38) dX11_peopleOn_38 rfl ?_
      obtain ⟨r39, e39, h⟩ := bnd h
      refine V_invV1 (c := 11) (pc := 39) dX11_peopleOn_39 (e_Mo_ofGroup h_this e39) iv_Mo_300 (rm_Mo_peopleOn_Mo_ofGroup _ _ _) rfl h_this cf_11 rfl (Nat.le_of_ble_eq_true rfl) rfl ?_
      refine V_goto (tgt := 46) (pc := 42) dX11_peopleOn_42 rfl ?_
      refine V_sub (ls' := [some (vr this), some (vi v1), some (vi v2), none, some (vi v4)]) (And.intro rfl (And.intro rfl (And.intro rfl (And.intro rfl trivial)))) ?_
      exact k_Mo_peopleOn_b46 h_this h hp
theorem k_Mo_peopleOn {g : GE} {this : Nat} {v1 : Int32} {v2 : Int32} {m : Mem} (h_this : kd this = 12) {r : Option AV} {m' : Mem} {x : Int32} (h : Mo_peopleOn this v1 v2 m = some x) (hp : (fun x : Int32 => r = some (vi x) ∧ m' = m) x) : V g Y_Mo_peopleOn 0 [some (vr this), some (vi v1), some (vi v2), none, none] [] m (PM g Y_Mo_peopleOn r m') := by
  unfold Mo_peopleOn at h
  refine V_iconst (v := 0) (pc := 0) dX11_peopleOn_0 rfl ?_
  refine V_istore_n (i := 3) (ls' := [some (vr this), some (vi v1), some (vi v2), some (vi 0), none]) (pc := 1) dX11_peopleOn_1 rfl (Nat.le_of_ble_eq_true rfl) rfl ?_
  refine V_iconst (v := 0) (pc := 2) dX11_peopleOn_2 rfl ?_
  refine V_istore (i := 4) (ls' := [some (vr this), some (vi v1), some (vi v2), some (vi 0), some (vi 0)]) (pc := 3) dX11_peopleOn_3 (Nat.le_of_ble_eq_true rfl) rfl ?_
  exact loop_V (A := fun s : Int32 × Int32 => V g Y_Mo_peopleOn 5 [some (vr this), some (vi v1), some (vi v2), some (vi s.1), some (vi s.2)] [] m (PM g Y_Mo_peopleOn r m')) (fun s x h hp => k_Mo_peopleOn_l5 h_this h hp) (0, 0) _ h hp
theorem e_Mo_peopleOn {g : GE} {this : Nat} {v1 : Int32} {v2 : Int32} {m : Mem} (h_this : kd this = 12) {x : Int32} (h : Mo_peopleOn this v1 v2 m = some x) : Ev g Y_Mo_peopleOn [vr this, vi v1, vi v2] m (some (vi x)) m :=
  Ev_of 2 (by decide +kernel) rfl (Nat.le_of_ble_eq_true rfl) rfl (k_Mo_peopleOn h_this h ⟨rfl, rfl⟩)
theorem k_Mo_needOf {g : GE} {v0 : Int32} {v1 : Int32} {v2 : Int32} {m : Mem} {r : Option AV} {m' : Mem} {x : Int32} (h : Mo_needOf v0 v1 v2 m = some x) (hp : (fun x : Int32 => r = some (vi x) ∧ m' = m) x) : V g Y_Mo_needOf 0 [some (vi v0), some (vi v1), some (vi v2)] [] m (PM g Y_Mo_needOf r m') := by
  unfold Mo_needOf at h
  refine V_iload_n (i := 2) (pc := 0) dX11_needOf_0 rfl rfl ?_
  refine V_if_ne (pc := 1) (tgt := 10) dX11_needOf_1 rfl (fun q => ?_) (fun q => ?_)
  · have h := ite_f q h
    refine V_iload_n (i := 0) (pc := 10) dX11_needOf_10 rfl rfl ?_
    obtain rfl := Option.some.inj h
    exact E_i (pc := 11) dX11_needOf_11 rfl hp
  · have h := ite_t q h
    refine V_iload_n (i := 0) (pc := 4) dX11_needOf_4 rfl rfl ?_
    refine V_iload_n (i := 1) (pc := 5) dX11_needOf_5 rfl rfl ?_
    refine V_imul (pc := 6) dX11_needOf_6 ?_
    refine V_goto (tgt := 11) (pc := 7) dX11_needOf_7 rfl ?_
    obtain rfl := Option.some.inj h
    exact E_i (pc := 11) dX11_needOf_11 rfl hp
theorem e_Mo_needOf {g : GE} {v0 : Int32} {v1 : Int32} {v2 : Int32} {m : Mem} {x : Int32} (h : Mo_needOf v0 v1 v2 m = some x) : Ev g Y_Mo_needOf [vi v0, vi v1, vi v2] m (some (vi x)) m :=
  Ev_of 0 (by decide +kernel) rfl (Nat.le_of_ble_eq_true rfl) rfl (k_Mo_needOf  h ⟨rfl, rfl⟩)
theorem k_Mo_givesIn_b50 {g : GE} {this : Nat} {v1 : Int32} {v2 : Int32} {v4 : Int32} {k0 : Int32} {k1 : Int32}  {m : Mem} (h_this : kd this = 12) {r : Option AV} {m' : Mem} {x : (Int32 × Int32) ⊕ (Int32)} (h : Mo_givesIn_b50 this v1 v2 v4 k0 k1 m = some x) (hp : (Sum.elim (fun s : Int32 × Int32 => V g Y_Mo_givesIn 5 [some (vr this), some (vi v1), some (vi v2), some (vi s.1), some (vi s.2)] [] m (PM g Y_Mo_givesIn r m')) (fun x : Int32 => r = some (vi x) ∧ m' = m)) x) : V g Y_Mo_givesIn 50 [some (vr this), some (vi v1), some (vi v2), none, some (vi v4)] [vi k1, vi k0] m (PM g Y_Mo_givesIn r m') := by
  unfold Mo_givesIn_b50 at h
  refine V_iadd (pc := 50) dX11_givesIn_50 ?_
  refine V_istore_n (i := 3) (ls' := [some (vr this), some (vi v1), some (vi v2), some (vi (k0 + k1)), some (vi v4)]) (pc := 51) dX11_givesIn_51 rfl (Nat.le_of_ble_eq_true rfl) rfl ?_
  refine V_iinc (i := 4) (v := (v4 + 1)) (ls' := [some (vr this), some (vi v1), some (vi v2), some (vi (k0 + k1)), some (vi (v4 + 1))]) (pc := 52) dX11_givesIn_52 rfl rfl (Nat.le_of_ble_eq_true rfl) rfl ?_
  refine V_goto (tgt := 5) (pc := 55) dX11_givesIn_55 rfl ?_
  obtain rfl := Option.some.inj h
  exact hp
theorem k_Mo_givesIn_l5 {g : GE} {this : Nat} {v1 : Int32} {v2 : Int32} {v3 : Int32} {v4 : Int32} {m : Mem} (h_this : kd this = 12) {r : Option AV} {m' : Mem} {x : (Int32 × Int32) ⊕ (Int32)} (h : Mo_givesIn_l5 this v1 v2 v3 v4 m = some x) (hp : (Sum.elim (fun s : Int32 × Int32 => V g Y_Mo_givesIn 5 [some (vr this), some (vi v1), some (vi v2), some (vi s.1), some (vi s.2)] [] m (PM g Y_Mo_givesIn r m')) (fun x : Int32 => r = some (vi x) ∧ m' = m)) x) : V g Y_Mo_givesIn 5 [some (vr this), some (vi v1), some (vi v2), some (vi v3), some (vi v4)] [] m (PM g Y_Mo_givesIn r m') := by
  unfold Mo_givesIn_l5 at h
  refine V_iload (i := 4) (pc := 5) dX11_givesIn_5 rfl ?_
  refine V_aload_n (i := 0) (pc := 7) dX11_givesIn_7 rfl rfl ?_
  refine V_getR (b := (this + 1)) (pc := 8) dX11_givesIn_8 fl_Mo_13 h_this rfl rfl ?_
  refine V_bipush (v := 6) (pc := 11) dX11_givesIn_11 rfl ?_
  obtain ⟨hg13, h⟩ := gd_e h
  refine V_iald (pc := 13) dX11_givesIn_13 (kf_11_1 h_this) (af_11_1 h_this) hg13 ?_
  refine V_icmp_ge (pc := 14) (tgt := 58) dX11_givesIn_14 rfl (fun q => ?_) (fun q => ?_)
  · have h := ite_t q h
    obtain ⟨y1, hu1, rfl⟩ := up_e h
    have h := hu1
    refine V_iload_n (i := 3) (pc := 58) dX11_givesIn_58 rfl rfl ?_
    obtain rfl := Option.some.inj h
    exact E_i (pc := 59) dX11_givesIn_59 rfl hp
  · have h := ite_f q h
    refine V_iload_n (i := 3) (pc := 17) dX11_givesIn_17 rfl rfl ?_
    refine V_aload_n (i := 0) (pc := 18) dX11_givesIn_18 rfl rfl ?_
    refine V_iload (i := 4) (pc := 19) dX11_givesIn_19 rfl ?_
    refine V_iconst (v := 0) (pc := 21) dX11_givesIn_21 rfl ?_
    obtain ⟨r22, e22, h⟩ := bnd h
    refine V_invV1 (c := 11) (pc := 22) dX11_givesIn_22 (e_Mo_ofSort h_this e22) iv_Mo_297 (rm_Mo_givesIn_Mo_ofSort _ _ _) rfl h_this cf_11 rfl (Nat.le_of_ble_eq_true rfl) rfl ?_
    refine V_iload_n (i := 2) (pc := 25) dX11_givesIn_25 rfl rfl ?_
    refine V_icmp_ne (pc := 26) (tgt := 49) dX11_givesIn_26 rfl (fun q => ?_) (fun q => ?_)
    · have h := ite_f q h
      refine V_iconst (v := 0) (pc := 49) dX11_givesIn_49 rfl ?_
      refine V_sub (ls' := [some (vr this), some (vi v1), some (vi v2), none, some (vi v4)]) (And.intro rfl (And.intro rfl (And.intro rfl (And.intro rfl trivial)))) ?_
      exact k_Mo_givesIn_b50 h_this h hp
    · have h := ite_t q h
      refine V_aload_n (i := 0) (pc := 29) dX11_givesIn_29 rfl rfl ?_
      refine V_iload_n (i := 1) (pc := 30) dX11_givesIn_30 rfl rfl ?_
      refine V_iconst (v := 3) (pc := 31) dX11_givesIn_31 rfl ?_
      refine V_iload (i := 4) (pc := 32) dX11_givesIn_32 rfl ?_
      refine V_iadd (pc := 34) dX11_givesIn_34 ?_
      obtain ⟨r35, e35, h⟩ := bnd h
      refine V_invV1 (c := 11) (pc := 35) dX11_givesIn_35 (e_Mo_ofHeap h_this e35) iv_Mo_88 (rm_Mo_givesIn_Mo_ofHeap _ _ _) rfl h_this cf_11 rfl (Nat.le_of_ble_eq_true rfl) rfl ?_
      refine V_aload_n (i := 0) (pc := 38) dX11_givesIn_38 rfl rfl ?_
      refine V_iload (i := 4) (pc := 39) dX11_givesIn_39 rfl ?_
      refine V_iconst (v := 1) (pc := 41) dX11_givesIn_41 rfl ?_
      obtain ⟨r42, e42, h⟩ := bnd h
      refine V_invV1 (c := 11) (pc := 42) dX11_givesIn_42 (e_Mo_ofSort h_this e42) iv_Mo_297 (rm_Mo_givesIn_Mo_ofSort _ _ _) rfl h_this cf_11 rfl (Nat.le_of_ble_eq_true rfl) rfl ?_
      refine V_imul (pc := 45) dX11_givesIn_45 ?_
      refine V_goto (tgt := 50) (pc := 46) dX11_givesIn_46 rfl ?_
      refine V_sub (ls' := [some (vr this), some (vi v1), some (vi v2), none, some (vi v4)]) (And.intro rfl (And.intro rfl (And.intro rfl (And.intro rfl trivial)))) ?_
      exact k_Mo_givesIn_b50 h_this h hp
theorem k_Mo_givesIn {g : GE} {this : Nat} {v1 : Int32} {v2 : Int32} {m : Mem} (h_this : kd this = 12) {r : Option AV} {m' : Mem} {x : Int32} (h : Mo_givesIn this v1 v2 m = some x) (hp : (fun x : Int32 => r = some (vi x) ∧ m' = m) x) : V g Y_Mo_givesIn 0 [some (vr this), some (vi v1), some (vi v2), none, none] [] m (PM g Y_Mo_givesIn r m') := by
  unfold Mo_givesIn at h
  refine V_iconst (v := 0) (pc := 0) dX11_givesIn_0 rfl ?_
  refine V_istore_n (i := 3) (ls' := [some (vr this), some (vi v1), some (vi v2), some (vi 0), none]) (pc := 1) dX11_givesIn_1 rfl (Nat.le_of_ble_eq_true rfl) rfl ?_
  refine V_iconst (v := 0) (pc := 2) dX11_givesIn_2 rfl ?_
  refine V_istore (i := 4) (ls' := [some (vr this), some (vi v1), some (vi v2), some (vi 0), some (vi 0)]) (pc := 3) dX11_givesIn_3 (Nat.le_of_ble_eq_true rfl) rfl ?_
  exact loop_V (A := fun s : Int32 × Int32 => V g Y_Mo_givesIn 5 [some (vr this), some (vi v1), some (vi v2), some (vi s.1), some (vi s.2)] [] m (PM g Y_Mo_givesIn r m')) (fun s x h hp => k_Mo_givesIn_l5 h_this h hp) (0, 0) _ h hp
theorem e_Mo_givesIn {g : GE} {this : Nat} {v1 : Int32} {v2 : Int32} {m : Mem} (h_this : kd this = 12) {x : Int32} (h : Mo_givesIn this v1 v2 m = some x) : Ev g Y_Mo_givesIn [vr this, vi v1, vi v2] m (some (vi x)) m :=
  Ev_of 2 (by decide +kernel) rfl (Nat.le_of_ble_eq_true rfl) rfl (k_Mo_givesIn h_this h ⟨rfl, rfl⟩)
theorem k_Mo_givenOn_b58 {g : GE} {this : Nat} {v1 : Int32} {v2 : Int32} {v3 : Int32} {v5 : Int32} {k0 : Int32} {k1 : Int32}  {m : Mem} (h_this : kd this = 12) {r : Option AV} {m' : Mem} {x : (Int32 × Int32) ⊕ (Int32)} (h : Mo_givenOn_b58 this v1 v2 v3 v5 k0 k1 m = some x) (hp : (Sum.elim (fun s : Int32 × Int32 => V g Y_Mo_givenOn 6 [some (vr this), some (vi v1), some (vi v2), some (vi v3), some (vi s.1), some (vi s.2)] [] m (PM g Y_Mo_givenOn r m')) (fun x : Int32 => r = some (vi x) ∧ m' = m)) x) : V g Y_Mo_givenOn 58 [some (vr this), some (vi v1), some (vi v2), some (vi v3), none, some (vi v5)] [vi k1, vi k0] m (PM g Y_Mo_givenOn r m') := by
  unfold Mo_givenOn_b58 at h
  refine V_iadd (pc := 58) dX11_givenOn_58 ?_
  refine V_istore (i := 4) (ls' := [some (vr this), some (vi v1), some (vi v2), some (vi v3), some (vi (k0 + k1)), some (vi v5)]) (pc := 59) dX11_givenOn_59 (Nat.le_of_ble_eq_true rfl) rfl ?_
  refine V_iinc (i := 5) (v := (v5 + 1)) (ls' := [some (vr this), some (vi v1), some (vi v2), some (vi v3), some (vi (k0 + k1)), some (vi (v5 + 1))]) (pc := 61) dX11_givenOn_61 rfl rfl (Nat.le_of_ble_eq_true rfl) rfl ?_
  refine V_goto (tgt := 6) (pc := 64) dX11_givenOn_64 rfl ?_
  obtain rfl := Option.some.inj h
  exact hp
theorem k_Mo_givenOn_b57 {g : GE} {this : Nat} {v1 : Int32} {v2 : Int32} {v3 : Int32} {v5 : Int32} {k0 : Int32}  {m : Mem} (h_this : kd this = 12) {r : Option AV} {m' : Mem} {x : (Int32 × Int32) ⊕ (Int32)} (h : Mo_givenOn_b57 this v1 v2 v3 v5 k0 m = some x) (hp : (Sum.elim (fun s : Int32 × Int32 => V g Y_Mo_givenOn 6 [some (vr this), some (vi v1), some (vi v2), some (vi v3), some (vi s.1), some (vi s.2)] [] m (PM g Y_Mo_givenOn r m')) (fun x : Int32 => r = some (vi x) ∧ m' = m)) x) : V g Y_Mo_givenOn 57 [some (vr this), some (vi v1), some (vi v2), some (vi v3), none, some (vi v5)] [vi k0] m (PM g Y_Mo_givenOn r m') := by
  unfold Mo_givenOn_b57 at h
  refine V_iconst (v := 0) (pc := 57) dX11_givenOn_57 rfl ?_
  exact k_Mo_givenOn_b58 h_this h hp
theorem k_Mo_givenOn_l6 {g : GE} {this : Nat} {v1 : Int32} {v2 : Int32} {v3 : Int32} {v4 : Int32} {v5 : Int32} {m : Mem} (h_this : kd this = 12) {r : Option AV} {m' : Mem} {x : (Int32 × Int32) ⊕ (Int32)} (h : Mo_givenOn_l6 this v1 v2 v3 v4 v5 m = some x) (hp : (Sum.elim (fun s : Int32 × Int32 => V g Y_Mo_givenOn 6 [some (vr this), some (vi v1), some (vi v2), some (vi v3), some (vi s.1), some (vi s.2)] [] m (PM g Y_Mo_givenOn r m')) (fun x : Int32 => r = some (vi x) ∧ m' = m)) x) : V g Y_Mo_givenOn 6 [some (vr this), some (vi v1), some (vi v2), some (vi v3), some (vi v4), some (vi v5)] [] m (PM g Y_Mo_givenOn r m') := by
  unfold Mo_givenOn_l6 at h
  refine V_iload (i := 5) (pc := 6) dX11_givenOn_6 rfl ?_
  refine V_bipush (v := 8) (pc := 8) dX11_givenOn_8 rfl ?_
  refine V_icmp_ge (pc := 10) (tgt := 67) dX11_givenOn_10 rfl (fun q => ?_) (fun q => ?_)
  · have h := ite_t q h
    obtain ⟨y1, hu1, rfl⟩ := up_e h
    have h := hu1
    refine V_iload (i := 4) (pc := 67) dX11_givenOn_67 rfl ?_
    obtain rfl := Option.some.inj h
    exact E_i (pc := 69) dX11_givenOn_69 rfl hp
  · have h := ite_f q h
    refine V_iload (i := 4) (pc := 13) dX11_givenOn_13 rfl ?_
    refine V_aload_n (i := 0) (pc := 15) dX11_givenOn_15 rfl rfl ?_
    refine V_iload (i := 5) (pc := 16) dX11_givenOn_16 rfl ?_
    obtain ⟨r18, e18, h⟩ := bnd h
    refine V_invV1 (c := 11) (pc := 18) dX11_givenOn_18 (e_Mo_isThere h_this e18) iv_Mo_288 (rm_Mo_givenOn_Mo_isThere _ _ _) rfl h_this cf_11 rfl (Nat.le_of_ble_eq_true rfl) rfl ?_
    refine V_if_eq (pc := 21) (tgt := 57) dX11_givenOn_21 rfl (fun q => ?_) (fun q => ?_)
    · have h := ite_t q h
      refine V_sub (ls' := [some (vr this), some (vi v1), some (vi v2), some (vi v3), none, some (vi v5)]) (And.intro rfl (And.intro rfl (And.intro rfl (And.intro rfl (And.intro rfl trivial))))) ?_
      exact k_Mo_givenOn_b57 h_this h hp
    · have h := ite_f q h
      refine V_aload_n (i := 0) (pc := 24) dX11_givenOn_24 rfl rfl ?_
      refine V_iload_n (i := 1) (pc := 25) dX11_givenOn_25 rfl rfl ?_
      refine V_aload_n (i := 0) (pc := 26) dX11_givenOn_26 rfl rfl ?_
      refine V_iload (i := 5) (pc := 27) dX11_givenOn_27 rfl ?_
      refine V_iconst (v := 1) (pc := 29) dX11_givenOn_29 rfl ?_
      obtain ⟨r30, e30, h⟩ := bnd h
      refine V_invV1 (c := 11) (pc := 30) dX11_givenOn_30 (e_Mo_ofHeap h_this e30) iv_Mo_88 (rm_Mo_givenOn_Mo_ofHeap _ _ _) rfl h_this cf_11 rfl (Nat.le_of_ble_eq_true rfl) rfl ?_
      refine V_aload_n (i := 0) (pc := 33) dX11_givenOn_33 rfl rfl ?_
      refine V_iload (i := 5) (pc := 34) dX11_givenOn_34 rfl ?_
      refine V_iconst (v := 2) (pc := 36) dX11_givenOn_36 rfl ?_
      obtain ⟨r37, e37, h⟩ := bnd h
      refine V_invV1 (c := 11) (pc := 37) dX11_givenOn_37 (e_Mo_ofHeap h_this e37) iv_Mo_88 (rm_Mo_givenOn_Mo_ofHeap _ _ _) rfl h_this cf_11 rfl (Nat.le_of_ble_eq_true rfl) rfl ?_
      obtain ⟨r40, e40, h⟩ := bnd h
      refine V_invV1 (c := 11) (pc := 40) dX11_givenOn_40 (e_Mo_pieceOf h_this e40) iv_Mo_332 (rm_Mo_givenOn_Mo_pieceOf _ _ _) rfl h_this cf_11 rfl (Nat.le_of_ble_eq_true rfl) rfl ?_
      refine V_iload_n (i := 2) (pc := 43) dX11_givenOn_43 rfl rfl ?_
      refine V_icmp_ne (pc := 44) (tgt := 57) dX11_givenOn_44 rfl (fun q => ?_) (fun q => ?_)
      · have h := ite_f q h
        refine V_sub (ls' := [some (vr this), some (vi v1), some (vi v2), some (vi v3), none, some (vi v5)]) (And.intro rfl (And.intro rfl (And.intro rfl (And.intro rfl (And.intro rfl trivial))))) ?_
        exact k_Mo_givenOn_b57 h_this h hp
      · have h := ite_t q h
        refine V_aload_n (i := 0) (pc := 47) dX11_givenOn_47 rfl rfl ?_
        refine V_iload (i := 5) (pc := 48) dX11_givenOn_48 rfl ?_
        refine V_iload_n (i := 3) (pc := 50) dX11_givenOn_50 rfl rfl ?_
        obtain ⟨r51, e51, h⟩ := bnd h
        refine V_invV1 (c := 11) (pc := 51) dX11_givenOn_51 (e_Mo_givesIn h_this e51) iv_Mo_356 (rm_Mo_givenOn_Mo_givesIn _ _ _) rfl h_this cf_11 rfl (Nat.le_of_ble_eq_true rfl) rfl ?_
        refine V_goto (tgt := 58) (pc := 54) dX11_givenOn_54 rfl ?_
        refine V_sub (ls' := [some (vr this), some (vi v1), some (vi v2), some (vi v3), none, some (vi v5)]) (And.intro rfl (And.intro rfl (And.intro rfl (And.intro rfl (And.intro rfl trivial))))) ?_
        exact k_Mo_givenOn_b58 h_this h hp
theorem k_Mo_givenOn {g : GE} {this : Nat} {v1 : Int32} {v2 : Int32} {v3 : Int32} {m : Mem} (h_this : kd this = 12) {r : Option AV} {m' : Mem} {x : Int32} (h : Mo_givenOn this v1 v2 v3 m = some x) (hp : (fun x : Int32 => r = some (vi x) ∧ m' = m) x) : V g Y_Mo_givenOn 0 [some (vr this), some (vi v1), some (vi v2), some (vi v3), none, none] [] m (PM g Y_Mo_givenOn r m') := by
  unfold Mo_givenOn at h
  refine V_iconst (v := 0) (pc := 0) dX11_givenOn_0 rfl ?_
  refine V_istore (i := 4) (ls' := [some (vr this), some (vi v1), some (vi v2), some (vi v3), some (vi 0), none]) (pc := 1) dX11_givenOn_1 (Nat.le_of_ble_eq_true rfl) rfl ?_
  refine V_iconst (v := 0) (pc := 3) dX11_givenOn_3 rfl ?_
  refine V_istore (i := 5) (ls' := [some (vr this), some (vi v1), some (vi v2), some (vi v3), some (vi 0), some (vi 0)]) (pc := 4) dX11_givenOn_4 (Nat.le_of_ble_eq_true rfl) rfl ?_
  exact loop_V (A := fun s : Int32 × Int32 => V g Y_Mo_givenOn 6 [some (vr this), some (vi v1), some (vi v2), some (vi v3), some (vi s.1), some (vi s.2)] [] m (PM g Y_Mo_givenOn r m')) (fun s x h hp => k_Mo_givenOn_l6 h_this h hp) (0, 0) _ h hp
theorem e_Mo_givenOn {g : GE} {this : Nat} {v1 : Int32} {v2 : Int32} {v3 : Int32} {m : Mem} (h_this : kd this = 12) {x : Int32} (h : Mo_givenOn this v1 v2 v3 m = some x) : Ev g Y_Mo_givenOn [vr this, vi v1, vi v2, vi v3] m (some (vi x)) m :=
  Ev_of 2 (by decide +kernel) rfl (Nat.le_of_ble_eq_true rfl) rfl (k_Mo_givenOn h_this h ⟨rfl, rfl⟩)
theorem k_Mo_lacksAt_b64 {g : GE} {this : Nat} {v1 : Int32} {v2 : Int32} {v3 : Int32} {v4 : Int32} {v5 : Int32}  {m : Mem} (h_this : kd this = 12) {r : Option AV} {m' : Mem} {x : (Int32) ⊕ (Int32)} (h : Mo_lacksAt_b64 this v1 v2 v3 v4 v5 m = some x) (hp : (Sum.elim (fun s : Int32 => V g Y_Mo_lacksAt 22 [some (vr this), some (vi v1), some (vi v2), some (vi v3), some (vi v4), some (vi s)] [] m (PM g Y_Mo_lacksAt r m')) (fun x : Int32 => r = some (vi x) ∧ m' = m)) x) : V g Y_Mo_lacksAt 64 [some (vr this), some (vi v1), some (vi v2), some (vi v3), some (vi v4), some (vi v5)] [] m (PM g Y_Mo_lacksAt r m') := by
  unfold Mo_lacksAt_b64 at h
  refine V_iinc (i := 5) (v := (v5 + 1)) (ls' := [some (vr this), some (vi v1), some (vi v2), some (vi v3), some (vi v4), some (vi (v5 + 1))]) (pc := 64) dX11_lacksAt_64 rfl rfl (Nat.le_of_ble_eq_true rfl) rfl ?_
  refine V_goto (tgt := 22) (pc := 67) dX11_lacksAt_67 rfl ?_
  obtain rfl := Option.some.inj h
  exact hp
theorem k_Mo_lacksAt_l22 {g : GE} {this : Nat} {v1 : Int32} {v2 : Int32} {v3 : Int32} {v4 : Int32} {v5 : Int32} {m : Mem} (h_this : kd this = 12) {r : Option AV} {m' : Mem} {x : (Int32) ⊕ (Int32)} (h : Mo_lacksAt_l22 this v1 v2 v3 v4 v5 m = some x) (hp : (Sum.elim (fun s : Int32 => V g Y_Mo_lacksAt 22 [some (vr this), some (vi v1), some (vi v2), some (vi v3), some (vi v4), some (vi s)] [] m (PM g Y_Mo_lacksAt r m')) (fun x : Int32 => r = some (vi x) ∧ m' = m)) x) : V g Y_Mo_lacksAt 22 [some (vr this), some (vi v1), some (vi v2), some (vi v3), some (vi v4), some (vi v5)] [] m (PM g Y_Mo_lacksAt r m') := by
  unfold Mo_lacksAt_l22 at h
  refine V_iload (i := 5) (pc := 22) dX11_lacksAt_22 rfl ?_
  refine V_iload_n (i := 2) (pc := 24) dX11_lacksAt_24 rfl rfl ?_
  refine V_icmp_ge (pc := 25) (tgt := 70) dX11_lacksAt_25 rfl (fun q => ?_) (fun q => ?_)
  · have h := ite_t q h
    obtain ⟨y1, hu1, rfl⟩ := up_e h
    have h := hu1
    refine V_aload_n (i := 0) (pc := 70) dX11_lacksAt_70 rfl rfl ?_
    refine V_iload_n (i := 1) (pc := 71) dX11_lacksAt_71 rfl rfl ?_
    refine V_iload (i := 4) (pc := 72) dX11_lacksAt_72 rfl ?_
    obtain ⟨r74, e74, h⟩ := bnd h
    refine V_invV1 (c := 11) (pc := 74) dX11_lacksAt_74 (e_Mo_peopleOn h_this e74) iv_Mo_359 (rm_Mo_lacksAt_Mo_peopleOn _ _ _) rfl h_this cf_11 rfl (Nat.le_of_ble_eq_true rfl) rfl ?_
    refine V_istore (i := 5) (ls' := [some (vr this), some (vi v1), some (vi v2), some (vi v3), some (vi v4), some (vi r74)]) (pc := 77) dX11_lacksAt_77 (Nat.le_of_ble_eq_true rfl) rfl ?_
    refine V_iload (i := 5) (pc := 79) dX11_lacksAt_79 rfl ?_
    refine V_if_ne (pc := 81) (tgt := 88) dX11_lacksAt_81 rfl (fun q => ?_) (fun q => ?_)
    · have h := ite_f q h
      refine V_iconst (v := 0) (pc := 88) dX11_lacksAt_88 rfl ?_
      refine V_iload (i := 5) (pc := 89) dX11_lacksAt_89 rfl ?_
      refine V_aload_n (i := 0) (pc := 91) dX11_lacksAt_91 rfl rfl ?_
      refine V_getR (b := (this + 1)) (pc := 92) dX11_lacksAt_92 fl_Mo_13 h_this rfl rfl ?_
      refine V_iconst (v := 4) (pc := 95) dX11_lacksAt_95 rfl ?_
      obtain ⟨hg96, h⟩ := gd_e h
      refine V_iald (pc := 96) dX11_lacksAt_96 (kf_11_1 h_this) (af_11_1 h_this) hg96 ?_
      refine V_iload_n (i := 3) (pc := 97) dX11_lacksAt_97 rfl rfl ?_
      obtain ⟨r98, e98, h⟩ := bnd h
      refine V_invS1 (pc := 98) dX11_lacksAt_98 (e_Mo_needOf  e98) is_Mo_362 (rm_Mo_lacksAt_Mo_needOf _ _ _) rfl (Nat.le_of_ble_eq_true rfl) rfl ?_
      refine V_aload_n (i := 0) (pc := 101) dX11_lacksAt_101 rfl rfl ?_
      refine V_iload_n (i := 1) (pc := 102) dX11_lacksAt_102 rfl rfl ?_
      refine V_iload (i := 4) (pc := 103) dX11_lacksAt_103 rfl ?_
      refine V_iload_n (i := 3) (pc := 105) dX11_lacksAt_105 rfl rfl ?_
      obtain ⟨r106, e106, h⟩ := bnd h
      refine V_invV1 (c := 11) (pc := 106) dX11_lacksAt_106 (e_Mo_givenOn h_this e106) iv_Mo_365 (rm_Mo_lacksAt_Mo_givenOn _ _ _) rfl h_this cf_11 rfl (Nat.le_of_ble_eq_true rfl) rfl ?_
      refine V_isub (pc := 109) dX11_lacksAt_109 ?_
      refine V_mmax (pc := 110) dX11_lacksAt_110 ma_Mo_368 (rmM_Mo_lacksAt _ _ _) (Nat.le_of_ble_eq_true rfl) ?_
      obtain rfl := Option.some.inj h
      exact E_i (pc := 113) dX11_lacksAt_113 rfl hp
    · have h := ite_t q h
      refine V_iconst (v := 0) (pc := 84) dX11_lacksAt_84 rfl ?_
      refine V_goto (tgt := 113) (pc := 85) dX11_lacksAt_85 rfl ?_
      obtain rfl := Option.some.inj h
      exact E_i (pc := 113) dX11_lacksAt_113 rfl hp
  · have h := ite_f q h
    refine V_aload_n (i := 0) (pc := 28) dX11_lacksAt_28 rfl rfl ?_
    refine V_iload_n (i := 1) (pc := 29) dX11_lacksAt_29 rfl rfl ?_
    refine V_aload_n (i := 0) (pc := 30) dX11_lacksAt_30 rfl rfl ?_
    refine V_iload (i := 5) (pc := 31) dX11_lacksAt_31 rfl ?_
    refine V_iconst (v := 0) (pc := 33) dX11_lacksAt_33 rfl ?_
    obtain ⟨r34, e34, h⟩ := bnd h
    refine V_invV1 (c := 11) (pc := 34) dX11_lacksAt_34 (e_Mo_ofGroup h_this e34) iv_Mo_300 (rm_Mo_lacksAt_Mo_ofGroup _ _ _) rfl h_this cf_11 rfl (Nat.le_of_ble_eq_true rfl) rfl ?_
    refine V_aload_n (i := 0) (pc := 37) dX11_lacksAt_37 rfl rfl ?_
    refine V_iload (i := 5) (pc := 38) dX11_lacksAt_38 rfl ?_
    refine V_iconst (v := 1) (pc := 40) dX11_lacksAt_40 rfl ?_
    obtain ⟨r41, e41, h⟩ := bnd h
    refine V_invV1 (c := 11) (pc := 41) dX11_lacksAt_41 (e_Mo_ofGroup h_this e41) iv_Mo_300 (rm_Mo_lacksAt_Mo_ofGroup _ _ _) rfl h_this cf_11 rfl (Nat.le_of_ble_eq_true rfl) rfl ?_
    obtain ⟨r44, e44, h⟩ := bnd h
    refine V_invV1 (c := 11) (pc := 44) dX11_lacksAt_44 (e_Mo_pieceOf h_this e44) iv_Mo_332 (rm_Mo_lacksAt_Mo_pieceOf _ _ _) rfl h_this cf_11 rfl (Nat.le_of_ble_eq_true rfl) rfl ?_
    refine V_iload (i := 4) (pc := 47) dX11_lacksAt_47 rfl ?_
    refine V_icmp_ne (pc := 49) (tgt := 64) dX11_lacksAt_49 rfl (fun q => ?_) (fun q => ?_)
    · have h := ite_f q h
      exact k_Mo_lacksAt_b64 h_this h hp
    · have h := ite_t q h
      refine V_aload_n (i := 0) (pc := 52) dX11_lacksAt_52 rfl rfl ?_
      refine V_iload (i := 5) (pc := 53) dX11_lacksAt_53 rfl ?_
      refine V_iconst (v := 2) (pc := 55) dX11_lacksAt_55 rfl ?_
      obtain ⟨r56, e56, h⟩ := bnd h
      refine V_invV1 (c := 11) (pc := 56) dX11_lacksAt_56 (e_Mo_ofGroup h_this e56) iv_Mo_300 (rm_Mo_lacksAt_Mo_ofGroup _ _ _) rfl h_this cf_11 rfl (Nat.le_of_ble_eq_true rfl) rfl ?_
      refine V_if_le (pc := 59) (tgt := 64) dX11_lacksAt_59 rfl (fun q => ?_) (fun q => ?_)
      · have h := ite_t q h
        exact k_Mo_lacksAt_b64 h_this h hp
      · have h := ite_f q h
        obtain ⟨y2, hu2, rfl⟩ := up_e h
        have h := hu2
        refine V_iconst (v := 0) (pc := 62) dX11_lacksAt_62 rfl ?_
        obtain rfl := Option.some.inj h
        exact E_i (pc := 63) dX11_lacksAt_63 rfl hp
theorem k_Mo_lacksAt {g : GE} {this : Nat} {v1 : Int32} {v2 : Int32} {v3 : Int32} {m : Mem} (h_this : kd this = 12) {r : Option AV} {m' : Mem} {x : Int32} (h : Mo_lacksAt this v1 v2 v3 m = some x) (hp : (fun x : Int32 => r = some (vi x) ∧ m' = m) x) : V g Y_Mo_lacksAt 0 [some (vr this), some (vi v1), some (vi v2), some (vi v3), none, none] [] m (PM g Y_Mo_lacksAt r m') := by
  unfold Mo_lacksAt at h
  refine V_aload_n (i := 0) (pc := 0) dX11_lacksAt_0 rfl rfl ?_
  refine V_iload_n (i := 1) (pc := 1) dX11_lacksAt_1 rfl rfl ?_
  refine V_aload_n (i := 0) (pc := 2) dX11_lacksAt_2 rfl rfl ?_
  refine V_iload_n (i := 2) (pc := 3) dX11_lacksAt_3 rfl rfl ?_
  refine V_iconst (v := 0) (pc := 4) dX11_lacksAt_4 rfl ?_
  obtain ⟨r5, e5, h⟩ := bnd h
  refine V_invV1 (c := 11) (pc := 5) dX11_lacksAt_5 (e_Mo_ofGroup h_this e5) iv_Mo_300 (rm_Mo_lacksAt_Mo_ofGroup _ _ _) rfl h_this cf_11 rfl (Nat.le_of_ble_eq_true rfl) rfl ?_
  refine V_aload_n (i := 0) (pc := 8) dX11_lacksAt_8 rfl rfl ?_
  refine V_iload_n (i := 2) (pc := 9) dX11_lacksAt_9 rfl rfl ?_
  refine V_iconst (v := 1) (pc := 10) dX11_lacksAt_10 rfl ?_
  obtain ⟨r11, e11, h⟩ := bnd h
  refine V_invV1 (c := 11) (pc := 11) dX11_lacksAt_11 (e_Mo_ofGroup h_this e11) iv_Mo_300 (rm_Mo_lacksAt_Mo_ofGroup _ _ _) rfl h_this cf_11 rfl (Nat.le_of_ble_eq_true rfl) rfl ?_
  obtain ⟨r14, e14, h⟩ := bnd h
  refine V_invV1 (c := 11) (pc := 14) dX11_lacksAt_14 (e_Mo_pieceOf h_this e14) iv_Mo_332 (rm_Mo_lacksAt_Mo_pieceOf _ _ _) rfl h_this cf_11 rfl (Nat.le_of_ble_eq_true rfl) rfl ?_
  refine V_istore (i := 4) (ls' := [some (vr this), some (vi v1), some (vi v2), some (vi v3), some (vi r14), none]) (pc := 17) dX11_lacksAt_17 (Nat.le_of_ble_eq_true rfl) rfl ?_
  refine V_iconst (v := 0) (pc := 19) dX11_lacksAt_19 rfl ?_
  refine V_istore (i := 5) (ls' := [some (vr this), some (vi v1), some (vi v2), some (vi v3), some (vi r14), some (vi 0)]) (pc := 20) dX11_lacksAt_20 (Nat.le_of_ble_eq_true rfl) rfl ?_
  exact loop_V (A := fun s : Int32 => V g Y_Mo_lacksAt 22 [some (vr this), some (vi v1), some (vi v2), some (vi v3), some (vi r14), some (vi s)] [] m (PM g Y_Mo_lacksAt r m')) (fun s x h hp => k_Mo_lacksAt_l22 h_this h hp) (0) _ h hp
theorem e_Mo_lacksAt {g : GE} {this : Nat} {v1 : Int32} {v2 : Int32} {v3 : Int32} {m : Mem} (h_this : kd this = 12) {x : Int32} (h : Mo_lacksAt this v1 v2 v3 m = some x) : Ev g Y_Mo_lacksAt [vr this, vi v1, vi v2, vi v3] m (some (vi x)) m :=
  Ev_of 2 (by decide +kernel) rfl (Nat.le_of_ble_eq_true rfl) rfl (k_Mo_lacksAt h_this h ⟨rfl, rfl⟩)
theorem k_Mo_lacksOf_b42 {g : GE} {this : Nat} {v1 : Int32} {v2 : Int32} {v4 : Int32} {k0 : Int32} {k1 : Int32}  {m : Mem} (h_this : kd this = 12) {r : Option AV} {m' : Mem} {x : (Int32 × Int32) ⊕ (Int32)} (h : Mo_lacksOf_b42 this v1 v2 v4 k0 k1 m = some x) (hp : (Sum.elim (fun s : Int32 × Int32 => V g Y_Mo_lacksOf 5 [some (vr this), some (vi v1), some (vi v2), some (vi s.1), some (vi s.2)] [] m (PM g Y_Mo_lacksOf r m')) (fun x : Int32 => r = some (vi x) ∧ m' = m)) x) : V g Y_Mo_lacksOf 42 [some (vr this), some (vi v1), some (vi v2), none, some (vi v4)] [vi k1, vi k0] m (PM g Y_Mo_lacksOf r m') := by
  unfold Mo_lacksOf_b42 at h
  refine V_iadd (pc := 42) dX11_lacksOf_42 ?_
  refine V_istore_n (i := 3) (ls' := [some (vr this), some (vi v1), some (vi v2), some (vi (k0 + k1)), some (vi v4)]) (pc := 43) dX11_lacksOf_43 rfl (Nat.le_of_ble_eq_true rfl) rfl ?_
  refine V_iinc (i := 4) (v := (v4 + 1)) (ls' := [some (vr this), some (vi v1), some (vi v2), some (vi (k0 + k1)), some (vi (v4 + 1))]) (pc := 44) dX11_lacksOf_44 rfl rfl (Nat.le_of_ble_eq_true rfl) rfl ?_
  refine V_goto (tgt := 5) (pc := 47) dX11_lacksOf_47 rfl ?_
  obtain rfl := Option.some.inj h
  exact hp
theorem k_Mo_lacksOf_l5 {g : GE} {this : Nat} {v1 : Int32} {v2 : Int32} {v3 : Int32} {v4 : Int32} {m : Mem} (h_this : kd this = 12) {r : Option AV} {m' : Mem} {x : (Int32 × Int32) ⊕ (Int32)} (h : Mo_lacksOf_l5 this v1 v2 v3 v4 m = some x) (hp : (Sum.elim (fun s : Int32 × Int32 => V g Y_Mo_lacksOf 5 [some (vr this), some (vi v1), some (vi v2), some (vi s.1), some (vi s.2)] [] m (PM g Y_Mo_lacksOf r m')) (fun x : Int32 => r = some (vi x) ∧ m' = m)) x) : V g Y_Mo_lacksOf 5 [some (vr this), some (vi v1), some (vi v2), some (vi v3), some (vi v4)] [] m (PM g Y_Mo_lacksOf r m') := by
  unfold Mo_lacksOf_l5 at h
  refine V_iload (i := 4) (pc := 5) dX11_lacksOf_5 rfl ?_
  refine V_iconst (v := 4) (pc := 7) dX11_lacksOf_7 rfl ?_
  refine V_icmp_ge (pc := 8) (tgt := 50) dX11_lacksOf_8 rfl (fun q => ?_) (fun q => ?_)
  · have h := ite_t q h
    obtain ⟨y1, hu1, rfl⟩ := up_e h
    have h := hu1
    refine V_iload_n (i := 3) (pc := 50) dX11_lacksOf_50 rfl rfl ?_
    obtain rfl := Option.some.inj h
    exact E_i (pc := 51) dX11_lacksOf_51 rfl hp
  · have h := ite_f q h
    refine V_aload_n (i := 0) (pc := 11) dX11_lacksOf_11 rfl rfl ?_
    refine V_iload_n (i := 2) (pc := 12) dX11_lacksOf_12 rfl rfl ?_
    obtain ⟨r13, e13, h⟩ := bnd h
    refine V_invV1 (c := 11) (pc := 13) dX11_lacksOf_13 (e_Mo_isTold h_this e13) iv_Mo_371 (rm_Mo_lacksOf_Mo_isTold _ _ _) rfl h_this cf_11 rfl (Nat.le_of_ble_eq_true rfl) rfl ?_
    refine V_if_eq (pc := 16) (tgt := 50) dX11_lacksOf_16 rfl (fun q => ?_) (fun q => ?_)
    · have h := ite_t q h
      obtain ⟨y2, hu2, rfl⟩ := up_e h
      have h := hu2
      refine V_iload_n (i := 3) (pc := 50) dX11_lacksOf_50 rfl rfl ?_
      obtain rfl := Option.some.inj h
      exact E_i (pc := 51) dX11_lacksOf_51 rfl hp
    · have h := ite_f q h
      refine V_iload_n (i := 3) (pc := 19) dX11_lacksOf_19 rfl rfl ?_
      refine V_aload_n (i := 0) (pc := 20) dX11_lacksOf_20 rfl rfl ?_
      refine V_iload (i := 4) (pc := 21) dX11_lacksOf_21 rfl ?_
      refine V_iconst (v := 2) (pc := 23) dX11_lacksOf_23 rfl ?_
      obtain ⟨r24, e24, h⟩ := bnd h
      refine V_invV1 (c := 11) (pc := 24) dX11_lacksOf_24 (e_Mo_ofGroup h_this e24) iv_Mo_300 (rm_Mo_lacksOf_Mo_ofGroup _ _ _) rfl h_this cf_11 rfl (Nat.le_of_ble_eq_true rfl) rfl ?_
      refine V_if_le (pc := 27) (tgt := 41) dX11_lacksOf_27 rfl (fun q => ?_) (fun q => ?_)
      · have h := ite_t q h
        refine V_iconst (v := 0) (pc := 41) dX11_lacksOf_41 rfl ?_
        refine V_sub (ls' := [some (vr this), some (vi v1), some (vi v2), none, some (vi v4)]) (And.intro rfl (And.intro rfl (And.intro rfl (And.intro rfl trivial)))) ?_
        exact k_Mo_lacksOf_b42 h_this h hp
      · have h := ite_f q h
        refine V_aload_n (i := 0) (pc := 30) dX11_lacksOf_30 rfl rfl ?_
        refine V_iload_n (i := 1) (pc := 31) dX11_lacksOf_31 rfl rfl ?_
        refine V_iload (i := 4) (pc := 32) dX11_lacksOf_32 rfl ?_
        refine V_iload_n (i := 2) (pc := 34) dX11_lacksOf_34 rfl rfl ?_
        obtain ⟨r35, e35, h⟩ := bnd h
        refine V_invV1 (c := 11) (pc := 35) dX11_lacksOf_35 (e_Mo_lacksAt h_this e35) iv_Mo_374 (rm_Mo_lacksOf_Mo_lacksAt _ _ _) rfl h_this cf_11 rfl (Nat.le_of_ble_eq_true rfl) rfl ?_
        refine V_goto (tgt := 42) (pc := 38) dX11_lacksOf_38 rfl ?_
        refine V_sub (ls' := [some (vr this), some (vi v1), some (vi v2), none, some (vi v4)]) (And.intro rfl (And.intro rfl (And.intro rfl (And.intro rfl trivial)))) ?_
        exact k_Mo_lacksOf_b42 h_this h hp
theorem k_Mo_lacksOf {g : GE} {this : Nat} {v1 : Int32} {v2 : Int32} {m : Mem} (h_this : kd this = 12) {r : Option AV} {m' : Mem} {x : Int32} (h : Mo_lacksOf this v1 v2 m = some x) (hp : (fun x : Int32 => r = some (vi x) ∧ m' = m) x) : V g Y_Mo_lacksOf 0 [some (vr this), some (vi v1), some (vi v2), none, none] [] m (PM g Y_Mo_lacksOf r m') := by
  unfold Mo_lacksOf at h
  refine V_iconst (v := 0) (pc := 0) dX11_lacksOf_0 rfl ?_
  refine V_istore_n (i := 3) (ls' := [some (vr this), some (vi v1), some (vi v2), some (vi 0), none]) (pc := 1) dX11_lacksOf_1 rfl (Nat.le_of_ble_eq_true rfl) rfl ?_
  refine V_iconst (v := 0) (pc := 2) dX11_lacksOf_2 rfl ?_
  refine V_istore (i := 4) (ls' := [some (vr this), some (vi v1), some (vi v2), some (vi 0), some (vi 0)]) (pc := 3) dX11_lacksOf_3 (Nat.le_of_ble_eq_true rfl) rfl ?_
  exact loop_V (A := fun s : Int32 × Int32 => V g Y_Mo_lacksOf 5 [some (vr this), some (vi v1), some (vi v2), some (vi s.1), some (vi s.2)] [] m (PM g Y_Mo_lacksOf r m')) (fun s x h hp => k_Mo_lacksOf_l5 h_this h hp) (0, 0) _ h hp
theorem e_Mo_lacksOf {g : GE} {this : Nat} {v1 : Int32} {v2 : Int32} {m : Mem} (h_this : kd this = 12) {x : Int32} (h : Mo_lacksOf this v1 v2 m = some x) : Ev g Y_Mo_lacksOf [vr this, vi v1, vi v2] m (some (vi x)) m :=
  Ev_of 2 (by decide +kernel) rfl (Nat.le_of_ble_eq_true rfl) rfl (k_Mo_lacksOf h_this h ⟨rfl, rfl⟩)
theorem k_Mo_isEnough_l2 {g : GE} {this : Nat} {v1 : Int32} {v2 : Int32} {m : Mem} (h_this : kd this = 12) {r : Option AV} {m' : Mem} {x : (Int32) ⊕ (Int32)} (h : Mo_isEnough_l2 this v1 v2 m = some x) (hp : (Sum.elim (fun s : Int32 => V g Y_Mo_isEnough 2 [some (vr this), some (vi v1), some (vi s)] [] m (PM g Y_Mo_isEnough r m')) (fun x : Int32 => r = some (vi x) ∧ m' = m)) x) : V g Y_Mo_isEnough 2 [some (vr this), some (vi v1), some (vi v2)] [] m (PM g Y_Mo_isEnough r m') := by
  unfold Mo_isEnough_l2 at h
  refine V_iload_n (i := 2) (pc := 2) dX11_isEnough_2 rfl rfl ?_
  refine V_iconst (v := 4) (pc := 3) dX11_isEnough_3 rfl ?_
  refine V_icmp_ge (pc := 4) (tgt := 24) dX11_isEnough_4 rfl (fun q => ?_) (fun q => ?_)
  · have h := ite_t q h
    obtain ⟨y1, hu1, rfl⟩ := up_e h
    have h := hu1
    refine V_iconst (v := 1) (pc := 24) dX11_isEnough_24 rfl ?_
    obtain rfl := Option.some.inj h
    exact E_z (pc := 25) dX11_isEnough_25 rfl rfl hp
  · have h := ite_f q h
    refine V_aload_n (i := 0) (pc := 7) dX11_isEnough_7 rfl rfl ?_
    refine V_iload_n (i := 1) (pc := 8) dX11_isEnough_8 rfl rfl ?_
    refine V_iload_n (i := 2) (pc := 9) dX11_isEnough_9 rfl rfl ?_
    obtain ⟨r10, e10, h⟩ := bnd h
    refine V_invV1 (c := 11) (pc := 10) dX11_isEnough_10 (e_Mo_lacksOf h_this e10) iv_Mo_377 (rm_Mo_isEnough_Mo_lacksOf _ _ _) rfl h_this cf_11 rfl (Nat.le_of_ble_eq_true rfl) rfl ?_
    refine V_if_le (pc := 13) (tgt := 18) dX11_isEnough_13 rfl (fun q => ?_) (fun q => ?_)
    · have h := ite_t q h
      refine V_iinc (i := 2) (v := (v2 + 1)) (ls' := [some (vr this), some (vi v1), some (vi (v2 + 1))]) (pc := 18) dX11_isEnough_18 rfl rfl (Nat.le_of_ble_eq_true rfl) rfl ?_
      refine V_goto (tgt := 2) (pc := 21) dX11_isEnough_21 rfl ?_
      obtain rfl := Option.some.inj h
      exact hp
    · have h := ite_f q h
      obtain ⟨y2, hu2, rfl⟩ := up_e h
      have h := hu2
      refine V_iconst (v := 0) (pc := 16) dX11_isEnough_16 rfl ?_
      obtain rfl := Option.some.inj h
      exact E_z (pc := 17) dX11_isEnough_17 rfl rfl hp
theorem k_Mo_isEnough {g : GE} {this : Nat} {v1 : Int32} {m : Mem} (h_this : kd this = 12) {r : Option AV} {m' : Mem} {x : Int32} (h : Mo_isEnough this v1 m = some x) (hp : (fun x : Int32 => r = some (vi x) ∧ m' = m) x) : V g Y_Mo_isEnough 0 [some (vr this), some (vi v1), none] [] m (PM g Y_Mo_isEnough r m') := by
  unfold Mo_isEnough at h
  refine V_iconst (v := 0) (pc := 0) dX11_isEnough_0 rfl ?_
  refine V_istore_n (i := 2) (ls' := [some (vr this), some (vi v1), some (vi 0)]) (pc := 1) dX11_isEnough_1 rfl (Nat.le_of_ble_eq_true rfl) rfl ?_
  exact loop_V (A := fun s : Int32 => V g Y_Mo_isEnough 2 [some (vr this), some (vi v1), some (vi s)] [] m (PM g Y_Mo_isEnough r m')) (fun s x h hp => k_Mo_isEnough_l2 h_this h hp) (0) _ h hp
theorem e_Mo_isEnough {g : GE} {this : Nat} {v1 : Int32} {m : Mem} (h_this : kd this = 12) {x : Int32} (h : Mo_isEnough this v1 m = some x) : Ev g Y_Mo_isEnough [vr this, vi v1] m (some (vi x)) m :=
  Ev_of 1 (by decide +kernel) rfl (Nat.le_of_ble_eq_true rfl) rfl (k_Mo_isEnough h_this h ⟨rfl, rfl⟩)
theorem k_Mo_with_b81 {g : GE} {this : Nat} {v1 : Int32} {v2 : Int32} {v3 : Int64} {v5 : Int32}  {m : Mem} (h_this : kd this = 12) {r : Option AV} {m' : Mem} {x : (Int64 × Int32) ⊕ (Int64 × Mem)} (h : Mo_with_b81 this v1 v2 v3 v5 m = some x) (hp : (Sum.elim (fun s : Int64 × Int32 => V g Y_Mo_with 40 [some (vr this), some (vi v1), some (vi v2), some (vl s.1), none, some (vi s.2)] [] m (PM g Y_Mo_with r m')) (fun x : Int64 × Mem => r = some (vl x.1) ∧ m' = x.2)) x) : V g Y_Mo_with 81 [some (vr this), some (vi v1), some (vi v2), some (vl v3), none, some (vi v5)] [] m (PM g Y_Mo_with r m') := by
  unfold Mo_with_b81 at h
  refine V_iinc (i := 5) (v := (v5 + 1)) (ls' := [some (vr this), some (vi v1), some (vi v2), some (vl v3), none, some (vi (v5 + 1))]) (pc := 81) dX11_with_81 rfl rfl (Nat.le_of_ble_eq_true rfl) rfl ?_
  refine V_goto (tgt := 40) (pc := 84) dX11_with_84 rfl ?_
  obtain rfl := Option.some.inj h
  exact hp
theorem k_Mo_with_b71 {g : GE} {this : Nat} {v1 : Int32} {v2 : Int32} {v3 : Int64} {v5 : Int32}  {m : Mem} (h_this : kd this = 12) {r : Option AV} {m' : Mem} {x : (Int64 × Int32) ⊕ (Int64 × Mem)} (h : Mo_with_b71 this v1 v2 v3 v5 m = some x) (hp : (Sum.elim (fun s : Int64 × Int32 => V g Y_Mo_with 40 [some (vr this), some (vi v1), some (vi v2), some (vl s.1), none, some (vi s.2)] [] m (PM g Y_Mo_with r m')) (fun x : Int64 × Mem => r = some (vl x.1) ∧ m' = x.2)) x) : V g Y_Mo_with 71 [some (vr this), some (vi v1), some (vi v2), some (vl v3), none, some (vi v5)] [] m (PM g Y_Mo_with r m') := by
  unfold Mo_with_b71 at h
  refine V_lload_n (i := 3) (pc := 71) dX11_with_71 rfl rfl ?_
  refine V_aload_n (i := 0) (pc := 72) dX11_with_72 rfl rfl ?_
  refine V_getR (b := (this + 7)) (pc := 73) dX11_with_73 fl_Mo_37 h_this rfl rfl ?_
  refine V_iload (i := 5) (pc := 76) dX11_with_76 rfl ?_
  obtain ⟨hg78, h⟩ := gd_e h
  refine V_lald (pc := 78) dX11_with_78 (kf_11_15 h_this) (af_11_15 h_this) hg78 ?_
  refine V_ladd (pc := 79) dX11_with_79 ?_
  refine V_lstore_n (i := 3) (ls' := [some (vr this), some (vi v1), some (vi v2), some (vl (v3 + (rL m (this + 7) (ix v5)))), none, some (vi v5)]) (pc := 80) dX11_with_80 rfl (Nat.le_of_ble_eq_true rfl) rfl ?_
  exact k_Mo_with_b81 h_this h hp
theorem k_Mo_with_l40 {g : GE} {this : Nat} {v1 : Int32} {v2 : Int32} {v3 : Int64} {v5 : Int32} {m : Mem} (h_this : kd this = 12) {r : Option AV} {m' : Mem} {x : (Int64 × Int32) ⊕ (Int64 × Mem)} (h : Mo_with_l40 this v1 v2 v3 v5 m = some x) (hp : (Sum.elim (fun s : Int64 × Int32 => V g Y_Mo_with 40 [some (vr this), some (vi v1), some (vi v2), some (vl s.1), none, some (vi s.2)] [] m (PM g Y_Mo_with r m')) (fun x : Int64 × Mem => r = some (vl x.1) ∧ m' = x.2)) x) : V g Y_Mo_with 40 [some (vr this), some (vi v1), some (vi v2), some (vl v3), none, some (vi v5)] [] m (PM g Y_Mo_with r m') := by
  unfold Mo_with_l40 at h
  refine V_iload (i := 5) (pc := 40) dX11_with_40 rfl ?_
  refine V_aload_n (i := 0) (pc := 42) dX11_with_42 rfl rfl ?_
  obtain ⟨r43, e43, h⟩ := bnd h
  refine V_invV1 (c := 11) (pc := 43) dX11_with_43 (e_Mo_sets h_this e43) iv_Mo_274 (rm_Mo_with_Mo_sets _ _ _) rfl h_this cf_11 rfl (Nat.le_of_ble_eq_true rfl) rfl ?_
  refine V_icmp_ge (pc := 46) (tgt := 87) dX11_with_46 rfl (fun q => ?_) (fun q => ?_)
  · have h := ite_t q h
    obtain ⟨y1, hu1, rfl⟩ := up_e h
    have h := hu1
    refine V_lload_n (i := 3) (pc := 87) dX11_with_87 rfl rfl ?_
    obtain rfl := Option.some.inj h
    exact E_l (pc := 88) dX11_with_88 rfl hp
  · have h := ite_f q h
    refine V_iload (i := 5) (pc := 49) dX11_with_49 rfl ?_
    obtain ⟨r51, e51, h⟩ := bnd h
    refine V_invS1 (pc := 51) dX11_with_51 (e_Mo_ones  e51) is_Mo_350 (rm_Mo_with_Mo_ones _ _ _) rfl (Nat.le_of_ble_eq_true rfl) rfl ?_
    refine V_iload_n (i := 1) (pc := 54) dX11_with_54 rfl rfl ?_
    refine V_icmp_ne (pc := 55) (tgt := 81) dX11_with_55 rfl (fun q => ?_) (fun q => ?_)
    · have h := ite_f q h
      exact k_Mo_with_b81 h_this h hp
    · have h := ite_t q h
      refine V_iload_n (i := 2) (pc := 58) dX11_with_58 rfl rfl ?_
      refine V_if_eq (pc := 59) (tgt := 71) dX11_with_59 rfl (fun q => ?_) (fun q => ?_)
      · have h := ite_t q h
        exact k_Mo_with_b71 h_this h hp
      · have h := ite_f q h
        refine V_aload_n (i := 0) (pc := 62) dX11_with_62 rfl rfl ?_
        refine V_iload (i := 5) (pc := 63) dX11_with_63 rfl ?_
        obtain ⟨r65, e65, h⟩ := bnd h
        refine V_invV1 (c := 11) (pc := 65) dX11_with_65 (e_Mo_isEnough h_this e65) iv_Mo_353 (rm_Mo_with_Mo_isEnough _ _ _) rfl h_this cf_11 rfl (Nat.le_of_ble_eq_true rfl) rfl ?_
        refine V_if_ne (pc := 68) (tgt := 81) dX11_with_68 rfl (fun q => ?_) (fun q => ?_)
        · have h := ite_f q h
          exact k_Mo_with_b81 h_this h hp
        · have h := ite_t q h
          exact k_Mo_with_b71 h_this h hp
theorem k_Mo_with {g : GE} {this : Nat} {v1 : Int32} {v2 : Int32} {m : Mem} (h_this : kd this = 12) {r : Option AV} {m' : Mem} {x : Int64 × Mem} (h : Mo_with this v1 v2 m = some x) (hp : (fun x : Int64 × Mem => r = some (vl x.1) ∧ m' = x.2) x) : V g Y_Mo_with 0 [some (vr this), some (vi v1), some (vi v2), none, none, none] [] m (PM g Y_Mo_with r m') := by
  unfold Mo_with at h
  refine V_aload_n (i := 0) (pc := 0) dX11_with_0 rfl rfl ?_
  obtain ⟨r1, e1, h⟩ := bnd h
  refine V_invV1 (c := 11) (pc := 1) dX11_with_1 (e_Mo_isFloe h_this e1) iv_Mo_271 (rm_Mo_with_Mo_isFloe _ _ _) rfl h_this cf_11 rfl (Nat.le_of_ble_eq_true rfl) rfl ?_
  refine V_if_eq (pc := 4) (tgt := 23) dX11_with_4 rfl (fun q => ?_) (fun q => ?_)
  · have h := ite_t q h
    refine V_ldc2 (v := (-2)) (pc := 23) dX11_with_23 con_Mo_342 ?_
    obtain rfl := Option.some.inj h
    exact E_l (pc := 26) dX11_with_26 rfl hp
  · have h := ite_f q h
    refine V_iload_n (i := 1) (pc := 7) dX11_with_7 rfl rfl ?_
    refine V_i2l (pc := 8) dX11_with_8 ?_
    refine V_lconst (v := 0) (pc := 9) dX11_with_9 rfl ?_
    refine V_aload_n (i := 0) (pc := 10) dX11_with_10 rfl rfl ?_
    refine V_getR (b := (this + 1)) (pc := 11) dX11_with_11 fl_Mo_13 h_this rfl rfl ?_
    refine V_iconst (v := 5) (pc := 14) dX11_with_14 rfl ?_
    obtain ⟨hg15, h⟩ := gd_e h
    refine V_iald (pc := 15) dX11_with_15 (kf_11_1 h_this) (af_11_1 h_this) hg15 ?_
    refine V_i2l (pc := 16) dX11_with_16 ?_
    obtain ⟨r17, e17, h⟩ := bnd h
    refine V_invS1 (pc := 17) dX11_with_17 (e_Mo_in  e17) is_Mo_84 (rm_Mo_with_Mo_in _ _ _) rfl (Nat.le_of_ble_eq_true rfl) rfl ?_
    refine V_if_ne (pc := 20) (tgt := 27) dX11_with_20 rfl (fun q => ?_) (fun q => ?_)
    · have h := ite_f q h
      refine V_aload_n (i := 0) (pc := 27) dX11_with_27 rfl rfl ?_
      obtain ⟨m28, e28, h⟩ := bnd h
      refine V_invV0 (c := 11) (pc := 28) dX11_with_28 (e_Mo_beginParts h_this e28) iv_Mo_344 (rm_Mo_with_Mo_beginParts _ _ _) rfl h_this cf_11 rfl (Nat.le_of_ble_eq_true rfl) rfl ?_
      refine V_aload_n (i := 0) (pc := 31) dX11_with_31 rfl rfl ?_
      obtain ⟨m32, e32, h⟩ := bnd h
      refine V_invV0 (c := 11) (pc := 32) dX11_with_32 (e_Mo_hour h_this e32) iv_Mo_347 (rm_Mo_with_Mo_hour _ _ _) rfl h_this cf_11 rfl (Nat.le_of_ble_eq_true rfl) rfl ?_
      refine V_lconst (v := 0) (pc := 35) dX11_with_35 rfl ?_
      refine V_lstore_n (i := 3) (ls' := [some (vr this), some (vi v1), some (vi v2), some (vl 0), none, none]) (pc := 36) dX11_with_36 rfl (Nat.le_of_ble_eq_true rfl) rfl ?_
      refine V_iconst (v := 0) (pc := 37) dX11_with_37 rfl ?_
      refine V_istore (i := 5) (ls' := [some (vr this), some (vi v1), some (vi v2), some (vl 0), none, some (vi 0)]) (pc := 38) dX11_with_38 (Nat.le_of_ble_eq_true rfl) rfl ?_
      exact loop_V (A := fun s : Int64 × Int32 => V g Y_Mo_with 40 [some (vr this), some (vi v1), some (vi v2), some (vl s.1), none, some (vi s.2)] [] m32 (PM g Y_Mo_with r m')) (fun s x h hp => k_Mo_with_l40 h_this h hp) (0, 0) _ h hp
    · have h := ite_t q h
      refine V_ldc2 (v := (-2)) (pc := 23) dX11_with_23 con_Mo_342 ?_
      obtain rfl := Option.some.inj h
      exact E_l (pc := 26) dX11_with_26 rfl hp
theorem e_Mo_with {g : GE} {this : Nat} {v1 : Int32} {v2 : Int32} {m : Mem} (h_this : kd this = 12) {x : Int64 × Mem} (h : Mo_with this v1 v2 m = some x) : Ev g Y_Mo_with [vr this, vi v1, vi v2] m (some (vl x.1)) x.2 :=
  Ev_of 3 (by decide +kernel) rfl (Nat.le_of_ble_eq_true rfl) rfl (k_Mo_with h_this h ⟨rfl, rfl⟩)
theorem k_Mo_enough {g : GE} {this : Nat} {v1 : Int32} {m : Mem} (h_this : kd this = 12) {r : Option AV} {m' : Mem} {x : Int32} (h : Mo_enough this v1 m = some x) (hp : (fun x : Int32 => r = some (vi x) ∧ m' = m) x) : V g Y_Mo_enough 0 [some (vr this), some (vi v1)] [] m (PM g Y_Mo_enough r m') := by
  unfold Mo_enough at h
  refine V_aload_n (i := 0) (pc := 0) dX11_enough_0 rfl rfl ?_
  refine V_iload_n (i := 1) (pc := 1) dX11_enough_1 rfl rfl ?_
  obtain ⟨r2, e2, h⟩ := bnd h
  refine V_invV1 (c := 11) (pc := 2) dX11_enough_2 (e_Mo_isSet h_this e2) iv_Mo_311 (rm_Mo_enough_Mo_isSet _ _ _) rfl h_this cf_11 rfl (Nat.le_of_ble_eq_true rfl) rfl ?_
  refine V_if_eq (pc := 5) (tgt := 24) dX11_enough_5 rfl (fun q => ?_) (fun q => ?_)
  · have h := ite_t q h
    refine V_bipush (v := (-2)) (pc := 24) dX11_enough_24 rfl ?_
    obtain rfl := Option.some.inj h
    exact E_i (pc := 26) dX11_enough_26 rfl hp
  · have h := ite_f q h
    refine V_aload_n (i := 0) (pc := 8) dX11_enough_8 rfl rfl ?_
    refine V_iload_n (i := 1) (pc := 9) dX11_enough_9 rfl rfl ?_
    obtain ⟨r10, e10, h⟩ := bnd h
    refine V_invV1 (c := 11) (pc := 10) dX11_enough_10 (e_Mo_isEnough h_this e10) iv_Mo_353 (rm_Mo_enough_Mo_isEnough _ _ _) rfl h_this cf_11 rfl (Nat.le_of_ble_eq_true rfl) rfl ?_
    refine V_if_eq (pc := 13) (tgt := 20) dX11_enough_13 rfl (fun q => ?_) (fun q => ?_)
    · have h := ite_t q h
      refine V_iconst (v := 0) (pc := 20) dX11_enough_20 rfl ?_
      refine V_goto (tgt := 26) (pc := 21) dX11_enough_21 rfl ?_
      obtain rfl := Option.some.inj h
      exact E_i (pc := 26) dX11_enough_26 rfl hp
    · have h := ite_f q h
      refine V_iconst (v := 1) (pc := 16) dX11_enough_16 rfl ?_
      refine V_goto (tgt := 26) (pc := 17) dX11_enough_17 rfl ?_
      obtain rfl := Option.some.inj h
      exact E_i (pc := 26) dX11_enough_26 rfl hp
theorem e_Mo_enough {g : GE} {this : Nat} {v1 : Int32} {m : Mem} (h_this : kd this = 12) {x : Int32} (h : Mo_enough this v1 m = some x) : Ev g Y_Mo_enough [vr this, vi v1] m (some (vi x)) m :=
  Ev_of 0 (by decide +kernel) rfl (Nat.le_of_ble_eq_true rfl) rfl (k_Mo_enough h_this h ⟨rfl, rfl⟩)
theorem k_Mo_lacks {g : GE} {this : Nat} {v1 : Int32} {v2 : Int32} {m : Mem} (h_this : kd this = 12) {r : Option AV} {m' : Mem} {x : Int32} (h : Mo_lacks this v1 v2 m = some x) (hp : (fun x : Int32 => r = some (vi x) ∧ m' = m) x) : V g Y_Mo_lacks 0 [some (vr this), some (vi v1), some (vi v2)] [] m (PM g Y_Mo_lacks r m') := by
  unfold Mo_lacks at h
  refine V_aload_n (i := 0) (pc := 0) dX11_lacks_0 rfl rfl ?_
  refine V_iload_n (i := 1) (pc := 1) dX11_lacks_1 rfl rfl ?_
  obtain ⟨r2, e2, h⟩ := bnd h
  refine V_invV1 (c := 11) (pc := 2) dX11_lacks_2 (e_Mo_isSet h_this e2) iv_Mo_311 (rm_Mo_lacks_Mo_isSet _ _ _) rfl h_this cf_11 rfl (Nat.le_of_ble_eq_true rfl) rfl ?_
  refine V_if_eq (pc := 5) (tgt := 29) dX11_lacks_5 rfl (fun q => ?_) (fun q => ?_)
  · have h := ite_t q h
    refine V_bipush (v := (-2)) (pc := 29) dX11_lacks_29 rfl ?_
    obtain rfl := Option.some.inj h
    exact E_i (pc := 31) dX11_lacks_31 rfl hp
  · have h := ite_f q h
    refine V_iload_n (i := 2) (pc := 8) dX11_lacks_8 rfl rfl ?_
    refine V_i2l (pc := 9) dX11_lacks_9 ?_
    refine V_lconst (v := 0) (pc := 10) dX11_lacks_10 rfl ?_
    refine V_ldc2 (v := 3) (pc := 11) dX11_lacks_11 con_Mo_269 ?_
    obtain ⟨r14, e14, h⟩ := bnd h
    refine V_invS1 (pc := 14) dX11_lacks_14 (e_Mo_in  e14) is_Mo_84 (rm_Mo_lacks_Mo_in _ _ _) rfl (Nat.le_of_ble_eq_true rfl) rfl ?_
    refine V_if_eq (pc := 17) (tgt := 29) dX11_lacks_17 rfl (fun q => ?_) (fun q => ?_)
    · have h := ite_t q h
      refine V_bipush (v := (-2)) (pc := 29) dX11_lacks_29 rfl ?_
      obtain rfl := Option.some.inj h
      exact E_i (pc := 31) dX11_lacks_31 rfl hp
    · have h := ite_f q h
      refine V_aload_n (i := 0) (pc := 20) dX11_lacks_20 rfl rfl ?_
      refine V_iload_n (i := 1) (pc := 21) dX11_lacks_21 rfl rfl ?_
      refine V_iload_n (i := 2) (pc := 22) dX11_lacks_22 rfl rfl ?_
      obtain ⟨r23, e23, h⟩ := bnd h
      refine V_invV1 (c := 11) (pc := 23) dX11_lacks_23 (e_Mo_lacksOf h_this e23) iv_Mo_377 (rm_Mo_lacks_Mo_lacksOf _ _ _) rfl h_this cf_11 rfl (Nat.le_of_ble_eq_true rfl) rfl ?_
      refine V_goto (tgt := 31) (pc := 26) dX11_lacks_26 rfl ?_
      obtain rfl := Option.some.inj h
      exact E_i (pc := 31) dX11_lacks_31 rfl hp
theorem e_Mo_lacks {g : GE} {this : Nat} {v1 : Int32} {v2 : Int32} {m : Mem} (h_this : kd this = 12) {x : Int32} (h : Mo_lacks this v1 v2 m = some x) : Ev g Y_Mo_lacks [vr this, vi v1, vi v2] m (some (vi x)) m :=
  Ev_of 0 (by decide +kernel) rfl (Nat.le_of_ble_eq_true rfl) rfl (k_Mo_lacks h_this h ⟨rfl, rfl⟩)
theorem k_Mo_loses_b54 {g : GE} {this : Nat} {v1 : Int64} {v3 : Int32}  {m : Mem} (h_this : kd this = 12) {r : Option AV} {m' : Mem} {x : (Int64 × Int32 × Mem) ⊕ (Int64 × Mem)} (h : Mo_loses_b54 this v1 v3 m = some x) (hp : (Sum.elim (fun s : Int64 × Int32 × Mem => V g Y_Mo_loses 8 [some (vr this), some (vl s.1), none, some (vi s.2.1)] [] s.2.2 (PM g Y_Mo_loses r m')) (fun x : Int64 × Mem => r = some (vl x.1) ∧ m' = x.2)) x) : V g Y_Mo_loses 54 [some (vr this), some (vl v1), none, some (vi v3)] [] m (PM g Y_Mo_loses r m') := by
  unfold Mo_loses_b54 at h
  refine V_iinc (i := 3) (v := (v3 + 1)) (ls' := [some (vr this), some (vl v1), none, some (vi (v3 + 1))]) (pc := 54) dX11_loses_54 rfl rfl (Nat.le_of_ble_eq_true rfl) rfl ?_
  refine V_goto (tgt := 8) (pc := 57) dX11_loses_57 rfl ?_
  obtain rfl := Option.some.inj h
  exact hp
theorem k_Mo_loses_l8 {g : GE} {this : Nat}  {v1 : Int64} {v3 : Int32} {m : Mem} (h_this : kd this = 12) {r : Option AV} {m' : Mem} {x : (Int64 × Int32 × Mem) ⊕ (Int64 × Mem)} (h : Mo_loses_l8 this v1 v3 m = some x) (hp : (Sum.elim (fun s : Int64 × Int32 × Mem => V g Y_Mo_loses 8 [some (vr this), some (vl s.1), none, some (vi s.2.1)] [] s.2.2 (PM g Y_Mo_loses r m')) (fun x : Int64 × Mem => r = some (vl x.1) ∧ m' = x.2)) x) : V g Y_Mo_loses 8 [some (vr this), some (vl v1), none, some (vi v3)] [] m (PM g Y_Mo_loses r m') := by
  unfold Mo_loses_l8 at h
  refine V_iload_n (i := 3) (pc := 8) dX11_loses_8 rfl rfl ?_
  refine V_aload_n (i := 0) (pc := 9) dX11_loses_9 rfl rfl ?_
  obtain ⟨r10, e10, h⟩ := bnd h
  refine V_invV1 (c := 11) (pc := 10) dX11_loses_10 (e_Mo_sets h_this e10) iv_Mo_274 (rm_Mo_loses_Mo_sets _ _ _) rfl h_this cf_11 rfl (Nat.le_of_ble_eq_true rfl) rfl ?_
  refine V_icmp_ge (pc := 13) (tgt := 60) dX11_loses_13 rfl (fun q => ?_) (fun q => ?_)
  · have h := ite_t q h
    obtain ⟨y1, hu1, rfl⟩ := up_e h
    have h := hu1
    refine V_lload_n (i := 1) (pc := 60) dX11_loses_60 rfl rfl ?_
    obtain rfl := Option.some.inj h
    exact E_l (pc := 61) dX11_loses_61 rfl hp
  · have h := ite_f q h
    refine V_aload_n (i := 0) (pc := 16) dX11_loses_16 rfl rfl ?_
    refine V_getR (b := (this + 7)) (pc := 17) dX11_loses_17 fl_Mo_37 h_this rfl rfl ?_
    refine V_iload_n (i := 3) (pc := 20) dX11_loses_20 rfl rfl ?_
    obtain ⟨hg21, h⟩ := gd_e h
    refine V_lald (pc := 21) dX11_loses_21 (kf_11_15 h_this) (af_11_15 h_this) hg21 ?_
    refine V_lconst (v := 0) (pc := 22) dX11_loses_22 rfl ?_
    refine V_lif_eq (pc := 23) (tgt := 54) dX11_loses_23 dX11_loses_24 rfl (fun q => ?_) (fun q => ?_)
    · have h := ite_t q h
      exact k_Mo_loses_b54 h_this h hp
    · have h := ite_f q h
      refine V_aload_n (i := 0) (pc := 27) dX11_loses_27 rfl rfl ?_
      refine V_iload_n (i := 3) (pc := 28) dX11_loses_28 rfl rfl ?_
      obtain ⟨r29, e29, h⟩ := bnd h
      refine V_invV1 (c := 11) (pc := 29) dX11_loses_29 (e_Mo_isEnough h_this e29) iv_Mo_353 (rm_Mo_loses_Mo_isEnough _ _ _) rfl h_this cf_11 rfl (Nat.le_of_ble_eq_true rfl) rfl ?_
      refine V_if_eq (pc := 32) (tgt := 38) dX11_loses_32 rfl (fun q => ?_) (fun q => ?_)
      · have h := ite_t q h
        refine V_lload_n (i := 1) (pc := 38) dX11_loses_38 rfl rfl ?_
        refine V_aload_n (i := 0) (pc := 39) dX11_loses_39 rfl rfl ?_
        refine V_getR (b := (this + 7)) (pc := 40) dX11_loses_40 fl_Mo_37 h_this rfl rfl ?_
        refine V_iload_n (i := 3) (pc := 43) dX11_loses_43 rfl rfl ?_
        obtain ⟨hg44, h⟩ := gd_e h
        refine V_lald (pc := 44) dX11_loses_44 (kf_11_15 h_this) (af_11_15 h_this) hg44 ?_
        refine V_ladd (pc := 45) dX11_loses_45 ?_
        refine V_lstore_n (i := 1) (ls' := [some (vr this), some (vl (v1 + (rL m (this + 7) (ix v3)))), none, some (vi v3)]) (pc := 46) dX11_loses_46 rfl (Nat.le_of_ble_eq_true rfl) rfl ?_
        refine V_aload_n (i := 0) (pc := 47) dX11_loses_47 rfl rfl ?_
        refine V_getR (b := (this + 7)) (pc := 48) dX11_loses_48 fl_Mo_37 h_this rfl rfl ?_
        refine V_iload_n (i := 3) (pc := 51) dX11_loses_51 rfl rfl ?_
        refine V_lconst (v := 0) (pc := 52) dX11_loses_52 rfl ?_
        obtain ⟨hg53, h⟩ := gd_e h
        refine V_last_lt (pc := 53) dX11_loses_53 (kf_11_15 h_this) (af_11_15 h_this) hg53 h (fun m53 h => ?_)
        exact k_Mo_loses_b54 h_this h hp
      · have h := ite_f q h
        refine V_goto (tgt := 54) (pc := 35) dX11_loses_35 rfl ?_
        exact k_Mo_loses_b54 h_this h hp
theorem k_Mo_loses {g : GE} {this : Nat} {m : Mem} (h_this : kd this = 12) {r : Option AV} {m' : Mem} {x : Int64 × Mem} (h : Mo_loses this m = some x) (hp : (fun x : Int64 × Mem => r = some (vl x.1) ∧ m' = x.2) x) : V g Y_Mo_loses 0 [some (vr this), none, none, none] [] m (PM g Y_Mo_loses r m') := by
  unfold Mo_loses at h
  refine V_aload_n (i := 0) (pc := 0) dX11_loses_0 rfl rfl ?_
  obtain ⟨m1, e1, h⟩ := bnd h
  refine V_invV0 (c := 11) (pc := 1) dX11_loses_1 (e_Mo_hour h_this e1) iv_Mo_347 (rm_Mo_loses_Mo_hour _ _ _) rfl h_this cf_11 rfl (Nat.le_of_ble_eq_true rfl) rfl ?_
  refine V_lconst (v := 0) (pc := 4) dX11_loses_4 rfl ?_
  refine V_lstore_n (i := 1) (ls' := [some (vr this), some (vl 0), none, none]) (pc := 5) dX11_loses_5 rfl (Nat.le_of_ble_eq_true rfl) rfl ?_
  refine V_iconst (v := 0) (pc := 6) dX11_loses_6 rfl ?_
  refine V_istore_n (i := 3) (ls' := [some (vr this), some (vl 0), none, some (vi 0)]) (pc := 7) dX11_loses_7 rfl (Nat.le_of_ble_eq_true rfl) rfl ?_
  exact loop_V (A := fun s : Int64 × Int32 × Mem => V g Y_Mo_loses 8 [some (vr this), some (vl s.1), none, some (vi s.2.1)] [] s.2.2 (PM g Y_Mo_loses r m')) (fun s x h hp => k_Mo_loses_l8 h_this h hp) (0, 0, m1) _ h hp
theorem e_Mo_loses {g : GE} {this : Nat} {m : Mem} (h_this : kd this = 12) {x : Int64 × Mem} (h : Mo_loses this m = some x) : Ev g Y_Mo_loses [vr this] m (some (vl x.1)) x.2 :=
  Ev_of 3 (by decide +kernel) rfl (Nat.le_of_ble_eq_true rfl) rfl (k_Mo_loses h_this h ⟨rfl, rfl⟩)
theorem k_Mo_lostIn_l9 {g : GE} {this : Nat} {v1 : Int32} {v2 : Int64} {v4 : Int32} {m : Mem} (h_this : kd this = 12) {r : Option AV} {m' : Mem} {x : (Int64 × Int32 × Mem) ⊕ (Int64 × Mem)} (h : Mo_lostIn_l9 this v1 v2 v4 m = some x) (hp : (Sum.elim (fun s : Int64 × Int32 × Mem => V g Y_Mo_lostIn 9 [some (vr this), some (vi v1), some (vl s.1), none, some (vi s.2.1)] [] s.2.2 (PM g Y_Mo_lostIn r m')) (fun x : Int64 × Mem => r = some (vl x.1) ∧ m' = x.2)) x) : V g Y_Mo_lostIn 9 [some (vr this), some (vi v1), some (vl v2), none, some (vi v4)] [] m (PM g Y_Mo_lostIn r m') := by
  unfold Mo_lostIn_l9 at h
  refine V_iload (i := 4) (pc := 9) dX11_lostIn_9 rfl ?_
  refine V_iload_n (i := 1) (pc := 11) dX11_lostIn_11 rfl rfl ?_
  refine V_icmp_ge (pc := 12) (tgt := 28) dX11_lostIn_12 rfl (fun q => ?_) (fun q => ?_)
  · have h := ite_t q h
    obtain ⟨y1, hu1, rfl⟩ := up_e h
    have h := hu1
    refine V_lload_n (i := 2) (pc := 28) dX11_lostIn_28 rfl rfl ?_
    obtain rfl := Option.some.inj h
    exact E_l (pc := 29) dX11_lostIn_29 rfl hp
  · have h := ite_f q h
    refine V_lload_n (i := 2) (pc := 15) dX11_lostIn_15 rfl rfl ?_
    refine V_aload_n (i := 0) (pc := 16) dX11_lostIn_16 rfl rfl ?_
    obtain ⟨r17, e17, h⟩ := bnd h
    refine V_invV1 (c := 11) (pc := 17) dX11_lostIn_17 (e_Mo_loses h_this e17) iv_Mo_380 (rm_Mo_lostIn_Mo_loses _ _ _) rfl h_this cf_11 rfl (Nat.le_of_ble_eq_true rfl) rfl ?_
    refine V_ladd (pc := 20) dX11_lostIn_20 ?_
    refine V_lstore_n (i := 2) (ls' := [some (vr this), some (vi v1), some (vl (v2 + r17.1)), none, some (vi v4)]) (pc := 21) dX11_lostIn_21 rfl (Nat.le_of_ble_eq_true rfl) rfl ?_
    refine V_iinc (i := 4) (v := (v4 + 1)) (ls' := [some (vr this), some (vi v1), some (vl (v2 + r17.1)), none, some (vi (v4 + 1))]) (pc := 22) dX11_lostIn_22 rfl rfl (Nat.le_of_ble_eq_true rfl) rfl ?_
    refine V_goto (tgt := 9) (pc := 25) dX11_lostIn_25 rfl ?_
    obtain rfl := Option.some.inj h
    exact hp
theorem k_Mo_lostIn {g : GE} {this : Nat} {v1 : Int32} {m : Mem} (h_this : kd this = 12) {r : Option AV} {m' : Mem} {x : Int64 × Mem} (h : Mo_lostIn this v1 m = some x) (hp : (fun x : Int64 × Mem => r = some (vl x.1) ∧ m' = x.2) x) : V g Y_Mo_lostIn 0 [some (vr this), some (vi v1), none, none, none] [] m (PM g Y_Mo_lostIn r m') := by
  unfold Mo_lostIn at h
  refine V_aload_n (i := 0) (pc := 0) dX11_lostIn_0 rfl rfl ?_
  obtain ⟨m1, e1, h⟩ := bnd h
  refine V_invV0 (c := 11) (pc := 1) dX11_lostIn_1 (e_Mo_beginParts h_this e1) iv_Mo_344 (rm_Mo_lostIn_Mo_beginParts _ _ _) rfl h_this cf_11 rfl (Nat.le_of_ble_eq_true rfl) rfl ?_
  refine V_lconst (v := 0) (pc := 4) dX11_lostIn_4 rfl ?_
  refine V_lstore_n (i := 2) (ls' := [some (vr this), some (vi v1), some (vl 0), none, none]) (pc := 5) dX11_lostIn_5 rfl (Nat.le_of_ble_eq_true rfl) rfl ?_
  refine V_iconst (v := 0) (pc := 6) dX11_lostIn_6 rfl ?_
  refine V_istore (i := 4) (ls' := [some (vr this), some (vi v1), some (vl 0), none, some (vi 0)]) (pc := 7) dX11_lostIn_7 (Nat.le_of_ble_eq_true rfl) rfl ?_
  exact loop_V (A := fun s : Int64 × Int32 × Mem => V g Y_Mo_lostIn 9 [some (vr this), some (vi v1), some (vl s.1), none, some (vi s.2.1)] [] s.2.2 (PM g Y_Mo_lostIn r m')) (fun s x h hp => k_Mo_lostIn_l9 h_this h hp) (0, 0, m1) _ h hp
theorem e_Mo_lostIn {g : GE} {this : Nat} {v1 : Int32} {m : Mem} (h_this : kd this = 12) {x : Int64 × Mem} (h : Mo_lostIn this v1 m = some x) : Ev g Y_Mo_lostIn [vr this, vi v1] m (some (vl x.1)) x.2 :=
  Ev_of 3 (by decide +kernel) rfl (Nat.le_of_ble_eq_true rfl) rfl (k_Mo_lostIn h_this h ⟨rfl, rfl⟩)
theorem k_Mo_lost {g : GE} {this : Nat} {v1 : Int32} {m : Mem} (h_this : kd this = 12) {r : Option AV} {m' : Mem} {x : Int64 × Mem} (h : Mo_lost this v1 m = some x) (hp : (fun x : Int64 × Mem => r = some (vl x.1) ∧ m' = x.2) x) : V g Y_Mo_lost 0 [some (vr this), some (vi v1)] [] m (PM g Y_Mo_lost r m') := by
  unfold Mo_lost at h
  refine V_aload_n (i := 0) (pc := 0) dX11_lost_0 rfl rfl ?_
  obtain ⟨r1, e1, h⟩ := bnd h
  refine V_invV1 (c := 11) (pc := 1) dX11_lost_1 (e_Mo_isFloe h_this e1) iv_Mo_271 (rm_Mo_lost_Mo_isFloe _ _ _) rfl h_this cf_11 rfl (Nat.le_of_ble_eq_true rfl) rfl ?_
  refine V_if_eq (pc := 4) (tgt := 27) dX11_lost_4 rfl (fun q => ?_) (fun q => ?_)
  · have h := ite_t q h
    refine V_ldc2 (v := (-2)) (pc := 27) dX11_lost_27 con_Mo_342 ?_
    obtain rfl := Option.some.inj h
    exact E_l (pc := 30) dX11_lost_30 rfl hp
  · have h := ite_f q h
    refine V_iload_n (i := 1) (pc := 7) dX11_lost_7 rfl rfl ?_
    refine V_i2l (pc := 8) dX11_lost_8 ?_
    refine V_lconst (v := 1) (pc := 9) dX11_lost_9 rfl ?_
    refine V_ldc2 (v := 48) (pc := 10) dX11_lost_10 con_Mo_115 ?_
    obtain ⟨r13, e13, h⟩ := bnd h
    refine V_invS1 (pc := 13) dX11_lost_13 (e_Mo_in  e13) is_Mo_84 (rm_Mo_lost_Mo_in _ _ _) rfl (Nat.le_of_ble_eq_true rfl) rfl ?_
    refine V_if_eq (pc := 16) (tgt := 27) dX11_lost_16 rfl (fun q => ?_) (fun q => ?_)
    · have h := ite_t q h
      refine V_ldc2 (v := (-2)) (pc := 27) dX11_lost_27 con_Mo_342 ?_
      obtain rfl := Option.some.inj h
      exact E_l (pc := 30) dX11_lost_30 rfl hp
    · have h := ite_f q h
      refine V_aload_n (i := 0) (pc := 19) dX11_lost_19 rfl rfl ?_
      refine V_iload_n (i := 1) (pc := 20) dX11_lost_20 rfl rfl ?_
      obtain ⟨r21, e21, h⟩ := bnd h
      refine V_invV1 (c := 11) (pc := 21) dX11_lost_21 (e_Mo_lostIn h_this e21) iv_Mo_384 (rm_Mo_lost_Mo_lostIn _ _ _) rfl h_this cf_11 rfl (Nat.le_of_ble_eq_true rfl) rfl ?_
      refine V_goto (tgt := 30) (pc := 24) dX11_lost_24 rfl ?_
      obtain rfl := Option.some.inj h
      exact E_l (pc := 30) dX11_lost_30 rfl hp
theorem e_Mo_lost {g : GE} {this : Nat} {v1 : Int32} {m : Mem} (h_this : kd this = 12) {x : Int64 × Mem} (h : Mo_lost this v1 m = some x) : Ev g Y_Mo_lost [vr this, vi v1] m (some (vl x.1)) x.2 :=
  Ev_of 0 (by decide +kernel) rfl (Nat.le_of_ble_eq_true rfl) rfl (k_Mo_lost h_this h ⟨rfl, rfl⟩)
