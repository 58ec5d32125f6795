theorem k_Re_hasRoom {g : GE} {this : Nat} {v1 : Int32} {m : Mem} (h_this : kd this = 6) {r : Option AV} {m' : Mem} {x : Int32} (h : Re_hasRoom this v1 m = some x) (hp : (fun x : Int32 => r = some (vi x) ∧ m' = m) x) : V g Y_Re_hasRoom 0 [some (vr this), some (vi v1)] [] m (PM g Y_Re_hasRoom r m') := by
  unfold Re_hasRoom at h
  refine V_aload_n (i := 0) (pc := 0) dX5_hasRoom_0 rfl rfl ?_
  refine V_getI (pc := 1) dX5_hasRoom_1 fl_Re_26 h_this rfl ?_
  refine V_iload_n (i := 1) (pc := 4) dX5_hasRoom_4 rfl rfl ?_
  refine V_iadd (pc := 5) dX5_hasRoom_5 ?_
  refine V_sipush (v := 1600) (pc := 6) dX5_hasRoom_6 rfl ?_
  refine V_icmp_gt (pc := 9) (tgt := 16) dX5_hasRoom_9 rfl (fun q => ?_) (fun q => ?_)
  · have h := ite_t q h
    refine V_iconst (v := 0) (pc := 16) dX5_hasRoom_16 rfl ?_
    obtain rfl := Option.some.inj h
    exact E_z (pc := 17) dX5_hasRoom_17 rfl rfl hp
  · have h := ite_f q h
    refine V_iconst (v := 1) (pc := 12) dX5_hasRoom_12 rfl ?_
    refine V_goto (tgt := 17) (pc := 13) dX5_hasRoom_13 rfl ?_
    obtain rfl := Option.some.inj h
    exact E_z (pc := 17) dX5_hasRoom_17 rfl rfl hp
theorem e_Re_hasRoom {g : GE} {this : Nat} {v1 : Int32} {m : Mem} (h_this : kd this = 6) {x : Int32} (h : Re_hasRoom this v1 m = some x) : Ev g Y_Re_hasRoom [vr this, vi v1] m (some (vi x)) m :=
  Ev_of 0 (by decide +kernel) rfl (Nat.le_of_ble_eq_true rfl) rfl (k_Re_hasRoom h_this h ⟨rfl, rfl⟩)
theorem k_Re_addNumber_b49 {g : GE} {this : Nat} {v1 : Int32} {v2 : Int32}  {m : Mem} (h_this : kd this = 6) {r : Option AV} {m' : Mem} {x : (Int32 × Mem) ⊕ (Mem)} (h : Re_addNumber_b49 this v1 v2 m = some x) (hp : (Sum.elim (fun s : Int32 × Mem => V g Y_Re_addNumber 3 [some (vr this), some (vi v1), some (vi s.1)] [] s.2 (PM g Y_Re_addNumber r m')) (fun x : Mem => r = none ∧ m' = x)) x) : V g Y_Re_addNumber 49 [some (vr this), some (vi v1), some (vi v2)] [] m (PM g Y_Re_addNumber r m') := by
  unfold Re_addNumber_b49 at h
  refine V_iinc (i := 2) (v := (v2 + (-8))) (ls' := [some (vr this), some (vi v1), some (vi (v2 + (-8)))]) (pc := 49) dX5_addNumber_49 rfl rfl (Nat.le_of_ble_eq_true rfl) rfl ?_
  refine V_goto (tgt := 3) (pc := 52) dX5_addNumber_52 rfl ?_
  obtain rfl := Option.some.inj h
  exact hp
theorem k_Re_addNumber_l3 {g : GE} {this : Nat} {v1 : Int32} {v2 : Int32} {m : Mem} (h_this : kd this = 6) {r : Option AV} {m' : Mem} {x : (Int32 × Mem) ⊕ (Mem)} (h : Re_addNumber_l3 this v1 v2 m = some x) (hp : (Sum.elim (fun s : Int32 × Mem => V g Y_Re_addNumber 3 [some (vr this), some (vi v1), some (vi s.1)] [] s.2 (PM g Y_Re_addNumber r m')) (fun x : Mem => r = none ∧ m' = x)) x) : V g Y_Re_addNumber 3 [some (vr this), some (vi v1), some (vi v2)] [] m (PM g Y_Re_addNumber r m') := by
  unfold Re_addNumber_l3 at h
  refine V_iload_n (i := 2) (pc := 3) dX5_addNumber_3 rfl rfl ?_
  refine V_if_lt (pc := 4) (tgt := 55) dX5_addNumber_4 rfl (fun q => ?_) (fun q => ?_)
  · have h := ite_t q h
    obtain ⟨y1, hu1, rfl⟩ := up_e h
    have h := hu1
    obtain rfl := Option.some.inj h
    exact E_v (pc := 55) dX5_addNumber_55 rfl hp
  · have h := ite_f q h
    refine V_aload_n (i := 0) (pc := 7) dX5_addNumber_7 rfl rfl ?_
    refine V_getI (pc := 8) dX5_addNumber_8 fl_Re_26 h_this rfl ?_
    refine V_if_lt (pc := 11) (tgt := 49) dX5_addNumber_11 rfl (fun q => ?_) (fun q => ?_)
    · have h := ite_t q h
      exact k_Re_addNumber_b49 h_this h hp
    · have h := ite_f q h
      refine V_aload_n (i := 0) (pc := 14) dX5_addNumber_14 rfl rfl ?_
      refine V_getI (pc := 15) dX5_addNumber_15 fl_Re_26 h_this rfl ?_
      refine V_aload_n (i := 0) (pc := 18) dX5_addNumber_18 rfl rfl ?_
      refine V_getR (b := (this + 1)) (pc := 19) dX5_addNumber_19 fl_Re_9 h_this rfl rfl ?_
      refine V_alen (k := 2) (pc := 22) dX5_addNumber_22 (kf_5_0 h_this) (Nat.le_of_ble_eq_true rfl) (af_5_0 h_this) ?_
      refine V_icmp_ge (pc := 23) (tgt := 49) dX5_addNumber_23 rfl (fun q => ?_) (fun q => ?_)
      · have h := ite_t q h
        exact k_Re_addNumber_b49 h_this h hp
      · have h := ite_f q h
        refine V_aload_n (i := 0) (pc := 26) dX5_addNumber_26 rfl rfl ?_
        refine V_getR (b := (this + 1)) (pc := 27) dX5_addNumber_27 fl_Re_9 h_this rfl rfl ?_
        refine V_aload_n (i := 0) (pc := 30) dX5_addNumber_30 rfl rfl ?_
        refine V_getI (pc := 31) dX5_addNumber_31 fl_Re_26 h_this rfl ?_
        refine V_iload_n (i := 1) (pc := 34) dX5_addNumber_34 rfl rfl ?_
        refine V_iload_n (i := 2) (pc := 35) dX5_addNumber_35 rfl rfl ?_
        refine V_ishr (pc := 36) dX5_addNumber_36 ?_
        refine V_i2b (pc := 37) dX5_addNumber_37 ?_
        obtain ⟨hg38, h⟩ := gd_e h
        refine V_bast_lt (pc := 38) dX5_addNumber_38 (kf_5_0 h_this) (af_5_0 h_this) hg38 h (fun m38 h => ?_)
        refine V_aload_n (i := 0) (pc := 39) dX5_addNumber_39 rfl rfl ?_
        refine V_dupr (pc := 40) dX5_addNumber_40 ?_
        refine V_getI (pc := 41) dX5_addNumber_41 fl_Re_26 h_this rfl ?_
        refine V_iconst (v := 1) (pc := 44) dX5_addNumber_44 rfl ?_
        refine V_iadd (pc := 45) dX5_addNumber_45 ?_
        refine V_putI_lt (pc := 46) dX5_addNumber_46 fp_Re_26 h_this rfl rfl rfl h (fun m46 h => ?_)
        exact k_Re_addNumber_b49 h_this h hp
theorem k_Re_addNumber {g : GE} {this : Nat} {v1 : Int32} {m : Mem} (h_this : kd this = 6) {r : Option AV} {m' : Mem} {x : Mem} (h : Re_addNumber this v1 m = some x) (hp : (fun x : Mem => r = none ∧ m' = x) x) : V g Y_Re_addNumber 0 [some (vr this), some (vi v1), none] [] m (PM g Y_Re_addNumber r m') := by
  unfold Re_addNumber at h
  refine V_bipush (v := 24) (pc := 0) dX5_addNumber_0 rfl ?_
  refine V_istore_n (i := 2) (ls' := [some (vr this), some (vi v1), some (vi 24)]) (pc := 2) dX5_addNumber_2 rfl (Nat.le_of_ble_eq_true rfl) rfl ?_
  exact loop_V (A := fun s : Int32 × Mem => V g Y_Re_addNumber 3 [some (vr this), some (vi v1), some (vi s.1)] [] s.2 (PM g Y_Re_addNumber r m')) (fun s x h hp => k_Re_addNumber_l3 h_this h hp) (24, m) _ h hp
theorem e_Re_addNumber {g : GE} {this : Nat} {v1 : Int32} {m : Mem} (h_this : kd this = 6) {x : Mem} (h : Re_addNumber this v1 m = some x) : Ev g Y_Re_addNumber [vr this, vi v1] m (none) x :=
  Ev_of 1 (by decide +kernel) rfl (Nat.le_of_ble_eq_true rfl) rfl (k_Re_addNumber h_this h ⟨rfl, rfl⟩)
theorem k_PL_feed {g : GE} {this : Nat} {v1 : Int32} {v2 : Int32} {v3 : Int32} {v4 : Int32} {v5 : Int32} {m : Mem} (h_this : kd this = 11) {r : Option AV} {m' : Mem} {x : Int32 × Mem} (h : PL_feed this v1 v2 v3 v4 v5 m = some x) (hp : (fun x : Int32 × Mem => r = some (vi x.1) ∧ m' = x.2) x) : V g Y_PL_feed 0 [some (vr this), some (vi v1), some (vi v2), some (vi v3), some (vi v4), some (vi v5)] [] m (PM g Y_PL_feed r m') := by
  unfold PL_feed at h
  refine V_aload_n (i := 0) (pc := 0) dX10_feed_0 rfl rfl ?_
  refine V_getR (b := (this + 1)) (pc := 1) dX10_feed_1 fl_PL_10 h_this rfl rfl ?_
  refine V_bipush (v := 20) (pc := 4) dX10_feed_4 rfl ?_
  obtain ⟨r6, e6, h⟩ := bnd h
  refine V_invV1 (c := 5) (pc := 6) dX10_feed_6 (e_Re_hasRoom (kf_10_0 h_this) e6) iv_PL_73 (rm_PL_feed_Re_hasRoom _ _ _) rfl (kf_10_0 h_this) cf_5 rfl (Nat.le_of_ble_eq_true rfl) rfl ?_
  refine V_if_ne (pc := 9) (tgt := 14) dX10_feed_9 rfl (fun q => ?_) (fun q => ?_)
  · have h := ite_f q h
    refine V_aload_n (i := 0) (pc := 14) dX10_feed_14 rfl rfl ?_
    refine V_getR (b := (this + 1)) (pc := 15) dX10_feed_15 fl_PL_10 h_this rfl rfl ?_
    refine V_iload_n (i := 1) (pc := 18) dX10_feed_18 rfl rfl ?_
    obtain ⟨m19, e19, h⟩ := bnd h
    refine V_invV0 (c := 5) (pc := 19) dX10_feed_19 (e_Re_addNumber (kf_10_0 h_this) e19) iv_PL_77 (rm_PL_feed_Re_addNumber _ _ _) rfl (kf_10_0 h_this) cf_5 rfl (Nat.le_of_ble_eq_true rfl) rfl ?_
    refine V_aload_n (i := 0) (pc := 22) dX10_feed_22 rfl rfl ?_
    refine V_getR (b := (this + 1)) (pc := 23) dX10_feed_23 fl_PL_10 h_this rfl rfl ?_
    refine V_iload_n (i := 2) (pc := 26) dX10_feed_26 rfl rfl ?_
    obtain ⟨m27, e27, h⟩ := bnd h
    refine V_invV0 (c := 5) (pc := 27) dX10_feed_27 (e_Re_addNumber (kf_10_0 h_this) e27) iv_PL_77 (rm_PL_feed_Re_addNumber _ _ _) rfl (kf_10_0 h_this) cf_5 rfl (Nat.le_of_ble_eq_true rfl) rfl ?_
    refine V_aload_n (i := 0) (pc := 30) dX10_feed_30 rfl rfl ?_
    refine V_getR (b := (this + 1)) (pc := 31) dX10_feed_31 fl_PL_10 h_this rfl rfl ?_
    refine V_iload_n (i := 3) (pc := 34) dX10_feed_34 rfl rfl ?_
    obtain ⟨m35, e35, h⟩ := bnd h
    refine V_invV0 (c := 5) (pc := 35) dX10_feed_35 (e_Re_addNumber (kf_10_0 h_this) e35) iv_PL_77 (rm_PL_feed_Re_addNumber _ _ _) rfl (kf_10_0 h_this) cf_5 rfl (Nat.le_of_ble_eq_true rfl) rfl ?_
    refine V_aload_n (i := 0) (pc := 38) dX10_feed_38 rfl rfl ?_
    refine V_getR (b := (this + 1)) (pc := 39) dX10_feed_39 fl_PL_10 h_this rfl rfl ?_
    refine V_iload (i := 4) (pc := 42) dX10_feed_42 rfl ?_
    obtain ⟨m44, e44, h⟩ := bnd h
    refine V_invV0 (c := 5) (pc := 44) dX10_feed_44 (e_Re_addNumber (kf_10_0 h_this) e44) iv_PL_77 (rm_PL_feed_Re_addNumber _ _ _) rfl (kf_10_0 h_this) cf_5 rfl (Nat.le_of_ble_eq_true rfl) rfl ?_
    refine V_aload_n (i := 0) (pc := 47) dX10_feed_47 rfl rfl ?_
    refine V_getR (b := (this + 1)) (pc := 48) dX10_feed_48 fl_PL_10 h_this rfl rfl ?_
    refine V_iload (i := 5) (pc := 51) dX10_feed_51 rfl ?_
    obtain ⟨m53, e53, h⟩ := bnd h
    refine V_invV0 (c := 5) (pc := 53) dX10_feed_53 (e_Re_addNumber (kf_10_0 h_this) e53) iv_PL_77 (rm_PL_feed_Re_addNumber _ _ _) rfl (kf_10_0 h_this) cf_5 rfl (Nat.le_of_ble_eq_true rfl) rfl ?_
    refine V_aload_n (i := 0) (pc := 56) dX10_feed_56 rfl rfl ?_
    refine V_getR (b := (this + 1)) (pc := 57) dX10_feed_57 fl_PL_10 h_this rfl rfl ?_
    refine V_getI (pc := 60) dX10_feed_60 fl_PL_81 (kf_10_0 h_this) rfl ?_
    obtain rfl := Option.some.inj h
    exact E_i (pc := 63) dX10_feed_63 rfl hp
  · have h := ite_t q h
    refine V_iconst (v := (-1)) (pc := 12) dX10_feed_12 rfl ?_
    obtain rfl := Option.some.inj h
    exact E_i (pc := 13) dX10_feed_13 rfl hp
theorem e_PL_feed {g : GE} {this : Nat} {v1 : Int32} {v2 : Int32} {v3 : Int32} {v4 : Int32} {v5 : Int32} {m : Mem} (h_this : kd this = 11) {x : Int32 × Mem} (h : PL_feed this v1 v2 v3 v4 v5 m = some x) : Ev g Y_PL_feed [vr this, vi v1, vi v2, vi v3, vi v4, vi v5] m (some (vi x.1)) x.2 :=
  Ev_of 0 (by decide +kernel) rfl (Nat.le_of_ble_eq_true rfl) rfl (k_PL_feed h_this h ⟨rfl, rfl⟩)
theorem k_PL_end {g : GE} {this : Nat} {v1 : Int32} {m : Mem} (h_this : kd this = 11) {r : Option AV} {m' : Mem} {x : Int32 × Mem} (h : PL_end this v1 m = some x) (hp : (fun x : Int32 × Mem => r = some (vi x.1) ∧ m' = x.2) x) : V g Y_PL_end 0 [some (vr this), some (vi v1)] [] m (PM g Y_PL_end r m') := by
  unfold PL_end at h
  refine V_iload_n (i := 1) (pc := 0) dX10_end_0 rfl rfl ?_
  refine V_if_lt (pc := 1) (tgt := 15) dX10_end_1 rfl (fun q => ?_) (fun q => ?_)
  · have h := ite_t q h
    refine V_iconst (v := (-1)) (pc := 15) dX10_end_15 rfl ?_
    obtain rfl := Option.some.inj h
    exact E_i (pc := 16) dX10_end_16 rfl hp
  · have h := ite_f q h
    refine V_iload_n (i := 1) (pc := 4) dX10_end_4 rfl rfl ?_
    refine V_aload_n (i := 0) (pc := 5) dX10_end_5 rfl rfl ?_
    refine V_getR (b := (this + 1)) (pc := 6) dX10_end_6 fl_PL_10 h_this rfl rfl ?_
    refine V_getI (pc := 9) dX10_end_9 fl_PL_81 (kf_10_0 h_this) rfl ?_
    refine V_icmp_le (pc := 12) (tgt := 17) dX10_end_12 rfl (fun q => ?_) (fun q => ?_)
    · have h := ite_t q h
      refine V_aload_n (i := 0) (pc := 17) dX10_end_17 rfl rfl ?_
      refine V_getR (b := (this + 1)) (pc := 18) dX10_end_18 fl_PL_10 h_this rfl rfl ?_
      refine V_iload_n (i := 1) (pc := 21) dX10_end_21 rfl rfl ?_
      refine V_putI_lt (pc := 22) dX10_end_22 fp_PL_81 (kf_10_0 h_this) rfl rfl rfl h (fun m22 h => ?_)
      refine V_iload_n (i := 1) (pc := 25) dX10_end_25 rfl rfl ?_
      obtain rfl := Option.some.inj h
      exact E_i (pc := 26) dX10_end_26 rfl hp
    · have h := ite_f q h
      refine V_iconst (v := (-1)) (pc := 15) dX10_end_15 rfl ?_
      obtain rfl := Option.some.inj h
      exact E_i (pc := 16) dX10_end_16 rfl hp
theorem e_PL_end {g : GE} {this : Nat} {v1 : Int32} {m : Mem} (h_this : kd this = 11) {x : Int32 × Mem} (h : PL_end this v1 m = some x) : Ev g Y_PL_end [vr this, vi v1] m (some (vi x.1)) x.2 :=
  Ev_of 0 (by decide +kernel) rfl (Nat.le_of_ble_eq_true rfl) rfl (k_PL_end h_this h ⟨rfl, rfl⟩)
theorem k_Fl_clear {g : GE} {this : Nat} {m : Mem} (h_this : kd this = 3) {r : Option AV} {m' : Mem} {x : Mem} (h : Fl_clear this m = some x) (hp : (fun x : Mem => r = none ∧ m' = x) x) : V g Y_Fl_clear 0 [some (vr this)] [] m (PM g Y_Fl_clear r m') := by
  unfold Fl_clear at h
  refine V_aload_n (i := 0) (pc := 0) dX2_clear_0 rfl rfl ?_
  refine V_iconst (v := 0) (pc := 1) dX2_clear_1 rfl ?_
  refine V_putI_lt (pc := 2) dX2_clear_2 fp_Fl_29 h_this rfl rfl rfl h (fun m2 h => ?_)
  refine V_aload_n (i := 0) (pc := 5) dX2_clear_5 rfl rfl ?_
  refine V_iconst (v := 0) (pc := 6) dX2_clear_6 rfl ?_
  refine V_putI_lt (pc := 7) dX2_clear_7 fp_Fl_33 h_this rfl rfl rfl h (fun m7 h => ?_)
  refine V_aload_n (i := 0) (pc := 10) dX2_clear_10 rfl rfl ?_
  refine V_iconst (v := 0) (pc := 11) dX2_clear_11 rfl ?_
  refine V_putI_lt (pc := 12) dX2_clear_12 fp_Fl_36 h_this rfl rfl rfl h (fun m12 h => ?_)
  refine V_aload_n (i := 0) (pc := 15) dX2_clear_15 rfl rfl ?_
  refine V_iconst (v := 0) (pc := 16) dX2_clear_16 rfl ?_
  refine V_putI_lt (pc := 17) dX2_clear_17 fp_Fl_39 h_this rfl rfl rfl h (fun m17 h => ?_)
  refine V_aload_n (i := 0) (pc := 20) dX2_clear_20 rfl rfl ?_
  refine V_iconst (v := 0) (pc := 21) dX2_clear_21 rfl ?_
  refine V_putI_lt (pc := 22) dX2_clear_22 fp_Fl_42 h_this rfl rfl rfl h (fun m22 h => ?_)
  refine V_aload_n (i := 0) (pc := 25) dX2_clear_25 rfl rfl ?_
  refine V_iconst (v := 0) (pc := 26) dX2_clear_26 rfl ?_
  refine V_putI_lt (pc := 27) dX2_clear_27 fp_Fl_45 h_this rfl rfl rfl h (fun m27 h => ?_)
  refine V_aload_n (i := 0) (pc := 30) dX2_clear_30 rfl rfl ?_
  refine V_iconst (v := 0) (pc := 31) dX2_clear_31 rfl ?_
  refine V_putI_lt (pc := 32) dX2_clear_32 fp_Fl_48 h_this rfl rfl rfl h (fun m32 h => ?_)
  refine V_aload_n (i := 0) (pc := 35) dX2_clear_35 rfl rfl ?_
  refine V_iconst (v := 0) (pc := 36) dX2_clear_36 rfl ?_
  refine V_putI_lt (pc := 37) dX2_clear_37 fp_Fl_51 h_this rfl rfl rfl h (fun m37 h => ?_)
  refine V_aload_n (i := 0) (pc := 40) dX2_clear_40 rfl rfl ?_
  refine V_iconst (v := 1) (pc := 41) dX2_clear_41 rfl ?_
  refine V_putI_lt (pc := 42) dX2_clear_42 fp_Fl_54 h_this rfl rfl rfl h (fun m42 h => ?_)
  refine V_aload_n (i := 0) (pc := 45) dX2_clear_45 rfl rfl ?_
  refine V_iconst (v := 5) (pc := 46) dX2_clear_46 rfl ?_
  refine V_putI_lt (pc := 47) dX2_clear_47 fp_Fl_57 h_this rfl rfl rfl h (fun m47 h => ?_)
  refine V_aload_n (i := 0) (pc := 50) dX2_clear_50 rfl rfl ?_
  refine V_bipush (v := 50) (pc := 51) dX2_clear_51 rfl ?_
  refine V_putI_lt (pc := 53) dX2_clear_53 fp_Fl_60 h_this rfl rfl rfl h (fun m53 h => ?_)
  refine V_aload_n (i := 0) (pc := 56) dX2_clear_56 rfl rfl ?_
  refine V_bipush (v := 50) (pc := 57) dX2_clear_57 rfl ?_
  refine V_putI_lt (pc := 59) dX2_clear_59 fp_Fl_63 h_this rfl rfl rfl h (fun m59 h => ?_)
  refine V_aload_n (i := 0) (pc := 62) dX2_clear_62 rfl rfl ?_
  refine V_bipush (v := 20) (pc := 63) dX2_clear_63 rfl ?_
  refine V_putI_lt (pc := 65) dX2_clear_65 fp_Fl_66 h_this rfl rfl rfl h (fun m65 h => ?_)
  refine V_aload_n (i := 0) (pc := 68) dX2_clear_68 rfl rfl ?_
  refine V_iconst (v := 0) (pc := 69) dX2_clear_69 rfl ?_
  refine V_putI_lt (pc := 70) dX2_clear_70 fp_Fl_69 h_this rfl rfl rfl h (fun m70 h => ?_)
  refine V_aload_n (i := 0) (pc := 73) dX2_clear_73 rfl rfl ?_
  refine V_iconst (v := 0) (pc := 74) dX2_clear_74 rfl ?_
  refine V_putI_lt (pc := 75) dX2_clear_75 fp_Fl_72 h_this rfl rfl rfl h (fun m75 h => ?_)
  refine V_aload_n (i := 0) (pc := 78) dX2_clear_78 rfl rfl ?_
  refine V_getR (b := (this + 1)) (pc := 79) dX2_clear_79 fl_Fl_14 h_this rfl rfl ?_
  refine V_iconst (v := 0) (pc := 82) dX2_clear_82 rfl ?_
  refine V_putI_lt (pc := 83) dX2_clear_83 fp_Fl_75 (kf_2_15 h_this) rfl rfl rfl h (fun m83 h => ?_)
  refine V_aload_n (i := 0) (pc := 86) dX2_clear_86 rfl rfl ?_
  refine V_getR (b := (this + 10)) (pc := 87) dX2_clear_87 fl_Fl_20 h_this rfl rfl ?_
  refine V_iconst (v := 0) (pc := 90) dX2_clear_90 rfl ?_
  refine V_putI_lt (pc := 91) dX2_clear_91 fp_Fl_75 (kf_2_16 h_this) rfl rfl rfl h (fun m91 h => ?_)
  refine V_aload_n (i := 0) (pc := 94) dX2_clear_94 rfl rfl ?_
  refine V_getR (b := (this + 18)) (pc := 95) dX2_clear_95 fl_Fl_23 h_this rfl rfl ?_
  refine V_iconst (v := 0) (pc := 98) dX2_clear_98 rfl ?_
  refine V_putI_lt (pc := 99) dX2_clear_99 fp_Fl_75 (kf_2_17 h_this) rfl rfl rfl h (fun m99 h => ?_)
  obtain rfl := Option.some.inj h
  exact E_v (pc := 102) dX2_clear_102 rfl hp
theorem e_Fl_clear {g : GE} {this : Nat} {m : Mem} (h_this : kd this = 3) {x : Mem} (h : Fl_clear this m = some x) : Ev g Y_Fl_clear [vr this] m (none) x :=
  Ev_of 0 (by decide +kernel) rfl (Nat.le_of_ble_eq_true rfl) rfl (k_Fl_clear h_this h ⟨rfl, rfl⟩)
theorem k_Re_byteAt {g : GE} {this : Nat} {v1 : Int32} {m : Mem} (h_this : kd this = 6) {r : Option AV} {m' : Mem} {x : Int32} (h : Re_byteAt this v1 m = some x) (hp : (fun x : Int32 => r = some (vi x) ∧ m' = m) x) : V g Y_Re_byteAt 0 [some (vr this), some (vi v1)] [] m (PM g Y_Re_byteAt r m') := by
  unfold Re_byteAt at h
  refine V_iload_n (i := 1) (pc := 0) dX5_byteAt_0 rfl rfl ?_
  refine V_if_lt (pc := 1) (tgt := 34) dX5_byteAt_1 rfl (fun q => ?_) (fun q => ?_)
  · have h := ite_t q h
    refine V_iconst (v := (-1)) (pc := 34) dX5_byteAt_34 rfl ?_
    obtain rfl := Option.some.inj h
    exact E_i (pc := 35) dX5_byteAt_35 rfl hp
  · have h := ite_f q h
    refine V_iload_n (i := 1) (pc := 4) dX5_byteAt_4 rfl rfl ?_
    refine V_aload_n (i := 0) (pc := 5) dX5_byteAt_5 rfl rfl ?_
    refine V_getI (pc := 6) dX5_byteAt_6 fl_Re_26 h_this rfl ?_
    refine V_icmp_ge (pc := 9) (tgt := 34) dX5_byteAt_9 rfl (fun q => ?_) (fun q => ?_)
    · have h := ite_t q h
      refine V_iconst (v := (-1)) (pc := 34) dX5_byteAt_34 rfl ?_
      obtain rfl := Option.some.inj h
      exact E_i (pc := 35) dX5_byteAt_35 rfl hp
    · have h := ite_f q h
      refine V_iload_n (i := 1) (pc := 12) dX5_byteAt_12 rfl rfl ?_
      refine V_aload_n (i := 0) (pc := 13) dX5_byteAt_13 rfl rfl ?_
      refine V_getR (b := (this + 1)) (pc := 14) dX5_byteAt_14 fl_Re_9 h_this rfl rfl ?_
      refine V_alen (k := 2) (pc := 17) dX5_byteAt_17 (kf_5_0 h_this) (Nat.le_of_ble_eq_true rfl) (af_5_0 h_this) ?_
      refine V_icmp_ge (pc := 18) (tgt := 34) dX5_byteAt_18 rfl (fun q => ?_) (fun q => ?_)
      · have h := ite_t q h
        refine V_iconst (v := (-1)) (pc := 34) dX5_byteAt_34 rfl ?_
        obtain rfl := Option.some.inj h
        exact E_i (pc := 35) dX5_byteAt_35 rfl hp
      · have h := ite_f q h
        refine V_aload_n (i := 0) (pc := 21) dX5_byteAt_21 rfl rfl ?_
        refine V_getR (b := (this + 1)) (pc := 22) dX5_byteAt_22 fl_Re_9 h_this rfl rfl ?_
        refine V_iload_n (i := 1) (pc := 25) dX5_byteAt_25 rfl rfl ?_
        obtain ⟨hg26, h⟩ := gd_e h
        refine V_bald (pc := 26) dX5_byteAt_26 (kf_5_0 h_this) (af_5_0 h_this) hg26 ?_
        refine V_sipush (v := 255) (pc := 27) dX5_byteAt_27 rfl ?_
        refine V_iand (pc := 30) dX5_byteAt_30 ?_
        refine V_goto (tgt := 35) (pc := 31) dX5_byteAt_31 rfl ?_
        obtain rfl := Option.some.inj h
        exact E_i (pc := 35) dX5_byteAt_35 rfl hp
theorem e_Re_byteAt {g : GE} {this : Nat} {v1 : Int32} {m : Mem} (h_this : kd this = 6) {x : Int32} (h : Re_byteAt this v1 m = some x) : Ev g Y_Re_byteAt [vr this, vi v1] m (some (vi x)) m :=
  Ev_of 0 (by decide +kernel) rfl (Nat.le_of_ble_eq_true rfl) rfl (k_Re_byteAt h_this h ⟨rfl, rfl⟩)
theorem k_Re_tokenOf_b35 {g : GE}  {v0 : Int32}  {m : Mem} {r : Option AV} {m' : Mem} {x : Int32} (h : Re_tokenOf_b35 v0 m = some x) (hp : (fun x : Int32 => r = some (vi x) ∧ m' = m) x) : V g Y_Re_tokenOf 35 [some (vi v0)] [] m (PM g Y_Re_tokenOf r m') := by
  unfold Re_tokenOf_b35 at h
  refine V_iload_n (i := 0) (pc := 35) dX5_tokenOf_35 rfl rfl ?_
  refine V_bipush (v := 59) (pc := 36) dX5_tokenOf_36 rfl ?_
  refine V_icmp_ne (pc := 38) (tgt := 45) dX5_tokenOf_38 rfl (fun q => ?_) (fun q => ?_)
  · have h := ite_f q h
    refine V_iconst (v := 4) (pc := 45) dX5_tokenOf_45 rfl ?_
    obtain rfl := Option.some.inj h
    exact E_i (pc := 46) dX5_tokenOf_46 rfl hp
  · have h := ite_t q h
    refine V_iconst (v := 3) (pc := 41) dX5_tokenOf_41 rfl ?_
    refine V_goto (tgt := 46) (pc := 42) dX5_tokenOf_42 rfl ?_
    obtain rfl := Option.some.inj h
    exact E_i (pc := 46) dX5_tokenOf_46 rfl hp
theorem k_Re_tokenOf_b21 {g : GE}  {v0 : Int32}  {m : Mem} {r : Option AV} {m' : Mem} {x : Int32} (h : Re_tokenOf_b21 v0 m = some x) (hp : (fun x : Int32 => r = some (vi x) ∧ m' = m) x) : V g Y_Re_tokenOf 21 [some (vi v0)] [] m (PM g Y_Re_tokenOf r m') := by
  unfold Re_tokenOf_b21 at h
  refine V_iload_n (i := 0) (pc := 21) dX5_tokenOf_21 rfl rfl ?_
  refine V_bipush (v := 48) (pc := 22) dX5_tokenOf_22 rfl ?_
  refine V_icmp_lt (pc := 24) (tgt := 35) dX5_tokenOf_24 rfl (fun q => ?_) (fun q => ?_)
  · have h := ite_t q h
    exact k_Re_tokenOf_b35  h hp
  · have h := ite_f q h
    refine V_iload_n (i := 0) (pc := 27) dX5_tokenOf_27 rfl rfl ?_
    refine V_bipush (v := 57) (pc := 28) dX5_tokenOf_28 rfl ?_
    refine V_icmp_gt (pc := 30) (tgt := 35) dX5_tokenOf_30 rfl (fun q => ?_) (fun q => ?_)
    · have h := ite_t q h
      exact k_Re_tokenOf_b35  h hp
    · have h := ite_f q h
      refine V_iconst (v := 2) (pc := 33) dX5_tokenOf_33 rfl ?_
      obtain rfl := Option.some.inj h
      exact E_i (pc := 34) dX5_tokenOf_34 rfl hp
theorem k_Re_tokenOf {g : GE} {v0 : Int32} {m : Mem} {r : Option AV} {m' : Mem} {x : Int32} (h : Re_tokenOf v0 m = some x) (hp : (fun x : Int32 => r = some (vi x) ∧ m' = m) x) : V g Y_Re_tokenOf 0 [some (vi v0)] [] m (PM g Y_Re_tokenOf r m') := by
  unfold Re_tokenOf at h
  refine V_iload_n (i := 0) (pc := 0) dX5_tokenOf_0 rfl rfl ?_
  refine V_iconst (v := (-1)) (pc := 1) dX5_tokenOf_1 rfl ?_
  refine V_icmp_ne (pc := 2) (tgt := 7) dX5_tokenOf_2 rfl (fun q => ?_) (fun q => ?_)
  · have h := ite_f q h
    refine V_iload_n (i := 0) (pc := 7) dX5_tokenOf_7 rfl rfl ?_
    refine V_bipush (v := 97) (pc := 8) dX5_tokenOf_8 rfl ?_
    refine V_icmp_lt (pc := 10) (tgt := 21) dX5_tokenOf_10 rfl (fun q => ?_) (fun q => ?_)
    · have h := ite_t q h
      exact k_Re_tokenOf_b21  h hp
    · have h := ite_f q h
      refine V_iload_n (i := 0) (pc := 13) dX5_tokenOf_13 rfl rfl ?_
      refine V_bipush (v := 122) (pc := 14) dX5_tokenOf_14 rfl ?_
      refine V_icmp_gt (pc := 16) (tgt := 21) dX5_tokenOf_16 rfl (fun q => ?_) (fun q => ?_)
      · have h := ite_t q h
        exact k_Re_tokenOf_b21  h hp
      · have h := ite_f q h
        refine V_iconst (v := 1) (pc := 19) dX5_tokenOf_19 rfl ?_
        obtain rfl := Option.some.inj h
        exact E_i (pc := 20) dX5_tokenOf_20 rfl hp
  · have h := ite_t q h
    refine V_iconst (v := 0) (pc := 5) dX5_tokenOf_5 rfl ?_
    obtain rfl := Option.some.inj h
    exact E_i (pc := 6) dX5_tokenOf_6 rfl hp
theorem e_Re_tokenOf {g : GE} {v0 : Int32} {m : Mem} {x : Int32} (h : Re_tokenOf v0 m = some x) : Ev g Y_Re_tokenOf [vi v0] m (some (vi x)) m :=
  Ev_of 0 (by decide +kernel) rfl (Nat.le_of_ble_eq_true rfl) rfl (k_Re_tokenOf  h ⟨rfl, rfl⟩)
theorem k_Re_next_b151 {g : GE} {this : Nat}   {m : Mem} (h_this : kd this = 6) {r : Option AV} {m' : Mem} {x : (Mem) ⊕ (Mem)} (h : Re_next_b151 this m = some x) (hp : (Sum.elim (fun s : Mem => V g Y_Re_next 86 [some (vr this)] [] s (PM g Y_Re_next r m')) (fun x : Mem => r = none ∧ m' = x)) x) : V g Y_Re_next 151 [some (vr this)] [] m (PM g Y_Re_next r m') := by
  unfold Re_next_b151 at h
  refine V_aload_n (i := 0) (pc := 151) dX5_next_151 rfl rfl ?_
  refine V_dupr (pc := 152) dX5_next_152 ?_
  refine V_getI (pc := 153) dX5_next_153 fl_Re_35 h_this rfl ?_
  refine V_iconst (v := 1) (pc := 156) dX5_next_156 rfl ?_
  refine V_iadd (pc := 157) dX5_next_157 ?_
  refine V_putI_lt (pc := 158) dX5_next_158 fp_Re_35 h_this rfl rfl rfl h (fun m158 h => ?_)
  refine V_aload_n (i := 0) (pc := 161) dX5_next_161 rfl rfl ?_
  refine V_getI (pc := 162) dX5_next_162 fl_Re_44 h_this rfl ?_
  refine V_iconst (v := 1) (pc := 165) dX5_next_165 rfl ?_
  refine V_icmp_eq (pc := 166) (tgt := 86) dX5_next_166 rfl (fun q => ?_) (fun q => ?_)
  · have h := ite_t q h
    obtain rfl := Option.some.inj h
    exact hp
  · have h := ite_f q h
    refine V_aload_n (i := 0) (pc := 169) dX5_next_169 rfl rfl ?_
    refine V_getI (pc := 170) dX5_next_170 fl_Re_44 h_this rfl ?_
    refine V_iconst (v := 2) (pc := 173) dX5_next_173 rfl ?_
    refine V_icmp_eq (pc := 174) (tgt := 86) dX5_next_174 rfl (fun q => ?_) (fun q => ?_)
    · have h := ite_t q h
      obtain rfl := Option.some.inj h
      exact hp
    · have h := ite_f q h
      obtain ⟨y4, hu4, rfl⟩ := up_e h
      have h := hu4
      refine V_goto (tgt := 180) (pc := 177) dX5_next_177 rfl ?_
      obtain rfl := Option.some.inj h
      exact E_v (pc := 180) dX5_next_180 rfl hp
theorem k_Re_next_l86 {g : GE} {this : Nat}   {m : Mem} (h_this : kd this = 6) {r : Option AV} {m' : Mem} {x : (Mem) ⊕ (Mem)} (h : Re_next_l86 this m = some x) (hp : (Sum.elim (fun s : Mem => V g Y_Re_next 86 [some (vr this)] [] s (PM g Y_Re_next r m')) (fun x : Mem => r = none ∧ m' = x)) x) : V g Y_Re_next 86 [some (vr this)] [] m (PM g Y_Re_next r m') := by
  unfold Re_next_l86 at h
  refine V_aload_n (i := 0) (pc := 86) dX5_next_86 rfl rfl ?_
  refine V_getI (pc := 87) dX5_next_87 fl_Re_35 h_this rfl ?_
  refine V_aload_n (i := 0) (pc := 90) dX5_next_90 rfl rfl ?_
  refine V_getI (pc := 91) dX5_next_91 fl_Re_26 h_this rfl ?_
  refine V_icmp_ge (pc := 94) (tgt := 180) dX5_next_94 rfl (fun q => ?_) (fun q => ?_)
  · have h := ite_t q h
    obtain ⟨y2, hu2, rfl⟩ := up_e h
    have h := hu2
    obtain rfl := Option.some.inj h
    exact E_v (pc := 180) dX5_next_180 rfl hp
  · have h := ite_f q h
    refine V_aload_n (i := 0) (pc := 97) dX5_next_97 rfl rfl ?_
    refine V_aload_n (i := 0) (pc := 98) dX5_next_98 rfl rfl ?_
    refine V_getI (pc := 99) dX5_next_99 fl_Re_35 h_this rfl ?_
    obtain ⟨r102, e102, h⟩ := bnd h
    refine V_invV1 (c := 5) (pc := 102) dX5_next_102 (e_Re_byteAt h_this e102) iv_Re_220 (rm_Re_next_Re_byteAt _ _ _) rfl h_this cf_5 rfl (Nat.le_of_ble_eq_true rfl) rfl ?_
    obtain ⟨r105, e105, h⟩ := bnd h
    refine V_invS1 (pc := 105) dX5_next_105 (e_Re_tokenOf  e105) is_Re_228 (rm_Re_next_Re_tokenOf _ _ _) rfl (Nat.le_of_ble_eq_true rfl) rfl ?_
    refine V_aload_n (i := 0) (pc := 108) dX5_next_108 rfl rfl ?_
    refine V_getI (pc := 109) dX5_next_109 fl_Re_44 h_this rfl ?_
    refine V_icmp_ne (pc := 112) (tgt := 180) dX5_next_112 rfl (fun q => ?_) (fun q => ?_)
    · have h := ite_f q h
      obtain ⟨y3, hu3, rfl⟩ := up_e h
      have h := hu3
      obtain rfl := Option.some.inj h
      exact E_v (pc := 180) dX5_next_180 rfl hp
    · have h := ite_t q h
      refine V_aload_n (i := 0) (pc := 115) dX5_next_115 rfl rfl ?_
      refine V_getI (pc := 116) dX5_next_116 fl_Re_44 h_this rfl ?_
      refine V_iconst (v := 2) (pc := 119) dX5_next_119 rfl ?_
      refine V_icmp_ne (pc := 120) (tgt := 151) dX5_next_120 rfl (fun q => ?_) (fun q => ?_)
      · have h := ite_f q h
        exact k_Re_next_b151 h_this h hp
      · have h := ite_t q h
        refine V_aload_n (i := 0) (pc := 123) dX5_next_123 rfl rfl ?_
        refine V_ldc (v := 1000000) (pc := 124) dX5_next_124 con_Re_231 ?_
        refine V_bipush (v := 10) (pc := 126) dX5_next_126 rfl ?_
        refine V_aload_n (i := 0) (pc := 128) dX5_next_128 rfl rfl ?_
        refine V_getI (pc := 129) dX5_next_129 fl_Re_210 h_this rfl ?_
        refine V_imul (pc := 132) dX5_next_132 ?_
        refine V_aload_n (i := 0) (pc := 133) dX5_next_133 rfl rfl ?_
        refine V_aload_n (i := 0) (pc := 134) dX5_next_134 rfl rfl ?_
        refine V_getI (pc := 135) dX5_next_135 fl_Re_35 h_this rfl ?_
        obtain ⟨r138, e138, h⟩ := bnd h
        refine V_invV1 (c := 5) (pc := 138) dX5_next_138 (e_Re_byteAt h_this e138) iv_Re_220 (rm_Re_next_Re_byteAt _ _ _) rfl h_this cf_5 rfl (Nat.le_of_ble_eq_true rfl) rfl ?_
        refine V_iadd (pc := 141) dX5_next_141 ?_
        refine V_bipush (v := 48) (pc := 142) dX5_next_142 rfl ?_
        refine V_isub (pc := 144) dX5_next_144 ?_
        refine V_mmin (pc := 145) dX5_next_145 ma_Re_232 (rmM_Re_next _ _ _) (Nat.le_of_ble_eq_true rfl) ?_
        refine V_putI_lt (pc := 148) dX5_next_148 fp_Re_210 h_this rfl rfl rfl h (fun m148 h => ?_)
        exact k_Re_next_b151 h_this h hp
theorem k_Re_next_b58 {g : GE} {this : Nat}   {m : Mem} (h_this : kd this = 6) {r : Option AV} {m' : Mem} {x : Mem} (h : Re_next_b58 this m = some x) (hp : (fun x : Mem => r = none ∧ m' = x) x) : V g Y_Re_next 58 [some (vr this)] [] m (PM g Y_Re_next r m') := by
  unfold Re_next_b58 at h
  refine V_aload_n (i := 0) (pc := 58) dX5_next_58 rfl rfl ?_
  refine V_aload_n (i := 0) (pc := 59) dX5_next_59 rfl rfl ?_
  refine V_getI (pc := 60) dX5_next_60 fl_Re_213 h_this rfl ?_
  refine V_putI_lt (pc := 63) dX5_next_63 fp_Re_35 h_this rfl rfl rfl h (fun m63 h => ?_)
  refine V_aload_n (i := 0) (pc := 66) dX5_next_66 rfl rfl ?_
  refine V_aload_n (i := 0) (pc := 67) dX5_next_67 rfl rfl ?_
  refine V_aload_n (i := 0) (pc := 68) dX5_next_68 rfl rfl ?_
  refine V_getI (pc := 69) dX5_next_69 fl_Re_213 h_this rfl ?_
  obtain ⟨r72, e72, h⟩ := bnd h
  refine V_invV1 (c := 5) (pc := 72) dX5_next_72 (e_Re_byteAt h_this e72) iv_Re_220 (rm_Re_next_Re_byteAt _ _ _) rfl h_this cf_5 rfl (Nat.le_of_ble_eq_true rfl) rfl ?_
  obtain ⟨r75, e75, h⟩ := bnd h
  refine V_invS1 (pc := 75) dX5_next_75 (e_Re_tokenOf  e75) is_Re_228 (rm_Re_next_Re_tokenOf _ _ _) rfl (Nat.le_of_ble_eq_true rfl) rfl ?_
  refine V_putI_lt (pc := 78) dX5_next_78 fp_Re_44 h_this rfl rfl rfl h (fun m78 h => ?_)
  refine V_aload_n (i := 0) (pc := 81) dX5_next_81 rfl rfl ?_
  refine V_iconst (v := 0) (pc := 82) dX5_next_82 rfl ?_
  refine V_putI_lt (pc := 83) dX5_next_83 fp_Re_210 h_this rfl rfl rfl h (fun m83 h => ?_)
  exact loop_V (A := fun s : Mem => V g Y_Re_next 86 [some (vr this)] [] s (PM g Y_Re_next r m')) (fun s x h hp => k_Re_next_l86 h_this h hp) (m83) _ h hp
theorem k_Re_next_b45 {g : GE} {this : Nat}   {m : Mem} (h_this : kd this = 6) {r : Option AV} {m' : Mem} {x : (Mem) ⊕ (Mem)} (h : Re_next_b45 this m = some x) (hp : (Sum.elim (fun s : Mem => V g Y_Re_next 8 [some (vr this)] [] s (PM g Y_Re_next r m')) (fun x : Mem => r = none ∧ m' = x)) x) : V g Y_Re_next 45 [some (vr this)] [] m (PM g Y_Re_next r m') := by
  unfold Re_next_b45 at h
  refine V_aload_n (i := 0) (pc := 45) dX5_next_45 rfl rfl ?_
  refine V_dupr (pc := 46) dX5_next_46 ?_
  refine V_getI (pc := 47) dX5_next_47 fl_Re_213 h_this rfl ?_
  refine V_iconst (v := 1) (pc := 50) dX5_next_50 rfl ?_
  refine V_iadd (pc := 51) dX5_next_51 ?_
  refine V_putI_lt (pc := 52) dX5_next_52 fp_Re_213 h_this rfl rfl rfl h (fun m52 h => ?_)
  refine V_goto (tgt := 8) (pc := 55) dX5_next_55 rfl ?_
  obtain rfl := Option.some.inj h
  exact hp
theorem k_Re_next_l8 {g : GE} {this : Nat}   {m : Mem} (h_this : kd this = 6) {r : Option AV} {m' : Mem} {x : (Mem) ⊕ (Mem)} (h : Re_next_l8 this m = some x) (hp : (Sum.elim (fun s : Mem => V g Y_Re_next 8 [some (vr this)] [] s (PM g Y_Re_next r m')) (fun x : Mem => r = none ∧ m' = x)) x) : V g Y_Re_next 8 [some (vr this)] [] m (PM g Y_Re_next r m') := by
  unfold Re_next_l8 at h
  refine V_aload_n (i := 0) (pc := 8) dX5_next_8 rfl rfl ?_
  refine V_getI (pc := 9) dX5_next_9 fl_Re_213 h_this rfl ?_
  refine V_aload_n (i := 0) (pc := 12) dX5_next_12 rfl rfl ?_
  refine V_getI (pc := 13) dX5_next_13 fl_Re_26 h_this rfl ?_
  refine V_icmp_ge (pc := 16) (tgt := 58) dX5_next_16 rfl (fun q => ?_) (fun q => ?_)
  · have h := ite_t q h
    obtain ⟨y1, hu1, rfl⟩ := up_e h
    have h := hu1
    exact k_Re_next_b58 h_this h hp
  · have h := ite_f q h
    refine V_aload_n (i := 0) (pc := 19) dX5_next_19 rfl rfl ?_
    refine V_aload_n (i := 0) (pc := 20) dX5_next_20 rfl rfl ?_
    refine V_getI (pc := 21) dX5_next_21 fl_Re_213 h_this rfl ?_
    obtain ⟨r24, e24, h⟩ := bnd h
    refine V_invV1 (c := 5) (pc := 24) dX5_next_24 (e_Re_byteAt h_this e24) iv_Re_220 (rm_Re_next_Re_byteAt _ _ _) rfl h_this cf_5 rfl (Nat.le_of_ble_eq_true rfl) rfl ?_
    refine V_bipush (v := 32) (pc := 27) dX5_next_27 rfl ?_
    refine V_icmp_eq (pc := 29) (tgt := 45) dX5_next_29 rfl (fun q => ?_) (fun q => ?_)
    · have h := ite_t q h
      exact k_Re_next_b45 h_this h hp
    · have h := ite_f q h
      refine V_aload_n (i := 0) (pc := 32) dX5_next_32 rfl rfl ?_
      refine V_aload_n (i := 0) (pc := 33) dX5_next_33 rfl rfl ?_
      refine V_getI (pc := 34) dX5_next_34 fl_Re_213 h_this rfl ?_
      obtain ⟨r37, e37, h⟩ := bnd h
      refine V_invV1 (c := 5) (pc := 37) dX5_next_37 (e_Re_byteAt h_this e37) iv_Re_220 (rm_Re_next_Re_byteAt _ _ _) rfl h_this cf_5 rfl (Nat.le_of_ble_eq_true rfl) rfl ?_
      refine V_bipush (v := 10) (pc := 40) dX5_next_40 rfl ?_
      refine V_icmp_ne (pc := 42) (tgt := 58) dX5_next_42 rfl (fun q => ?_) (fun q => ?_)
      · have h := ite_f q h
        obtain ⟨y5, hu5, rfl⟩ := up_e h
        have h := hu5
        exact k_Re_next_b58 h_this h hp
      · have h := ite_t q h
        exact k_Re_next_b45 h_this h hp
theorem k_Re_next {g : GE} {this : Nat} {m : Mem} (h_this : kd this = 6) {r : Option AV} {m' : Mem} {x : Mem} (h : Re_next this m = some x) (hp : (fun x : Mem => r = none ∧ m' = x) x) : V g Y_Re_next 0 [some (vr this)] [] m (PM g Y_Re_next r m') := by
  unfold Re_next at h
  refine V_aload_n (i := 0) (pc := 0) dX5_next_0 rfl rfl ?_
  refine V_aload_n (i := 0) (pc := 1) dX5_next_1 rfl rfl ?_
  refine V_getI (pc := 2) dX5_next_2 fl_Re_35 h_this rfl ?_
  refine V_putI_lt (pc := 5) dX5_next_5 fp_Re_213 h_this rfl rfl rfl h (fun m5 h => ?_)
  exact loop_V (A := fun s : Mem => V g Y_Re_next 8 [some (vr this)] [] s (PM g Y_Re_next r m')) (fun s x h hp => k_Re_next_l8 h_this h hp) (m5) _ h hp
theorem e_Re_next {g : GE} {this : Nat} {m : Mem} (h_this : kd this = 6) {x : Mem} (h : Re_next this m = some x) : Ev g Y_Re_next [vr this] m (none) x :=
  Ev_of 0 (by decide +kernel) rfl (Nat.le_of_ble_eq_true rfl) rfl (k_Re_next h_this h ⟨rfl, rfl⟩)
theorem k_Re_is_l28 {g : GE} {this : Nat} {v1 : Nat}  {v2 : Int32} {m : Mem} (h_this : kd this = 6) (h_v1 : isS v1) {r : Option AV} {m' : Mem} {x : (Int32) ⊕ (Int32)} (h : Re_is_l28 this v1 v2 m = some x) (hp : (Sum.elim (fun s : Int32 => V g Y_Re_is 28 [some (vr this), some (vr v1), some (vi s)] [] m (PM g Y_Re_is r m')) (fun x : Int32 => r = some (vi x) ∧ m' = m)) x) : V g Y_Re_is 28 [some (vr this), some (vr v1), some (vi v2)] [] m (PM g Y_Re_is r m') := by
  unfold Re_is_l28 at h
  refine V_iload_n (i := 2) (pc := 28) dX5_is_28 rfl rfl ?_
  refine V_aload_n (i := 1) (pc := 29) dX5_is_29 rfl rfl ?_
  obtain ⟨r30, e30, h⟩ := bnd h
  refine V_invStr (pc := 30) dX5_is_30 (e_S_length h_v1 e30) iv_Re_216 (rm_Re_is_S_length _ _ _) rfl h_v1 rfl (Nat.le_of_ble_eq_true rfl) rfl ?_
  refine V_icmp_ge (pc := 33) (tgt := 62) dX5_is_33 rfl (fun q => ?_) (fun q => ?_)
  · have h := ite_t q h
    obtain ⟨y1, hu1, rfl⟩ := up_e h
    have h := hu1
    refine V_iconst (v := 1) (pc := 62) dX5_is_62 rfl ?_
    obtain rfl := Option.some.inj h
    exact E_z (pc := 63) dX5_is_63 rfl rfl hp
  · have h := ite_f q h
    refine V_aload_n (i := 0) (pc := 36) dX5_is_36 rfl rfl ?_
    refine V_aload_n (i := 0) (pc := 37) dX5_is_37 rfl rfl ?_
    refine V_getI (pc := 38) dX5_is_38 fl_Re_213 h_this rfl ?_
    refine V_iload_n (i := 2) (pc := 41) dX5_is_41 rfl rfl ?_
    refine V_iadd (pc := 42) dX5_is_42 ?_
    obtain ⟨r43, e43, h⟩ := bnd h
    refine V_invV1 (c := 5) (pc := 43) dX5_is_43 (e_Re_byteAt h_this e43) iv_Re_220 (rm_Re_is_Re_byteAt _ _ _) rfl h_this cf_5 rfl (Nat.le_of_ble_eq_true rfl) rfl ?_
    refine V_aload_n (i := 1) (pc := 46) dX5_is_46 rfl rfl ?_
    refine V_iload_n (i := 2) (pc := 47) dX5_is_47 rfl rfl ?_
    obtain ⟨r48, e48, h⟩ := bnd h
    refine V_invStr (pc := 48) dX5_is_48 (e_S_charAt h_v1 e48) iv_Re_224 (rm_Re_is_S_charAt _ _ _) rfl h_v1 rfl (Nat.le_of_ble_eq_true rfl) rfl ?_
    refine V_icmp_eq (pc := 51) (tgt := 56) dX5_is_51 rfl (fun q => ?_) (fun q => ?_)
    · have h := ite_t q h
      refine V_iinc (i := 2) (v := (v2 + 1)) (ls' := [some (vr this), some (vr v1), some (vi (v2 + 1))]) (pc := 56) dX5_is_56 rfl rfl (Nat.le_of_ble_eq_true rfl) rfl ?_
      refine V_goto (tgt := 28) (pc := 59) dX5_is_59 rfl ?_
      obtain rfl := Option.some.inj h
      exact hp
    · have h := ite_f q h
      obtain ⟨y2, hu2, rfl⟩ := up_e h
      have h := hu2
      refine V_iconst (v := 0) (pc := 54) dX5_is_54 rfl ?_
      obtain rfl := Option.some.inj h
      exact E_z (pc := 55) dX5_is_55 rfl rfl hp
theorem k_Re_is {g : GE} {this : Nat} {v1 : Nat} {m : Mem} (h_this : kd this = 6) (h_v1 : isS v1) {r : Option AV} {m' : Mem} {x : Int32} (h : Re_is this v1 m = some x) (hp : (fun x : Int32 => r = some (vi x) ∧ m' = m) x) : V g Y_Re_is 0 [some (vr this), some (vr v1), none] [] m (PM g Y_Re_is r m') := by
  unfold Re_is at h
  refine V_aload_n (i := 0) (pc := 0) dX5_is_0 rfl rfl ?_
  refine V_getI (pc := 1) dX5_is_1 fl_Re_44 h_this rfl ?_
  refine V_iconst (v := 1) (pc := 4) dX5_is_4 rfl ?_
  refine V_icmp_ne (pc := 5) (tgt := 24) dX5_is_5 rfl (fun q => ?_) (fun q => ?_)
  · have h := ite_f q h
    refine V_iconst (v := 0) (pc := 24) dX5_is_24 rfl ?_
    obtain rfl := Option.some.inj h
    exact E_z (pc := 25) dX5_is_25 rfl rfl hp
  · have h := ite_t q h
    refine V_aload_n (i := 0) (pc := 8) dX5_is_8 rfl rfl ?_
    refine V_getI (pc := 9) dX5_is_9 fl_Re_35 h_this rfl ?_
    refine V_aload_n (i := 0) (pc := 12) dX5_is_12 rfl rfl ?_
    refine V_getI (pc := 13) dX5_is_13 fl_Re_213 h_this rfl ?_
    refine V_isub (pc := 16) dX5_is_16 ?_
    refine V_aload_n (i := 1) (pc := 17) dX5_is_17 rfl rfl ?_
    obtain ⟨r18, e18, h⟩ := bnd h
    refine V_invStr (pc := 18) dX5_is_18 (e_S_length h_v1 e18) iv_Re_216 (rm_Re_is_S_length _ _ _) rfl h_v1 rfl (Nat.le_of_ble_eq_true rfl) rfl ?_
    refine V_icmp_eq (pc := 21) (tgt := 26) dX5_is_21 rfl (fun q => ?_) (fun q => ?_)
    · have h := ite_t q h
      refine V_iconst (v := 0) (pc := 26) dX5_is_26 rfl ?_
      refine V_istore_n (i := 2) (ls' := [some (vr this), some (vr v1), some (vi 0)]) (pc := 27) dX5_is_27 rfl (Nat.le_of_ble_eq_true rfl) rfl ?_
      exact loop_V (A := fun s : Int32 => V g Y_Re_is 28 [some (vr this), some (vr v1), some (vi s)] [] m (PM g Y_Re_is r m')) (fun s x h hp => k_Re_is_l28 h_this h_v1 h hp) (0) _ h hp
    · have h := ite_f q h
      refine V_iconst (v := 0) (pc := 24) dX5_is_24 rfl ?_
      obtain rfl := Option.some.inj h
      exact E_z (pc := 25) dX5_is_25 rfl rfl hp
theorem e_Re_is {g : GE} {this : Nat} {v1 : Nat} {m : Mem} (h_this : kd this = 6) (h_v1 : isS v1) {x : Int32} (h : Re_is this v1 m = some x) : Ev g Y_Re_is [vr this, vr v1] m (some (vi x)) m :=
  Ev_of 1 (by decide +kernel) rfl (Nat.le_of_ble_eq_true rfl) rfl (k_Re_is h_this h_v1 h ⟨rfl, rfl⟩)
theorem k_Re_fail {g : GE} {this : Nat} {v1 : Int32} {m : Mem} (h_this : kd this = 6) {r : Option AV} {m' : Mem} {x : Mem} (h : Re_fail this v1 m = some x) (hp : (fun x : Mem => r = none ∧ m' = x) x) : V g Y_Re_fail 0 [some (vr this), some (vi v1)] [] m (PM g Y_Re_fail r m') := by
  unfold Re_fail at h
  refine V_aload_n (i := 0) (pc := 0) dX5_fail_0 rfl rfl ?_
  refine V_getI (pc := 1) dX5_fail_1 fl_Re_32 h_this rfl ?_
  refine V_if_ne (pc := 4) (tgt := 20) dX5_fail_4 rfl (fun q => ?_) (fun q => ?_)
  · have h := ite_f q h
    obtain rfl := Option.some.inj h
    exact E_v (pc := 20) dX5_fail_20 rfl hp
  · have h := ite_t q h
    refine V_aload_n (i := 0) (pc := 7) dX5_fail_7 rfl rfl ?_
    refine V_iload_n (i := 1) (pc := 8) dX5_fail_8 rfl rfl ?_
    refine V_putI_lt (pc := 9) dX5_fail_9 fp_Re_32 h_this rfl rfl rfl h (fun m9 h => ?_)
    refine V_aload_n (i := 0) (pc := 12) dX5_fail_12 rfl rfl ?_
    refine V_aload_n (i := 0) (pc := 13) dX5_fail_13 rfl rfl ?_
    refine V_getI (pc := 14) dX5_fail_14 fl_Re_213 h_this rfl ?_
    refine V_putI_lt (pc := 17) dX5_fail_17 fp_Re_22 h_this rfl rfl rfl h (fun m17 h => ?_)
    obtain rfl := Option.some.inj h
    exact E_v (pc := 20) dX5_fail_20 rfl hp
theorem e_Re_fail {g : GE} {this : Nat} {v1 : Int32} {m : Mem} (h_this : kd this = 6) {x : Mem} (h : Re_fail this v1 m = some x) : Ev g Y_Re_fail [vr this, vi v1] m (none) x :=
  Ev_of 0 (by decide +kernel) rfl (Nat.le_of_ble_eq_true rfl) rfl (k_Re_fail h_this h ⟨rfl, rfl⟩)
theorem k_Re_take {g : GE} {this : Nat} {v1 : Nat} {m : Mem} (h_this : kd this = 6) (h_v1 : isS v1) {r : Option AV} {m' : Mem} {x : Mem} (h : Re_take this v1 m = some x) (hp : (fun x : Mem => r = none ∧ m' = x) x) : V g Y_Re_take 0 [some (vr this), some (vr v1)] [] m (PM g Y_Re_take r m') := by
  unfold Re_take at h
  refine V_aload_n (i := 0) (pc := 0) dX5_take_0 rfl rfl ?_
  refine V_getI (pc := 1) dX5_take_1 fl_Re_32 h_this rfl ?_
  refine V_if_eq (pc := 4) (tgt := 8) dX5_take_4 rfl (fun q => ?_) (fun q => ?_)
  · have h := ite_t q h
    refine V_aload_n (i := 0) (pc := 8) dX5_take_8 rfl rfl ?_
    refine V_aload_n (i := 1) (pc := 9) dX5_take_9 rfl rfl ?_
    obtain ⟨r10, e10, h⟩ := bnd h
    refine V_invV1 (c := 5) (pc := 10) dX5_take_10 (e_Re_is h_this h_v1 e10) iv_Re_55 (rm_Re_take_Re_is _ _ _) rfl h_this cf_5 rfl (Nat.le_of_ble_eq_true rfl) rfl ?_
    refine V_if_eq (pc := 13) (tgt := 23) dX5_take_13 rfl (fun q => ?_) (fun q => ?_)
    · have h := ite_t q h
      refine V_aload_n (i := 0) (pc := 23) dX5_take_23 rfl rfl ?_
      refine V_iconst (v := 1) (pc := 24) dX5_take_24 rfl ?_
      obtain ⟨m25, e25, h⟩ := bnd h
      refine V_invV0 (c := 5) (pc := 25) dX5_take_25 (e_Re_fail h_this e25) iv_Re_114 (rm_Re_take_Re_fail _ _ _) rfl h_this cf_5 rfl (Nat.le_of_ble_eq_true rfl) rfl ?_
      obtain rfl := Option.some.inj h
      exact E_v (pc := 28) dX5_take_28 rfl hp
    · have h := ite_f q h
      refine V_aload_n (i := 0) (pc := 16) dX5_take_16 rfl rfl ?_
      obtain ⟨m17, e17, h⟩ := bnd h
      refine V_invV0 (c := 5) (pc := 17) dX5_take_17 (e_Re_next h_this e17) iv_Re_41 (rm_Re_take_Re_next _ _ _) rfl h_this cf_5 rfl (Nat.le_of_ble_eq_true rfl) rfl ?_
      refine V_goto (tgt := 28) (pc := 20) dX5_take_20 rfl ?_
      obtain rfl := Option.some.inj h
      exact E_v (pc := 28) dX5_take_28 rfl hp
  · have h := ite_f q h
    obtain rfl := Option.some.inj h
    exact E_v (pc := 7) dX5_take_7 rfl hp
theorem e_Re_take {g : GE} {this : Nat} {v1 : Nat} {m : Mem} (h_this : kd this = 6) (h_v1 : isS v1) {x : Mem} (h : Re_take this v1 m = some x) : Ev g Y_Re_take [vr this, vr v1] m (none) x :=
  Ev_of 0 (by decide +kernel) rfl (Nat.le_of_ble_eq_true rfl) rfl (k_Re_take h_this h_v1 h ⟨rfl, rfl⟩)
theorem k_Re_takeNumber_b40 {g : GE} {this : Nat}   {m : Mem} (h_this : kd this = 6) {r : Option AV} {m' : Mem} {x : Int32 × Mem} (h : Re_takeNumber_b40 this m = some x) (hp : (fun x : Int32 × Mem => r = some (vi x.1) ∧ m' = x.2) x) : V g Y_Re_takeNumber 40 [some (vr this), none, none, none] [] m (PM g Y_Re_takeNumber r m') := by
  unfold Re_takeNumber_b40 at h
  refine V_aload_n (i := 0) (pc := 40) dX5_takeNumber_40 rfl rfl ?_
  refine V_iconst (v := 2) (pc := 41) dX5_takeNumber_41 rfl ?_
  obtain ⟨m42, e42, h⟩ := bnd h
  refine V_invV0 (c := 5) (pc := 42) dX5_takeNumber_42 (e_Re_fail h_this e42) iv_Re_114 (rm_Re_takeNumber_Re_fail _ _ _) rfl h_this cf_5 rfl (Nat.le_of_ble_eq_true rfl) rfl ?_
  refine V_iconst (v := 0) (pc := 45) dX5_takeNumber_45 rfl ?_
  obtain rfl := Option.some.inj h
  exact E_i (pc := 46) dX5_takeNumber_46 rfl hp
theorem k_Re_takeNumber {g : GE} {this : Nat} {v1 : Int32} {v2 : Int32} {m : Mem} (h_this : kd this = 6) {r : Option AV} {m' : Mem} {x : Int32 × Mem} (h : Re_takeNumber this v1 v2 m = some x) (hp : (fun x : Int32 × Mem => r = some (vi x.1) ∧ m' = x.2) x) : V g Y_Re_takeNumber 0 [some (vr this), some (vi v1), some (vi v2), none] [] m (PM g Y_Re_takeNumber r m') := by
  unfold Re_takeNumber at h
  refine V_aload_n (i := 0) (pc := 0) dX5_takeNumber_0 rfl rfl ?_
  refine V_getI (pc := 1) dX5_takeNumber_1 fl_Re_32 h_this rfl ?_
  refine V_if_eq (pc := 4) (tgt := 9) dX5_takeNumber_4 rfl (fun q => ?_) (fun q => ?_)
  · have h := ite_t q h
    refine V_aload_n (i := 0) (pc := 9) dX5_takeNumber_9 rfl rfl ?_
    refine V_getI (pc := 10) dX5_takeNumber_10 fl_Re_44 h_this rfl ?_
    refine V_iconst (v := 2) (pc := 13) dX5_takeNumber_13 rfl ?_
    refine V_icmp_eq (pc := 14) (tgt := 24) dX5_takeNumber_14 rfl (fun q => ?_) (fun q => ?_)
    · have h := ite_t q h
      refine V_aload_n (i := 0) (pc := 24) dX5_takeNumber_24 rfl rfl ?_
      refine V_getI (pc := 25) dX5_takeNumber_25 fl_Re_210 h_this rfl ?_
      refine V_iload_n (i := 1) (pc := 28) dX5_takeNumber_28 rfl rfl ?_
      refine V_icmp_lt (pc := 29) (tgt := 40) dX5_takeNumber_29 rfl (fun q => ?_) (fun q => ?_)
      · have h := ite_t q h
        refine V_sub (ls' := [some (vr this), none, none, none]) (And.intro rfl trivial) ?_
        exact k_Re_takeNumber_b40 h_this h hp
      · have h := ite_f q h
        refine V_aload_n (i := 0) (pc := 32) dX5_takeNumber_32 rfl rfl ?_
        refine V_getI (pc := 33) dX5_takeNumber_33 fl_Re_210 h_this rfl ?_
        refine V_iload_n (i := 2) (pc := 36) dX5_takeNumber_36 rfl rfl ?_
        refine V_icmp_le (pc := 37) (tgt := 47) dX5_takeNumber_37 rfl (fun q => ?_) (fun q => ?_)
        · have h := ite_t q h
          refine V_aload_n (i := 0) (pc := 47) dX5_takeNumber_47 rfl rfl ?_
          refine V_getI (pc := 48) dX5_takeNumber_48 fl_Re_210 h_this rfl ?_
          refine V_istore_n (i := 3) (ls' := [some (vr this), some (vi v1), some (vi v2), some (vi (rI m this 8))]) (pc := 51) dX5_takeNumber_51 rfl (Nat.le_of_ble_eq_true rfl) rfl ?_
          refine V_aload_n (i := 0) (pc := 52) dX5_takeNumber_52 rfl rfl ?_
          obtain ⟨m53, e53, h⟩ := bnd h
          refine V_invV0 (c := 5) (pc := 53) dX5_takeNumber_53 (e_Re_next h_this e53) iv_Re_41 (rm_Re_takeNumber_Re_next _ _ _) rfl h_this cf_5 rfl (Nat.le_of_ble_eq_true rfl) rfl ?_
          refine V_iload_n (i := 3) (pc := 56) dX5_takeNumber_56 rfl rfl ?_
          obtain rfl := Option.some.inj h
          exact E_i (pc := 57) dX5_takeNumber_57 rfl hp
        · have h := ite_f q h
          refine V_sub (ls' := [some (vr this), none, none, none]) (And.intro rfl trivial) ?_
          exact k_Re_takeNumber_b40 h_this h hp
    · have h := ite_f q h
      refine V_aload_n (i := 0) (pc := 17) dX5_takeNumber_17 rfl rfl ?_
      refine V_iconst (v := 1) (pc := 18) dX5_takeNumber_18 rfl ?_
      obtain ⟨m19, e19, h⟩ := bnd h
      refine V_invV0 (c := 5) (pc := 19) dX5_takeNumber_19 (e_Re_fail h_this e19) iv_Re_114 (rm_Re_takeNumber_Re_fail _ _ _) rfl h_this cf_5 rfl (Nat.le_of_ble_eq_true rfl) rfl ?_
      refine V_iconst (v := 0) (pc := 22) dX5_takeNumber_22 rfl ?_
      obtain rfl := Option.some.inj h
      exact E_i (pc := 23) dX5_takeNumber_23 rfl hp
  · have h := ite_f q h
    refine V_iconst (v := 0) (pc := 7) dX5_takeNumber_7 rfl ?_
    obtain rfl := Option.some.inj h
    exact E_i (pc := 8) dX5_takeNumber_8 rfl hp
theorem e_Re_takeNumber {g : GE} {this : Nat} {v1 : Int32} {v2 : Int32} {m : Mem} (h_this : kd this = 6) {x : Int32 × Mem} (h : Re_takeNumber this v1 v2 m = some x) : Ev g Y_Re_takeNumber [vr this, vi v1, vi v2] m (some (vi x.1)) x.2 :=
  Ev_of 1 (by decide +kernel) rfl (Nat.le_of_ble_eq_true rfl) rfl (k_Re_takeNumber h_this h ⟨rfl, rfl⟩)
theorem k_Re_named {g : GE} {this : Nat} {v1 : Nat} {v2 : Int32} {v3 : Int32} {m : Mem} (h_this : kd this = 6) (h_v1 : isS v1) {r : Option AV} {m' : Mem} {x : Int32 × Mem} (h : Re_named this v1 v2 v3 m = some x) (hp : (fun x : Int32 × Mem => r = some (vi x.1) ∧ m' = x.2) x) : V g Y_Re_named 0 [some (vr this), some (vr v1), some (vi v2), some (vi v3)] [] m (PM g Y_Re_named r m') := by
  unfold Re_named at h
  refine V_aload_n (i := 0) (pc := 0) dX5_named_0 rfl rfl ?_
  refine V_aload_n (i := 1) (pc := 1) dX5_named_1 rfl rfl ?_
  obtain ⟨m2, e2, h⟩ := bnd h
  refine V_invV0 (c := 5) (pc := 2) dX5_named_2 (e_Re_take h_this h_v1 e2) iv_Re_80 (rm_Re_named_Re_take _ _ _) rfl h_this cf_5 rfl (Nat.le_of_ble_eq_true rfl) rfl ?_
  refine V_aload_n (i := 0) (pc := 5) dX5_named_5 rfl rfl ?_
  refine V_iload_n (i := 2) (pc := 6) dX5_named_6 rfl rfl ?_
  refine V_iload_n (i := 3) (pc := 7) dX5_named_7 rfl rfl ?_
  obtain ⟨r8, e8, h⟩ := bnd h
  refine V_invV1 (c := 5) (pc := 8) dX5_named_8 (e_Re_takeNumber h_this e8) iv_Re_126 (rm_Re_named_Re_takeNumber _ _ _) rfl h_this cf_5 rfl (Nat.le_of_ble_eq_true rfl) rfl ?_
  obtain rfl := Option.some.inj h
  exact E_i (pc := 11) dX5_named_11 rfl hp
theorem e_Re_named {g : GE} {this : Nat} {v1 : Nat} {v2 : Int32} {v3 : Int32} {m : Mem} (h_this : kd this = 6) (h_v1 : isS v1) {x : Int32 × Mem} (h : Re_named this v1 v2 v3 m = some x) : Ev g Y_Re_named [vr this, vr v1, vi v2, vi v3] m (some (vi x.1)) x.2 :=
  Ev_of 0 (by decide +kernel) rfl (Nat.le_of_ble_eq_true rfl) rfl (k_Re_named h_this h_v1 h ⟨rfl, rfl⟩)
theorem k_Re_readFloe {g : GE} {this : Nat} {m : Mem} (h_this : kd this = 6) {r : Option AV} {m' : Mem} {x : Mem} (h : Re_readFloe this m = some x) (hp : (fun x : Mem => r = none ∧ m' = x) x) : V g Y_Re_readFloe 0 [some (vr this)] [] m (PM g Y_Re_readFloe r m') := by
  unfold Re_readFloe at h
  refine V_aload_n (i := 0) (pc := 0) dX5_readFloe_0 rfl rfl ?_
  refine V_ldcS (i := 0) (tx := "floe") (pc := 1) dX5_readFloe_1 (by decide +kernel) ?_
  obtain ⟨m3, e3, h⟩ := bnd h
  refine V_invV0 (c := 5) (pc := 3) dX5_readFloe_3 (e_Re_take h_this (isS_lit 0 (Nat.le_of_ble_eq_true rfl)) e3) iv_Re_80 (rm_Re_readFloe_Re_take _ _ _) rfl h_this cf_5 rfl (Nat.le_of_ble_eq_true rfl) rfl ?_
  refine V_aload_n (i := 0) (pc := 6) dX5_readFloe_6 rfl rfl ?_
  refine V_getR (b := (this + 2)) (pc := 7) dX5_readFloe_7 fl_Re_18 h_this rfl rfl ?_
  refine V_aload_n (i := 0) (pc := 10) dX5_readFloe_10 rfl rfl ?_
  refine V_ldcS (i := 1) (tx := "wide") (pc := 11) dX5_readFloe_11 (by decide +kernel) ?_
  refine V_iconst (v := 2) (pc := 13) dX5_readFloe_13 rfl ?_
  refine V_bipush (v := 12) (pc := 14) dX5_readFloe_14 rfl ?_
  obtain ⟨r16, e16, h⟩ := bnd h
  refine V_invV1 (c := 5) (pc := 16) dX5_readFloe_16 (e_Re_named h_this (isS_lit 1 (Nat.le_of_ble_eq_true rfl)) e16) iv_Re_86 (rm_Re_readFloe_Re_named _ _ _) rfl h_this cf_5 rfl (Nat.le_of_ble_eq_true rfl) rfl ?_
  refine V_putI_lt (pc := 19) dX5_readFloe_19 fp_Re_90 (kf_5_2 h_this) rfl rfl rfl h (fun m19 h => ?_)
  refine V_aload_n (i := 0) (pc := 22) dX5_readFloe_22 rfl rfl ?_
  refine V_getR (b := (this + 2)) (pc := 23) dX5_readFloe_23 fl_Re_18 h_this rfl rfl ?_
  refine V_aload_n (i := 0) (pc := 26) dX5_readFloe_26 rfl rfl ?_
  refine V_ldcS (i := 2) (tx := "deep") (pc := 27) dX5_readFloe_27 (by decide +kernel) ?_
  refine V_iconst (v := 2) (pc := 29) dX5_readFloe_29 rfl ?_
  refine V_bipush (v := 12) (pc := 30) dX5_readFloe_30 rfl ?_
  obtain ⟨r32, e32, h⟩ := bnd h
  refine V_invV1 (c := 5) (pc := 32) dX5_readFloe_32 (e_Re_named h_this (isS_lit 2 (Nat.le_of_ble_eq_true rfl)) e32) iv_Re_86 (rm_Re_readFloe_Re_named _ _ _) rfl h_this cf_5 rfl (Nat.le_of_ble_eq_true rfl) rfl ?_
  refine V_putI_lt (pc := 35) dX5_readFloe_35 fp_Re_94 (kf_5_2 h_this) rfl rfl rfl h (fun m35 h => ?_)
  refine V_aload_n (i := 0) (pc := 38) dX5_readFloe_38 rfl rfl ?_
  refine V_getR (b := (this + 2)) (pc := 39) dX5_readFloe_39 fl_Re_18 h_this rfl rfl ?_
  refine V_aload_n (i := 0) (pc := 42) dX5_readFloe_42 rfl rfl ?_
  refine V_ldcS (i := 3) (tx := "people") (pc := 43) dX5_readFloe_43 (by decide +kernel) ?_
  refine V_iconst (v := 1) (pc := 45) dX5_readFloe_45 rfl ?_
  refine V_bipush (v := 28) (pc := 46) dX5_readFloe_46 rfl ?_
  obtain ⟨r48, e48, h⟩ := bnd h
  refine V_invV1 (c := 5) (pc := 48) dX5_readFloe_48 (e_Re_named h_this (isS_lit 3 (Nat.le_of_ble_eq_true rfl)) e48) iv_Re_86 (rm_Re_readFloe_Re_named _ _ _) rfl h_this cf_5 rfl (Nat.le_of_ble_eq_true rfl) rfl ?_
  refine V_putI_lt (pc := 51) dX5_readFloe_51 fp_Re_98 (kf_5_2 h_this) rfl rfl rfl h (fun m51 h => ?_)
  refine V_aload_n (i := 0) (pc := 54) dX5_readFloe_54 rfl rfl ?_
  refine V_getR (b := (this + 2)) (pc := 55) dX5_readFloe_55 fl_Re_18 h_this rfl rfl ?_
  refine V_aload_n (i := 0) (pc := 58) dX5_readFloe_58 rfl rfl ?_
  refine V_ldcS (i := 4) (tx := "days") (pc := 59) dX5_readFloe_59 (by decide +kernel) ?_
  refine V_iconst (v := 1) (pc := 61) dX5_readFloe_61 rfl ?_
  refine V_bipush (v := 60) (pc := 62) dX5_readFloe_62 rfl ?_
  obtain ⟨r64, e64, h⟩ := bnd h
  refine V_invV1 (c := 5) (pc := 64) dX5_readFloe_64 (e_Re_named h_this (isS_lit 4 (Nat.le_of_ble_eq_true rfl)) e64) iv_Re_86 (rm_Re_readFloe_Re_named _ _ _) rfl h_this cf_5 rfl (Nat.le_of_ble_eq_true rfl) rfl ?_
  refine V_putI_lt (pc := 67) dX5_readFloe_67 fp_Re_102 (kf_5_2 h_this) rfl rfl rfl h (fun m67 h => ?_)
  obtain rfl := Option.some.inj h
  exact E_v (pc := 70) dX5_readFloe_70 rfl hp
theorem e_Re_readFloe {g : GE} {this : Nat} {m : Mem} (h_this : kd this = 6) {x : Mem} (h : Re_readFloe this m = some x) : Ev g Y_Re_readFloe [vr this] m (none) x :=
  Ev_of 0 (by decide +kernel) rfl (Nat.le_of_ble_eq_true rfl) rfl (k_Re_readFloe h_this h ⟨rfl, rfl⟩)
theorem k_Ta_isFull {g : GE} {this : Nat} {m : Mem} (h_this : kd this = 9) {r : Option AV} {m' : Mem} {x : Int32} (h : Ta_isFull this m = some x) (hp : (fun x : Int32 => r = some (vi x) ∧ m' = m) x) : V g Y_Ta_isFull 0 [some (vr this)] [] m (PM g Y_Ta_isFull r m') := by
  unfold Ta_isFull at h
  refine V_aload_n (i := 0) (pc := 0) dX8_isFull_0 rfl rfl ?_
  refine V_getI (pc := 1) dX8_isFull_1 fl_Ta_20 h_this rfl ?_
  refine V_aload_n (i := 0) (pc := 4) dX8_isFull_4 rfl rfl ?_
  refine V_getR (b := (this + 1)) (pc := 5) dX8_isFull_5 fl_Ta_15 h_this rfl rfl ?_
  refine V_alen (k := 4) (pc := 8) dX8_isFull_8 (kf_8_0 h_this) (Nat.le_of_ble_eq_true rfl) rfl ?_
  refine V_icmp_lt (pc := 9) (tgt := 16) dX8_isFull_9 rfl (fun q => ?_) (fun q => ?_)
  · have h := ite_t q h
    refine V_iconst (v := 0) (pc := 16) dX8_isFull_16 rfl ?_
    obtain rfl := Option.some.inj h
    exact E_z (pc := 17) dX8_isFull_17 rfl rfl hp
  · have h := ite_f q h
    refine V_iconst (v := 1) (pc := 12) dX8_isFull_12 rfl ?_
    refine V_goto (tgt := 17) (pc := 13) dX8_isFull_13 rfl ?_
    obtain rfl := Option.some.inj h
    exact E_z (pc := 17) dX8_isFull_17 rfl rfl hp
theorem e_Ta_isFull {g : GE} {this : Nat} {m : Mem} (h_this : kd this = 9) {x : Int32} (h : Ta_isFull this m = some x) : Ev g Y_Ta_isFull [vr this] m (some (vi x)) m :=
  Ev_of 0 (by decide +kernel) rfl (Nat.le_of_ble_eq_true rfl) rfl (k_Ta_isFull h_this h ⟨rfl, rfl⟩)
theorem k_Ta_tell {g : GE} {this : Nat} {v1 : Int32} {v2 : Int32} {m : Mem} (h_this : kd this = 9) {r : Option AV} {m' : Mem} {x : Mem} (h : Ta_tell this v1 v2 m = some x) (hp : (fun x : Mem => r = none ∧ m' = x) x) : V g Y_Ta_tell 0 [some (vr this), some (vi v1), some (vi v2)] [] m (PM g Y_Ta_tell r m') := by
  unfold Ta_tell at h
  refine V_aload_n (i := 0) (pc := 0) dX8_tell_0 rfl rfl ?_
  refine V_getI (pc := 1) dX8_tell_1 fl_Ta_20 h_this rfl ?_
  refine V_if_lt (pc := 4) (tgt := 49) dX8_tell_4 rfl (fun q => ?_) (fun q => ?_)
  · have h := ite_t q h
    obtain rfl := Option.some.inj h
    exact E_v (pc := 49) dX8_tell_49 rfl hp
  · have h := ite_f q h
    refine V_aload_n (i := 0) (pc := 7) dX8_tell_7 rfl rfl ?_
    refine V_getI (pc := 8) dX8_tell_8 fl_Ta_20 h_this rfl ?_
    refine V_aload_n (i := 0) (pc := 11) dX8_tell_11 rfl rfl ?_
    refine V_getR (b := (this + 1)) (pc := 12) dX8_tell_12 fl_Ta_15 h_this rfl rfl ?_
    refine V_alen (k := 4) (pc := 15) dX8_tell_15 (kf_8_0 h_this) (Nat.le_of_ble_eq_true rfl) rfl ?_
    refine V_icmp_ge (pc := 16) (tgt := 49) dX8_tell_16 rfl (fun q => ?_) (fun q => ?_)
    · have h := ite_t q h
      obtain rfl := Option.some.inj h
      exact E_v (pc := 49) dX8_tell_49 rfl hp
    · have h := ite_f q h
      refine V_iload_n (i := 1) (pc := 19) dX8_tell_19 rfl rfl ?_
      refine V_if_lt (pc := 20) (tgt := 49) dX8_tell_20 rfl (fun q => ?_) (fun q => ?_)
      · have h := ite_t q h
        obtain rfl := Option.some.inj h
        exact E_v (pc := 49) dX8_tell_49 rfl hp
      · have h := ite_f q h
        refine V_iload_n (i := 1) (pc := 23) dX8_tell_23 rfl rfl ?_
        refine V_aload_n (i := 0) (pc := 24) dX8_tell_24 rfl rfl ?_
        refine V_getR (b := (this + 1)) (pc := 25) dX8_tell_25 fl_Ta_15 h_this rfl rfl ?_
        refine V_aload_n (i := 0) (pc := 28) dX8_tell_28 rfl rfl ?_
        refine V_getI (pc := 29) dX8_tell_29 fl_Ta_20 h_this rfl ?_
        obtain ⟨hg32, h⟩ := gd_e h
        refine V_aald (b := ((this + 1) + (1 + ix (rI m this 1)))) (k := 4) (pc := 32) dX8_tell_32 (kf_8_0 h_this) (by decide) rfl hg32 rfl ?_
        refine V_alen (k := 0) (pc := 33) dX8_tell_33 (ka24 (kf_8_0 h_this) rfl hg32) (Nat.le_of_ble_eq_true rfl) ((la24 (kf_8_0 h_this) rfl hg32).trans rfl) ?_
        refine V_icmp_ge (pc := 34) (tgt := 49) dX8_tell_34 rfl (fun q => ?_) (fun q => ?_)
        · have h := ite_t q h
          obtain rfl := Option.some.inj h
          exact E_v (pc := 49) dX8_tell_49 rfl hp
        · have h := ite_f q h
          refine V_aload_n (i := 0) (pc := 37) dX8_tell_37 rfl rfl ?_
          refine V_getR (b := (this + 1)) (pc := 38) dX8_tell_38 fl_Ta_15 h_this rfl rfl ?_
          refine V_aload_n (i := 0) (pc := 41) dX8_tell_41 rfl rfl ?_
          refine V_getI (pc := 42) dX8_tell_42 fl_Ta_20 h_this rfl ?_
          obtain ⟨hg45, h⟩ := gd_e h
          refine V_aald (b := ((this + 1) + (1 + ix (rI m this 1)))) (k := 4) (pc := 45) dX8_tell_45 (kf_8_0 h_this) (by decide) rfl hg45 rfl ?_
          refine V_iload_n (i := 1) (pc := 46) dX8_tell_46 rfl rfl ?_
          refine V_iload_n (i := 2) (pc := 47) dX8_tell_47 rfl rfl ?_
          obtain ⟨hg48, h⟩ := gd_e h
          refine V_iast_lt (pc := 48) dX8_tell_48 (ka24 (kf_8_0 h_this) rfl hg45) ((la24 (kf_8_0 h_this) rfl hg45).trans rfl) hg48 h (fun m48 h => ?_)
          obtain rfl := Option.some.inj h
          exact E_v (pc := 49) dX8_tell_49 rfl hp
theorem e_Ta_tell {g : GE} {this : Nat} {v1 : Int32} {v2 : Int32} {m : Mem} (h_this : kd this = 9) {x : Mem} (h : Ta_tell this v1 v2 m = some x) : Ev g Y_Ta_tell [vr this, vi v1, vi v2] m (none) x :=
  Ev_of 0 (by decide +kernel) rfl (Nat.le_of_ble_eq_true rfl) rfl (k_Ta_tell h_this h ⟨rfl, rfl⟩)
theorem k_Ta_add {g : GE} {this : Nat} {m : Mem} (h_this : kd this = 9) {r : Option AV} {m' : Mem} {x : Mem} (h : Ta_add this m = some x) (hp : (fun x : Mem => r = none ∧ m' = x) x) : V g Y_Ta_add 0 [some (vr this)] [] m (PM g Y_Ta_add r m') := by
  unfold Ta_add at h
  refine V_aload_n (i := 0) (pc := 0) dX8_add_0 rfl rfl ?_
  obtain ⟨r1, e1, h⟩ := bnd h
  refine V_invV1 (c := 8) (pc := 1) dX8_add_1 (e_Ta_isFull h_this e1) iv_Ta_24 (rm_Ta_add_Ta_isFull _ _ _) rfl h_this cf_8 rfl (Nat.le_of_ble_eq_true rfl) rfl ?_
  refine V_if_ne (pc := 4) (tgt := 17) dX8_add_4 rfl (fun q => ?_) (fun q => ?_)
  · have h := ite_f q h
    obtain rfl := Option.some.inj h
    exact E_v (pc := 17) dX8_add_17 rfl hp
  · have h := ite_t q h
    refine V_aload_n (i := 0) (pc := 7) dX8_add_7 rfl rfl ?_
    refine V_dupr (pc := 8) dX8_add_8 ?_
    refine V_getI (pc := 9) dX8_add_9 fl_Ta_20 h_this rfl ?_
    refine V_iconst (v := 1) (pc := 12) dX8_add_12 rfl ?_
    refine V_iadd (pc := 13) dX8_add_13 ?_
    refine V_putI_lt (pc := 14) dX8_add_14 fp_Ta_20 h_this rfl rfl rfl h (fun m14 h => ?_)
    obtain rfl := Option.some.inj h
    exact E_v (pc := 17) dX8_add_17 rfl hp
theorem e_Ta_add {g : GE} {this : Nat} {m : Mem} (h_this : kd this = 9) {x : Mem} (h : Ta_add this m = some x) : Ev g Y_Ta_add [vr this] m (none) x :=
  Ev_of 0 (by decide +kernel) rfl (Nat.le_of_ble_eq_true rfl) rfl (k_Ta_add h_this h ⟨rfl, rfl⟩)
theorem k_Re_readCrack_b182 {g : GE} {this : Nat} {k1 : Int32} {k2 : Int32}  {m : Mem} (h_this : kd this = 6) {r : Option AV} {m' : Mem} {x : Mem} (h : Re_readCrack_b182 this k1 k2 m = some x) (hp : (fun x : Mem => r = none ∧ m' = x) x) : V g Y_Re_readCrack 182 [none, some (vr (this + 3)), none, none] [vi k2, vi k1, vr (this + 3)] m (PM g Y_Re_readCrack r m') := by
  unfold Re_readCrack_b182 at h
  obtain ⟨m182, e182, h⟩ := bnd h
  refine V_invV0 (c := 8) (pc := 182) dX5_readCrack_182 (e_Ta_tell (kf_2_15 (kf_5_2 h_this)) e182) iv_Re_122 (rm_Re_readCrack_Ta_tell _ _ _) rfl (kf_2_15 (kf_5_2 h_this)) cf_8 rfl (Nat.le_of_ble_eq_true rfl) rfl ?_
  refine V_aload_n (i := 1) (pc := 185) dX5_readCrack_185 rfl rfl ?_
  obtain ⟨m186, e186, h⟩ := bnd h
  refine V_invV0 (c := 8) (pc := 186) dX5_readCrack_186 (e_Ta_add (kf_2_15 (kf_5_2 h_this)) e186) iv_Re_140 (rm_Re_readCrack_Ta_add _ _ _) rfl (kf_2_15 (kf_5_2 h_this)) cf_8 rfl (Nat.le_of_ble_eq_true rfl) rfl ?_
  obtain rfl := Option.some.inj h
  exact E_v (pc := 189) dX5_readCrack_189 rfl hp
theorem k_Re_readCrack_b170 {g : GE} {this : Nat} {v3 : Int32}  {m : Mem} (h_this : kd this = 6) {r : Option AV} {m' : Mem} {x : Mem} (h : Re_readCrack_b170 this v3 m = some x) (hp : (fun x : Mem => r = none ∧ m' = x) x) : V g Y_Re_readCrack 170 [none, some (vr (this + 3)), none, some (vi v3)] [] m (PM g Y_Re_readCrack r m') := by
  unfold Re_readCrack_b170 at h
  refine V_aload_n (i := 1) (pc := 170) dX5_readCrack_170 rfl rfl ?_
  refine V_bipush (v := 6) (pc := 171) dX5_readCrack_171 rfl ?_
  refine V_iload_n (i := 3) (pc := 173) dX5_readCrack_173 rfl rfl ?_
  refine V_if_eq (pc := 174) (tgt := 181) dX5_readCrack_174 rfl (fun q => ?_) (fun q => ?_)
  · have h := ite_t q h
    refine V_iconst (v := 0) (pc := 181) dX5_readCrack_181 rfl ?_
    refine V_sub (ls' := [none, some (vr (this + 3)), none, none]) (And.intro rfl trivial) ?_
    exact k_Re_readCrack_b182 h_this h hp
  · have h := ite_f q h
    refine V_iconst (v := 1) (pc := 177) dX5_readCrack_177 rfl ?_
    refine V_goto (tgt := 182) (pc := 178) dX5_readCrack_178 rfl ?_
    refine V_sub (ls' := [none, some (vr (this + 3)), none, none]) (And.intro rfl trivial) ?_
    exact k_Re_readCrack_b182 h_this h hp
theorem k_Re_readCrack_b88 {g : GE} {this : Nat} {k1 : Int32} {k3 : Int32} {k4 : Int32}  {m : Mem} (h_this : kd this = 6) {r : Option AV} {m' : Mem} {x : Mem} (h : Re_readCrack_b88 this k1 k3 k4 m = some x) (hp : (fun x : Mem => r = none ∧ m' = x) x) : V g Y_Re_readCrack 88 [some (vr this), some (vr (this + 3)), none, none] [vi k4, vi k3, vr this, vi k1, vr (this + 3)] m (PM g Y_Re_readCrack r m') := by
  unfold Re_readCrack_b88 at h
  refine V_iconst (v := 1) (pc := 88) dX5_readCrack_88 rfl ?_
  refine V_isub (pc := 89) dX5_readCrack_89 ?_
  obtain ⟨r90, e90, h⟩ := bnd h
  refine V_invV1 (c := 5) (pc := 90) dX5_readCrack_90 (e_Re_takeNumber h_this e90) iv_Re_126 (rm_Re_readCrack_Re_takeNumber _ _ _) rfl h_this cf_5 rfl (Nat.le_of_ble_eq_true rfl) rfl ?_
  obtain ⟨m93, e93, h⟩ := bnd h
  refine V_invV0 (c := 8) (pc := 93) dX5_readCrack_93 (e_Ta_tell (kf_2_15 (kf_5_2 h_this)) e93) iv_Re_122 (rm_Re_readCrack_Ta_tell _ _ _) rfl (kf_2_15 (kf_5_2 h_this)) cf_8 rfl (Nat.le_of_ble_eq_true rfl) rfl ?_
  refine V_aload_n (i := 1) (pc := 96) dX5_readCrack_96 rfl rfl ?_
  refine V_iconst (v := 2) (pc := 97) dX5_readCrack_97 rfl ?_
  refine V_aload_n (i := 0) (pc := 98) dX5_readCrack_98 rfl rfl ?_
  refine V_ldcS (i := 7) (tx := "odds") (pc := 99) dX5_readCrack_99 (by decide +kernel) ?_
  refine V_iconst (v := 0) (pc := 101) dX5_readCrack_101 rfl ?_
  refine V_sipush (v := 500) (pc := 102) dX5_readCrack_102 rfl ?_
  obtain ⟨r105, e105, h⟩ := bnd h
  refine V_invV1 (c := 5) (pc := 105) dX5_readCrack_105 (e_Re_named h_this (isS_lit 7 (Nat.le_of_ble_eq_true rfl)) e105) iv_Re_86 (rm_Re_readCrack_Re_named _ _ _) rfl h_this cf_5 rfl (Nat.le_of_ble_eq_true rfl) rfl ?_
  obtain ⟨m108, e108, h⟩ := bnd h
  refine V_invV0 (c := 8) (pc := 108) dX5_readCrack_108 (e_Ta_tell (kf_2_15 (kf_5_2 h_this)) e108) iv_Re_122 (rm_Re_readCrack_Ta_tell _ _ _) rfl (kf_2_15 (kf_5_2 h_this)) cf_8 rfl (Nat.le_of_ble_eq_true rfl) rfl ?_
  refine V_aload_n (i := 1) (pc := 111) dX5_readCrack_111 rfl rfl ?_
  refine V_iconst (v := 3) (pc := 112) dX5_readCrack_112 rfl ?_
  refine V_aload_n (i := 0) (pc := 113) dX5_readCrack_113 rfl rfl ?_
  refine V_ldcS (i := 8) (tx := "swell") (pc := 114) dX5_readCrack_114 (by decide +kernel) ?_
  refine V_iconst (v := 0) (pc := 116) dX5_readCrack_116 rfl ?_
  refine V_bipush (v := 99) (pc := 117) dX5_readCrack_117 rfl ?_
  obtain ⟨r119, e119, h⟩ := bnd h
  refine V_invV1 (c := 5) (pc := 119) dX5_readCrack_119 (e_Re_named h_this (isS_lit 8 (Nat.le_of_ble_eq_true rfl)) e119) iv_Re_86 (rm_Re_readCrack_Re_named _ _ _) rfl h_this cf_5 rfl (Nat.le_of_ble_eq_true rfl) rfl ?_
  obtain ⟨m122, e122, h⟩ := bnd h
  refine V_invV0 (c := 8) (pc := 122) dX5_readCrack_122 (e_Ta_tell (kf_2_15 (kf_5_2 h_this)) e122) iv_Re_122 (rm_Re_readCrack_Ta_tell _ _ _) rfl (kf_2_15 (kf_5_2 h_this)) cf_8 rfl (Nat.le_of_ble_eq_true rfl) rfl ?_
  refine V_aload_n (i := 1) (pc := 125) dX5_readCrack_125 rfl rfl ?_
  refine V_iconst (v := 4) (pc := 126) dX5_readCrack_126 rfl ?_
  refine V_aload_n (i := 0) (pc := 127) dX5_readCrack_127 rfl rfl ?_
  refine V_ldcS (i := 9) (tx := "warm") (pc := 128) dX5_readCrack_128 (by decide +kernel) ?_
  refine V_iconst (v := 0) (pc := 130) dX5_readCrack_130 rfl ?_
  refine V_bipush (v := 99) (pc := 131) dX5_readCrack_131 rfl ?_
  obtain ⟨r133, e133, h⟩ := bnd h
  refine V_invV1 (c := 5) (pc := 133) dX5_readCrack_133 (e_Re_named h_this (isS_lit 9 (Nat.le_of_ble_eq_true rfl)) e133) iv_Re_86 (rm_Re_readCrack_Re_named _ _ _) rfl h_this cf_5 rfl (Nat.le_of_ble_eq_true rfl) rfl ?_
  obtain ⟨m136, e136, h⟩ := bnd h
  refine V_invV0 (c := 8) (pc := 136) dX5_readCrack_136 (e_Ta_tell (kf_2_15 (kf_5_2 h_this)) e136) iv_Re_122 (rm_Re_readCrack_Ta_tell _ _ _) rfl (kf_2_15 (kf_5_2 h_this)) cf_8 rfl (Nat.le_of_ble_eq_true rfl) rfl ?_
  refine V_aload_n (i := 1) (pc := 139) dX5_readCrack_139 rfl rfl ?_
  refine V_iconst (v := 5) (pc := 140) dX5_readCrack_140 rfl ?_
  refine V_aload_n (i := 0) (pc := 141) dX5_readCrack_141 rfl rfl ?_
  refine V_ldcS (i := 10) (tx := "weight") (pc := 142) dX5_readCrack_142 (by decide +kernel) ?_
  refine V_iconst (v := 0) (pc := 144) dX5_readCrack_144 rfl ?_
  refine V_bipush (v := 99) (pc := 145) dX5_readCrack_145 rfl ?_
  obtain ⟨r147, e147, h⟩ := bnd h
  refine V_invV1 (c := 5) (pc := 147) dX5_readCrack_147 (e_Re_named h_this (isS_lit 10 (Nat.le_of_ble_eq_true rfl)) e147) iv_Re_86 (rm_Re_readCrack_Re_named _ _ _) rfl h_this cf_5 rfl (Nat.le_of_ble_eq_true rfl) rfl ?_
  obtain ⟨m150, e150, h⟩ := bnd h
  refine V_invV0 (c := 8) (pc := 150) dX5_readCrack_150 (e_Ta_tell (kf_2_15 (kf_5_2 h_this)) e150) iv_Re_122 (rm_Re_readCrack_Ta_tell _ _ _) rfl (kf_2_15 (kf_5_2 h_this)) cf_8 rfl (Nat.le_of_ble_eq_true rfl) rfl ?_
  refine V_aload_n (i := 0) (pc := 153) dX5_readCrack_153 rfl rfl ?_
  refine V_ldcS (i := 11) (tx := "old") (pc := 154) dX5_readCrack_154 (by decide +kernel) ?_
  obtain ⟨r156, e156, h⟩ := bnd h
  refine V_invV1 (c := 5) (pc := 156) dX5_readCrack_156 (e_Re_is h_this (isS_lit 11 (Nat.le_of_ble_eq_true rfl)) e156) iv_Re_55 (rm_Re_readCrack_Re_is _ _ _) rfl h_this cf_5 rfl (Nat.le_of_ble_eq_true rfl) rfl ?_
  refine V_istore_n (i := 3) (ls' := [some (vr this), some (vr (this + 3)), none, some (vi r156)]) (pc := 159) dX5_readCrack_159 rfl (Nat.le_of_ble_eq_true rfl) rfl ?_
  refine V_iload_n (i := 3) (pc := 160) dX5_readCrack_160 rfl rfl ?_
  refine V_if_eq (pc := 161) (tgt := 170) dX5_readCrack_161 rfl (fun q => ?_) (fun q => ?_)
  · have h := ite_t q h
    refine V_sub (ls' := [none, some (vr (this + 3)), none, some (vi r156)]) (And.intro rfl (And.intro rfl trivial)) ?_
    exact k_Re_readCrack_b170 h_this h hp
  · have h := ite_f q h
    refine V_aload_n (i := 0) (pc := 164) dX5_readCrack_164 rfl rfl ?_
    refine V_ldcS (i := 11) (tx := "old") (pc := 165) dX5_readCrack_165 (by decide +kernel) ?_
    obtain ⟨m167, e167, h⟩ := bnd h
    refine V_invV0 (c := 5) (pc := 167) dX5_readCrack_167 (e_Re_take h_this (isS_lit 11 (Nat.le_of_ble_eq_true rfl)) e167) iv_Re_80 (rm_Re_readCrack_Re_take _ _ _) rfl h_this cf_5 rfl (Nat.le_of_ble_eq_true rfl) rfl ?_
    refine V_sub (ls' := [none, some (vr (this + 3)), none, some (vi r156)]) (And.intro rfl (And.intro rfl trivial)) ?_
    exact k_Re_readCrack_b170 h_this h hp
theorem k_Re_readCrack_b60 {g : GE} {this : Nat} {v2 : Int32} {k1 : Int32} {k2 : Int32}  {m : Mem} (h_this : kd this = 6) {r : Option AV} {m' : Mem} {x : Mem} (h : Re_readCrack_b60 this v2 k1 k2 m = some x) (hp : (fun x : Mem => r = none ∧ m' = x) x) : V g Y_Re_readCrack 60 [some (vr this), some (vr (this + 3)), some (vi v2), none] [vi k2, vi k1, vr (this + 3)] m (PM g Y_Re_readCrack r m') := by
  unfold Re_readCrack_b60 at h
  obtain ⟨m60, e60, h⟩ := bnd h
  refine V_invV0 (c := 8) (pc := 60) dX5_readCrack_60 (e_Ta_tell (kf_2_15 (kf_5_2 h_this)) e60) iv_Re_122 (rm_Re_readCrack_Ta_tell _ _ _) rfl (kf_2_15 (kf_5_2 h_this)) cf_8 rfl (Nat.le_of_ble_eq_true rfl) rfl ?_
  refine V_aload_n (i := 1) (pc := 63) dX5_readCrack_63 rfl rfl ?_
  refine V_iconst (v := 1) (pc := 64) dX5_readCrack_64 rfl ?_
  refine V_aload_n (i := 0) (pc := 65) dX5_readCrack_65 rfl rfl ?_
  refine V_iconst (v := 1) (pc := 66) dX5_readCrack_66 rfl ?_
  refine V_iload_n (i := 2) (pc := 67) dX5_readCrack_67 rfl rfl ?_
  refine V_if_eq (pc := 68) (tgt := 81) dX5_readCrack_68 rfl (fun q => ?_) (fun q => ?_)
  · have h := ite_t q h
    refine V_aload_n (i := 0) (pc := 81) dX5_readCrack_81 rfl rfl ?_
    refine V_getR (b := (this + 2)) (pc := 82) dX5_readCrack_82 fl_Re_18 h_this rfl rfl ?_
    refine V_getI (pc := 85) dX5_readCrack_85 fl_Re_90 (kf_5_2 h_this) rfl ?_
    refine V_sub (ls' := [some (vr this), some (vr (this + 3)), none, none]) (And.intro rfl (And.intro rfl trivial)) ?_
    exact k_Re_readCrack_b88 h_this h hp
  · have h := ite_f q h
    refine V_aload_n (i := 0) (pc := 71) dX5_readCrack_71 rfl rfl ?_
    refine V_getR (b := (this + 2)) (pc := 72) dX5_readCrack_72 fl_Re_18 h_this rfl rfl ?_
    refine V_getI (pc := 75) dX5_readCrack_75 fl_Re_94 (kf_5_2 h_this) rfl ?_
    refine V_goto (tgt := 88) (pc := 78) dX5_readCrack_78 rfl ?_
    refine V_sub (ls' := [some (vr this), some (vr (this + 3)), none, none]) (And.intro rfl (And.intro rfl trivial)) ?_
    exact k_Re_readCrack_b88 h_this h hp
theorem k_Re_readCrack_b49 {g : GE} {this : Nat} {v2 : Int32}  {m : Mem} (h_this : kd this = 6) {r : Option AV} {m' : Mem} {x : Mem} (h : Re_readCrack_b49 this v2 m = some x) (hp : (fun x : Mem => r = none ∧ m' = x) x) : V g Y_Re_readCrack 49 [some (vr this), some (vr (this + 3)), some (vi v2), none] [] m (PM g Y_Re_readCrack r m') := by
  unfold Re_readCrack_b49 at h
  refine V_aload_n (i := 1) (pc := 49) dX5_readCrack_49 rfl rfl ?_
  refine V_iconst (v := 0) (pc := 50) dX5_readCrack_50 rfl ?_
  refine V_iload_n (i := 2) (pc := 51) dX5_readCrack_51 rfl rfl ?_
  refine V_if_eq (pc := 52) (tgt := 59) dX5_readCrack_52 rfl (fun q => ?_) (fun q => ?_)
  · have h := ite_t q h
    refine V_iconst (v := 0) (pc := 59) dX5_readCrack_59 rfl ?_
    exact k_Re_readCrack_b60 h_this h hp
  · have h := ite_f q h
    refine V_iconst (v := 1) (pc := 55) dX5_readCrack_55 rfl ?_
    refine V_goto (tgt := 60) (pc := 56) dX5_readCrack_56 rfl ?_
    exact k_Re_readCrack_b60 h_this h hp
theorem k_Re_readCrack {g : GE} {this : Nat} {m : Mem} (h_this : kd this = 6) {r : Option AV} {m' : Mem} {x : Mem} (h : Re_readCrack this m = some x) (hp : (fun x : Mem => r = none ∧ m' = x) x) : V g Y_Re_readCrack 0 [some (vr this), none, none, none] [] m (PM g Y_Re_readCrack r m') := by
  unfold Re_readCrack at h
  refine V_aload_n (i := 0) (pc := 0) dX5_readCrack_0 rfl rfl ?_
  refine V_getR (b := (this + 2)) (pc := 1) dX5_readCrack_1 fl_Re_18 h_this rfl rfl ?_
  refine V_getR (b := (this + 3)) (pc := 4) dX5_readCrack_4 fl_Re_104 (kf_5_2 h_this) rfl rfl ?_
  refine V_astore_n (i := 1) (ls' := [some (vr this), some (vr (this + 3)), none, none]) (pc := 7) dX5_readCrack_7 rfl (Nat.le_of_ble_eq_true rfl) rfl ?_
  refine V_aload_n (i := 1) (pc := 8) dX5_readCrack_8 rfl rfl ?_
  obtain ⟨r9, e9, h⟩ := bnd h
  refine V_invV1 (c := 8) (pc := 9) dX5_readCrack_9 (e_Ta_isFull (kf_2_15 (kf_5_2 h_this)) e9) iv_Re_108 (rm_Re_readCrack_Ta_isFull _ _ _) rfl (kf_2_15 (kf_5_2 h_this)) cf_8 rfl (Nat.le_of_ble_eq_true rfl) rfl ?_
  refine V_if_eq (pc := 12) (tgt := 21) dX5_readCrack_12 rfl (fun q => ?_) (fun q => ?_)
  · have h := ite_t q h
    refine V_aload_n (i := 0) (pc := 21) dX5_readCrack_21 rfl rfl ?_
    obtain ⟨m22, e22, h⟩ := bnd h
    refine V_invV0 (c := 5) (pc := 22) dX5_readCrack_22 (e_Re_next h_this e22) iv_Re_41 (rm_Re_readCrack_Re_next _ _ _) rfl h_this cf_5 rfl (Nat.le_of_ble_eq_true rfl) rfl ?_
    refine V_aload_n (i := 0) (pc := 25) dX5_readCrack_25 rfl rfl ?_
    refine V_ldcS (i := 6) (tx := "along") (pc := 26) dX5_readCrack_26 (by decide +kernel) ?_
    obtain ⟨r28, e28, h⟩ := bnd h
    refine V_invV1 (c := 5) (pc := 28) dX5_readCrack_28 (e_Re_is h_this (isS_lit 6 (Nat.le_of_ble_eq_true rfl)) e28) iv_Re_55 (rm_Re_readCrack_Re_is _ _ _) rfl h_this cf_5 rfl (Nat.le_of_ble_eq_true rfl) rfl ?_
    refine V_istore_n (i := 2) (ls' := [some (vr this), some (vr (this + 3)), some (vi r28), none]) (pc := 31) dX5_readCrack_31 rfl (Nat.le_of_ble_eq_true rfl) rfl ?_
    refine V_iload_n (i := 2) (pc := 32) dX5_readCrack_32 rfl rfl ?_
    refine V_if_eq (pc := 33) (tgt := 43) dX5_readCrack_33 rfl (fun q => ?_) (fun q => ?_)
    · have h := ite_t q h
      refine V_aload_n (i := 0) (pc := 43) dX5_readCrack_43 rfl rfl ?_
      refine V_ldcS (i := 5) (tx := "down") (pc := 44) dX5_readCrack_44 (by decide +kernel) ?_
      obtain ⟨m46, e46, h⟩ := bnd h
      refine V_invV0 (c := 5) (pc := 46) dX5_readCrack_46 (e_Re_take h_this (isS_lit 5 (Nat.le_of_ble_eq_true rfl)) e46) iv_Re_80 (rm_Re_readCrack_Re_take _ _ _) rfl h_this cf_5 rfl (Nat.le_of_ble_eq_true rfl) rfl ?_
      exact k_Re_readCrack_b49 h_this h hp
    · have h := ite_f q h
      refine V_aload_n (i := 0) (pc := 36) dX5_readCrack_36 rfl rfl ?_
      obtain ⟨m37, e37, h⟩ := bnd h
      refine V_invV0 (c := 5) (pc := 37) dX5_readCrack_37 (e_Re_next h_this e37) iv_Re_41 (rm_Re_readCrack_Re_next _ _ _) rfl h_this cf_5 rfl (Nat.le_of_ble_eq_true rfl) rfl ?_
      refine V_goto (tgt := 49) (pc := 40) dX5_readCrack_40 rfl ?_
      exact k_Re_readCrack_b49 h_this h hp
  · have h := ite_f q h
    refine V_aload_n (i := 0) (pc := 15) dX5_readCrack_15 rfl rfl ?_
    refine V_iconst (v := 3) (pc := 16) dX5_readCrack_16 rfl ?_
    obtain ⟨m17, e17, h⟩ := bnd h
    refine V_invV0 (c := 5) (pc := 17) dX5_readCrack_17 (e_Re_fail h_this e17) iv_Re_114 (rm_Re_readCrack_Re_fail _ _ _) rfl h_this cf_5 rfl (Nat.le_of_ble_eq_true rfl) rfl ?_
    obtain rfl := Option.some.inj h
    exact E_v (pc := 20) dX5_readCrack_20 rfl hp
theorem e_Re_readCrack {g : GE} {this : Nat} {m : Mem} (h_this : kd this = 6) {x : Mem} (h : Re_readCrack this m = some x) : Ev g Y_Re_readCrack [vr this] m (none) x :=
  Ev_of 3 (by decide +kernel) rfl (Nat.le_of_ble_eq_true rfl) rfl (k_Re_readCrack h_this h ⟨rfl, rfl⟩)
theorem k_Re_takeKind_b61 {g : GE} {this : Nat} {v1 : Int32}  {m : Mem} (h_this : kd this = 6) {r : Option AV} {m' : Mem} {x : Int32 × Mem} (h : Re_takeKind_b61 this v1 m = some x) (hp : (fun x : Int32 × Mem => r = some (vi x.1) ∧ m' = x.2) x) : V g Y_Re_takeKind 61 [some (vr this), some (vi v1)] [] m (PM g Y_Re_takeKind r m') := by
  unfold Re_takeKind_b61 at h
  refine V_aload_n (i := 0) (pc := 61) dX5_takeKind_61 rfl rfl ?_
  obtain ⟨m62, e62, h⟩ := bnd h
  refine V_invV0 (c := 5) (pc := 62) dX5_takeKind_62 (e_Re_next h_this e62) iv_Re_41 (rm_Re_takeKind_Re_next _ _ _) rfl h_this cf_5 rfl (Nat.le_of_ble_eq_true rfl) rfl ?_
  refine V_iload_n (i := 1) (pc := 65) dX5_takeKind_65 rfl rfl ?_
  obtain rfl := Option.some.inj h
  exact E_i (pc := 66) dX5_takeKind_66 rfl hp
theorem k_Re_takeKind_b40 {g : GE} {this : Nat} {k0 : Int32}  {m : Mem} (h_this : kd this = 6) {r : Option AV} {m' : Mem} {x : Int32 × Mem} (h : Re_takeKind_b40 this k0 m = some x) (hp : (fun x : Int32 × Mem => r = some (vi x.1) ∧ m' = x.2) x) : V g Y_Re_takeKind 40 [some (vr this), none] [vi k0] m (PM g Y_Re_takeKind r m') := by
  unfold Re_takeKind_b40 at h
  refine V_istore_n (i := 1) (ls' := [some (vr this), some (vi k0)]) (pc := 40) dX5_takeKind_40 rfl (Nat.le_of_ble_eq_true rfl) rfl ?_
  refine V_iload_n (i := 1) (pc := 41) dX5_takeKind_41 rfl rfl ?_
  refine V_if_ne (pc := 42) (tgt := 61) dX5_takeKind_42 rfl (fun q => ?_) (fun q => ?_)
  · have h := ite_f q h
    exact k_Re_takeKind_b61 h_this h hp
  · have h := ite_t q h
    refine V_aload_n (i := 0) (pc := 45) dX5_takeKind_45 rfl rfl ?_
    refine V_ldcS (i := 12) (tx := "food") (pc := 46) dX5_takeKind_46 (by decide +kernel) ?_
    obtain ⟨r48, e48, h⟩ := bnd h
    refine V_invV1 (c := 5) (pc := 48) dX5_takeKind_48 (e_Re_is h_this (isS_lit 12 (Nat.le_of_ble_eq_true rfl)) e48) iv_Re_55 (rm_Re_takeKind_Re_is _ _ _) rfl h_this cf_5 rfl (Nat.le_of_ble_eq_true rfl) rfl ?_
    refine V_if_ne (pc := 51) (tgt := 61) dX5_takeKind_51 rfl (fun q => ?_) (fun q => ?_)
    · have h := ite_f q h
      exact k_Re_takeKind_b61 h_this h hp
    · have h := ite_t q h
      refine V_aload_n (i := 0) (pc := 54) dX5_takeKind_54 rfl rfl ?_
      refine V_iconst (v := 1) (pc := 55) dX5_takeKind_55 rfl ?_
      obtain ⟨m56, e56, h⟩ := bnd h
      refine V_invV0 (c := 5) (pc := 56) dX5_takeKind_56 (e_Re_fail h_this e56) iv_Re_114 (rm_Re_takeKind_Re_fail _ _ _) rfl h_this cf_5 rfl (Nat.le_of_ble_eq_true rfl) rfl ?_
      refine V_iconst (v := 0) (pc := 59) dX5_takeKind_59 rfl ?_
      obtain rfl := Option.some.inj h
      exact E_i (pc := 60) dX5_takeKind_60 rfl hp
theorem k_Re_takeKind {g : GE} {this : Nat} {m : Mem} (h_this : kd this = 6) {r : Option AV} {m' : Mem} {x : Int32 × Mem} (h : Re_takeKind this m = some x) (hp : (fun x : Int32 × Mem => r = some (vi x.1) ∧ m' = x.2) x) : V g Y_Re_takeKind 0 [some (vr this), none] [] m (PM g Y_Re_takeKind r m') := by
  unfold Re_takeKind at h
  refine V_aload_n (i := 0) (pc := 0) dX5_takeKind_0 rfl rfl ?_
  refine V_ldcS (i := 13) (tx := "beds") (pc := 1) dX5_takeKind_1 (by decide +kernel) ?_
  obtain ⟨r3, e3, h⟩ := bnd h
  refine V_invV1 (c := 5) (pc := 3) dX5_takeKind_3 (e_Re_is h_this (isS_lit 13 (Nat.le_of_ble_eq_true rfl)) e3) iv_Re_55 (rm_Re_takeKind_Re_is _ _ _) rfl h_this cf_5 rfl (Nat.le_of_ble_eq_true rfl) rfl ?_
  refine V_if_eq (pc := 6) (tgt := 13) dX5_takeKind_6 rfl (fun q => ?_) (fun q => ?_)
  · have h := ite_t q h
    refine V_aload_n (i := 0) (pc := 13) dX5_takeKind_13 rfl rfl ?_
    refine V_ldcS (i := 14) (tx := "seats") (pc := 14) dX5_takeKind_14 (by decide +kernel) ?_
    obtain ⟨r16, e16, h⟩ := bnd h
    refine V_invV1 (c := 5) (pc := 16) dX5_takeKind_16 (e_Re_is h_this (isS_lit 14 (Nat.le_of_ble_eq_true rfl)) e16) iv_Re_55 (rm_Re_takeKind_Re_is _ _ _) rfl h_this cf_5 rfl (Nat.le_of_ble_eq_true rfl) rfl ?_
    refine V_if_eq (pc := 19) (tgt := 26) dX5_takeKind_19 rfl (fun q => ?_) (fun q => ?_)
    · have h := ite_t q h
      refine V_aload_n (i := 0) (pc := 26) dX5_takeKind_26 rfl rfl ?_
      refine V_ldcS (i := 15) (tx := "heat") (pc := 27) dX5_takeKind_27 (by decide +kernel) ?_
      obtain ⟨r29, e29, h⟩ := bnd h
      refine V_invV1 (c := 5) (pc := 29) dX5_takeKind_29 (e_Re_is h_this (isS_lit 15 (Nat.le_of_ble_eq_true rfl)) e29) iv_Re_55 (rm_Re_takeKind_Re_is _ _ _) rfl h_this cf_5 rfl (Nat.le_of_ble_eq_true rfl) rfl ?_
      refine V_if_eq (pc := 32) (tgt := 39) dX5_takeKind_32 rfl (fun q => ?_) (fun q => ?_)
      · have h := ite_t q h
        refine V_iconst (v := 0) (pc := 39) dX5_takeKind_39 rfl ?_
        exact k_Re_takeKind_b40 h_this h hp
      · have h := ite_f q h
        refine V_iconst (v := 3) (pc := 35) dX5_takeKind_35 rfl ?_
        refine V_goto (tgt := 40) (pc := 36) dX5_takeKind_36 rfl ?_
        exact k_Re_takeKind_b40 h_this h hp
    · have h := ite_f q h
      refine V_iconst (v := 2) (pc := 22) dX5_takeKind_22 rfl ?_
      refine V_goto (tgt := 40) (pc := 23) dX5_takeKind_23 rfl ?_
      exact k_Re_takeKind_b40 h_this h hp
  · have h := ite_f q h
    refine V_iconst (v := 1) (pc := 9) dX5_takeKind_9 rfl ?_
    refine V_goto (tgt := 40) (pc := 10) dX5_takeKind_10 rfl ?_
    exact k_Re_takeKind_b40 h_this h hp
theorem e_Re_takeKind {g : GE} {this : Nat} {m : Mem} (h_this : kd this = 6) {x : Int32 × Mem} (h : Re_takeKind this m = some x) : Ev g Y_Re_takeKind [vr this] m (some (vi x.1)) x.2 :=
  Ev_of 1 (by decide +kernel) rfl (Nat.le_of_ble_eq_true rfl) rfl (k_Re_takeKind h_this h ⟨rfl, rfl⟩)
theorem k_Re_readSort {g : GE} {this : Nat} {m : Mem} (h_this : kd this = 6) {r : Option AV} {m' : Mem} {x : Mem} (h : Re_readSort this m = some x) (hp : (fun x : Mem => r = none ∧ m' = x) x) : V g Y_Re_readSort 0 [some (vr this), none] [] m (PM g Y_Re_readSort r m') := by
  unfold Re_readSort at h
  refine V_aload_n (i := 0) (pc := 0) dX5_readSort_0 rfl rfl ?_
  refine V_getR (b := (this + 2)) (pc := 1) dX5_readSort_1 fl_Re_18 h_this rfl rfl ?_
  refine V_getR (b := (this + 12)) (pc := 4) dX5_readSort_4 fl_Re_143 (kf_5_2 h_this) rfl rfl ?_
  refine V_astore_n (i := 1) (ls' := [some (vr this), some (vr (this + 12))]) (pc := 7) dX5_readSort_7 rfl (Nat.le_of_ble_eq_true rfl) rfl ?_
  refine V_aload_n (i := 1) (pc := 8) dX5_readSort_8 rfl rfl ?_
  obtain ⟨r9, e9, h⟩ := bnd h
  refine V_invV1 (c := 8) (pc := 9) dX5_readSort_9 (e_Ta_isFull (kf_2_16 (kf_5_2 h_this)) e9) iv_Re_108 (rm_Re_readSort_Ta_isFull _ _ _) rfl (kf_2_16 (kf_5_2 h_this)) cf_8 rfl (Nat.le_of_ble_eq_true rfl) rfl ?_
  refine V_if_eq (pc := 12) (tgt := 21) dX5_readSort_12 rfl (fun q => ?_) (fun q => ?_)
  · have h := ite_t q h
    refine V_aload_n (i := 0) (pc := 21) dX5_readSort_21 rfl rfl ?_
    obtain ⟨m22, e22, h⟩ := bnd h
    refine V_invV0 (c := 5) (pc := 22) dX5_readSort_22 (e_Re_next h_this e22) iv_Re_41 (rm_Re_readSort_Re_next _ _ _) rfl h_this cf_5 rfl (Nat.le_of_ble_eq_true rfl) rfl ?_
    refine V_aload_n (i := 1) (pc := 25) dX5_readSort_25 rfl rfl ?_
    refine V_iconst (v := 0) (pc := 26) dX5_readSort_26 rfl ?_
    refine V_aload_n (i := 0) (pc := 27) dX5_readSort_27 rfl rfl ?_
    obtain ⟨r28, e28, h⟩ := bnd h
    refine V_invV1 (c := 5) (pc := 28) dX5_readSort_28 (e_Re_takeKind h_this e28) iv_Re_146 (rm_Re_readSort_Re_takeKind _ _ _) rfl h_this cf_5 rfl (Nat.le_of_ble_eq_true rfl) rfl ?_
    obtain ⟨m31, e31, h⟩ := bnd h
    refine V_invV0 (c := 8) (pc := 31) dX5_readSort_31 (e_Ta_tell (kf_2_16 (kf_5_2 h_this)) e31) iv_Re_122 (rm_Re_readSort_Ta_tell _ _ _) rfl (kf_2_16 (kf_5_2 h_this)) cf_8 rfl (Nat.le_of_ble_eq_true rfl) rfl ?_
    refine V_aload_n (i := 1) (pc := 34) dX5_readSort_34 rfl rfl ?_
    refine V_iconst (v := 1) (pc := 35) dX5_readSort_35 rfl ?_
    refine V_aload_n (i := 0) (pc := 36) dX5_readSort_36 rfl rfl ?_
    refine V_ldcS (i := 16) (tx := "gives") (pc := 37) dX5_readSort_37 (by decide +kernel) ?_
    refine V_iconst (v := 1) (pc := 39) dX5_readSort_39 rfl ?_
    refine V_bipush (v := 99) (pc := 40) dX5_readSort_40 rfl ?_
    obtain ⟨r42, e42, h⟩ := bnd h
    refine V_invV1 (c := 5) (pc := 42) dX5_readSort_42 (e_Re_named h_this (isS_lit 16 (Nat.le_of_ble_eq_true rfl)) e42) iv_Re_86 (rm_Re_readSort_Re_named _ _ _) rfl h_this cf_5 rfl (Nat.le_of_ble_eq_true rfl) rfl ?_
    obtain ⟨m45, e45, h⟩ := bnd h
    refine V_invV0 (c := 8) (pc := 45) dX5_readSort_45 (e_Ta_tell (kf_2_16 (kf_5_2 h_this)) e45) iv_Re_122 (rm_Re_readSort_Ta_tell _ _ _) rfl (kf_2_16 (kf_5_2 h_this)) cf_8 rfl (Nat.le_of_ble_eq_true rfl) rfl ?_
    refine V_aload_n (i := 1) (pc := 48) dX5_readSort_48 rfl rfl ?_
    refine V_iconst (v := 2) (pc := 49) dX5_readSort_49 rfl ?_
    refine V_aload_n (i := 0) (pc := 50) dX5_readSort_50 rfl rfl ?_
    refine V_ldcS (i := 17) (tx := "tons") (pc := 51) dX5_readSort_51 (by decide +kernel) ?_
    refine V_iconst (v := 1) (pc := 53) dX5_readSort_53 rfl ?_
    refine V_bipush (v := 99) (pc := 54) dX5_readSort_54 rfl ?_
    obtain ⟨r56, e56, h⟩ := bnd h
    refine V_invV1 (c := 5) (pc := 56) dX5_readSort_56 (e_Re_named h_this (isS_lit 17 (Nat.le_of_ble_eq_true rfl)) e56) iv_Re_86 (rm_Re_readSort_Re_named _ _ _) rfl h_this cf_5 rfl (Nat.le_of_ble_eq_true rfl) rfl ?_
    obtain ⟨m59, e59, h⟩ := bnd h
    refine V_invV0 (c := 8) (pc := 59) dX5_readSort_59 (e_Ta_tell (kf_2_16 (kf_5_2 h_this)) e59) iv_Re_122 (rm_Re_readSort_Ta_tell _ _ _) rfl (kf_2_16 (kf_5_2 h_this)) cf_8 rfl (Nat.le_of_ble_eq_true rfl) rfl ?_
    refine V_aload_n (i := 1) (pc := 62) dX5_readSort_62 rfl rfl ?_
    refine V_iconst (v := 3) (pc := 63) dX5_readSort_63 rfl ?_
    refine V_aload_n (i := 0) (pc := 64) dX5_readSort_64 rfl rfl ?_
    refine V_ldcS (i := 18) (tx := "many") (pc := 65) dX5_readSort_65 (by decide +kernel) ?_
    refine V_iconst (v := 0) (pc := 67) dX5_readSort_67 rfl ?_
    refine V_bipush (v := 20) (pc := 68) dX5_readSort_68 rfl ?_
    obtain ⟨r70, e70, h⟩ := bnd h
    refine V_invV1 (c := 5) (pc := 70) dX5_readSort_70 (e_Re_named h_this (isS_lit 18 (Nat.le_of_ble_eq_true rfl)) e70) iv_Re_86 (rm_Re_readSort_Re_named _ _ _) rfl h_this cf_5 rfl (Nat.le_of_ble_eq_true rfl) rfl ?_
    obtain ⟨m73, e73, h⟩ := bnd h
    refine V_invV0 (c := 8) (pc := 73) dX5_readSort_73 (e_Ta_tell (kf_2_16 (kf_5_2 h_this)) e73) iv_Re_122 (rm_Re_readSort_Ta_tell _ _ _) rfl (kf_2_16 (kf_5_2 h_this)) cf_8 rfl (Nat.le_of_ble_eq_true rfl) rfl ?_
    refine V_aload_n (i := 1) (pc := 76) dX5_readSort_76 rfl rfl ?_
    obtain ⟨m77, e77, h⟩ := bnd h
    refine V_invV0 (c := 8) (pc := 77) dX5_readSort_77 (e_Ta_add (kf_2_16 (kf_5_2 h_this)) e77) iv_Re_140 (rm_Re_readSort_Ta_add _ _ _) rfl (kf_2_16 (kf_5_2 h_this)) cf_8 rfl (Nat.le_of_ble_eq_true rfl) rfl ?_
    obtain rfl := Option.some.inj h
    exact E_v (pc := 80) dX5_readSort_80 rfl hp
  · have h := ite_f q h
    refine V_aload_n (i := 0) (pc := 15) dX5_readSort_15 rfl rfl ?_
    refine V_iconst (v := 3) (pc := 16) dX5_readSort_16 rfl ?_
    obtain ⟨m17, e17, h⟩ := bnd h
    refine V_invV0 (c := 5) (pc := 17) dX5_readSort_17 (e_Re_fail h_this e17) iv_Re_114 (rm_Re_readSort_Re_fail _ _ _) rfl h_this cf_5 rfl (Nat.le_of_ble_eq_true rfl) rfl ?_
    obtain rfl := Option.some.inj h
    exact E_v (pc := 20) dX5_readSort_20 rfl hp
theorem e_Re_readSort {g : GE} {this : Nat} {m : Mem} (h_this : kd this = 6) {x : Mem} (h : Re_readSort this m = some x) : Ev g Y_Re_readSort [vr this] m (none) x :=
  Ev_of 1 (by decide +kernel) rfl (Nat.le_of_ble_eq_true rfl) rfl (k_Re_readSort h_this h ⟨rfl, rfl⟩)
theorem k_Re_readOther {g : GE} {this : Nat} {m : Mem} (h_this : kd this = 6) {r : Option AV} {m' : Mem} {x : Mem} (h : Re_readOther this m = some x) (hp : (fun x : Mem => r = none ∧ m' = x) x) : V g Y_Re_readOther 0 [some (vr this), none] [] m (PM g Y_Re_readOther r m') := by
  unfold Re_readOther at h
  refine V_aload_n (i := 0) (pc := 0) dX5_readOther_0 rfl rfl ?_
  refine V_getR (b := (this + 2)) (pc := 1) dX5_readOther_1 fl_Re_18 h_this rfl rfl ?_
  refine V_getR (b := (this + 20)) (pc := 4) dX5_readOther_4 fl_Re_156 (kf_5_2 h_this) rfl rfl ?_
  refine V_astore_n (i := 1) (ls' := [some (vr this), some (vr (this + 20))]) (pc := 7) dX5_readOther_7 rfl (Nat.le_of_ble_eq_true rfl) rfl ?_
  refine V_aload_n (i := 1) (pc := 8) dX5_readOther_8 rfl rfl ?_
  obtain ⟨r9, e9, h⟩ := bnd h
  refine V_invV1 (c := 8) (pc := 9) dX5_readOther_9 (e_Ta_isFull (kf_2_17 (kf_5_2 h_this)) e9) iv_Re_108 (rm_Re_readOther_Ta_isFull _ _ _) rfl (kf_2_17 (kf_5_2 h_this)) cf_8 rfl (Nat.le_of_ble_eq_true rfl) rfl ?_
  refine V_if_eq (pc := 12) (tgt := 21) dX5_readOther_12 rfl (fun q => ?_) (fun q => ?_)
  · have h := ite_t q h
    refine V_aload_n (i := 0) (pc := 21) dX5_readOther_21 rfl rfl ?_
    obtain ⟨m22, e22, h⟩ := bnd h
    refine V_invV0 (c := 5) (pc := 22) dX5_readOther_22 (e_Re_next h_this e22) iv_Re_41 (rm_Re_readOther_Re_next _ _ _) rfl h_this cf_5 rfl (Nat.le_of_ble_eq_true rfl) rfl ?_
    refine V_aload_n (i := 1) (pc := 25) dX5_readOther_25 rfl rfl ?_
    refine V_iconst (v := 0) (pc := 26) dX5_readOther_26 rfl ?_
    refine V_aload_n (i := 0) (pc := 27) dX5_readOther_27 rfl rfl ?_
    refine V_ldcS (i := 19) (tx := "day") (pc := 28) dX5_readOther_28 (by decide +kernel) ?_
    refine V_iconst (v := 1) (pc := 30) dX5_readOther_30 rfl ?_
    refine V_bipush (v := 60) (pc := 31) dX5_readOther_31 rfl ?_
    obtain ⟨r33, e33, h⟩ := bnd h
    refine V_invV1 (c := 5) (pc := 33) dX5_readOther_33 (e_Re_named h_this (isS_lit 19 (Nat.le_of_ble_eq_true rfl)) e33) iv_Re_86 (rm_Re_readOther_Re_named _ _ _) rfl h_this cf_5 rfl (Nat.le_of_ble_eq_true rfl) rfl ?_
    obtain ⟨m36, e36, h⟩ := bnd h
    refine V_invV0 (c := 8) (pc := 36) dX5_readOther_36 (e_Ta_tell (kf_2_17 (kf_5_2 h_this)) e36) iv_Re_122 (rm_Re_readOther_Ta_tell _ _ _) rfl (kf_2_17 (kf_5_2 h_this)) cf_8 rfl (Nat.le_of_ble_eq_true rfl) rfl ?_
    refine V_aload_n (i := 1) (pc := 39) dX5_readOther_39 rfl rfl ?_
    refine V_iconst (v := 1) (pc := 40) dX5_readOther_40 rfl ?_
    refine V_aload_n (i := 0) (pc := 41) dX5_readOther_41 rfl rfl ?_
    refine V_ldcS (i := 7) (tx := "odds") (pc := 42) dX5_readOther_42 (by decide +kernel) ?_
    refine V_iconst (v := 0) (pc := 44) dX5_readOther_44 rfl ?_
    refine V_bipush (v := 100) (pc := 45) dX5_readOther_45 rfl ?_
    obtain ⟨r47, e47, h⟩ := bnd h
    refine V_invV1 (c := 5) (pc := 47) dX5_readOther_47 (e_Re_named h_this (isS_lit 7 (Nat.le_of_ble_eq_true rfl)) e47) iv_Re_86 (rm_Re_readOther_Re_named _ _ _) rfl h_this cf_5 rfl (Nat.le_of_ble_eq_true rfl) rfl ?_
    obtain ⟨m50, e50, h⟩ := bnd h
    refine V_invV0 (c := 8) (pc := 50) dX5_readOther_50 (e_Ta_tell (kf_2_17 (kf_5_2 h_this)) e50) iv_Re_122 (rm_Re_readOther_Ta_tell _ _ _) rfl (kf_2_17 (kf_5_2 h_this)) cf_8 rfl (Nat.le_of_ble_eq_true rfl) rfl ?_
    refine V_aload_n (i := 1) (pc := 53) dX5_readOther_53 rfl rfl ?_
    refine V_iconst (v := 2) (pc := 54) dX5_readOther_54 rfl ?_
    refine V_aload_n (i := 0) (pc := 55) dX5_readOther_55 rfl rfl ?_
    refine V_ldcS (i := 20) (tx := "breaks") (pc := 56) dX5_readOther_56 (by decide +kernel) ?_
    refine V_iconst (v := 0) (pc := 58) dX5_readOther_58 rfl ?_
    refine V_sipush (v := 9999) (pc := 59) dX5_readOther_59 rfl ?_
    obtain ⟨r62, e62, h⟩ := bnd h
    refine V_invV1 (c := 5) (pc := 62) dX5_readOther_62 (e_Re_named h_this (isS_lit 20 (Nat.le_of_ble_eq_true rfl)) e62) iv_Re_86 (rm_Re_readOther_Re_named _ _ _) rfl h_this cf_5 rfl (Nat.le_of_ble_eq_true rfl) rfl ?_
    obtain ⟨m65, e65, h⟩ := bnd h
    refine V_invV0 (c := 8) (pc := 65) dX5_readOther_65 (e_Ta_tell (kf_2_17 (kf_5_2 h_this)) e65) iv_Re_122 (rm_Re_readOther_Ta_tell _ _ _) rfl (kf_2_17 (kf_5_2 h_this)) cf_8 rfl (Nat.le_of_ble_eq_true rfl) rfl ?_
    refine V_aload_n (i := 1) (pc := 68) dX5_readOther_68 rfl rfl ?_
    obtain ⟨m69, e69, h⟩ := bnd h
    refine V_invV0 (c := 8) (pc := 69) dX5_readOther_69 (e_Ta_add (kf_2_17 (kf_5_2 h_this)) e69) iv_Re_140 (rm_Re_readOther_Ta_add _ _ _) rfl (kf_2_17 (kf_5_2 h_this)) cf_8 rfl (Nat.le_of_ble_eq_true rfl) rfl ?_
    obtain rfl := Option.some.inj h
    exact E_v (pc := 72) dX5_readOther_72 rfl hp
  · have h := ite_f q h
    refine V_aload_n (i := 0) (pc := 15) dX5_readOther_15 rfl rfl ?_
    refine V_iconst (v := 3) (pc := 16) dX5_readOther_16 rfl ?_
    obtain ⟨m17, e17, h⟩ := bnd h
    refine V_invV0 (c := 5) (pc := 17) dX5_readOther_17 (e_Re_fail h_this e17) iv_Re_114 (rm_Re_readOther_Re_fail _ _ _) rfl h_this cf_5 rfl (Nat.le_of_ble_eq_true rfl) rfl ?_
    obtain rfl := Option.some.inj h
    exact E_v (pc := 20) dX5_readOther_20 rfl hp
theorem e_Re_readOther {g : GE} {this : Nat} {m : Mem} (h_this : kd this = 6) {x : Mem} (h : Re_readOther this m = some x) : Ev g Y_Re_readOther [vr this] m (none) x :=
  Ev_of 1 (by decide +kernel) rfl (Nat.le_of_ble_eq_true rfl) rfl (k_Re_readOther h_this h ⟨rfl, rfl⟩)
theorem k_Re_takeOnce {g : GE} {this : Nat} {v1 : Int32} {m : Mem} (h_this : kd this = 6) {r : Option AV} {m' : Mem} {x : Mem} (h : Re_takeOnce this v1 m = some x) (hp : (fun x : Mem => r = none ∧ m' = x) x) : V g Y_Re_takeOnce 0 [some (vr this), some (vi v1)] [] m (PM g Y_Re_takeOnce r m') := by
  unfold Re_takeOnce at h
  refine V_aload_n (i := 0) (pc := 0) dX5_takeOnce_0 rfl rfl ?_
  refine V_getI (pc := 1) dX5_takeOnce_1 fl_Re_38 h_this rfl ?_
  refine V_iload_n (i := 1) (pc := 4) dX5_takeOnce_4 rfl rfl ?_
  refine V_ishr (pc := 5) dX5_takeOnce_5 ?_
  refine V_iconst (v := 1) (pc := 6) dX5_takeOnce_6 rfl ?_
  refine V_iand (pc := 7) dX5_takeOnce_7 ?_
  refine V_iconst (v := 1) (pc := 8) dX5_takeOnce_8 rfl ?_
  refine V_icmp_ne (pc := 9) (tgt := 18) dX5_takeOnce_9 rfl (fun q => ?_) (fun q => ?_)
  · have h := ite_f q h
    refine V_aload_n (i := 0) (pc := 18) dX5_takeOnce_18 rfl rfl ?_
    refine V_dupr (pc := 19) dX5_takeOnce_19 ?_
    refine V_getI (pc := 20) dX5_takeOnce_20 fl_Re_38 h_this rfl ?_
    refine V_iconst (v := 1) (pc := 23) dX5_takeOnce_23 rfl ?_
    refine V_iload_n (i := 1) (pc := 24) dX5_takeOnce_24 rfl rfl ?_
    refine V_ishl (pc := 25) dX5_takeOnce_25 ?_
    refine V_ior (pc := 26) dX5_takeOnce_26 ?_
    refine V_putI_lt (pc := 27) dX5_takeOnce_27 fp_Re_38 h_this rfl rfl rfl h (fun m27 h => ?_)
    refine V_aload_n (i := 0) (pc := 30) dX5_takeOnce_30 rfl rfl ?_
    obtain ⟨m31, e31, h⟩ := bnd h
    refine V_invV0 (c := 5) (pc := 31) dX5_takeOnce_31 (e_Re_next h_this e31) iv_Re_41 (rm_Re_takeOnce_Re_next _ _ _) rfl h_this cf_5 rfl (Nat.le_of_ble_eq_true rfl) rfl ?_
    obtain rfl := Option.some.inj h
    exact E_v (pc := 34) dX5_takeOnce_34 rfl hp
  · have h := ite_t q h
    refine V_aload_n (i := 0) (pc := 12) dX5_takeOnce_12 rfl rfl ?_
    refine V_iconst (v := 2) (pc := 13) dX5_takeOnce_13 rfl ?_
    obtain ⟨m14, e14, h⟩ := bnd h
    refine V_invV0 (c := 5) (pc := 14) dX5_takeOnce_14 (e_Re_fail h_this e14) iv_Re_114 (rm_Re_takeOnce_Re_fail _ _ _) rfl h_this cf_5 rfl (Nat.le_of_ble_eq_true rfl) rfl ?_
    obtain rfl := Option.some.inj h
    exact E_v (pc := 17) dX5_takeOnce_17 rfl hp
theorem e_Re_takeOnce {g : GE} {this : Nat} {v1 : Int32} {m : Mem} (h_this : kd this = 6) {x : Mem} (h : Re_takeOnce this v1 m = some x) : Ev g Y_Re_takeOnce [vr this, vi v1] m (none) x :=
  Ev_of 0 (by decide +kernel) rfl (Nat.le_of_ble_eq_true rfl) rfl (k_Re_takeOnce h_this h ⟨rfl, rfl⟩)
theorem k_Re_readSingle {g : GE} {this : Nat} {m : Mem} (h_this : kd this = 6) {r : Option AV} {m' : Mem} {x : Mem} (h : Re_readSingle this m = some x) (hp : (fun x : Mem => r = none ∧ m' = x) x) : V g Y_Re_readSingle 0 [some (vr this)] [] m (PM g Y_Re_readSingle r m') := by
  unfold Re_readSingle at h
  refine V_aload_n (i := 0) (pc := 0) dX5_readSingle_0 rfl rfl ?_
  refine V_ldcS (i := 21) (tx := "sea") (pc := 1) dX5_readSingle_1 (by decide +kernel) ?_
  obtain ⟨r3, e3, h⟩ := bnd h
  refine V_invV1 (c := 5) (pc := 3) dX5_readSingle_3 (e_Re_is h_this (isS_lit 21 (Nat.le_of_ble_eq_true rfl)) e3) iv_Re_55 (rm_Re_readSingle_Re_is _ _ _) rfl h_this cf_5 rfl (Nat.le_of_ble_eq_true rfl) rfl ?_
  refine V_if_eq (pc := 6) (tgt := 49) dX5_readSingle_6 rfl (fun q => ?_) (fun q => ?_)
  · have h := ite_t q h
    refine V_aload_n (i := 0) (pc := 49) dX5_readSingle_49 rfl rfl ?_
    refine V_ldcS (i := 22) (tx := "shuts") (pc := 50) dX5_readSingle_50 (by decide +kernel) ?_
    obtain ⟨r52, e52, h⟩ := bnd h
    refine V_invV1 (c := 5) (pc := 52) dX5_readSingle_52 (e_Re_is h_this (isS_lit 22 (Nat.le_of_ble_eq_true rfl)) e52) iv_Re_55 (rm_Re_readSingle_Re_is _ _ _) rfl h_this cf_5 rfl (Nat.le_of_ble_eq_true rfl) rfl ?_
    refine V_if_eq (pc := 55) (tgt := 80) dX5_readSingle_55 rfl (fun q => ?_) (fun q => ?_)
    · have h := ite_t q h
      refine V_aload_n (i := 0) (pc := 80) dX5_readSingle_80 rfl rfl ?_
      refine V_ldcS (i := 23) (tx := "fetch") (pc := 81) dX5_readSingle_81 (by decide +kernel) ?_
      obtain ⟨r83, e83, h⟩ := bnd h
      refine V_invV1 (c := 5) (pc := 83) dX5_readSingle_83 (e_Re_is h_this (isS_lit 23 (Nat.le_of_ble_eq_true rfl)) e83) iv_Re_55 (rm_Re_readSingle_Re_is _ _ _) rfl h_this cf_5 rfl (Nat.le_of_ble_eq_true rfl) rfl ?_
      refine V_if_eq (pc := 86) (tgt := 127) dX5_readSingle_86 rfl (fun q => ?_) (fun q => ?_)
      · have h := ite_t q h
        refine V_aload_n (i := 0) (pc := 127) dX5_readSingle_127 rfl rfl ?_
        refine V_ldcS (i := 24) (tx := "sees") (pc := 128) dX5_readSingle_128 (by decide +kernel) ?_
        obtain ⟨r130, e130, h⟩ := bnd h
        refine V_invV1 (c := 5) (pc := 130) dX5_readSingle_130 (e_Re_is h_this (isS_lit 24 (Nat.le_of_ble_eq_true rfl)) e130) iv_Re_55 (rm_Re_readSingle_Re_is _ _ _) rfl h_this cf_5 rfl (Nat.le_of_ble_eq_true rfl) rfl ?_
        refine V_if_eq (pc := 133) (tgt := 158) dX5_readSingle_133 rfl (fun q => ?_) (fun q => ?_)
        · have h := ite_t q h
          refine V_aload_n (i := 0) (pc := 158) dX5_readSingle_158 rfl rfl ?_
          refine V_ldcS (i := 25) (tx := "drift") (pc := 159) dX5_readSingle_159 (by decide +kernel) ?_
          obtain ⟨r161, e161, h⟩ := bnd h
          refine V_invV1 (c := 5) (pc := 161) dX5_readSingle_161 (e_Re_is h_this (isS_lit 25 (Nat.le_of_ble_eq_true rfl)) e161) iv_Re_55 (rm_Re_readSingle_Re_is _ _ _) rfl h_this cf_5 rfl (Nat.le_of_ble_eq_true rfl) rfl ?_
          refine V_if_eq (pc := 164) (tgt := 205) dX5_readSingle_164 rfl (fun q => ?_) (fun q => ?_)
          · have h := ite_t q h
            refine V_aload_n (i := 0) (pc := 205) dX5_readSingle_205 rfl rfl ?_
            refine V_ldcS (i := 20) (tx := "breaks") (pc := 206) dX5_readSingle_206 (by decide +kernel) ?_
            obtain ⟨r208, e208, h⟩ := bnd h
            refine V_invV1 (c := 5) (pc := 208) dX5_readSingle_208 (e_Re_is h_this (isS_lit 20 (Nat.le_of_ble_eq_true rfl)) e208) iv_Re_55 (rm_Re_readSingle_Re_is _ _ _) rfl h_this cf_5 rfl (Nat.le_of_ble_eq_true rfl) rfl ?_
            refine V_if_eq (pc := 211) (tgt := 254) dX5_readSingle_211 rfl (fun q => ?_) (fun q => ?_)
            · have h := ite_t q h
              refine V_aload_n (i := 0) (pc := 254) dX5_readSingle_254 rfl rfl ?_
              refine V_iconst (v := 1) (pc := 255) dX5_readSingle_255 rfl ?_
              obtain ⟨m256, e256, h⟩ := bnd h
              refine V_invV0 (c := 5) (pc := 256) dX5_readSingle_256 (e_Re_fail h_this e256) iv_Re_114 (rm_Re_readSingle_Re_fail _ _ _) rfl h_this cf_5 rfl (Nat.le_of_ble_eq_true rfl) rfl ?_
              obtain rfl := Option.some.inj h
              exact E_v (pc := 259) dX5_readSingle_259 rfl hp
            · have h := ite_f q h
              refine V_aload_n (i := 0) (pc := 214) dX5_readSingle_214 rfl rfl ?_
              refine V_iconst (v := 5) (pc := 215) dX5_readSingle_215 rfl ?_
              obtain ⟨m216, e216, h⟩ := bnd h
              refine V_invV0 (c := 5) (pc := 216) dX5_readSingle_216 (e_Re_takeOnce h_this e216) iv_Re_165 (rm_Re_readSingle_Re_takeOnce _ _ _) rfl h_this cf_5 rfl (Nat.le_of_ble_eq_true rfl) rfl ?_
              refine V_aload_n (i := 0) (pc := 219) dX5_readSingle_219 rfl rfl ?_
              refine V_getR (b := (this + 2)) (pc := 220) dX5_readSingle_220 fl_Re_18 h_this rfl rfl ?_
              refine V_aload_n (i := 0) (pc := 223) dX5_readSingle_223 rfl rfl ?_
              refine V_iconst (v := 0) (pc := 224) dX5_readSingle_224 rfl ?_
              refine V_sipush (v := 9999) (pc := 225) dX5_readSingle_225 rfl ?_
              obtain ⟨r228, e228, h⟩ := bnd h
              refine V_invV1 (c := 5) (pc := 228) dX5_readSingle_228 (e_Re_takeNumber h_this e228) iv_Re_126 (rm_Re_readSingle_Re_takeNumber _ _ _) rfl h_this cf_5 rfl (Nat.le_of_ble_eq_true rfl) rfl ?_
              refine V_putI_lt (pc := 231) dX5_readSingle_231 fp_Re_196 (kf_5_2 h_this) rfl rfl rfl h (fun m231 h => ?_)
              refine V_aload_n (i := 0) (pc := 234) dX5_readSingle_234 rfl rfl ?_
              refine V_getR (b := (this + 2)) (pc := 235) dX5_readSingle_235 fl_Re_18 h_this rfl rfl ?_
              refine V_aload_n (i := 0) (pc := 238) dX5_readSingle_238 rfl rfl ?_
              refine V_ldcS (i := 28) (tx := "crossing") (pc := 239) dX5_readSingle_239 (by decide +kernel) ?_
              refine V_iconst (v := 0) (pc := 241) dX5_readSingle_241 rfl ?_
              refine V_sipush (v := 9999) (pc := 242) dX5_readSingle_242 rfl ?_
              obtain ⟨r245, e245, h⟩ := bnd h
              refine V_invV1 (c := 5) (pc := 245) dX5_readSingle_245 (e_Re_named h_this (isS_lit 28 (Nat.le_of_ble_eq_true rfl)) e245) iv_Re_86 (rm_Re_readSingle_Re_named _ _ _) rfl h_this cf_5 rfl (Nat.le_of_ble_eq_true rfl) rfl ?_
              refine V_putI_lt (pc := 248) dX5_readSingle_248 fp_Re_200 (kf_5_2 h_this) rfl rfl rfl h (fun m248 h => ?_)
              refine V_goto (tgt := 259) (pc := 251) dX5_readSingle_251 rfl ?_
              obtain rfl := Option.some.inj h
              exact E_v (pc := 259) dX5_readSingle_259 rfl hp
          · have h := ite_f q h
            refine V_aload_n (i := 0) (pc := 167) dX5_readSingle_167 rfl rfl ?_
            refine V_iconst (v := 4) (pc := 168) dX5_readSingle_168 rfl ?_
            obtain ⟨m169, e169, h⟩ := bnd h
            refine V_invV0 (c := 5) (pc := 169) dX5_readSingle_169 (e_Re_takeOnce h_this e169) iv_Re_165 (rm_Re_readSingle_Re_takeOnce _ _ _) rfl h_this cf_5 rfl (Nat.le_of_ble_eq_true rfl) rfl ?_
            refine V_aload_n (i := 0) (pc := 172) dX5_readSingle_172 rfl rfl ?_
            refine V_getR (b := (this + 2)) (pc := 173) dX5_readSingle_173 fl_Re_18 h_this rfl rfl ?_
            refine V_aload_n (i := 0) (pc := 176) dX5_readSingle_176 rfl rfl ?_
            refine V_iconst (v := 0) (pc := 177) dX5_readSingle_177 rfl ?_
            refine V_bipush (v := 100) (pc := 178) dX5_readSingle_178 rfl ?_
            obtain ⟨r180, e180, h⟩ := bnd h
            refine V_invV1 (c := 5) (pc := 180) dX5_readSingle_180 (e_Re_takeNumber h_this e180) iv_Re_126 (rm_Re_readSingle_Re_takeNumber _ _ _) rfl h_this cf_5 rfl (Nat.le_of_ble_eq_true rfl) rfl ?_
            refine V_putI_lt (pc := 183) dX5_readSingle_183 fp_Re_190 (kf_5_2 h_this) rfl rfl rfl h (fun m183 h => ?_)
            refine V_aload_n (i := 0) (pc := 186) dX5_readSingle_186 rfl rfl ?_
            refine V_getR (b := (this + 2)) (pc := 187) dX5_readSingle_187 fl_Re_18 h_this rfl rfl ?_
            refine V_aload_n (i := 0) (pc := 190) dX5_readSingle_190 rfl rfl ?_
            refine V_ldcS (i := 27) (tx := "land") (pc := 191) dX5_readSingle_191 (by decide +kernel) ?_
            refine V_iconst (v := 0) (pc := 193) dX5_readSingle_193 rfl ?_
            refine V_bipush (v := 60) (pc := 194) dX5_readSingle_194 rfl ?_
            obtain ⟨r196, e196, h⟩ := bnd h
            refine V_invV1 (c := 5) (pc := 196) dX5_readSingle_196 (e_Re_named h_this (isS_lit 27 (Nat.le_of_ble_eq_true rfl)) e196) iv_Re_86 (rm_Re_readSingle_Re_named _ _ _) rfl h_this cf_5 rfl (Nat.le_of_ble_eq_true rfl) rfl ?_
            refine V_putI_lt (pc := 199) dX5_readSingle_199 fp_Re_194 (kf_5_2 h_this) rfl rfl rfl h (fun m199 h => ?_)
            refine V_goto (tgt := 259) (pc := 202) dX5_readSingle_202 rfl ?_
            obtain rfl := Option.some.inj h
            exact E_v (pc := 259) dX5_readSingle_259 rfl hp
        · have h := ite_f q h
          refine V_aload_n (i := 0) (pc := 136) dX5_readSingle_136 rfl rfl ?_
          refine V_iconst (v := 3) (pc := 137) dX5_readSingle_137 rfl ?_
          obtain ⟨m138, e138, h⟩ := bnd h
          refine V_invV0 (c := 5) (pc := 138) dX5_readSingle_138 (e_Re_takeOnce h_this e138) iv_Re_165 (rm_Re_readSingle_Re_takeOnce _ _ _) rfl h_this cf_5 rfl (Nat.le_of_ble_eq_true rfl) rfl ?_
          refine V_aload_n (i := 0) (pc := 141) dX5_readSingle_141 rfl rfl ?_
          refine V_getR (b := (this + 2)) (pc := 142) dX5_readSingle_142 fl_Re_18 h_this rfl rfl ?_
          refine V_aload_n (i := 0) (pc := 145) dX5_readSingle_145 rfl rfl ?_
          refine V_iconst (v := 0) (pc := 146) dX5_readSingle_146 rfl ?_
          refine V_bipush (v := 100) (pc := 147) dX5_readSingle_147 rfl ?_
          obtain ⟨r149, e149, h⟩ := bnd h
          refine V_invV1 (c := 5) (pc := 149) dX5_readSingle_149 (e_Re_takeNumber h_this e149) iv_Re_126 (rm_Re_readSingle_Re_takeNumber _ _ _) rfl h_this cf_5 rfl (Nat.le_of_ble_eq_true rfl) rfl ?_
          refine V_putI_lt (pc := 152) dX5_readSingle_152 fp_Re_186 (kf_5_2 h_this) rfl rfl rfl h (fun m152 h => ?_)
          refine V_goto (tgt := 259) (pc := 155) dX5_readSingle_155 rfl ?_
          obtain rfl := Option.some.inj h
          exact E_v (pc := 259) dX5_readSingle_259 rfl hp
      · have h := ite_f q h
        refine V_aload_n (i := 0) (pc := 89) dX5_readSingle_89 rfl rfl ?_
        refine V_iconst (v := 2) (pc := 90) dX5_readSingle_90 rfl ?_
        obtain ⟨m91, e91, h⟩ := bnd h
        refine V_invV0 (c := 5) (pc := 91) dX5_readSingle_91 (e_Re_takeOnce h_this e91) iv_Re_165 (rm_Re_readSingle_Re_takeOnce _ _ _) rfl h_this cf_5 rfl (Nat.le_of_ble_eq_true rfl) rfl ?_
        refine V_aload_n (i := 0) (pc := 94) dX5_readSingle_94 rfl rfl ?_
        refine V_getR (b := (this + 2)) (pc := 95) dX5_readSingle_95 fl_Re_18 h_this rfl rfl ?_
        refine V_aload_n (i := 0) (pc := 98) dX5_readSingle_98 rfl rfl ?_
        refine V_iconst (v := 0) (pc := 99) dX5_readSingle_99 rfl ?_
        refine V_bipush (v := 60) (pc := 100) dX5_readSingle_100 rfl ?_
        obtain ⟨r102, e102, h⟩ := bnd h
        refine V_invV1 (c := 5) (pc := 102) dX5_readSingle_102 (e_Re_takeNumber h_this e102) iv_Re_126 (rm_Re_readSingle_Re_takeNumber _ _ _) rfl h_this cf_5 rfl (Nat.le_of_ble_eq_true rfl) rfl ?_
        refine V_putI_lt (pc := 105) dX5_readSingle_105 fp_Re_178 (kf_5_2 h_this) rfl rfl rfl h (fun m105 h => ?_)
        refine V_aload_n (i := 0) (pc := 108) dX5_readSingle_108 rfl rfl ?_
        refine V_getR (b := (this + 2)) (pc := 109) dX5_readSingle_109 fl_Re_18 h_this rfl rfl ?_
        refine V_aload_n (i := 0) (pc := 112) dX5_readSingle_112 rfl rfl ?_
        refine V_ldcS (i := 26) (tx := "across") (pc := 113) dX5_readSingle_113 (by decide +kernel) ?_
        refine V_iconst (v := 0) (pc := 115) dX5_readSingle_115 rfl ?_
        refine V_bipush (v := 60) (pc := 116) dX5_readSingle_116 rfl ?_
        obtain ⟨r118, e118, h⟩ := bnd h
        refine V_invV1 (c := 5) (pc := 118) dX5_readSingle_118 (e_Re_named h_this (isS_lit 26 (Nat.le_of_ble_eq_true rfl)) e118) iv_Re_86 (rm_Re_readSingle_Re_named _ _ _) rfl h_this cf_5 rfl (Nat.le_of_ble_eq_true rfl) rfl ?_
        refine V_putI_lt (pc := 121) dX5_readSingle_121 fp_Re_182 (kf_5_2 h_this) rfl rfl rfl h (fun m121 h => ?_)
        refine V_goto (tgt := 259) (pc := 124) dX5_readSingle_124 rfl ?_
        obtain rfl := Option.some.inj h
        exact E_v (pc := 259) dX5_readSingle_259 rfl hp
    · have h := ite_f q h
      refine V_aload_n (i := 0) (pc := 58) dX5_readSingle_58 rfl rfl ?_
      refine V_iconst (v := 1) (pc := 59) dX5_readSingle_59 rfl ?_
      obtain ⟨m60, e60, h⟩ := bnd h
      refine V_invV0 (c := 5) (pc := 60) dX5_readSingle_60 (e_Re_takeOnce h_this e60) iv_Re_165 (rm_Re_readSingle_Re_takeOnce _ _ _) rfl h_this cf_5 rfl (Nat.le_of_ble_eq_true rfl) rfl ?_
      refine V_aload_n (i := 0) (pc := 63) dX5_readSingle_63 rfl rfl ?_
      refine V_getR (b := (this + 2)) (pc := 64) dX5_readSingle_64 fl_Re_18 h_this rfl rfl ?_
      refine V_aload_n (i := 0) (pc := 67) dX5_readSingle_67 rfl rfl ?_
      refine V_iconst (v := 0) (pc := 68) dX5_readSingle_68 rfl ?_
      refine V_bipush (v := 100) (pc := 69) dX5_readSingle_69 rfl ?_
      obtain ⟨r71, e71, h⟩ := bnd h
      refine V_invV1 (c := 5) (pc := 71) dX5_readSingle_71 (e_Re_takeNumber h_this e71) iv_Re_126 (rm_Re_readSingle_Re_takeNumber _ _ _) rfl h_this cf_5 rfl (Nat.le_of_ble_eq_true rfl) rfl ?_
      refine V_putI_lt (pc := 74) dX5_readSingle_74 fp_Re_174 (kf_5_2 h_this) rfl rfl rfl h (fun m74 h => ?_)
      refine V_goto (tgt := 259) (pc := 77) dX5_readSingle_77 rfl ?_
      obtain rfl := Option.some.inj h
      exact E_v (pc := 259) dX5_readSingle_259 rfl hp
  · have h := ite_f q h
    refine V_aload_n (i := 0) (pc := 9) dX5_readSingle_9 rfl rfl ?_
    refine V_iconst (v := 0) (pc := 10) dX5_readSingle_10 rfl ?_
    obtain ⟨m11, e11, h⟩ := bnd h
    refine V_invV0 (c := 5) (pc := 11) dX5_readSingle_11 (e_Re_takeOnce h_this e11) iv_Re_165 (rm_Re_readSingle_Re_takeOnce _ _ _) rfl h_this cf_5 rfl (Nat.le_of_ble_eq_true rfl) rfl ?_
    refine V_aload_n (i := 0) (pc := 14) dX5_readSingle_14 rfl rfl ?_
    refine V_getR (b := (this + 2)) (pc := 15) dX5_readSingle_15 fl_Re_18 h_this rfl rfl ?_
    refine V_aload_n (i := 0) (pc := 18) dX5_readSingle_18 rfl rfl ?_
    refine V_ldcS (i := 8) (tx := "swell") (pc := 19) dX5_readSingle_19 (by decide +kernel) ?_
    refine V_iconst (v := 0) (pc := 21) dX5_readSingle_21 rfl ?_
    refine V_bipush (v := 9) (pc := 22) dX5_readSingle_22 rfl ?_
    obtain ⟨r24, e24, h⟩ := bnd h
    refine V_invV1 (c := 5) (pc := 24) dX5_readSingle_24 (e_Re_named h_this (isS_lit 8 (Nat.le_of_ble_eq_true rfl)) e24) iv_Re_86 (rm_Re_readSingle_Re_named _ _ _) rfl h_this cf_5 rfl (Nat.le_of_ble_eq_true rfl) rfl ?_
    refine V_putI_lt (pc := 27) dX5_readSingle_27 fp_Re_168 (kf_5_2 h_this) rfl rfl rfl h (fun m27 h => ?_)
    refine V_aload_n (i := 0) (pc := 30) dX5_readSingle_30 rfl rfl ?_
    refine V_getR (b := (this + 2)) (pc := 31) dX5_readSingle_31 fl_Re_18 h_this rfl rfl ?_
    refine V_aload_n (i := 0) (pc := 34) dX5_readSingle_34 rfl rfl ?_
    refine V_ldcS (i := 9) (tx := "warm") (pc := 35) dX5_readSingle_35 (by decide +kernel) ?_
    refine V_iconst (v := 0) (pc := 37) dX5_readSingle_37 rfl ?_
    refine V_bipush (v := 9) (pc := 38) dX5_readSingle_38 rfl ?_
    obtain ⟨r40, e40, h⟩ := bnd h
    refine V_invV1 (c := 5) (pc := 40) dX5_readSingle_40 (e_Re_named h_this (isS_lit 9 (Nat.le_of_ble_eq_true rfl)) e40) iv_Re_86 (rm_Re_readSingle_Re_named _ _ _) rfl h_this cf_5 rfl (Nat.le_of_ble_eq_true rfl) rfl ?_
    refine V_putI_lt (pc := 43) dX5_readSingle_43 fp_Re_170 (kf_5_2 h_this) rfl rfl rfl h (fun m43 h => ?_)
    refine V_goto (tgt := 259) (pc := 46) dX5_readSingle_46 rfl ?_
    obtain rfl := Option.some.inj h
    exact E_v (pc := 259) dX5_readSingle_259 rfl hp
theorem e_Re_readSingle {g : GE} {this : Nat} {m : Mem} (h_this : kd this = 6) {x : Mem} (h : Re_readSingle this m = some x) : Ev g Y_Re_readSingle [vr this] m (none) x :=
  Ev_of 0 (by decide +kernel) rfl (Nat.le_of_ble_eq_true rfl) rfl (k_Re_readSingle h_this h ⟨rfl, rfl⟩)
theorem k_Re_endLine_b20 {g : GE} {this : Nat}   {m : Mem} (h_this : kd this = 6) {r : Option AV} {m' : Mem} {x : Mem} (h : Re_endLine_b20 this m = some x) (hp : (fun x : Mem => r = none ∧ m' = x) x) : V g Y_Re_endLine 20 [some (vr this)] [] m (PM g Y_Re_endLine r m') := by
  unfold Re_endLine_b20 at h
  refine V_aload_n (i := 0) (pc := 20) dX5_endLine_20 rfl rfl ?_
  refine V_getI (pc := 21) dX5_endLine_21 fl_Re_32 h_this rfl ?_
  refine V_if_ne (pc := 24) (tgt := 44) dX5_endLine_24 rfl (fun q => ?_) (fun q => ?_)
  · have h := ite_f q h
    obtain rfl := Option.some.inj h
    exact E_v (pc := 44) dX5_endLine_44 rfl hp
  · have h := ite_t q h
    refine V_aload_n (i := 0) (pc := 27) dX5_endLine_27 rfl rfl ?_
    refine V_getR (b := (this + 2)) (pc := 28) dX5_endLine_28 fl_Re_18 h_this rfl rfl ?_
    refine V_dupr (pc := 31) dX5_endLine_31 ?_
    refine V_getI (pc := 32) dX5_endLine_32 fl_Re_47 (kf_5_2 h_this) rfl ?_
    refine V_iconst (v := 1) (pc := 35) dX5_endLine_35 rfl ?_
    refine V_iadd (pc := 36) dX5_endLine_36 ?_
    refine V_putI_lt (pc := 37) dX5_endLine_37 fp_Re_47 (kf_5_2 h_this) rfl rfl rfl h (fun m37 h => ?_)
    refine V_aload_n (i := 0) (pc := 40) dX5_endLine_40 rfl rfl ?_
    obtain ⟨m41, e41, h⟩ := bnd h
    refine V_invV0 (c := 5) (pc := 41) dX5_endLine_41 (e_Re_next h_this e41) iv_Re_41 (rm_Re_endLine_Re_next _ _ _) rfl h_this cf_5 rfl (Nat.le_of_ble_eq_true rfl) rfl ?_
    obtain rfl := Option.some.inj h
    exact E_v (pc := 44) dX5_endLine_44 rfl hp
theorem k_Re_endLine {g : GE} {this : Nat} {m : Mem} (h_this : kd this = 6) {r : Option AV} {m' : Mem} {x : Mem} (h : Re_endLine this m = some x) (hp : (fun x : Mem => r = none ∧ m' = x) x) : V g Y_Re_endLine 0 [some (vr this)] [] m (PM g Y_Re_endLine r m') := by
  unfold Re_endLine at h
  refine V_aload_n (i := 0) (pc := 0) dX5_endLine_0 rfl rfl ?_
  refine V_getI (pc := 1) dX5_endLine_1 fl_Re_32 h_this rfl ?_
  refine V_if_ne (pc := 4) (tgt := 20) dX5_endLine_4 rfl (fun q => ?_) (fun q => ?_)
  · have h := ite_f q h
    exact k_Re_endLine_b20 h_this h hp
  · have h := ite_t q h
    refine V_aload_n (i := 0) (pc := 7) dX5_endLine_7 rfl rfl ?_
    refine V_getI (pc := 8) dX5_endLine_8 fl_Re_44 h_this rfl ?_
    refine V_iconst (v := 3) (pc := 11) dX5_endLine_11 rfl ?_
    refine V_icmp_eq (pc := 12) (tgt := 20) dX5_endLine_12 rfl (fun q => ?_) (fun q => ?_)
    · have h := ite_t q h
      exact k_Re_endLine_b20 h_this h hp
    · have h := ite_f q h
      refine V_aload_n (i := 0) (pc := 15) dX5_endLine_15 rfl rfl ?_
      refine V_iconst (v := 1) (pc := 16) dX5_endLine_16 rfl ?_
      obtain ⟨m17, e17, h⟩ := bnd h
      refine V_invV0 (c := 5) (pc := 17) dX5_endLine_17 (e_Re_fail h_this e17) iv_Re_114 (rm_Re_endLine_Re_fail _ _ _) rfl h_this cf_5 rfl (Nat.le_of_ble_eq_true rfl) rfl ?_
      exact k_Re_endLine_b20 h_this h hp
theorem e_Re_endLine {g : GE} {this : Nat} {m : Mem} (h_this : kd this = 6) {x : Mem} (h : Re_endLine this m = some x) : Ev g Y_Re_endLine [vr this] m (none) x :=
  Ev_of 0 (by decide +kernel) rfl (Nat.le_of_ble_eq_true rfl) rfl (k_Re_endLine h_this h ⟨rfl, rfl⟩)
theorem k_Re_read_b133 {g : GE} {this : Nat}   {m : Mem} (h_this : kd this = 6) {r : Option AV} {m' : Mem} {x : Mem} (h : Re_read_b133 this m = some x) (hp : (fun x : Mem => r = none ∧ m' = x) x) : V g Y_Re_read 133 [some (vr this), none] [] m (PM g Y_Re_read r m') := by
  unfold Re_read_b133 at h
  refine V_aload_n (i := 0) (pc := 133) dX5_read_133 rfl rfl ?_
  refine V_iconst (v := 0) (pc := 134) dX5_read_134 rfl ?_
  refine V_putI_lt (pc := 135) dX5_read_135 fp_Re_26 h_this rfl rfl rfl h (fun m135 h => ?_)
  obtain rfl := Option.some.inj h
  exact E_v (pc := 138) dX5_read_138 rfl hp
theorem k_Re_read_b123 {g : GE} {this : Nat} {v1 : Int32}  {m : Mem} (h_this : kd this = 6) {r : Option AV} {m' : Mem} {x : (Int32 × Mem) ⊕ (Mem)} (h : Re_read_b123 this v1 m = some x) (hp : (Sum.elim (fun s : Int32 × Mem => V g Y_Re_read 33 [some (vr this), some (vi s.1)] [] s.2 (PM g Y_Re_read r m')) (fun x : Mem => r = none ∧ m' = x)) x) : V g Y_Re_read 123 [some (vr this), some (vi v1)] [] m (PM g Y_Re_read r m') := by
  unfold Re_read_b123 at h
  refine V_aload_n (i := 0) (pc := 123) dX5_read_123 rfl rfl ?_
  obtain ⟨m124, e124, h⟩ := bnd h
  refine V_invV0 (c := 5) (pc := 124) dX5_read_124 (e_Re_endLine h_this e124) iv_Re_75 (rm_Re_read_Re_endLine _ _ _) rfl h_this cf_5 rfl (Nat.le_of_ble_eq_true rfl) rfl ?_
  refine V_iinc (i := 1) (v := (v1 + 1)) (ls' := [some (vr this), some (vi (v1 + 1))]) (pc := 127) dX5_read_127 rfl rfl (Nat.le_of_ble_eq_true rfl) rfl ?_
  refine V_goto (tgt := 33) (pc := 130) dX5_read_130 rfl ?_
  obtain rfl := Option.some.inj h
  exact hp
theorem k_Re_read_l33 {g : GE} {this : Nat}  {v1 : Int32} {m : Mem} (h_this : kd this = 6) {r : Option AV} {m' : Mem} {x : (Int32 × Mem) ⊕ (Mem)} (h : Re_read_l33 this v1 m = some x) (hp : (Sum.elim (fun s : Int32 × Mem => V g Y_Re_read 33 [some (vr this), some (vi s.1)] [] s.2 (PM g Y_Re_read r m')) (fun x : Mem => r = none ∧ m' = x)) x) : V g Y_Re_read 33 [some (vr this), some (vi v1)] [] m (PM g Y_Re_read r m') := by
  unfold Re_read_l33 at h
  refine V_iload_n (i := 1) (pc := 33) dX5_read_33 rfl rfl ?_
  refine V_sipush (v := 1600) (pc := 34) dX5_read_34 rfl ?_
  refine V_icmp_gt (pc := 37) (tgt := 133) dX5_read_37 rfl (fun q => ?_) (fun q => ?_)
  · have h := ite_t q h
    obtain ⟨y1, hu1, rfl⟩ := up_e h
    have h := hu1
    refine V_sub (ls' := [some (vr this), none]) (And.intro rfl trivial) ?_
    exact k_Re_read_b133 h_this h hp
  · have h := ite_f q h
    refine V_aload_n (i := 0) (pc := 40) dX5_read_40 rfl rfl ?_
    refine V_getI (pc := 41) dX5_read_41 fl_Re_32 h_this rfl ?_
    refine V_if_ne (pc := 44) (tgt := 133) dX5_read_44 rfl (fun q => ?_) (fun q => ?_)
    · have h := ite_f q h
      obtain ⟨y2, hu2, rfl⟩ := up_e h
      have h := hu2
      refine V_sub (ls' := [some (vr this), none]) (And.intro rfl trivial) ?_
      exact k_Re_read_b133 h_this h hp
    · have h := ite_t q h
      refine V_aload_n (i := 0) (pc := 47) dX5_read_47 rfl rfl ?_
      refine V_getI (pc := 48) dX5_read_48 fl_Re_44 h_this rfl ?_
      refine V_if_eq (pc := 51) (tgt := 133) dX5_read_51 rfl (fun q => ?_) (fun q => ?_)
      · have h := ite_t q h
        obtain ⟨y3, hu3, rfl⟩ := up_e h
        have h := hu3
        refine V_sub (ls' := [some (vr this), none]) (And.intro rfl trivial) ?_
        exact k_Re_read_b133 h_this h hp
      · have h := ite_f q h
        refine V_aload_n (i := 0) (pc := 54) dX5_read_54 rfl rfl ?_
        refine V_getR (b := (this + 2)) (pc := 55) dX5_read_55 fl_Re_18 h_this rfl rfl ?_
        refine V_getI (pc := 58) dX5_read_58 fl_Re_47 (kf_5_2 h_this) rfl ?_
        refine V_if_ne (pc := 61) (tgt := 71) dX5_read_61 rfl (fun q => ?_) (fun q => ?_)
        · have h := ite_f q h
          refine V_aload_n (i := 0) (pc := 71) dX5_read_71 rfl rfl ?_
          refine V_ldcS (i := 29) (tx := "crack") (pc := 72) dX5_read_72 (by decide +kernel) ?_
          obtain ⟨r74, e74, h⟩ := bnd h
          refine V_invV1 (c := 5) (pc := 74) dX5_read_74 (e_Re_is h_this (isS_lit 29 (Nat.le_of_ble_eq_true rfl)) e74) iv_Re_55 (rm_Re_read_Re_is _ _ _) rfl h_this cf_5 rfl (Nat.le_of_ble_eq_true rfl) rfl ?_
          refine V_if_eq (pc := 77) (tgt := 87) dX5_read_77 rfl (fun q => ?_) (fun q => ?_)
          · have h := ite_t q h
            refine V_aload_n (i := 0) (pc := 87) dX5_read_87 rfl rfl ?_
            refine V_ldcS (i := 30) (tx := "sort") (pc := 88) dX5_read_88 (by decide +kernel) ?_
            obtain ⟨r90, e90, h⟩ := bnd h
            refine V_invV1 (c := 5) (pc := 90) dX5_read_90 (e_Re_is h_this (isS_lit 30 (Nat.le_of_ble_eq_true rfl)) e90) iv_Re_55 (rm_Re_read_Re_is _ _ _) rfl h_this cf_5 rfl (Nat.le_of_ble_eq_true rfl) rfl ?_
            refine V_if_eq (pc := 93) (tgt := 103) dX5_read_93 rfl (fun q => ?_) (fun q => ?_)
            · have h := ite_t q h
              refine V_aload_n (i := 0) (pc := 103) dX5_read_103 rfl rfl ?_
              refine V_ldcS (i := 31) (tx := "other") (pc := 104) dX5_read_104 (by decide +kernel) ?_
              obtain ⟨r106, e106, h⟩ := bnd h
              refine V_invV1 (c := 5) (pc := 106) dX5_read_106 (e_Re_is h_this (isS_lit 31 (Nat.le_of_ble_eq_true rfl)) e106) iv_Re_55 (rm_Re_read_Re_is _ _ _) rfl h_this cf_5 rfl (Nat.le_of_ble_eq_true rfl) rfl ?_
              refine V_if_eq (pc := 109) (tgt := 119) dX5_read_109 rfl (fun q => ?_) (fun q => ?_)
              · have h := ite_t q h
                refine V_aload_n (i := 0) (pc := 119) dX5_read_119 rfl rfl ?_
                obtain ⟨m120, e120, h⟩ := bnd h
                refine V_invV0 (c := 5) (pc := 120) dX5_read_120 (e_Re_readSingle h_this e120) iv_Re_72 (rm_Re_read_Re_readSingle _ _ _) rfl h_this cf_5 rfl (Nat.le_of_ble_eq_true rfl) rfl ?_
                exact k_Re_read_b123 h_this h hp
              · have h := ite_f q h
                refine V_aload_n (i := 0) (pc := 112) dX5_read_112 rfl rfl ?_
                obtain ⟨m113, e113, h⟩ := bnd h
                refine V_invV0 (c := 5) (pc := 113) dX5_read_113 (e_Re_readOther h_this e113) iv_Re_69 (rm_Re_read_Re_readOther _ _ _) rfl h_this cf_5 rfl (Nat.le_of_ble_eq_true rfl) rfl ?_
                refine V_goto (tgt := 123) (pc := 116) dX5_read_116 rfl ?_
                exact k_Re_read_b123 h_this h hp
            · have h := ite_f q h
              refine V_aload_n (i := 0) (pc := 96) dX5_read_96 rfl rfl ?_
              obtain ⟨m97, e97, h⟩ := bnd h
              refine V_invV0 (c := 5) (pc := 97) dX5_read_97 (e_Re_readSort h_this e97) iv_Re_64 (rm_Re_read_Re_readSort _ _ _) rfl h_this cf_5 rfl (Nat.le_of_ble_eq_true rfl) rfl ?_
              refine V_goto (tgt := 123) (pc := 100) dX5_read_100 rfl ?_
              exact k_Re_read_b123 h_this h hp
          · have h := ite_f q h
            refine V_aload_n (i := 0) (pc := 80) dX5_read_80 rfl rfl ?_
            obtain ⟨m81, e81, h⟩ := bnd h
            refine V_invV0 (c := 5) (pc := 81) dX5_read_81 (e_Re_readCrack h_this e81) iv_Re_59 (rm_Re_read_Re_readCrack _ _ _) rfl h_this cf_5 rfl (Nat.le_of_ble_eq_true rfl) rfl ?_
            refine V_goto (tgt := 123) (pc := 84) dX5_read_84 rfl ?_
            exact k_Re_read_b123 h_this h hp
        · have h := ite_t q h
          refine V_aload_n (i := 0) (pc := 64) dX5_read_64 rfl rfl ?_
          obtain ⟨m65, e65, h⟩ := bnd h
          refine V_invV0 (c := 5) (pc := 65) dX5_read_65 (e_Re_readFloe h_this e65) iv_Re_50 (rm_Re_read_Re_readFloe _ _ _) rfl h_this cf_5 rfl (Nat.le_of_ble_eq_true rfl) rfl ?_
          refine V_goto (tgt := 123) (pc := 68) dX5_read_68 rfl ?_
          exact k_Re_read_b123 h_this h hp
theorem k_Re_read {g : GE} {this : Nat} {m : Mem} (h_this : kd this = 6) {r : Option AV} {m' : Mem} {x : Mem} (h : Re_read this m = some x) (hp : (fun x : Mem => r = none ∧ m' = x) x) : V g Y_Re_read 0 [some (vr this), none] [] m (PM g Y_Re_read r m') := by
  unfold Re_read at h
  refine V_aload_n (i := 0) (pc := 0) dX5_read_0 rfl rfl ?_
  refine V_getR (b := (this + 2)) (pc := 1) dX5_read_1 fl_Re_18 h_this rfl rfl ?_
  obtain ⟨m4, e4, h⟩ := bnd h
  refine V_invV0 (c := 2) (pc := 4) dX5_read_4 (e_Fl_clear (kf_5_2 h_this) e4) iv_Re_29 (rm_Re_read_Fl_clear _ _ _) rfl (kf_5_2 h_this) cf_2 rfl (Nat.le_of_ble_eq_true rfl) rfl ?_
  refine V_aload_n (i := 0) (pc := 7) dX5_read_7 rfl rfl ?_
  refine V_iconst (v := 0) (pc := 8) dX5_read_8 rfl ?_
  refine V_putI_lt (pc := 9) dX5_read_9 fp_Re_32 h_this rfl rfl rfl h (fun m9 h => ?_)
  refine V_aload_n (i := 0) (pc := 12) dX5_read_12 rfl rfl ?_
  refine V_iconst (v := (-1)) (pc := 13) dX5_read_13 rfl ?_
  refine V_putI_lt (pc := 14) dX5_read_14 fp_Re_22 h_this rfl rfl rfl h (fun m14 h => ?_)
  refine V_aload_n (i := 0) (pc := 17) dX5_read_17 rfl rfl ?_
  refine V_iconst (v := 0) (pc := 18) dX5_read_18 rfl ?_
  refine V_putI_lt (pc := 19) dX5_read_19 fp_Re_35 h_this rfl rfl rfl h (fun m19 h => ?_)
  refine V_aload_n (i := 0) (pc := 22) dX5_read_22 rfl rfl ?_
  refine V_iconst (v := 0) (pc := 23) dX5_read_23 rfl ?_
  refine V_putI_lt (pc := 24) dX5_read_24 fp_Re_38 h_this rfl rfl rfl h (fun m24 h => ?_)
  refine V_aload_n (i := 0) (pc := 27) dX5_read_27 rfl rfl ?_
  obtain ⟨m28, e28, h⟩ := bnd h
  refine V_invV0 (c := 5) (pc := 28) dX5_read_28 (e_Re_next h_this e28) iv_Re_41 (rm_Re_read_Re_next _ _ _) rfl h_this cf_5 rfl (Nat.le_of_ble_eq_true rfl) rfl ?_
  refine V_iconst (v := 0) (pc := 31) dX5_read_31 rfl ?_
  refine V_istore_n (i := 1) (ls' := [some (vr this), some (vi 0)]) (pc := 32) dX5_read_32 rfl (Nat.le_of_ble_eq_true rfl) rfl ?_
  exact loop_V (A := fun s : Int32 × Mem => V g Y_Re_read 33 [some (vr this), some (vi s.1)] [] s.2 (PM g Y_Re_read r m')) (fun s x h hp => k_Re_read_l33 h_this h hp) (0, m28) _ h hp
theorem e_Re_read {g : GE} {this : Nat} {m : Mem} (h_this : kd this = 6) {x : Mem} (h : Re_read this m = some x) : Ev g Y_Re_read [vr this] m (none) x :=
  Ev_of 1 (by decide +kernel) rfl (Nat.le_of_ble_eq_true rfl) rfl (k_Re_read h_this h ⟨rfl, rfl⟩)
theorem k_Ta_at {g : GE} {this : Nat} {v1 : Int32} {v2 : Int32} {m : Mem} (h_this : kd this = 9) {r : Option AV} {m' : Mem} {x : Int32} (h : Ta_at this v1 v2 m = some x) (hp : (fun x : Int32 => r = some (vi x) ∧ m' = m) x) : V g Y_Ta_at 0 [some (vr this), some (vi v1), some (vi v2)] [] m (PM g Y_Ta_at r m') := by
  unfold Ta_at at h
  refine V_iload_n (i := 1) (pc := 0) dX8_at_0 rfl rfl ?_
  refine V_if_lt (pc := 1) (tgt := 28) dX8_at_1 rfl (fun q => ?_) (fun q => ?_)
  · have h := ite_t q h
    refine V_iconst (v := 0) (pc := 28) dX8_at_28 rfl ?_
    obtain rfl := Option.some.inj h
    exact E_i (pc := 29) dX8_at_29 rfl hp
  · have h := ite_f q h
    refine V_iload_n (i := 1) (pc := 4) dX8_at_4 rfl rfl ?_
    refine V_aload_n (i := 0) (pc := 5) dX8_at_5 rfl rfl ?_
    refine V_getR (b := (this + 1)) (pc := 6) dX8_at_6 fl_Ta_15 h_this rfl rfl ?_
    refine V_alen (k := 4) (pc := 9) dX8_at_9 (kf_8_0 h_this) (Nat.le_of_ble_eq_true rfl) rfl ?_
    refine V_icmp_ge (pc := 10) (tgt := 28) dX8_at_10 rfl (fun q => ?_) (fun q => ?_)
    · have h := ite_t q h
      refine V_iconst (v := 0) (pc := 28) dX8_at_28 rfl ?_
      obtain rfl := Option.some.inj h
      exact E_i (pc := 29) dX8_at_29 rfl hp
    · have h := ite_f q h
      refine V_iload_n (i := 2) (pc := 13) dX8_at_13 rfl rfl ?_
      refine V_if_lt (pc := 14) (tgt := 28) dX8_at_14 rfl (fun q => ?_) (fun q => ?_)
      · have h := ite_t q h
        refine V_iconst (v := 0) (pc := 28) dX8_at_28 rfl ?_
        obtain rfl := Option.some.inj h
        exact E_i (pc := 29) dX8_at_29 rfl hp
      · have h := ite_f q h
        refine V_iload_n (i := 2) (pc := 17) dX8_at_17 rfl rfl ?_
        refine V_aload_n (i := 0) (pc := 18) dX8_at_18 rfl rfl ?_
        refine V_getR (b := (this + 1)) (pc := 19) dX8_at_19 fl_Ta_15 h_this rfl rfl ?_
        refine V_iload_n (i := 1) (pc := 22) dX8_at_22 rfl rfl ?_
        obtain ⟨hg23, h⟩ := gd_e h
        refine V_aald (b := ((this + 1) + (1 + ix v1))) (k := 4) (pc := 23) dX8_at_23 (kf_8_0 h_this) (by decide) rfl hg23 rfl ?_
        refine V_alen (k := 0) (pc := 24) dX8_at_24 (ka24 (kf_8_0 h_this) rfl hg23) (Nat.le_of_ble_eq_true rfl) ((la24 (kf_8_0 h_this) rfl hg23).trans rfl) ?_
        refine V_icmp_lt (pc := 25) (tgt := 30) dX8_at_25 rfl (fun q => ?_) (fun q => ?_)
        · have h := ite_t q h
          refine V_aload_n (i := 0) (pc := 30) dX8_at_30 rfl rfl ?_
          refine V_getR (b := (this + 1)) (pc := 31) dX8_at_31 fl_Ta_15 h_this rfl rfl ?_
          refine V_iload_n (i := 1) (pc := 34) dX8_at_34 rfl rfl ?_
          obtain ⟨hg35, h⟩ := gd_e h
          refine V_aald (b := ((this + 1) + (1 + ix v1))) (k := 4) (pc := 35) dX8_at_35 (kf_8_0 h_this) (by decide) rfl hg35 rfl ?_
          refine V_iload_n (i := 2) (pc := 36) dX8_at_36 rfl rfl ?_
          obtain ⟨hg37, h⟩ := gd_e h
          refine V_iald (pc := 37) dX8_at_37 (ka24 (kf_8_0 h_this) rfl hg35) ((la24 (kf_8_0 h_this) rfl hg35).trans rfl) hg37 ?_
          obtain rfl := Option.some.inj h
          exact E_i (pc := 38) dX8_at_38 rfl hp
        · have h := ite_f q h
          refine V_iconst (v := 0) (pc := 28) dX8_at_28 rfl ?_
          obtain rfl := Option.some.inj h
          exact E_i (pc := 29) dX8_at_29 rfl hp
theorem e_Ta_at {g : GE} {this : Nat} {v1 : Int32} {v2 : Int32} {m : Mem} (h_this : kd this = 9) {x : Int32} (h : Ta_at this v1 v2 m = some x) : Ev g Y_Ta_at [vr this, vi v1, vi v2] m (some (vi x)) m :=
  Ev_of 0 (by decide +kernel) rfl (Nat.le_of_ble_eq_true rfl) rfl (k_Ta_at h_this h ⟨rfl, rfl⟩)
theorem k_Ta_copyFrom_l28 {g : GE} {this : Nat} {v1 : Nat} {v2 : Int32} {v3 : Int32} {m : Mem} (h_this : kd this = 9) (h_v1 : kd v1 = 9) {r : Option AV} {m' : Mem} {x : (Int32 × Mem) ⊕ ((Int32 × Mem) ⊕ (Mem))} (h : Ta_copyFrom_l28 this v1 v2 v3 m = some x) (hp : (Sum.elim (fun s : Int32 × Mem => V g Y_Ta_copyFrom 28 [some (vr this), some (vr v1), some (vi v2), some (vi s.1)] [] s.2 (PM g Y_Ta_copyFrom r m')) (Sum.elim (fun s : Int32 × Mem => V g Y_Ta_copyFrom 18 [some (vr this), some (vr v1), some (vi s.1), none] [] s.2 (PM g Y_Ta_copyFrom r m')) (fun x : Mem => r = none ∧ m' = x))) x) : V g Y_Ta_copyFrom 28 [some (vr this), some (vr v1), some (vi v2), some (vi v3)] [] m (PM g Y_Ta_copyFrom r m') := by
  unfold Ta_copyFrom_l28 at h
  refine V_iload_n (i := 3) (pc := 28) dX8_copyFrom_28 rfl rfl ?_
  refine V_aload_n (i := 0) (pc := 29) dX8_copyFrom_29 rfl rfl ?_
  refine V_getR (b := (this + 1)) (pc := 30) dX8_copyFrom_30 fl_Ta_15 h_this rfl rfl ?_
  refine V_iload_n (i := 2) (pc := 33) dX8_copyFrom_33 rfl rfl ?_
  obtain ⟨hg34, h⟩ := gd_e h
  refine V_aald (b := ((this + 1) + (1 + ix v2))) (k := 4) (pc := 34) dX8_copyFrom_34 (kf_8_0 h_this) (by decide) rfl hg34 rfl ?_
  refine V_alen (k := 0) (pc := 35) dX8_copyFrom_35 (ka24 (kf_8_0 h_this) rfl hg34) (Nat.le_of_ble_eq_true rfl) ((la24 (kf_8_0 h_this) rfl hg34).trans rfl) ?_
  refine V_icmp_ge (pc := 36) (tgt := 59) dX8_copyFrom_36 rfl (fun q => ?_) (fun q => ?_)
  · have h := ite_t q h
    obtain ⟨y2, hu2, rfl⟩ := up_e h
    have h := hu2
    refine V_iinc (i := 2) (v := (v2 + 1)) (ls' := [some (vr this), some (vr v1), some (vi (v2 + 1)), some (vi v3)]) (pc := 59) dX8_copyFrom_59 rfl rfl (Nat.le_of_ble_eq_true rfl) rfl ?_
    refine V_goto (tgt := 18) (pc := 62) dX8_copyFrom_62 rfl ?_
    refine V_sub (ls' := [some (vr this), some (vr v1), some (vi (v2 + 1)), none]) (And.intro rfl (And.intro rfl (And.intro rfl trivial))) ?_
    obtain rfl := Option.some.inj h
    exact hp
  · have h := ite_f q h
    refine V_aload_n (i := 0) (pc := 39) dX8_copyFrom_39 rfl rfl ?_
    refine V_getR (b := (this + 1)) (pc := 40) dX8_copyFrom_40 fl_Ta_15 h_this rfl rfl ?_
    refine V_iload_n (i := 2) (pc := 43) dX8_copyFrom_43 rfl rfl ?_
    obtain ⟨hg44, h⟩ := gd_e h
    refine V_aald (b := ((this + 1) + (1 + ix v2))) (k := 4) (pc := 44) dX8_copyFrom_44 (kf_8_0 h_this) (by decide) rfl hg44 rfl ?_
    refine V_iload_n (i := 3) (pc := 45) dX8_copyFrom_45 rfl rfl ?_
    refine V_aload_n (i := 1) (pc := 46) dX8_copyFrom_46 rfl rfl ?_
    refine V_iload_n (i := 2) (pc := 47) dX8_copyFrom_47 rfl rfl ?_
    refine V_iload_n (i := 3) (pc := 48) dX8_copyFrom_48 rfl rfl ?_
    obtain ⟨r49, e49, h⟩ := bnd h
    refine V_invV1 (c := 8) (pc := 49) dX8_copyFrom_49 (e_Ta_at h_v1 e49) iv_Ta_31 (rm_Ta_copyFrom_Ta_at _ _ _) rfl h_v1 cf_8 rfl (Nat.le_of_ble_eq_true rfl) rfl ?_
    obtain ⟨hg52, h⟩ := gd_e h
    refine V_iast_lt (pc := 52) dX8_copyFrom_52 (ka24 (kf_8_0 h_this) rfl hg44) ((la24 (kf_8_0 h_this) rfl hg44).trans rfl) hg52 h (fun m52 h => ?_)
    refine V_iinc (i := 3) (v := (v3 + 1)) (ls' := [some (vr this), some (vr v1), some (vi v2), some (vi (v3 + 1))]) (pc := 53) dX8_copyFrom_53 rfl rfl (Nat.le_of_ble_eq_true rfl) rfl ?_
    refine V_goto (tgt := 28) (pc := 56) dX8_copyFrom_56 rfl ?_
    obtain rfl := Option.some.inj h
    exact hp
theorem k_Ta_copyFrom_l18 {g : GE} {this : Nat} {v1 : Nat}  {v2 : Int32} {m : Mem} (h_this : kd this = 9) (h_v1 : kd v1 = 9) {r : Option AV} {m' : Mem} {x : (Int32 × Mem) ⊕ (Mem)} (h : Ta_copyFrom_l18 this v1 v2 m = some x) (hp : (Sum.elim (fun s : Int32 × Mem => V g Y_Ta_copyFrom 18 [some (vr this), some (vr v1), some (vi s.1), none] [] s.2 (PM g Y_Ta_copyFrom r m')) (fun x : Mem => r = none ∧ m' = x)) x) : V g Y_Ta_copyFrom 18 [some (vr this), some (vr v1), some (vi v2), none] [] m (PM g Y_Ta_copyFrom r m') := by
  unfold Ta_copyFrom_l18 at h
  refine V_iload_n (i := 2) (pc := 18) dX8_copyFrom_18 rfl rfl ?_
  refine V_aload_n (i := 0) (pc := 19) dX8_copyFrom_19 rfl rfl ?_
  refine V_getI (pc := 20) dX8_copyFrom_20 fl_Ta_20 h_this rfl ?_
  refine V_icmp_ge (pc := 23) (tgt := 65) dX8_copyFrom_23 rfl (fun q => ?_) (fun q => ?_)
  · have h := ite_t q h
    obtain ⟨y1, hu1, rfl⟩ := up_e h
    have h := hu1
    obtain rfl := Option.some.inj h
    exact E_v (pc := 65) dX8_copyFrom_65 rfl hp
  · have h := ite_f q h
    refine V_iconst (v := 0) (pc := 26) dX8_copyFrom_26 rfl ?_
    refine V_istore_n (i := 3) (ls' := [some (vr this), some (vr v1), some (vi v2), some (vi 0)]) (pc := 27) dX8_copyFrom_27 rfl (Nat.le_of_ble_eq_true rfl) rfl ?_
    exact loop_V (A := fun s : Int32 × Mem => V g Y_Ta_copyFrom 28 [some (vr this), some (vr v1), some (vi v2), some (vi s.1)] [] s.2 (PM g Y_Ta_copyFrom r m')) (fun s x h hp => k_Ta_copyFrom_l28 h_this h_v1 h hp) (0, m) _ h hp
theorem k_Ta_copyFrom {g : GE} {this : Nat} {v1 : Nat} {m : Mem} (h_this : kd this = 9) (h_v1 : kd v1 = 9) {r : Option AV} {m' : Mem} {x : Mem} (h : Ta_copyFrom this v1 m = some x) (hp : (fun x : Mem => r = none ∧ m' = x) x) : V g Y_Ta_copyFrom 0 [some (vr this), some (vr v1), none, none] [] m (PM g Y_Ta_copyFrom r m') := by
  unfold Ta_copyFrom at h
  refine V_aload_n (i := 0) (pc := 0) dX8_copyFrom_0 rfl rfl ?_
  refine V_aload_n (i := 1) (pc := 1) dX8_copyFrom_1 rfl rfl ?_
  refine V_getI (pc := 2) dX8_copyFrom_2 fl_Ta_20 h_v1 rfl ?_
  refine V_aload_n (i := 0) (pc := 5) dX8_copyFrom_5 rfl rfl ?_
  refine V_getR (b := (this + 1)) (pc := 6) dX8_copyFrom_6 fl_Ta_15 h_this rfl rfl ?_
  refine V_alen (k := 4) (pc := 9) dX8_copyFrom_9 (kf_8_0 h_this) (Nat.le_of_ble_eq_true rfl) rfl ?_
  refine V_mmin (pc := 10) dX8_copyFrom_10 ma_Ta_28 (rmM_Ta_copyFrom _ _ _) (Nat.le_of_ble_eq_true rfl) ?_
  refine V_putI_lt (pc := 13) dX8_copyFrom_13 fp_Ta_20 h_this rfl rfl rfl h (fun m13 h => ?_)
  refine V_iconst (v := 0) (pc := 16) dX8_copyFrom_16 rfl ?_
  refine V_istore_n (i := 2) (ls' := [some (vr this), some (vr v1), some (vi 0), none]) (pc := 17) dX8_copyFrom_17 rfl (Nat.le_of_ble_eq_true rfl) rfl ?_
  exact loop_V (A := fun s : Int32 × Mem => V g Y_Ta_copyFrom 18 [some (vr this), some (vr v1), some (vi s.1), none] [] s.2 (PM g Y_Ta_copyFrom r m')) (fun s x h hp => k_Ta_copyFrom_l18 h_this h_v1 h hp) (0, m13) _ h hp
theorem e_Ta_copyFrom {g : GE} {this : Nat} {v1 : Nat} {m : Mem} (h_this : kd this = 9) (h_v1 : kd v1 = 9) {x : Mem} (h : Ta_copyFrom this v1 m = some x) : Ev g Y_Ta_copyFrom [vr this, vr v1] m (none) x :=
  Ev_of 2 (by decide +kernel) rfl (Nat.le_of_ble_eq_true rfl) rfl (k_Ta_copyFrom h_this h_v1 h ⟨rfl, rfl⟩)
theorem k_Fl_copyFrom {g : GE} {this : Nat} {v1 : Nat} {m : Mem} (h_this : kd this = 3) (h_v1 : kd v1 = 3) {r : Option AV} {m' : Mem} {x : Mem} (h : Fl_copyFrom this v1 m = some x) (hp : (fun x : Mem => r = none ∧ m' = x) x) : V g Y_Fl_copyFrom 0 [some (vr this), some (vr v1)] [] m (PM g Y_Fl_copyFrom r m') := by
  unfold Fl_copyFrom at h
  refine V_aload_n (i := 0) (pc := 0) dX2_copyFrom_0 rfl rfl ?_
  refine V_aload_n (i := 1) (pc := 1) dX2_copyFrom_1 rfl rfl ?_
  refine V_getI (pc := 2) dX2_copyFrom_2 fl_Fl_29 h_v1 rfl ?_
  refine V_putI_lt (pc := 5) dX2_copyFrom_5 fp_Fl_29 h_this rfl rfl rfl h (fun m5 h => ?_)
  refine V_aload_n (i := 0) (pc := 8) dX2_copyFrom_8 rfl rfl ?_
  refine V_aload_n (i := 1) (pc := 9) dX2_copyFrom_9 rfl rfl ?_
  refine V_getI (pc := 10) dX2_copyFrom_10 fl_Fl_33 h_v1 rfl ?_
  refine V_putI_lt (pc := 13) dX2_copyFrom_13 fp_Fl_33 h_this rfl rfl rfl h (fun m13 h => ?_)
  refine V_aload_n (i := 0) (pc := 16) dX2_copyFrom_16 rfl rfl ?_
  refine V_aload_n (i := 1) (pc := 17) dX2_copyFrom_17 rfl rfl ?_
  refine V_getI (pc := 18) dX2_copyFrom_18 fl_Fl_36 h_v1 rfl ?_
  refine V_putI_lt (pc := 21) dX2_copyFrom_21 fp_Fl_36 h_this rfl rfl rfl h (fun m21 h => ?_)
  refine V_aload_n (i := 0) (pc := 24) dX2_copyFrom_24 rfl rfl ?_
  refine V_aload_n (i := 1) (pc := 25) dX2_copyFrom_25 rfl rfl ?_
  refine V_getI (pc := 26) dX2_copyFrom_26 fl_Fl_39 h_v1 rfl ?_
  refine V_putI_lt (pc := 29) dX2_copyFrom_29 fp_Fl_39 h_this rfl rfl rfl h (fun m29 h => ?_)
  refine V_aload_n (i := 0) (pc := 32) dX2_copyFrom_32 rfl rfl ?_
  refine V_aload_n (i := 1) (pc := 33) dX2_copyFrom_33 rfl rfl ?_
  refine V_getI (pc := 34) dX2_copyFrom_34 fl_Fl_42 h_v1 rfl ?_
  refine V_putI_lt (pc := 37) dX2_copyFrom_37 fp_Fl_42 h_this rfl rfl rfl h (fun m37 h => ?_)
  refine V_aload_n (i := 0) (pc := 40) dX2_copyFrom_40 rfl rfl ?_
  refine V_aload_n (i := 1) (pc := 41) dX2_copyFrom_41 rfl rfl ?_
  refine V_getI (pc := 42) dX2_copyFrom_42 fl_Fl_45 h_v1 rfl ?_
  refine V_putI_lt (pc := 45) dX2_copyFrom_45 fp_Fl_45 h_this rfl rfl rfl h (fun m45 h => ?_)
  refine V_aload_n (i := 0) (pc := 48) dX2_copyFrom_48 rfl rfl ?_
  refine V_aload_n (i := 1) (pc := 49) dX2_copyFrom_49 rfl rfl ?_
  refine V_getI (pc := 50) dX2_copyFrom_50 fl_Fl_48 h_v1 rfl ?_
  refine V_putI_lt (pc := 53) dX2_copyFrom_53 fp_Fl_48 h_this rfl rfl rfl h (fun m53 h => ?_)
  refine V_aload_n (i := 0) (pc := 56) dX2_copyFrom_56 rfl rfl ?_
  refine V_aload_n (i := 1) (pc := 57) dX2_copyFrom_57 rfl rfl ?_
  refine V_getI (pc := 58) dX2_copyFrom_58 fl_Fl_51 h_v1 rfl ?_
  refine V_putI_lt (pc := 61) dX2_copyFrom_61 fp_Fl_51 h_this rfl rfl rfl h (fun m61 h => ?_)
  refine V_aload_n (i := 0) (pc := 64) dX2_copyFrom_64 rfl rfl ?_
  refine V_aload_n (i := 1) (pc := 65) dX2_copyFrom_65 rfl rfl ?_
  refine V_getI (pc := 66) dX2_copyFrom_66 fl_Fl_54 h_v1 rfl ?_
  refine V_putI_lt (pc := 69) dX2_copyFrom_69 fp_Fl_54 h_this rfl rfl rfl h (fun m69 h => ?_)
  refine V_aload_n (i := 0) (pc := 72) dX2_copyFrom_72 rfl rfl ?_
  refine V_aload_n (i := 1) (pc := 73) dX2_copyFrom_73 rfl rfl ?_
  refine V_getI (pc := 74) dX2_copyFrom_74 fl_Fl_57 h_v1 rfl ?_
  refine V_putI_lt (pc := 77) dX2_copyFrom_77 fp_Fl_57 h_this rfl rfl rfl h (fun m77 h => ?_)
  refine V_aload_n (i := 0) (pc := 80) dX2_copyFrom_80 rfl rfl ?_
  refine V_aload_n (i := 1) (pc := 81) dX2_copyFrom_81 rfl rfl ?_
  refine V_getI (pc := 82) dX2_copyFrom_82 fl_Fl_60 h_v1 rfl ?_
  refine V_putI_lt (pc := 85) dX2_copyFrom_85 fp_Fl_60 h_this rfl rfl rfl h (fun m85 h => ?_)
  refine V_aload_n (i := 0) (pc := 88) dX2_copyFrom_88 rfl rfl ?_
  refine V_aload_n (i := 1) (pc := 89) dX2_copyFrom_89 rfl rfl ?_
  refine V_getI (pc := 90) dX2_copyFrom_90 fl_Fl_63 h_v1 rfl ?_
  refine V_putI_lt (pc := 93) dX2_copyFrom_93 fp_Fl_63 h_this rfl rfl rfl h (fun m93 h => ?_)
  refine V_aload_n (i := 0) (pc := 96) dX2_copyFrom_96 rfl rfl ?_
  refine V_aload_n (i := 1) (pc := 97) dX2_copyFrom_97 rfl rfl ?_
  refine V_getI (pc := 98) dX2_copyFrom_98 fl_Fl_66 h_v1 rfl ?_
  refine V_putI_lt (pc := 101) dX2_copyFrom_101 fp_Fl_66 h_this rfl rfl rfl h (fun m101 h => ?_)
  refine V_aload_n (i := 0) (pc := 104) dX2_copyFrom_104 rfl rfl ?_
  refine V_aload_n (i := 1) (pc := 105) dX2_copyFrom_105 rfl rfl ?_
  refine V_getI (pc := 106) dX2_copyFrom_106 fl_Fl_69 h_v1 rfl ?_
  refine V_putI_lt (pc := 109) dX2_copyFrom_109 fp_Fl_69 h_this rfl rfl rfl h (fun m109 h => ?_)
  refine V_aload_n (i := 0) (pc := 112) dX2_copyFrom_112 rfl rfl ?_
  refine V_aload_n (i := 1) (pc := 113) dX2_copyFrom_113 rfl rfl ?_
  refine V_getI (pc := 114) dX2_copyFrom_114 fl_Fl_72 h_v1 rfl ?_
  refine V_putI_lt (pc := 117) dX2_copyFrom_117 fp_Fl_72 h_this rfl rfl rfl h (fun m117 h => ?_)
  refine V_aload_n (i := 0) (pc := 120) dX2_copyFrom_120 rfl rfl ?_
  refine V_getR (b := (this + 1)) (pc := 121) dX2_copyFrom_121 fl_Fl_14 h_this rfl rfl ?_
  refine V_aload_n (i := 1) (pc := 124) dX2_copyFrom_124 rfl rfl ?_
  refine V_getR (b := (v1 + 1)) (pc := 125) dX2_copyFrom_125 fl_Fl_14 h_v1 rfl rfl ?_
  obtain ⟨m128, e128, h⟩ := bnd h
  refine V_invV0 (c := 8) (pc := 128) dX2_copyFrom_128 (e_Ta_copyFrom (kf_2_15 h_this) (kf_2_15 h_v1) e128) iv_Fl_78 (rm_Fl_copyFrom_Ta_copyFrom _ _ _) rfl (kf_2_15 h_this) cf_8 rfl (Nat.le_of_ble_eq_true rfl) rfl ?_
  refine V_aload_n (i := 0) (pc := 131) dX2_copyFrom_131 rfl rfl ?_
  refine V_getR (b := (this + 10)) (pc := 132) dX2_copyFrom_132 fl_Fl_20 h_this rfl rfl ?_
  refine V_aload_n (i := 1) (pc := 135) dX2_copyFrom_135 rfl rfl ?_
  refine V_getR (b := (v1 + 10)) (pc := 136) dX2_copyFrom_136 fl_Fl_20 h_v1 rfl rfl ?_
  obtain ⟨m139, e139, h⟩ := bnd h
  refine V_invV0 (c := 8) (pc := 139) dX2_copyFrom_139 (e_Ta_copyFrom (kf_2_16 h_this) (kf_2_16 h_v1) e139) iv_Fl_78 (rm_Fl_copyFrom_Ta_copyFrom _ _ _) rfl (kf_2_16 h_this) cf_8 rfl (Nat.le_of_ble_eq_true rfl) rfl ?_
  refine V_aload_n (i := 0) (pc := 142) dX2_copyFrom_142 rfl rfl ?_
  refine V_getR (b := (this + 18)) (pc := 143) dX2_copyFrom_143 fl_Fl_23 h_this rfl rfl ?_
  refine V_aload_n (i := 1) (pc := 146) dX2_copyFrom_146 rfl rfl ?_
  refine V_getR (b := (v1 + 18)) (pc := 147) dX2_copyFrom_147 fl_Fl_23 h_v1 rfl rfl ?_
  obtain ⟨m150, e150, h⟩ := bnd h
  refine V_invV0 (c := 8) (pc := 150) dX2_copyFrom_150 (e_Ta_copyFrom (kf_2_17 h_this) (kf_2_17 h_v1) e150) iv_Fl_78 (rm_Fl_copyFrom_Ta_copyFrom _ _ _) rfl (kf_2_17 h_this) cf_8 rfl (Nat.le_of_ble_eq_true rfl) rfl ?_
  obtain rfl := Option.some.inj h
  exact E_v (pc := 153) dX2_copyFrom_153 rfl hp
theorem e_Fl_copyFrom {g : GE} {this : Nat} {v1 : Nat} {m : Mem} (h_this : kd this = 3) (h_v1 : kd v1 = 3) {x : Mem} (h : Fl_copyFrom this v1 m = some x) : Ev g Y_Fl_copyFrom [vr this, vr v1] m (none) x :=
  Ev_of 0 (by decide +kernel) rfl (Nat.le_of_ble_eq_true rfl) rfl (k_Fl_copyFrom h_this h_v1 h ⟨rfl, rfl⟩)
theorem k_PL_isHeap {g : GE} {v0 : Int32} {m : Mem} {r : Option AV} {m' : Mem} {x : Int32} (h : PL_isHeap v0 m = some x) (hp : (fun x : Int32 => r = some (vi x) ∧ m' = m) x) : V g Y_PL_isHeap 0 [some (vi v0)] [] m (PM g Y_PL_isHeap r m') := by
  unfold PL_isHeap at h
  refine V_iload_n (i := 0) (pc := 0) dX10_isHeap_0 rfl rfl ?_
  refine V_if_lt (pc := 1) (tgt := 14) dX10_isHeap_1 rfl (fun q => ?_) (fun q => ?_)
  · have h := ite_t q h
    refine V_iconst (v := 0) (pc := 14) dX10_isHeap_14 rfl ?_
    obtain rfl := Option.some.inj h
    exact E_z (pc := 15) dX10_isHeap_15 rfl rfl hp
  · have h := ite_f q h
    refine V_iload_n (i := 0) (pc := 4) dX10_isHeap_4 rfl rfl ?_
    refine V_bipush (v := 8) (pc := 5) dX10_isHeap_5 rfl ?_
    refine V_icmp_ge (pc := 7) (tgt := 14) dX10_isHeap_7 rfl (fun q => ?_) (fun q => ?_)
    · have h := ite_t q h
      refine V_iconst (v := 0) (pc := 14) dX10_isHeap_14 rfl ?_
      obtain rfl := Option.some.inj h
      exact E_z (pc := 15) dX10_isHeap_15 rfl rfl hp
    · have h := ite_f q h
      refine V_iconst (v := 1) (pc := 10) dX10_isHeap_10 rfl ?_
      refine V_goto (tgt := 15) (pc := 11) dX10_isHeap_11 rfl ?_
      obtain rfl := Option.some.inj h
      exact E_z (pc := 15) dX10_isHeap_15 rfl rfl hp
theorem e_PL_isHeap {g : GE} {v0 : Int32} {m : Mem} {x : Int32} (h : PL_isHeap v0 m = some x) : Ev g Y_PL_isHeap [vi v0] m (some (vi x)) m :=
  Ev_of 0 (by decide +kernel) rfl (Nat.le_of_ble_eq_true rfl) rfl (k_PL_isHeap  h ⟨rfl, rfl⟩)
theorem k_Ca_placeHeap {g : GE} {this : Nat} {v1 : Int32} {v2 : Int32} {v3 : Int32} {m : Mem} (h_this : kd this = 1) {r : Option AV} {m' : Mem} {x : Mem} (h : Ca_placeHeap this v1 v2 v3 m = some x) (hp : (fun x : Mem => r = none ∧ m' = x) x) : V g Y_Ca_placeHeap 0 [some (vr this), some (vi v1), some (vi v2), some (vi v3)] [] m (PM g Y_Ca_placeHeap r m') := by
  unfold Ca_placeHeap at h
  refine V_iload_n (i := 1) (pc := 0) dX0_placeHeap_0 rfl rfl ?_
  obtain ⟨r1, e1, h⟩ := bnd h
  refine V_invSN1 (pc := 1) dX0_placeHeap_1 (e_PL_isHeap  e1) isn_Ca_70 (rm_Ca_placeHeap_PL_isHeap _ _ _) rfl (Nat.le_of_ble_eq_true rfl) rfl ?_
  refine V_if_eq (pc := 4) (tgt := 21) dX0_placeHeap_4 rfl (fun q => ?_) (fun q => ?_)
  · have h := ite_t q h
    obtain rfl := Option.some.inj h
    exact E_v (pc := 21) dX0_placeHeap_21 rfl hp
  · have h := ite_f q h
    refine V_aload_n (i := 0) (pc := 7) dX0_placeHeap_7 rfl rfl ?_
    refine V_getR (b := (this + 25)) (pc := 8) dX0_placeHeap_8 fl_Ca_18 h_this rfl rfl ?_
    refine V_iload_n (i := 1) (pc := 11) dX0_placeHeap_11 rfl rfl ?_
    refine V_iload_n (i := 2) (pc := 12) dX0_placeHeap_12 rfl rfl ?_
    obtain ⟨hg13, h⟩ := gd_e h
    refine V_iast_lt (pc := 13) dX0_placeHeap_13 (kf_0_1 h_this) (af_0_1 h_this) hg13 h (fun m13 h => ?_)
    refine V_aload_n (i := 0) (pc := 14) dX0_placeHeap_14 rfl rfl ?_
    refine V_getR (b := (this + 26)) (pc := 15) dX0_placeHeap_15 fl_Ca_22 h_this rfl rfl ?_
    refine V_iload_n (i := 1) (pc := 18) dX0_placeHeap_18 rfl rfl ?_
    refine V_iload_n (i := 3) (pc := 19) dX0_placeHeap_19 rfl rfl ?_
    obtain ⟨hg20, h⟩ := gd_e h
    refine V_iast_lt (pc := 20) dX0_placeHeap_20 (kf_0_2 h_this) (af_0_2 h_this) hg20 h (fun m20 h => ?_)
    obtain rfl := Option.some.inj h
    exact E_v (pc := 21) dX0_placeHeap_21 rfl hp
theorem e_Ca_placeHeap {g : GE} {this : Nat} {v1 : Int32} {v2 : Int32} {v3 : Int32} {m : Mem} (h_this : kd this = 1) {x : Mem} (h : Ca_placeHeap this v1 v2 v3 m = some x) : Ev g Y_Ca_placeHeap [vr this, vi v1, vi v2, vi v3] m (none) x :=
  Ev_of 0 (by decide +kernel) rfl (Nat.le_of_ble_eq_true rfl) rfl (k_Ca_placeHeap h_this h ⟨rfl, rfl⟩)
theorem k_Ca_takeAway_l9 {g : GE} {this : Nat} {v1 : Int32} {v2 : Int32} {m : Mem} (h_this : kd this = 1) {r : Option AV} {m' : Mem} {x : (Int32 × Mem) ⊕ (Mem)} (h : Ca_takeAway_l9 this v1 v2 m = some x) (hp : (Sum.elim (fun s : Int32 × Mem => V g Y_Ca_takeAway 9 [some (vr this), some (vi v1), some (vi s.1)] [] s.2 (PM g Y_Ca_takeAway r m')) (fun x : Mem => r = none ∧ m' = x)) x) : V g Y_Ca_takeAway 9 [some (vr this), some (vi v1), some (vi v2)] [] m (PM g Y_Ca_takeAway r m') := by
  unfold Ca_takeAway_l9 at h
  refine V_iload_n (i := 2) (pc := 9) dX0_takeAway_9 rfl rfl ?_
  refine V_bipush (v := 6) (pc := 10) dX0_takeAway_10 rfl ?_
  refine V_icmp_ge (pc := 12) (tgt := 37) dX0_takeAway_12 rfl (fun q => ?_) (fun q => ?_)
  · have h := ite_t q h
    obtain ⟨y1, hu1, rfl⟩ := up_e h
    have h := hu1
    obtain rfl := Option.some.inj h
    exact E_v (pc := 37) dX0_takeAway_37 rfl hp
  · have h := ite_f q h
    refine V_iload_n (i := 1) (pc := 15) dX0_takeAway_15 rfl rfl ?_
    obtain ⟨r16, e16, h⟩ := bnd h
    refine V_invSN1 (pc := 16) dX0_takeAway_16 (e_PL_isHeap  e16) isn_Ca_70 (rm_Ca_takeAway_PL_isHeap _ _ _) rfl (Nat.le_of_ble_eq_true rfl) rfl ?_
    refine V_if_eq (pc := 19) (tgt := 37) dX0_takeAway_19 rfl (fun q => ?_) (fun q => ?_)
    · have h := ite_t q h
      obtain ⟨y2, hu2, rfl⟩ := up_e h
      have h := hu2
      obtain rfl := Option.some.inj h
      exact E_v (pc := 37) dX0_takeAway_37 rfl hp
    · have h := ite_f q h
      refine V_aload_n (i := 0) (pc := 22) dX0_takeAway_22 rfl rfl ?_
      refine V_getR (b := (this + 27)) (pc := 23) dX0_takeAway_23 fl_Ca_27 h_this rfl rfl ?_
      refine V_iload_n (i := 1) (pc := 26) dX0_takeAway_26 rfl rfl ?_
      obtain ⟨hg27, h⟩ := gd_e h
      refine V_aald (b := ((this + 27) + (1 + ix v1))) (k := 4) (pc := 27) dX0_takeAway_27 (kf_0_3 h_this) (by decide) (af_0_3 h_this) hg27 rfl ?_
      refine V_iload_n (i := 2) (pc := 28) dX0_takeAway_28 rfl rfl ?_
      refine V_iconst (v := 0) (pc := 29) dX0_takeAway_29 rfl ?_
      obtain ⟨hg30, h⟩ := gd_e h
      refine V_iast_lt (pc := 30) dX0_takeAway_30 (ka24 (kf_0_3 h_this) (af_0_3 h_this) hg27) ((la24 (kf_0_3 h_this) (af_0_3 h_this) hg27).trans (ag_0_3 h_this)) hg30 h (fun m30 h => ?_)
      refine V_iinc (i := 2) (v := (v2 + 1)) (ls' := [some (vr this), some (vi v1), some (vi (v2 + 1))]) (pc := 31) dX0_takeAway_31 rfl rfl (Nat.le_of_ble_eq_true rfl) rfl ?_
      refine V_goto (tgt := 9) (pc := 34) dX0_takeAway_34 rfl ?_
      obtain rfl := Option.some.inj h
      exact hp
theorem k_Ca_takeAway {g : GE} {this : Nat} {v1 : Int32} {m : Mem} (h_this : kd this = 1) {r : Option AV} {m' : Mem} {x : Mem} (h : Ca_takeAway this v1 m = some x) (hp : (fun x : Mem => r = none ∧ m' = x) x) : V g Y_Ca_takeAway 0 [some (vr this), some (vi v1), none] [] m (PM g Y_Ca_takeAway r m') := by
  unfold Ca_takeAway at h
  refine V_aload_n (i := 0) (pc := 0) dX0_takeAway_0 rfl rfl ?_
  refine V_iload_n (i := 1) (pc := 1) dX0_takeAway_1 rfl rfl ?_
  refine V_iconst (v := (-1)) (pc := 2) dX0_takeAway_2 rfl ?_
  refine V_iconst (v := 0) (pc := 3) dX0_takeAway_3 rfl ?_
  obtain ⟨m4, e4, h⟩ := bnd h
  refine V_invV0 (c := 0) (pc := 4) dX0_takeAway_4 (e_Ca_placeHeap h_this e4) iv_Ca_67 (rm_Ca_takeAway_Ca_placeHeap _ _ _) rfl h_this cf_0 rfl (Nat.le_of_ble_eq_true rfl) rfl ?_
  refine V_iconst (v := 0) (pc := 7) dX0_takeAway_7 rfl ?_
  refine V_istore_n (i := 2) (ls' := [some (vr this), some (vi v1), some (vi 0)]) (pc := 8) dX0_takeAway_8 rfl (Nat.le_of_ble_eq_true rfl) rfl ?_
  exact loop_V (A := fun s : Int32 × Mem => V g Y_Ca_takeAway 9 [some (vr this), some (vi v1), some (vi s.1)] [] s.2 (PM g Y_Ca_takeAway r m')) (fun s x h hp => k_Ca_takeAway_l9 h_this h hp) (0, m4) _ h hp
theorem e_Ca_takeAway {g : GE} {this : Nat} {v1 : Int32} {m : Mem} (h_this : kd this = 1) {x : Mem} (h : Ca_takeAway this v1 m = some x) : Ev g Y_Ca_takeAway [vr this, vi v1] m (none) x :=
  Ev_of 1 (by decide +kernel) rfl (Nat.le_of_ble_eq_true rfl) rfl (k_Ca_takeAway h_this h ⟨rfl, rfl⟩)
theorem k_PL_isGroup {g : GE} {v0 : Int32} {m : Mem} {r : Option AV} {m' : Mem} {x : Int32} (h : PL_isGroup v0 m = some x) (hp : (fun x : Int32 => r = some (vi x) ∧ m' = m) x) : V g Y_PL_isGroup 0 [some (vi v0)] [] m (PM g Y_PL_isGroup r m') := by
  unfold PL_isGroup at h
  refine V_iload_n (i := 0) (pc := 0) dX10_isGroup_0 rfl rfl ?_
  refine V_if_lt (pc := 1) (tgt := 13) dX10_isGroup_1 rfl (fun q => ?_) (fun q => ?_)
  · have h := ite_t q h
    refine V_iconst (v := 0) (pc := 13) dX10_isGroup_13 rfl ?_
    obtain rfl := Option.some.inj h
    exact E_z (pc := 14) dX10_isGroup_14 rfl rfl hp
  · have h := ite_f q h
    refine V_iload_n (i := 0) (pc := 4) dX10_isGroup_4 rfl rfl ?_
    refine V_iconst (v := 4) (pc := 5) dX10_isGroup_5 rfl ?_
    refine V_icmp_ge (pc := 6) (tgt := 13) dX10_isGroup_6 rfl (fun q => ?_) (fun q => ?_)
    · have h := ite_t q h
      refine V_iconst (v := 0) (pc := 13) dX10_isGroup_13 rfl ?_
      obtain rfl := Option.some.inj h
      exact E_z (pc := 14) dX10_isGroup_14 rfl rfl hp
    · have h := ite_f q h
      refine V_iconst (v := 1) (pc := 9) dX10_isGroup_9 rfl ?_
      refine V_goto (tgt := 14) (pc := 10) dX10_isGroup_10 rfl ?_
      obtain rfl := Option.some.inj h
      exact E_z (pc := 14) dX10_isGroup_14 rfl rfl hp
theorem e_PL_isGroup {g : GE} {v0 : Int32} {m : Mem} {x : Int32} (h : PL_isGroup v0 m = some x) : Ev g Y_PL_isGroup [vi v0] m (some (vi x)) m :=
  Ev_of 0 (by decide +kernel) rfl (Nat.le_of_ble_eq_true rfl) rfl (k_PL_isGroup  h ⟨rfl, rfl⟩)
theorem k_Ca_placeGroup {g : GE} {this : Nat} {v1 : Int32} {v2 : Int32} {v3 : Int32} {m : Mem} (h_this : kd this = 1) {r : Option AV} {m' : Mem} {x : Mem} (h : Ca_placeGroup this v1 v2 v3 m = some x) (hp : (fun x : Mem => r = none ∧ m' = x) x) : V g Y_Ca_placeGroup 0 [some (vr this), some (vi v1), some (vi v2), some (vi v3)] [] m (PM g Y_Ca_placeGroup r m') := by
  unfold Ca_placeGroup at h
  refine V_iload_n (i := 1) (pc := 0) dX0_placeGroup_0 rfl rfl ?_
  obtain ⟨r1, e1, h⟩ := bnd h
  refine V_invSN1 (pc := 1) dX0_placeGroup_1 (e_PL_isGroup  e1) isn_Ca_74 (rm_Ca_placeGroup_PL_isGroup _ _ _) rfl (Nat.le_of_ble_eq_true rfl) rfl ?_
  refine V_if_eq (pc := 4) (tgt := 21) dX0_placeGroup_4 rfl (fun q => ?_) (fun q => ?_)
  · have h := ite_t q h
    obtain rfl := Option.some.inj h
    exact E_v (pc := 21) dX0_placeGroup_21 rfl hp
  · have h := ite_f q h
    refine V_aload_n (i := 0) (pc := 7) dX0_placeGroup_7 rfl rfl ?_
    refine V_getR (b := (this + 36)) (pc := 8) dX0_placeGroup_8 fl_Ca_30 h_this rfl rfl ?_
    refine V_iload_n (i := 1) (pc := 11) dX0_placeGroup_11 rfl rfl ?_
    refine V_iload_n (i := 2) (pc := 12) dX0_placeGroup_12 rfl rfl ?_
    obtain ⟨hg13, h⟩ := gd_e h
    refine V_iast_lt (pc := 13) dX0_placeGroup_13 (kf_0_4 h_this) (af_0_4 h_this) hg13 h (fun m13 h => ?_)
    refine V_aload_n (i := 0) (pc := 14) dX0_placeGroup_14 rfl rfl ?_
    refine V_getR (b := (this + 37)) (pc := 15) dX0_placeGroup_15 fl_Ca_33 h_this rfl rfl ?_
    refine V_iload_n (i := 1) (pc := 18) dX0_placeGroup_18 rfl rfl ?_
    refine V_iload_n (i := 3) (pc := 19) dX0_placeGroup_19 rfl rfl ?_
    obtain ⟨hg20, h⟩ := gd_e h
    refine V_iast_lt (pc := 20) dX0_placeGroup_20 (kf_0_5 h_this) (af_0_5 h_this) hg20 h (fun m20 h => ?_)
    obtain rfl := Option.some.inj h
    exact E_v (pc := 21) dX0_placeGroup_21 rfl hp
theorem e_Ca_placeGroup {g : GE} {this : Nat} {v1 : Int32} {v2 : Int32} {v3 : Int32} {m : Mem} (h_this : kd this = 1) {x : Mem} (h : Ca_placeGroup this v1 v2 v3 m = some x) : Ev g Y_Ca_placeGroup [vr this, vi v1, vi v2, vi v3] m (none) x :=
  Ev_of 0 (by decide +kernel) rfl (Nat.le_of_ble_eq_true rfl) rfl (k_Ca_placeGroup h_this h ⟨rfl, rfl⟩)
theorem k_Ca_begin_l75 {g : GE} {this : Nat} {v1 : Nat}  {v2 : Int32} {m : Mem} (h_this : kd this = 1) (h_v1 : kd v1 = 3) {r : Option AV} {m' : Mem} {x : (Int32 × Mem) ⊕ (Mem)} (h : Ca_begin_l75 this v1 v2 m = some x) (hp : (Sum.elim (fun s : Int32 × Mem => V g Y_Ca_begin 75 [some (vr this), none, some (vi s.1)] [] s.2 (PM g Y_Ca_begin r m')) (fun x : Mem => r = none ∧ m' = x)) x) : V g Y_Ca_begin 75 [some (vr this), none, some (vi v2)] [] m (PM g Y_Ca_begin r m') := by
  unfold Ca_begin_l75 at h
  refine V_iload_n (i := 2) (pc := 75) dX0_begin_75 rfl rfl ?_
  refine V_bipush (v := 7) (pc := 76) dX0_begin_76 rfl ?_
  refine V_icmp_ge (pc := 78) (tgt := 94) dX0_begin_78 rfl (fun q => ?_) (fun q => ?_)
  · have h := ite_t q h
    obtain ⟨y3, hu3, rfl⟩ := up_e h
    have h := hu3
    refine V_aload_n (i := 0) (pc := 94) dX0_begin_94 rfl rfl ?_
    refine V_iconst (v := 0) (pc := 95) dX0_begin_95 rfl ?_
    refine V_putI_lt (pc := 96) dX0_begin_96 fp_Ca_64 h_this rfl rfl rfl h (fun m96 h => ?_)
    obtain rfl := Option.some.inj h
    exact E_v (pc := 99) dX0_begin_99 rfl hp
  · have h := ite_f q h
    refine V_aload_n (i := 0) (pc := 81) dX0_begin_81 rfl rfl ?_
    refine V_getR (b := (this + 39)) (pc := 82) dX0_begin_82 fl_Ca_39 h_this rfl rfl ?_
    refine V_iload_n (i := 2) (pc := 85) dX0_begin_85 rfl rfl ?_
    refine V_iconst (v := 0) (pc := 86) dX0_begin_86 rfl ?_
    obtain ⟨hg87, h⟩ := gd_e h
    refine V_iast_lt (pc := 87) dX0_begin_87 (kf_0_8 h_this) (af_0_8 h_this) hg87 h (fun m87 h => ?_)
    refine V_iinc (i := 2) (v := (v2 + 1)) (ls' := [some (vr this), none, some (vi (v2 + 1))]) (pc := 88) dX0_begin_88 rfl rfl (Nat.le_of_ble_eq_true rfl) rfl ?_
    refine V_goto (tgt := 75) (pc := 91) dX0_begin_91 rfl ?_
    obtain rfl := Option.some.inj h
    exact hp
theorem k_Ca_begin_b61 {g : GE} {this : Nat} {v1 : Nat} {v2 : Int32} {k1 : Int32} {k2 : Int32}  {m : Mem} (h_this : kd this = 1) (h_v1 : kd v1 = 3) {r : Option AV} {m' : Mem} {x : (Int32 × Mem) ⊕ (Mem)} (h : Ca_begin_b61 this v1 v2 k1 k2 m = some x) (hp : (Sum.elim (fun s : Int32 × Mem => V g Y_Ca_begin 29 [some (vr this), none, some (vi s.1)] [] s.2 (PM g Y_Ca_begin r m')) (fun x : Mem => r = none ∧ m' = x)) x) : V g Y_Ca_begin 61 [some (vr this), none, some (vi v2)] [vi k2, vi k1, vr (this + 38)] m (PM g Y_Ca_begin r m') := by
  unfold Ca_begin_b61 at h
  obtain ⟨hg61, h⟩ := gd_e h
  refine V_iast_lt (pc := 61) dX0_begin_61 (kf_0_6 h_this) (af_0_6 h_this) hg61 h (fun m61 h => ?_)
  refine V_iinc (i := 2) (v := (v2 + 1)) (ls' := [some (vr this), none, some (vi (v2 + 1))]) (pc := 62) dX0_begin_62 rfl rfl (Nat.le_of_ble_eq_true rfl) rfl ?_
  refine V_goto (tgt := 29) (pc := 65) dX0_begin_65 rfl ?_
  obtain rfl := Option.some.inj h
  exact hp
theorem k_Ca_begin_l29 {g : GE} {this : Nat} {v1 : Nat}  {v2 : Int32} {m : Mem} (h_this : kd this = 1) (h_v1 : kd v1 = 3) {r : Option AV} {m' : Mem} {x : (Int32 × Mem) ⊕ (Mem)} (h : Ca_begin_l29 this v1 v2 m = some x) (hp : (Sum.elim (fun s : Int32 × Mem => V g Y_Ca_begin 29 [some (vr this), none, some (vi s.1)] [] s.2 (PM g Y_Ca_begin r m')) (fun x : Mem => r = none ∧ m' = x)) x) : V g Y_Ca_begin 29 [some (vr this), none, some (vi v2)] [] m (PM g Y_Ca_begin r m') := by
  unfold Ca_begin_l29 at h
  refine V_iload_n (i := 2) (pc := 29) dX0_begin_29 rfl rfl ?_
  refine V_iconst (v := 4) (pc := 30) dX0_begin_30 rfl ?_
  refine V_icmp_ge (pc := 31) (tgt := 68) dX0_begin_31 rfl (fun q => ?_) (fun q => ?_)
  · have h := ite_t q h
    obtain ⟨y2, hu2, rfl⟩ := up_e h
    have h := hu2
    refine V_aload_n (i := 0) (pc := 68) dX0_begin_68 rfl rfl ?_
    refine V_iconst (v := 0) (pc := 69) dX0_begin_69 rfl ?_
    refine V_putI_lt (pc := 70) dX0_begin_70 fp_Ca_61 h_this rfl rfl rfl h (fun m70 h => ?_)
    refine V_iconst (v := 0) (pc := 73) dX0_begin_73 rfl ?_
    refine V_istore_n (i := 2) (ls' := [some (vr this), none, some (vi 0)]) (pc := 74) dX0_begin_74 rfl (Nat.le_of_ble_eq_true rfl) rfl ?_
    exact loop_V (A := fun s : Int32 × Mem => V g Y_Ca_begin 75 [some (vr this), none, some (vi s.1)] [] s.2 (PM g Y_Ca_begin r m')) (fun s x h hp => k_Ca_begin_l75 h_this h_v1 h hp) (0, m70) _ h hp
  · have h := ite_f q h
    refine V_aload_n (i := 0) (pc := 34) dX0_begin_34 rfl rfl ?_
    refine V_iload_n (i := 2) (pc := 35) dX0_begin_35 rfl rfl ?_
    refine V_iconst (v := 0) (pc := 36) dX0_begin_36 rfl ?_
    refine V_iconst (v := 0) (pc := 37) dX0_begin_37 rfl ?_
    obtain ⟨m38, e38, h⟩ := bnd h
    refine V_invV0 (c := 0) (pc := 38) dX0_begin_38 (e_Ca_placeGroup h_this e38) iv_Ca_53 (rm_Ca_begin_Ca_placeGroup _ _ _) rfl h_this cf_0 rfl (Nat.le_of_ble_eq_true rfl) rfl ?_
    refine V_aload_n (i := 0) (pc := 41) dX0_begin_41 rfl rfl ?_
    refine V_getR (b := (this + 38)) (pc := 42) dX0_begin_42 fl_Ca_36 h_this rfl rfl ?_
    refine V_iload_n (i := 2) (pc := 45) dX0_begin_45 rfl rfl ?_
    refine V_iload_n (i := 2) (pc := 46) dX0_begin_46 rfl rfl ?_
    refine V_if_ne (pc := 47) (tgt := 60) dX0_begin_47 rfl (fun q => ?_) (fun q => ?_)
    · have h := ite_f q h
      refine V_iconst (v := 0) (pc := 60) dX0_begin_60 rfl ?_
      exact k_Ca_begin_b61 h_this h_v1 h hp
    · have h := ite_t q h
      refine V_aload_n (i := 0) (pc := 50) dX0_begin_50 rfl rfl ?_
      refine V_getR (b := (this + 1)) (pc := 51) dX0_begin_51 fl_Ca_12 h_this rfl rfl ?_
      refine V_getI (pc := 54) dX0_begin_54 fl_Ca_57 (kf_0_0 h_this) rfl ?_
      refine V_goto (tgt := 61) (pc := 57) dX0_begin_57 rfl ?_
      exact k_Ca_begin_b61 h_this h_v1 h hp
theorem k_Ca_begin_l10 {g : GE} {this : Nat} {v1 : Nat}  {v2 : Int32} {m : Mem} (h_this : kd this = 1) (h_v1 : kd v1 = 3) {r : Option AV} {m' : Mem} {x : (Int32 × Mem) ⊕ (Mem)} (h : Ca_begin_l10 this v1 v2 m = some x) (hp : (Sum.elim (fun s : Int32 × Mem => V g Y_Ca_begin 10 [some (vr this), none, some (vi s.1)] [] s.2 (PM g Y_Ca_begin r m')) (fun x : Mem => r = none ∧ m' = x)) x) : V g Y_Ca_begin 10 [some (vr this), none, some (vi v2)] [] m (PM g Y_Ca_begin r m') := by
  unfold Ca_begin_l10 at h
  refine V_iload_n (i := 2) (pc := 10) dX0_begin_10 rfl rfl ?_
  refine V_bipush (v := 8) (pc := 11) dX0_begin_11 rfl ?_
  refine V_icmp_ge (pc := 13) (tgt := 27) dX0_begin_13 rfl (fun q => ?_) (fun q => ?_)
  · have h := ite_t q h
    obtain ⟨y1, hu1, rfl⟩ := up_e h
    have h := hu1
    refine V_iconst (v := 0) (pc := 27) dX0_begin_27 rfl ?_
    refine V_istore_n (i := 2) (ls' := [some (vr this), none, some (vi 0)]) (pc := 28) dX0_begin_28 rfl (Nat.le_of_ble_eq_true rfl) rfl ?_
    exact loop_V (A := fun s : Int32 × Mem => V g Y_Ca_begin 29 [some (vr this), none, some (vi s.1)] [] s.2 (PM g Y_Ca_begin r m')) (fun s x h hp => k_Ca_begin_l29 h_this h_v1 h hp) (0, m) _ h hp
  · have h := ite_f q h
    refine V_aload_n (i := 0) (pc := 16) dX0_begin_16 rfl rfl ?_
    refine V_iload_n (i := 2) (pc := 17) dX0_begin_17 rfl rfl ?_
    obtain ⟨m18, e18, h⟩ := bnd h
    refine V_invV0 (c := 0) (pc := 18) dX0_begin_18 (e_Ca_takeAway h_this e18) iv_Ca_49 (rm_Ca_begin_Ca_takeAway _ _ _) rfl h_this cf_0 rfl (Nat.le_of_ble_eq_true rfl) rfl ?_
    refine V_iinc (i := 2) (v := (v2 + 1)) (ls' := [some (vr this), none, some (vi (v2 + 1))]) (pc := 21) dX0_begin_21 rfl rfl (Nat.le_of_ble_eq_true rfl) rfl ?_
    refine V_goto (tgt := 10) (pc := 24) dX0_begin_24 rfl ?_
    obtain rfl := Option.some.inj h
    exact hp
theorem k_Ca_begin {g : GE} {this : Nat} {v1 : Nat} {m : Mem} (h_this : kd this = 1) (h_v1 : kd v1 = 3) {r : Option AV} {m' : Mem} {x : Mem} (h : Ca_begin this v1 m = some x) (hp : (fun x : Mem => r = none ∧ m' = x) x) : V g Y_Ca_begin 0 [some (vr this), some (vr v1), none] [] m (PM g Y_Ca_begin r m') := by
  unfold Ca_begin at h
  refine V_aload_n (i := 0) (pc := 0) dX0_begin_0 rfl rfl ?_
  refine V_getR (b := (this + 1)) (pc := 1) dX0_begin_1 fl_Ca_12 h_this rfl rfl ?_
  refine V_aload_n (i := 1) (pc := 4) dX0_begin_4 rfl rfl ?_
  obtain ⟨m5, e5, h⟩ := bnd h
  refine V_invV0 (c := 2) (pc := 5) dX0_begin_5 (e_Fl_copyFrom (kf_0_0 h_this) h_v1 e5) iv_Ca_45 (rm_Ca_begin_Fl_copyFrom _ _ _) rfl (kf_0_0 h_this) cf_2 rfl (Nat.le_of_ble_eq_true rfl) rfl ?_
  refine V_iconst (v := 0) (pc := 8) dX0_begin_8 rfl ?_
  refine V_istore_n (i := 2) (ls' := [some (vr this), some (vr v1), some (vi 0)]) (pc := 9) dX0_begin_9 rfl (Nat.le_of_ble_eq_true rfl) rfl ?_
  refine V_sub (ls' := [some (vr this), none, some (vi 0)]) (And.intro rfl (And.intro rfl trivial)) ?_
  exact loop_V (A := fun s : Int32 × Mem => V g Y_Ca_begin 10 [some (vr this), none, some (vi s.1)] [] s.2 (PM g Y_Ca_begin r m')) (fun s x h hp => k_Ca_begin_l10 h_this h_v1 h hp) (0, m5) _ h hp
theorem e_Ca_begin {g : GE} {this : Nat} {v1 : Nat} {m : Mem} (h_this : kd this = 1) (h_v1 : kd v1 = 3) {x : Mem} (h : Ca_begin this v1 m = some x) : Ev g Y_Ca_begin [vr this, vr v1] m (none) x :=
  Ev_of 1 (by decide +kernel) rfl (Nat.le_of_ble_eq_true rfl) rfl (k_Ca_begin h_this h_v1 h ⟨rfl, rfl⟩)
theorem k_PL_floe {g : GE} {this : Nat} {m : Mem} (h_this : kd this = 11) {r : Option AV} {m' : Mem} {x : Int32 × Mem} (h : PL_floe this m = some x) (hp : (fun x : Int32 × Mem => r = some (vi x.1) ∧ m' = x.2) x) : V g Y_PL_floe 0 [some (vr this)] [] m (PM g Y_PL_floe r m') := by
  unfold PL_floe at h
  refine V_aload_n (i := 0) (pc := 0) dX10_floe_0 rfl rfl ?_
  refine V_getR (b := (this + 1)) (pc := 1) dX10_floe_1 fl_PL_10 h_this rfl rfl ?_
  obtain ⟨m4, e4, h⟩ := bnd h
  refine V_invV0 (c := 5) (pc := 4) dX10_floe_4 (e_Re_read (kf_10_0 h_this) e4) iv_PL_85 (rm_PL_floe_Re_read _ _ _) rfl (kf_10_0 h_this) cf_5 rfl (Nat.le_of_ble_eq_true rfl) rfl ?_
  refine V_aload_n (i := 0) (pc := 7) dX10_floe_7 rfl rfl ?_
  refine V_getR (b := (this + 1)) (pc := 8) dX10_floe_8 fl_PL_10 h_this rfl rfl ?_
  refine V_getI (pc := 11) dX10_floe_11 fl_PL_88 (kf_10_0 h_this) rfl ?_
  refine V_if_eq (pc := 14) (tgt := 20) dX10_floe_14 rfl (fun q => ?_) (fun q => ?_)
  · have h := ite_t q h
    refine V_aload_n (i := 0) (pc := 20) dX10_floe_20 rfl rfl ?_
    refine V_getR (b := (this + 27)) (pc := 21) dX10_floe_21 fl_PL_19 h_this rfl rfl ?_
    refine V_aload_n (i := 0) (pc := 24) dX10_floe_24 rfl rfl ?_
    refine V_getR (b := (this + 1)) (pc := 25) dX10_floe_25 fl_PL_10 h_this rfl rfl ?_
    refine V_getR (b := (this + 3)) (pc := 28) dX10_floe_28 fl_PL_91 (kf_10_0 h_this) rfl rfl ?_
    obtain ⟨m31, e31, h⟩ := bnd h
    refine V_invV0 (c := 0) (pc := 31) dX10_floe_31 (e_Ca_begin (kf_10_1 h_this) (kf_5_2 (kf_10_0 h_this)) e31) iv_PL_95 (rm_PL_floe_Ca_begin _ _ _) rfl (kf_10_1 h_this) cf_0 rfl (Nat.le_of_ble_eq_true rfl) rfl ?_
    refine V_aload_n (i := 0) (pc := 34) dX10_floe_34 rfl rfl ?_
    refine V_iconst (v := 0) (pc := 35) dX10_floe_35 rfl ?_
    refine V_putI_lt (pc := 36) dX10_floe_36 fp_PL_99 h_this rfl rfl rfl h (fun m36 h => ?_)
    refine V_aload_n (i := 0) (pc := 39) dX10_floe_39 rfl rfl ?_
    refine V_getR (b := (this + 27)) (pc := 40) dX10_floe_40 fl_PL_19 h_this rfl rfl ?_
    refine V_getR (b := (this + 28)) (pc := 43) dX10_floe_43 fl_PL_102 (kf_10_1 h_this) rfl rfl ?_
    refine V_getI (pc := 46) dX10_floe_46 fl_PL_105 (kf_0_0 (kf_10_1 h_this)) rfl ?_
    obtain rfl := Option.some.inj h
    exact E_i (pc := 49) dX10_floe_49 rfl hp
  · have h := ite_f q h
    refine V_bipush (v := (-4)) (pc := 17) dX10_floe_17 rfl ?_
    obtain rfl := Option.some.inj h
    exact E_i (pc := 19) dX10_floe_19 rfl hp
theorem e_PL_floe {g : GE} {this : Nat} {m : Mem} (h_this : kd this = 11) {x : Int32 × Mem} (h : PL_floe this m = some x) : Ev g Y_PL_floe [vr this] m (some (vi x.1)) x.2 :=
  Ev_of 0 (by decide +kernel) rfl (Nat.le_of_ble_eq_true rfl) rfl (k_PL_floe h_this h ⟨rfl, rfl⟩)
theorem k_PL_fault {g : GE} {this : Nat} {v1 : Int32} {m : Mem} (h_this : kd this = 11) {r : Option AV} {m' : Mem} {x : Int32} (h : PL_fault this v1 m = some x) (hp : (fun x : Int32 => r = some (vi x) ∧ m' = m) x) : V g Y_PL_fault 0 [some (vr this), some (vi v1)] [] m (PM g Y_PL_fault r m') := by
  unfold PL_fault at h
  refine V_iload_n (i := 1) (pc := 0) dX10_fault_0 rfl rfl ?_
  by_cases q : v1 = 0
  · have h := ite_t q h
    refine V_lookup (tgt := 28) (pc := 1) dX10_fault_1 (by decide) (by first | (rw [q]; done) | (rw [q]; rfl)) rfl ?_
    refine V_aload_n (i := 0) (pc := 28) dX10_fault_28 rfl rfl ?_
    refine V_getR (b := (this + 1)) (pc := 29) dX10_fault_29 fl_PL_10 h_this rfl rfl ?_
    refine V_getI (pc := 32) dX10_fault_32 fl_PL_88 (kf_10_0 h_this) rfl ?_
    obtain rfl := Option.some.inj h
    exact E_i (pc := 35) dX10_fault_35 rfl hp
  · have q0 := q
    have h := ite_f q h
    by_cases q : v1 = 1
    · have h := ite_t q h
      refine V_lookup (tgt := 36) (pc := 1) dX10_fault_1 (by decide) (by first | (rw [q]; done) | (rw [q]; rfl)) rfl ?_
      refine V_aload_n (i := 0) (pc := 36) dX10_fault_36 rfl rfl ?_
      refine V_getR (b := (this + 1)) (pc := 37) dX10_fault_37 fl_PL_10 h_this rfl rfl ?_
      refine V_getI (pc := 40) dX10_fault_40 fl_PL_110 (kf_10_0 h_this) rfl ?_
      obtain rfl := Option.some.inj h
      exact E_i (pc := 43) dX10_fault_43 rfl hp
    · have q1 := q
      have h := ite_f q h
      refine V_lookup (tgt := 44) (pc := 1) dX10_fault_1 (by decide) (lk_out_2 q0 q1) rfl ?_
      refine V_iconst (v := (-1)) (pc := 44) dX10_fault_44 rfl ?_
      obtain rfl := Option.some.inj h
      exact E_i (pc := 45) dX10_fault_45 rfl hp
theorem e_PL_fault {g : GE} {this : Nat} {v1 : Int32} {m : Mem} (h_this : kd this = 11) {x : Int32} (h : PL_fault this v1 m = some x) : Ev g Y_PL_fault [vr this, vi v1] m (some (vi x)) m :=
  Ev_of 0 (by decide +kernel) rfl (Nat.le_of_ble_eq_true rfl) rfl (k_PL_fault h_this h ⟨rfl, rfl⟩)
theorem k_Fl_hasCell {g : GE} {this : Nat} {v1 : Int32} {v2 : Int32} {m : Mem} (h_this : kd this = 3) {r : Option AV} {m' : Mem} {x : Int32} (h : Fl_hasCell this v1 v2 m = some x) (hp : (fun x : Int32 => r = some (vi x) ∧ m' = m) x) : V g Y_Fl_hasCell 0 [some (vr this), some (vi v1), some (vi v2)] [] m (PM g Y_Fl_hasCell r m') := by
  unfold Fl_hasCell at h
  refine V_iload_n (i := 1) (pc := 0) dX2_hasCell_0 rfl rfl ?_
  refine V_if_lt (pc := 1) (tgt := 28) dX2_hasCell_1 rfl (fun q => ?_) (fun q => ?_)
  · have h := ite_t q h
    refine V_iconst (v := 0) (pc := 28) dX2_hasCell_28 rfl ?_
    obtain rfl := Option.some.inj h
    exact E_z (pc := 29) dX2_hasCell_29 rfl rfl hp
  · have h := ite_f q h
    refine V_iload_n (i := 1) (pc := 4) dX2_hasCell_4 rfl rfl ?_
    refine V_aload_n (i := 0) (pc := 5) dX2_hasCell_5 rfl rfl ?_
    refine V_getI (pc := 6) dX2_hasCell_6 fl_Fl_29 h_this rfl ?_
    refine V_icmp_ge (pc := 9) (tgt := 28) dX2_hasCell_9 rfl (fun q => ?_) (fun q => ?_)
    · have h := ite_t q h
      refine V_iconst (v := 0) (pc := 28) dX2_hasCell_28 rfl ?_
      obtain rfl := Option.some.inj h
      exact E_z (pc := 29) dX2_hasCell_29 rfl rfl hp
    · have h := ite_f q h
      refine V_iload_n (i := 2) (pc := 12) dX2_hasCell_12 rfl rfl ?_
      refine V_if_lt (pc := 13) (tgt := 28) dX2_hasCell_13 rfl (fun q => ?_) (fun q => ?_)
      · have h := ite_t q h
        refine V_iconst (v := 0) (pc := 28) dX2_hasCell_28 rfl ?_
        obtain rfl := Option.some.inj h
        exact E_z (pc := 29) dX2_hasCell_29 rfl rfl hp
      · have h := ite_f q h
        refine V_iload_n (i := 2) (pc := 16) dX2_hasCell_16 rfl rfl ?_
        refine V_aload_n (i := 0) (pc := 17) dX2_hasCell_17 rfl rfl ?_
        refine V_getI (pc := 18) dX2_hasCell_18 fl_Fl_33 h_this rfl ?_
        refine V_icmp_ge (pc := 21) (tgt := 28) dX2_hasCell_21 rfl (fun q => ?_) (fun q => ?_)
        · have h := ite_t q h
          refine V_iconst (v := 0) (pc := 28) dX2_hasCell_28 rfl ?_
          obtain rfl := Option.some.inj h
          exact E_z (pc := 29) dX2_hasCell_29 rfl rfl hp
        · have h := ite_f q h
          refine V_iconst (v := 1) (pc := 24) dX2_hasCell_24 rfl ?_
          refine V_goto (tgt := 29) (pc := 25) dX2_hasCell_25 rfl ?_
          obtain rfl := Option.some.inj h
          exact E_z (pc := 29) dX2_hasCell_29 rfl rfl hp
theorem e_Fl_hasCell {g : GE} {this : Nat} {v1 : Int32} {v2 : Int32} {m : Mem} (h_this : kd this = 3) {x : Int32} (h : Fl_hasCell this v1 v2 m = some x) : Ev g Y_Fl_hasCell [vr this, vi v1, vi v2] m (some (vi x)) m :=
  Ev_of 0 (by decide +kernel) rfl (Nat.le_of_ble_eq_true rfl) rfl (k_Fl_hasCell h_this h ⟨rfl, rfl⟩)
theorem k_Ca_hasHeap {g : GE} {this : Nat} {v1 : Int32} {m : Mem} (h_this : kd this = 1) {r : Option AV} {m' : Mem} {x : Int32} (h : Ca_hasHeap this v1 m = some x) (hp : (fun x : Int32 => r = some (vi x) ∧ m' = m) x) : V g Y_Ca_hasHeap 0 [some (vr this), some (vi v1)] [] m (PM g Y_Ca_hasHeap r m') := by
  unfold Ca_hasHeap at h
  refine V_iload_n (i := 1) (pc := 0) dX0_hasHeap_0 rfl rfl ?_
  refine V_if_lt (pc := 1) (tgt := 24) dX0_hasHeap_1 rfl (fun q => ?_) (fun q => ?_)
  · have h := ite_t q h
    refine V_iconst (v := 0) (pc := 24) dX0_hasHeap_24 rfl ?_
    obtain rfl := Option.some.inj h
    exact E_z (pc := 25) dX0_hasHeap_25 rfl rfl hp
  · have h := ite_f q h
    refine V_iload_n (i := 1) (pc := 4) dX0_hasHeap_4 rfl rfl ?_
    refine V_bipush (v := 8) (pc := 5) dX0_hasHeap_5 rfl ?_
    refine V_icmp_ge (pc := 7) (tgt := 24) dX0_hasHeap_7 rfl (fun q => ?_) (fun q => ?_)
    · have h := ite_t q h
      refine V_iconst (v := 0) (pc := 24) dX0_hasHeap_24 rfl ?_
      obtain rfl := Option.some.inj h
      exact E_z (pc := 25) dX0_hasHeap_25 rfl rfl hp
    · have h := ite_f q h
      refine V_aload_n (i := 0) (pc := 10) dX0_hasHeap_10 rfl rfl ?_
      refine V_getR (b := (this + 25)) (pc := 11) dX0_hasHeap_11 fl_Ca_18 h_this rfl rfl ?_
      refine V_iload_n (i := 1) (pc := 14) dX0_hasHeap_14 rfl rfl ?_
      obtain ⟨hg15, h⟩ := gd_e h
      refine V_iald (pc := 15) dX0_hasHeap_15 (kf_0_1 h_this) (af_0_1 h_this) hg15 ?_
      refine V_iconst (v := (-1)) (pc := 16) dX0_hasHeap_16 rfl ?_
      refine V_icmp_eq (pc := 17) (tgt := 24) dX0_hasHeap_17 rfl (fun q => ?_) (fun q => ?_)
      · have h := ite_t q h
        refine V_iconst (v := 0) (pc := 24) dX0_hasHeap_24 rfl ?_
        obtain rfl := Option.some.inj h
        exact E_z (pc := 25) dX0_hasHeap_25 rfl rfl hp
      · have h := ite_f q h
        refine V_iconst (v := 1) (pc := 20) dX0_hasHeap_20 rfl ?_
        refine V_goto (tgt := 25) (pc := 21) dX0_hasHeap_21 rfl ?_
        obtain rfl := Option.some.inj h
        exact E_z (pc := 25) dX0_hasHeap_25 rfl rfl hp
theorem e_Ca_hasHeap {g : GE} {this : Nat} {v1 : Int32} {m : Mem} (h_this : kd this = 1) {x : Int32} (h : Ca_hasHeap this v1 m = some x) : Ev g Y_Ca_hasHeap [vr this, vi v1] m (some (vi x)) m :=
  Ev_of 0 (by decide +kernel) rfl (Nat.le_of_ble_eq_true rfl) rfl (k_Ca_hasHeap h_this h ⟨rfl, rfl⟩)
theorem k_PL_heap_b46 {g : GE} {this : Nat} {v1 : Int32} {v2 : Int32} {v3 : Int32} {k0 : Int32}  {m : Mem} (h_this : kd this = 11) {r : Option AV} {m' : Mem} {x : Int32 × Mem} (h : PL_heap_b46 this v1 v2 v3 k0 m = some x) (hp : (fun x : Int32 × Mem => r = some (vi x.1) ∧ m' = x.2) x) : V g Y_PL_heap 46 [some (vr this), some (vi v1), some (vi v2), some (vi v3), none] [vi k0] m (PM g Y_PL_heap r m') := by
  unfold PL_heap_b46 at h
  refine V_istore (i := 4) (ls' := [some (vr this), some (vi v1), some (vi v2), some (vi v3), some (vi k0)]) (pc := 46) dX10_heap_46 (Nat.le_of_ble_eq_true rfl) rfl ?_
  refine V_iload_n (i := 2) (pc := 48) dX10_heap_48 rfl rfl ?_
  refine V_iconst (v := (-1)) (pc := 49) dX10_heap_49 rfl ?_
  refine V_icmp_ne (pc := 50) (tgt := 64) dX10_heap_50 rfl (fun q => ?_) (fun q => ?_)
  · have h := ite_f q h
    refine V_aload_n (i := 0) (pc := 64) dX10_heap_64 rfl rfl ?_
    refine V_getR (b := (this + 27)) (pc := 65) dX10_heap_65 fl_PL_19 h_this rfl rfl ?_
    refine V_iload_n (i := 1) (pc := 68) dX10_heap_68 rfl rfl ?_
    refine V_iload_n (i := 2) (pc := 69) dX10_heap_69 rfl rfl ?_
    refine V_iload_n (i := 3) (pc := 70) dX10_heap_70 rfl rfl ?_
    obtain ⟨m71, e71, h⟩ := bnd h
    refine V_invV0 (c := 0) (pc := 71) dX10_heap_71 (e_Ca_placeHeap (kf_10_1 h_this) e71) iv_PL_126 (rm_PL_heap_Ca_placeHeap _ _ _) rfl (kf_10_1 h_this) cf_0 rfl (Nat.le_of_ble_eq_true rfl) rfl ?_
    refine V_iload (i := 4) (pc := 74) dX10_heap_74 rfl ?_
    obtain rfl := Option.some.inj h
    exact E_i (pc := 76) dX10_heap_76 rfl hp
  · have h := ite_t q h
    refine V_aload_n (i := 0) (pc := 53) dX10_heap_53 rfl rfl ?_
    refine V_getR (b := (this + 27)) (pc := 54) dX10_heap_54 fl_PL_19 h_this rfl rfl ?_
    refine V_iload_n (i := 1) (pc := 57) dX10_heap_57 rfl rfl ?_
    obtain ⟨m58, e58, h⟩ := bnd h
    refine V_invV0 (c := 0) (pc := 58) dX10_heap_58 (e_Ca_takeAway (kf_10_1 h_this) e58) iv_PL_123 (rm_PL_heap_Ca_takeAway _ _ _) rfl (kf_10_1 h_this) cf_0 rfl (Nat.le_of_ble_eq_true rfl) rfl ?_
    refine V_goto (tgt := 74) (pc := 61) dX10_heap_61 rfl ?_
    refine V_iload (i := 4) (pc := 74) dX10_heap_74 rfl ?_
    obtain rfl := Option.some.inj h
    exact E_i (pc := 76) dX10_heap_76 rfl hp
theorem k_PL_heap_b30 {g : GE} {this : Nat} {v1 : Int32} {v2 : Int32} {v3 : Int32}  {m : Mem} (h_this : kd this = 11) {r : Option AV} {m' : Mem} {x : Int32 × Mem} (h : PL_heap_b30 this v1 v2 v3 m = some x) (hp : (fun x : Int32 × Mem => r = some (vi x.1) ∧ m' = x.2) x) : V g Y_PL_heap 30 [some (vr this), some (vi v1), some (vi v2), some (vi v3), none] [] m (PM g Y_PL_heap r m') := by
  unfold PL_heap_b30 at h
  refine V_aload_n (i := 0) (pc := 30) dX10_heap_30 rfl rfl ?_
  refine V_getR (b := (this + 27)) (pc := 31) dX10_heap_31 fl_PL_19 h_this rfl rfl ?_
  refine V_iload_n (i := 1) (pc := 34) dX10_heap_34 rfl rfl ?_
  obtain ⟨r35, e35, h⟩ := bnd h
  refine V_invV1 (c := 0) (pc := 35) dX10_heap_35 (e_Ca_hasHeap (kf_10_1 h_this) e35) iv_PL_120 (rm_PL_heap_Ca_hasHeap _ _ _) rfl (kf_10_1 h_this) cf_0 rfl (Nat.le_of_ble_eq_true rfl) rfl ?_
  refine V_if_eq (pc := 38) (tgt := 45) dX10_heap_38 rfl (fun q => ?_) (fun q => ?_)
  · have h := ite_t q h
    refine V_iconst (v := 0) (pc := 45) dX10_heap_45 rfl ?_
    exact k_PL_heap_b46 h_this h hp
  · have h := ite_f q h
    refine V_iconst (v := 1) (pc := 41) dX10_heap_41 rfl ?_
    refine V_goto (tgt := 46) (pc := 42) dX10_heap_42 rfl ?_
    exact k_PL_heap_b46 h_this h hp
theorem k_PL_heap {g : GE} {this : Nat} {v1 : Int32} {v2 : Int32} {v3 : Int32} {m : Mem} (h_this : kd this = 11) {r : Option AV} {m' : Mem} {x : Int32 × Mem} (h : PL_heap this v1 v2 v3 m = some x) (hp : (fun x : Int32 × Mem => r = some (vi x.1) ∧ m' = x.2) x) : V g Y_PL_heap 0 [some (vr this), some (vi v1), some (vi v2), some (vi v3), none] [] m (PM g Y_PL_heap r m') := by
  unfold PL_heap at h
  refine V_iload_n (i := 1) (pc := 0) dX10_heap_0 rfl rfl ?_
  obtain ⟨r1, e1, h⟩ := bnd h
  refine V_invS1 (pc := 1) dX10_heap_1 (e_PL_isHeap  e1) is_PL_113 (rm_PL_heap_PL_isHeap _ _ _) rfl (Nat.le_of_ble_eq_true rfl) rfl ?_
  refine V_if_eq (pc := 4) (tgt := 27) dX10_heap_4 rfl (fun q => ?_) (fun q => ?_)
  · have h := ite_t q h
    refine V_bipush (v := (-2)) (pc := 27) dX10_heap_27 rfl ?_
    obtain rfl := Option.some.inj h
    exact E_i (pc := 29) dX10_heap_29 rfl hp
  · have h := ite_f q h
    refine V_iload_n (i := 2) (pc := 7) dX10_heap_7 rfl rfl ?_
    refine V_iconst (v := (-1)) (pc := 8) dX10_heap_8 rfl ?_
    refine V_icmp_eq (pc := 9) (tgt := 30) dX10_heap_9 rfl (fun q => ?_) (fun q => ?_)
    · have h := ite_t q h
      exact k_PL_heap_b30 h_this h hp
    · have h := ite_f q h
      refine V_aload_n (i := 0) (pc := 12) dX10_heap_12 rfl rfl ?_
      refine V_getR (b := (this + 27)) (pc := 13) dX10_heap_13 fl_PL_19 h_this rfl rfl ?_
      refine V_getR (b := (this + 28)) (pc := 16) dX10_heap_16 fl_PL_102 (kf_10_1 h_this) rfl rfl ?_
      refine V_iload_n (i := 2) (pc := 19) dX10_heap_19 rfl rfl ?_
      refine V_iload_n (i := 3) (pc := 20) dX10_heap_20 rfl rfl ?_
      obtain ⟨r21, e21, h⟩ := bnd h
      refine V_invV1 (c := 2) (pc := 21) dX10_heap_21 (e_Fl_hasCell (kf_0_0 (kf_10_1 h_this)) e21) iv_PL_116 (rm_PL_heap_Fl_hasCell _ _ _) rfl (kf_0_0 (kf_10_1 h_this)) cf_2 rfl (Nat.le_of_ble_eq_true rfl) rfl ?_
      refine V_if_ne (pc := 24) (tgt := 30) dX10_heap_24 rfl (fun q => ?_) (fun q => ?_)
      · have h := ite_f q h
        exact k_PL_heap_b30 h_this h hp
      · have h := ite_t q h
        refine V_bipush (v := (-2)) (pc := 27) dX10_heap_27 rfl ?_
        obtain rfl := Option.some.inj h
        exact E_i (pc := 29) dX10_heap_29 rfl hp
theorem e_PL_heap {g : GE} {this : Nat} {v1 : Int32} {v2 : Int32} {v3 : Int32} {m : Mem} (h_this : kd this = 11) {x : Int32 × Mem} (h : PL_heap this v1 v2 v3 m = some x) : Ev g Y_PL_heap [vr this, vi v1, vi v2, vi v3] m (some (vi x.1)) x.2 :=
  Ev_of 1 (by decide +kernel) rfl (Nat.le_of_ble_eq_true rfl) rfl (k_PL_heap h_this h ⟨rfl, rfl⟩)
theorem k_Ta_has {g : GE} {this : Nat} {v1 : Int32} {m : Mem} (h_this : kd this = 9) {r : Option AV} {m' : Mem} {x : Int32} (h : Ta_has this v1 m = some x) (hp : (fun x : Int32 => r = some (vi x) ∧ m' = m) x) : V g Y_Ta_has 0 [some (vr this), some (vi v1)] [] m (PM g Y_Ta_has r m') := by
  unfold Ta_has at h
  refine V_iload_n (i := 1) (pc := 0) dX8_has_0 rfl rfl ?_
  refine V_if_lt (pc := 1) (tgt := 16) dX8_has_1 rfl (fun q => ?_) (fun q => ?_)
  · have h := ite_t q h
    refine V_iconst (v := 0) (pc := 16) dX8_has_16 rfl ?_
    obtain rfl := Option.some.inj h
    exact E_z (pc := 17) dX8_has_17 rfl rfl hp
  · have h := ite_f q h
    refine V_iload_n (i := 1) (pc := 4) dX8_has_4 rfl rfl ?_
    refine V_aload_n (i := 0) (pc := 5) dX8_has_5 rfl rfl ?_
    refine V_getI (pc := 6) dX8_has_6 fl_Ta_20 h_this rfl ?_
    refine V_icmp_ge (pc := 9) (tgt := 16) dX8_has_9 rfl (fun q => ?_) (fun q => ?_)
    · have h := ite_t q h
      refine V_iconst (v := 0) (pc := 16) dX8_has_16 rfl ?_
      obtain rfl := Option.some.inj h
      exact E_z (pc := 17) dX8_has_17 rfl rfl hp
    · have h := ite_f q h
      refine V_iconst (v := 1) (pc := 12) dX8_has_12 rfl ?_
      refine V_goto (tgt := 17) (pc := 13) dX8_has_13 rfl ?_
      obtain rfl := Option.some.inj h
      exact E_z (pc := 17) dX8_has_17 rfl rfl hp
theorem e_Ta_has {g : GE} {this : Nat} {v1 : Int32} {m : Mem} (h_this : kd this = 9) {x : Int32} (h : Ta_has this v1 m = some x) : Ev g Y_Ta_has [vr this, vi v1] m (some (vi x)) m :=
  Ev_of 0 (by decide +kernel) rfl (Nat.le_of_ble_eq_true rfl) rfl (k_Ta_has h_this h ⟨rfl, rfl⟩)
theorem k_Ca_unitsIn {g : GE} {this : Nat} {v1 : Int32} {v2 : Int32} {m : Mem} (h_this : kd this = 1) {r : Option AV} {m' : Mem} {x : Int32} (h : Ca_unitsIn this v1 v2 m = some x) (hp : (fun x : Int32 => r = some (vi x) ∧ m' = m) x) : V g Y_Ca_unitsIn 0 [some (vr this), some (vi v1), some (vi v2)] [] m (PM g Y_Ca_unitsIn r m') := by
  unfold Ca_unitsIn at h
  refine V_iload_n (i := 1) (pc := 0) dX0_unitsIn_0 rfl rfl ?_
  refine V_if_lt (pc := 1) (tgt := 20) dX0_unitsIn_1 rfl (fun q => ?_) (fun q => ?_)
  · have h := ite_t q h
    refine V_iconst (v := 0) (pc := 20) dX0_unitsIn_20 rfl ?_
    obtain rfl := Option.some.inj h
    exact E_i (pc := 21) dX0_unitsIn_21 rfl hp
  · have h := ite_f q h
    refine V_iload_n (i := 1) (pc := 4) dX0_unitsIn_4 rfl rfl ?_
    refine V_bipush (v := 8) (pc := 5) dX0_unitsIn_5 rfl ?_
    refine V_icmp_ge (pc := 7) (tgt := 20) dX0_unitsIn_7 rfl (fun q => ?_) (fun q => ?_)
    · have h := ite_t q h
      refine V_iconst (v := 0) (pc := 20) dX0_unitsIn_20 rfl ?_
      obtain rfl := Option.some.inj h
      exact E_i (pc := 21) dX0_unitsIn_21 rfl hp
    · have h := ite_f q h
      refine V_iload_n (i := 2) (pc := 10) dX0_unitsIn_10 rfl rfl ?_
      refine V_if_lt (pc := 11) (tgt := 20) dX0_unitsIn_11 rfl (fun q => ?_) (fun q => ?_)
      · have h := ite_t q h
        refine V_iconst (v := 0) (pc := 20) dX0_unitsIn_20 rfl ?_
        obtain rfl := Option.some.inj h
        exact E_i (pc := 21) dX0_unitsIn_21 rfl hp
      · have h := ite_f q h
        refine V_iload_n (i := 2) (pc := 14) dX0_unitsIn_14 rfl rfl ?_
        refine V_bipush (v := 6) (pc := 15) dX0_unitsIn_15 rfl ?_
        refine V_icmp_lt (pc := 17) (tgt := 22) dX0_unitsIn_17 rfl (fun q => ?_) (fun q => ?_)
        · have h := ite_t q h
          refine V_aload_n (i := 0) (pc := 22) dX0_unitsIn_22 rfl rfl ?_
          refine V_getR (b := (this + 27)) (pc := 23) dX0_unitsIn_23 fl_Ca_27 h_this rfl rfl ?_
          refine V_iload_n (i := 1) (pc := 26) dX0_unitsIn_26 rfl rfl ?_
          obtain ⟨hg27, h⟩ := gd_e h
          refine V_aald (b := ((this + 27) + (1 + ix v1))) (k := 4) (pc := 27) dX0_unitsIn_27 (kf_0_3 h_this) (by decide) (af_0_3 h_this) hg27 rfl ?_
          refine V_iload_n (i := 2) (pc := 28) dX0_unitsIn_28 rfl rfl ?_
          obtain ⟨hg29, h⟩ := gd_e h
          refine V_iald (pc := 29) dX0_unitsIn_29 (ka24 (kf_0_3 h_this) (af_0_3 h_this) hg27) ((la24 (kf_0_3 h_this) (af_0_3 h_this) hg27).trans (ag_0_3 h_this)) hg29 ?_
          obtain rfl := Option.some.inj h
          exact E_i (pc := 30) dX0_unitsIn_30 rfl hp
        · have h := ite_f q h
          refine V_iconst (v := 0) (pc := 20) dX0_unitsIn_20 rfl ?_
          obtain rfl := Option.some.inj h
          exact E_i (pc := 21) dX0_unitsIn_21 rfl hp
theorem e_Ca_unitsIn {g : GE} {this : Nat} {v1 : Int32} {v2 : Int32} {m : Mem} (h_this : kd this = 1) {x : Int32} (h : Ca_unitsIn this v1 v2 m = some x) : Ev g Y_Ca_unitsIn [vr this, vi v1, vi v2] m (some (vi x)) m :=
  Ev_of 0 (by decide +kernel) rfl (Nat.le_of_ble_eq_true rfl) rfl (k_Ca_unitsIn h_this h ⟨rfl, rfl⟩)
theorem k_Ca_laidElsewhere_b28 {g : GE} {this : Nat} {v1 : Int32} {v2 : Int32} {v3 : Int32} {v4 : Int32}  {m : Mem} (h_this : kd this = 1) {r : Option AV} {m' : Mem} {x : (Int32 × Int32) ⊕ (Int32)} (h : Ca_laidElsewhere_b28 this v1 v2 v3 v4 m = some x) (hp : (Sum.elim (fun s : Int32 × Int32 => V g Y_Ca_laidElsewhere 5 [some (vr this), some (vi v1), some (vi v2), some (vi s.1), some (vi s.2)] [] m (PM g Y_Ca_laidElsewhere r m')) (fun x : Int32 => r = some (vi x) ∧ m' = m)) x) : V g Y_Ca_laidElsewhere 28 [some (vr this), some (vi v1), some (vi v2), some (vi v3), some (vi v4)] [] m (PM g Y_Ca_laidElsewhere r m') := by
  unfold Ca_laidElsewhere_b28 at h
  refine V_iinc (i := 4) (v := (v4 + 1)) (ls' := [some (vr this), some (vi v1), some (vi v2), some (vi v3), some (vi (v4 + 1))]) (pc := 28) dX0_laidElsewhere_28 rfl rfl (Nat.le_of_ble_eq_true rfl) rfl ?_
  refine V_goto (tgt := 5) (pc := 31) dX0_laidElsewhere_31 rfl ?_
  obtain rfl := Option.some.inj h
  exact hp
theorem k_Ca_laidElsewhere_l5 {g : GE} {this : Nat} {v1 : Int32} {v2 : Int32} {v3 : Int32} {v4 : Int32} {m : Mem} (h_this : kd this = 1) {r : Option AV} {m' : Mem} {x : (Int32 × Int32) ⊕ (Int32)} (h : Ca_laidElsewhere_l5 this v1 v2 v3 v4 m = some x) (hp : (Sum.elim (fun s : Int32 × Int32 => V g Y_Ca_laidElsewhere 5 [some (vr this), some (vi v1), some (vi v2), some (vi s.1), some (vi s.2)] [] m (PM g Y_Ca_laidElsewhere r m')) (fun x : Int32 => r = some (vi x) ∧ m' = m)) x) : V g Y_Ca_laidElsewhere 5 [some (vr this), some (vi v1), some (vi v2), some (vi v3), some (vi v4)] [] m (PM g Y_Ca_laidElsewhere r m') := by
  unfold Ca_laidElsewhere_l5 at h
  refine V_iload (i := 4) (pc := 5) dX0_laidElsewhere_5 rfl ?_
  refine V_bipush (v := 8) (pc := 7) dX0_laidElsewhere_7 rfl ?_
  refine V_icmp_ge (pc := 9) (tgt := 34) dX0_laidElsewhere_9 rfl (fun q => ?_) (fun q => ?_)
  · have h := ite_t q h
    obtain ⟨y1, hu1, rfl⟩ := up_e h
    have h := hu1
    refine V_iload_n (i := 3) (pc := 34) dX0_laidElsewhere_34 rfl rfl ?_
    obtain rfl := Option.some.inj h
    exact E_i (pc := 35) dX0_laidElsewhere_35 rfl hp
  · have h := ite_f q h
    refine V_iload (i := 4) (pc := 12) dX0_laidElsewhere_12 rfl ?_
    refine V_iload_n (i := 1) (pc := 14) dX0_laidElsewhere_14 rfl rfl ?_
    refine V_icmp_eq (pc := 15) (tgt := 28) dX0_laidElsewhere_15 rfl (fun q => ?_) (fun q => ?_)
    · have h := ite_t q h
      exact k_Ca_laidElsewhere_b28 h_this h hp
    · have h := ite_f q h
      refine V_iload_n (i := 3) (pc := 18) dX0_laidElsewhere_18 rfl rfl ?_
      refine V_aload_n (i := 0) (pc := 19) dX0_laidElsewhere_19 rfl rfl ?_
      refine V_iload (i := 4) (pc := 20) dX0_laidElsewhere_20 rfl ?_
      refine V_iload_n (i := 2) (pc := 22) dX0_laidElsewhere_22 rfl rfl ?_
      obtain ⟨r23, e23, h⟩ := bnd h
      refine V_invV1 (c := 0) (pc := 23) dX0_laidElsewhere_23 (e_Ca_unitsIn h_this e23) iv_Ca_84 (rm_Ca_laidElsewhere_Ca_unitsIn _ _ _) rfl h_this cf_0 rfl (Nat.le_of_ble_eq_true rfl) rfl ?_
      refine V_iadd (pc := 26) dX0_laidElsewhere_26 ?_
      refine V_istore_n (i := 3) (ls' := [some (vr this), some (vi v1), some (vi v2), some (vi (v3 + r23)), some (vi v4)]) (pc := 27) dX0_laidElsewhere_27 rfl (Nat.le_of_ble_eq_true rfl) rfl ?_
      exact k_Ca_laidElsewhere_b28 h_this h hp
theorem k_Ca_laidElsewhere {g : GE} {this : Nat} {v1 : Int32} {v2 : Int32} {m : Mem} (h_this : kd this = 1) {r : Option AV} {m' : Mem} {x : Int32} (h : Ca_laidElsewhere this v1 v2 m = some x) (hp : (fun x : Int32 => r = some (vi x) ∧ m' = m) x) : V g Y_Ca_laidElsewhere 0 [some (vr this), some (vi v1), some (vi v2), none, none] [] m (PM g Y_Ca_laidElsewhere r m') := by
  unfold Ca_laidElsewhere at h
  refine V_iconst (v := 0) (pc := 0) dX0_laidElsewhere_0 rfl ?_
  refine V_istore_n (i := 3) (ls' := [some (vr this), some (vi v1), some (vi v2), some (vi 0), none]) (pc := 1) dX0_laidElsewhere_1 rfl (Nat.le_of_ble_eq_true rfl) rfl ?_
  refine V_iconst (v := 0) (pc := 2) dX0_laidElsewhere_2 rfl ?_
  refine V_istore (i := 4) (ls' := [some (vr this), some (vi v1), some (vi v2), some (vi 0), some (vi 0)]) (pc := 3) dX0_laidElsewhere_3 (Nat.le_of_ble_eq_true rfl) rfl ?_
  exact loop_V (A := fun s : Int32 × Int32 => V g Y_Ca_laidElsewhere 5 [some (vr this), some (vi v1), some (vi v2), some (vi s.1), some (vi s.2)] [] m (PM g Y_Ca_laidElsewhere r m')) (fun s x h hp => k_Ca_laidElsewhere_l5 h_this h hp) (0, 0) _ h hp
theorem e_Ca_laidElsewhere {g : GE} {this : Nat} {v1 : Int32} {v2 : Int32} {m : Mem} (h_this : kd this = 1) {x : Int32} (h : Ca_laidElsewhere this v1 v2 m = some x) : Ev g Y_Ca_laidElsewhere [vr this, vi v1, vi v2] m (some (vi x)) m :=
  Ev_of 2 (by decide +kernel) rfl (Nat.le_of_ble_eq_true rfl) rfl (k_Ca_laidElsewhere h_this h ⟨rfl, rfl⟩)
theorem k_PL_put {g : GE} {this : Nat} {v1 : Int32} {v2 : Int32} {v3 : Int32} {m : Mem} (h_this : kd this = 11) {r : Option AV} {m' : Mem} {x : Int32 × Mem} (h : PL_put this v1 v2 v3 m = some x) (hp : (fun x : Int32 × Mem => r = some (vi x.1) ∧ m' = x.2) x) : V g Y_PL_put 0 [some (vr this), some (vi v1), some (vi v2), some (vi v3), none] [] m (PM g Y_PL_put r m') := by
  unfold PL_put at h
  refine V_aload_n (i := 0) (pc := 0) dX10_put_0 rfl rfl ?_
  refine V_getR (b := (this + 27)) (pc := 1) dX10_put_1 fl_PL_19 h_this rfl rfl ?_
  refine V_iload_n (i := 1) (pc := 4) dX10_put_4 rfl rfl ?_
  obtain ⟨r5, e5, h⟩ := bnd h
  refine V_invV1 (c := 0) (pc := 5) dX10_put_5 (e_Ca_hasHeap (kf_10_1 h_this) e5) iv_PL_120 (rm_PL_put_Ca_hasHeap _ _ _) rfl (kf_10_1 h_this) cf_0 rfl (Nat.le_of_ble_eq_true rfl) rfl ?_
  refine V_if_eq (pc := 8) (tgt := 32) dX10_put_8 rfl (fun q => ?_) (fun q => ?_)
  · have h := ite_t q h
    refine V_bipush (v := (-2)) (pc := 32) dX10_put_32 rfl ?_
    obtain rfl := Option.some.inj h
    exact E_i (pc := 34) dX10_put_34 rfl hp
  · have h := ite_f q h
    refine V_aload_n (i := 0) (pc := 11) dX10_put_11 rfl rfl ?_
    refine V_getR (b := (this + 27)) (pc := 12) dX10_put_12 fl_PL_19 h_this rfl rfl ?_
    refine V_getR (b := (this + 28)) (pc := 15) dX10_put_15 fl_PL_102 (kf_10_1 h_this) rfl rfl ?_
    refine V_getR (b := (this + 38)) (pc := 18) dX10_put_18 fl_PL_130 (kf_0_0 (kf_10_1 h_this)) rfl rfl ?_
    refine V_iload_n (i := 2) (pc := 21) dX10_put_21 rfl rfl ?_
    obtain ⟨r22, e22, h⟩ := bnd h
    refine V_invV1 (c := 8) (pc := 22) dX10_put_22 (e_Ta_has (kf_2_16 (kf_0_0 (kf_10_1 h_this))) e22) iv_PL_134 (rm_PL_put_Ta_has _ _ _) rfl (kf_2_16 (kf_0_0 (kf_10_1 h_this))) cf_8 rfl (Nat.le_of_ble_eq_true rfl) rfl ?_
    refine V_if_eq (pc := 25) (tgt := 32) dX10_put_25 rfl (fun q => ?_) (fun q => ?_)
    · have h := ite_t q h
      refine V_bipush (v := (-2)) (pc := 32) dX10_put_32 rfl ?_
      obtain rfl := Option.some.inj h
      exact E_i (pc := 34) dX10_put_34 rfl hp
    · have h := ite_f q h
      refine V_iload_n (i := 3) (pc := 28) dX10_put_28 rfl rfl ?_
      refine V_if_ge (pc := 29) (tgt := 35) dX10_put_29 rfl (fun q => ?_) (fun q => ?_)
      · have h := ite_t q h
        refine V_aload_n (i := 0) (pc := 35) dX10_put_35 rfl rfl ?_
        refine V_getR (b := (this + 27)) (pc := 36) dX10_put_36 fl_PL_19 h_this rfl rfl ?_
        refine V_getR (b := (this + 28)) (pc := 39) dX10_put_39 fl_PL_102 (kf_10_1 h_this) rfl rfl ?_
        refine V_getR (b := (this + 38)) (pc := 42) dX10_put_42 fl_PL_130 (kf_0_0 (kf_10_1 h_this)) rfl rfl ?_
        refine V_iload_n (i := 2) (pc := 45) dX10_put_45 rfl rfl ?_
        refine V_iconst (v := 3) (pc := 46) dX10_put_46 rfl ?_
        obtain ⟨r47, e47, h⟩ := bnd h
        refine V_invV1 (c := 8) (pc := 47) dX10_put_47 (e_Ta_at (kf_2_16 (kf_0_0 (kf_10_1 h_this))) e47) iv_PL_139 (rm_PL_put_Ta_at _ _ _) rfl (kf_2_16 (kf_0_0 (kf_10_1 h_this))) cf_8 rfl (Nat.le_of_ble_eq_true rfl) rfl ?_
        refine V_aload_n (i := 0) (pc := 50) dX10_put_50 rfl rfl ?_
        refine V_getR (b := (this + 27)) (pc := 51) dX10_put_51 fl_PL_19 h_this rfl rfl ?_
        refine V_iload_n (i := 1) (pc := 54) dX10_put_54 rfl rfl ?_
        refine V_iload_n (i := 2) (pc := 55) dX10_put_55 rfl rfl ?_
        obtain ⟨r56, e56, h⟩ := bnd h
        refine V_invV1 (c := 0) (pc := 56) dX10_put_56 (e_Ca_laidElsewhere (kf_10_1 h_this) e56) iv_PL_143 (rm_PL_put_Ca_laidElsewhere _ _ _) rfl (kf_10_1 h_this) cf_0 rfl (Nat.le_of_ble_eq_true rfl) rfl ?_
        refine V_isub (pc := 59) dX10_put_59 ?_
        refine V_istore (i := 4) (ls' := [some (vr this), some (vi v1), some (vi v2), some (vi v3), some (vi (r47 - r56))]) (pc := 60) dX10_put_60 (Nat.le_of_ble_eq_true rfl) rfl ?_
        refine V_iload_n (i := 3) (pc := 62) dX10_put_62 rfl rfl ?_
        refine V_iload (i := 4) (pc := 63) dX10_put_63 rfl ?_
        refine V_icmp_le (pc := 65) (tgt := 71) dX10_put_65 rfl (fun q => ?_) (fun q => ?_)
        · have h := ite_t q h
          refine V_aload_n (i := 0) (pc := 71) dX10_put_71 rfl rfl ?_
          refine V_getR (b := (this + 27)) (pc := 72) dX10_put_72 fl_PL_19 h_this rfl rfl ?_
          refine V_getR (b := (this + 54)) (pc := 75) dX10_put_75 fl_PL_146 (kf_10_1 h_this) rfl rfl ?_
          refine V_iload_n (i := 1) (pc := 78) dX10_put_78 rfl rfl ?_
          obtain ⟨hg79, h⟩ := gd_e h
          refine V_aald (b := ((this + 54) + (1 + ix v1))) (k := 4) (pc := 79) dX10_put_79 (kf_0_3 (kf_10_1 h_this)) (by decide) (af_0_3 (kf_10_1 h_this)) hg79 rfl ?_
          refine V_iload_n (i := 2) (pc := 80) dX10_put_80 rfl rfl ?_
          refine V_iload_n (i := 3) (pc := 81) dX10_put_81 rfl rfl ?_
          obtain ⟨hg82, h⟩ := gd_e h
          refine V_iast_lt (pc := 82) dX10_put_82 (ka24 (kf_0_3 (kf_10_1 h_this)) (af_0_3 (kf_10_1 h_this)) hg79) ((la24 (kf_0_3 (kf_10_1 h_this)) (af_0_3 (kf_10_1 h_this)) hg79).trans (ag_0_3 (kf_10_1 h_this))) hg82 h (fun m82 h => ?_)
          refine V_iload (i := 4) (pc := 83) dX10_put_83 rfl ?_
          refine V_iload_n (i := 3) (pc := 85) dX10_put_85 rfl rfl ?_
          refine V_isub (pc := 86) dX10_put_86 ?_
          obtain rfl := Option.some.inj h
          exact E_i (pc := 87) dX10_put_87 rfl hp
        · have h := ite_f q h
          refine V_bipush (v := (-3)) (pc := 68) dX10_put_68 rfl ?_
          obtain rfl := Option.some.inj h
          exact E_i (pc := 70) dX10_put_70 rfl hp
      · have h := ite_f q h
        refine V_bipush (v := (-2)) (pc := 32) dX10_put_32 rfl ?_
        obtain rfl := Option.some.inj h
        exact E_i (pc := 34) dX10_put_34 rfl hp
theorem e_PL_put {g : GE} {this : Nat} {v1 : Int32} {v2 : Int32} {v3 : Int32} {m : Mem} (h_this : kd this = 11) {x : Int32 × Mem} (h : PL_put this v1 v2 v3 m = some x) : Ev g Y_PL_put [vr this, vi v1, vi v2, vi v3] m (some (vi x.1)) x.2 :=
  Ev_of 1 (by decide +kernel) rfl (Nat.le_of_ble_eq_true rfl) rfl (k_PL_put h_this h ⟨rfl, rfl⟩)
theorem k_Ca_sleepers_l4 {g : GE} {this : Nat}  {v1 : Int32} {v2 : Int32} {m : Mem} (h_this : kd this = 1) {r : Option AV} {m' : Mem} {x : (Int32 × Int32) ⊕ (Int32)} (h : Ca_sleepers_l4 this v1 v2 m = some x) (hp : (Sum.elim (fun s : Int32 × Int32 => V g Y_Ca_sleepers 4 [some (vr this), some (vi s.1), some (vi s.2)] [] m (PM g Y_Ca_sleepers r m')) (fun x : Int32 => r = some (vi x) ∧ m' = m)) x) : V g Y_Ca_sleepers 4 [some (vr this), some (vi v1), some (vi v2)] [] m (PM g Y_Ca_sleepers r m') := by
  unfold Ca_sleepers_l4 at h
  refine V_iload_n (i := 2) (pc := 4) dX0_sleepers_4 rfl rfl ?_
  refine V_iconst (v := 4) (pc := 5) dX0_sleepers_5 rfl ?_
  refine V_icmp_ge (pc := 6) (tgt := 24) dX0_sleepers_6 rfl (fun q => ?_) (fun q => ?_)
  · have h := ite_t q h
    obtain ⟨y1, hu1, rfl⟩ := up_e h
    have h := hu1
    refine V_iload_n (i := 1) (pc := 24) dX0_sleepers_24 rfl rfl ?_
    obtain rfl := Option.some.inj h
    exact E_i (pc := 25) dX0_sleepers_25 rfl hp
  · have h := ite_f q h
    refine V_iload_n (i := 1) (pc := 9) dX0_sleepers_9 rfl rfl ?_
    refine V_aload_n (i := 0) (pc := 10) dX0_sleepers_10 rfl rfl ?_
    refine V_getR (b := (this + 38)) (pc := 11) dX0_sleepers_11 fl_Ca_36 h_this rfl rfl ?_
    refine V_iload_n (i := 2) (pc := 14) dX0_sleepers_14 rfl rfl ?_
    obtain ⟨hg15, h⟩ := gd_e h
    refine V_iald (pc := 15) dX0_sleepers_15 (kf_0_6 h_this) (af_0_6 h_this) hg15 ?_
    refine V_iadd (pc := 16) dX0_sleepers_16 ?_
    refine V_istore_n (i := 1) (ls' := [some (vr this), some (vi (v1 + (rI m (this + 38) (ix v2)))), some (vi v2)]) (pc := 17) dX0_sleepers_17 rfl (Nat.le_of_ble_eq_true rfl) rfl ?_
    refine V_iinc (i := 2) (v := (v2 + 1)) (ls' := [some (vr this), some (vi (v1 + (rI m (this + 38) (ix v2)))), some (vi (v2 + 1))]) (pc := 18) dX0_sleepers_18 rfl rfl (Nat.le_of_ble_eq_true rfl) rfl ?_
    refine V_goto (tgt := 4) (pc := 21) dX0_sleepers_21 rfl ?_
    obtain rfl := Option.some.inj h
    exact hp
theorem k_Ca_sleepers {g : GE} {this : Nat} {m : Mem} (h_this : kd this = 1) {r : Option AV} {m' : Mem} {x : Int32} (h : Ca_sleepers this m = some x) (hp : (fun x : Int32 => r = some (vi x) ∧ m' = m) x) : V g Y_Ca_sleepers 0 [some (vr this), none, none] [] m (PM g Y_Ca_sleepers r m') := by
  unfold Ca_sleepers at h
  refine V_iconst (v := 0) (pc := 0) dX0_sleepers_0 rfl ?_
  refine V_istore_n (i := 1) (ls' := [some (vr this), some (vi 0), none]) (pc := 1) dX0_sleepers_1 rfl (Nat.le_of_ble_eq_true rfl) rfl ?_
  refine V_iconst (v := 0) (pc := 2) dX0_sleepers_2 rfl ?_
  refine V_istore_n (i := 2) (ls' := [some (vr this), some (vi 0), some (vi 0)]) (pc := 3) dX0_sleepers_3 rfl (Nat.le_of_ble_eq_true rfl) rfl ?_
  exact loop_V (A := fun s : Int32 × Int32 => V g Y_Ca_sleepers 4 [some (vr this), some (vi s.1), some (vi s.2)] [] m (PM g Y_Ca_sleepers r m')) (fun s x h hp => k_Ca_sleepers_l4 h_this h hp) (0, 0) _ h hp
theorem e_Ca_sleepers {g : GE} {this : Nat} {m : Mem} (h_this : kd this = 1) {x : Int32} (h : Ca_sleepers this m = some x) : Ev g Y_Ca_sleepers [vr this] m (some (vi x)) m :=
  Ev_of 2 (by decide +kernel) rfl (Nat.le_of_ble_eq_true rfl) rfl (k_Ca_sleepers h_this h ⟨rfl, rfl⟩)
theorem k_PL_sleep {g : GE} {this : Nat} {v1 : Int32} {v2 : Int32} {v3 : Int32} {v4 : Int32} {m : Mem} (h_this : kd this = 11) {r : Option AV} {m' : Mem} {x : Int32 × Mem} (h : PL_sleep this v1 v2 v3 v4 m = some x) (hp : (fun x : Int32 × Mem => r = some (vi x.1) ∧ m' = x.2) x) : V g Y_PL_sleep 0 [some (vr this), some (vi v1), some (vi v2), some (vi v3), some (vi v4), none] [] m (PM g Y_PL_sleep r m') := by
  unfold PL_sleep at h
  refine V_iload_n (i := 1) (pc := 0) dX10_sleep_0 rfl rfl ?_
  obtain ⟨r1, e1, h⟩ := bnd h
  refine V_invS1 (pc := 1) dX10_sleep_1 (e_PL_isGroup  e1) is_PL_150 (rm_PL_sleep_PL_isGroup _ _ _) rfl (Nat.le_of_ble_eq_true rfl) rfl ?_
  refine V_if_eq (pc := 4) (tgt := 34) dX10_sleep_4 rfl (fun q => ?_) (fun q => ?_)
  · have h := ite_t q h
    refine V_bipush (v := (-2)) (pc := 34) dX10_sleep_34 rfl ?_
    obtain rfl := Option.some.inj h
    exact E_i (pc := 36) dX10_sleep_36 rfl hp
  · have h := ite_f q h
    refine V_aload_n (i := 0) (pc := 7) dX10_sleep_7 rfl rfl ?_
    refine V_getR (b := (this + 27)) (pc := 8) dX10_sleep_8 fl_PL_19 h_this rfl rfl ?_
    refine V_getR (b := (this + 28)) (pc := 11) dX10_sleep_11 fl_PL_102 (kf_10_1 h_this) rfl rfl ?_
    refine V_iload_n (i := 2) (pc := 14) dX10_sleep_14 rfl rfl ?_
    refine V_iload_n (i := 3) (pc := 15) dX10_sleep_15 rfl rfl ?_
    obtain ⟨r16, e16, h⟩ := bnd h
    refine V_invV1 (c := 2) (pc := 16) dX10_sleep_16 (e_Fl_hasCell (kf_0_0 (kf_10_1 h_this)) e16) iv_PL_116 (rm_PL_sleep_Fl_hasCell _ _ _) rfl (kf_0_0 (kf_10_1 h_this)) cf_2 rfl (Nat.le_of_ble_eq_true rfl) rfl ?_
    refine V_if_eq (pc := 19) (tgt := 34) dX10_sleep_19 rfl (fun q => ?_) (fun q => ?_)
    · have h := ite_t q h
      refine V_bipush (v := (-2)) (pc := 34) dX10_sleep_34 rfl ?_
      obtain rfl := Option.some.inj h
      exact E_i (pc := 36) dX10_sleep_36 rfl hp
    · have h := ite_f q h
      refine V_iload (i := 4) (pc := 22) dX10_sleep_22 rfl ?_
      refine V_if_lt (pc := 24) (tgt := 34) dX10_sleep_24 rfl (fun q => ?_) (fun q => ?_)
      · have h := ite_t q h
        refine V_bipush (v := (-2)) (pc := 34) dX10_sleep_34 rfl ?_
        obtain rfl := Option.some.inj h
        exact E_i (pc := 36) dX10_sleep_36 rfl hp
      · have h := ite_f q h
        refine V_iload (i := 4) (pc := 27) dX10_sleep_27 rfl ?_
        refine V_bipush (v := 28) (pc := 29) dX10_sleep_29 rfl ?_
        refine V_icmp_le (pc := 31) (tgt := 37) dX10_sleep_31 rfl (fun q => ?_) (fun q => ?_)
        · have h := ite_t q h
          refine V_aload_n (i := 0) (pc := 37) dX10_sleep_37 rfl rfl ?_
          refine V_getR (b := (this + 27)) (pc := 38) dX10_sleep_38 fl_PL_19 h_this rfl rfl ?_
          obtain ⟨r41, e41, h⟩ := bnd h
          refine V_invV1 (c := 0) (pc := 41) dX10_sleep_41 (e_Ca_sleepers (kf_10_1 h_this) e41) iv_PL_153 (rm_PL_sleep_Ca_sleepers _ _ _) rfl (kf_10_1 h_this) cf_0 rfl (Nat.le_of_ble_eq_true rfl) rfl ?_
          refine V_aload_n (i := 0) (pc := 44) dX10_sleep_44 rfl rfl ?_
          refine V_getR (b := (this + 27)) (pc := 45) dX10_sleep_45 fl_PL_19 h_this rfl rfl ?_
          refine V_getR (b := (this + 65)) (pc := 48) dX10_sleep_48 fl_PL_157 (kf_10_1 h_this) rfl rfl ?_
          refine V_iload_n (i := 1) (pc := 51) dX10_sleep_51 rfl rfl ?_
          obtain ⟨hg52, h⟩ := gd_e h
          refine V_iald (pc := 52) dX10_sleep_52 (kf_0_6 (kf_10_1 h_this)) (af_0_6 (kf_10_1 h_this)) hg52 ?_
          refine V_isub (pc := 53) dX10_sleep_53 ?_
          refine V_iload (i := 4) (pc := 54) dX10_sleep_54 rfl ?_
          refine V_iadd (pc := 56) dX10_sleep_56 ?_
          refine V_istore (i := 5) (ls' := [some (vr this), some (vi v1), some (vi v2), some (vi v3), some (vi v4), some (vi ((r41 - (rI m (this + 65) (ix v1))) + v4))]) (pc := 57) dX10_sleep_57 (Nat.le_of_ble_eq_true rfl) rfl ?_
          refine V_iload (i := 5) (pc := 59) dX10_sleep_59 rfl ?_
          refine V_aload_n (i := 0) (pc := 61) dX10_sleep_61 rfl rfl ?_
          refine V_getR (b := (this + 27)) (pc := 62) dX10_sleep_62 fl_PL_19 h_this rfl rfl ?_
          refine V_getR (b := (this + 28)) (pc := 65) dX10_sleep_65 fl_PL_102 (kf_10_1 h_this) rfl rfl ?_
          refine V_getI (pc := 68) dX10_sleep_68 fl_PL_161 (kf_0_0 (kf_10_1 h_this)) rfl ?_
          refine V_icmp_le (pc := 71) (tgt := 77) dX10_sleep_71 rfl (fun q => ?_) (fun q => ?_)
          · have h := ite_t q h
            refine V_aload_n (i := 0) (pc := 77) dX10_sleep_77 rfl rfl ?_
            refine V_getR (b := (this + 27)) (pc := 78) dX10_sleep_78 fl_PL_19 h_this rfl rfl ?_
            refine V_iload_n (i := 1) (pc := 81) dX10_sleep_81 rfl rfl ?_
            refine V_iload_n (i := 2) (pc := 82) dX10_sleep_82 rfl rfl ?_
            refine V_iload_n (i := 3) (pc := 83) dX10_sleep_83 rfl rfl ?_
            obtain ⟨m84, e84, h⟩ := bnd h
            refine V_invV0 (c := 0) (pc := 84) dX10_sleep_84 (e_Ca_placeGroup (kf_10_1 h_this) e84) iv_PL_164 (rm_PL_sleep_Ca_placeGroup _ _ _) rfl (kf_10_1 h_this) cf_0 rfl (Nat.le_of_ble_eq_true rfl) rfl ?_
            refine V_aload_n (i := 0) (pc := 87) dX10_sleep_87 rfl rfl ?_
            refine V_getR (b := (this + 27)) (pc := 88) dX10_sleep_88 fl_PL_19 h_this rfl rfl ?_
            refine V_getR (b := (this + 65)) (pc := 91) dX10_sleep_91 fl_PL_157 (kf_10_1 h_this) rfl rfl ?_
            refine V_iload_n (i := 1) (pc := 94) dX10_sleep_94 rfl rfl ?_
            refine V_iload (i := 4) (pc := 95) dX10_sleep_95 rfl ?_
            obtain ⟨hg97, h⟩ := gd_e h
            refine V_iast_lt (pc := 97) dX10_sleep_97 (kf_0_6 (kf_10_1 h_this)) (af_0_6 (kf_10_1 h_this)) hg97 h (fun m97 h => ?_)
            refine V_iload (i := 5) (pc := 98) dX10_sleep_98 rfl ?_
            obtain rfl := Option.some.inj h
            exact E_i (pc := 100) dX10_sleep_100 rfl hp
          · have h := ite_f q h
            refine V_bipush (v := (-3)) (pc := 74) dX10_sleep_74 rfl ?_
            obtain rfl := Option.some.inj h
            exact E_i (pc := 76) dX10_sleep_76 rfl hp
        · have h := ite_f q h
          refine V_bipush (v := (-2)) (pc := 34) dX10_sleep_34 rfl ?_
          obtain rfl := Option.some.inj h
          exact E_i (pc := 36) dX10_sleep_36 rfl hp
theorem e_PL_sleep {g : GE} {this : Nat} {v1 : Int32} {v2 : Int32} {v3 : Int32} {v4 : Int32} {m : Mem} (h_this : kd this = 11) {x : Int32 × Mem} (h : PL_sleep this v1 v2 v3 v4 m = some x) : Ev g Y_PL_sleep [vr this, vi v1, vi v2, vi v3, vi v4] m (some (vi x.1)) x.2 :=
  Ev_of 1 (by decide +kernel) rfl (Nat.le_of_ble_eq_true rfl) rfl (k_PL_sleep h_this h ⟨rfl, rfl⟩)
theorem k_Fl_isThere {g : GE} {this : Nat} {m : Mem} (h_this : kd this = 3) {r : Option AV} {m' : Mem} {x : Int32} (h : Fl_isThere this m = some x) (hp : (fun x : Int32 => r = some (vi x) ∧ m' = m) x) : V g Y_Fl_isThere 0 [some (vr this)] [] m (PM g Y_Fl_isThere r m') := by
  unfold Fl_isThere at h
  refine V_aload_n (i := 0) (pc := 0) dX2_isThere_0 rfl rfl ?_
  refine V_getI (pc := 1) dX2_isThere_1 fl_Fl_29 h_this rfl ?_
  refine V_if_le (pc := 4) (tgt := 11) dX2_isThere_4 rfl (fun q => ?_) (fun q => ?_)
  · have h := ite_t q h
    refine V_iconst (v := 0) (pc := 11) dX2_isThere_11 rfl ?_
    obtain rfl := Option.some.inj h
    exact E_z (pc := 12) dX2_isThere_12 rfl rfl hp
  · have h := ite_f q h
    refine V_iconst (v := 1) (pc := 7) dX2_isThere_7 rfl ?_
    refine V_goto (tgt := 12) (pc := 8) dX2_isThere_8 rfl ?_
    obtain rfl := Option.some.inj h
    exact E_z (pc := 12) dX2_isThere_12 rfl rfl hp
theorem e_Fl_isThere {g : GE} {this : Nat} {m : Mem} (h_this : kd this = 3) {x : Int32} (h : Fl_isThere this m = some x) : Ev g Y_Fl_isThere [vr this] m (some (vi x)) m :=
  Ev_of 0 (by decide +kernel) rfl (Nat.le_of_ble_eq_true rfl) rfl (k_Fl_isThere h_this h ⟨rfl, rfl⟩)
theorem k_Fl_hasSet {g : GE} {this : Nat} {v1 : Int32} {m : Mem} (h_this : kd this = 3) {r : Option AV} {m' : Mem} {x : Int32} (h : Fl_hasSet this v1 m = some x) (hp : (fun x : Int32 => r = some (vi x) ∧ m' = m) x) : V g Y_Fl_hasSet 0 [some (vr this), some (vi v1)] [] m (PM g Y_Fl_hasSet r m') := by
  unfold Fl_hasSet at h
  refine V_aload_n (i := 0) (pc := 0) dX2_hasSet_0 rfl rfl ?_
  obtain ⟨r1, e1, h⟩ := bnd h
  refine V_invV1 (c := 2) (pc := 1) dX2_hasSet_1 (e_Fl_isThere h_this e1) iv_Fl_82 (rm_Fl_hasSet_Fl_isThere _ _ _) rfl h_this cf_2 rfl (Nat.le_of_ble_eq_true rfl) rfl ?_
  refine V_if_eq (pc := 4) (tgt := 28) dX2_hasSet_4 rfl (fun q => ?_) (fun q => ?_)
  · have h := ite_t q h
    refine V_iconst (v := 0) (pc := 28) dX2_hasSet_28 rfl ?_
    obtain rfl := Option.some.inj h
    exact E_z (pc := 29) dX2_hasSet_29 rfl rfl hp
  · have h := ite_f q h
    refine V_iload_n (i := 1) (pc := 7) dX2_hasSet_7 rfl rfl ?_
    refine V_if_lt (pc := 8) (tgt := 28) dX2_hasSet_8 rfl (fun q => ?_) (fun q => ?_)
    · have h := ite_t q h
      refine V_iconst (v := 0) (pc := 28) dX2_hasSet_28 rfl ?_
      obtain rfl := Option.some.inj h
      exact E_z (pc := 29) dX2_hasSet_29 rfl rfl hp
    · have h := ite_f q h
      refine V_iload_n (i := 1) (pc := 11) dX2_hasSet_11 rfl rfl ?_
      refine V_iconst (v := 1) (pc := 12) dX2_hasSet_12 rfl ?_
      refine V_aload_n (i := 0) (pc := 13) dX2_hasSet_13 rfl rfl ?_
      refine V_getR (b := (this + 1)) (pc := 14) dX2_hasSet_14 fl_Fl_14 h_this rfl rfl ?_
      refine V_getI (pc := 17) dX2_hasSet_17 fl_Fl_75 (kf_2_15 h_this) rfl ?_
      refine V_ishl (pc := 20) dX2_hasSet_20 ?_
      refine V_icmp_ge (pc := 21) (tgt := 28) dX2_hasSet_21 rfl (fun q => ?_) (fun q => ?_)
      · have h := ite_t q h
        refine V_iconst (v := 0) (pc := 28) dX2_hasSet_28 rfl ?_
        obtain rfl := Option.some.inj h
        exact E_z (pc := 29) dX2_hasSet_29 rfl rfl hp
      · have h := ite_f q h
        refine V_iconst (v := 1) (pc := 24) dX2_hasSet_24 rfl ?_
        refine V_goto (tgt := 29) (pc := 25) dX2_hasSet_25 rfl ?_
        obtain rfl := Option.some.inj h
        exact E_z (pc := 29) dX2_hasSet_29 rfl rfl hp
theorem e_Fl_hasSet {g : GE} {this : Nat} {v1 : Int32} {m : Mem} (h_this : kd this = 3) {x : Int32} (h : Fl_hasSet this v1 m = some x) : Ev g Y_Fl_hasSet [vr this, vi v1] m (some (vi x)) m :=
  Ev_of 0 (by decide +kernel) rfl (Nat.le_of_ble_eq_true rfl) rfl (k_Fl_hasSet h_this h ⟨rfl, rfl⟩)
theorem k_PL_open {g : GE} {this : Nat} {v1 : Int32} {m : Mem} (h_this : kd this = 11) {r : Option AV} {m' : Mem} {x : Int32 × Mem} (h : PL_open this v1 m = some x) (hp : (fun x : Int32 × Mem => r = some (vi x.1) ∧ m' = x.2) x) : V g Y_PL_open 0 [some (vr this), some (vi v1), none] [] m (PM g Y_PL_open r m') := by
  unfold PL_open at h
  refine V_aload_n (i := 0) (pc := 0) dX10_open_0 rfl rfl ?_
  refine V_getR (b := (this + 27)) (pc := 1) dX10_open_1 fl_PL_19 h_this rfl rfl ?_
  refine V_getR (b := (this + 28)) (pc := 4) dX10_open_4 fl_PL_102 (kf_10_1 h_this) rfl rfl ?_
  refine V_iload_n (i := 1) (pc := 7) dX10_open_7 rfl rfl ?_
  obtain ⟨r8, e8, h⟩ := bnd h
  refine V_invV1 (c := 2) (pc := 8) dX10_open_8 (e_Fl_hasSet (kf_0_0 (kf_10_1 h_this)) e8) iv_PL_167 (rm_PL_open_Fl_hasSet _ _ _) rfl (kf_0_0 (kf_10_1 h_this)) cf_2 rfl (Nat.le_of_ble_eq_true rfl) rfl ?_
  refine V_if_ne (pc := 11) (tgt := 17) dX10_open_11 rfl (fun q => ?_) (fun q => ?_)
  · have h := ite_f q h
    refine V_aload_n (i := 0) (pc := 17) dX10_open_17 rfl rfl ?_
    refine V_getR (b := (this + 27)) (pc := 18) dX10_open_18 fl_PL_19 h_this rfl rfl ?_
    refine V_getI (pc := 21) dX10_open_21 fl_PL_170 (kf_10_1 h_this) rfl ?_
    refine V_istore_n (i := 2) (ls' := [some (vr this), some (vi v1), some (vi (rI m (this + 27) 7))]) (pc := 24) dX10_open_24 rfl (Nat.le_of_ble_eq_true rfl) rfl ?_
    refine V_aload_n (i := 0) (pc := 25) dX10_open_25 rfl rfl ?_
    refine V_getR (b := (this + 27)) (pc := 26) dX10_open_26 fl_PL_19 h_this rfl rfl ?_
    refine V_iload_n (i := 1) (pc := 29) dX10_open_29 rfl rfl ?_
    refine V_putI_lt (pc := 30) dX10_open_30 fp_PL_170 (kf_10_1 h_this) rfl rfl rfl h (fun m30 h => ?_)
    refine V_iload_n (i := 2) (pc := 33) dX10_open_33 rfl rfl ?_
    obtain rfl := Option.some.inj h
    exact E_i (pc := 34) dX10_open_34 rfl hp
  · have h := ite_t q h
    refine V_bipush (v := (-2)) (pc := 14) dX10_open_14 rfl ?_
    obtain rfl := Option.some.inj h
    exact E_i (pc := 16) dX10_open_16 rfl hp
theorem e_PL_open {g : GE} {this : Nat} {v1 : Int32} {m : Mem} (h_this : kd this = 11) {x : Int32 × Mem} (h : PL_open this v1 m = some x) : Ev g Y_PL_open [vr this, vi v1] m (some (vi x.1)) x.2 :=
  Ev_of 1 (by decide +kernel) rfl (Nat.le_of_ble_eq_true rfl) rfl (k_PL_open h_this h ⟨rfl, rfl⟩)
theorem k_Ca_tonsOf_l4 {g : GE} {this : Nat} {v1 : Int32} {v2 : Int32} {v3 : Int32} {m : Mem} (h_this : kd this = 1) {r : Option AV} {m' : Mem} {x : (Int32 × Int32) ⊕ (Int32)} (h : Ca_tonsOf_l4 this v1 v2 v3 m = some x) (hp : (Sum.elim (fun s : Int32 × Int32 => V g Y_Ca_tonsOf 4 [some (vr this), some (vi v1), some (vi s.1), some (vi s.2)] [] m (PM g Y_Ca_tonsOf r m')) (fun x : Int32 => r = some (vi x) ∧ m' = m)) x) : V g Y_Ca_tonsOf 4 [some (vr this), some (vi v1), some (vi v2), some (vi v3)] [] m (PM g Y_Ca_tonsOf r m') := by
  unfold Ca_tonsOf_l4 at h
  refine V_iload_n (i := 3) (pc := 4) dX0_tonsOf_4 rfl rfl ?_
  refine V_aload_n (i := 0) (pc := 5) dX0_tonsOf_5 rfl rfl ?_
  refine V_getR (b := (this + 1)) (pc := 6) dX0_tonsOf_6 fl_Ca_12 h_this rfl rfl ?_
  refine V_getR (b := (this + 11)) (pc := 9) dX0_tonsOf_9 fl_Ca_88 (kf_0_0 h_this) rfl rfl ?_
  refine V_getI (pc := 12) dX0_tonsOf_12 fl_Ca_92 (kf_2_16 (kf_0_0 h_this)) rfl ?_
  refine V_icmp_ge (pc := 15) (tgt := 46) dX0_tonsOf_15 rfl (fun q => ?_) (fun q => ?_)
  · have h := ite_t q h
    obtain ⟨y1, hu1, rfl⟩ := up_e h
    have h := hu1
    refine V_iload_n (i := 2) (pc := 46) dX0_tonsOf_46 rfl rfl ?_
    obtain rfl := Option.some.inj h
    exact E_i (pc := 47) dX0_tonsOf_47 rfl hp
  · have h := ite_f q h
    refine V_iload_n (i := 2) (pc := 18) dX0_tonsOf_18 rfl rfl ?_
    refine V_aload_n (i := 0) (pc := 19) dX0_tonsOf_19 rfl rfl ?_
    refine V_iload_n (i := 1) (pc := 20) dX0_tonsOf_20 rfl rfl ?_
    refine V_iload_n (i := 3) (pc := 21) dX0_tonsOf_21 rfl rfl ?_
    obtain ⟨r22, e22, h⟩ := bnd h
    refine V_invV1 (c := 0) (pc := 22) dX0_tonsOf_22 (e_Ca_unitsIn h_this e22) iv_Ca_84 (rm_Ca_tonsOf_Ca_unitsIn _ _ _) rfl h_this cf_0 rfl (Nat.le_of_ble_eq_true rfl) rfl ?_
    refine V_aload_n (i := 0) (pc := 25) dX0_tonsOf_25 rfl rfl ?_
    refine V_getR (b := (this + 1)) (pc := 26) dX0_tonsOf_26 fl_Ca_12 h_this rfl rfl ?_
    refine V_getR (b := (this + 11)) (pc := 29) dX0_tonsOf_29 fl_Ca_88 (kf_0_0 h_this) rfl rfl ?_
    refine V_iload_n (i := 3) (pc := 32) dX0_tonsOf_32 rfl rfl ?_
    refine V_iconst (v := 2) (pc := 33) dX0_tonsOf_33 rfl ?_
    obtain ⟨r34, e34, h⟩ := bnd h
    refine V_invV1 (c := 8) (pc := 34) dX0_tonsOf_34 (e_Ta_at (kf_2_16 (kf_0_0 h_this)) e34) iv_Ca_97 (rm_Ca_tonsOf_Ta_at _ _ _) rfl (kf_2_16 (kf_0_0 h_this)) cf_8 rfl (Nat.le_of_ble_eq_true rfl) rfl ?_
    refine V_imul (pc := 37) dX0_tonsOf_37 ?_
    refine V_iadd (pc := 38) dX0_tonsOf_38 ?_
    refine V_istore_n (i := 2) (ls' := [some (vr this), some (vi v1), some (vi (v2 + (r22 * r34))), some (vi v3)]) (pc := 39) dX0_tonsOf_39 rfl (Nat.le_of_ble_eq_true rfl) rfl ?_
    refine V_iinc (i := 3) (v := (v3 + 1)) (ls' := [some (vr this), some (vi v1), some (vi (v2 + (r22 * r34))), some (vi (v3 + 1))]) (pc := 40) dX0_tonsOf_40 rfl rfl (Nat.le_of_ble_eq_true rfl) rfl ?_
    refine V_goto (tgt := 4) (pc := 43) dX0_tonsOf_43 rfl ?_
    obtain rfl := Option.some.inj h
    exact hp
theorem k_Ca_tonsOf {g : GE} {this : Nat} {v1 : Int32} {m : Mem} (h_this : kd this = 1) {r : Option AV} {m' : Mem} {x : Int32} (h : Ca_tonsOf this v1 m = some x) (hp : (fun x : Int32 => r = some (vi x) ∧ m' = m) x) : V g Y_Ca_tonsOf 0 [some (vr this), some (vi v1), none, none] [] m (PM g Y_Ca_tonsOf r m') := by
  unfold Ca_tonsOf at h
  refine V_iconst (v := 0) (pc := 0) dX0_tonsOf_0 rfl ?_
  refine V_istore_n (i := 2) (ls' := [some (vr this), some (vi v1), some (vi 0), none]) (pc := 1) dX0_tonsOf_1 rfl (Nat.le_of_ble_eq_true rfl) rfl ?_
  refine V_iconst (v := 0) (pc := 2) dX0_tonsOf_2 rfl ?_
  refine V_istore_n (i := 3) (ls' := [some (vr this), some (vi v1), some (vi 0), some (vi 0)]) (pc := 3) dX0_tonsOf_3 rfl (Nat.le_of_ble_eq_true rfl) rfl ?_
  exact loop_V (A := fun s : Int32 × Int32 => V g Y_Ca_tonsOf 4 [some (vr this), some (vi v1), some (vi s.1), some (vi s.2)] [] m (PM g Y_Ca_tonsOf r m')) (fun s x h hp => k_Ca_tonsOf_l4 h_this h hp) (0, 0) _ h hp
theorem e_Ca_tonsOf {g : GE} {this : Nat} {v1 : Int32} {m : Mem} (h_this : kd this = 1) {x : Int32} (h : Ca_tonsOf this v1 m = some x) : Ev g Y_Ca_tonsOf [vr this, vi v1] m (some (vi x)) m :=
  Ev_of 2 (by decide +kernel) rfl (Nat.le_of_ble_eq_true rfl) rfl (k_Ca_tonsOf h_this h ⟨rfl, rfl⟩)
theorem k_PL_lies_b49 {g : GE} {this : Nat} {v1 : Int32} {v2 : Int32} {v3 : Int32}  {m : Mem} (h_this : kd this = 11) {r : Option AV} {m' : Mem} {x : Int32} (h : PL_lies_b49 this v1 v2 v3 m = some x) (hp : (fun x : Int32 => r = some (vi x) ∧ m' = m) x) : V g Y_PL_lies 49 [some (vr this), some (vi v1), some (vi v2), some (vi v3)] [] m (PM g Y_PL_lies r m') := by
  unfold PL_lies_b49 at h
  refine V_aload_n (i := 0) (pc := 49) dX10_lies_49 rfl rfl ?_
  refine V_getR (b := (this + 27)) (pc := 50) dX10_lies_50 fl_PL_19 h_this rfl rfl ?_
  refine V_iload_n (i := 1) (pc := 53) dX10_lies_53 rfl rfl ?_
  obtain ⟨r54, e54, h⟩ := bnd h
  refine V_invV1 (c := 0) (pc := 54) dX10_lies_54 (e_Ca_hasHeap (kf_10_1 h_this) e54) iv_PL_120 (rm_PL_lies_Ca_hasHeap _ _ _) rfl (kf_10_1 h_this) cf_0 rfl (Nat.le_of_ble_eq_true rfl) rfl ?_
  refine V_if_ne (pc := 57) (tgt := 62) dX10_lies_57 rfl (fun q => ?_) (fun q => ?_)
  · have h := ite_f q h
    refine V_iload_n (i := 2) (pc := 62) dX10_lies_62 rfl rfl ?_
    by_cases q : v2 = 0
    · have h := ite_t q h
      refine V_tableIn (tgt := 88) (pc := 63) dX10_lies_63 (by rw [q]; decide) (by rw [q]; decide) (by rw [q]; rfl) rfl ?_
      refine V_aload_n (i := 0) (pc := 88) dX10_lies_88 rfl rfl ?_
      refine V_getR (b := (this + 27)) (pc := 89) dX10_lies_89 fl_PL_19 h_this rfl rfl ?_
      refine V_getR (b := (this + 52)) (pc := 92) dX10_lies_92 fl_PL_173 (kf_10_1 h_this) rfl rfl ?_
      refine V_iload_n (i := 1) (pc := 95) dX10_lies_95 rfl rfl ?_
      obtain ⟨hg96, h⟩ := gd_e h
      refine V_iald (pc := 96) dX10_lies_96 (kf_0_1 (kf_10_1 h_this)) (af_0_1 (kf_10_1 h_this)) hg96 ?_
      obtain rfl := Option.some.inj h
      exact E_i (pc := 97) dX10_lies_97 rfl hp
    · have q0 := q
      have h := ite_f q h
      by_cases q : v2 = 1
      · have h := ite_t q h
        refine V_tableIn (tgt := 98) (pc := 63) dX10_lies_63 (by rw [q]; decide) (by rw [q]; decide) (by rw [q]; rfl) rfl ?_
        refine V_aload_n (i := 0) (pc := 98) dX10_lies_98 rfl rfl ?_
        refine V_getR (b := (this + 27)) (pc := 99) dX10_lies_99 fl_PL_19 h_this rfl rfl ?_
        refine V_getR (b := (this + 53)) (pc := 102) dX10_lies_102 fl_PL_176 (kf_10_1 h_this) rfl rfl ?_
        refine V_iload_n (i := 1) (pc := 105) dX10_lies_105 rfl rfl ?_
        obtain ⟨hg106, h⟩ := gd_e h
        refine V_iald (pc := 106) dX10_lies_106 (kf_0_2 (kf_10_1 h_this)) (af_0_2 (kf_10_1 h_this)) hg106 ?_
        obtain rfl := Option.some.inj h
        exact E_i (pc := 107) dX10_lies_107 rfl hp
      · have q1 := q
        have h := ite_f q h
        by_cases q : v2 = 2
        · have h := ite_t q h
          refine V_tableIn (tgt := 108) (pc := 63) dX10_lies_63 (by rw [q]; decide) (by rw [q]; decide) (by rw [q]; rfl) rfl ?_
          refine V_aload_n (i := 0) (pc := 108) dX10_lies_108 rfl rfl ?_
          refine V_getR (b := (this + 27)) (pc := 109) dX10_lies_109 fl_PL_19 h_this rfl rfl ?_
          refine V_iload_n (i := 1) (pc := 112) dX10_lies_112 rfl rfl ?_
          obtain ⟨r113, e113, h⟩ := bnd h
          refine V_invV1 (c := 0) (pc := 113) dX10_lies_113 (e_Ca_tonsOf (kf_10_1 h_this) e113) iv_PL_179 (rm_PL_lies_Ca_tonsOf _ _ _) rfl (kf_10_1 h_this) cf_0 rfl (Nat.le_of_ble_eq_true rfl) rfl ?_
          obtain rfl := Option.some.inj h
          exact E_i (pc := 116) dX10_lies_116 rfl hp
        · have q2 := q
          have h := ite_f q h
          refine V_tableOut (tgt := 117) (pc := 63) dX10_lies_63 (ts_out_0_2 q0 q1 q2) rfl ?_
          refine V_aload_n (i := 0) (pc := 117) dX10_lies_117 rfl rfl ?_
          refine V_getR (b := (this + 27)) (pc := 118) dX10_lies_118 fl_PL_19 h_this rfl rfl ?_
          refine V_iload_n (i := 1) (pc := 121) dX10_lies_121 rfl rfl ?_
          refine V_iload_n (i := 3) (pc := 122) dX10_lies_122 rfl rfl ?_
          obtain ⟨r123, e123, h⟩ := bnd h
          refine V_invV1 (c := 0) (pc := 123) dX10_lies_123 (e_Ca_unitsIn (kf_10_1 h_this) e123) iv_PL_183 (rm_PL_lies_Ca_unitsIn _ _ _) rfl (kf_10_1 h_this) cf_0 rfl (Nat.le_of_ble_eq_true rfl) rfl ?_
          obtain rfl := Option.some.inj h
          exact E_i (pc := 126) dX10_lies_126 rfl hp
  · have h := ite_t q h
    refine V_iconst (v := (-1)) (pc := 60) dX10_lies_60 rfl ?_
    obtain rfl := Option.some.inj h
    exact E_i (pc := 61) dX10_lies_61 rfl hp
theorem k_PL_lies_b12 {g : GE} {this : Nat} {v1 : Int32} {v2 : Int32} {k0 : Int32}  {m : Mem} (h_this : kd this = 11) {r : Option AV} {m' : Mem} {x : Int32} (h : PL_lies_b12 this v1 v2 k0 m = some x) (hp : (fun x : Int32 => r = some (vi x) ∧ m' = m) x) : V g Y_PL_lies 12 [some (vr this), some (vi v1), some (vi v2), none] [vi k0] m (PM g Y_PL_lies r m') := by
  unfold PL_lies_b12 at h
  refine V_istore_n (i := 3) (ls' := [some (vr this), some (vi v1), some (vi v2), some (vi k0)]) (pc := 12) dX10_lies_12 rfl (Nat.le_of_ble_eq_true rfl) rfl ?_
  refine V_iload_n (i := 1) (pc := 13) dX10_lies_13 rfl rfl ?_
  obtain ⟨r14, e14, h⟩ := bnd h
  refine V_invS1 (pc := 14) dX10_lies_14 (e_PL_isHeap  e14) is_PL_113 (rm_PL_lies_PL_isHeap _ _ _) rfl (Nat.le_of_ble_eq_true rfl) rfl ?_
  refine V_if_eq (pc := 17) (tgt := 46) dX10_lies_17 rfl (fun q => ?_) (fun q => ?_)
  · have h := ite_t q h
    refine V_bipush (v := (-2)) (pc := 46) dX10_lies_46 rfl ?_
    obtain rfl := Option.some.inj h
    exact E_i (pc := 48) dX10_lies_48 rfl hp
  · have h := ite_f q h
    refine V_iload_n (i := 2) (pc := 20) dX10_lies_20 rfl rfl ?_
    refine V_if_lt (pc := 21) (tgt := 46) dX10_lies_21 rfl (fun q => ?_) (fun q => ?_)
    · have h := ite_t q h
      refine V_bipush (v := (-2)) (pc := 46) dX10_lies_46 rfl ?_
      obtain rfl := Option.some.inj h
      exact E_i (pc := 48) dX10_lies_48 rfl hp
    · have h := ite_f q h
      refine V_iload_n (i := 2) (pc := 24) dX10_lies_24 rfl rfl ?_
      refine V_iconst (v := 2) (pc := 25) dX10_lies_25 rfl ?_
      refine V_icmp_le (pc := 26) (tgt := 49) dX10_lies_26 rfl (fun q => ?_) (fun q => ?_)
      · have h := ite_t q h
        exact k_PL_lies_b49 h_this h hp
      · have h := ite_f q h
        refine V_aload_n (i := 0) (pc := 29) dX10_lies_29 rfl rfl ?_
        refine V_getR (b := (this + 27)) (pc := 30) dX10_lies_30 fl_PL_19 h_this rfl rfl ?_
        refine V_getR (b := (this + 28)) (pc := 33) dX10_lies_33 fl_PL_102 (kf_10_1 h_this) rfl rfl ?_
        refine V_getR (b := (this + 38)) (pc := 36) dX10_lies_36 fl_PL_130 (kf_0_0 (kf_10_1 h_this)) rfl rfl ?_
        refine V_iload_n (i := 3) (pc := 39) dX10_lies_39 rfl rfl ?_
        obtain ⟨r40, e40, h⟩ := bnd h
        refine V_invV1 (c := 8) (pc := 40) dX10_lies_40 (e_Ta_has (kf_2_16 (kf_0_0 (kf_10_1 h_this))) e40) iv_PL_134 (rm_PL_lies_Ta_has _ _ _) rfl (kf_2_16 (kf_0_0 (kf_10_1 h_this))) cf_8 rfl (Nat.le_of_ble_eq_true rfl) rfl ?_
        refine V_if_ne (pc := 43) (tgt := 49) dX10_lies_43 rfl (fun q => ?_) (fun q => ?_)
        · have h := ite_f q h
          exact k_PL_lies_b49 h_this h hp
        · have h := ite_t q h
          refine V_bipush (v := (-2)) (pc := 46) dX10_lies_46 rfl ?_
          obtain rfl := Option.some.inj h
          exact E_i (pc := 48) dX10_lies_48 rfl hp
theorem k_PL_lies {g : GE} {this : Nat} {v1 : Int32} {v2 : Int32} {m : Mem} (h_this : kd this = 11) {r : Option AV} {m' : Mem} {x : Int32} (h : PL_lies this v1 v2 m = some x) (hp : (fun x : Int32 => r = some (vi x) ∧ m' = m) x) : V g Y_PL_lies 0 [some (vr this), some (vi v1), some (vi v2), none] [] m (PM g Y_PL_lies r m') := by
  unfold PL_lies at h
  refine V_iload_n (i := 2) (pc := 0) dX10_lies_0 rfl rfl ?_
  refine V_iconst (v := 3) (pc := 1) dX10_lies_1 rfl ?_
  refine V_icmp_ge (pc := 2) (tgt := 9) dX10_lies_2 rfl (fun q => ?_) (fun q => ?_)
  · have h := ite_t q h
    refine V_iload_n (i := 2) (pc := 9) dX10_lies_9 rfl rfl ?_
    refine V_iconst (v := 3) (pc := 10) dX10_lies_10 rfl ?_
    refine V_isub (pc := 11) dX10_lies_11 ?_
    exact k_PL_lies_b12 h_this h hp
  · have h := ite_f q h
    refine V_iconst (v := (-1)) (pc := 5) dX10_lies_5 rfl ?_
    refine V_goto (tgt := 12) (pc := 6) dX10_lies_6 rfl ?_
    exact k_PL_lies_b12 h_this h hp
theorem e_PL_lies {g : GE} {this : Nat} {v1 : Int32} {v2 : Int32} {m : Mem} (h_this : kd this = 11) {x : Int32} (h : PL_lies this v1 v2 m = some x) : Ev g Y_PL_lies [vr this, vi v1, vi v2] m (some (vi x)) m :=
  Ev_of 1 (by decide +kernel) rfl (Nat.le_of_ble_eq_true rfl) rfl (k_PL_lies h_this h ⟨rfl, rfl⟩)
theorem k_Fl_cellsBetween_b29 {g : GE} {this : Nat} {v4 : Int32} {k0 : Int32}  {m : Mem} (h_this : kd this = 3) {r : Option AV} {m' : Mem} {x : Int32} (h : Fl_cellsBetween_b29 this v4 k0 m = some x) (hp : (fun x : Int32 => r = some (vi x) ∧ m' = m) x) : V g Y_Fl_cellsBetween 29 [none, none, none, none, some (vi v4), none] [vi k0] m (PM g Y_Fl_cellsBetween r m') := by
  unfold Fl_cellsBetween_b29 at h
  refine V_istore (i := 5) (ls' := [none, none, none, none, some (vi v4), some (vi k0)]) (pc := 29) dX2_cellsBetween_29 (Nat.le_of_ble_eq_true rfl) rfl ?_
  refine V_iload (i := 5) (pc := 31) dX2_cellsBetween_31 rfl ?_
  refine V_iload (i := 4) (pc := 33) dX2_cellsBetween_33 rfl ?_
  refine V_icmp_lt (pc := 35) (tgt := 46) dX2_cellsBetween_35 rfl (fun q => ?_) (fun q => ?_)
  · have h := ite_t q h
    refine V_iload (i := 4) (pc := 46) dX2_cellsBetween_46 rfl ?_
    refine V_iconst (v := 1) (pc := 48) dX2_cellsBetween_48 rfl ?_
    refine V_isub (pc := 49) dX2_cellsBetween_49 ?_
    refine V_iload (i := 5) (pc := 50) dX2_cellsBetween_50 rfl ?_
    refine V_isub (pc := 52) dX2_cellsBetween_52 ?_
    obtain rfl := Option.some.inj h
    exact E_i (pc := 53) dX2_cellsBetween_53 rfl hp
  · have h := ite_f q h
    refine V_iload (i := 5) (pc := 38) dX2_cellsBetween_38 rfl ?_
    refine V_iload (i := 4) (pc := 40) dX2_cellsBetween_40 rfl ?_
    refine V_isub (pc := 42) dX2_cellsBetween_42 ?_
    refine V_goto (tgt := 53) (pc := 43) dX2_cellsBetween_43 rfl ?_
    obtain rfl := Option.some.inj h
    exact E_i (pc := 53) dX2_cellsBetween_53 rfl hp
theorem k_Fl_cellsBetween {g : GE} {this : Nat} {v1 : Int32} {v2 : Int32} {v3 : Int32} {m : Mem} (h_this : kd this = 3) {r : Option AV} {m' : Mem} {x : Int32} (h : Fl_cellsBetween this v1 v2 v3 m = some x) (hp : (fun x : Int32 => r = some (vi x) ∧ m' = m) x) : V g Y_Fl_cellsBetween 0 [some (vr this), some (vi v1), some (vi v2), some (vi v3), none, none] [] m (PM g Y_Fl_cellsBetween r m') := by
  unfold Fl_cellsBetween at h
  refine V_aload_n (i := 0) (pc := 0) dX2_cellsBetween_0 rfl rfl ?_
  refine V_getR (b := (this + 1)) (pc := 1) dX2_cellsBetween_1 fl_Fl_14 h_this rfl rfl ?_
  refine V_iload_n (i := 1) (pc := 4) dX2_cellsBetween_4 rfl rfl ?_
  refine V_iconst (v := 1) (pc := 5) dX2_cellsBetween_5 rfl ?_
  obtain ⟨r6, e6, h⟩ := bnd h
  refine V_invV1 (c := 8) (pc := 6) dX2_cellsBetween_6 (e_Ta_at (kf_2_15 h_this) e6) iv_Fl_86 (rm_Fl_cellsBetween_Ta_at _ _ _) rfl (kf_2_15 h_this) cf_8 rfl (Nat.le_of_ble_eq_true rfl) rfl ?_
  refine V_istore (i := 4) (ls' := [some (vr this), some (vi v1), some (vi v2), some (vi v3), some (vi r6), none]) (pc := 9) dX2_cellsBetween_9 (Nat.le_of_ble_eq_true rfl) rfl ?_
  refine V_aload_n (i := 0) (pc := 11) dX2_cellsBetween_11 rfl rfl ?_
  refine V_getR (b := (this + 1)) (pc := 12) dX2_cellsBetween_12 fl_Fl_14 h_this rfl rfl ?_
  refine V_iload_n (i := 1) (pc := 15) dX2_cellsBetween_15 rfl rfl ?_
  refine V_iconst (v := 0) (pc := 16) dX2_cellsBetween_16 rfl ?_
  obtain ⟨r17, e17, h⟩ := bnd h
  refine V_invV1 (c := 8) (pc := 17) dX2_cellsBetween_17 (e_Ta_at (kf_2_15 h_this) e17) iv_Fl_86 (rm_Fl_cellsBetween_Ta_at _ _ _) rfl (kf_2_15 h_this) cf_8 rfl (Nat.le_of_ble_eq_true rfl) rfl ?_
  refine V_iconst (v := 1) (pc := 20) dX2_cellsBetween_20 rfl ?_
  refine V_icmp_ne (pc := 21) (tgt := 28) dX2_cellsBetween_21 rfl (fun q => ?_) (fun q => ?_)
  · have h := ite_f q h
    refine V_iload_n (i := 2) (pc := 28) dX2_cellsBetween_28 rfl rfl ?_
    refine V_sub (ls' := [none, none, none, none, some (vi r6), none]) (And.intro rfl trivial) ?_
    exact k_Fl_cellsBetween_b29 h_this h hp
  · have h := ite_t q h
    refine V_iload_n (i := 3) (pc := 24) dX2_cellsBetween_24 rfl rfl ?_
    refine V_goto (tgt := 29) (pc := 25) dX2_cellsBetween_25 rfl ?_
    refine V_sub (ls' := [none, none, none, none, some (vi r6), none]) (And.intro rfl trivial) ?_
    exact k_Fl_cellsBetween_b29 h_this h hp
theorem e_Fl_cellsBetween {g : GE} {this : Nat} {v1 : Int32} {v2 : Int32} {v3 : Int32} {m : Mem} (h_this : kd this = 3) {x : Int32} (h : Fl_cellsBetween this v1 v2 v3 m = some x) : Ev g Y_Fl_cellsBetween [vr this, vi v1, vi v2, vi v3] m (some (vi x)) m :=
  Ev_of 2 (by decide +kernel) rfl (Nat.le_of_ble_eq_true rfl) rfl (k_Fl_cellsBetween h_this h ⟨rfl, rfl⟩)
theorem k_Ca_tonsNear_b49 {g : GE} {this : Nat} {v1 : Int32} {v2 : Int32} {v3 : Int32}  {m : Mem} (h_this : kd this = 1) {r : Option AV} {m' : Mem} {x : (Int32 × Int32) ⊕ (Int32)} (h : Ca_tonsNear_b49 this v1 v2 v3 m = some x) (hp : (Sum.elim (fun s : Int32 × Int32 => V g Y_Ca_tonsNear 4 [some (vr this), some (vi v1), some (vi s.1), some (vi s.2)] [] m (PM g Y_Ca_tonsNear r m')) (fun x : Int32 => r = some (vi x) ∧ m' = m)) x) : V g Y_Ca_tonsNear 49 [some (vr this), some (vi v1), some (vi v2), some (vi v3)] [] m (PM g Y_Ca_tonsNear r m') := by
  unfold Ca_tonsNear_b49 at h
  refine V_iinc (i := 3) (v := (v3 + 1)) (ls' := [some (vr this), some (vi v1), some (vi v2), some (vi (v3 + 1))]) (pc := 49) dX0_tonsNear_49 rfl rfl (Nat.le_of_ble_eq_true rfl) rfl ?_
  refine V_goto (tgt := 4) (pc := 52) dX0_tonsNear_52 rfl ?_
  obtain rfl := Option.some.inj h
  exact hp
theorem k_Ca_tonsNear_l4 {g : GE} {this : Nat} {v1 : Int32} {v2 : Int32} {v3 : Int32} {m : Mem} (h_this : kd this = 1) {r : Option AV} {m' : Mem} {x : (Int32 × Int32) ⊕ (Int32)} (h : Ca_tonsNear_l4 this v1 v2 v3 m = some x) (hp : (Sum.elim (fun s : Int32 × Int32 => V g Y_Ca_tonsNear 4 [some (vr this), some (vi v1), some (vi s.1), some (vi s.2)] [] m (PM g Y_Ca_tonsNear r m')) (fun x : Int32 => r = some (vi x) ∧ m' = m)) x) : V g Y_Ca_tonsNear 4 [some (vr this), some (vi v1), some (vi v2), some (vi v3)] [] m (PM g Y_Ca_tonsNear r m') := by
  unfold Ca_tonsNear_l4 at h
  refine V_iload_n (i := 3) (pc := 4) dX0_tonsNear_4 rfl rfl ?_
  refine V_bipush (v := 8) (pc := 5) dX0_tonsNear_5 rfl ?_
  refine V_icmp_ge (pc := 7) (tgt := 55) dX0_tonsNear_7 rfl (fun q => ?_) (fun q => ?_)
  · have h := ite_t q h
    obtain ⟨y1, hu1, rfl⟩ := up_e h
    have h := hu1
    refine V_iload_n (i := 2) (pc := 55) dX0_tonsNear_55 rfl rfl ?_
    obtain rfl := Option.some.inj h
    exact E_i (pc := 56) dX0_tonsNear_56 rfl hp
  · have h := ite_f q h
    refine V_aload_n (i := 0) (pc := 10) dX0_tonsNear_10 rfl rfl ?_
    refine V_iload_n (i := 3) (pc := 11) dX0_tonsNear_11 rfl rfl ?_
    obtain ⟨r12, e12, h⟩ := bnd h
    refine V_invV1 (c := 0) (pc := 12) dX0_tonsNear_12 (e_Ca_hasHeap h_this e12) iv_Ca_77 (rm_Ca_tonsNear_Ca_hasHeap _ _ _) rfl h_this cf_0 rfl (Nat.le_of_ble_eq_true rfl) rfl ?_
    refine V_if_eq (pc := 15) (tgt := 49) dX0_tonsNear_15 rfl (fun q => ?_) (fun q => ?_)
    · have h := ite_t q h
      exact k_Ca_tonsNear_b49 h_this h hp
    · have h := ite_f q h
      refine V_aload_n (i := 0) (pc := 18) dX0_tonsNear_18 rfl rfl ?_
      refine V_getR (b := (this + 1)) (pc := 19) dX0_tonsNear_19 fl_Ca_12 h_this rfl rfl ?_
      refine V_iload_n (i := 1) (pc := 22) dX0_tonsNear_22 rfl rfl ?_
      refine V_aload_n (i := 0) (pc := 23) dX0_tonsNear_23 rfl rfl ?_
      refine V_getR (b := (this + 25)) (pc := 24) dX0_tonsNear_24 fl_Ca_18 h_this rfl rfl ?_
      refine V_iload_n (i := 3) (pc := 27) dX0_tonsNear_27 rfl rfl ?_
      obtain ⟨hg28, h⟩ := gd_e h
      refine V_iald (pc := 28) dX0_tonsNear_28 (kf_0_1 h_this) (af_0_1 h_this) hg28 ?_
      refine V_aload_n (i := 0) (pc := 29) dX0_tonsNear_29 rfl rfl ?_
      refine V_getR (b := (this + 26)) (pc := 30) dX0_tonsNear_30 fl_Ca_22 h_this rfl rfl ?_
      refine V_iload_n (i := 3) (pc := 33) dX0_tonsNear_33 rfl rfl ?_
      obtain ⟨hg34, h⟩ := gd_e h
      refine V_iald (pc := 34) dX0_tonsNear_34 (kf_0_2 h_this) (af_0_2 h_this) hg34 ?_
      obtain ⟨r35, e35, h⟩ := bnd h
      refine V_invV1 (c := 2) (pc := 35) dX0_tonsNear_35 (e_Fl_cellsBetween (kf_0_0 h_this) e35) iv_Ca_100 (rm_Ca_tonsNear_Fl_cellsBetween _ _ _) rfl (kf_0_0 h_this) cf_2 rfl (Nat.le_of_ble_eq_true rfl) rfl ?_
      refine V_if_ne (pc := 38) (tgt := 49) dX0_tonsNear_38 rfl (fun q => ?_) (fun q => ?_)
      · have h := ite_f q h
        exact k_Ca_tonsNear_b49 h_this h hp
      · have h := ite_t q h
        refine V_iload_n (i := 2) (pc := 41) dX0_tonsNear_41 rfl rfl ?_
        refine V_aload_n (i := 0) (pc := 42) dX0_tonsNear_42 rfl rfl ?_
        refine V_iload_n (i := 3) (pc := 43) dX0_tonsNear_43 rfl rfl ?_
        obtain ⟨r44, e44, h⟩ := bnd h
        refine V_invV1 (c := 0) (pc := 44) dX0_tonsNear_44 (e_Ca_tonsOf h_this e44) iv_Ca_80 (rm_Ca_tonsNear_Ca_tonsOf _ _ _) rfl h_this cf_0 rfl (Nat.le_of_ble_eq_true rfl) rfl ?_
        refine V_iadd (pc := 47) dX0_tonsNear_47 ?_
        refine V_istore_n (i := 2) (ls' := [some (vr this), some (vi v1), some (vi (v2 + r44)), some (vi v3)]) (pc := 48) dX0_tonsNear_48 rfl (Nat.le_of_ble_eq_true rfl) rfl ?_
        exact k_Ca_tonsNear_b49 h_this h hp
theorem k_Ca_tonsNear {g : GE} {this : Nat} {v1 : Int32} {m : Mem} (h_this : kd this = 1) {r : Option AV} {m' : Mem} {x : Int32} (h : Ca_tonsNear this v1 m = some x) (hp : (fun x : Int32 => r = some (vi x) ∧ m' = m) x) : V g Y_Ca_tonsNear 0 [some (vr this), some (vi v1), none, none] [] m (PM g Y_Ca_tonsNear r m') := by
  unfold Ca_tonsNear at h
  refine V_iconst (v := 0) (pc := 0) dX0_tonsNear_0 rfl ?_
  refine V_istore_n (i := 2) (ls' := [some (vr this), some (vi v1), some (vi 0), none]) (pc := 1) dX0_tonsNear_1 rfl (Nat.le_of_ble_eq_true rfl) rfl ?_
  refine V_iconst (v := 0) (pc := 2) dX0_tonsNear_2 rfl ?_
  refine V_istore_n (i := 3) (ls' := [some (vr this), some (vi v1), some (vi 0), some (vi 0)]) (pc := 3) dX0_tonsNear_3 rfl (Nat.le_of_ble_eq_true rfl) rfl ?_
  exact loop_V (A := fun s : Int32 × Int32 => V g Y_Ca_tonsNear 4 [some (vr this), some (vi v1), some (vi s.1), some (vi s.2)] [] m (PM g Y_Ca_tonsNear r m')) (fun s x h hp => k_Ca_tonsNear_l4 h_this h hp) (0, 0) _ h hp
theorem e_Ca_tonsNear {g : GE} {this : Nat} {v1 : Int32} {m : Mem} (h_this : kd this = 1) {x : Int32} (h : Ca_tonsNear this v1 m = some x) : Ev g Y_Ca_tonsNear [vr this, vi v1] m (some (vi x)) m :=
  Ev_of 2 (by decide +kernel) rfl (Nat.le_of_ble_eq_true rfl) rfl (k_Ca_tonsNear h_this h ⟨rfl, rfl⟩)
theorem k_PL_near {g : GE} {this : Nat} {v1 : Int32} {m : Mem} (h_this : kd this = 11) {r : Option AV} {m' : Mem} {x : Int32} (h : PL_near this v1 m = some x) (hp : (fun x : Int32 => r = some (vi x) ∧ m' = m) x) : V g Y_PL_near 0 [some (vr this), some (vi v1)] [] m (PM g Y_PL_near r m') := by
  unfold PL_near at h
  refine V_aload_n (i := 0) (pc := 0) dX10_near_0 rfl rfl ?_
  refine V_getR (b := (this + 27)) (pc := 1) dX10_near_1 fl_PL_19 h_this rfl rfl ?_
  refine V_getR (b := (this + 28)) (pc := 4) dX10_near_4 fl_PL_102 (kf_10_1 h_this) rfl rfl ?_
  refine V_getR (b := (this + 29)) (pc := 7) dX10_near_7 fl_PL_186 (kf_0_0 (kf_10_1 h_this)) rfl rfl ?_
  refine V_iload_n (i := 1) (pc := 10) dX10_near_10 rfl rfl ?_
  obtain ⟨r11, e11, h⟩ := bnd h
  refine V_invV1 (c := 8) (pc := 11) dX10_near_11 (e_Ta_has (kf_2_15 (kf_0_0 (kf_10_1 h_this))) e11) iv_PL_134 (rm_PL_near_Ta_has _ _ _) rfl (kf_2_15 (kf_0_0 (kf_10_1 h_this))) cf_8 rfl (Nat.le_of_ble_eq_true rfl) rfl ?_
  refine V_if_eq (pc := 14) (tgt := 28) dX10_near_14 rfl (fun q => ?_) (fun q => ?_)
  · have h := ite_t q h
    refine V_bipush (v := (-2)) (pc := 28) dX10_near_28 rfl ?_
    obtain rfl := Option.some.inj h
    exact E_i (pc := 30) dX10_near_30 rfl hp
  · have h := ite_f q h
    refine V_aload_n (i := 0) (pc := 17) dX10_near_17 rfl rfl ?_
    refine V_getR (b := (this + 27)) (pc := 18) dX10_near_18 fl_PL_19 h_this rfl rfl ?_
    refine V_iload_n (i := 1) (pc := 21) dX10_near_21 rfl rfl ?_
    obtain ⟨r22, e22, h⟩ := bnd h
    refine V_invV1 (c := 0) (pc := 22) dX10_near_22 (e_Ca_tonsNear (kf_10_1 h_this) e22) iv_PL_189 (rm_PL_near_Ca_tonsNear _ _ _) rfl (kf_10_1 h_this) cf_0 rfl (Nat.le_of_ble_eq_true rfl) rfl ?_
    refine V_goto (tgt := 30) (pc := 25) dX10_near_25 rfl ?_
    obtain rfl := Option.some.inj h
    exact E_i (pc := 30) dX10_near_30 rfl hp
theorem e_PL_near {g : GE} {this : Nat} {v1 : Int32} {m : Mem} (h_this : kd this = 11) {x : Int32} (h : PL_near this v1 m = some x) : Ev g Y_PL_near [vr this, vi v1] m (some (vi x)) m :=
  Ev_of 0 (by decide +kernel) rfl (Nat.le_of_ble_eq_true rfl) rfl (k_PL_near h_this h ⟨rfl, rfl⟩)
theorem k_Fl_oddsUnder_b73 {g : GE} {this : Nat} {v3 : Int32}  {m : Mem} (h_this : kd this = 3) {r : Option AV} {m' : Mem} {x : Int32} (h : Fl_oddsUnder_b73 this v3 m = some x) (hp : (fun x : Int32 => r = some (vi x) ∧ m' = m) x) : V g Y_Fl_oddsUnder 73 [none, none, none, some (vi v3)] [] m (PM g Y_Fl_oddsUnder r m') := by
  unfold Fl_oddsUnder_b73 at h
  refine V_iload_n (i := 3) (pc := 73) dX2_oddsUnder_73 rfl rfl ?_
  refine V_sipush (v := 10000) (pc := 74) dX2_oddsUnder_74 rfl ?_
  refine V_mmin (pc := 77) dX2_oddsUnder_77 ma_Fl_100 (rmM_Fl_oddsUnder _ _ _) (Nat.le_of_ble_eq_true rfl) ?_
  obtain rfl := Option.some.inj h
  exact E_i (pc := 80) dX2_oddsUnder_80 rfl hp
theorem k_Fl_oddsUnder {g : GE} {this : Nat} {v1 : Int32} {v2 : Int32} {m : Mem} (h_this : kd this = 3) {r : Option AV} {m' : Mem} {x : Int32} (h : Fl_oddsUnder this v1 v2 m = some x) (hp : (fun x : Int32 => r = some (vi x) ∧ m' = m) x) : V g Y_Fl_oddsUnder 0 [some (vr this), some (vi v1), some (vi v2), none] [] m (PM g Y_Fl_oddsUnder r m') := by
  unfold Fl_oddsUnder at h
  refine V_aload_n (i := 0) (pc := 0) dX2_oddsUnder_0 rfl rfl ?_
  refine V_getR (b := (this + 1)) (pc := 1) dX2_oddsUnder_1 fl_Fl_14 h_this rfl rfl ?_
  refine V_iload_n (i := 1) (pc := 4) dX2_oddsUnder_4 rfl rfl ?_
  refine V_iconst (v := 2) (pc := 5) dX2_oddsUnder_5 rfl ?_
  obtain ⟨r6, e6, h⟩ := bnd h
  refine V_invV1 (c := 8) (pc := 6) dX2_oddsUnder_6 (e_Ta_at (kf_2_15 h_this) e6) iv_Fl_86 (rm_Fl_oddsUnder_Ta_at _ _ _) rfl (kf_2_15 h_this) cf_8 rfl (Nat.le_of_ble_eq_true rfl) rfl ?_
  refine V_aload_n (i := 0) (pc := 9) dX2_oddsUnder_9 rfl rfl ?_
  refine V_getI (pc := 10) dX2_oddsUnder_10 fl_Fl_45 h_this rfl ?_
  refine V_aload_n (i := 0) (pc := 13) dX2_oddsUnder_13 rfl rfl ?_
  refine V_getR (b := (this + 1)) (pc := 14) dX2_oddsUnder_14 fl_Fl_14 h_this rfl rfl ?_
  refine V_iload_n (i := 1) (pc := 17) dX2_oddsUnder_17 rfl rfl ?_
  refine V_iconst (v := 3) (pc := 18) dX2_oddsUnder_18 rfl ?_
  obtain ⟨r19, e19, h⟩ := bnd h
  refine V_invV1 (c := 8) (pc := 19) dX2_oddsUnder_19 (e_Ta_at (kf_2_15 h_this) e19) iv_Fl_86 (rm_Fl_oddsUnder_Ta_at _ _ _) rfl (kf_2_15 h_this) cf_8 rfl (Nat.le_of_ble_eq_true rfl) rfl ?_
  refine V_imul (pc := 22) dX2_oddsUnder_22 ?_
  refine V_iadd (pc := 23) dX2_oddsUnder_23 ?_
  refine V_aload_n (i := 0) (pc := 24) dX2_oddsUnder_24 rfl rfl ?_
  refine V_getI (pc := 25) dX2_oddsUnder_25 fl_Fl_48 h_this rfl ?_
  refine V_aload_n (i := 0) (pc := 28) dX2_oddsUnder_28 rfl rfl ?_
  refine V_getR (b := (this + 1)) (pc := 29) dX2_oddsUnder_29 fl_Fl_14 h_this rfl rfl ?_
  refine V_iload_n (i := 1) (pc := 32) dX2_oddsUnder_32 rfl rfl ?_
  refine V_iconst (v := 4) (pc := 33) dX2_oddsUnder_33 rfl ?_
  obtain ⟨r34, e34, h⟩ := bnd h
  refine V_invV1 (c := 8) (pc := 34) dX2_oddsUnder_34 (e_Ta_at (kf_2_15 h_this) e34) iv_Fl_86 (rm_Fl_oddsUnder_Ta_at _ _ _) rfl (kf_2_15 h_this) cf_8 rfl (Nat.le_of_ble_eq_true rfl) rfl ?_
  refine V_imul (pc := 37) dX2_oddsUnder_37 ?_
  refine V_iadd (pc := 38) dX2_oddsUnder_38 ?_
  refine V_aload_n (i := 0) (pc := 39) dX2_oddsUnder_39 rfl rfl ?_
  refine V_getR (b := (this + 1)) (pc := 40) dX2_oddsUnder_40 fl_Fl_14 h_this rfl rfl ?_
  refine V_iload_n (i := 1) (pc := 43) dX2_oddsUnder_43 rfl rfl ?_
  refine V_iconst (v := 5) (pc := 44) dX2_oddsUnder_44 rfl ?_
  obtain ⟨r45, e45, h⟩ := bnd h
  refine V_invV1 (c := 8) (pc := 45) dX2_oddsUnder_45 (e_Ta_at (kf_2_15 h_this) e45) iv_Fl_86 (rm_Fl_oddsUnder_Ta_at _ _ _) rfl (kf_2_15 h_this) cf_8 rfl (Nat.le_of_ble_eq_true rfl) rfl ?_
  refine V_iload_n (i := 2) (pc := 48) dX2_oddsUnder_48 rfl rfl ?_
  refine V_imul (pc := 49) dX2_oddsUnder_49 ?_
  refine V_bipush (v := 100) (pc := 50) dX2_oddsUnder_50 rfl ?_
  refine V_idiv (pc := 52) dX2_oddsUnder_52 (by decide) ?_
  refine V_iadd (pc := 53) dX2_oddsUnder_53 ?_
  refine V_istore_n (i := 3) (ls' := [some (vr this), some (vi v1), some (vi v2), some (vi (((r6 + ((rI m this 5) * r19)) + ((rI m this 6) * r34)) + ((r45 * v2) / 100)))]) (pc := 54) dX2_oddsUnder_54 rfl (Nat.le_of_ble_eq_true rfl) rfl ?_
  refine V_aload_n (i := 0) (pc := 55) dX2_oddsUnder_55 rfl rfl ?_
  refine V_getR (b := (this + 1)) (pc := 56) dX2_oddsUnder_56 fl_Fl_14 h_this rfl rfl ?_
  refine V_iload_n (i := 1) (pc := 59) dX2_oddsUnder_59 rfl rfl ?_
  refine V_bipush (v := 6) (pc := 60) dX2_oddsUnder_60 rfl ?_
  obtain ⟨r62, e62, h⟩ := bnd h
  refine V_invV1 (c := 8) (pc := 62) dX2_oddsUnder_62 (e_Ta_at (kf_2_15 h_this) e62) iv_Fl_86 (rm_Fl_oddsUnder_Ta_at _ _ _) rfl (kf_2_15 h_this) cf_8 rfl (Nat.le_of_ble_eq_true rfl) rfl ?_
  refine V_iconst (v := 1) (pc := 65) dX2_oddsUnder_65 rfl ?_
  refine V_icmp_ne (pc := 66) (tgt := 73) dX2_oddsUnder_66 rfl (fun q => ?_) (fun q => ?_)
  · have h := ite_f q h
    refine V_sub (ls' := [none, none, none, some (vi (((r6 + ((rI m this 5) * r19)) + ((rI m this 6) * r34)) + ((r45 * v2) / 100)))]) (And.intro rfl trivial) ?_
    exact k_Fl_oddsUnder_b73 h_this h hp
  · have h := ite_t q h
    refine V_iload_n (i := 3) (pc := 69) dX2_oddsUnder_69 rfl rfl ?_
    refine V_iconst (v := 2) (pc := 70) dX2_oddsUnder_70 rfl ?_
    refine V_imul (pc := 71) dX2_oddsUnder_71 ?_
    refine V_istore_n (i := 3) (ls' := [some (vr this), some (vi v1), some (vi v2), some (vi ((((r6 + ((rI m this 5) * r19)) + ((rI m this 6) * r34)) + ((r45 * v2) / 100)) * 2))]) (pc := 72) dX2_oddsUnder_72 rfl (Nat.le_of_ble_eq_true rfl) rfl ?_
    refine V_sub (ls' := [none, none, none, some (vi ((((r6 + ((rI m this 5) * r19)) + ((rI m this 6) * r34)) + ((r45 * v2) / 100)) * 2))]) (And.intro rfl trivial) ?_
    exact k_Fl_oddsUnder_b73 h_this h hp
theorem e_Fl_oddsUnder {g : GE} {this : Nat} {v1 : Int32} {v2 : Int32} {m : Mem} (h_this : kd this = 3) {x : Int32} (h : Fl_oddsUnder this v1 v2 m = some x) : Ev g Y_Fl_oddsUnder [vr this, vi v1, vi v2] m (some (vi x)) m :=
  Ev_of 1 (by decide +kernel) rfl (Nat.le_of_ble_eq_true rfl) rfl (k_Fl_oddsUnder h_this h ⟨rfl, rfl⟩)
theorem k_Ca_oddsOf {g : GE} {this : Nat} {v1 : Int32} {m : Mem} (h_this : kd this = 1) {r : Option AV} {m' : Mem} {x : Int32} (h : Ca_oddsOf this v1 m = some x) (hp : (fun x : Int32 => r = some (vi x) ∧ m' = m) x) : V g Y_Ca_oddsOf 0 [some (vr this), some (vi v1)] [] m (PM g Y_Ca_oddsOf r m') := by
  unfold Ca_oddsOf at h
  refine V_aload_n (i := 0) (pc := 0) dX0_oddsOf_0 rfl rfl ?_
  refine V_getR (b := (this + 1)) (pc := 1) dX0_oddsOf_1 fl_Ca_12 h_this rfl rfl ?_
  refine V_iload_n (i := 1) (pc := 4) dX0_oddsOf_4 rfl rfl ?_
  refine V_aload_n (i := 0) (pc := 5) dX0_oddsOf_5 rfl rfl ?_
  refine V_iload_n (i := 1) (pc := 6) dX0_oddsOf_6 rfl rfl ?_
  obtain ⟨r7, e7, h⟩ := bnd h
  refine V_invV1 (c := 0) (pc := 7) dX0_oddsOf_7 (e_Ca_tonsNear h_this e7) iv_Ca_104 (rm_Ca_oddsOf_Ca_tonsNear _ _ _) rfl h_this cf_0 rfl (Nat.le_of_ble_eq_true rfl) rfl ?_
  obtain ⟨r10, e10, h⟩ := bnd h
  refine V_invV1 (c := 2) (pc := 10) dX0_oddsOf_10 (e_Fl_oddsUnder (kf_0_0 h_this) e10) iv_Ca_107 (rm_Ca_oddsOf_Fl_oddsUnder _ _ _) rfl (kf_0_0 h_this) cf_2 rfl (Nat.le_of_ble_eq_true rfl) rfl ?_
  obtain rfl := Option.some.inj h
  exact E_i (pc := 13) dX0_oddsOf_13 rfl hp
theorem e_Ca_oddsOf {g : GE} {this : Nat} {v1 : Int32} {m : Mem} (h_this : kd this = 1) {x : Int32} (h : Ca_oddsOf this v1 m = some x) : Ev g Y_Ca_oddsOf [vr this, vi v1] m (some (vi x)) m :=
  Ev_of 0 (by decide +kernel) rfl (Nat.le_of_ble_eq_true rfl) rfl (k_Ca_oddsOf h_this h ⟨rfl, rfl⟩)
theorem k_PL_odds {g : GE} {this : Nat} {v1 : Int32} {m : Mem} (h_this : kd this = 11) {r : Option AV} {m' : Mem} {x : Int32} (h : PL_odds this v1 m = some x) (hp : (fun x : Int32 => r = some (vi x) ∧ m' = m) x) : V g Y_PL_odds 0 [some (vr this), some (vi v1)] [] m (PM g Y_PL_odds r m') := by
  unfold PL_odds at h
  refine V_aload_n (i := 0) (pc := 0) dX10_odds_0 rfl rfl ?_
  refine V_getR (b := (this + 27)) (pc := 1) dX10_odds_1 fl_PL_19 h_this rfl rfl ?_
  refine V_getR (b := (this + 28)) (pc := 4) dX10_odds_4 fl_PL_102 (kf_10_1 h_this) rfl rfl ?_
  refine V_getR (b := (this + 29)) (pc := 7) dX10_odds_7 fl_PL_186 (kf_0_0 (kf_10_1 h_this)) rfl rfl ?_
  refine V_iload_n (i := 1) (pc := 10) dX10_odds_10 rfl rfl ?_
  obtain ⟨r11, e11, h⟩ := bnd h
  refine V_invV1 (c := 8) (pc := 11) dX10_odds_11 (e_Ta_has (kf_2_15 (kf_0_0 (kf_10_1 h_this))) e11) iv_PL_134 (rm_PL_odds_Ta_has _ _ _) rfl (kf_2_15 (kf_0_0 (kf_10_1 h_this))) cf_8 rfl (Nat.le_of_ble_eq_true rfl) rfl ?_
  refine V_if_eq (pc := 14) (tgt := 28) dX10_odds_14 rfl (fun q => ?_) (fun q => ?_)
  · have h := ite_t q h
    refine V_bipush (v := (-2)) (pc := 28) dX10_odds_28 rfl ?_
    obtain rfl := Option.some.inj h
    exact E_i (pc := 30) dX10_odds_30 rfl hp
  · have h := ite_f q h
    refine V_aload_n (i := 0) (pc := 17) dX10_odds_17 rfl rfl ?_
    refine V_getR (b := (this + 27)) (pc := 18) dX10_odds_18 fl_PL_19 h_this rfl rfl ?_
    refine V_iload_n (i := 1) (pc := 21) dX10_odds_21 rfl rfl ?_
    obtain ⟨r22, e22, h⟩ := bnd h
    refine V_invV1 (c := 0) (pc := 22) dX10_odds_22 (e_Ca_oddsOf (kf_10_1 h_this) e22) iv_PL_192 (rm_PL_odds_Ca_oddsOf _ _ _) rfl (kf_10_1 h_this) cf_0 rfl (Nat.le_of_ble_eq_true rfl) rfl ?_
    refine V_goto (tgt := 30) (pc := 25) dX10_odds_25 rfl ?_
    obtain rfl := Option.some.inj h
    exact E_i (pc := 30) dX10_odds_30 rfl hp
theorem e_PL_odds {g : GE} {this : Nat} {v1 : Int32} {m : Mem} (h_this : kd this = 11) {x : Int32} (h : PL_odds this v1 m = some x) : Ev g Y_PL_odds [vr this, vi v1] m (some (vi x)) m :=
  Ev_of 0 (by decide +kernel) rfl (Nat.le_of_ble_eq_true rfl) rfl (k_PL_odds h_this h ⟨rfl, rfl⟩)
theorem k_Fl_beyond_b60 {g : GE} {this : Nat} {v1 : Int32} {v2 : Int32} {v3 : Int32} {v4 : Int32}  {m : Mem} (h_this : kd this = 3) {r : Option AV} {m' : Mem} {x : (Int32 × Int32) ⊕ (Int32)} (h : Fl_beyond_b60 this v1 v2 v3 v4 m = some x) (hp : (Sum.elim (fun s : Int32 × Int32 => V g Y_Fl_beyond 5 [some (vr this), some (vi v1), some (vi v2), some (vi s.1), some (vi s.2), none] [] m (PM g Y_Fl_beyond r m')) (fun x : Int32 => r = some (vi x) ∧ m' = m)) x) : V g Y_Fl_beyond 60 [some (vr this), some (vi v1), some (vi v2), some (vi v3), some (vi v4), none] [] m (PM g Y_Fl_beyond r m') := by
  unfold Fl_beyond_b60 at h
  refine V_iinc (i := 4) (v := (v4 + 1)) (ls' := [some (vr this), some (vi v1), some (vi v2), some (vi v3), some (vi (v4 + 1)), none]) (pc := 60) dX2_beyond_60 rfl rfl (Nat.le_of_ble_eq_true rfl) rfl ?_
  refine V_goto (tgt := 5) (pc := 63) dX2_beyond_63 rfl ?_
  obtain rfl := Option.some.inj h
  exact hp
theorem k_Fl_beyond_b36 {g : GE} {this : Nat} {v1 : Int32} {v2 : Int32} {v3 : Int32} {v4 : Int32} {k0 : Int32}  {m : Mem} (h_this : kd this = 3) {r : Option AV} {m' : Mem} {x : (Int32 × Int32) ⊕ (Int32)} (h : Fl_beyond_b36 this v1 v2 v3 v4 k0 m = some x) (hp : (Sum.elim (fun s : Int32 × Int32 => V g Y_Fl_beyond 5 [some (vr this), some (vi v1), some (vi v2), some (vi s.1), some (vi s.2), none] [] m (PM g Y_Fl_beyond r m')) (fun x : Int32 => r = some (vi x) ∧ m' = m)) x) : V g Y_Fl_beyond 36 [some (vr this), some (vi v1), some (vi v2), some (vi v3), some (vi v4), none] [vi k0] m (PM g Y_Fl_beyond r m') := by
  unfold Fl_beyond_b36 at h
  refine V_istore (i := 5) (ls' := [some (vr this), some (vi v1), some (vi v2), some (vi v3), some (vi v4), some (vi k0)]) (pc := 36) dX2_beyond_36 (Nat.le_of_ble_eq_true rfl) rfl ?_
  refine V_aload_n (i := 0) (pc := 38) dX2_beyond_38 rfl rfl ?_
  refine V_getR (b := (this + 1)) (pc := 39) dX2_beyond_39 fl_Fl_14 h_this rfl rfl ?_
  refine V_iload (i := 4) (pc := 42) dX2_beyond_42 rfl ?_
  refine V_iconst (v := 1) (pc := 44) dX2_beyond_44 rfl ?_
  obtain ⟨r45, e45, h⟩ := bnd h
  refine V_invV1 (c := 8) (pc := 45) dX2_beyond_45 (e_Ta_at (kf_2_15 h_this) e45) iv_Fl_86 (rm_Fl_beyond_Ta_at _ _ _) rfl (kf_2_15 h_this) cf_8 rfl (Nat.le_of_ble_eq_true rfl) rfl ?_
  refine V_iload (i := 5) (pc := 48) dX2_beyond_48 rfl ?_
  refine V_icmp_gt (pc := 50) (tgt := 60) dX2_beyond_50 rfl (fun q => ?_) (fun q => ?_)
  · have h := ite_t q h
    refine V_sub (ls' := [some (vr this), some (vi v1), some (vi v2), some (vi v3), some (vi v4), none]) (And.intro rfl (And.intro rfl (And.intro rfl (And.intro rfl (And.intro rfl trivial))))) ?_
    exact k_Fl_beyond_b60 h_this h hp
  · have h := ite_f q h
    refine V_iload_n (i := 3) (pc := 53) dX2_beyond_53 rfl rfl ?_
    refine V_iconst (v := 1) (pc := 54) dX2_beyond_54 rfl ?_
    refine V_iload (i := 4) (pc := 55) dX2_beyond_55 rfl ?_
    refine V_ishl (pc := 57) dX2_beyond_57 ?_
    refine V_ior (pc := 58) dX2_beyond_58 ?_
    refine V_istore_n (i := 3) (ls' := [some (vr this), some (vi v1), some (vi v2), some (vi (v3 ||| ((1 : Int32) <<< (v4 &&& 31)))), some (vi v4), some (vi k0)]) (pc := 59) dX2_beyond_59 rfl (Nat.le_of_ble_eq_true rfl) rfl ?_
    refine V_sub (ls' := [some (vr this), some (vi v1), some (vi v2), some (vi (v3 ||| ((1 : Int32) <<< (v4 &&& 31)))), some (vi v4), none]) (And.intro rfl (And.intro rfl (And.intro rfl (And.intro rfl (And.intro rfl trivial))))) ?_
    exact k_Fl_beyond_b60 h_this h hp
theorem k_Fl_beyond_l5 {g : GE} {this : Nat} {v1 : Int32} {v2 : Int32} {v3 : Int32} {v4 : Int32} {m : Mem} (h_this : kd this = 3) {r : Option AV} {m' : Mem} {x : (Int32 × Int32) ⊕ (Int32)} (h : Fl_beyond_l5 this v1 v2 v3 v4 m = some x) (hp : (Sum.elim (fun s : Int32 × Int32 => V g Y_Fl_beyond 5 [some (vr this), some (vi v1), some (vi v2), some (vi s.1), some (vi s.2), none] [] m (PM g Y_Fl_beyond r m')) (fun x : Int32 => r = some (vi x) ∧ m' = m)) x) : V g Y_Fl_beyond 5 [some (vr this), some (vi v1), some (vi v2), some (vi v3), some (vi v4), none] [] m (PM g Y_Fl_beyond r m') := by
  unfold Fl_beyond_l5 at h
  refine V_iload (i := 4) (pc := 5) dX2_beyond_5 rfl ?_
  refine V_aload_n (i := 0) (pc := 7) dX2_beyond_7 rfl rfl ?_
  refine V_getR (b := (this + 1)) (pc := 8) dX2_beyond_8 fl_Fl_14 h_this rfl rfl ?_
  refine V_getI (pc := 11) dX2_beyond_11 fl_Fl_75 (kf_2_15 h_this) rfl ?_
  refine V_icmp_ge (pc := 14) (tgt := 66) dX2_beyond_14 rfl (fun q => ?_) (fun q => ?_)
  · have h := ite_t q h
    obtain ⟨y1, hu1, rfl⟩ := up_e h
    have h := hu1
    refine V_iload_n (i := 3) (pc := 66) dX2_beyond_66 rfl rfl ?_
    obtain rfl := Option.some.inj h
    exact E_i (pc := 67) dX2_beyond_67 rfl hp
  · have h := ite_f q h
    refine V_aload_n (i := 0) (pc := 17) dX2_beyond_17 rfl rfl ?_
    refine V_getR (b := (this + 1)) (pc := 18) dX2_beyond_18 fl_Fl_14 h_this rfl rfl ?_
    refine V_iload (i := 4) (pc := 21) dX2_beyond_21 rfl ?_
    refine V_iconst (v := 0) (pc := 23) dX2_beyond_23 rfl ?_
    obtain ⟨r24, e24, h⟩ := bnd h
    refine V_invV1 (c := 8) (pc := 24) dX2_beyond_24 (e_Ta_at (kf_2_15 h_this) e24) iv_Fl_86 (rm_Fl_beyond_Ta_at _ _ _) rfl (kf_2_15 h_this) cf_8 rfl (Nat.le_of_ble_eq_true rfl) rfl ?_
    refine V_iconst (v := 1) (pc := 27) dX2_beyond_27 rfl ?_
    refine V_icmp_ne (pc := 28) (tgt := 35) dX2_beyond_28 rfl (fun q => ?_) (fun q => ?_)
    · have h := ite_f q h
      refine V_iload_n (i := 1) (pc := 35) dX2_beyond_35 rfl rfl ?_
      exact k_Fl_beyond_b36 h_this h hp
    · have h := ite_t q h
      refine V_iload_n (i := 2) (pc := 31) dX2_beyond_31 rfl rfl ?_
      refine V_goto (tgt := 36) (pc := 32) dX2_beyond_32 rfl ?_
      exact k_Fl_beyond_b36 h_this h hp
theorem k_Fl_beyond {g : GE} {this : Nat} {v1 : Int32} {v2 : Int32} {m : Mem} (h_this : kd this = 3) {r : Option AV} {m' : Mem} {x : Int32} (h : Fl_beyond this v1 v2 m = some x) (hp : (fun x : Int32 => r = some (vi x) ∧ m' = m) x) : V g Y_Fl_beyond 0 [some (vr this), some (vi v1), some (vi v2), none, none, none] [] m (PM g Y_Fl_beyond r m') := by
  unfold Fl_beyond at h
  refine V_iconst (v := 0) (pc := 0) dX2_beyond_0 rfl ?_
  refine V_istore_n (i := 3) (ls' := [some (vr this), some (vi v1), some (vi v2), some (vi 0), none, none]) (pc := 1) dX2_beyond_1 rfl (Nat.le_of_ble_eq_true rfl) rfl ?_
  refine V_iconst (v := 0) (pc := 2) dX2_beyond_2 rfl ?_
  refine V_istore (i := 4) (ls' := [some (vr this), some (vi v1), some (vi v2), some (vi 0), some (vi 0), none]) (pc := 3) dX2_beyond_3 (Nat.le_of_ble_eq_true rfl) rfl ?_
  exact loop_V (A := fun s : Int32 × Int32 => V g Y_Fl_beyond 5 [some (vr this), some (vi v1), some (vi v2), some (vi s.1), some (vi s.2), none] [] m (PM g Y_Fl_beyond r m')) (fun s x h hp => k_Fl_beyond_l5 h_this h hp) (0, 0) _ h hp
theorem e_Fl_beyond {g : GE} {this : Nat} {v1 : Int32} {v2 : Int32} {m : Mem} (h_this : kd this = 3) {x : Int32} (h : Fl_beyond this v1 v2 m = some x) : Ev g Y_Fl_beyond [vr this, vi v1, vi v2] m (some (vi x)) m :=
  Ev_of 3 (by decide +kernel) rfl (Nat.le_of_ble_eq_true rfl) rfl (k_Fl_beyond h_this h ⟨rfl, rfl⟩)
theorem k_Fl_alongs_l4 {g : GE} {this : Nat}  {v1 : Int32} {v2 : Int32} {m : Mem} (h_this : kd this = 3) {r : Option AV} {m' : Mem} {x : (Int32 × Int32) ⊕ (Int32)} (h : Fl_alongs_l4 this v1 v2 m = some x) (hp : (Sum.elim (fun s : Int32 × Int32 => V g Y_Fl_alongs 4 [some (vr this), some (vi s.1), some (vi s.2)] [] m (PM g Y_Fl_alongs r m')) (fun x : Int32 => r = some (vi x) ∧ m' = m)) x) : V g Y_Fl_alongs 4 [some (vr this), some (vi v1), some (vi v2)] [] m (PM g Y_Fl_alongs r m') := by
  unfold Fl_alongs_l4 at h
  refine V_iload_n (i := 2) (pc := 4) dX2_alongs_4 rfl rfl ?_
  refine V_aload_n (i := 0) (pc := 5) dX2_alongs_5 rfl rfl ?_
  refine V_getR (b := (this + 1)) (pc := 6) dX2_alongs_6 fl_Fl_14 h_this rfl rfl ?_
  refine V_getI (pc := 9) dX2_alongs_9 fl_Fl_75 (kf_2_15 h_this) rfl ?_
  refine V_icmp_ge (pc := 12) (tgt := 35) dX2_alongs_12 rfl (fun q => ?_) (fun q => ?_)
  · have h := ite_t q h
    obtain ⟨y1, hu1, rfl⟩ := up_e h
    have h := hu1
    refine V_iload_n (i := 1) (pc := 35) dX2_alongs_35 rfl rfl ?_
    obtain rfl := Option.some.inj h
    exact E_i (pc := 36) dX2_alongs_36 rfl hp
  · have h := ite_f q h
    refine V_iload_n (i := 1) (pc := 15) dX2_alongs_15 rfl rfl ?_
    refine V_aload_n (i := 0) (pc := 16) dX2_alongs_16 rfl rfl ?_
    refine V_getR (b := (this + 1)) (pc := 17) dX2_alongs_17 fl_Fl_14 h_this rfl rfl ?_
    refine V_iload_n (i := 2) (pc := 20) dX2_alongs_20 rfl rfl ?_
    refine V_iconst (v := 0) (pc := 21) dX2_alongs_21 rfl ?_
    obtain ⟨r22, e22, h⟩ := bnd h
    refine V_invV1 (c := 8) (pc := 22) dX2_alongs_22 (e_Ta_at (kf_2_15 h_this) e22) iv_Fl_86 (rm_Fl_alongs_Ta_at _ _ _) rfl (kf_2_15 h_this) cf_8 rfl (Nat.le_of_ble_eq_true rfl) rfl ?_
    refine V_iload_n (i := 2) (pc := 25) dX2_alongs_25 rfl rfl ?_
    refine V_ishl (pc := 26) dX2_alongs_26 ?_
    refine V_ior (pc := 27) dX2_alongs_27 ?_
    refine V_istore_n (i := 1) (ls' := [some (vr this), some (vi (v1 ||| (r22 <<< (v2 &&& 31)))), some (vi v2)]) (pc := 28) dX2_alongs_28 rfl (Nat.le_of_ble_eq_true rfl) rfl ?_
    refine V_iinc (i := 2) (v := (v2 + 1)) (ls' := [some (vr this), some (vi (v1 ||| (r22 <<< (v2 &&& 31)))), some (vi (v2 + 1))]) (pc := 29) dX2_alongs_29 rfl rfl (Nat.le_of_ble_eq_true rfl) rfl ?_
    refine V_goto (tgt := 4) (pc := 32) dX2_alongs_32 rfl ?_
    obtain rfl := Option.some.inj h
    exact hp
theorem k_Fl_alongs {g : GE} {this : Nat} {m : Mem} (h_this : kd this = 3) {r : Option AV} {m' : Mem} {x : Int32} (h : Fl_alongs this m = some x) (hp : (fun x : Int32 => r = some (vi x) ∧ m' = m) x) : V g Y_Fl_alongs 0 [some (vr this), none, none] [] m (PM g Y_Fl_alongs r m') := by
  unfold Fl_alongs at h
  refine V_iconst (v := 0) (pc := 0) dX2_alongs_0 rfl ?_
  refine V_istore_n (i := 1) (ls' := [some (vr this), some (vi 0), none]) (pc := 1) dX2_alongs_1 rfl (Nat.le_of_ble_eq_true rfl) rfl ?_
  refine V_iconst (v := 0) (pc := 2) dX2_alongs_2 rfl ?_
  refine V_istore_n (i := 2) (ls' := [some (vr this), some (vi 0), some (vi 0)]) (pc := 3) dX2_alongs_3 rfl (Nat.le_of_ble_eq_true rfl) rfl ?_
  exact loop_V (A := fun s : Int32 × Int32 => V g Y_Fl_alongs 4 [some (vr this), some (vi s.1), some (vi s.2)] [] m (PM g Y_Fl_alongs r m')) (fun s x h hp => k_Fl_alongs_l4 h_this h hp) (0, 0) _ h hp
theorem e_Fl_alongs {g : GE} {this : Nat} {m : Mem} (h_this : kd this = 3) {x : Int32} (h : Fl_alongs this m = some x) : Ev g Y_Fl_alongs [vr this] m (some (vi x)) m :=
  Ev_of 2 (by decide +kernel) rfl (Nat.le_of_ble_eq_true rfl) rfl (k_Fl_alongs h_this h ⟨rfl, rfl⟩)
theorem k_PL_piece {g : GE} {this : Nat} {v1 : Int32} {v2 : Int32} {v3 : Int32} {m : Mem} (h_this : kd this = 11) {r : Option AV} {m' : Mem} {x : Int32} (h : PL_piece this v1 v2 v3 m = some x) (hp : (fun x : Int32 => r = some (vi x) ∧ m' = m) x) : V g Y_PL_piece 0 [some (vr this), some (vi v1), some (vi v2), some (vi v3), none, none, none] [] m (PM g Y_PL_piece r m') := by
  unfold PL_piece at h
  refine V_aload_n (i := 0) (pc := 0) dX10_piece_0 rfl rfl ?_
  refine V_getR (b := (this + 27)) (pc := 1) dX10_piece_1 fl_PL_19 h_this rfl rfl ?_
  refine V_getR (b := (this + 28)) (pc := 4) dX10_piece_4 fl_PL_102 (kf_10_1 h_this) rfl rfl ?_
  refine V_astore (i := 4) (ls' := [some (vr this), some (vi v1), some (vi v2), some (vi v3), some (vr (this + 28)), none, none]) (pc := 7) dX10_piece_7 (Nat.le_of_ble_eq_true rfl) rfl ?_
  refine V_aload (i := 4) (pc := 9) dX10_piece_9 rfl ?_
  refine V_iload_n (i := 1) (pc := 11) dX10_piece_11 rfl rfl ?_
  obtain ⟨r12, e12, h⟩ := bnd h
  refine V_invV1 (c := 2) (pc := 12) dX10_piece_12 (e_Fl_hasSet (kf_0_0 (kf_10_1 h_this)) e12) iv_PL_167 (rm_PL_piece_Fl_hasSet _ _ _) rfl (kf_0_0 (kf_10_1 h_this)) cf_2 rfl (Nat.le_of_ble_eq_true rfl) rfl ?_
  refine V_if_eq (pc := 15) (tgt := 28) dX10_piece_15 rfl (fun q => ?_) (fun q => ?_)
  · have h := ite_t q h
    refine V_bipush (v := (-2)) (pc := 28) dX10_piece_28 rfl ?_
    obtain rfl := Option.some.inj h
    exact E_i (pc := 30) dX10_piece_30 rfl hp
  · have h := ite_f q h
    refine V_aload (i := 4) (pc := 18) dX10_piece_18 rfl ?_
    refine V_iload_n (i := 2) (pc := 20) dX10_piece_20 rfl rfl ?_
    refine V_iload_n (i := 3) (pc := 21) dX10_piece_21 rfl rfl ?_
    obtain ⟨r22, e22, h⟩ := bnd h
    refine V_invV1 (c := 2) (pc := 22) dX10_piece_22 (e_Fl_hasCell (kf_0_0 (kf_10_1 h_this)) e22) iv_PL_116 (rm_PL_piece_Fl_hasCell _ _ _) rfl (kf_0_0 (kf_10_1 h_this)) cf_2 rfl (Nat.le_of_ble_eq_true rfl) rfl ?_
    refine V_if_ne (pc := 25) (tgt := 31) dX10_piece_25 rfl (fun q => ?_) (fun q => ?_)
    · have h := ite_f q h
      refine V_aload (i := 4) (pc := 31) dX10_piece_31 rfl ?_
      refine V_iload_n (i := 2) (pc := 33) dX10_piece_33 rfl rfl ?_
      refine V_iload_n (i := 3) (pc := 34) dX10_piece_34 rfl rfl ?_
      obtain ⟨r35, e35, h⟩ := bnd h
      refine V_invV1 (c := 2) (pc := 35) dX10_piece_35 (e_Fl_beyond (kf_0_0 (kf_10_1 h_this)) e35) iv_PL_195 (rm_PL_piece_Fl_beyond _ _ _) rfl (kf_0_0 (kf_10_1 h_this)) cf_2 rfl (Nat.le_of_ble_eq_true rfl) rfl ?_
      refine V_iload_n (i := 1) (pc := 38) dX10_piece_38 rfl rfl ?_
      refine V_iand (pc := 39) dX10_piece_39 ?_
      refine V_istore (i := 5) (ls' := [some (vr this), some (vi v1), some (vi v2), some (vi v3), some (vr (this + 28)), some (vi (r35 &&& v1)), none]) (pc := 40) dX10_piece_40 (Nat.le_of_ble_eq_true rfl) rfl ?_
      refine V_iload (i := 5) (pc := 42) dX10_piece_42 rfl ?_
      refine V_aload (i := 4) (pc := 44) dX10_piece_44 rfl ?_
      obtain ⟨r46, e46, h⟩ := bnd h
      refine V_invV1 (c := 2) (pc := 46) dX10_piece_46 (e_Fl_alongs (kf_0_0 (kf_10_1 h_this)) e46) iv_PL_198 (rm_PL_piece_Fl_alongs _ _ _) rfl (kf_0_0 (kf_10_1 h_this)) cf_2 rfl (Nat.le_of_ble_eq_true rfl) rfl ?_
      refine V_iand (pc := 49) dX10_piece_49 ?_
      refine V_istore (i := 6) (ls' := [some (vr this), some (vi v1), some (vi v2), some (vi v3), some (vr (this + 28)), some (vi (r35 &&& v1)), some (vi ((r35 &&& v1) &&& r46))]) (pc := 50) dX10_piece_50 (Nat.le_of_ble_eq_true rfl) rfl ?_
      refine V_iload (i := 5) (pc := 52) dX10_piece_52 rfl ?_
      obtain ⟨r54, e54, h⟩ := bnd h
      refine V_invS1 (pc := 54) dX10_piece_54 (e_In_bitCount  e54) is_PL_201 (rm_PL_piece_In_bitCount _ _ _) rfl (Nat.le_of_ble_eq_true rfl) rfl ?_
      refine V_iload (i := 6) (pc := 57) dX10_piece_57 rfl ?_
      obtain ⟨r59, e59, h⟩ := bnd h
      refine V_invS1 (pc := 59) dX10_piece_59 (e_In_bitCount  e59) is_PL_201 (rm_PL_piece_In_bitCount _ _ _) rfl (Nat.le_of_ble_eq_true rfl) rfl ?_
      refine V_isub (pc := 62) dX10_piece_62 ?_
      refine V_bipush (v := 8) (pc := 63) dX10_piece_63 rfl ?_
      refine V_iload (i := 6) (pc := 65) dX10_piece_65 rfl ?_
      obtain ⟨r67, e67, h⟩ := bnd h
      refine V_invS1 (pc := 67) dX10_piece_67 (e_In_bitCount  e67) is_PL_201 (rm_PL_piece_In_bitCount _ _ _) rfl (Nat.le_of_ble_eq_true rfl) rfl ?_
      refine V_imul (pc := 70) dX10_piece_70 ?_
      refine V_iadd (pc := 71) dX10_piece_71 ?_
      obtain rfl := Option.some.inj h
      exact E_i (pc := 72) dX10_piece_72 rfl hp
    · have h := ite_t q h
      refine V_bipush (v := (-2)) (pc := 28) dX10_piece_28 rfl ?_
      obtain rfl := Option.some.inj h
      exact E_i (pc := 30) dX10_piece_30 rfl hp
theorem e_PL_piece {g : GE} {this : Nat} {v1 : Int32} {v2 : Int32} {v3 : Int32} {m : Mem} (h_this : kd this = 11) {x : Int32} (h : PL_piece this v1 v2 v3 m = some x) : Ev g Y_PL_piece [vr this, vi v1, vi v2, vi v3] m (some (vi x)) m :=
  Ev_of 3 (by decide +kernel) rfl (Nat.le_of_ble_eq_true rfl) rfl (k_PL_piece h_this h ⟨rfl, rfl⟩)
theorem k_Fl_partings_b56 {g : GE} {this : Nat} {v1 : Int32} {v2 : Int32} {v3 : Int32} {v4 : Int32}  {m : Mem} (h_this : kd this = 3) {r : Option AV} {m' : Mem} {x : (Int32 × Int32) ⊕ (Int32)} (h : Fl_partings_b56 this v1 v2 v3 v4 m = some x) (hp : (Sum.elim (fun s : Int32 × Int32 => V g Y_Fl_partings 5 [some (vr this), some (vi v1), some (vi v2), some (vi s.1), some (vi s.2)] [] m (PM g Y_Fl_partings r m')) (fun x : Int32 => r = some (vi x) ∧ m' = m)) x) : V g Y_Fl_partings 56 [some (vr this), some (vi v1), some (vi v2), some (vi v3), some (vi v4)] [] m (PM g Y_Fl_partings r m') := by
  unfold Fl_partings_b56 at h
  refine V_iinc (i := 4) (v := (v4 + 1)) (ls' := [some (vr this), some (vi v1), some (vi v2), some (vi v3), some (vi (v4 + 1))]) (pc := 56) dX2_partings_56 rfl rfl (Nat.le_of_ble_eq_true rfl) rfl ?_
  refine V_goto (tgt := 5) (pc := 59) dX2_partings_59 rfl ?_
  obtain rfl := Option.some.inj h
  exact hp
theorem k_Fl_partings_l5 {g : GE} {this : Nat} {v1 : Int32} {v2 : Int32} {v3 : Int32} {v4 : Int32} {m : Mem} (h_this : kd this = 3) {r : Option AV} {m' : Mem} {x : (Int32 × Int32) ⊕ (Int32)} (h : Fl_partings_l5 this v1 v2 v3 v4 m = some x) (hp : (Sum.elim (fun s : Int32 × Int32 => V g Y_Fl_partings 5 [some (vr this), some (vi v1), some (vi v2), some (vi s.1), some (vi s.2)] [] m (PM g Y_Fl_partings r m')) (fun x : Int32 => r = some (vi x) ∧ m' = m)) x) : V g Y_Fl_partings 5 [some (vr this), some (vi v1), some (vi v2), some (vi v3), some (vi v4)] [] m (PM g Y_Fl_partings r m') := by
  unfold Fl_partings_l5 at h
  refine V_iload (i := 4) (pc := 5) dX2_partings_5 rfl ?_
  refine V_aload_n (i := 0) (pc := 7) dX2_partings_7 rfl rfl ?_
  refine V_getR (b := (this + 1)) (pc := 8) dX2_partings_8 fl_Fl_14 h_this rfl rfl ?_
  refine V_getI (pc := 11) dX2_partings_11 fl_Fl_75 (kf_2_15 h_this) rfl ?_
  refine V_icmp_ge (pc := 14) (tgt := 62) dX2_partings_14 rfl (fun q => ?_) (fun q => ?_)
  · have h := ite_t q h
    obtain ⟨y1, hu1, rfl⟩ := up_e h
    have h := hu1
    refine V_iload_n (i := 3) (pc := 62) dX2_partings_62 rfl rfl ?_
    obtain ⟨r63, e63, h⟩ := bnd h
    refine V_invS1 (pc := 63) dX2_partings_63 (e_In_bitCount  e63) is_Fl_90 (rm_Fl_partings_In_bitCount _ _ _) rfl (Nat.le_of_ble_eq_true rfl) rfl ?_
    obtain rfl := Option.some.inj h
    exact E_i (pc := 66) dX2_partings_66 rfl hp
  · have h := ite_f q h
    refine V_iload_n (i := 1) (pc := 17) dX2_partings_17 rfl rfl ?_
    refine V_iload (i := 4) (pc := 18) dX2_partings_18 rfl ?_
    refine V_ishr (pc := 20) dX2_partings_20 ?_
    refine V_iconst (v := 1) (pc := 21) dX2_partings_21 rfl ?_
    refine V_iand (pc := 22) dX2_partings_22 ?_
    refine V_iconst (v := 1) (pc := 23) dX2_partings_23 rfl ?_
    refine V_icmp_ne (pc := 24) (tgt := 56) dX2_partings_24 rfl (fun q => ?_) (fun q => ?_)
    · have h := ite_f q h
      exact k_Fl_partings_b56 h_this h hp
    · have h := ite_t q h
      refine V_aload_n (i := 0) (pc := 27) dX2_partings_27 rfl rfl ?_
      refine V_getR (b := (this + 1)) (pc := 28) dX2_partings_28 fl_Fl_14 h_this rfl rfl ?_
      refine V_iload (i := 4) (pc := 31) dX2_partings_31 rfl ?_
      refine V_iconst (v := 0) (pc := 33) dX2_partings_33 rfl ?_
      obtain ⟨r34, e34, h⟩ := bnd h
      refine V_invV1 (c := 8) (pc := 34) dX2_partings_34 (e_Ta_at (kf_2_15 h_this) e34) iv_Fl_86 (rm_Fl_partings_Ta_at _ _ _) rfl (kf_2_15 h_this) cf_8 rfl (Nat.le_of_ble_eq_true rfl) rfl ?_
      refine V_iload_n (i := 2) (pc := 37) dX2_partings_37 rfl rfl ?_
      refine V_icmp_ne (pc := 38) (tgt := 56) dX2_partings_38 rfl (fun q => ?_) (fun q => ?_)
      · have h := ite_f q h
        exact k_Fl_partings_b56 h_this h hp
      · have h := ite_t q h
        refine V_iload_n (i := 3) (pc := 41) dX2_partings_41 rfl rfl ?_
        refine V_iconst (v := 1) (pc := 42) dX2_partings_42 rfl ?_
        refine V_aload_n (i := 0) (pc := 43) dX2_partings_43 rfl rfl ?_
        refine V_getR (b := (this + 1)) (pc := 44) dX2_partings_44 fl_Fl_14 h_this rfl rfl ?_
        refine V_iload (i := 4) (pc := 47) dX2_partings_47 rfl ?_
        refine V_iconst (v := 1) (pc := 49) dX2_partings_49 rfl ?_
        obtain ⟨r50, e50, h⟩ := bnd h
        refine V_invV1 (c := 8) (pc := 50) dX2_partings_50 (e_Ta_at (kf_2_15 h_this) e50) iv_Fl_86 (rm_Fl_partings_Ta_at _ _ _) rfl (kf_2_15 h_this) cf_8 rfl (Nat.le_of_ble_eq_true rfl) rfl ?_
        refine V_ishl (pc := 53) dX2_partings_53 ?_
        refine V_ior (pc := 54) dX2_partings_54 ?_
        refine V_istore_n (i := 3) (ls' := [some (vr this), some (vi v1), some (vi v2), some (vi (v3 ||| ((1 : Int32) <<< (r50 &&& 31)))), some (vi v4)]) (pc := 55) dX2_partings_55 rfl (Nat.le_of_ble_eq_true rfl) rfl ?_
        exact k_Fl_partings_b56 h_this h hp
theorem k_Fl_partings {g : GE} {this : Nat} {v1 : Int32} {v2 : Int32} {m : Mem} (h_this : kd this = 3) {r : Option AV} {m' : Mem} {x : Int32} (h : Fl_partings this v1 v2 m = some x) (hp : (fun x : Int32 => r = some (vi x) ∧ m' = m) x) : V g Y_Fl_partings 0 [some (vr this), some (vi v1), some (vi v2), none, none] [] m (PM g Y_Fl_partings r m') := by
  unfold Fl_partings at h
  refine V_iconst (v := 0) (pc := 0) dX2_partings_0 rfl ?_
  refine V_istore_n (i := 3) (ls' := [some (vr this), some (vi v1), some (vi v2), some (vi 0), none]) (pc := 1) dX2_partings_1 rfl (Nat.le_of_ble_eq_true rfl) rfl ?_
  refine V_iconst (v := 0) (pc := 2) dX2_partings_2 rfl ?_
  refine V_istore (i := 4) (ls' := [some (vr this), some (vi v1), some (vi v2), some (vi 0), some (vi 0)]) (pc := 3) dX2_partings_3 (Nat.le_of_ble_eq_true rfl) rfl ?_
  exact loop_V (A := fun s : Int32 × Int32 => V g Y_Fl_partings 5 [some (vr this), some (vi v1), some (vi v2), some (vi s.1), some (vi s.2)] [] m (PM g Y_Fl_partings r m')) (fun s x h hp => k_Fl_partings_l5 h_this h hp) (0, 0) _ h hp
theorem e_Fl_partings {g : GE} {this : Nat} {v1 : Int32} {v2 : Int32} {m : Mem} (h_this : kd this = 3) {x : Int32} (h : Fl_partings this v1 v2 m = some x) : Ev g Y_Fl_partings [vr this, vi v1, vi v2] m (some (vi x)) m :=
  Ev_of 2 (by decide +kernel) rfl (Nat.le_of_ble_eq_true rfl) rfl (k_Fl_partings h_this h ⟨rfl, rfl⟩)
theorem k_PL_pieces {g : GE} {this : Nat} {v1 : Int32} {m : Mem} (h_this : kd this = 11) {r : Option AV} {m' : Mem} {x : Int32} (h : PL_pieces this v1 m = some x) (hp : (fun x : Int32 => r = some (vi x) ∧ m' = m) x) : V g Y_PL_pieces 0 [some (vr this), some (vi v1), none] [] m (PM g Y_PL_pieces r m') := by
  unfold PL_pieces at h
  refine V_aload_n (i := 0) (pc := 0) dX10_pieces_0 rfl rfl ?_
  refine V_getR (b := (this + 27)) (pc := 1) dX10_pieces_1 fl_PL_19 h_this rfl rfl ?_
  refine V_getR (b := (this + 28)) (pc := 4) dX10_pieces_4 fl_PL_102 (kf_10_1 h_this) rfl rfl ?_
  refine V_astore_n (i := 2) (ls' := [some (vr this), some (vi v1), some (vr (this + 28))]) (pc := 7) dX10_pieces_7 rfl (Nat.le_of_ble_eq_true rfl) rfl ?_
  refine V_aload_n (i := 2) (pc := 8) dX10_pieces_8 rfl rfl ?_
  refine V_iload_n (i := 1) (pc := 9) dX10_pieces_9 rfl rfl ?_
  obtain ⟨r10, e10, h⟩ := bnd h
  refine V_invV1 (c := 2) (pc := 10) dX10_pieces_10 (e_Fl_hasSet (kf_0_0 (kf_10_1 h_this)) e10) iv_PL_167 (rm_PL_pieces_Fl_hasSet _ _ _) rfl (kf_0_0 (kf_10_1 h_this)) cf_2 rfl (Nat.le_of_ble_eq_true rfl) rfl ?_
  refine V_if_ne (pc := 13) (tgt := 19) dX10_pieces_13 rfl (fun q => ?_) (fun q => ?_)
  · have h := ite_f q h
    refine V_iconst (v := 1) (pc := 19) dX10_pieces_19 rfl ?_
    refine V_aload_n (i := 2) (pc := 20) dX10_pieces_20 rfl rfl ?_
    refine V_iload_n (i := 1) (pc := 21) dX10_pieces_21 rfl rfl ?_
    refine V_iconst (v := 0) (pc := 22) dX10_pieces_22 rfl ?_
    obtain ⟨r23, e23, h⟩ := bnd h
    refine V_invV1 (c := 2) (pc := 23) dX10_pieces_23 (e_Fl_partings (kf_0_0 (kf_10_1 h_this)) e23) iv_PL_206 (rm_PL_pieces_Fl_partings _ _ _) rfl (kf_0_0 (kf_10_1 h_this)) cf_2 rfl (Nat.le_of_ble_eq_true rfl) rfl ?_
    refine V_iadd (pc := 26) dX10_pieces_26 ?_
    refine V_iconst (v := 1) (pc := 27) dX10_pieces_27 rfl ?_
    refine V_aload_n (i := 2) (pc := 28) dX10_pieces_28 rfl rfl ?_
    refine V_iload_n (i := 1) (pc := 29) dX10_pieces_29 rfl rfl ?_
    refine V_iconst (v := 1) (pc := 30) dX10_pieces_30 rfl ?_
    obtain ⟨r31, e31, h⟩ := bnd h
    refine V_invV1 (c := 2) (pc := 31) dX10_pieces_31 (e_Fl_partings (kf_0_0 (kf_10_1 h_this)) e31) iv_PL_206 (rm_PL_pieces_Fl_partings _ _ _) rfl (kf_0_0 (kf_10_1 h_this)) cf_2 rfl (Nat.le_of_ble_eq_true rfl) rfl ?_
    refine V_iadd (pc := 34) dX10_pieces_34 ?_
    refine V_imul (pc := 35) dX10_pieces_35 ?_
    obtain rfl := Option.some.inj h
    exact E_i (pc := 36) dX10_pieces_36 rfl hp
  · have h := ite_t q h
    refine V_bipush (v := (-2)) (pc := 16) dX10_pieces_16 rfl ?_
    obtain rfl := Option.some.inj h
    exact E_i (pc := 18) dX10_pieces_18 rfl hp
theorem e_PL_pieces {g : GE} {this : Nat} {v1 : Int32} {m : Mem} (h_this : kd this = 11) {x : Int32} (h : PL_pieces this v1 m = some x) : Ev g Y_PL_pieces [vr this, vi v1] m (some (vi x)) m :=
  Ev_of 1 (by decide +kernel) rfl (Nat.le_of_ble_eq_true rfl) rfl (k_PL_pieces h_this h ⟨rfl, rfl⟩)
theorem k_Ca_givenBy_b61 {g : GE} {this : Nat} {v1 : Int32} {v2 : Int32} {v3 : Int32} {v4 : Int32}  {m : Mem} (h_this : kd this = 1) {r : Option AV} {m' : Mem} {x : (Int32 × Int32) ⊕ (Int32)} (h : Ca_givenBy_b61 this v1 v2 v3 v4 m = some x) (hp : (Sum.elim (fun s : Int32 × Int32 => V g Y_Ca_givenBy 5 [some (vr this), some (vi v1), some (vi v2), some (vi s.1), some (vi s.2)] [] m (PM g Y_Ca_givenBy r m')) (fun x : Int32 => r = some (vi x) ∧ m' = m)) x) : V g Y_Ca_givenBy 61 [some (vr this), some (vi v1), some (vi v2), some (vi v3), some (vi v4)] [] m (PM g Y_Ca_givenBy r m') := by
  unfold Ca_givenBy_b61 at h
  refine V_iinc (i := 4) (v := (v4 + 1)) (ls' := [some (vr this), some (vi v1), some (vi v2), some (vi v3), some (vi (v4 + 1))]) (pc := 61) dX0_givenBy_61 rfl rfl (Nat.le_of_ble_eq_true rfl) rfl ?_
  refine V_goto (tgt := 5) (pc := 64) dX0_givenBy_64 rfl ?_
  obtain rfl := Option.some.inj h
  exact hp
theorem k_Ca_givenBy_l5 {g : GE} {this : Nat} {v1 : Int32} {v2 : Int32} {v3 : Int32} {v4 : Int32} {m : Mem} (h_this : kd this = 1) {r : Option AV} {m' : Mem} {x : (Int32 × Int32) ⊕ (Int32)} (h : Ca_givenBy_l5 this v1 v2 v3 v4 m = some x) (hp : (Sum.elim (fun s : Int32 × Int32 => V g Y_Ca_givenBy 5 [some (vr this), some (vi v1), some (vi v2), some (vi s.1), some (vi s.2)] [] m (PM g Y_Ca_givenBy r m')) (fun x : Int32 => r = some (vi x) ∧ m' = m)) x) : V g Y_Ca_givenBy 5 [some (vr this), some (vi v1), some (vi v2), some (vi v3), some (vi v4)] [] m (PM g Y_Ca_givenBy r m') := by
  unfold Ca_givenBy_l5 at h
  refine V_iload (i := 4) (pc := 5) dX0_givenBy_5 rfl ?_
  refine V_aload_n (i := 0) (pc := 7) dX0_givenBy_7 rfl rfl ?_
  refine V_getR (b := (this + 1)) (pc := 8) dX0_givenBy_8 fl_Ca_12 h_this rfl rfl ?_
  refine V_getR (b := (this + 11)) (pc := 11) dX0_givenBy_11 fl_Ca_88 (kf_0_0 h_this) rfl rfl ?_
  refine V_getI (pc := 14) dX0_givenBy_14 fl_Ca_92 (kf_2_16 (kf_0_0 h_this)) rfl ?_
  refine V_icmp_ge (pc := 17) (tgt := 67) dX0_givenBy_17 rfl (fun q => ?_) (fun q => ?_)
  · have h := ite_t q h
    obtain ⟨y1, hu1, rfl⟩ := up_e h
    have h := hu1
    refine V_iload_n (i := 3) (pc := 67) dX0_givenBy_67 rfl rfl ?_
    obtain rfl := Option.some.inj h
    exact E_i (pc := 68) dX0_givenBy_68 rfl hp
  · have h := ite_f q h
    refine V_aload_n (i := 0) (pc := 20) dX0_givenBy_20 rfl rfl ?_
    refine V_getR (b := (this + 1)) (pc := 21) dX0_givenBy_21 fl_Ca_12 h_this rfl rfl ?_
    refine V_getR (b := (this + 11)) (pc := 24) dX0_givenBy_24 fl_Ca_88 (kf_0_0 h_this) rfl rfl ?_
    refine V_iload (i := 4) (pc := 27) dX0_givenBy_27 rfl ?_
    refine V_iconst (v := 0) (pc := 29) dX0_givenBy_29 rfl ?_
    obtain ⟨r30, e30, h⟩ := bnd h
    refine V_invV1 (c := 8) (pc := 30) dX0_givenBy_30 (e_Ta_at (kf_2_16 (kf_0_0 h_this)) e30) iv_Ca_97 (rm_Ca_givenBy_Ta_at _ _ _) rfl (kf_2_16 (kf_0_0 h_this)) cf_8 rfl (Nat.le_of_ble_eq_true rfl) rfl ?_
    refine V_iload_n (i := 2) (pc := 33) dX0_givenBy_33 rfl rfl ?_
    refine V_icmp_ne (pc := 34) (tgt := 61) dX0_givenBy_34 rfl (fun q => ?_) (fun q => ?_)
    · have h := ite_f q h
      exact k_Ca_givenBy_b61 h_this h hp
    · have h := ite_t q h
      refine V_iload_n (i := 3) (pc := 37) dX0_givenBy_37 rfl rfl ?_
      refine V_aload_n (i := 0) (pc := 38) dX0_givenBy_38 rfl rfl ?_
      refine V_iload_n (i := 1) (pc := 39) dX0_givenBy_39 rfl rfl ?_
      refine V_iload (i := 4) (pc := 40) dX0_givenBy_40 rfl ?_
      obtain ⟨r42, e42, h⟩ := bnd h
      refine V_invV1 (c := 0) (pc := 42) dX0_givenBy_42 (e_Ca_unitsIn h_this e42) iv_Ca_84 (rm_Ca_givenBy_Ca_unitsIn _ _ _) rfl h_this cf_0 rfl (Nat.le_of_ble_eq_true rfl) rfl ?_
      refine V_aload_n (i := 0) (pc := 45) dX0_givenBy_45 rfl rfl ?_
      refine V_getR (b := (this + 1)) (pc := 46) dX0_givenBy_46 fl_Ca_12 h_this rfl rfl ?_
      refine V_getR (b := (this + 11)) (pc := 49) dX0_givenBy_49 fl_Ca_88 (kf_0_0 h_this) rfl rfl ?_
      refine V_iload (i := 4) (pc := 52) dX0_givenBy_52 rfl ?_
      refine V_iconst (v := 1) (pc := 54) dX0_givenBy_54 rfl ?_
      obtain ⟨r55, e55, h⟩ := bnd h
      refine V_invV1 (c := 8) (pc := 55) dX0_givenBy_55 (e_Ta_at (kf_2_16 (kf_0_0 h_this)) e55) iv_Ca_97 (rm_Ca_givenBy_Ta_at _ _ _) rfl (kf_2_16 (kf_0_0 h_this)) cf_8 rfl (Nat.le_of_ble_eq_true rfl) rfl ?_
      refine V_imul (pc := 58) dX0_givenBy_58 ?_
      refine V_iadd (pc := 59) dX0_givenBy_59 ?_
      refine V_istore_n (i := 3) (ls' := [some (vr this), some (vi v1), some (vi v2), some (vi (v3 + (r42 * r55))), some (vi v4)]) (pc := 60) dX0_givenBy_60 rfl (Nat.le_of_ble_eq_true rfl) rfl ?_
      exact k_Ca_givenBy_b61 h_this h hp
theorem k_Ca_givenBy {g : GE} {this : Nat} {v1 : Int32} {v2 : Int32} {m : Mem} (h_this : kd this = 1) {r : Option AV} {m' : Mem} {x : Int32} (h : Ca_givenBy this v1 v2 m = some x) (hp : (fun x : Int32 => r = some (vi x) ∧ m' = m) x) : V g Y_Ca_givenBy 0 [some (vr this), some (vi v1), some (vi v2), none, none] [] m (PM g Y_Ca_givenBy r m') := by
  unfold Ca_givenBy at h
  refine V_iconst (v := 0) (pc := 0) dX0_givenBy_0 rfl ?_
  refine V_istore_n (i := 3) (ls' := [some (vr this), some (vi v1), some (vi v2), some (vi 0), none]) (pc := 1) dX0_givenBy_1 rfl (Nat.le_of_ble_eq_true rfl) rfl ?_
  refine V_iconst (v := 0) (pc := 2) dX0_givenBy_2 rfl ?_
  refine V_istore (i := 4) (ls' := [some (vr this), some (vi v1), some (vi v2), some (vi 0), some (vi 0)]) (pc := 3) dX0_givenBy_3 (Nat.le_of_ble_eq_true rfl) rfl ?_
  exact loop_V (A := fun s : Int32 × Int32 => V g Y_Ca_givenBy 5 [some (vr this), some (vi v1), some (vi v2), some (vi s.1), some (vi s.2)] [] m (PM g Y_Ca_givenBy r m')) (fun s x h hp => k_Ca_givenBy_l5 h_this h hp) (0, 0) _ h hp
theorem e_Ca_givenBy {g : GE} {this : Nat} {v1 : Int32} {v2 : Int32} {m : Mem} (h_this : kd this = 1) {x : Int32} (h : Ca_givenBy this v1 v2 m = some x) : Ev g Y_Ca_givenBy [vr this, vi v1, vi v2] m (some (vi x)) m :=
  Ev_of 2 (by decide +kernel) rfl (Nat.le_of_ble_eq_true rfl) rfl (k_Ca_givenBy h_this h ⟨rfl, rfl⟩)
theorem k_Fl_tells_l2 {g : GE} {this : Nat} {v1 : Int32} {v2 : Int32} {m : Mem} (h_this : kd this = 3) {r : Option AV} {m' : Mem} {x : (Int32) ⊕ (Int32)} (h : Fl_tells_l2 this v1 v2 m = some x) (hp : (Sum.elim (fun s : Int32 => V g Y_Fl_tells 2 [some (vr this), some (vi v1), some (vi s)] [] m (PM g Y_Fl_tells r m')) (fun x : Int32 => r = some (vi x) ∧ m' = m)) x) : V g Y_Fl_tells 2 [some (vr this), some (vi v1), some (vi v2)] [] m (PM g Y_Fl_tells r m') := by
  unfold Fl_tells_l2 at h
  refine V_iload_n (i := 2) (pc := 2) dX2_tells_2 rfl rfl ?_
  refine V_aload_n (i := 0) (pc := 3) dX2_tells_3 rfl rfl ?_
  refine V_getR (b := (this + 10)) (pc := 4) dX2_tells_4 fl_Fl_20 h_this rfl rfl ?_
  refine V_getI (pc := 7) dX2_tells_7 fl_Fl_75 (kf_2_16 h_this) rfl ?_
  refine V_icmp_ge (pc := 10) (tgt := 34) dX2_tells_10 rfl (fun q => ?_) (fun q => ?_)
  · have h := ite_t q h
    obtain ⟨y1, hu1, rfl⟩ := up_e h
    have h := hu1
    refine V_iconst (v := 0) (pc := 34) dX2_tells_34 rfl ?_
    obtain rfl := Option.some.inj h
    exact E_z (pc := 35) dX2_tells_35 rfl rfl hp
  · have h := ite_f q h
    refine V_aload_n (i := 0) (pc := 13) dX2_tells_13 rfl rfl ?_
    refine V_getR (b := (this + 10)) (pc := 14) dX2_tells_14 fl_Fl_20 h_this rfl rfl ?_
    refine V_iload_n (i := 2) (pc := 17) dX2_tells_17 rfl rfl ?_
    refine V_iconst (v := 0) (pc := 18) dX2_tells_18 rfl ?_
    obtain ⟨r19, e19, h⟩ := bnd h
    refine V_invV1 (c := 8) (pc := 19) dX2_tells_19 (e_Ta_at (kf_2_16 h_this) e19) iv_Fl_86 (rm_Fl_tells_Ta_at _ _ _) rfl (kf_2_16 h_this) cf_8 rfl (Nat.le_of_ble_eq_true rfl) rfl ?_
    refine V_iload_n (i := 1) (pc := 22) dX2_tells_22 rfl rfl ?_
    refine V_icmp_ne (pc := 23) (tgt := 28) dX2_tells_23 rfl (fun q => ?_) (fun q => ?_)
    · have h := ite_f q h
      refine V_iinc (i := 2) (v := (v2 + 1)) (ls' := [some (vr this), some (vi v1), some (vi (v2 + 1))]) (pc := 28) dX2_tells_28 rfl rfl (Nat.le_of_ble_eq_true rfl) rfl ?_
      refine V_goto (tgt := 2) (pc := 31) dX2_tells_31 rfl ?_
      obtain rfl := Option.some.inj h
      exact hp
    · have h := ite_t q h
      obtain ⟨y2, hu2, rfl⟩ := up_e h
      have h := hu2
      refine V_iconst (v := 1) (pc := 26) dX2_tells_26 rfl ?_
      obtain rfl := Option.some.inj h
      exact E_z (pc := 27) dX2_tells_27 rfl rfl hp
theorem k_Fl_tells {g : GE} {this : Nat} {v1 : Int32} {m : Mem} (h_this : kd this = 3) {r : Option AV} {m' : Mem} {x : Int32} (h : Fl_tells this v1 m = some x) (hp : (fun x : Int32 => r = some (vi x) ∧ m' = m) x) : V g Y_Fl_tells 0 [some (vr this), some (vi v1), none] [] m (PM g Y_Fl_tells r m') := by
  unfold Fl_tells at h
  refine V_iconst (v := 0) (pc := 0) dX2_tells_0 rfl ?_
  refine V_istore_n (i := 2) (ls' := [some (vr this), some (vi v1), some (vi 0)]) (pc := 1) dX2_tells_1 rfl (Nat.le_of_ble_eq_true rfl) rfl ?_
  exact loop_V (A := fun s : Int32 => V g Y_Fl_tells 2 [some (vr this), some (vi v1), some (vi s)] [] m (PM g Y_Fl_tells r m')) (fun s x h hp => k_Fl_tells_l2 h_this h hp) (0) _ h hp
theorem e_Fl_tells {g : GE} {this : Nat} {v1 : Int32} {m : Mem} (h_this : kd this = 3) {x : Int32} (h : Fl_tells this v1 m = some x) : Ev g Y_Fl_tells [vr this, vi v1] m (some (vi x)) m :=
  Ev_of 1 (by decide +kernel) rfl (Nat.le_of_ble_eq_true rfl) rfl (k_Fl_tells h_this h ⟨rfl, rfl⟩)
theorem k_PL_neededOf {g : GE} {v0 : Int32} {v1 : Int32} {v2 : Int32} {m : Mem} {r : Option AV} {m' : Mem} {x : Int32} (h : PL_neededOf v0 v1 v2 m = some x) (hp : (fun x : Int32 => r = some (vi x) ∧ m' = m) x) : V g Y_PL_neededOf 0 [some (vi v0), some (vi v1), some (vi v2)] [] m (PM g Y_PL_neededOf r m') := by
  unfold PL_neededOf at h
  refine V_iload_n (i := 0) (pc := 0) dX10_neededOf_0 rfl rfl ?_
  refine V_if_ne (pc := 1) (tgt := 10) dX10_neededOf_1 rfl (fun q => ?_) (fun q => ?_)
  · have h := ite_f q h
    refine V_iload_n (i := 1) (pc := 10) dX10_neededOf_10 rfl rfl ?_
    obtain rfl := Option.some.inj h
    exact E_i (pc := 11) dX10_neededOf_11 rfl hp
  · have h := ite_t q h
    refine V_iload_n (i := 1) (pc := 4) dX10_neededOf_4 rfl rfl ?_
    refine V_iload_n (i := 2) (pc := 5) dX10_neededOf_5 rfl rfl ?_
    refine V_imul (pc := 6) dX10_neededOf_6 ?_
    refine V_goto (tgt := 11) (pc := 7) dX10_neededOf_7 rfl ?_
    obtain rfl := Option.some.inj h
    exact E_i (pc := 11) dX10_neededOf_11 rfl hp
theorem e_PL_neededOf {g : GE} {v0 : Int32} {v1 : Int32} {v2 : Int32} {m : Mem} {x : Int32} (h : PL_neededOf v0 v1 v2 m = some x) : Ev g Y_PL_neededOf [vi v0, vi v1, vi v2] m (some (vi x)) m :=
  Ev_of 0 (by decide +kernel) rfl (Nat.le_of_ble_eq_true rfl) rfl (k_PL_neededOf  h ⟨rfl, rfl⟩)
theorem k_Ic_look_b271 {g : GE} {this : Nat} {v1 : Nat} {v3 : Int32} {k1 : Int32} {k2 : Int32}  {m : Mem} (h_this : kd this = 5) (h_v1 : kd v1 = 1) {r : Option AV} {m' : Mem} {x : (Int32 × Mem) ⊕ (Mem)} (h : Ic_look_b271 this v1 v3 k1 k2 m = some x) (hp : (Sum.elim (fun s : Int32 × Mem => V g Y_Ic_look 240 [some (vr this), none, some (vr (v1 + 1)), some (vi s.1), none] [] s.2 (PM g Y_Ic_look r m')) (fun x : Mem => r = none ∧ m' = x)) x) : V g Y_Ic_look 271 [some (vr this), none, some (vr (v1 + 1)), some (vi v3), none] [vi k2, vi k1, vr (this + 16)] m (PM g Y_Ic_look r m') := by
  unfold Ic_look_b271 at h
  obtain ⟨hg271, h⟩ := gd_e h
  refine V_iast_lt (pc := 271) dX4_look_271 (kf_4_11 h_this) (af_4_11 h_this) hg271 h (fun m271 h => ?_)
  refine V_iinc (i := 3) (v := (v3 + 1)) (ls' := [some (vr this), none, some (vr (v1 + 1)), some (vi (v3 + 1)), none]) (pc := 272) dX4_look_272 rfl rfl (Nat.le_of_ble_eq_true rfl) rfl ?_
  refine V_goto (tgt := 240) (pc := 275) dX4_look_275 rfl ?_
  obtain rfl := Option.some.inj h
  exact hp
theorem k_Ic_look_l240 {g : GE} {this : Nat} {v1 : Nat}  {v3 : Int32} {m : Mem} (h_this : kd this = 5) (h_v1 : kd v1 = 1) {r : Option AV} {m' : Mem} {x : (Int32 × Mem) ⊕ (Mem)} (h : Ic_look_l240 this v1 v3 m = some x) (hp : (Sum.elim (fun s : Int32 × Mem => V g Y_Ic_look 240 [some (vr this), none, some (vr (v1 + 1)), some (vi s.1), none] [] s.2 (PM g Y_Ic_look r m')) (fun x : Mem => r = none ∧ m' = x)) x) : V g Y_Ic_look 240 [some (vr this), none, some (vr (v1 + 1)), some (vi v3), none] [] m (PM g Y_Ic_look r m') := by
  unfold Ic_look_l240 at h
  refine V_iload_n (i := 3) (pc := 240) dX4_look_240 rfl rfl ?_
  refine V_iconst (v := 4) (pc := 241) dX4_look_241 rfl ?_
  refine V_icmp_ge (pc := 242) (tgt := 278) dX4_look_242 rfl (fun q => ?_) (fun q => ?_)
  · have h := ite_t q h
    obtain ⟨y5, hu5, rfl⟩ := up_e h
    have h := hu5
    obtain rfl := Option.some.inj h
    exact E_v (pc := 278) dX4_look_278 rfl hp
  · have h := ite_f q h
    refine V_aload_n (i := 0) (pc := 245) dX4_look_245 rfl rfl ?_
    refine V_getR (b := (this + 16)) (pc := 246) dX4_look_246 fl_Ic_40 h_this rfl rfl ?_
    refine V_iload_n (i := 3) (pc := 249) dX4_look_249 rfl rfl ?_
    refine V_aload_n (i := 2) (pc := 250) dX4_look_250 rfl rfl ?_
    refine V_iload_n (i := 3) (pc := 251) dX4_look_251 rfl rfl ?_
    obtain ⟨r252, e252, h⟩ := bnd h
    refine V_invV1 (c := 2) (pc := 252) dX4_look_252 (e_Fl_tells (kf_0_0 h_v1) e252) iv_Ic_102 (rm_Ic_look_Fl_tells _ _ _) rfl (kf_0_0 h_v1) cf_2 rfl (Nat.le_of_ble_eq_true rfl) rfl ?_
    refine V_if_eq (pc := 255) (tgt := 270) dX4_look_255 rfl (fun q => ?_) (fun q => ?_)
    · have h := ite_t q h
      refine V_iconst (v := 0) (pc := 270) dX4_look_270 rfl ?_
      exact k_Ic_look_b271 h_this h_v1 h hp
    · have h := ite_f q h
      refine V_iload_n (i := 3) (pc := 258) dX4_look_258 rfl rfl ?_
      refine V_iconst (v := 1) (pc := 259) dX4_look_259 rfl ?_
      refine V_aload_n (i := 2) (pc := 260) dX4_look_260 rfl rfl ?_
      refine V_getI (pc := 261) dX4_look_261 fl_Ic_106 (kf_0_0 h_v1) rfl ?_
      obtain ⟨r264, e264, h⟩ := bnd h
      refine V_invSN1 (pc := 264) dX4_look_264 (e_PL_neededOf  e264) isn_Ic_109 (rm_Ic_look_PL_neededOf _ _ _) rfl (Nat.le_of_ble_eq_true rfl) rfl ?_
      refine V_goto (tgt := 271) (pc := 267) dX4_look_267 rfl ?_
      exact k_Ic_look_b271 h_this h_v1 h hp
theorem k_Ic_look_l193 {g : GE} {this : Nat} {v1 : Nat}  {v3 : Int32} {m : Mem} (h_this : kd this = 5) (h_v1 : kd v1 = 1) {r : Option AV} {m' : Mem} {x : (Int32 × Mem) ⊕ (Mem)} (h : Ic_look_l193 this v1 v3 m = some x) (hp : (Sum.elim (fun s : Int32 × Mem => V g Y_Ic_look 193 [some (vr this), some (vr v1), some (vr (v1 + 1)), some (vi s.1), none] [] s.2 (PM g Y_Ic_look r m')) (fun x : Mem => r = none ∧ m' = x)) x) : V g Y_Ic_look 193 [some (vr this), some (vr v1), some (vr (v1 + 1)), some (vi v3), none] [] m (PM g Y_Ic_look r m') := by
  unfold Ic_look_l193 at h
  refine V_iload_n (i := 3) (pc := 193) dX4_look_193 rfl rfl ?_
  refine V_iconst (v := 4) (pc := 194) dX4_look_194 rfl ?_
  refine V_icmp_ge (pc := 195) (tgt := 238) dX4_look_195 rfl (fun q => ?_) (fun q => ?_)
  · have h := ite_t q h
    obtain ⟨y4, hu4, rfl⟩ := up_e h
    have h := hu4
    refine V_iconst (v := 0) (pc := 238) dX4_look_238 rfl ?_
    refine V_istore_n (i := 3) (ls' := [some (vr this), some (vr v1), some (vr (v1 + 1)), some (vi 0), none]) (pc := 239) dX4_look_239 rfl (Nat.le_of_ble_eq_true rfl) rfl ?_
    refine V_sub (ls' := [some (vr this), none, some (vr (v1 + 1)), some (vi 0), none]) (And.intro rfl (And.intro rfl (And.intro rfl trivial))) ?_
    exact loop_V (A := fun s : Int32 × Mem => V g Y_Ic_look 240 [some (vr this), none, some (vr (v1 + 1)), some (vi s.1), none] [] s.2 (PM g Y_Ic_look r m')) (fun s x h hp => k_Ic_look_l240 h_this h_v1 h hp) (0, m) _ h hp
  · have h := ite_f q h
    refine V_aload_n (i := 0) (pc := 198) dX4_look_198 rfl rfl ?_
    refine V_getR (b := (this + 4)) (pc := 199) dX4_look_199 fl_Ic_26 h_this rfl rfl ?_
    refine V_iload_n (i := 3) (pc := 202) dX4_look_202 rfl rfl ?_
    refine V_aload_n (i := 1) (pc := 203) dX4_look_203 rfl rfl ?_
    refine V_getR (b := (v1 + 38)) (pc := 204) dX4_look_204 fl_Ic_95 h_v1 rfl rfl ?_
    refine V_iload_n (i := 3) (pc := 207) dX4_look_207 rfl rfl ?_
    obtain ⟨hg208, h⟩ := gd_e h
    refine V_iald (pc := 208) dX4_look_208 (kf_0_6 h_v1) (af_0_6 h_v1) hg208 ?_
    obtain ⟨hg209, h⟩ := gd_e h
    refine V_iast_lt (pc := 209) dX4_look_209 (kf_4_7 h_this) (af_4_7 h_this) hg209 h (fun m209 h => ?_)
    refine V_aload_n (i := 0) (pc := 210) dX4_look_210 rfl rfl ?_
    refine V_getR (b := (this + 5)) (pc := 211) dX4_look_211 fl_Ic_29 h_this rfl rfl ?_
    refine V_iload_n (i := 3) (pc := 214) dX4_look_214 rfl rfl ?_
    refine V_aload_n (i := 2) (pc := 215) dX4_look_215 rfl rfl ?_
    refine V_aload_n (i := 1) (pc := 216) dX4_look_216 rfl rfl ?_
    refine V_getR (b := (v1 + 36)) (pc := 217) dX4_look_217 fl_Ic_96 h_v1 rfl rfl ?_
    refine V_iload_n (i := 3) (pc := 220) dX4_look_220 rfl rfl ?_
    obtain ⟨hg221, h⟩ := gd_e h
    refine V_iald (pc := 221) dX4_look_221 (kf_0_4 h_v1) (af_0_4 h_v1) hg221 ?_
    refine V_aload_n (i := 1) (pc := 222) dX4_look_222 rfl rfl ?_
    refine V_getR (b := (v1 + 37)) (pc := 223) dX4_look_223 fl_Ic_99 h_v1 rfl rfl ?_
    refine V_iload_n (i := 3) (pc := 226) dX4_look_226 rfl rfl ?_
    obtain ⟨hg227, h⟩ := gd_e h
    refine V_iald (pc := 227) dX4_look_227 (kf_0_5 h_v1) (af_0_5 h_v1) hg227 ?_
    obtain ⟨r228, e228, h⟩ := bnd h
    refine V_invV1 (c := 2) (pc := 228) dX4_look_228 (e_Fl_beyond (kf_0_0 h_v1) e228) iv_Ic_89 (rm_Ic_look_Fl_beyond _ _ _) rfl (kf_0_0 h_v1) cf_2 rfl (Nat.le_of_ble_eq_true rfl) rfl ?_
    obtain ⟨hg231, h⟩ := gd_e h
    refine V_iast_lt (pc := 231) dX4_look_231 (kf_4_8 h_this) (af_4_8 h_this) hg231 h (fun m231 h => ?_)
    refine V_iinc (i := 3) (v := (v3 + 1)) (ls' := [some (vr this), some (vr v1), some (vr (v1 + 1)), some (vi (v3 + 1)), none]) (pc := 232) dX4_look_232 rfl rfl (Nat.le_of_ble_eq_true rfl) rfl ?_
    refine V_goto (tgt := 193) (pc := 235) dX4_look_235 rfl ?_
    obtain rfl := Option.some.inj h
    exact hp
theorem k_Ic_look_l157 {g : GE} {this : Nat} {v1 : Nat} {v3 : Int32} {v4 : Int32} {m : Mem} (h_this : kd this = 5) (h_v1 : kd v1 = 1) {r : Option AV} {m' : Mem} {x : (Int32 × Mem) ⊕ ((Int32 × Mem) ⊕ (Mem))} (h : Ic_look_l157 this v1 v3 v4 m = some x) (hp : (Sum.elim (fun s : Int32 × Mem => V g Y_Ic_look 157 [some (vr this), some (vr v1), some (vr (v1 + 1)), some (vi v3), some (vi s.1)] [] s.2 (PM g Y_Ic_look r m')) (Sum.elim (fun s : Int32 × Mem => V g Y_Ic_look 126 [some (vr this), some (vr v1), some (vr (v1 + 1)), some (vi s.1), none] [] s.2 (PM g Y_Ic_look r m')) (fun x : Mem => r = none ∧ m' = x))) x) : V g Y_Ic_look 157 [some (vr this), some (vr v1), some (vr (v1 + 1)), some (vi v3), some (vi v4)] [] m (PM g Y_Ic_look r m') := by
  unfold Ic_look_l157 at h
  refine V_iload (i := 4) (pc := 157) dX4_look_157 rfl ?_
  refine V_iconst (v := 4) (pc := 159) dX4_look_159 rfl ?_
  refine V_icmp_ge (pc := 160) (tgt := 185) dX4_look_160 rfl (fun q => ?_) (fun q => ?_)
  · have h := ite_t q h
    obtain ⟨y6, hu6, rfl⟩ := up_e h
    have h := hu6
    refine V_iinc (i := 3) (v := (v3 + 1)) (ls' := [some (vr this), some (vr v1), some (vr (v1 + 1)), some (vi (v3 + 1)), some (vi v4)]) (pc := 185) dX4_look_185 rfl rfl (Nat.le_of_ble_eq_true rfl) rfl ?_
    refine V_goto (tgt := 126) (pc := 188) dX4_look_188 rfl ?_
    refine V_sub (ls' := [some (vr this), some (vr v1), some (vr (v1 + 1)), some (vi (v3 + 1)), none]) (And.intro rfl (And.intro rfl (And.intro rfl (And.intro rfl trivial)))) ?_
    obtain rfl := Option.some.inj h
    exact hp
  · have h := ite_f q h
    refine V_aload_n (i := 0) (pc := 163) dX4_look_163 rfl rfl ?_
    refine V_getR (b := (this + 7)) (pc := 164) dX4_look_164 fl_Ic_37 h_this rfl rfl ?_
    refine V_iload_n (i := 3) (pc := 167) dX4_look_167 rfl rfl ?_
    obtain ⟨hg168, h⟩ := gd_e h
    refine V_aald (b := ((this + 7) + (1 + ix v3))) (k := 4) (pc := 168) dX4_look_168 (kf_4_10 h_this) (by decide) (af_4_10 h_this) hg168 rfl ?_
    refine V_iload (i := 4) (pc := 169) dX4_look_169 rfl ?_
    refine V_aload_n (i := 1) (pc := 171) dX4_look_171 rfl rfl ?_
    refine V_iload_n (i := 3) (pc := 172) dX4_look_172 rfl rfl ?_
    refine V_iload (i := 4) (pc := 173) dX4_look_173 rfl ?_
    obtain ⟨r175, e175, h⟩ := bnd h
    refine V_invV1 (c := 0) (pc := 175) dX4_look_175 (e_Ca_givenBy h_v1 e175) iv_Ic_92 (rm_Ic_look_Ca_givenBy _ _ _) rfl h_v1 cf_0 rfl (Nat.le_of_ble_eq_true rfl) rfl ?_
    obtain ⟨hg178, h⟩ := gd_e h
    refine V_iast_lt (pc := 178) dX4_look_178 (ka24 (kf_4_10 h_this) (af_4_10 h_this) hg168) ((la24 (kf_4_10 h_this) (af_4_10 h_this) hg168).trans (ag_4_10 h_this)) hg178 h (fun m178 h => ?_)
    refine V_iinc (i := 4) (v := (v4 + 1)) (ls' := [some (vr this), some (vr v1), some (vr (v1 + 1)), some (vi v3), some (vi (v4 + 1))]) (pc := 179) dX4_look_179 rfl rfl (Nat.le_of_ble_eq_true rfl) rfl ?_
    refine V_goto (tgt := 157) (pc := 182) dX4_look_182 rfl ?_
    obtain rfl := Option.some.inj h
    exact hp
theorem k_Ic_look_l126 {g : GE} {this : Nat} {v1 : Nat}  {v3 : Int32} {m : Mem} (h_this : kd this = 5) (h_v1 : kd v1 = 1) {r : Option AV} {m' : Mem} {x : (Int32 × Mem) ⊕ (Mem)} (h : Ic_look_l126 this v1 v3 m = some x) (hp : (Sum.elim (fun s : Int32 × Mem => V g Y_Ic_look 126 [some (vr this), some (vr v1), some (vr (v1 + 1)), some (vi s.1), none] [] s.2 (PM g Y_Ic_look r m')) (fun x : Mem => r = none ∧ m' = x)) x) : V g Y_Ic_look 126 [some (vr this), some (vr v1), some (vr (v1 + 1)), some (vi v3), none] [] m (PM g Y_Ic_look r m') := by
  unfold Ic_look_l126 at h
  refine V_iload_n (i := 3) (pc := 126) dX4_look_126 rfl rfl ?_
  refine V_bipush (v := 8) (pc := 127) dX4_look_127 rfl ?_
  refine V_icmp_ge (pc := 129) (tgt := 191) dX4_look_129 rfl (fun q => ?_) (fun q => ?_)
  · have h := ite_t q h
    obtain ⟨y3, hu3, rfl⟩ := up_e h
    have h := hu3
    refine V_iconst (v := 0) (pc := 191) dX4_look_191 rfl ?_
    refine V_istore_n (i := 3) (ls' := [some (vr this), some (vr v1), some (vr (v1 + 1)), some (vi 0), none]) (pc := 192) dX4_look_192 rfl (Nat.le_of_ble_eq_true rfl) rfl ?_
    exact loop_V (A := fun s : Int32 × Mem => V g Y_Ic_look 193 [some (vr this), some (vr v1), some (vr (v1 + 1)), some (vi s.1), none] [] s.2 (PM g Y_Ic_look r m')) (fun s x h hp => k_Ic_look_l193 h_this h_v1 h hp) (0, m) _ h hp
  · have h := ite_f q h
    refine V_aload_n (i := 0) (pc := 132) dX4_look_132 rfl rfl ?_
    refine V_getR (b := (this + 6)) (pc := 133) dX4_look_133 fl_Ic_32 h_this rfl rfl ?_
    refine V_iload_n (i := 3) (pc := 136) dX4_look_136 rfl rfl ?_
    refine V_aload_n (i := 2) (pc := 137) dX4_look_137 rfl rfl ?_
    refine V_aload_n (i := 1) (pc := 138) dX4_look_138 rfl rfl ?_
    refine V_getR (b := (v1 + 25)) (pc := 139) dX4_look_139 fl_Ic_83 h_v1 rfl rfl ?_
    refine V_iload_n (i := 3) (pc := 142) dX4_look_142 rfl rfl ?_
    obtain ⟨hg143, h⟩ := gd_e h
    refine V_iald (pc := 143) dX4_look_143 (kf_0_1 h_v1) (af_0_1 h_v1) hg143 ?_
    refine V_aload_n (i := 1) (pc := 144) dX4_look_144 rfl rfl ?_
    refine V_getR (b := (v1 + 26)) (pc := 145) dX4_look_145 fl_Ic_86 h_v1 rfl rfl ?_
    refine V_iload_n (i := 3) (pc := 148) dX4_look_148 rfl rfl ?_
    obtain ⟨hg149, h⟩ := gd_e h
    refine V_iald (pc := 149) dX4_look_149 (kf_0_2 h_v1) (af_0_2 h_v1) hg149 ?_
    obtain ⟨r150, e150, h⟩ := bnd h
    refine V_invV1 (c := 2) (pc := 150) dX4_look_150 (e_Fl_beyond (kf_0_0 h_v1) e150) iv_Ic_89 (rm_Ic_look_Fl_beyond _ _ _) rfl (kf_0_0 h_v1) cf_2 rfl (Nat.le_of_ble_eq_true rfl) rfl ?_
    obtain ⟨hg153, h⟩ := gd_e h
    refine V_iast_lt (pc := 153) dX4_look_153 (kf_4_9 h_this) (af_4_9 h_this) hg153 h (fun m153 h => ?_)
    refine V_iconst (v := 0) (pc := 154) dX4_look_154 rfl ?_
    refine V_istore (i := 4) (ls' := [some (vr this), some (vr v1), some (vr (v1 + 1)), some (vi v3), some (vi 0)]) (pc := 155) dX4_look_155 (Nat.le_of_ble_eq_true rfl) rfl ?_
    exact loop_V (A := fun s : Int32 × Mem => V g Y_Ic_look 157 [some (vr this), some (vr v1), some (vr (v1 + 1)), some (vi v3), some (vi s.1)] [] s.2 (PM g Y_Ic_look r m')) (fun s x h hp => k_Ic_look_l157 h_this h_v1 h hp) (0, m153) _ h hp
theorem k_Ic_look_b124 {g : GE} {this : Nat} {v1 : Nat}   {m : Mem} (h_this : kd this = 5) (h_v1 : kd v1 = 1) {r : Option AV} {m' : Mem} {x : Mem} (h : Ic_look_b124 this v1 m = some x) (hp : (fun x : Mem => r = none ∧ m' = x) x) : V g Y_Ic_look 124 [some (vr this), some (vr v1), some (vr (v1 + 1)), none, none] [] m (PM g Y_Ic_look r m') := by
  unfold Ic_look_b124 at h
  refine V_iconst (v := 0) (pc := 124) dX4_look_124 rfl ?_
  refine V_istore_n (i := 3) (ls' := [some (vr this), some (vr v1), some (vr (v1 + 1)), some (vi 0), none]) (pc := 125) dX4_look_125 rfl (Nat.le_of_ble_eq_true rfl) rfl ?_
  exact loop_V (A := fun s : Int32 × Mem => V g Y_Ic_look 126 [some (vr this), some (vr v1), some (vr (v1 + 1)), some (vi s.1), none] [] s.2 (PM g Y_Ic_look r m')) (fun s x h hp => k_Ic_look_l126 h_this h_v1 h hp) (0, m) _ h hp
theorem k_Ic_look_l85 {g : GE} {this : Nat} {v1 : Nat}  {v3 : Int32} {m : Mem} (h_this : kd this = 5) (h_v1 : kd v1 = 1) {r : Option AV} {m' : Mem} {x : (Int32 × Mem) ⊕ (Mem)} (h : Ic_look_l85 this v1 v3 m = some x) (hp : (Sum.elim (fun s : Int32 × Mem => V g Y_Ic_look 85 [some (vr this), some (vr v1), some (vr (v1 + 1)), some (vi s.1), none] [] s.2 (PM g Y_Ic_look r m')) (fun x : Mem => r = none ∧ m' = x)) x) : V g Y_Ic_look 85 [some (vr this), some (vr v1), some (vr (v1 + 1)), some (vi v3), none] [] m (PM g Y_Ic_look r m') := by
  unfold Ic_look_l85 at h
  refine V_iload_n (i := 3) (pc := 85) dX4_look_85 rfl rfl ?_
  refine V_aload_n (i := 2) (pc := 86) dX4_look_86 rfl rfl ?_
  refine V_getR (b := (v1 + 2)) (pc := 87) dX4_look_87 fl_Ic_49 (kf_0_0 h_v1) rfl rfl ?_
  refine V_getI (pc := 90) dX4_look_90 fl_Ic_55 (kf_2_15 (kf_0_0 h_v1)) rfl ?_
  refine V_icmp_ge (pc := 93) (tgt := 124) dX4_look_93 rfl (fun q => ?_) (fun q => ?_)
  · have h := ite_t q h
    obtain ⟨y2, hu2, rfl⟩ := up_e h
    have h := hu2
    refine V_sub (ls' := [some (vr this), some (vr v1), some (vr (v1 + 1)), none, none]) (And.intro rfl (And.intro rfl (And.intro rfl trivial))) ?_
    exact k_Ic_look_b124 h_this h_v1 h hp
  · have h := ite_f q h
    refine V_iload_n (i := 3) (pc := 96) dX4_look_96 rfl rfl ?_
    refine V_bipush (v := 7) (pc := 97) dX4_look_97 rfl ?_
    refine V_icmp_ge (pc := 99) (tgt := 124) dX4_look_99 rfl (fun q => ?_) (fun q => ?_)
    · have h := ite_t q h
      obtain ⟨y7, hu7, rfl⟩ := up_e h
      have h := hu7
      refine V_sub (ls' := [some (vr this), some (vr v1), some (vr (v1 + 1)), none, none]) (And.intro rfl (And.intro rfl (And.intro rfl trivial))) ?_
      exact k_Ic_look_b124 h_this h_v1 h hp
    · have h := ite_f q h
      refine V_aload_n (i := 0) (pc := 102) dX4_look_102 rfl rfl ?_
      refine V_getR (b := (this + 3)) (pc := 103) dX4_look_103 fl_Ic_23 h_this rfl rfl ?_
      refine V_iload_n (i := 3) (pc := 106) dX4_look_106 rfl rfl ?_
      refine V_aload_n (i := 2) (pc := 107) dX4_look_107 rfl rfl ?_
      refine V_iload_n (i := 3) (pc := 108) dX4_look_108 rfl rfl ?_
      refine V_aload_n (i := 1) (pc := 109) dX4_look_109 rfl rfl ?_
      refine V_iload_n (i := 3) (pc := 110) dX4_look_110 rfl rfl ?_
      obtain ⟨r111, e111, h⟩ := bnd h
      refine V_invV1 (c := 0) (pc := 111) dX4_look_111 (e_Ca_tonsNear h_v1 e111) iv_Ic_76 (rm_Ic_look_Ca_tonsNear _ _ _) rfl h_v1 cf_0 rfl (Nat.le_of_ble_eq_true rfl) rfl ?_
      obtain ⟨r114, e114, h⟩ := bnd h
      refine V_invV1 (c := 2) (pc := 114) dX4_look_114 (e_Fl_oddsUnder (kf_0_0 h_v1) e114) iv_Ic_80 (rm_Ic_look_Fl_oddsUnder _ _ _) rfl (kf_0_0 h_v1) cf_2 rfl (Nat.le_of_ble_eq_true rfl) rfl ?_
      obtain ⟨hg117, h⟩ := gd_e h
      refine V_iast_lt (pc := 117) dX4_look_117 (kf_4_6 h_this) (af_4_6 h_this) hg117 h (fun m117 h => ?_)
      refine V_iinc (i := 3) (v := (v3 + 1)) (ls' := [some (vr this), some (vr v1), some (vr (v1 + 1)), some (vi (v3 + 1)), none]) (pc := 118) dX4_look_118 rfl rfl (Nat.le_of_ble_eq_true rfl) rfl ?_
      refine V_goto (tgt := 85) (pc := 121) dX4_look_121 rfl ?_
      obtain rfl := Option.some.inj h
      exact hp
theorem k_Ic_look_b69 {g : GE} {this : Nat} {v1 : Nat} {v3 : Int32} {k1 : Int32} {k2 : Int64}  {m : Mem} (h_this : kd this = 5) (h_v1 : kd v1 = 1) {r : Option AV} {m' : Mem} {x : (Int32 × Mem) ⊕ (Mem)} (h : Ic_look_b69 this v1 v3 k1 k2 m = some x) (hp : (Sum.elim (fun s : Int32 × Mem => V g Y_Ic_look 41 [some (vr this), some (vr v1), some (vr (v1 + 1)), some (vi s.1), none] [] s.2 (PM g Y_Ic_look r m')) (fun x : Mem => r = none ∧ m' = x)) x) : V g Y_Ic_look 69 [some (vr this), some (vr v1), some (vr (v1 + 1)), some (vi v3), none] [vl k2, vi k1, vr (this + 1)] m (PM g Y_Ic_look r m') := by
  unfold Ic_look_b69 at h
  obtain ⟨hg69, h⟩ := gd_e h
  refine V_last_lt (pc := 69) dX4_look_69 (kf_4_4 h_this) (af_4_4 h_this) hg69 h (fun m69 h => ?_)
  refine V_aload_n (i := 0) (pc := 70) dX4_look_70 rfl rfl ?_
  refine V_getR (b := (this + 2)) (pc := 71) dX4_look_71 fl_Ic_19 h_this rfl rfl ?_
  refine V_iload_n (i := 3) (pc := 74) dX4_look_74 rfl rfl ?_
  refine V_iconst (v := 0) (pc := 75) dX4_look_75 rfl ?_
  obtain ⟨hg76, h⟩ := gd_e h
  refine V_iast_lt (pc := 76) dX4_look_76 (kf_4_5 h_this) (af_4_5 h_this) hg76 h (fun m76 h => ?_)
  refine V_iinc (i := 3) (v := (v3 + 1)) (ls' := [some (vr this), some (vr v1), some (vr (v1 + 1)), some (vi (v3 + 1)), none]) (pc := 77) dX4_look_77 rfl rfl (Nat.le_of_ble_eq_true rfl) rfl ?_
  refine V_goto (tgt := 41) (pc := 80) dX4_look_80 rfl ?_
  obtain rfl := Option.some.inj h
  exact hp
theorem k_Ic_look_l41 {g : GE} {this : Nat} {v1 : Nat}  {v3 : Int32} {m : Mem} (h_this : kd this = 5) (h_v1 : kd v1 = 1) {r : Option AV} {m' : Mem} {x : (Int32 × Mem) ⊕ (Mem)} (h : Ic_look_l41 this v1 v3 m = some x) (hp : (Sum.elim (fun s : Int32 × Mem => V g Y_Ic_look 41 [some (vr this), some (vr v1), some (vr (v1 + 1)), some (vi s.1), none] [] s.2 (PM g Y_Ic_look r m')) (fun x : Mem => r = none ∧ m' = x)) x) : V g Y_Ic_look 41 [some (vr this), some (vr v1), some (vr (v1 + 1)), some (vi v3), none] [] m (PM g Y_Ic_look r m') := by
  unfold Ic_look_l41 at h
  refine V_iload_n (i := 3) (pc := 41) dX4_look_41 rfl rfl ?_
  refine V_aload_n (i := 0) (pc := 42) dX4_look_42 rfl rfl ?_
  refine V_getI (pc := 43) dX4_look_43 fl_Ic_9 h_this rfl ?_
  refine V_icmp_ge (pc := 46) (tgt := 83) dX4_look_46 rfl (fun q => ?_) (fun q => ?_)
  · have h := ite_t q h
    obtain ⟨y1, hu1, rfl⟩ := up_e h
    have h := hu1
    refine V_iconst (v := 0) (pc := 83) dX4_look_83 rfl ?_
    refine V_istore_n (i := 3) (ls' := [some (vr this), some (vr v1), some (vr (v1 + 1)), some (vi 0), none]) (pc := 84) dX4_look_84 rfl (Nat.le_of_ble_eq_true rfl) rfl ?_
    exact loop_V (A := fun s : Int32 × Mem => V g Y_Ic_look 85 [some (vr this), some (vr v1), some (vr (v1 + 1)), some (vi s.1), none] [] s.2 (PM g Y_Ic_look r m')) (fun s x h hp => k_Ic_look_l85 h_this h_v1 h hp) (0, m) _ h hp
  · have h := ite_f q h
    refine V_aload_n (i := 0) (pc := 49) dX4_look_49 rfl rfl ?_
    refine V_getR (b := (this + 1)) (pc := 50) dX4_look_50 fl_Ic_15 h_this rfl rfl ?_
    refine V_iload_n (i := 3) (pc := 53) dX4_look_53 rfl rfl ?_
    refine V_iload_n (i := 3) (pc := 54) dX4_look_54 rfl rfl ?_
    refine V_aload_n (i := 0) (pc := 55) dX4_look_55 rfl rfl ?_
    refine V_getI (pc := 56) dX4_look_56 fl_Ic_69 h_this rfl ?_
    refine V_icmp_ne (pc := 59) (tgt := 68) dX4_look_59 rfl (fun q => ?_) (fun q => ?_)
    · have h := ite_f q h
      refine V_lconst (v := 0) (pc := 68) dX4_look_68 rfl ?_
      exact k_Ic_look_b69 h_this h_v1 h hp
    · have h := ite_t q h
      refine V_ldc2 (v := 1000000000000) (pc := 62) dX4_look_62 con_Ic_74 ?_
      refine V_goto (tgt := 69) (pc := 65) dX4_look_65 rfl ?_
      exact k_Ic_look_b69 h_this h_v1 h hp
theorem k_Ic_look {g : GE} {this : Nat} {v1 : Nat} {m : Mem} (h_this : kd this = 5) (h_v1 : kd v1 = 1) {r : Option AV} {m' : Mem} {x : Mem} (h : Ic_look this v1 m = some x) (hp : (fun x : Mem => r = none ∧ m' = x) x) : V g Y_Ic_look 0 [some (vr this), some (vr v1), none, none, none] [] m (PM g Y_Ic_look r m') := by
  unfold Ic_look at h
  refine V_aload_n (i := 1) (pc := 0) dX4_look_0 rfl rfl ?_
  refine V_getR (b := (v1 + 1)) (pc := 1) dX4_look_1 fl_Ic_43 h_v1 rfl rfl ?_
  refine V_astore_n (i := 2) (ls' := [some (vr this), some (vr v1), some (vr (v1 + 1)), none, none]) (pc := 4) dX4_look_4 rfl (Nat.le_of_ble_eq_true rfl) rfl ?_
  refine V_aload_n (i := 0) (pc := 5) dX4_look_5 rfl rfl ?_
  refine V_iconst (v := 1) (pc := 6) dX4_look_6 rfl ?_
  refine V_aload_n (i := 2) (pc := 7) dX4_look_7 rfl rfl ?_
  refine V_getR (b := (v1 + 2)) (pc := 8) dX4_look_8 fl_Ic_49 (kf_0_0 h_v1) rfl rfl ?_
  refine V_getI (pc := 11) dX4_look_11 fl_Ic_55 (kf_2_15 (kf_0_0 h_v1)) rfl ?_
  refine V_bipush (v := 7) (pc := 14) dX4_look_14 rfl ?_
  refine V_mmin (pc := 16) dX4_look_16 ma_Ic_60 (rmM_Ic_look _ _ _) (Nat.le_of_ble_eq_true rfl) ?_
  refine V_ishl (pc := 19) dX4_look_19 ?_
  refine V_putI_lt (pc := 20) dX4_look_20 fp_Ic_9 h_this rfl rfl rfl h (fun m20 h => ?_)
  refine V_aload_n (i := 0) (pc := 23) dX4_look_23 rfl rfl ?_
  refine V_aload_n (i := 1) (pc := 24) dX4_look_24 rfl rfl ?_
  refine V_getI (pc := 25) dX4_look_25 fl_Ic_66 h_v1 rfl ?_
  refine V_putI_lt (pc := 28) dX4_look_28 fp_Ic_69 h_this rfl rfl rfl h (fun m28 h => ?_)
  refine V_aload_n (i := 0) (pc := 31) dX4_look_31 rfl rfl ?_
  refine V_aload_n (i := 2) (pc := 32) dX4_look_32 rfl rfl ?_
  refine V_getI (pc := 33) dX4_look_33 fl_Ic_70 (kf_0_0 h_v1) rfl ?_
  refine V_putI_lt (pc := 36) dX4_look_36 fp_Ic_73 h_this rfl rfl rfl h (fun m36 h => ?_)
  refine V_iconst (v := 0) (pc := 39) dX4_look_39 rfl ?_
  refine V_istore_n (i := 3) (ls' := [some (vr this), some (vr v1), some (vr (v1 + 1)), some (vi 0), none]) (pc := 40) dX4_look_40 rfl (Nat.le_of_ble_eq_true rfl) rfl ?_
  exact loop_V (A := fun s : Int32 × Mem => V g Y_Ic_look 41 [some (vr this), some (vr v1), some (vr (v1 + 1)), some (vi s.1), none] [] s.2 (PM g Y_Ic_look r m')) (fun s x h hp => k_Ic_look_l41 h_this h_v1 h hp) (0, m36) _ h hp
theorem e_Ic_look {g : GE} {this : Nat} {v1 : Nat} {m : Mem} (h_this : kd this = 5) (h_v1 : kd v1 = 1) {x : Mem} (h : Ic_look this v1 m = some x) : Ev g Y_Ic_look [vr this, vr v1] m (none) x :=
  Ev_of 3 (by decide +kernel) rfl (Nat.le_of_ble_eq_true rfl) rfl (k_Ic_look h_this h_v1 h ⟨rfl, rfl⟩)
theorem k_Ic_passHour_b113 {g : GE} {this : Nat} {v1 : Int32} {v2 : Int32}  {m : Mem} (h_this : kd this = 5) {r : Option AV} {m' : Mem} {x : (Int32 × Mem) ⊕ ((Int32 × Mem) ⊕ (Mem))} (h : Ic_passHour_b113 this v1 v2 m = some x) (hp : (Sum.elim (fun s : Int32 × Mem => V g Y_Ic_passHour 20 [some (vr this), some (vi v1), some (vi s.1), none, none, none, none, none] [] s.2 (PM g Y_Ic_passHour r m')) (Sum.elim (fun s : Int32 × Mem => V g Y_Ic_passHour 2 [some (vr this), some (vi s.1), none, none, none, none, none, none] [] s.2 (PM g Y_Ic_passHour r m')) (fun x : Mem => r = none ∧ m' = x))) x) : V g Y_Ic_passHour 113 [some (vr this), some (vi v1), some (vi v2), none, none, none, none, none] [] m (PM g Y_Ic_passHour r m') := by
  unfold Ic_passHour_b113 at h
  refine V_iinc (i := 2) (v := (v2 + 1)) (ls' := [some (vr this), some (vi v1), some (vi (v2 + 1)), none, none, none, none, none]) (pc := 113) dX4_passHour_113 rfl rfl (Nat.le_of_ble_eq_true rfl) rfl ?_
  refine V_goto (tgt := 20) (pc := 116) dX4_passHour_116 rfl ?_
  obtain rfl := Option.some.inj h
  exact hp
theorem k_Ic_passHour_l20 {g : GE} {this : Nat} {v1 : Int32} {v2 : Int32} {m : Mem} (h_this : kd this = 5) {r : Option AV} {m' : Mem} {x : (Int32 × Mem) ⊕ ((Int32 × Mem) ⊕ (Mem))} (h : Ic_passHour_l20 this v1 v2 m = some x) (hp : (Sum.elim (fun s : Int32 × Mem => V g Y_Ic_passHour 20 [some (vr this), some (vi v1), some (vi s.1), none, none, none, none, none] [] s.2 (PM g Y_Ic_passHour r m')) (Sum.elim (fun s : Int32 × Mem => V g Y_Ic_passHour 2 [some (vr this), some (vi s.1), none, none, none, none, none, none] [] s.2 (PM g Y_Ic_passHour r m')) (fun x : Mem => r = none ∧ m' = x))) x) : V g Y_Ic_passHour 20 [some (vr this), some (vi v1), some (vi v2), none, none, none, none, none] [] m (PM g Y_Ic_passHour r m') := by
  unfold Ic_passHour_l20 at h
  refine V_iload_n (i := 2) (pc := 20) dX4_passHour_20 rfl rfl ?_
  refine V_aload_n (i := 0) (pc := 21) dX4_passHour_21 rfl rfl ?_
  refine V_getI (pc := 22) dX4_passHour_22 fl_Ic_9 h_this rfl ?_
  refine V_icmp_ge (pc := 25) (tgt := 119) dX4_passHour_25 rfl (fun q => ?_) (fun q => ?_)
  · have h := ite_t q h
    obtain ⟨y3, hu3, rfl⟩ := up_e h
    have h := hu3
    refine V_iinc (i := 1) (v := (v1 + 1)) (ls' := [some (vr this), some (vi (v1 + 1)), some (vi v2), none, none, none, none, none]) (pc := 119) dX4_passHour_119 rfl rfl (Nat.le_of_ble_eq_true rfl) rfl ?_
    refine V_goto (tgt := 2) (pc := 122) dX4_passHour_122 rfl ?_
    refine V_sub (ls' := [some (vr this), some (vi (v1 + 1)), none, none, none, none, none, none]) (And.intro rfl (And.intro rfl trivial)) ?_
    obtain rfl := Option.some.inj h
    exact hp
  · have h := ite_f q h
    refine V_iload_n (i := 2) (pc := 28) dX4_passHour_28 rfl rfl ?_
    refine V_iconst (v := 1) (pc := 29) dX4_passHour_29 rfl ?_
    refine V_iload_n (i := 1) (pc := 30) dX4_passHour_30 rfl rfl ?_
    refine V_ishl (pc := 31) dX4_passHour_31 ?_
    refine V_ior (pc := 32) dX4_passHour_32 ?_
    refine V_istore_n (i := 3) (ls' := [some (vr this), some (vi v1), some (vi v2), some (vi (v2 ||| ((1 : Int32) <<< (v1 &&& 31)))), none, none, none, none]) (pc := 33) dX4_passHour_33 rfl (Nat.le_of_ble_eq_true rfl) rfl ?_
    refine V_iload_n (i := 3) (pc := 34) dX4_passHour_34 rfl rfl ?_
    refine V_iload_n (i := 2) (pc := 35) dX4_passHour_35 rfl rfl ?_
    refine V_icmp_eq (pc := 36) (tgt := 113) dX4_passHour_36 rfl (fun q => ?_) (fun q => ?_)
    · have h := ite_t q h
      refine V_sub (ls' := [some (vr this), some (vi v1), some (vi v2), none, none, none, none, none]) (And.intro rfl (And.intro rfl (And.intro rfl trivial))) ?_
      exact k_Ic_passHour_b113 h_this h hp
    · have h := ite_f q h
      refine V_iload_n (i := 3) (pc := 39) dX4_passHour_39 rfl rfl ?_
      refine V_aload_n (i := 0) (pc := 40) dX4_passHour_40 rfl rfl ?_
      refine V_getI (pc := 41) dX4_passHour_41 fl_Ic_9 h_this rfl ?_
      refine V_icmp_ge (pc := 44) (tgt := 113) dX4_passHour_44 rfl (fun q => ?_) (fun q => ?_)
      · have h := ite_t q h
        refine V_sub (ls' := [some (vr this), some (vi v1), some (vi v2), none, none, none, none, none]) (And.intro rfl (And.intro rfl (And.intro rfl trivial))) ?_
        exact k_Ic_passHour_b113 h_this h hp
      · have h := ite_f q h
        refine V_aload_n (i := 0) (pc := 47) dX4_passHour_47 rfl rfl ?_
        refine V_getR (b := (this + 1)) (pc := 48) dX4_passHour_48 fl_Ic_15 h_this rfl rfl ?_
        refine V_iload_n (i := 2) (pc := 51) dX4_passHour_51 rfl rfl ?_
        obtain ⟨hg52, h⟩ := gd_e h
        refine V_lald (pc := 52) dX4_passHour_52 (kf_4_4 h_this) (af_4_4 h_this) hg52 ?_
        refine V_aload_n (i := 0) (pc := 53) dX4_passHour_53 rfl rfl ?_
        refine V_getR (b := (this + 3)) (pc := 54) dX4_passHour_54 fl_Ic_23 h_this rfl rfl ?_
        refine V_iload_n (i := 1) (pc := 57) dX4_passHour_57 rfl rfl ?_
        obtain ⟨hg58, h⟩ := gd_e h
        refine V_iald (pc := 58) dX4_passHour_58 (kf_4_6 h_this) (af_4_6 h_this) hg58 ?_
        refine V_i2l (pc := 59) dX4_passHour_59 ?_
        refine V_lmul (pc := 60) dX4_passHour_60 ?_
        refine V_ldc2 (v := 10000) (pc := 61) dX4_passHour_61 con_Ic_113 ?_
        refine V_ldiv (pc := 64) dX4_passHour_64 (by decide) ?_
        refine V_lstore (i := 4) (ls' := [some (vr this), some (vi v1), some (vi v2), some (vi (v2 ||| ((1 : Int32) <<< (v1 &&& 31)))), some (vl (((rL m (this + 1) (ix v2)) * ((rI m (this + 3) (ix v1)).toInt64)) / 10000)), none, none, none]) (pc := 65) dX4_passHour_65 (Nat.le_of_ble_eq_true rfl) rfl ?_
        refine V_aload_n (i := 0) (pc := 67) dX4_passHour_67 rfl rfl ?_
        refine V_getR (b := (this + 1)) (pc := 68) dX4_passHour_68 fl_Ic_15 h_this rfl rfl ?_
        refine V_iload_n (i := 3) (pc := 71) dX4_passHour_71 rfl rfl ?_
        obtain ⟨hg72, h⟩ := gd_e h
        refine V_lald (pc := 72) dX4_passHour_72 (kf_4_4 h_this) (af_4_4 h_this) hg72 ?_
        refine V_aload_n (i := 0) (pc := 73) dX4_passHour_73 rfl rfl ?_
        refine V_getI (pc := 74) dX4_passHour_74 fl_Ic_73 h_this rfl ?_
        refine V_i2l (pc := 77) dX4_passHour_77 ?_
        refine V_lmul (pc := 78) dX4_passHour_78 ?_
        refine V_ldc2 (v := 100) (pc := 79) dX4_passHour_79 con_Ic_115 ?_
        refine V_ldiv (pc := 82) dX4_passHour_82 (by decide) ?_
        refine V_lstore (i := 6) (ls' := [some (vr this), some (vi v1), some (vi v2), some (vi (v2 ||| ((1 : Int32) <<< (v1 &&& 31)))), some (vl (((rL m (this + 1) (ix v2)) * ((rI m (this + 3) (ix v1)).toInt64)) / 10000)), none, some (vl (((rL m (this + 1) (ix (v2 ||| ((1 : Int32) <<< (v1 &&& 31))))) * ((rI m this 3).toInt64)) / 100)), none]) (pc := 83) dX4_passHour_83 (Nat.le_of_ble_eq_true rfl) rfl ?_
        refine V_aload_n (i := 0) (pc := 85) dX4_passHour_85 rfl rfl ?_
        refine V_getR (b := (this + 1)) (pc := 86) dX4_passHour_86 fl_Ic_15 h_this rfl rfl ?_
        refine V_iload_n (i := 2) (pc := 89) dX4_passHour_89 rfl rfl ?_
        refine V_dup2 (pc := 90) dX4_passHour_90 ?_
        obtain ⟨hg91, h⟩ := gd_e h
        refine V_lald (pc := 91) dX4_passHour_91 (kf_4_4 h_this) (af_4_4 h_this) hg91 ?_
        refine V_lload (i := 6) (pc := 92) dX4_passHour_92 rfl ?_
        refine V_lload (i := 4) (pc := 94) dX4_passHour_94 rfl ?_
        refine V_lsub (pc := 96) dX4_passHour_96 ?_
        refine V_ladd (pc := 97) dX4_passHour_97 ?_
        obtain ⟨hg98, h⟩ := gd_e h
        refine V_last_lt (pc := 98) dX4_passHour_98 (kf_4_4 h_this) (af_4_4 h_this) hg98 h (fun m98 h => ?_)
        refine V_aload_n (i := 0) (pc := 99) dX4_passHour_99 rfl rfl ?_
        refine V_getR (b := (this + 1)) (pc := 100) dX4_passHour_100 fl_Ic_15 h_this rfl rfl ?_
        refine V_iload_n (i := 3) (pc := 103) dX4_passHour_103 rfl rfl ?_
        refine V_dup2 (pc := 104) dX4_passHour_104 ?_
        obtain ⟨hg105, h⟩ := gd_e h
        refine V_lald (pc := 105) dX4_passHour_105 (kf_4_4 h_this) (af_4_4 h_this) hg105 ?_
        refine V_lload (i := 4) (pc := 106) dX4_passHour_106 rfl ?_
        refine V_lload (i := 6) (pc := 108) dX4_passHour_108 rfl ?_
        refine V_lsub (pc := 110) dX4_passHour_110 ?_
        refine V_ladd (pc := 111) dX4_passHour_111 ?_
        obtain ⟨hg112, h⟩ := gd_e h
        refine V_last_lt (pc := 112) dX4_passHour_112 (kf_4_4 h_this) (af_4_4 h_this) hg112 h (fun m112 h => ?_)
        refine V_sub (ls' := [some (vr this), some (vi v1), some (vi v2), none, none, none, none, none]) (And.intro rfl (And.intro rfl (And.intro rfl trivial))) ?_
        exact k_Ic_passHour_b113 h_this h hp
theorem k_Ic_passHour_l2 {g : GE} {this : Nat}  {v1 : Int32} {m : Mem} (h_this : kd this = 5) {r : Option AV} {m' : Mem} {x : (Int32 × Mem) ⊕ (Mem)} (h : Ic_passHour_l2 this v1 m = some x) (hp : (Sum.elim (fun s : Int32 × Mem => V g Y_Ic_passHour 2 [some (vr this), some (vi s.1), none, none, none, none, none, none] [] s.2 (PM g Y_Ic_passHour r m')) (fun x : Mem => r = none ∧ m' = x)) x) : V g Y_Ic_passHour 2 [some (vr this), some (vi v1), none, none, none, none, none, none] [] m (PM g Y_Ic_passHour r m') := by
  unfold Ic_passHour_l2 at h
  refine V_iload_n (i := 1) (pc := 2) dX4_passHour_2 rfl rfl ?_
  refine V_bipush (v := 7) (pc := 3) dX4_passHour_3 rfl ?_
  refine V_icmp_ge (pc := 5) (tgt := 125) dX4_passHour_5 rfl (fun q => ?_) (fun q => ?_)
  · have h := ite_t q h
    obtain ⟨y1, hu1, rfl⟩ := up_e h
    have h := hu1
    obtain rfl := Option.some.inj h
    exact E_v (pc := 125) dX4_passHour_125 rfl hp
  · have h := ite_f q h
    refine V_iconst (v := 1) (pc := 8) dX4_passHour_8 rfl ?_
    refine V_iload_n (i := 1) (pc := 9) dX4_passHour_9 rfl rfl ?_
    refine V_ishl (pc := 10) dX4_passHour_10 ?_
    refine V_aload_n (i := 0) (pc := 11) dX4_passHour_11 rfl rfl ?_
    refine V_getI (pc := 12) dX4_passHour_12 fl_Ic_9 h_this rfl ?_
    refine V_icmp_ge (pc := 15) (tgt := 125) dX4_passHour_15 rfl (fun q => ?_) (fun q => ?_)
    · have h := ite_t q h
      obtain ⟨y2, hu2, rfl⟩ := up_e h
      have h := hu2
      obtain rfl := Option.some.inj h
      exact E_v (pc := 125) dX4_passHour_125 rfl hp
    · have h := ite_f q h
      refine V_iconst (v := 0) (pc := 18) dX4_passHour_18 rfl ?_
      refine V_istore_n (i := 2) (ls' := [some (vr this), some (vi v1), some (vi 0), none, none, none, none, none]) (pc := 19) dX4_passHour_19 rfl (Nat.le_of_ble_eq_true rfl) rfl ?_
      exact loop_V (A := fun s : Int32 × Mem => V g Y_Ic_passHour 20 [some (vr this), some (vi v1), some (vi s.1), none, none, none, none, none] [] s.2 (PM g Y_Ic_passHour r m')) (fun s x h hp => k_Ic_passHour_l20 h_this h hp) (0, m) _ h hp
theorem k_Ic_passHour {g : GE} {this : Nat} {m : Mem} (h_this : kd this = 5) {r : Option AV} {m' : Mem} {x : Mem} (h : Ic_passHour this m = some x) (hp : (fun x : Mem => r = none ∧ m' = x) x) : V g Y_Ic_passHour 0 [some (vr this), none, none, none, none, none, none, none] [] m (PM g Y_Ic_passHour r m') := by
  unfold Ic_passHour at h
  refine V_iconst (v := 0) (pc := 0) dX4_passHour_0 rfl ?_
  refine V_istore_n (i := 1) (ls' := [some (vr this), some (vi 0), none, none, none, none, none, none]) (pc := 1) dX4_passHour_1 rfl (Nat.le_of_ble_eq_true rfl) rfl ?_
  exact loop_V (A := fun s : Int32 × Mem => V g Y_Ic_passHour 2 [some (vr this), some (vi s.1), none, none, none, none, none, none] [] s.2 (PM g Y_Ic_passHour r m')) (fun s x h hp => k_Ic_passHour_l2 h_this h hp) (0, m) _ h hp
theorem e_Ic_passHour {g : GE} {this : Nat} {m : Mem} (h_this : kd this = 5) {x : Mem} (h : Ic_passHour this m = some x) : Ev g Y_Ic_passHour [vr this] m (none) x :=
  Ev_of 7 (by decide +kernel) rfl (Nat.le_of_ble_eq_true rfl) rfl (k_Ic_passHour h_this h ⟨rfl, rfl⟩)
theorem k_Ic_partsOf {g : GE} {this : Nat} {v1 : Int32} {m : Mem} (h_this : kd this = 5) {r : Option AV} {m' : Mem} {x : Int64} (h : Ic_partsOf this v1 m = some x) (hp : (fun x : Int64 => r = some (vl x) ∧ m' = m) x) : V g Y_Ic_partsOf 0 [some (vr this), some (vi v1)] [] m (PM g Y_Ic_partsOf r m') := by
  unfold Ic_partsOf at h
  refine V_iload_n (i := 1) (pc := 0) dX4_partsOf_0 rfl rfl ?_
  refine V_if_lt (pc := 1) (tgt := 21) dX4_partsOf_1 rfl (fun q => ?_) (fun q => ?_)
  · have h := ite_t q h
    refine V_lconst (v := 0) (pc := 21) dX4_partsOf_21 rfl ?_
    obtain rfl := Option.some.inj h
    exact E_l (pc := 22) dX4_partsOf_22 rfl hp
  · have h := ite_f q h
    refine V_iload_n (i := 1) (pc := 4) dX4_partsOf_4 rfl rfl ?_
    refine V_aload_n (i := 0) (pc := 5) dX4_partsOf_5 rfl rfl ?_
    refine V_getI (pc := 6) dX4_partsOf_6 fl_Ic_9 h_this rfl ?_
    refine V_icmp_ge (pc := 9) (tgt := 21) dX4_partsOf_9 rfl (fun q => ?_) (fun q => ?_)
    · have h := ite_t q h
      refine V_lconst (v := 0) (pc := 21) dX4_partsOf_21 rfl ?_
      obtain rfl := Option.some.inj h
      exact E_l (pc := 22) dX4_partsOf_22 rfl hp
    · have h := ite_f q h
      refine V_aload_n (i := 0) (pc := 12) dX4_partsOf_12 rfl rfl ?_
      refine V_getR (b := (this + 1)) (pc := 13) dX4_partsOf_13 fl_Ic_15 h_this rfl rfl ?_
      refine V_iload_n (i := 1) (pc := 16) dX4_partsOf_16 rfl rfl ?_
      obtain ⟨hg17, h⟩ := gd_e h
      refine V_lald (pc := 17) dX4_partsOf_17 (kf_4_4 h_this) (af_4_4 h_this) hg17 ?_
      refine V_goto (tgt := 22) (pc := 18) dX4_partsOf_18 rfl ?_
      obtain rfl := Option.some.inj h
      exact E_l (pc := 22) dX4_partsOf_22 rfl hp
theorem e_Ic_partsOf {g : GE} {this : Nat} {v1 : Int32} {m : Mem} (h_this : kd this = 5) {x : Int64} (h : Ic_partsOf this v1 m = some x) : Ev g Y_Ic_partsOf [vr this, vi v1] m (some (vl x)) m :=
  Ev_of 0 (by decide +kernel) rfl (Nat.le_of_ble_eq_true rfl) rfl (k_Ic_partsOf h_this h ⟨rfl, rfl⟩)
theorem k_PL_part {g : GE} {this : Nat} {v1 : Int32} {m : Mem} (h_this : kd this = 11) {r : Option AV} {m' : Mem} {x : Int64 × Mem} (h : PL_part this v1 m = some x) (hp : (fun x : Int64 × Mem => r = some (vl x.1) ∧ m' = x.2) x) : V g Y_PL_part 0 [some (vr this), some (vi v1)] [] m (PM g Y_PL_part r m') := by
  unfold PL_part at h
  refine V_aload_n (i := 0) (pc := 0) dX10_part_0 rfl rfl ?_
  refine V_getR (b := (this + 27)) (pc := 1) dX10_part_1 fl_PL_19 h_this rfl rfl ?_
  refine V_getR (b := (this + 28)) (pc := 4) dX10_part_4 fl_PL_102 (kf_10_1 h_this) rfl rfl ?_
  refine V_iload_n (i := 1) (pc := 7) dX10_part_7 rfl rfl ?_
  obtain ⟨r8, e8, h⟩ := bnd h
  refine V_invV1 (c := 2) (pc := 8) dX10_part_8 (e_Fl_hasSet (kf_0_0 (kf_10_1 h_this)) e8) iv_PL_167 (rm_PL_part_Fl_hasSet _ _ _) rfl (kf_0_0 (kf_10_1 h_this)) cf_2 rfl (Nat.le_of_ble_eq_true rfl) rfl ?_
  refine V_if_ne (pc := 11) (tgt := 18) dX10_part_11 rfl (fun q => ?_) (fun q => ?_)
  · have h := ite_f q h
    refine V_aload_n (i := 0) (pc := 18) dX10_part_18 rfl rfl ?_
    refine V_getR (b := (this + 202)) (pc := 19) dX10_part_19 fl_PL_41 h_this rfl rfl ?_
    refine V_aload_n (i := 0) (pc := 22) dX10_part_22 rfl rfl ?_
    refine V_getR (b := (this + 27)) (pc := 23) dX10_part_23 fl_PL_19 h_this rfl rfl ?_
    obtain ⟨m26, e26, h⟩ := bnd h
    refine V_invV0 (c := 4) (pc := 26) dX10_part_26 (e_Ic_look (kf_10_5 h_this) (kf_10_1 h_this) e26) iv_PL_211 (rm_PL_part_Ic_look _ _ _) rfl (kf_10_5 h_this) cf_4 rfl (Nat.le_of_ble_eq_true rfl) rfl ?_
    refine V_aload_n (i := 0) (pc := 29) dX10_part_29 rfl rfl ?_
    refine V_getR (b := (this + 202)) (pc := 30) dX10_part_30 fl_PL_41 h_this rfl rfl ?_
    obtain ⟨m33, e33, h⟩ := bnd h
    refine V_invV0 (c := 4) (pc := 33) dX10_part_33 (e_Ic_passHour (kf_10_5 h_this) e33) iv_PL_215 (rm_PL_part_Ic_passHour _ _ _) rfl (kf_10_5 h_this) cf_4 rfl (Nat.le_of_ble_eq_true rfl) rfl ?_
    refine V_aload_n (i := 0) (pc := 36) dX10_part_36 rfl rfl ?_
    refine V_getR (b := (this + 202)) (pc := 37) dX10_part_37 fl_PL_41 h_this rfl rfl ?_
    refine V_iload_n (i := 1) (pc := 40) dX10_part_40 rfl rfl ?_
    obtain ⟨r41, e41, h⟩ := bnd h
    refine V_invV1 (c := 4) (pc := 41) dX10_part_41 (e_Ic_partsOf (kf_10_5 h_this) e41) iv_PL_218 (rm_PL_part_Ic_partsOf _ _ _) rfl (kf_10_5 h_this) cf_4 rfl (Nat.le_of_ble_eq_true rfl) rfl ?_
    obtain rfl := Option.some.inj h
    exact E_l (pc := 44) dX10_part_44 rfl hp
  · have h := ite_t q h
    refine V_ldc2 (v := (-2)) (pc := 14) dX10_part_14 con_PL_209 ?_
    obtain rfl := Option.some.inj h
    exact E_l (pc := 17) dX10_part_17 rfl hp
theorem e_PL_part {g : GE} {this : Nat} {v1 : Int32} {m : Mem} (h_this : kd this = 11) {x : Int64 × Mem} (h : PL_part this v1 m = some x) : Ev g Y_PL_part [vr this, vi v1] m (some (vl x.1)) x.2 :=
  Ev_of 0 (by decide +kernel) rfl (Nat.le_of_ble_eq_true rfl) rfl (k_PL_part h_this h ⟨rfl, rfl⟩)
theorem k_Ic_isOnePiece {g : GE} {v0 : Int32} {v1 : Int32} {v2 : Int32} {m : Mem} {r : Option AV} {m' : Mem} {x : Int32} (h : Ic_isOnePiece v0 v1 v2 m = some x) (hp : (fun x : Int32 => r = some (vi x) ∧ m' = m) x) : V g Y_Ic_isOnePiece 0 [some (vi v0), some (vi v1), some (vi v2)] [] m (PM g Y_Ic_isOnePiece r m') := by
  unfold Ic_isOnePiece at h
  refine V_iload_n (i := 1) (pc := 0) dX4_isOnePiece_0 rfl rfl ?_
  refine V_iload_n (i := 2) (pc := 1) dX4_isOnePiece_1 rfl rfl ?_
  refine V_ixor (pc := 2) dX4_isOnePiece_2 ?_
  refine V_iload_n (i := 0) (pc := 3) dX4_isOnePiece_3 rfl rfl ?_
  refine V_iand (pc := 4) dX4_isOnePiece_4 ?_
  refine V_if_ne (pc := 5) (tgt := 12) dX4_isOnePiece_5 rfl (fun q => ?_) (fun q => ?_)
  · have h := ite_f q h
    refine V_iconst (v := 0) (pc := 12) dX4_isOnePiece_12 rfl ?_
    obtain rfl := Option.some.inj h
    exact E_z (pc := 13) dX4_isOnePiece_13 rfl rfl hp
  · have h := ite_t q h
    refine V_iconst (v := 1) (pc := 8) dX4_isOnePiece_8 rfl ?_
    refine V_goto (tgt := 13) (pc := 9) dX4_isOnePiece_9 rfl ?_
    obtain rfl := Option.some.inj h
    exact E_z (pc := 13) dX4_isOnePiece_13 rfl rfl hp
theorem e_Ic_isOnePiece {g : GE} {v0 : Int32} {v1 : Int32} {v2 : Int32} {m : Mem} {x : Int32} (h : Ic_isOnePiece v0 v1 v2 m = some x) : Ev g Y_Ic_isOnePiece [vi v0, vi v1, vi v2] m (some (vi x)) m :=
  Ev_of 0 (by decide +kernel) rfl (Nat.le_of_ble_eq_true rfl) rfl (k_Ic_isOnePiece  h ⟨rfl, rfl⟩)
theorem k_Ic_shortOf_b115 {g : GE} {this : Nat} {v1 : Int32} {v2 : Int32} {v3 : Int32} {v4 : Int32} {v5 : Int32} {v6 : Int32}  {m : Mem} (h_this : kd this = 5) {r : Option AV} {m' : Mem} {x : (Int32 × Int32) ⊕ (Int32)} (h : Ic_shortOf_b115 this v1 v2 v3 v4 v5 v6 m = some x) (hp : (Sum.elim (fun s : Int32 × Int32 => V g Y_Ic_shortOf 74 [some (vr this), some (vi v1), some (vi v2), some (vi v3), some (vi v4), some (vi s.1), some (vi s.2)] [] m (PM g Y_Ic_shortOf r m')) (fun x : Int32 => r = some (vi x) ∧ m' = m)) x) : V g Y_Ic_shortOf 115 [some (vr this), some (vi v1), some (vi v2), some (vi v3), some (vi v4), some (vi v5), some (vi v6)] [] m (PM g Y_Ic_shortOf r m') := by
  unfold Ic_shortOf_b115 at h
  refine V_iinc (i := 6) (v := (v6 + 1)) (ls' := [some (vr this), some (vi v1), some (vi v2), some (vi v3), some (vi v4), some (vi v5), some (vi (v6 + 1))]) (pc := 115) dX4_shortOf_115 rfl rfl (Nat.le_of_ble_eq_true rfl) rfl ?_
  refine V_goto (tgt := 74) (pc := 118) dX4_shortOf_118 rfl ?_
  obtain rfl := Option.some.inj h
  exact hp
theorem k_Ic_shortOf_l74 {g : GE} {this : Nat} {v1 : Int32} {v2 : Int32} {v3 : Int32} {v4 : Int32} {v5 : Int32} {v6 : Int32} {m : Mem} (h_this : kd this = 5) {r : Option AV} {m' : Mem} {x : (Int32 × Int32) ⊕ (Int32)} (h : Ic_shortOf_l74 this v1 v2 v3 v4 v5 v6 m = some x) (hp : (Sum.elim (fun s : Int32 × Int32 => V g Y_Ic_shortOf 74 [some (vr this), some (vi v1), some (vi v2), some (vi v3), some (vi v4), some (vi s.1), some (vi s.2)] [] m (PM g Y_Ic_shortOf r m')) (fun x : Int32 => r = some (vi x) ∧ m' = m)) x) : V g Y_Ic_shortOf 74 [some (vr this), some (vi v1), some (vi v2), some (vi v3), some (vi v4), some (vi v5), some (vi v6)] [] m (PM g Y_Ic_shortOf r m') := by
  unfold Ic_shortOf_l74 at h
  refine V_iload (i := 6) (pc := 74) dX4_shortOf_74 rfl ?_
  refine V_bipush (v := 8) (pc := 76) dX4_shortOf_76 rfl ?_
  refine V_icmp_ge (pc := 78) (tgt := 121) dX4_shortOf_78 rfl (fun q => ?_) (fun q => ?_)
  · have h := ite_t q h
    obtain ⟨y2, hu2, rfl⟩ := up_e h
    have h := hu2
    refine V_iload (i := 4) (pc := 121) dX4_shortOf_121 rfl ?_
    refine V_aload_n (i := 0) (pc := 123) dX4_shortOf_123 rfl rfl ?_
    refine V_getR (b := (this + 16)) (pc := 124) dX4_shortOf_124 fl_Ic_40 h_this rfl rfl ?_
    refine V_iload_n (i := 3) (pc := 127) dX4_shortOf_127 rfl rfl ?_
    obtain ⟨hg128, h⟩ := gd_e h
    refine V_iald (pc := 128) dX4_shortOf_128 (kf_4_11 h_this) (af_4_11 h_this) hg128 ?_
    refine V_imul (pc := 129) dX4_shortOf_129 ?_
    refine V_iload (i := 5) (pc := 130) dX4_shortOf_130 rfl ?_
    refine V_isub (pc := 132) dX4_shortOf_132 ?_
    obtain rfl := Option.some.inj h
    exact E_i (pc := 133) dX4_shortOf_133 rfl hp
  · have h := ite_f q h
    refine V_iload_n (i := 1) (pc := 81) dX4_shortOf_81 rfl rfl ?_
    refine V_aload_n (i := 0) (pc := 82) dX4_shortOf_82 rfl rfl ?_
    refine V_getR (b := (this + 6)) (pc := 83) dX4_shortOf_83 fl_Ic_32 h_this rfl rfl ?_
    refine V_iload (i := 6) (pc := 86) dX4_shortOf_86 rfl ?_
    obtain ⟨hg88, h⟩ := gd_e h
    refine V_iald (pc := 88) dX4_shortOf_88 (kf_4_9 h_this) (af_4_9 h_this) hg88 ?_
    refine V_aload_n (i := 0) (pc := 89) dX4_shortOf_89 rfl rfl ?_
    refine V_getR (b := (this + 5)) (pc := 90) dX4_shortOf_90 fl_Ic_29 h_this rfl rfl ?_
    refine V_iload_n (i := 2) (pc := 93) dX4_shortOf_93 rfl rfl ?_
    obtain ⟨hg94, h⟩ := gd_e h
    refine V_iald (pc := 94) dX4_shortOf_94 (kf_4_8 h_this) (af_4_8 h_this) hg94 ?_
    obtain ⟨r95, e95, h⟩ := bnd h
    refine V_invS1 (pc := 95) dX4_shortOf_95 (e_Ic_isOnePiece  e95) is_Ic_134 (rm_Ic_shortOf_Ic_isOnePiece _ _ _) rfl (Nat.le_of_ble_eq_true rfl) rfl ?_
    refine V_if_eq (pc := 98) (tgt := 115) dX4_shortOf_98 rfl (fun q => ?_) (fun q => ?_)
    · have h := ite_t q h
      exact k_Ic_shortOf_b115 h_this h hp
    · have h := ite_f q h
      refine V_iload (i := 5) (pc := 101) dX4_shortOf_101 rfl ?_
      refine V_aload_n (i := 0) (pc := 103) dX4_shortOf_103 rfl rfl ?_
      refine V_getR (b := (this + 7)) (pc := 104) dX4_shortOf_104 fl_Ic_37 h_this rfl rfl ?_
      refine V_iload (i := 6) (pc := 107) dX4_shortOf_107 rfl ?_
      obtain ⟨hg109, h⟩ := gd_e h
      refine V_aald (b := ((this + 7) + (1 + ix v6))) (k := 4) (pc := 109) dX4_shortOf_109 (kf_4_10 h_this) (by decide) (af_4_10 h_this) hg109 rfl ?_
      refine V_iload_n (i := 3) (pc := 110) dX4_shortOf_110 rfl rfl ?_
      obtain ⟨hg111, h⟩ := gd_e h
      refine V_iald (pc := 111) dX4_shortOf_111 (ka24 (kf_4_10 h_this) (af_4_10 h_this) hg109) ((la24 (kf_4_10 h_this) (af_4_10 h_this) hg109).trans (ag_4_10 h_this)) hg111 ?_
      refine V_iadd (pc := 112) dX4_shortOf_112 ?_
      refine V_istore (i := 5) (ls' := [some (vr this), some (vi v1), some (vi v2), some (vi v3), some (vi v4), some (vi (v5 + (rI m ((this + 7) + (1 + ix v6)) (ix v3)))), some (vi v6)]) (pc := 113) dX4_shortOf_113 (Nat.le_of_ble_eq_true rfl) rfl ?_
      exact k_Ic_shortOf_b115 h_this h hp
theorem k_Ic_shortOf_b62 {g : GE} {this : Nat} {v1 : Int32} {v2 : Int32} {v3 : Int32} {v4 : Int32} {v5 : Int32}  {m : Mem} (h_this : kd this = 5) {r : Option AV} {m' : Mem} {x : (Int32 × Int32) ⊕ (Int32)} (h : Ic_shortOf_b62 this v1 v2 v3 v4 v5 m = some x) (hp : (Sum.elim (fun s : Int32 × Int32 => V g Y_Ic_shortOf 24 [some (vr this), some (vi v1), some (vi v2), some (vi v3), some (vi s.1), some (vi s.2), none] [] m (PM g Y_Ic_shortOf r m')) (fun x : Int32 => r = some (vi x) ∧ m' = m)) x) : V g Y_Ic_shortOf 62 [some (vr this), some (vi v1), some (vi v2), some (vi v3), some (vi v4), some (vi v5), none] [] m (PM g Y_Ic_shortOf r m') := by
  unfold Ic_shortOf_b62 at h
  refine V_iinc (i := 5) (v := (v5 + 1)) (ls' := [some (vr this), some (vi v1), some (vi v2), some (vi v3), some (vi v4), some (vi (v5 + 1)), none]) (pc := 62) dX4_shortOf_62 rfl rfl (Nat.le_of_ble_eq_true rfl) rfl ?_
  refine V_goto (tgt := 24) (pc := 65) dX4_shortOf_65 rfl ?_
  obtain rfl := Option.some.inj h
  exact hp
theorem k_Ic_shortOf_l24 {g : GE} {this : Nat} {v1 : Int32} {v2 : Int32} {v3 : Int32} {v4 : Int32} {v5 : Int32} {m : Mem} (h_this : kd this = 5) {r : Option AV} {m' : Mem} {x : (Int32 × Int32) ⊕ (Int32)} (h : Ic_shortOf_l24 this v1 v2 v3 v4 v5 m = some x) (hp : (Sum.elim (fun s : Int32 × Int32 => V g Y_Ic_shortOf 24 [some (vr this), some (vi v1), some (vi v2), some (vi v3), some (vi s.1), some (vi s.2), none] [] m (PM g Y_Ic_shortOf r m')) (fun x : Int32 => r = some (vi x) ∧ m' = m)) x) : V g Y_Ic_shortOf 24 [some (vr this), some (vi v1), some (vi v2), some (vi v3), some (vi v4), some (vi v5), none] [] m (PM g Y_Ic_shortOf r m') := by
  unfold Ic_shortOf_l24 at h
  refine V_iload (i := 5) (pc := 24) dX4_shortOf_24 rfl ?_
  refine V_iconst (v := 4) (pc := 26) dX4_shortOf_26 rfl ?_
  refine V_icmp_ge (pc := 27) (tgt := 68) dX4_shortOf_27 rfl (fun q => ?_) (fun q => ?_)
  · have h := ite_t q h
    obtain ⟨y1, hu1, rfl⟩ := up_e h
    have h := hu1
    refine V_iconst (v := 0) (pc := 68) dX4_shortOf_68 rfl ?_
    refine V_istore (i := 5) (ls' := [some (vr this), some (vi v1), some (vi v2), some (vi v3), some (vi v4), some (vi 0), none]) (pc := 69) dX4_shortOf_69 (Nat.le_of_ble_eq_true rfl) rfl ?_
    refine V_iconst (v := 0) (pc := 71) dX4_shortOf_71 rfl ?_
    refine V_istore (i := 6) (ls' := [some (vr this), some (vi v1), some (vi v2), some (vi v3), some (vi v4), some (vi 0), some (vi 0)]) (pc := 72) dX4_shortOf_72 (Nat.le_of_ble_eq_true rfl) rfl ?_
    exact loop_V (A := fun s : Int32 × Int32 => V g Y_Ic_shortOf 74 [some (vr this), some (vi v1), some (vi v2), some (vi v3), some (vi v4), some (vi s.1), some (vi s.2)] [] m (PM g Y_Ic_shortOf r m')) (fun s x h hp => k_Ic_shortOf_l74 h_this h hp) (0, 0) _ h hp
  · have h := ite_f q h
    refine V_iload_n (i := 1) (pc := 30) dX4_shortOf_30 rfl rfl ?_
    refine V_aload_n (i := 0) (pc := 31) dX4_shortOf_31 rfl rfl ?_
    refine V_getR (b := (this + 5)) (pc := 32) dX4_shortOf_32 fl_Ic_29 h_this rfl rfl ?_
    refine V_iload (i := 5) (pc := 35) dX4_shortOf_35 rfl ?_
    obtain ⟨hg37, h⟩ := gd_e h
    refine V_iald (pc := 37) dX4_shortOf_37 (kf_4_8 h_this) (af_4_8 h_this) hg37 ?_
    refine V_aload_n (i := 0) (pc := 38) dX4_shortOf_38 rfl rfl ?_
    refine V_getR (b := (this + 5)) (pc := 39) dX4_shortOf_39 fl_Ic_29 h_this rfl rfl ?_
    refine V_iload_n (i := 2) (pc := 42) dX4_shortOf_42 rfl rfl ?_
    obtain ⟨hg43, h⟩ := gd_e h
    refine V_iald (pc := 43) dX4_shortOf_43 (kf_4_8 h_this) (af_4_8 h_this) hg43 ?_
    obtain ⟨r44, e44, h⟩ := bnd h
    refine V_invS1 (pc := 44) dX4_shortOf_44 (e_Ic_isOnePiece  e44) is_Ic_134 (rm_Ic_shortOf_Ic_isOnePiece _ _ _) rfl (Nat.le_of_ble_eq_true rfl) rfl ?_
    refine V_if_eq (pc := 47) (tgt := 62) dX4_shortOf_47 rfl (fun q => ?_) (fun q => ?_)
    · have h := ite_t q h
      exact k_Ic_shortOf_b62 h_this h hp
    · have h := ite_f q h
      refine V_iload (i := 4) (pc := 50) dX4_shortOf_50 rfl ?_
      refine V_aload_n (i := 0) (pc := 52) dX4_shortOf_52 rfl rfl ?_
      refine V_getR (b := (this + 4)) (pc := 53) dX4_shortOf_53 fl_Ic_26 h_this rfl rfl ?_
      refine V_iload (i := 5) (pc := 56) dX4_shortOf_56 rfl ?_
      obtain ⟨hg58, h⟩ := gd_e h
      refine V_iald (pc := 58) dX4_shortOf_58 (kf_4_7 h_this) (af_4_7 h_this) hg58 ?_
      refine V_iadd (pc := 59) dX4_shortOf_59 ?_
      refine V_istore (i := 4) (ls' := [some (vr this), some (vi v1), some (vi v2), some (vi v3), some (vi (v4 + (rI m (this + 4) (ix v5)))), some (vi v5), none]) (pc := 60) dX4_shortOf_60 (Nat.le_of_ble_eq_true rfl) rfl ?_
      exact k_Ic_shortOf_b62 h_this h hp
theorem k_Ic_shortOf {g : GE} {this : Nat} {v1 : Int32} {v2 : Int32} {v3 : Int32} {m : Mem} (h_this : kd this = 5) {r : Option AV} {m' : Mem} {x : Int32} (h : Ic_shortOf this v1 v2 v3 m = some x) (hp : (fun x : Int32 => r = some (vi x) ∧ m' = m) x) : V g Y_Ic_shortOf 0 [some (vr this), some (vi v1), some (vi v2), some (vi v3), none, none, none] [] m (PM g Y_Ic_shortOf r m') := by
  unfold Ic_shortOf at h
  refine V_iload_n (i := 2) (pc := 0) dX4_shortOf_0 rfl rfl ?_
  obtain ⟨r1, e1, h⟩ := bnd h
  refine V_invSN1 (pc := 1) dX4_shortOf_1 (e_PL_isGroup  e1) isn_Ic_141 (rm_Ic_shortOf_PL_isGroup _ _ _) rfl (Nat.le_of_ble_eq_true rfl) rfl ?_
  refine V_if_eq (pc := 4) (tgt := 16) dX4_shortOf_4 rfl (fun q => ?_) (fun q => ?_)
  · have h := ite_t q h
    refine V_iconst (v := 0) (pc := 16) dX4_shortOf_16 rfl ?_
    obtain rfl := Option.some.inj h
    exact E_i (pc := 17) dX4_shortOf_17 rfl hp
  · have h := ite_f q h
    refine V_iload_n (i := 3) (pc := 7) dX4_shortOf_7 rfl rfl ?_
    refine V_if_lt (pc := 8) (tgt := 16) dX4_shortOf_8 rfl (fun q => ?_) (fun q => ?_)
    · have h := ite_t q h
      refine V_iconst (v := 0) (pc := 16) dX4_shortOf_16 rfl ?_
      obtain rfl := Option.some.inj h
      exact E_i (pc := 17) dX4_shortOf_17 rfl hp
    · have h := ite_f q h
      refine V_iload_n (i := 3) (pc := 11) dX4_shortOf_11 rfl rfl ?_
      refine V_iconst (v := 4) (pc := 12) dX4_shortOf_12 rfl ?_
      refine V_icmp_lt (pc := 13) (tgt := 18) dX4_shortOf_13 rfl (fun q => ?_) (fun q => ?_)
      · have h := ite_t q h
        refine V_iconst (v := 0) (pc := 18) dX4_shortOf_18 rfl ?_
        refine V_istore (i := 4) (ls' := [some (vr this), some (vi v1), some (vi v2), some (vi v3), some (vi 0), none, none]) (pc := 19) dX4_shortOf_19 (Nat.le_of_ble_eq_true rfl) rfl ?_
        refine V_iconst (v := 0) (pc := 21) dX4_shortOf_21 rfl ?_
        refine V_istore (i := 5) (ls' := [some (vr this), some (vi v1), some (vi v2), some (vi v3), some (vi 0), some (vi 0), none]) (pc := 22) dX4_shortOf_22 (Nat.le_of_ble_eq_true rfl) rfl ?_
        exact loop_V (A := fun s : Int32 × Int32 => V g Y_Ic_shortOf 24 [some (vr this), some (vi v1), some (vi v2), some (vi v3), some (vi s.1), some (vi s.2), none] [] m (PM g Y_Ic_shortOf r m')) (fun s x h hp => k_Ic_shortOf_l24 h_this h hp) (0, 0) _ h hp
      · have h := ite_f q h
        refine V_iconst (v := 0) (pc := 16) dX4_shortOf_16 rfl ?_
        obtain rfl := Option.some.inj h
        exact E_i (pc := 17) dX4_shortOf_17 rfl hp
theorem e_Ic_shortOf {g : GE} {this : Nat} {v1 : Int32} {v2 : Int32} {v3 : Int32} {m : Mem} (h_this : kd this = 5) {x : Int32} (h : Ic_shortOf this v1 v2 v3 m = some x) : Ev g Y_Ic_shortOf [vr this, vi v1, vi v2, vi v3] m (some (vi x)) m :=
  Ev_of 3 (by decide +kernel) rfl (Nat.le_of_ble_eq_true rfl) rfl (k_Ic_shortOf h_this h ⟨rfl, rfl⟩)
theorem k_Ic_isEnough_b82 {g : GE} {this : Nat} {v1 : Int32}  {m : Mem} (h_this : kd this = 5) {r : Option AV} {m' : Mem} {x : Int32 × Mem} (h : Ic_isEnough_b82 this v1 m = some x) (hp : (fun x : Int32 × Mem => r = some (vi x.1) ∧ m' = x.2) x) : V g Y_Ic_isEnough 82 [some (vr this), some (vi v1), none, none] [] m (PM g Y_Ic_isEnough r m') := by
  unfold Ic_isEnough_b82 at h
  refine V_aload_n (i := 0) (pc := 82) dX4_isEnough_82 rfl rfl ?_
  refine V_getR (b := (this + 2)) (pc := 83) dX4_isEnough_83 fl_Ic_19 h_this rfl rfl ?_
  refine V_iload_n (i := 1) (pc := 86) dX4_isEnough_86 rfl rfl ?_
  obtain ⟨hg87, h⟩ := gd_e h
  refine V_iald (pc := 87) dX4_isEnough_87 (kf_4_5 h_this) (af_4_5 h_this) hg87 ?_
  refine V_iconst (v := 1) (pc := 88) dX4_isEnough_88 rfl ?_
  refine V_icmp_ne (pc := 89) (tgt := 96) dX4_isEnough_89 rfl (fun q => ?_) (fun q => ?_)
  · have h := ite_f q h
    refine V_iconst (v := 0) (pc := 96) dX4_isEnough_96 rfl ?_
    obtain rfl := Option.some.inj h
    exact E_z (pc := 97) dX4_isEnough_97 rfl rfl hp
  · have h := ite_t q h
    refine V_iconst (v := 1) (pc := 92) dX4_isEnough_92 rfl ?_
    refine V_goto (tgt := 97) (pc := 93) dX4_isEnough_93 rfl ?_
    obtain rfl := Option.some.inj h
    exact E_z (pc := 97) dX4_isEnough_97 rfl rfl hp
theorem k_Ic_isEnough_b76 {g : GE} {this : Nat} {v1 : Int32} {v2 : Int32}  {m : Mem} (h_this : kd this = 5) {r : Option AV} {m' : Mem} {x : (Int32 × Mem) ⊕ (Int32 × Mem)} (h : Ic_isEnough_b76 this v1 v2 m = some x) (hp : (Sum.elim (fun s : Int32 × Mem => V g Y_Ic_isEnough 32 [some (vr this), some (vi v1), some (vi s.1), none] [] s.2 (PM g Y_Ic_isEnough r m')) (fun x : Int32 × Mem => r = some (vi x.1) ∧ m' = x.2)) x) : V g Y_Ic_isEnough 76 [some (vr this), some (vi v1), some (vi v2), none] [] m (PM g Y_Ic_isEnough r m') := by
  unfold Ic_isEnough_b76 at h
  refine V_iinc (i := 2) (v := (v2 + 1)) (ls' := [some (vr this), some (vi v1), some (vi (v2 + 1)), none]) (pc := 76) dX4_isEnough_76 rfl rfl (Nat.le_of_ble_eq_true rfl) rfl ?_
  refine V_goto (tgt := 32) (pc := 79) dX4_isEnough_79 rfl ?_
  obtain rfl := Option.some.inj h
  exact hp
theorem k_Ic_isEnough_b70 {g : GE} {this : Nat} {v1 : Int32} {v2 : Int32} {v3 : Int32}  {m : Mem} (h_this : kd this = 5) {r : Option AV} {m' : Mem} {x : (Int32 × Mem) ⊕ ((Int32 × Mem) ⊕ (Int32 × Mem))} (h : Ic_isEnough_b70 this v1 v2 v3 m = some x) (hp : (Sum.elim (fun s : Int32 × Mem => V g Y_Ic_isEnough 39 [some (vr this), some (vi v1), some (vi v2), some (vi s.1)] [] s.2 (PM g Y_Ic_isEnough r m')) (Sum.elim (fun s : Int32 × Mem => V g Y_Ic_isEnough 32 [some (vr this), some (vi v1), some (vi s.1), none] [] s.2 (PM g Y_Ic_isEnough r m')) (fun x : Int32 × Mem => r = some (vi x.1) ∧ m' = x.2))) x) : V g Y_Ic_isEnough 70 [some (vr this), some (vi v1), some (vi v2), some (vi v3)] [] m (PM g Y_Ic_isEnough r m') := by
  unfold Ic_isEnough_b70 at h
  refine V_iinc (i := 3) (v := (v3 + 1)) (ls' := [some (vr this), some (vi v1), some (vi v2), some (vi (v3 + 1))]) (pc := 70) dX4_isEnough_70 rfl rfl (Nat.le_of_ble_eq_true rfl) rfl ?_
  refine V_goto (tgt := 39) (pc := 73) dX4_isEnough_73 rfl ?_
  obtain rfl := Option.some.inj h
  exact hp
theorem k_Ic_isEnough_l39 {g : GE} {this : Nat} {v1 : Int32} {v2 : Int32} {v3 : Int32} {m : Mem} (h_this : kd this = 5) {r : Option AV} {m' : Mem} {x : (Int32 × Mem) ⊕ ((Int32 × Mem) ⊕ (Int32 × Mem))} (h : Ic_isEnough_l39 this v1 v2 v3 m = some x) (hp : (Sum.elim (fun s : Int32 × Mem => V g Y_Ic_isEnough 39 [some (vr this), some (vi v1), some (vi v2), some (vi s.1)] [] s.2 (PM g Y_Ic_isEnough r m')) (Sum.elim (fun s : Int32 × Mem => V g Y_Ic_isEnough 32 [some (vr this), some (vi v1), some (vi s.1), none] [] s.2 (PM g Y_Ic_isEnough r m')) (fun x : Int32 × Mem => r = some (vi x.1) ∧ m' = x.2))) x) : V g Y_Ic_isEnough 39 [some (vr this), some (vi v1), some (vi v2), some (vi v3)] [] m (PM g Y_Ic_isEnough r m') := by
  unfold Ic_isEnough_l39 at h
  refine V_iload_n (i := 3) (pc := 39) dX4_isEnough_39 rfl rfl ?_
  refine V_iconst (v := 4) (pc := 40) dX4_isEnough_40 rfl ?_
  refine V_icmp_ge (pc := 41) (tgt := 76) dX4_isEnough_41 rfl (fun q => ?_) (fun q => ?_)
  · have h := ite_t q h
    obtain ⟨y2, hu2, rfl⟩ := up_e h
    have h := hu2
    refine V_sub (ls' := [some (vr this), some (vi v1), some (vi v2), none]) (And.intro rfl (And.intro rfl (And.intro rfl trivial))) ?_
    exact k_Ic_isEnough_b76 h_this h hp
  · have h := ite_f q h
    refine V_aload_n (i := 0) (pc := 44) dX4_isEnough_44 rfl rfl ?_
    refine V_getR (b := (this + 4)) (pc := 45) dX4_isEnough_45 fl_Ic_26 h_this rfl rfl ?_
    refine V_iload_n (i := 2) (pc := 48) dX4_isEnough_48 rfl rfl ?_
    obtain ⟨hg49, h⟩ := gd_e h
    refine V_iald (pc := 49) dX4_isEnough_49 (kf_4_7 h_this) (af_4_7 h_this) hg49 ?_
    refine V_if_le (pc := 50) (tgt := 76) dX4_isEnough_50 rfl (fun q => ?_) (fun q => ?_)
    · have h := ite_t q h
      obtain ⟨y3, hu3, rfl⟩ := up_e h
      have h := hu3
      refine V_sub (ls' := [some (vr this), some (vi v1), some (vi v2), none]) (And.intro rfl (And.intro rfl (And.intro rfl trivial))) ?_
      exact k_Ic_isEnough_b76 h_this h hp
    · have h := ite_f q h
      refine V_aload_n (i := 0) (pc := 53) dX4_isEnough_53 rfl rfl ?_
      refine V_iload_n (i := 1) (pc := 54) dX4_isEnough_54 rfl rfl ?_
      refine V_iload_n (i := 2) (pc := 55) dX4_isEnough_55 rfl rfl ?_
      refine V_iload_n (i := 3) (pc := 56) dX4_isEnough_56 rfl rfl ?_
      obtain ⟨r57, e57, h⟩ := bnd h
      refine V_invV1 (c := 4) (pc := 57) dX4_isEnough_57 (e_Ic_shortOf h_this e57) iv_Ic_131 (rm_Ic_isEnough_Ic_shortOf _ _ _) rfl h_this cf_4 rfl (Nat.le_of_ble_eq_true rfl) rfl ?_
      refine V_if_le (pc := 60) (tgt := 70) dX4_isEnough_60 rfl (fun q => ?_) (fun q => ?_)
      · have h := ite_t q h
        exact k_Ic_isEnough_b70 h_this h hp
      · have h := ite_f q h
        refine V_aload_n (i := 0) (pc := 63) dX4_isEnough_63 rfl rfl ?_
        refine V_getR (b := (this + 2)) (pc := 64) dX4_isEnough_64 fl_Ic_19 h_this rfl rfl ?_
        refine V_iload_n (i := 1) (pc := 67) dX4_isEnough_67 rfl rfl ?_
        refine V_iconst (v := 2) (pc := 68) dX4_isEnough_68 rfl ?_
        obtain ⟨hg69, h⟩ := gd_e h
        refine V_iast_lt (pc := 69) dX4_isEnough_69 (kf_4_5 h_this) (af_4_5 h_this) hg69 h (fun m69 h => ?_)
        exact k_Ic_isEnough_b70 h_this h hp
theorem k_Ic_isEnough_l32 {g : GE} {this : Nat} {v1 : Int32} {v2 : Int32} {m : Mem} (h_this : kd this = 5) {r : Option AV} {m' : Mem} {x : (Int32 × Mem) ⊕ (Int32 × Mem)} (h : Ic_isEnough_l32 this v1 v2 m = some x) (hp : (Sum.elim (fun s : Int32 × Mem => V g Y_Ic_isEnough 32 [some (vr this), some (vi v1), some (vi s.1), none] [] s.2 (PM g Y_Ic_isEnough r m')) (fun x : Int32 × Mem => r = some (vi x.1) ∧ m' = x.2)) x) : V g Y_Ic_isEnough 32 [some (vr this), some (vi v1), some (vi v2), none] [] m (PM g Y_Ic_isEnough r m') := by
  unfold Ic_isEnough_l32 at h
  refine V_iload_n (i := 2) (pc := 32) dX4_isEnough_32 rfl rfl ?_
  refine V_iconst (v := 4) (pc := 33) dX4_isEnough_33 rfl ?_
  refine V_icmp_ge (pc := 34) (tgt := 82) dX4_isEnough_34 rfl (fun q => ?_) (fun q => ?_)
  · have h := ite_t q h
    obtain ⟨y1, hu1, rfl⟩ := up_e h
    have h := hu1
    refine V_sub (ls' := [some (vr this), some (vi v1), none, none]) (And.intro rfl (And.intro rfl trivial)) ?_
    exact k_Ic_isEnough_b82 h_this h hp
  · have h := ite_f q h
    refine V_iconst (v := 0) (pc := 37) dX4_isEnough_37 rfl ?_
    refine V_istore_n (i := 3) (ls' := [some (vr this), some (vi v1), some (vi v2), some (vi 0)]) (pc := 38) dX4_isEnough_38 rfl (Nat.le_of_ble_eq_true rfl) rfl ?_
    exact loop_V (A := fun s : Int32 × Mem => V g Y_Ic_isEnough 39 [some (vr this), some (vi v1), some (vi v2), some (vi s.1)] [] s.2 (PM g Y_Ic_isEnough r m')) (fun s x h hp => k_Ic_isEnough_l39 h_this h hp) (0, m) _ h hp
theorem k_Ic_isEnough {g : GE} {this : Nat} {v1 : Int32} {m : Mem} (h_this : kd this = 5) {r : Option AV} {m' : Mem} {x : Int32 × Mem} (h : Ic_isEnough this v1 m = some x) (hp : (fun x : Int32 × Mem => r = some (vi x.1) ∧ m' = x.2) x) : V g Y_Ic_isEnough 0 [some (vr this), some (vi v1), none, none] [] m (PM g Y_Ic_isEnough r m') := by
  unfold Ic_isEnough at h
  refine V_iload_n (i := 1) (pc := 0) dX4_isEnough_0 rfl rfl ?_
  refine V_if_lt (pc := 1) (tgt := 12) dX4_isEnough_1 rfl (fun q => ?_) (fun q => ?_)
  · have h := ite_t q h
    refine V_iconst (v := 0) (pc := 12) dX4_isEnough_12 rfl ?_
    obtain rfl := Option.some.inj h
    exact E_z (pc := 13) dX4_isEnough_13 rfl rfl hp
  · have h := ite_f q h
    refine V_iload_n (i := 1) (pc := 4) dX4_isEnough_4 rfl rfl ?_
    refine V_aload_n (i := 0) (pc := 5) dX4_isEnough_5 rfl rfl ?_
    refine V_getI (pc := 6) dX4_isEnough_6 fl_Ic_9 h_this rfl ?_
    refine V_icmp_lt (pc := 9) (tgt := 14) dX4_isEnough_9 rfl (fun q => ?_) (fun q => ?_)
    · have h := ite_t q h
      refine V_aload_n (i := 0) (pc := 14) dX4_isEnough_14 rfl rfl ?_
      refine V_getR (b := (this + 2)) (pc := 15) dX4_isEnough_15 fl_Ic_19 h_this rfl rfl ?_
      refine V_iload_n (i := 1) (pc := 18) dX4_isEnough_18 rfl rfl ?_
      obtain ⟨hg19, h⟩ := gd_e h
      refine V_iald (pc := 19) dX4_isEnough_19 (kf_4_5 h_this) (af_4_5 h_this) hg19 ?_
      refine V_if_ne (pc := 20) (tgt := 82) dX4_isEnough_20 rfl (fun q => ?_) (fun q => ?_)
      · have h := ite_f q h
        exact k_Ic_isEnough_b82 h_this h hp
      · have h := ite_t q h
        refine V_aload_n (i := 0) (pc := 23) dX4_isEnough_23 rfl rfl ?_
        refine V_getR (b := (this + 2)) (pc := 24) dX4_isEnough_24 fl_Ic_19 h_this rfl rfl ?_
        refine V_iload_n (i := 1) (pc := 27) dX4_isEnough_27 rfl rfl ?_
        refine V_iconst (v := 1) (pc := 28) dX4_isEnough_28 rfl ?_
        obtain ⟨hg29, h⟩ := gd_e h
        refine V_iast_lt (pc := 29) dX4_isEnough_29 (kf_4_5 h_this) (af_4_5 h_this) hg29 h (fun m29 h => ?_)
        refine V_iconst (v := 0) (pc := 30) dX4_isEnough_30 rfl ?_
        refine V_istore_n (i := 2) (ls' := [some (vr this), some (vi v1), some (vi 0), none]) (pc := 31) dX4_isEnough_31 rfl (Nat.le_of_ble_eq_true rfl) rfl ?_
        exact loop_V (A := fun s : Int32 × Mem => V g Y_Ic_isEnough 32 [some (vr this), some (vi v1), some (vi s.1), none] [] s.2 (PM g Y_Ic_isEnough r m')) (fun s x h hp => k_Ic_isEnough_l32 h_this h hp) (0, m29) _ h hp
    · have h := ite_f q h
      refine V_iconst (v := 0) (pc := 12) dX4_isEnough_12 rfl ?_
      obtain rfl := Option.some.inj h
      exact E_z (pc := 13) dX4_isEnough_13 rfl rfl hp
theorem e_Ic_isEnough {g : GE} {this : Nat} {v1 : Int32} {m : Mem} (h_this : kd this = 5) {x : Int32 × Mem} (h : Ic_isEnough this v1 m = some x) : Ev g Y_Ic_isEnough [vr this, vi v1] m (some (vi x.1)) x.2 :=
  Ev_of 2 (by decide +kernel) rfl (Nat.le_of_ble_eq_true rfl) rfl (k_Ic_isEnough h_this h ⟨rfl, rfl⟩)
theorem k_PL_with_b110 {g : GE} {this : Nat} {v1 : Int32} {v2 : Int32} {v3 : Int64} {v5 : Int32}  {m : Mem} (h_this : kd this = 11) {r : Option AV} {m' : Mem} {x : (Int64 × Int32 × Mem) ⊕ (Int64 × Mem)} (h : PL_with_b110 this v1 v2 v3 v5 m = some x) (hp : (Sum.elim (fun s : Int64 × Int32 × Mem => V g Y_PL_with 61 [some (vr this), some (vi v1), some (vi v2), some (vl s.1), none, some (vi s.2.1)] [] s.2.2 (PM g Y_PL_with r m')) (fun x : Int64 × Mem => r = some (vl x.1) ∧ m' = x.2)) x) : V g Y_PL_with 110 [some (vr this), some (vi v1), some (vi v2), some (vl v3), none, some (vi v5)] [] m (PM g Y_PL_with r m') := by
  unfold PL_with_b110 at h
  refine V_iinc (i := 5) (v := (v5 + 1)) (ls' := [some (vr this), some (vi v1), some (vi v2), some (vl v3), none, some (vi (v5 + 1))]) (pc := 110) dX10_with_110 rfl rfl (Nat.le_of_ble_eq_true rfl) rfl ?_
  refine V_goto (tgt := 61) (pc := 113) dX10_with_113 rfl ?_
  obtain rfl := Option.some.inj h
  exact hp
theorem k_PL_with_b98 {g : GE} {this : Nat} {v1 : Int32} {v2 : Int32} {v3 : Int64} {v5 : Int32}  {m : Mem} (h_this : kd this = 11) {r : Option AV} {m' : Mem} {x : (Int64 × Int32 × Mem) ⊕ (Int64 × Mem)} (h : PL_with_b98 this v1 v2 v3 v5 m = some x) (hp : (Sum.elim (fun s : Int64 × Int32 × Mem => V g Y_PL_with 61 [some (vr this), some (vi v1), some (vi v2), some (vl s.1), none, some (vi s.2.1)] [] s.2.2 (PM g Y_PL_with r m')) (fun x : Int64 × Mem => r = some (vl x.1) ∧ m' = x.2)) x) : V g Y_PL_with 98 [some (vr this), some (vi v1), some (vi v2), some (vl v3), none, some (vi v5)] [] m (PM g Y_PL_with r m') := by
  unfold PL_with_b98 at h
  refine V_lload_n (i := 3) (pc := 98) dX10_with_98 rfl rfl ?_
  refine V_aload_n (i := 0) (pc := 99) dX10_with_99 rfl rfl ?_
  refine V_getR (b := (this + 202)) (pc := 100) dX10_with_100 fl_PL_41 h_this rfl rfl ?_
  refine V_iload (i := 5) (pc := 103) dX10_with_103 rfl ?_
  obtain ⟨r105, e105, h⟩ := bnd h
  refine V_invV1 (c := 4) (pc := 105) dX10_with_105 (e_Ic_partsOf (kf_10_5 h_this) e105) iv_PL_218 (rm_PL_with_Ic_partsOf _ _ _) rfl (kf_10_5 h_this) cf_4 rfl (Nat.le_of_ble_eq_true rfl) rfl ?_
  refine V_ladd (pc := 108) dX10_with_108 ?_
  refine V_lstore_n (i := 3) (ls' := [some (vr this), some (vi v1), some (vi v2), some (vl (v3 + r105)), none, some (vi v5)]) (pc := 109) dX10_with_109 rfl (Nat.le_of_ble_eq_true rfl) rfl ?_
  exact k_PL_with_b110 h_this h hp
theorem k_PL_with_l61 {g : GE} {this : Nat} {v1 : Int32} {v2 : Int32} {v3 : Int64} {v5 : Int32} {m : Mem} (h_this : kd this = 11) {r : Option AV} {m' : Mem} {x : (Int64 × Int32 × Mem) ⊕ (Int64 × Mem)} (h : PL_with_l61 this v1 v2 v3 v5 m = some x) (hp : (Sum.elim (fun s : Int64 × Int32 × Mem => V g Y_PL_with 61 [some (vr this), some (vi v1), some (vi v2), some (vl s.1), none, some (vi s.2.1)] [] s.2.2 (PM g Y_PL_with r m')) (fun x : Int64 × Mem => r = some (vl x.1) ∧ m' = x.2)) x) : V g Y_PL_with 61 [some (vr this), some (vi v1), some (vi v2), some (vl v3), none, some (vi v5)] [] m (PM g Y_PL_with r m') := by
  unfold PL_with_l61 at h
  refine V_iload (i := 5) (pc := 61) dX10_with_61 rfl ?_
  refine V_aload_n (i := 0) (pc := 63) dX10_with_63 rfl rfl ?_
  refine V_getR (b := (this + 202)) (pc := 64) dX10_with_64 fl_PL_41 h_this rfl rfl ?_
  refine V_getI (pc := 67) dX10_with_67 fl_PL_229 (kf_10_5 h_this) rfl ?_
  refine V_icmp_ge (pc := 70) (tgt := 116) dX10_with_70 rfl (fun q => ?_) (fun q => ?_)
  · have h := ite_t q h
    obtain ⟨y1, hu1, rfl⟩ := up_e h
    have h := hu1
    refine V_lload_n (i := 3) (pc := 116) dX10_with_116 rfl rfl ?_
    obtain rfl := Option.some.inj h
    exact E_l (pc := 117) dX10_with_117 rfl hp
  · have h := ite_f q h
    refine V_iload (i := 5) (pc := 73) dX10_with_73 rfl ?_
    obtain ⟨r75, e75, h⟩ := bnd h
    refine V_invS1 (pc := 75) dX10_with_75 (e_In_bitCount  e75) is_PL_201 (rm_PL_with_In_bitCount _ _ _) rfl (Nat.le_of_ble_eq_true rfl) rfl ?_
    refine V_iload_n (i := 1) (pc := 78) dX10_with_78 rfl rfl ?_
    refine V_icmp_ne (pc := 79) (tgt := 110) dX10_with_79 rfl (fun q => ?_) (fun q => ?_)
    · have h := ite_f q h
      exact k_PL_with_b110 h_this h hp
    · have h := ite_t q h
      refine V_iload_n (i := 2) (pc := 82) dX10_with_82 rfl rfl ?_
      refine V_if_eq (pc := 83) (tgt := 98) dX10_with_83 rfl (fun q => ?_) (fun q => ?_)
      · have h := ite_t q h
        exact k_PL_with_b98 h_this h hp
      · have h := ite_f q h
        refine V_aload_n (i := 0) (pc := 86) dX10_with_86 rfl rfl ?_
        refine V_getR (b := (this + 202)) (pc := 87) dX10_with_87 fl_PL_41 h_this rfl rfl ?_
        refine V_iload (i := 5) (pc := 90) dX10_with_90 rfl ?_
        obtain ⟨r92, e92, h⟩ := bnd h
        refine V_invV1 (c := 4) (pc := 92) dX10_with_92 (e_Ic_isEnough (kf_10_5 h_this) e92) iv_PL_232 (rm_PL_with_Ic_isEnough _ _ _) rfl (kf_10_5 h_this) cf_4 rfl (Nat.le_of_ble_eq_true rfl) rfl ?_
        refine V_if_ne (pc := 95) (tgt := 110) dX10_with_95 rfl (fun q => ?_) (fun q => ?_)
        · have h := ite_f q h
          exact k_PL_with_b110 h_this h hp
        · have h := ite_t q h
          exact k_PL_with_b98 h_this h hp
theorem k_PL_with {g : GE} {this : Nat} {v1 : Int32} {v2 : Int32} {m : Mem} (h_this : kd this = 11) {r : Option AV} {m' : Mem} {x : Int64 × Mem} (h : PL_with this v1 v2 m = some x) (hp : (fun x : Int64 × Mem => r = some (vl x.1) ∧ m' = x.2) x) : V g Y_PL_with 0 [some (vr this), some (vi v1), some (vi v2), none, none, none] [] m (PM g Y_PL_with r m') := by
  unfold PL_with at h
  refine V_aload_n (i := 0) (pc := 0) dX10_with_0 rfl rfl ?_
  refine V_getR (b := (this + 27)) (pc := 1) dX10_with_1 fl_PL_19 h_this rfl rfl ?_
  refine V_getR (b := (this + 28)) (pc := 4) dX10_with_4 fl_PL_102 (kf_10_1 h_this) rfl rfl ?_
  obtain ⟨r7, e7, h⟩ := bnd h
  refine V_invV1 (c := 2) (pc := 7) dX10_with_7 (e_Fl_isThere (kf_0_0 (kf_10_1 h_this)) e7) iv_PL_222 (rm_PL_with_Fl_isThere _ _ _) rfl (kf_0_0 (kf_10_1 h_this)) cf_2 rfl (Nat.le_of_ble_eq_true rfl) rfl ?_
  refine V_if_eq (pc := 10) (tgt := 34) dX10_with_10 rfl (fun q => ?_) (fun q => ?_)
  · have h := ite_t q h
    refine V_ldc2 (v := (-2)) (pc := 34) dX10_with_34 con_PL_209 ?_
    obtain rfl := Option.some.inj h
    exact E_l (pc := 37) dX10_with_37 rfl hp
  · have h := ite_f q h
    refine V_iload_n (i := 1) (pc := 13) dX10_with_13 rfl rfl ?_
    refine V_if_lt (pc := 14) (tgt := 34) dX10_with_14 rfl (fun q => ?_) (fun q => ?_)
    · have h := ite_t q h
      refine V_ldc2 (v := (-2)) (pc := 34) dX10_with_34 con_PL_209 ?_
      obtain rfl := Option.some.inj h
      exact E_l (pc := 37) dX10_with_37 rfl hp
    · have h := ite_f q h
      refine V_iload_n (i := 1) (pc := 17) dX10_with_17 rfl rfl ?_
      refine V_aload_n (i := 0) (pc := 18) dX10_with_18 rfl rfl ?_
      refine V_getR (b := (this + 27)) (pc := 19) dX10_with_19 fl_PL_19 h_this rfl rfl ?_
      refine V_getR (b := (this + 28)) (pc := 22) dX10_with_22 fl_PL_102 (kf_10_1 h_this) rfl rfl ?_
      refine V_getR (b := (this + 29)) (pc := 25) dX10_with_25 fl_PL_186 (kf_0_0 (kf_10_1 h_this)) rfl rfl ?_
      refine V_getI (pc := 28) dX10_with_28 fl_PL_226 (kf_2_15 (kf_0_0 (kf_10_1 h_this))) rfl ?_
      refine V_icmp_le (pc := 31) (tgt := 38) dX10_with_31 rfl (fun q => ?_) (fun q => ?_)
      · have h := ite_t q h
        refine V_aload_n (i := 0) (pc := 38) dX10_with_38 rfl rfl ?_
        refine V_getR (b := (this + 202)) (pc := 39) dX10_with_39 fl_PL_41 h_this rfl rfl ?_
        refine V_aload_n (i := 0) (pc := 42) dX10_with_42 rfl rfl ?_
        refine V_getR (b := (this + 27)) (pc := 43) dX10_with_43 fl_PL_19 h_this rfl rfl ?_
        obtain ⟨m46, e46, h⟩ := bnd h
        refine V_invV0 (c := 4) (pc := 46) dX10_with_46 (e_Ic_look (kf_10_5 h_this) (kf_10_1 h_this) e46) iv_PL_211 (rm_PL_with_Ic_look _ _ _) rfl (kf_10_5 h_this) cf_4 rfl (Nat.le_of_ble_eq_true rfl) rfl ?_
        refine V_aload_n (i := 0) (pc := 49) dX10_with_49 rfl rfl ?_
        refine V_getR (b := (this + 202)) (pc := 50) dX10_with_50 fl_PL_41 h_this rfl rfl ?_
        obtain ⟨m53, e53, h⟩ := bnd h
        refine V_invV0 (c := 4) (pc := 53) dX10_with_53 (e_Ic_passHour (kf_10_5 h_this) e53) iv_PL_215 (rm_PL_with_Ic_passHour _ _ _) rfl (kf_10_5 h_this) cf_4 rfl (Nat.le_of_ble_eq_true rfl) rfl ?_
        refine V_lconst (v := 0) (pc := 56) dX10_with_56 rfl ?_
        refine V_lstore_n (i := 3) (ls' := [some (vr this), some (vi v1), some (vi v2), some (vl 0), none, none]) (pc := 57) dX10_with_57 rfl (Nat.le_of_ble_eq_true rfl) rfl ?_
        refine V_iconst (v := 0) (pc := 58) dX10_with_58 rfl ?_
        refine V_istore (i := 5) (ls' := [some (vr this), some (vi v1), some (vi v2), some (vl 0), none, some (vi 0)]) (pc := 59) dX10_with_59 (Nat.le_of_ble_eq_true rfl) rfl ?_
        exact loop_V (A := fun s : Int64 × Int32 × Mem => V g Y_PL_with 61 [some (vr this), some (vi v1), some (vi v2), some (vl s.1), none, some (vi s.2.1)] [] s.2.2 (PM g Y_PL_with r m')) (fun s x h hp => k_PL_with_l61 h_this h hp) (0, 0, m53) _ h hp
      · have h := ite_f q h
        refine V_ldc2 (v := (-2)) (pc := 34) dX10_with_34 con_PL_209 ?_
        obtain rfl := Option.some.inj h
        exact E_l (pc := 37) dX10_with_37 rfl hp
theorem e_PL_with {g : GE} {this : Nat} {v1 : Int32} {v2 : Int32} {m : Mem} (h_this : kd this = 11) {x : Int64 × Mem} (h : PL_with this v1 v2 m = some x) : Ev g Y_PL_with [vr this, vi v1, vi v2] m (some (vl x.1)) x.2 :=
  Ev_of 3 (by decide +kernel) rfl (Nat.le_of_ble_eq_true rfl) rfl (k_PL_with h_this h ⟨rfl, rfl⟩)
