theorem k_PL_enough {g : GE} {this : Nat} {v1 : Int32} {m : Mem} (h_this : kd this = 11) {r : Option AV} {m' : Mem} {x : Int32 × Mem} (h : PL_enough this v1 m = some x) (hp : (fun x : Int32 × Mem => r = some (vi x.1) ∧ m' = x.2) x) : V g Y_PL_enough 0 [some (vr this), some (vi v1)] [] m (PM g Y_PL_enough r m') := by
  unfold PL_enough at h
  refine V_aload_n (i := 0) (pc := 0) dX10_enough_0 rfl rfl ?_
  refine V_getR (b := (this + 27)) (pc := 1) dX10_enough_1 fl_PL_19 h_this rfl rfl ?_
  refine V_getR (b := (this + 28)) (pc := 4) dX10_enough_4 fl_PL_102 (kf_10_1 h_this) rfl rfl ?_
  refine V_iload_n (i := 1) (pc := 7) dX10_enough_7 rfl rfl ?_
  obtain ⟨r8, e8, h⟩ := bnd h
  refine V_invV1 (c := 2) (pc := 8) dX10_enough_8 (e_Fl_hasSet (kf_0_0 (kf_10_1 h_this)) e8) iv_PL_167 (rm_PL_enough_Fl_hasSet _ _ _) rfl (kf_0_0 (kf_10_1 h_this)) cf_2 rfl (Nat.le_of_ble_eq_true rfl) rfl ?_
  refine V_if_ne (pc := 11) (tgt := 17) dX10_enough_11 rfl (fun q => ?_) (fun q => ?_)
  · have h := ite_f q h
    refine V_aload_n (i := 0) (pc := 17) dX10_enough_17 rfl rfl ?_
    refine V_getR (b := (this + 202)) (pc := 18) dX10_enough_18 fl_PL_41 h_this rfl rfl ?_
    refine V_aload_n (i := 0) (pc := 21) dX10_enough_21 rfl rfl ?_
    refine V_getR (b := (this + 27)) (pc := 22) dX10_enough_22 fl_PL_19 h_this rfl rfl ?_
    obtain ⟨m25, e25, h⟩ := bnd h
    refine V_invV0 (c := 4) (pc := 25) dX10_enough_25 (e_Ic_look (kf_10_5 h_this) (kf_10_1 h_this) e25) iv_PL_211 (rm_PL_enough_Ic_look _ _ _) rfl (kf_10_5 h_this) cf_4 rfl (Nat.le_of_ble_eq_true rfl) rfl ?_
    refine V_aload_n (i := 0) (pc := 28) dX10_enough_28 rfl rfl ?_
    refine V_getR (b := (this + 202)) (pc := 29) dX10_enough_29 fl_PL_41 h_this rfl rfl ?_
    refine V_iload_n (i := 1) (pc := 32) dX10_enough_32 rfl rfl ?_
    obtain ⟨r33, e33, h⟩ := bnd h
    refine V_invV1 (c := 4) (pc := 33) dX10_enough_33 (e_Ic_isEnough (kf_10_5 h_this) e33) iv_PL_232 (rm_PL_enough_Ic_isEnough _ _ _) rfl (kf_10_5 h_this) cf_4 rfl (Nat.le_of_ble_eq_true rfl) rfl ?_
    refine V_if_eq (pc := 36) (tgt := 43) dX10_enough_36 rfl (fun q => ?_) (fun q => ?_)
    · have h := ite_t q h
      refine V_iconst (v := 0) (pc := 43) dX10_enough_43 rfl ?_
      obtain rfl := Option.some.inj h
      exact E_i (pc := 44) dX10_enough_44 rfl hp
    · have h := ite_f q h
      refine V_iconst (v := 1) (pc := 39) dX10_enough_39 rfl ?_
      refine V_goto (tgt := 44) (pc := 40) dX10_enough_40 rfl ?_
      obtain rfl := Option.some.inj h
      exact E_i (pc := 44) dX10_enough_44 rfl hp
  · have h := ite_t q h
    refine V_bipush (v := (-2)) (pc := 14) dX10_enough_14 rfl ?_
    obtain rfl := Option.some.inj h
    exact E_i (pc := 16) dX10_enough_16 rfl hp
theorem e_PL_enough {g : GE} {this : Nat} {v1 : Int32} {m : Mem} (h_this : kd this = 11) {x : Int32 × Mem} (h : PL_enough this v1 m = some x) : Ev g Y_PL_enough [vr this, vi v1] m (some (vi x.1)) x.2 :=
  Ev_of 0 (by decide +kernel) rfl (Nat.le_of_ble_eq_true rfl) rfl (k_PL_enough h_this h ⟨rfl, rfl⟩)
theorem k_Ic_lacking_b98 {g : GE} {this : Nat} {v1 : Int32} {v2 : Int32} {v3 : Int32} {v4 : Int32}  {m : Mem} (h_this : kd this = 5) {r : Option AV} {m' : Mem} {x : (Int32 × Int32) ⊕ (Int32)} (h : Ic_lacking_b98 this v1 v2 v3 v4 m = some x) (hp : (Sum.elim (fun s : Int32 × Int32 => V g Y_Ic_lacking 5 [some (vr this), some (vi v1), some (vi v2), some (vi s.1), some (vi s.2), none, none] [] m (PM g Y_Ic_lacking r m')) (fun x : Int32 => r = some (vi x) ∧ m' = m)) x) : V g Y_Ic_lacking 98 [some (vr this), some (vi v1), some (vi v2), some (vi v3), some (vi v4), none, none] [] m (PM g Y_Ic_lacking r m') := by
  unfold Ic_lacking_b98 at h
  refine V_iinc (i := 4) (v := (v4 + 1)) (ls' := [some (vr this), some (vi v1), some (vi v2), some (vi v3), some (vi (v4 + 1)), none, none]) (pc := 98) dX4_lacking_98 rfl rfl (Nat.le_of_ble_eq_true rfl) rfl ?_
  refine V_goto (tgt := 5) (pc := 101) dX4_lacking_101 rfl ?_
  obtain rfl := Option.some.inj h
  exact hp
theorem k_Ic_lacking_b72 {g : GE} {this : Nat} {v1 : Int32} {v2 : Int32} {v3 : Int32} {v4 : Int32} {v5 : Int32} {v6 : Int32}  {m : Mem} (h_this : kd this = 5) {r : Option AV} {m' : Mem} {x : (Int32 × Int32) ⊕ ((Int32 × Int32) ⊕ (Int32))} (h : Ic_lacking_b72 this v1 v2 v3 v4 v5 v6 m = some x) (hp : (Sum.elim (fun s : Int32 × Int32 => V g Y_Ic_lacking 31 [some (vr this), some (vi v1), some (vi v2), some (vi v3), some (vi v4), some (vi s.1), some (vi s.2)] [] m (PM g Y_Ic_lacking r m')) (Sum.elim (fun s : Int32 × Int32 => V g Y_Ic_lacking 5 [some (vr this), some (vi v1), some (vi v2), some (vi s.1), some (vi s.2), none, none] [] m (PM g Y_Ic_lacking r m')) (fun x : Int32 => r = some (vi x) ∧ m' = m))) x) : V g Y_Ic_lacking 72 [some (vr this), some (vi v1), some (vi v2), some (vi v3), some (vi v4), some (vi v5), some (vi v6)] [] m (PM g Y_Ic_lacking r m') := by
  unfold Ic_lacking_b72 at h
  refine V_iinc (i := 6) (v := (v6 + 1)) (ls' := [some (vr this), some (vi v1), some (vi v2), some (vi v3), some (vi v4), some (vi v5), some (vi (v6 + 1))]) (pc := 72) dX4_lacking_72 rfl rfl (Nat.le_of_ble_eq_true rfl) rfl ?_
  refine V_goto (tgt := 31) (pc := 75) dX4_lacking_75 rfl ?_
  obtain rfl := Option.some.inj h
  exact hp
theorem k_Ic_lacking_l31 {g : GE} {this : Nat} {v1 : Int32} {v2 : Int32} {v3 : Int32} {v4 : Int32} {v5 : Int32} {v6 : Int32} {m : Mem} (h_this : kd this = 5) {r : Option AV} {m' : Mem} {x : (Int32 × Int32) ⊕ ((Int32 × Int32) ⊕ (Int32))} (h : Ic_lacking_l31 this v1 v2 v3 v4 v5 v6 m = some x) (hp : (Sum.elim (fun s : Int32 × Int32 => V g Y_Ic_lacking 31 [some (vr this), some (vi v1), some (vi v2), some (vi v3), some (vi v4), some (vi s.1), some (vi s.2)] [] m (PM g Y_Ic_lacking r m')) (Sum.elim (fun s : Int32 × Int32 => V g Y_Ic_lacking 5 [some (vr this), some (vi v1), some (vi v2), some (vi s.1), some (vi s.2), none, none] [] m (PM g Y_Ic_lacking r m')) (fun x : Int32 => r = some (vi x) ∧ m' = m))) x) : V g Y_Ic_lacking 31 [some (vr this), some (vi v1), some (vi v2), some (vi v3), some (vi v4), some (vi v5), some (vi v6)] [] m (PM g Y_Ic_lacking r m') := by
  unfold Ic_lacking_l31 at h
  refine V_iload (i := 6) (pc := 31) dX4_lacking_31 rfl ?_
  refine V_iload (i := 4) (pc := 33) dX4_lacking_33 rfl ?_
  refine V_icmp_ge (pc := 35) (tgt := 78) dX4_lacking_35 rfl (fun q => ?_) (fun q => ?_)
  · have h := ite_t q h
    obtain ⟨y2, hu2, rfl⟩ := up_e h
    have h := hu2
    refine V_iload (i := 5) (pc := 78) dX4_lacking_78 rfl ?_
    refine V_if_eq (pc := 80) (tgt := 98) dX4_lacking_80 rfl (fun q => ?_) (fun q => ?_)
    · have h := ite_t q h
      refine V_sub (ls' := [some (vr this), some (vi v1), some (vi v2), some (vi v3), some (vi v4), none, none]) (And.intro rfl (And.intro rfl (And.intro rfl (And.intro rfl (And.intro rfl trivial))))) ?_
      exact k_Ic_lacking_b98 h_this h hp
    · have h := ite_f q h
      refine V_iload_n (i := 3) (pc := 83) dX4_lacking_83 rfl rfl ?_
      refine V_iconst (v := 0) (pc := 84) dX4_lacking_84 rfl ?_
      refine V_aload_n (i := 0) (pc := 85) dX4_lacking_85 rfl rfl ?_
      refine V_iload_n (i := 1) (pc := 86) dX4_lacking_86 rfl rfl ?_
      refine V_iload (i := 4) (pc := 87) dX4_lacking_87 rfl ?_
      refine V_iload_n (i := 2) (pc := 89) dX4_lacking_89 rfl rfl ?_
      obtain ⟨r90, e90, h⟩ := bnd h
      refine V_invV1 (c := 4) (pc := 90) dX4_lacking_90 (e_Ic_shortOf h_this e90) iv_Ic_131 (rm_Ic_lacking_Ic_shortOf _ _ _) rfl h_this cf_4 rfl (Nat.le_of_ble_eq_true rfl) rfl ?_
      refine V_mmax (pc := 93) dX4_lacking_93 ma_Ic_138 (rmM_Ic_lacking _ _ _) (Nat.le_of_ble_eq_true rfl) ?_
      refine V_iadd (pc := 96) dX4_lacking_96 ?_
      refine V_istore_n (i := 3) (ls' := [some (vr this), some (vi v1), some (vi v2), some (vi (v3 + (jmax 0 r90))), some (vi v4), some (vi v5), some (vi v6)]) (pc := 97) dX4_lacking_97 rfl (Nat.le_of_ble_eq_true rfl) rfl ?_
      refine V_sub (ls' := [some (vr this), some (vi v1), some (vi v2), some (vi (v3 + (jmax 0 r90))), some (vi v4), none, none]) (And.intro rfl (And.intro rfl (And.intro rfl (And.intro rfl (And.intro rfl trivial))))) ?_
      exact k_Ic_lacking_b98 h_this h hp
  · have h := ite_f q h
    refine V_aload_n (i := 0) (pc := 38) dX4_lacking_38 rfl rfl ?_
    refine V_getR (b := (this + 4)) (pc := 39) dX4_lacking_39 fl_Ic_26 h_this rfl rfl ?_
    refine V_iload (i := 6) (pc := 42) dX4_lacking_42 rfl ?_
    obtain ⟨hg44, h⟩ := gd_e h
    refine V_iald (pc := 44) dX4_lacking_44 (kf_4_7 h_this) (af_4_7 h_this) hg44 ?_
    refine V_if_le (pc := 45) (tgt := 72) dX4_lacking_45 rfl (fun q => ?_) (fun q => ?_)
    · have h := ite_t q h
      exact k_Ic_lacking_b72 h_this h hp
    · have h := ite_f q h
      refine V_iload_n (i := 1) (pc := 48) dX4_lacking_48 rfl rfl ?_
      refine V_aload_n (i := 0) (pc := 49) dX4_lacking_49 rfl rfl ?_
      refine V_getR (b := (this + 5)) (pc := 50) dX4_lacking_50 fl_Ic_29 h_this rfl rfl ?_
      refine V_iload (i := 6) (pc := 53) dX4_lacking_53 rfl ?_
      obtain ⟨hg55, h⟩ := gd_e h
      refine V_iald (pc := 55) dX4_lacking_55 (kf_4_8 h_this) (af_4_8 h_this) hg55 ?_
      refine V_aload_n (i := 0) (pc := 56) dX4_lacking_56 rfl rfl ?_
      refine V_getR (b := (this + 5)) (pc := 57) dX4_lacking_57 fl_Ic_29 h_this rfl rfl ?_
      refine V_iload (i := 4) (pc := 60) dX4_lacking_60 rfl ?_
      obtain ⟨hg62, h⟩ := gd_e h
      refine V_iald (pc := 62) dX4_lacking_62 (kf_4_8 h_this) (af_4_8 h_this) hg62 ?_
      obtain ⟨r63, e63, h⟩ := bnd h
      refine V_invS1 (pc := 63) dX4_lacking_63 (e_Ic_isOnePiece  e63) is_Ic_134 (rm_Ic_lacking_Ic_isOnePiece _ _ _) rfl (Nat.le_of_ble_eq_true rfl) rfl ?_
      refine V_if_eq (pc := 66) (tgt := 72) dX4_lacking_66 rfl (fun q => ?_) (fun q => ?_)
      · have h := ite_t q h
        exact k_Ic_lacking_b72 h_this h hp
      · have h := ite_f q h
        refine V_iconst (v := 0) (pc := 69) dX4_lacking_69 rfl ?_
        refine V_istore (i := 5) (ls' := [some (vr this), some (vi v1), some (vi v2), some (vi v3), some (vi v4), some (vi 0), some (vi v6)]) (pc := 70) dX4_lacking_70 (Nat.le_of_ble_eq_true rfl) rfl ?_
        exact k_Ic_lacking_b72 h_this h hp
theorem k_Ic_lacking_b26 {g : GE} {this : Nat} {v1 : Int32} {v2 : Int32} {v3 : Int32} {v4 : Int32} {k0 : Int32}  {m : Mem} (h_this : kd this = 5) {r : Option AV} {m' : Mem} {x : (Int32 × Int32) ⊕ (Int32)} (h : Ic_lacking_b26 this v1 v2 v3 v4 k0 m = some x) (hp : (Sum.elim (fun s : Int32 × Int32 => V g Y_Ic_lacking 5 [some (vr this), some (vi v1), some (vi v2), some (vi s.1), some (vi s.2), none, none] [] m (PM g Y_Ic_lacking r m')) (fun x : Int32 => r = some (vi x) ∧ m' = m)) x) : V g Y_Ic_lacking 26 [some (vr this), some (vi v1), some (vi v2), some (vi v3), some (vi v4), none, none] [vi k0] m (PM g Y_Ic_lacking r m') := by
  unfold Ic_lacking_b26 at h
  refine V_istore (i := 5) (ls' := [some (vr this), some (vi v1), some (vi v2), some (vi v3), some (vi v4), some (vi k0), none]) (pc := 26) dX4_lacking_26 (Nat.le_of_ble_eq_true rfl) rfl ?_
  refine V_iconst (v := 0) (pc := 28) dX4_lacking_28 rfl ?_
  refine V_istore (i := 6) (ls' := [some (vr this), some (vi v1), some (vi v2), some (vi v3), some (vi v4), some (vi k0), some (vi 0)]) (pc := 29) dX4_lacking_29 (Nat.le_of_ble_eq_true rfl) rfl ?_
  exact loop_V (A := fun s : Int32 × Int32 => V g Y_Ic_lacking 31 [some (vr this), some (vi v1), some (vi v2), some (vi v3), some (vi v4), some (vi s.1), some (vi s.2)] [] m (PM g Y_Ic_lacking r m')) (fun s x h hp => k_Ic_lacking_l31 h_this h hp) (k0, 0) _ h hp
theorem k_Ic_lacking_l5 {g : GE} {this : Nat} {v1 : Int32} {v2 : Int32} {v3 : Int32} {v4 : Int32} {m : Mem} (h_this : kd this = 5) {r : Option AV} {m' : Mem} {x : (Int32 × Int32) ⊕ (Int32)} (h : Ic_lacking_l5 this v1 v2 v3 v4 m = some x) (hp : (Sum.elim (fun s : Int32 × Int32 => V g Y_Ic_lacking 5 [some (vr this), some (vi v1), some (vi v2), some (vi s.1), some (vi s.2), none, none] [] m (PM g Y_Ic_lacking r m')) (fun x : Int32 => r = some (vi x) ∧ m' = m)) x) : V g Y_Ic_lacking 5 [some (vr this), some (vi v1), some (vi v2), some (vi v3), some (vi v4), none, none] [] m (PM g Y_Ic_lacking r m') := by
  unfold Ic_lacking_l5 at h
  refine V_iload (i := 4) (pc := 5) dX4_lacking_5 rfl ?_
  refine V_iconst (v := 4) (pc := 7) dX4_lacking_7 rfl ?_
  refine V_icmp_ge (pc := 8) (tgt := 104) dX4_lacking_8 rfl (fun q => ?_) (fun q => ?_)
  · have h := ite_t q h
    obtain ⟨y1, hu1, rfl⟩ := up_e h
    have h := hu1
    refine V_iload_n (i := 3) (pc := 104) dX4_lacking_104 rfl rfl ?_
    obtain rfl := Option.some.inj h
    exact E_i (pc := 105) dX4_lacking_105 rfl hp
  · have h := ite_f q h
    refine V_aload_n (i := 0) (pc := 11) dX4_lacking_11 rfl rfl ?_
    refine V_getR (b := (this + 4)) (pc := 12) dX4_lacking_12 fl_Ic_26 h_this rfl rfl ?_
    refine V_iload (i := 4) (pc := 15) dX4_lacking_15 rfl ?_
    obtain ⟨hg17, h⟩ := gd_e h
    refine V_iald (pc := 17) dX4_lacking_17 (kf_4_7 h_this) (af_4_7 h_this) hg17 ?_
    refine V_if_le (pc := 18) (tgt := 25) dX4_lacking_18 rfl (fun q => ?_) (fun q => ?_)
    · have h := ite_t q h
      refine V_iconst (v := 0) (pc := 25) dX4_lacking_25 rfl ?_
      exact k_Ic_lacking_b26 h_this h hp
    · have h := ite_f q h
      refine V_iconst (v := 1) (pc := 21) dX4_lacking_21 rfl ?_
      refine V_goto (tgt := 26) (pc := 22) dX4_lacking_22 rfl ?_
      exact k_Ic_lacking_b26 h_this h hp
theorem k_Ic_lacking {g : GE} {this : Nat} {v1 : Int32} {v2 : Int32} {m : Mem} (h_this : kd this = 5) {r : Option AV} {m' : Mem} {x : Int32} (h : Ic_lacking this v1 v2 m = some x) (hp : (fun x : Int32 => r = some (vi x) ∧ m' = m) x) : V g Y_Ic_lacking 0 [some (vr this), some (vi v1), some (vi v2), none, none, none, none] [] m (PM g Y_Ic_lacking r m') := by
  unfold Ic_lacking at h
  refine V_iconst (v := 0) (pc := 0) dX4_lacking_0 rfl ?_
  refine V_istore_n (i := 3) (ls' := [some (vr this), some (vi v1), some (vi v2), some (vi 0), none, none, none]) (pc := 1) dX4_lacking_1 rfl (Nat.le_of_ble_eq_true rfl) rfl ?_
  refine V_iconst (v := 0) (pc := 2) dX4_lacking_2 rfl ?_
  refine V_istore (i := 4) (ls' := [some (vr this), some (vi v1), some (vi v2), some (vi 0), some (vi 0), none, none]) (pc := 3) dX4_lacking_3 (Nat.le_of_ble_eq_true rfl) rfl ?_
  exact loop_V (A := fun s : Int32 × Int32 => V g Y_Ic_lacking 5 [some (vr this), some (vi v1), some (vi v2), some (vi s.1), some (vi s.2), none, none] [] m (PM g Y_Ic_lacking r m')) (fun s x h hp => k_Ic_lacking_l5 h_this h hp) (0, 0) _ h hp
theorem e_Ic_lacking {g : GE} {this : Nat} {v1 : Int32} {v2 : Int32} {m : Mem} (h_this : kd this = 5) {x : Int32} (h : Ic_lacking this v1 v2 m = some x) : Ev g Y_Ic_lacking [vr this, vi v1, vi v2] m (some (vi x)) m :=
  Ev_of 4 (by decide +kernel) rfl (Nat.le_of_ble_eq_true rfl) rfl (k_Ic_lacking h_this h ⟨rfl, rfl⟩)
theorem k_PL_lacks {g : GE} {this : Nat} {v1 : Int32} {v2 : Int32} {m : Mem} (h_this : kd this = 11) {r : Option AV} {m' : Mem} {x : Int32 × Mem} (h : PL_lacks this v1 v2 m = some x) (hp : (fun x : Int32 × Mem => r = some (vi x.1) ∧ m' = x.2) x) : V g Y_PL_lacks 0 [some (vr this), some (vi v1), some (vi v2)] [] m (PM g Y_PL_lacks r m') := by
  unfold PL_lacks at h
  refine V_aload_n (i := 0) (pc := 0) dX10_lacks_0 rfl rfl ?_
  refine V_getR (b := (this + 27)) (pc := 1) dX10_lacks_1 fl_PL_19 h_this rfl rfl ?_
  refine V_getR (b := (this + 28)) (pc := 4) dX10_lacks_4 fl_PL_102 (kf_10_1 h_this) rfl rfl ?_
  refine V_iload_n (i := 1) (pc := 7) dX10_lacks_7 rfl rfl ?_
  obtain ⟨r8, e8, h⟩ := bnd h
  refine V_invV1 (c := 2) (pc := 8) dX10_lacks_8 (e_Fl_hasSet (kf_0_0 (kf_10_1 h_this)) e8) iv_PL_167 (rm_PL_lacks_Fl_hasSet _ _ _) rfl (kf_0_0 (kf_10_1 h_this)) cf_2 rfl (Nat.le_of_ble_eq_true rfl) rfl ?_
  refine V_if_eq (pc := 11) (tgt := 23) dX10_lacks_11 rfl (fun q => ?_) (fun q => ?_)
  · have h := ite_t q h
    refine V_bipush (v := (-2)) (pc := 23) dX10_lacks_23 rfl ?_
    obtain rfl := Option.some.inj h
    exact E_i (pc := 25) dX10_lacks_25 rfl hp
  · have h := ite_f q h
    refine V_iload_n (i := 2) (pc := 14) dX10_lacks_14 rfl rfl ?_
    refine V_if_lt (pc := 15) (tgt := 23) dX10_lacks_15 rfl (fun q => ?_) (fun q => ?_)
    · have h := ite_t q h
      refine V_bipush (v := (-2)) (pc := 23) dX10_lacks_23 rfl ?_
      obtain rfl := Option.some.inj h
      exact E_i (pc := 25) dX10_lacks_25 rfl hp
    · have h := ite_f q h
      refine V_iload_n (i := 2) (pc := 18) dX10_lacks_18 rfl rfl ?_
      refine V_iconst (v := 4) (pc := 19) dX10_lacks_19 rfl ?_
      refine V_icmp_lt (pc := 20) (tgt := 26) dX10_lacks_20 rfl (fun q => ?_) (fun q => ?_)
      · have h := ite_t q h
        refine V_aload_n (i := 0) (pc := 26) dX10_lacks_26 rfl rfl ?_
        refine V_getR (b := (this + 202)) (pc := 27) dX10_lacks_27 fl_PL_41 h_this rfl rfl ?_
        refine V_aload_n (i := 0) (pc := 30) dX10_lacks_30 rfl rfl ?_
        refine V_getR (b := (this + 27)) (pc := 31) dX10_lacks_31 fl_PL_19 h_this rfl rfl ?_
        obtain ⟨m34, e34, h⟩ := bnd h
        refine V_invV0 (c := 4) (pc := 34) dX10_lacks_34 (e_Ic_look (kf_10_5 h_this) (kf_10_1 h_this) e34) iv_PL_211 (rm_PL_lacks_Ic_look _ _ _) rfl (kf_10_5 h_this) cf_4 rfl (Nat.le_of_ble_eq_true rfl) rfl ?_
        refine V_aload_n (i := 0) (pc := 37) dX10_lacks_37 rfl rfl ?_
        refine V_getR (b := (this + 202)) (pc := 38) dX10_lacks_38 fl_PL_41 h_this rfl rfl ?_
        refine V_iload_n (i := 1) (pc := 41) dX10_lacks_41 rfl rfl ?_
        refine V_iload_n (i := 2) (pc := 42) dX10_lacks_42 rfl rfl ?_
        obtain ⟨r43, e43, h⟩ := bnd h
        refine V_invV1 (c := 4) (pc := 43) dX10_lacks_43 (e_Ic_lacking (kf_10_5 h_this) e43) iv_PL_235 (rm_PL_lacks_Ic_lacking _ _ _) rfl (kf_10_5 h_this) cf_4 rfl (Nat.le_of_ble_eq_true rfl) rfl ?_
        obtain rfl := Option.some.inj h
        exact E_i (pc := 46) dX10_lacks_46 rfl hp
      · have h := ite_f q h
        refine V_bipush (v := (-2)) (pc := 23) dX10_lacks_23 rfl ?_
        obtain rfl := Option.some.inj h
        exact E_i (pc := 25) dX10_lacks_25 rfl hp
theorem e_PL_lacks {g : GE} {this : Nat} {v1 : Int32} {v2 : Int32} {m : Mem} (h_this : kd this = 11) {x : Int32 × Mem} (h : PL_lacks this v1 v2 m = some x) : Ev g Y_PL_lacks [vr this, vi v1, vi v2] m (some (vi x.1)) x.2 :=
  Ev_of 0 (by decide +kernel) rfl (Nat.le_of_ble_eq_true rfl) rfl (k_PL_lacks h_this h ⟨rfl, rfl⟩)
theorem k_Ic_takeOutLost_b47 {g : GE} {this : Nat} {v1 : Int64} {v3 : Int32}  {m : Mem} (h_this : kd this = 5) {r : Option AV} {m' : Mem} {x : (Int64 × Int32 × Mem) ⊕ (Int64 × Mem)} (h : Ic_takeOutLost_b47 this v1 v3 m = some x) (hp : (Sum.elim (fun s : Int64 × Int32 × Mem => V g Y_Ic_takeOutLost 4 [some (vr this), some (vl s.1), none, some (vi s.2.1)] [] s.2.2 (PM g Y_Ic_takeOutLost r m')) (fun x : Int64 × Mem => r = some (vl x.1) ∧ m' = x.2)) x) : V g Y_Ic_takeOutLost 47 [some (vr this), some (vl v1), none, some (vi v3)] [] m (PM g Y_Ic_takeOutLost r m') := by
  unfold Ic_takeOutLost_b47 at h
  refine V_iinc (i := 3) (v := (v3 + 1)) (ls' := [some (vr this), some (vl v1), none, some (vi (v3 + 1))]) (pc := 47) dX4_takeOutLost_47 rfl rfl (Nat.le_of_ble_eq_true rfl) rfl ?_
  refine V_goto (tgt := 4) (pc := 50) dX4_takeOutLost_50 rfl ?_
  obtain rfl := Option.some.inj h
  exact hp
theorem k_Ic_takeOutLost_l4 {g : GE} {this : Nat}  {v1 : Int64} {v3 : Int32} {m : Mem} (h_this : kd this = 5) {r : Option AV} {m' : Mem} {x : (Int64 × Int32 × Mem) ⊕ (Int64 × Mem)} (h : Ic_takeOutLost_l4 this v1 v3 m = some x) (hp : (Sum.elim (fun s : Int64 × Int32 × Mem => V g Y_Ic_takeOutLost 4 [some (vr this), some (vl s.1), none, some (vi s.2.1)] [] s.2.2 (PM g Y_Ic_takeOutLost r m')) (fun x : Int64 × Mem => r = some (vl x.1) ∧ m' = x.2)) x) : V g Y_Ic_takeOutLost 4 [some (vr this), some (vl v1), none, some (vi v3)] [] m (PM g Y_Ic_takeOutLost r m') := by
  unfold Ic_takeOutLost_l4 at h
  refine V_iload_n (i := 3) (pc := 4) dX4_takeOutLost_4 rfl rfl ?_
  refine V_aload_n (i := 0) (pc := 5) dX4_takeOutLost_5 rfl rfl ?_
  refine V_getI (pc := 6) dX4_takeOutLost_6 fl_Ic_9 h_this rfl ?_
  refine V_icmp_ge (pc := 9) (tgt := 53) dX4_takeOutLost_9 rfl (fun q => ?_) (fun q => ?_)
  · have h := ite_t q h
    obtain ⟨y1, hu1, rfl⟩ := up_e h
    have h := hu1
    refine V_lload_n (i := 1) (pc := 53) dX4_takeOutLost_53 rfl rfl ?_
    obtain rfl := Option.some.inj h
    exact E_l (pc := 54) dX4_takeOutLost_54 rfl hp
  · have h := ite_f q h
    refine V_aload_n (i := 0) (pc := 12) dX4_takeOutLost_12 rfl rfl ?_
    refine V_getR (b := (this + 1)) (pc := 13) dX4_takeOutLost_13 fl_Ic_15 h_this rfl rfl ?_
    refine V_iload_n (i := 3) (pc := 16) dX4_takeOutLost_16 rfl rfl ?_
    obtain ⟨hg17, h⟩ := gd_e h
    refine V_lald (pc := 17) dX4_takeOutLost_17 (kf_4_4 h_this) (af_4_4 h_this) hg17 ?_
    refine V_lconst (v := 0) (pc := 18) dX4_takeOutLost_18 rfl ?_
    refine V_lif_eq (pc := 19) (tgt := 47) dX4_takeOutLost_19 dX4_takeOutLost_20 rfl (fun q => ?_) (fun q => ?_)
    · have h := ite_t q h
      exact k_Ic_takeOutLost_b47 h_this h hp
    · have h := ite_f q h
      refine V_aload_n (i := 0) (pc := 23) dX4_takeOutLost_23 rfl rfl ?_
      refine V_iload_n (i := 3) (pc := 24) dX4_takeOutLost_24 rfl rfl ?_
      obtain ⟨r25, e25, h⟩ := bnd h
      refine V_invV1 (c := 4) (pc := 25) dX4_takeOutLost_25 (e_Ic_isEnough h_this e25) iv_Ic_117 (rm_Ic_takeOutLost_Ic_isEnough _ _ _) rfl h_this cf_4 rfl (Nat.le_of_ble_eq_true rfl) rfl ?_
      refine V_if_ne (pc := 28) (tgt := 47) dX4_takeOutLost_28 rfl (fun q => ?_) (fun q => ?_)
      · have h := ite_f q h
        exact k_Ic_takeOutLost_b47 h_this h hp
      · have h := ite_t q h
        refine V_lload_n (i := 1) (pc := 31) dX4_takeOutLost_31 rfl rfl ?_
        refine V_aload_n (i := 0) (pc := 32) dX4_takeOutLost_32 rfl rfl ?_
        refine V_getR (b := (this + 1)) (pc := 33) dX4_takeOutLost_33 fl_Ic_15 h_this rfl rfl ?_
        refine V_iload_n (i := 3) (pc := 36) dX4_takeOutLost_36 rfl rfl ?_
        obtain ⟨hg37, h⟩ := gd_e h
        refine V_lald (pc := 37) dX4_takeOutLost_37 (kf_4_4 h_this) (af_4_4 h_this) hg37 ?_
        refine V_ladd (pc := 38) dX4_takeOutLost_38 ?_
        refine V_lstore_n (i := 1) (ls' := [some (vr this), some (vl (v1 + (rL r25.2 (this + 1) (ix v3)))), none, some (vi v3)]) (pc := 39) dX4_takeOutLost_39 rfl (Nat.le_of_ble_eq_true rfl) rfl ?_
        refine V_aload_n (i := 0) (pc := 40) dX4_takeOutLost_40 rfl rfl ?_
        refine V_getR (b := (this + 1)) (pc := 41) dX4_takeOutLost_41 fl_Ic_15 h_this rfl rfl ?_
        refine V_iload_n (i := 3) (pc := 44) dX4_takeOutLost_44 rfl rfl ?_
        refine V_lconst (v := 0) (pc := 45) dX4_takeOutLost_45 rfl ?_
        obtain ⟨hg46, h⟩ := gd_e h
        refine V_last_lt (pc := 46) dX4_takeOutLost_46 (kf_4_4 h_this) (af_4_4 h_this) hg46 h (fun m46 h => ?_)
        exact k_Ic_takeOutLost_b47 h_this h hp
theorem k_Ic_takeOutLost {g : GE} {this : Nat} {m : Mem} (h_this : kd this = 5) {r : Option AV} {m' : Mem} {x : Int64 × Mem} (h : Ic_takeOutLost this m = some x) (hp : (fun x : Int64 × Mem => r = some (vl x.1) ∧ m' = x.2) x) : V g Y_Ic_takeOutLost 0 [some (vr this), none, none, none] [] m (PM g Y_Ic_takeOutLost r m') := by
  unfold Ic_takeOutLost at h
  refine V_lconst (v := 0) (pc := 0) dX4_takeOutLost_0 rfl ?_
  refine V_lstore_n (i := 1) (ls' := [some (vr this), some (vl 0), none, none]) (pc := 1) dX4_takeOutLost_1 rfl (Nat.le_of_ble_eq_true rfl) rfl ?_
  refine V_iconst (v := 0) (pc := 2) dX4_takeOutLost_2 rfl ?_
  refine V_istore_n (i := 3) (ls' := [some (vr this), some (vl 0), none, some (vi 0)]) (pc := 3) dX4_takeOutLost_3 rfl (Nat.le_of_ble_eq_true rfl) rfl ?_
  exact loop_V (A := fun s : Int64 × Int32 × Mem => V g Y_Ic_takeOutLost 4 [some (vr this), some (vl s.1), none, some (vi s.2.1)] [] s.2.2 (PM g Y_Ic_takeOutLost r m')) (fun s x h hp => k_Ic_takeOutLost_l4 h_this h hp) (0, 0, m) _ h hp
theorem e_Ic_takeOutLost {g : GE} {this : Nat} {m : Mem} (h_this : kd this = 5) {x : Int64 × Mem} (h : Ic_takeOutLost this m = some x) : Ev g Y_Ic_takeOutLost [vr this] m (some (vl x.1)) x.2 :=
  Ev_of 3 (by decide +kernel) rfl (Nat.le_of_ble_eq_true rfl) rfl (k_Ic_takeOutLost h_this h ⟨rfl, rfl⟩)
theorem k_Ic_lostIn_l10 {g : GE} {this : Nat} {v1 : Nat} {v2 : Int32} {v3 : Int64} {v5 : Int32} {m : Mem} (h_this : kd this = 5) (h_v1 : kd v1 = 1) {r : Option AV} {m' : Mem} {x : (Int64 × Int32 × Mem) ⊕ (Int64 × Mem)} (h : Ic_lostIn_l10 this v1 v2 v3 v5 m = some x) (hp : (Sum.elim (fun s : Int64 × Int32 × Mem => V g Y_Ic_lostIn 10 [some (vr this), none, some (vi v2), some (vl s.1), none, some (vi s.2.1)] [] s.2.2 (PM g Y_Ic_lostIn r m')) (fun x : Int64 × Mem => r = some (vl x.1) ∧ m' = x.2)) x) : V g Y_Ic_lostIn 10 [some (vr this), none, some (vi v2), some (vl v3), none, some (vi v5)] [] m (PM g Y_Ic_lostIn r m') := by
  unfold Ic_lostIn_l10 at h
  refine V_iload (i := 5) (pc := 10) dX4_lostIn_10 rfl ?_
  refine V_iload_n (i := 2) (pc := 12) dX4_lostIn_12 rfl rfl ?_
  refine V_icmp_ge (pc := 13) (tgt := 33) dX4_lostIn_13 rfl (fun q => ?_) (fun q => ?_)
  · have h := ite_t q h
    obtain ⟨y1, hu1, rfl⟩ := up_e h
    have h := hu1
    refine V_lload_n (i := 3) (pc := 33) dX4_lostIn_33 rfl rfl ?_
    obtain rfl := Option.some.inj h
    exact E_l (pc := 34) dX4_lostIn_34 rfl hp
  · have h := ite_f q h
    refine V_aload_n (i := 0) (pc := 16) dX4_lostIn_16 rfl rfl ?_
    obtain ⟨m17, e17, h⟩ := bnd h
    refine V_invV0 (c := 4) (pc := 17) dX4_lostIn_17 (e_Ic_passHour h_this e17) iv_Ic_124 (rm_Ic_lostIn_Ic_passHour _ _ _) rfl h_this cf_4 rfl (Nat.le_of_ble_eq_true rfl) rfl ?_
    refine V_lload_n (i := 3) (pc := 20) dX4_lostIn_20 rfl rfl ?_
    refine V_aload_n (i := 0) (pc := 21) dX4_lostIn_21 rfl rfl ?_
    obtain ⟨r22, e22, h⟩ := bnd h
    refine V_invV1 (c := 4) (pc := 22) dX4_lostIn_22 (e_Ic_takeOutLost h_this e22) iv_Ic_127 (rm_Ic_lostIn_Ic_takeOutLost _ _ _) rfl h_this cf_4 rfl (Nat.le_of_ble_eq_true rfl) rfl ?_
    refine V_ladd (pc := 25) dX4_lostIn_25 ?_
    refine V_lstore_n (i := 3) (ls' := [some (vr this), none, some (vi v2), some (vl (v3 + r22.1)), none, some (vi v5)]) (pc := 26) dX4_lostIn_26 rfl (Nat.le_of_ble_eq_true rfl) rfl ?_
    refine V_iinc (i := 5) (v := (v5 + 1)) (ls' := [some (vr this), none, some (vi v2), some (vl (v3 + r22.1)), none, some (vi (v5 + 1))]) (pc := 27) dX4_lostIn_27 rfl rfl (Nat.le_of_ble_eq_true rfl) rfl ?_
    refine V_goto (tgt := 10) (pc := 30) dX4_lostIn_30 rfl ?_
    obtain rfl := Option.some.inj h
    exact hp
theorem k_Ic_lostIn {g : GE} {this : Nat} {v1 : Nat} {v2 : Int32} {m : Mem} (h_this : kd this = 5) (h_v1 : kd v1 = 1) {r : Option AV} {m' : Mem} {x : Int64 × Mem} (h : Ic_lostIn this v1 v2 m = some x) (hp : (fun x : Int64 × Mem => r = some (vl x.1) ∧ m' = x.2) x) : V g Y_Ic_lostIn 0 [some (vr this), some (vr v1), some (vi v2), none, none, none] [] m (PM g Y_Ic_lostIn r m') := by
  unfold Ic_lostIn at h
  refine V_aload_n (i := 0) (pc := 0) dX4_lostIn_0 rfl rfl ?_
  refine V_aload_n (i := 1) (pc := 1) dX4_lostIn_1 rfl rfl ?_
  obtain ⟨m2, e2, h⟩ := bnd h
  refine V_invV0 (c := 4) (pc := 2) dX4_lostIn_2 (e_Ic_look h_this h_v1 e2) iv_Ic_120 (rm_Ic_lostIn_Ic_look _ _ _) rfl h_this cf_4 rfl (Nat.le_of_ble_eq_true rfl) rfl ?_
  refine V_lconst (v := 0) (pc := 5) dX4_lostIn_5 rfl ?_
  refine V_lstore_n (i := 3) (ls' := [some (vr this), some (vr v1), some (vi v2), some (vl 0), none, none]) (pc := 6) dX4_lostIn_6 rfl (Nat.le_of_ble_eq_true rfl) rfl ?_
  refine V_iconst (v := 0) (pc := 7) dX4_lostIn_7 rfl ?_
  refine V_istore (i := 5) (ls' := [some (vr this), some (vr v1), some (vi v2), some (vl 0), none, some (vi 0)]) (pc := 8) dX4_lostIn_8 (Nat.le_of_ble_eq_true rfl) rfl ?_
  refine V_sub (ls' := [some (vr this), none, some (vi v2), some (vl 0), none, some (vi 0)]) (And.intro rfl (And.intro rfl (And.intro rfl (And.intro rfl trivial)))) ?_
  exact loop_V (A := fun s : Int64 × Int32 × Mem => V g Y_Ic_lostIn 10 [some (vr this), none, some (vi v2), some (vl s.1), none, some (vi s.2.1)] [] s.2.2 (PM g Y_Ic_lostIn r m')) (fun s x h hp => k_Ic_lostIn_l10 h_this h_v1 h hp) (0, 0, m2) _ h hp
theorem e_Ic_lostIn {g : GE} {this : Nat} {v1 : Nat} {v2 : Int32} {m : Mem} (h_this : kd this = 5) (h_v1 : kd v1 = 1) {x : Int64 × Mem} (h : Ic_lostIn this v1 v2 m = some x) : Ev g Y_Ic_lostIn [vr this, vr v1, vi v2] m (some (vl x.1)) x.2 :=
  Ev_of 3 (by decide +kernel) rfl (Nat.le_of_ble_eq_true rfl) rfl (k_Ic_lostIn h_this h_v1 h ⟨rfl, rfl⟩)
theorem k_PL_lost {g : GE} {this : Nat} {v1 : Int32} {m : Mem} (h_this : kd this = 11) {r : Option AV} {m' : Mem} {x : Int64 × Mem} (h : PL_lost this v1 m = some x) (hp : (fun x : Int64 × Mem => r = some (vl x.1) ∧ m' = x.2) x) : V g Y_PL_lost 0 [some (vr this), some (vi v1)] [] m (PM g Y_PL_lost r m') := by
  unfold PL_lost at h
  refine V_aload_n (i := 0) (pc := 0) dX10_lost_0 rfl rfl ?_
  refine V_getR (b := (this + 27)) (pc := 1) dX10_lost_1 fl_PL_19 h_this rfl rfl ?_
  refine V_getR (b := (this + 28)) (pc := 4) dX10_lost_4 fl_PL_102 (kf_10_1 h_this) rfl rfl ?_
  obtain ⟨r7, e7, h⟩ := bnd h
  refine V_invV1 (c := 2) (pc := 7) dX10_lost_7 (e_Fl_isThere (kf_0_0 (kf_10_1 h_this)) e7) iv_PL_222 (rm_PL_lost_Fl_isThere _ _ _) rfl (kf_0_0 (kf_10_1 h_this)) cf_2 rfl (Nat.le_of_ble_eq_true rfl) rfl ?_
  refine V_if_eq (pc := 10) (tgt := 24) dX10_lost_10 rfl (fun q => ?_) (fun q => ?_)
  · have h := ite_t q h
    refine V_ldc2 (v := (-2)) (pc := 24) dX10_lost_24 con_PL_209 ?_
    obtain rfl := Option.some.inj h
    exact E_l (pc := 27) dX10_lost_27 rfl hp
  · have h := ite_f q h
    refine V_iload_n (i := 1) (pc := 13) dX10_lost_13 rfl rfl ?_
    refine V_iconst (v := 1) (pc := 14) dX10_lost_14 rfl ?_
    refine V_icmp_lt (pc := 15) (tgt := 24) dX10_lost_15 rfl (fun q => ?_) (fun q => ?_)
    · have h := ite_t q h
      refine V_ldc2 (v := (-2)) (pc := 24) dX10_lost_24 con_PL_209 ?_
      obtain rfl := Option.some.inj h
      exact E_l (pc := 27) dX10_lost_27 rfl hp
    · have h := ite_f q h
      refine V_iload_n (i := 1) (pc := 18) dX10_lost_18 rfl rfl ?_
      refine V_bipush (v := 48) (pc := 19) dX10_lost_19 rfl ?_
      refine V_icmp_le (pc := 21) (tgt := 28) dX10_lost_21 rfl (fun q => ?_) (fun q => ?_)
      · have h := ite_t q h
        refine V_aload_n (i := 0) (pc := 28) dX10_lost_28 rfl rfl ?_
        refine V_getR (b := (this + 202)) (pc := 29) dX10_lost_29 fl_PL_41 h_this rfl rfl ?_
        refine V_aload_n (i := 0) (pc := 32) dX10_lost_32 rfl rfl ?_
        refine V_getR (b := (this + 27)) (pc := 33) dX10_lost_33 fl_PL_19 h_this rfl rfl ?_
        refine V_iload_n (i := 1) (pc := 36) dX10_lost_36 rfl rfl ?_
        obtain ⟨r37, e37, h⟩ := bnd h
        refine V_invV1 (c := 4) (pc := 37) dX10_lost_37 (e_Ic_lostIn (kf_10_5 h_this) (kf_10_1 h_this) e37) iv_PL_238 (rm_PL_lost_Ic_lostIn _ _ _) rfl (kf_10_5 h_this) cf_4 rfl (Nat.le_of_ble_eq_true rfl) rfl ?_
        obtain rfl := Option.some.inj h
        exact E_l (pc := 40) dX10_lost_40 rfl hp
      · have h := ite_f q h
        refine V_ldc2 (v := (-2)) (pc := 24) dX10_lost_24 con_PL_209 ?_
        obtain rfl := Option.some.inj h
        exact E_l (pc := 27) dX10_lost_27 rfl hp
theorem e_PL_lost {g : GE} {this : Nat} {v1 : Int32} {m : Mem} (h_this : kd this = 11) {x : Int64 × Mem} (h : PL_lost this v1 m = some x) : Ev g Y_PL_lost [vr this, vi v1] m (some (vl x.1)) x.2 :=
  Ev_of 0 (by decide +kernel) rfl (Nat.le_of_ble_eq_true rfl) rfl (k_PL_lost h_this h ⟨rfl, rfl⟩)
theorem k_PL_isThousandths {g : GE} {v0 : Int32} {m : Mem} {r : Option AV} {m' : Mem} {x : Int32} (h : PL_isThousandths v0 m = some x) (hp : (fun x : Int32 => r = some (vi x) ∧ m' = m) x) : V g Y_PL_isThousandths 0 [some (vi v0)] [] m (PM g Y_PL_isThousandths r m') := by
  unfold PL_isThousandths at h
  refine V_iload_n (i := 0) (pc := 0) dX10_isThousandths_0 rfl rfl ?_
  refine V_if_lt (pc := 1) (tgt := 15) dX10_isThousandths_1 rfl (fun q => ?_) (fun q => ?_)
  · have h := ite_t q h
    refine V_iconst (v := 0) (pc := 15) dX10_isThousandths_15 rfl ?_
    obtain rfl := Option.some.inj h
    exact E_z (pc := 16) dX10_isThousandths_16 rfl rfl hp
  · have h := ite_f q h
    refine V_iload_n (i := 0) (pc := 4) dX10_isThousandths_4 rfl rfl ?_
    refine V_sipush (v := 1000) (pc := 5) dX10_isThousandths_5 rfl ?_
    refine V_icmp_gt (pc := 8) (tgt := 15) dX10_isThousandths_8 rfl (fun q => ?_) (fun q => ?_)
    · have h := ite_t q h
      refine V_iconst (v := 0) (pc := 15) dX10_isThousandths_15 rfl ?_
      obtain rfl := Option.some.inj h
      exact E_z (pc := 16) dX10_isThousandths_16 rfl rfl hp
    · have h := ite_f q h
      refine V_iconst (v := 1) (pc := 11) dX10_isThousandths_11 rfl ?_
      refine V_goto (tgt := 16) (pc := 12) dX10_isThousandths_12 rfl ?_
      obtain rfl := Option.some.inj h
      exact E_z (pc := 16) dX10_isThousandths_16 rfl rfl hp
theorem e_PL_isThousandths {g : GE} {v0 : Int32} {m : Mem} {x : Int32} (h : PL_isThousandths v0 m = some x) : Ev g Y_PL_isThousandths [vi v0] m (some (vi x)) m :=
  Ev_of 0 (by decide +kernel) rfl (Nat.le_of_ble_eq_true rfl) rfl (k_PL_isThousandths  h ⟨rfl, rfl⟩)
theorem k_PL_safe_l39 {g : GE} {this : Nat} {v1 : Int32} {v2 : Int64} {v4 : Int32} {m : Mem} (h_this : kd this = 11) {r : Option AV} {m' : Mem} {x : (Int64 × Int32 × Mem) ⊕ (Int32 × Mem)} (h : PL_safe_l39 this v1 v2 v4 m = some x) (hp : (Sum.elim (fun s : Int64 × Int32 × Mem => V g Y_PL_safe 39 [some (vr this), some (vi v1), some (vl s.1), none, some (vi s.2.1)] [] s.2.2 (PM g Y_PL_safe r m')) (fun x : Int32 × Mem => r = some (vi x.1) ∧ m' = x.2)) x) : V g Y_PL_safe 39 [some (vr this), some (vi v1), some (vl v2), none, some (vi v4)] [] m (PM g Y_PL_safe r m') := by
  unfold PL_safe_l39 at h
  refine V_iload (i := 4) (pc := 39) dX10_safe_39 rfl ?_
  refine V_bipush (v := 48) (pc := 41) dX10_safe_41 rfl ?_
  refine V_icmp_gt (pc := 43) (tgt := 85) dX10_safe_43 rfl (fun q => ?_) (fun q => ?_)
  · have h := ite_t q h
    obtain ⟨y1, hu1, rfl⟩ := up_e h
    have h := hu1
    refine V_bipush (v := 48) (pc := 85) dX10_safe_85 rfl ?_
    obtain rfl := Option.some.inj h
    exact E_i (pc := 87) dX10_safe_87 rfl hp
  · have h := ite_f q h
    refine V_aload_n (i := 0) (pc := 46) dX10_safe_46 rfl rfl ?_
    refine V_getR (b := (this + 202)) (pc := 47) dX10_safe_47 fl_PL_41 h_this rfl rfl ?_
    obtain ⟨m50, e50, h⟩ := bnd h
    refine V_invV0 (c := 4) (pc := 50) dX10_safe_50 (e_Ic_passHour (kf_10_5 h_this) e50) iv_PL_215 (rm_PL_safe_Ic_passHour _ _ _) rfl (kf_10_5 h_this) cf_4 rfl (Nat.le_of_ble_eq_true rfl) rfl ?_
    refine V_lload_n (i := 2) (pc := 53) dX10_safe_53 rfl rfl ?_
    refine V_aload_n (i := 0) (pc := 54) dX10_safe_54 rfl rfl ?_
    refine V_getR (b := (this + 202)) (pc := 55) dX10_safe_55 fl_PL_41 h_this rfl rfl ?_
    obtain ⟨r58, e58, h⟩ := bnd h
    refine V_invV1 (c := 4) (pc := 58) dX10_safe_58 (e_Ic_takeOutLost (kf_10_5 h_this) e58) iv_PL_245 (rm_PL_safe_Ic_takeOutLost _ _ _) rfl (kf_10_5 h_this) cf_4 rfl (Nat.le_of_ble_eq_true rfl) rfl ?_
    refine V_ladd (pc := 61) dX10_safe_61 ?_
    refine V_lstore_n (i := 2) (ls' := [some (vr this), some (vi v1), some (vl (v2 + r58.1)), none, some (vi v4)]) (pc := 62) dX10_safe_62 rfl (Nat.le_of_ble_eq_true rfl) rfl ?_
    refine V_lload_n (i := 2) (pc := 63) dX10_safe_63 rfl rfl ?_
    refine V_iload_n (i := 1) (pc := 64) dX10_safe_64 rfl rfl ?_
    refine V_i2l (pc := 65) dX10_safe_65 ?_
    refine V_ldc2 (v := 1000000000) (pc := 66) dX10_safe_66 con_PL_249 ?_
    refine V_lmul (pc := 69) dX10_safe_69 ?_
    refine V_lif_le (pc := 70) (tgt := 79) dX10_safe_70 dX10_safe_71 rfl (fun q => ?_) (fun q => ?_)
    · have h := ite_t q h
      refine V_iinc (i := 4) (v := (v4 + 1)) (ls' := [some (vr this), some (vi v1), some (vl (v2 + r58.1)), none, some (vi (v4 + 1))]) (pc := 79) dX10_safe_79 rfl rfl (Nat.le_of_ble_eq_true rfl) rfl ?_
      refine V_goto (tgt := 39) (pc := 82) dX10_safe_82 rfl ?_
      obtain rfl := Option.some.inj h
      exact hp
    · have h := ite_f q h
      obtain ⟨y2, hu2, rfl⟩ := up_e h
      have h := hu2
      refine V_iload (i := 4) (pc := 74) dX10_safe_74 rfl ?_
      refine V_iconst (v := 1) (pc := 76) dX10_safe_76 rfl ?_
      refine V_isub (pc := 77) dX10_safe_77 ?_
      obtain rfl := Option.some.inj h
      exact E_i (pc := 78) dX10_safe_78 rfl hp
theorem k_PL_safe {g : GE} {this : Nat} {v1 : Int32} {m : Mem} (h_this : kd this = 11) {r : Option AV} {m' : Mem} {x : Int32 × Mem} (h : PL_safe this v1 m = some x) (hp : (fun x : Int32 × Mem => r = some (vi x.1) ∧ m' = x.2) x) : V g Y_PL_safe 0 [some (vr this), some (vi v1), none, none, none] [] m (PM g Y_PL_safe r m') := by
  unfold PL_safe at h
  refine V_aload_n (i := 0) (pc := 0) dX10_safe_0 rfl rfl ?_
  refine V_getR (b := (this + 27)) (pc := 1) dX10_safe_1 fl_PL_19 h_this rfl rfl ?_
  refine V_getR (b := (this + 28)) (pc := 4) dX10_safe_4 fl_PL_102 (kf_10_1 h_this) rfl rfl ?_
  obtain ⟨r7, e7, h⟩ := bnd h
  refine V_invV1 (c := 2) (pc := 7) dX10_safe_7 (e_Fl_isThere (kf_0_0 (kf_10_1 h_this)) e7) iv_PL_222 (rm_PL_safe_Fl_isThere _ _ _) rfl (kf_0_0 (kf_10_1 h_this)) cf_2 rfl (Nat.le_of_ble_eq_true rfl) rfl ?_
  refine V_if_eq (pc := 10) (tgt := 20) dX10_safe_10 rfl (fun q => ?_) (fun q => ?_)
  · have h := ite_t q h
    refine V_bipush (v := (-2)) (pc := 20) dX10_safe_20 rfl ?_
    obtain rfl := Option.some.inj h
    exact E_i (pc := 22) dX10_safe_22 rfl hp
  · have h := ite_f q h
    refine V_iload_n (i := 1) (pc := 13) dX10_safe_13 rfl rfl ?_
    obtain ⟨r14, e14, h⟩ := bnd h
    refine V_invS1 (pc := 14) dX10_safe_14 (e_PL_isThousandths  e14) is_PL_242 (rm_PL_safe_PL_isThousandths _ _ _) rfl (Nat.le_of_ble_eq_true rfl) rfl ?_
    refine V_if_ne (pc := 17) (tgt := 23) dX10_safe_17 rfl (fun q => ?_) (fun q => ?_)
    · have h := ite_f q h
      refine V_aload_n (i := 0) (pc := 23) dX10_safe_23 rfl rfl ?_
      refine V_getR (b := (this + 202)) (pc := 24) dX10_safe_24 fl_PL_41 h_this rfl rfl ?_
      refine V_aload_n (i := 0) (pc := 27) dX10_safe_27 rfl rfl ?_
      refine V_getR (b := (this + 27)) (pc := 28) dX10_safe_28 fl_PL_19 h_this rfl rfl ?_
      obtain ⟨m31, e31, h⟩ := bnd h
      refine V_invV0 (c := 4) (pc := 31) dX10_safe_31 (e_Ic_look (kf_10_5 h_this) (kf_10_1 h_this) e31) iv_PL_211 (rm_PL_safe_Ic_look _ _ _) rfl (kf_10_5 h_this) cf_4 rfl (Nat.le_of_ble_eq_true rfl) rfl ?_
      refine V_lconst (v := 0) (pc := 34) dX10_safe_34 rfl ?_
      refine V_lstore_n (i := 2) (ls' := [some (vr this), some (vi v1), some (vl 0), none, none]) (pc := 35) dX10_safe_35 rfl (Nat.le_of_ble_eq_true rfl) rfl ?_
      refine V_iconst (v := 1) (pc := 36) dX10_safe_36 rfl ?_
      refine V_istore (i := 4) (ls' := [some (vr this), some (vi v1), some (vl 0), none, some (vi 1)]) (pc := 37) dX10_safe_37 (Nat.le_of_ble_eq_true rfl) rfl ?_
      exact loop_V (A := fun s : Int64 × Int32 × Mem => V g Y_PL_safe 39 [some (vr this), some (vi v1), some (vl s.1), none, some (vi s.2.1)] [] s.2.2 (PM g Y_PL_safe r m')) (fun s x h hp => k_PL_safe_l39 h_this h hp) (0, 1, m31) _ h hp
    · have h := ite_t q h
      refine V_bipush (v := (-2)) (pc := 20) dX10_safe_20 rfl ?_
      obtain rfl := Option.some.inj h
      exact E_i (pc := 22) dX10_safe_22 rfl hp
theorem e_PL_safe {g : GE} {this : Nat} {v1 : Int32} {m : Mem} (h_this : kd this = 11) {x : Int32 × Mem} (h : PL_safe this v1 m = some x) : Ev g Y_PL_safe [vr this, vi v1] m (some (vi x.1)) x.2 :=
  Ev_of 3 (by decide +kernel) rfl (Nat.le_of_ble_eq_true rfl) rfl (k_PL_safe h_this h ⟨rfl, rfl⟩)
theorem k_PL_slotAt {g : GE} {this : Nat} {v1 : Int32} {m : Mem} (h_this : kd this = 11) {r : Option AV} {m' : Mem} {x : Nat} (h : PL_slotAt this v1 m = some x) (hp : (fun x : Nat => r = some (vr x) ∧ m' = m) x) : V g Y_PL_slotAt 0 [some (vr this), some (vi v1)] [] m (PM g Y_PL_slotAt r m') := by
  unfold PL_slotAt at h
  refine V_iload_n (i := 1) (pc := 0) dX10_slotAt_0 rfl rfl ?_
  refine V_if_lt (pc := 1) (tgt := 18) dX10_slotAt_1 rfl (fun q => ?_) (fun q => ?_)
  · have h := ite_t q h
    refine V_null (pc := 18) dX10_slotAt_18 ?_
    obtain rfl := Option.some.inj h
    exact E_a (pc := 19) dX10_slotAt_19 rfl hp
  · have h := ite_f q h
    refine V_iload_n (i := 1) (pc := 4) dX10_slotAt_4 rfl rfl ?_
    refine V_iconst (v := 4) (pc := 5) dX10_slotAt_5 rfl ?_
    refine V_icmp_ge (pc := 6) (tgt := 18) dX10_slotAt_6 rfl (fun q => ?_) (fun q => ?_)
    · have h := ite_t q h
      refine V_null (pc := 18) dX10_slotAt_18 ?_
      obtain rfl := Option.some.inj h
      exact E_a (pc := 19) dX10_slotAt_19 rfl hp
    · have h := ite_f q h
      refine V_aload_n (i := 0) (pc := 9) dX10_slotAt_9 rfl rfl ?_
      refine V_getR (b := (this + 193)) (pc := 10) dX10_slotAt_10 fl_PL_33 h_this rfl rfl ?_
      refine V_iload_n (i := 1) (pc := 13) dX10_slotAt_13 rfl rfl ?_
      obtain ⟨hg14, h⟩ := gd_e h
      refine V_aald (b := ((this + 193) + (1 + 2 * ix v1))) (k := 7) (pc := 14) dX10_slotAt_14 (kf_10_4 h_this) (by decide) (af_10_4 h_this) hg14 rfl ?_
      refine V_goto (tgt := 19) (pc := 15) dX10_slotAt_15 rfl ?_
      obtain rfl := Option.some.inj h
      exact E_a (pc := 19) dX10_slotAt_19 rfl hp
theorem e_PL_slotAt {g : GE} {this : Nat} {v1 : Int32} {m : Mem} (h_this : kd this = 11) {x : Nat} (h : PL_slotAt this v1 m = some x) : Ev g Y_PL_slotAt [vr this, vi v1] m (some (vr x)) m :=
  Ev_of 0 (by decide +kernel) rfl (Nat.le_of_ble_eq_true rfl) rfl (k_PL_slotAt h_this h ⟨rfl, rfl⟩)
theorem k_Ro_hasNumbers {g : GE} {this : Nat} {v1 : Int32} {v2 : Int32} {m : Mem} (h_this : kd this = 7) {r : Option AV} {m' : Mem} {x : Int32} (h : Ro_hasNumbers this v1 v2 m = some x) (hp : (fun x : Int32 => r = some (vi x) ∧ m' = m) x) : V g Y_Ro_hasNumbers 0 [some (vr this), some (vi v1), some (vi v2)] [] m (PM g Y_Ro_hasNumbers r m') := by
  unfold Ro_hasNumbers at h
  refine V_iload_n (i := 1) (pc := 0) dX6_hasNumbers_0 rfl rfl ?_
  refine V_if_lt (pc := 1) (tgt := 30) dX6_hasNumbers_1 rfl (fun q => ?_) (fun q => ?_)
  · have h := ite_t q h
    refine V_iconst (v := 0) (pc := 30) dX6_hasNumbers_30 rfl ?_
    obtain rfl := Option.some.inj h
    exact E_z (pc := 31) dX6_hasNumbers_31 rfl rfl hp
  · have h := ite_f q h
    refine V_iload_n (i := 2) (pc := 4) dX6_hasNumbers_4 rfl rfl ?_
    refine V_if_lt (pc := 5) (tgt := 30) dX6_hasNumbers_5 rfl (fun q => ?_) (fun q => ?_)
    · have h := ite_t q h
      refine V_iconst (v := 0) (pc := 30) dX6_hasNumbers_30 rfl ?_
      obtain rfl := Option.some.inj h
      exact E_z (pc := 31) dX6_hasNumbers_31 rfl rfl hp
    · have h := ite_f q h
      refine V_iload_n (i := 1) (pc := 8) dX6_hasNumbers_8 rfl rfl ?_
      refine V_aload_n (i := 0) (pc := 9) dX6_hasNumbers_9 rfl rfl ?_
      refine V_getI (pc := 10) dX6_hasNumbers_10 fl_Ro_32 h_this rfl ?_
      refine V_icmp_gt (pc := 13) (tgt := 30) dX6_hasNumbers_13 rfl (fun q => ?_) (fun q => ?_)
      · have h := ite_t q h
        refine V_iconst (v := 0) (pc := 30) dX6_hasNumbers_30 rfl ?_
        obtain rfl := Option.some.inj h
        exact E_z (pc := 31) dX6_hasNumbers_31 rfl rfl hp
      · have h := ite_f q h
        refine V_iload_n (i := 2) (pc := 16) dX6_hasNumbers_16 rfl rfl ?_
        refine V_aload_n (i := 0) (pc := 17) dX6_hasNumbers_17 rfl rfl ?_
        refine V_getI (pc := 18) dX6_hasNumbers_18 fl_Ro_32 h_this rfl ?_
        refine V_iload_n (i := 1) (pc := 21) dX6_hasNumbers_21 rfl rfl ?_
        refine V_isub (pc := 22) dX6_hasNumbers_22 ?_
        refine V_icmp_gt (pc := 23) (tgt := 30) dX6_hasNumbers_23 rfl (fun q => ?_) (fun q => ?_)
        · have h := ite_t q h
          refine V_iconst (v := 0) (pc := 30) dX6_hasNumbers_30 rfl ?_
          obtain rfl := Option.some.inj h
          exact E_z (pc := 31) dX6_hasNumbers_31 rfl rfl hp
        · have h := ite_f q h
          refine V_iconst (v := 1) (pc := 26) dX6_hasNumbers_26 rfl ?_
          refine V_goto (tgt := 31) (pc := 27) dX6_hasNumbers_27 rfl ?_
          obtain rfl := Option.some.inj h
          exact E_z (pc := 31) dX6_hasNumbers_31 rfl rfl hp
theorem e_Ro_hasNumbers {g : GE} {this : Nat} {v1 : Int32} {v2 : Int32} {m : Mem} (h_this : kd this = 7) {x : Int32} (h : Ro_hasNumbers this v1 v2 m = some x) : Ev g Y_Ro_hasNumbers [vr this, vi v1, vi v2] m (some (vi x)) m :=
  Ev_of 0 (by decide +kernel) rfl (Nat.le_of_ble_eq_true rfl) rfl (k_Ro_hasNumbers h_this h ⟨rfl, rfl⟩)
theorem k_Ro_numberAt {g : GE} {this : Nat} {v1 : Int32} {m : Mem} (h_this : kd this = 7) {r : Option AV} {m' : Mem} {x : Int64} (h : Ro_numberAt this v1 m = some x) (hp : (fun x : Int64 => r = some (vl x) ∧ m' = m) x) : V g Y_Ro_numberAt 0 [some (vr this), some (vi v1)] [] m (PM g Y_Ro_numberAt r m') := by
  unfold Ro_numberAt at h
  refine V_aload_n (i := 0) (pc := 0) dX6_numberAt_0 rfl rfl ?_
  refine V_iload_n (i := 1) (pc := 1) dX6_numberAt_1 rfl rfl ?_
  refine V_iconst (v := 1) (pc := 2) dX6_numberAt_2 rfl ?_
  obtain ⟨r3, e3, h⟩ := bnd h
  refine V_invV1 (c := 6) (pc := 3) dX6_numberAt_3 (e_Ro_hasNumbers h_this e3) iv_Ro_35 (rm_Ro_numberAt_Ro_hasNumbers _ _ _) rfl h_this cf_6 rfl (Nat.le_of_ble_eq_true rfl) rfl ?_
  refine V_if_eq (pc := 6) (tgt := 18) dX6_numberAt_6 rfl (fun q => ?_) (fun q => ?_)
  · have h := ite_t q h
    refine V_lconst (v := 0) (pc := 18) dX6_numberAt_18 rfl ?_
    obtain rfl := Option.some.inj h
    exact E_l (pc := 19) dX6_numberAt_19 rfl hp
  · have h := ite_f q h
    refine V_aload_n (i := 0) (pc := 9) dX6_numberAt_9 rfl rfl ?_
    refine V_getR (b := (this + 1)) (pc := 10) dX6_numberAt_10 fl_Ro_9 h_this rfl rfl ?_
    refine V_iload_n (i := 1) (pc := 13) dX6_numberAt_13 rfl rfl ?_
    obtain ⟨hg14, h⟩ := gd_e h
    refine V_lald (pc := 14) dX6_numberAt_14 (kf_6_0 h_this) (af_6_0 h_this) hg14 ?_
    refine V_goto (tgt := 19) (pc := 15) dX6_numberAt_15 rfl ?_
    obtain rfl := Option.some.inj h
    exact E_l (pc := 19) dX6_numberAt_19 rfl hp
theorem e_Ro_numberAt {g : GE} {this : Nat} {v1 : Int32} {m : Mem} (h_this : kd this = 7) {x : Int64} (h : Ro_numberAt this v1 m = some x) : Ev g Y_Ro_numberAt [vr this, vi v1] m (some (vl x)) m :=
  Ev_of 0 (by decide +kernel) rfl (Nat.le_of_ble_eq_true rfl) rfl (k_Ro_numberAt h_this h ⟨rfl, rfl⟩)
theorem k_PL_judge_l49 {g : GE} {this : Nat} {v2 : Nat} {v3 : Int32} {m : Mem} (h_this : kd this = 11) (h_v2 : kd v2 = 7) {r : Option AV} {m' : Mem} {x : (Int32 × Mem) ⊕ (Int32 × Mem)} (h : PL_judge_l49 this v2 v3 m = some x) (hp : (Sum.elim (fun s : Int32 × Mem => V g Y_PL_judge 49 [some (vr this), none, some (vr v2), some (vi s.1), none, none] [] s.2 (PM g Y_PL_judge r m')) (fun x : Int32 × Mem => r = some (vi x.1) ∧ m' = x.2)) x) : V g Y_PL_judge 49 [some (vr this), none, some (vr v2), some (vi v3), none, none] [] m (PM g Y_PL_judge r m') := by
  unfold PL_judge_l49 at h
  refine V_iload_n (i := 3) (pc := 49) dX10_judge_49 rfl rfl ?_
  refine V_aload_n (i := 2) (pc := 50) dX10_judge_50 rfl rfl ?_
  refine V_getI (pc := 51) dX10_judge_51 fl_PL_259 h_v2 rfl ?_
  refine V_icmp_ge (pc := 54) (tgt := 106) dX10_judge_54 rfl (fun q => ?_) (fun q => ?_)
  · have h := ite_t q h
    obtain ⟨y1, hu1, rfl⟩ := up_e h
    have h := hu1
    refine V_aload_n (i := 2) (pc := 106) dX10_judge_106 rfl rfl ?_
    refine V_getI (pc := 107) dX10_judge_107 fl_PL_259 h_v2 rfl ?_
    obtain rfl := Option.some.inj h
    exact E_i (pc := 110) dX10_judge_110 rfl hp
  · have h := ite_f q h
    refine V_aload_n (i := 2) (pc := 57) dX10_judge_57 rfl rfl ?_
    refine V_iload_n (i := 3) (pc := 58) dX10_judge_58 rfl rfl ?_
    obtain ⟨r59, e59, h⟩ := bnd h
    refine V_invV1 (c := 6) (pc := 59) dX10_judge_59 (e_Ro_numberAt h_v2 e59) iv_PL_260 (rm_PL_judge_Ro_numberAt _ _ _) rfl h_v2 cf_6 rfl (Nat.le_of_ble_eq_true rfl) rfl ?_
    refine V_lstore (i := 4) (ls' := [some (vr this), none, some (vr v2), some (vi v3), some (vl r59), none]) (pc := 62) dX10_judge_62 (Nat.le_of_ble_eq_true rfl) rfl ?_
    refine V_lload (i := 4) (pc := 64) dX10_judge_64 rfl ?_
    refine V_lconst (v := 0) (pc := 66) dX10_judge_66 rfl ?_
    refine V_lif_lt (pc := 67) (tgt := 98) dX10_judge_67 dX10_judge_68 rfl (fun q => ?_) (fun q => ?_)
    · have h := ite_t q h
      obtain ⟨y2, hu2, rfl⟩ := up_e h
      have h := hu2
      refine V_iload_n (i := 3) (pc := 98) dX10_judge_98 rfl rfl ?_
      obtain rfl := Option.some.inj h
      exact E_i (pc := 99) dX10_judge_99 rfl hp
    · have h := ite_f q h
      refine V_lload (i := 4) (pc := 71) dX10_judge_71 rfl ?_
      refine V_aload_n (i := 0) (pc := 73) dX10_judge_73 rfl rfl ?_
      refine V_getR (b := (this + 202)) (pc := 74) dX10_judge_74 fl_PL_41 h_this rfl rfl ?_
      refine V_getI (pc := 77) dX10_judge_77 fl_PL_229 (kf_10_5 h_this) rfl ?_
      refine V_i2l (pc := 80) dX10_judge_80 ?_
      refine V_lif_ge (pc := 81) (tgt := 98) dX10_judge_81 dX10_judge_82 rfl (fun q => ?_) (fun q => ?_)
      · have h := ite_t q h
        obtain ⟨y3, hu3, rfl⟩ := up_e h
        have h := hu3
        refine V_iload_n (i := 3) (pc := 98) dX10_judge_98 rfl rfl ?_
        obtain rfl := Option.some.inj h
        exact E_i (pc := 99) dX10_judge_99 rfl hp
      · have h := ite_f q h
        refine V_aload_n (i := 0) (pc := 85) dX10_judge_85 rfl rfl ?_
        refine V_getR (b := (this + 202)) (pc := 86) dX10_judge_86 fl_PL_41 h_this rfl rfl ?_
        refine V_lload (i := 4) (pc := 89) dX10_judge_89 rfl ?_
        refine V_l2i (pc := 91) dX10_judge_91 ?_
        obtain ⟨r92, e92, h⟩ := bnd h
        refine V_invV1 (c := 4) (pc := 92) dX10_judge_92 (e_Ic_isEnough (kf_10_5 h_this) e92) iv_PL_232 (rm_PL_judge_Ic_isEnough _ _ _) rfl (kf_10_5 h_this) cf_4 rfl (Nat.le_of_ble_eq_true rfl) rfl ?_
        refine V_if_ne (pc := 95) (tgt := 100) dX10_judge_95 rfl (fun q => ?_) (fun q => ?_)
        · have h := ite_f q h
          refine V_iinc (i := 3) (v := (v3 + 1)) (ls' := [some (vr this), none, some (vr v2), some (vi (v3 + 1)), some (vl r59), none]) (pc := 100) dX10_judge_100 rfl rfl (Nat.le_of_ble_eq_true rfl) rfl ?_
          refine V_goto (tgt := 49) (pc := 103) dX10_judge_103 rfl ?_
          refine V_sub (ls' := [some (vr this), none, some (vr v2), some (vi (v3 + 1)), none, none]) (And.intro rfl (And.intro rfl (And.intro rfl trivial))) ?_
          obtain rfl := Option.some.inj h
          exact hp
        · have h := ite_t q h
          obtain ⟨y4, hu4, rfl⟩ := up_e h
          have h := hu4
          refine V_iload_n (i := 3) (pc := 98) dX10_judge_98 rfl rfl ?_
          obtain rfl := Option.some.inj h
          exact E_i (pc := 99) dX10_judge_99 rfl hp
theorem k_PL_judge {g : GE} {this : Nat} {v1 : Int32} {m : Mem} (h_this : kd this = 11) {r : Option AV} {m' : Mem} {x : Int32 × Mem} (h : PL_judge this v1 m = some x) (hp : (fun x : Int32 × Mem => r = some (vi x.1) ∧ m' = x.2) x) : V g Y_PL_judge 0 [some (vr this), some (vi v1), none, none, none, none] [] m (PM g Y_PL_judge r m') := by
  unfold PL_judge at h
  refine V_aload_n (i := 0) (pc := 0) dX10_judge_0 rfl rfl ?_
  refine V_iload_n (i := 1) (pc := 1) dX10_judge_1 rfl rfl ?_
  obtain ⟨r2, e2, h⟩ := bnd h
  refine V_invV1 (c := 10) (pc := 2) dX10_judge_2 (e_PL_slotAt h_this e2) iv_PL_251 (rm_PL_judge_PL_slotAt _ _ _) rfl h_this cf_10 rfl (Nat.le_of_ble_eq_true rfl) rfl ?_
  refine V_astore_n (i := 2) (ls' := [some (vr this), some (vi v1), some (vr r2), none, none, none]) (pc := 5) dX10_judge_5 rfl (Nat.le_of_ble_eq_true rfl) rfl ?_
  refine V_aload_n (i := 2) (pc := 6) dX10_judge_6 rfl rfl ?_
  refine V_ifnull (pc := 7) (tgt := 23) dX10_judge_7 rfl (fun q => ?_) (fun q => ?_)
  · have h := ite_t q h
    refine V_bipush (v := (-2)) (pc := 23) dX10_judge_23 rfl ?_
    obtain rfl := Option.some.inj h
    exact E_i (pc := 25) dX10_judge_25 rfl hp
  · have h := ite_f q h
    obtain ⟨hk7, h⟩ := gd_e h
    refine V_aload_n (i := 0) (pc := 10) dX10_judge_10 rfl rfl ?_
    refine V_getR (b := (this + 27)) (pc := 11) dX10_judge_11 fl_PL_19 h_this rfl rfl ?_
    refine V_getR (b := (this + 28)) (pc := 14) dX10_judge_14 fl_PL_102 (kf_10_1 h_this) rfl rfl ?_
    obtain ⟨r17, e17, h⟩ := bnd h
    refine V_invV1 (c := 2) (pc := 17) dX10_judge_17 (e_Fl_isThere (kf_0_0 (kf_10_1 h_this)) e17) iv_PL_222 (rm_PL_judge_Fl_isThere _ _ _) rfl (kf_0_0 (kf_10_1 h_this)) cf_2 rfl (Nat.le_of_ble_eq_true rfl) rfl ?_
    refine V_if_ne (pc := 20) (tgt := 26) dX10_judge_20 rfl (fun q => ?_) (fun q => ?_)
    · have h := ite_f q h
      refine V_aload_n (i := 2) (pc := 26) dX10_judge_26 rfl rfl ?_
      refine V_getI (pc := 27) dX10_judge_27 fl_PL_255 hk7 rfl ?_
      refine V_if_ne (pc := 30) (tgt := 36) dX10_judge_30 rfl (fun q => ?_) (fun q => ?_)
      · have h := ite_f q h
        refine V_aload_n (i := 0) (pc := 36) dX10_judge_36 rfl rfl ?_
        refine V_getR (b := (this + 202)) (pc := 37) dX10_judge_37 fl_PL_41 h_this rfl rfl ?_
        refine V_aload_n (i := 0) (pc := 40) dX10_judge_40 rfl rfl ?_
        refine V_getR (b := (this + 27)) (pc := 41) dX10_judge_41 fl_PL_19 h_this rfl rfl ?_
        obtain ⟨m44, e44, h⟩ := bnd h
        refine V_invV0 (c := 4) (pc := 44) dX10_judge_44 (e_Ic_look (kf_10_5 h_this) (kf_10_1 h_this) e44) iv_PL_211 (rm_PL_judge_Ic_look _ _ _) rfl (kf_10_5 h_this) cf_4 rfl (Nat.le_of_ble_eq_true rfl) rfl ?_
        refine V_iconst (v := 0) (pc := 47) dX10_judge_47 rfl ?_
        refine V_istore_n (i := 3) (ls' := [some (vr this), some (vi v1), some (vr r2), some (vi 0), none, none]) (pc := 48) dX10_judge_48 rfl (Nat.le_of_ble_eq_true rfl) rfl ?_
        refine V_sub (ls' := [some (vr this), none, some (vr r2), some (vi 0), none, none]) (And.intro rfl (And.intro rfl (And.intro rfl trivial))) ?_
        exact loop_V (A := fun s : Int32 × Mem => V g Y_PL_judge 49 [some (vr this), none, some (vr r2), some (vi s.1), none, none] [] s.2 (PM g Y_PL_judge r m')) (fun s x h hp => k_PL_judge_l49 h_this hk7 h hp) (0, m44) _ h hp
      · have h := ite_t q h
        refine V_bipush (v := (-6)) (pc := 33) dX10_judge_33 rfl ?_
        obtain rfl := Option.some.inj h
        exact E_i (pc := 35) dX10_judge_35 rfl hp
    · have h := ite_t q h
      refine V_bipush (v := (-2)) (pc := 23) dX10_judge_23 rfl ?_
      obtain rfl := Option.some.inj h
      exact E_i (pc := 25) dX10_judge_25 rfl hp
theorem e_PL_judge {g : GE} {this : Nat} {v1 : Int32} {m : Mem} (h_this : kd this = 11) {x : Int32 × Mem} (h : PL_judge this v1 m = some x) : Ev g Y_PL_judge [vr this, vi v1] m (some (vi x.1)) x.2 :=
  Ev_of 4 (by decide +kernel) rfl (Nat.le_of_ble_eq_true rfl) rfl (k_PL_judge h_this h ⟨rfl, rfl⟩)
theorem k_Ca_heapsThere_b21 {g : GE} {this : Nat} {v1 : Int32} {v2 : Int32}  {m : Mem} (h_this : kd this = 1) {r : Option AV} {m' : Mem} {x : (Int32 × Int32) ⊕ (Int32)} (h : Ca_heapsThere_b21 this v1 v2 m = some x) (hp : (Sum.elim (fun s : Int32 × Int32 => V g Y_Ca_heapsThere 4 [some (vr this), some (vi s.1), some (vi s.2)] [] m (PM g Y_Ca_heapsThere r m')) (fun x : Int32 => r = some (vi x) ∧ m' = m)) x) : V g Y_Ca_heapsThere 21 [some (vr this), some (vi v1), some (vi v2)] [] m (PM g Y_Ca_heapsThere r m') := by
  unfold Ca_heapsThere_b21 at h
  refine V_iinc (i := 2) (v := (v2 + 1)) (ls' := [some (vr this), some (vi v1), some (vi (v2 + 1))]) (pc := 21) dX0_heapsThere_21 rfl rfl (Nat.le_of_ble_eq_true rfl) rfl ?_
  refine V_goto (tgt := 4) (pc := 24) dX0_heapsThere_24 rfl ?_
  obtain rfl := Option.some.inj h
  exact hp
theorem k_Ca_heapsThere_l4 {g : GE} {this : Nat}  {v1 : Int32} {v2 : Int32} {m : Mem} (h_this : kd this = 1) {r : Option AV} {m' : Mem} {x : (Int32 × Int32) ⊕ (Int32)} (h : Ca_heapsThere_l4 this v1 v2 m = some x) (hp : (Sum.elim (fun s : Int32 × Int32 => V g Y_Ca_heapsThere 4 [some (vr this), some (vi s.1), some (vi s.2)] [] m (PM g Y_Ca_heapsThere r m')) (fun x : Int32 => r = some (vi x) ∧ m' = m)) x) : V g Y_Ca_heapsThere 4 [some (vr this), some (vi v1), some (vi v2)] [] m (PM g Y_Ca_heapsThere r m') := by
  unfold Ca_heapsThere_l4 at h
  refine V_iload_n (i := 2) (pc := 4) dX0_heapsThere_4 rfl rfl ?_
  refine V_bipush (v := 8) (pc := 5) dX0_heapsThere_5 rfl ?_
  refine V_icmp_ge (pc := 7) (tgt := 27) dX0_heapsThere_7 rfl (fun q => ?_) (fun q => ?_)
  · have h := ite_t q h
    obtain ⟨y1, hu1, rfl⟩ := up_e h
    have h := hu1
    refine V_iload_n (i := 1) (pc := 27) dX0_heapsThere_27 rfl rfl ?_
    obtain rfl := Option.some.inj h
    exact E_i (pc := 28) dX0_heapsThere_28 rfl hp
  · have h := ite_f q h
    refine V_aload_n (i := 0) (pc := 10) dX0_heapsThere_10 rfl rfl ?_
    refine V_iload_n (i := 2) (pc := 11) dX0_heapsThere_11 rfl rfl ?_
    obtain ⟨r12, e12, h⟩ := bnd h
    refine V_invV1 (c := 0) (pc := 12) dX0_heapsThere_12 (e_Ca_hasHeap h_this e12) iv_Ca_77 (rm_Ca_heapsThere_Ca_hasHeap _ _ _) rfl h_this cf_0 rfl (Nat.le_of_ble_eq_true rfl) rfl ?_
    refine V_if_eq (pc := 15) (tgt := 21) dX0_heapsThere_15 rfl (fun q => ?_) (fun q => ?_)
    · have h := ite_t q h
      exact k_Ca_heapsThere_b21 h_this h hp
    · have h := ite_f q h
      refine V_iinc (i := 1) (v := (v1 + 1)) (ls' := [some (vr this), some (vi (v1 + 1)), some (vi v2)]) (pc := 18) dX0_heapsThere_18 rfl rfl (Nat.le_of_ble_eq_true rfl) rfl ?_
      exact k_Ca_heapsThere_b21 h_this h hp
theorem k_Ca_heapsThere {g : GE} {this : Nat} {m : Mem} (h_this : kd this = 1) {r : Option AV} {m' : Mem} {x : Int32} (h : Ca_heapsThere this m = some x) (hp : (fun x : Int32 => r = some (vi x) ∧ m' = m) x) : V g Y_Ca_heapsThere 0 [some (vr this), none, none] [] m (PM g Y_Ca_heapsThere r m') := by
  unfold Ca_heapsThere at h
  refine V_iconst (v := 0) (pc := 0) dX0_heapsThere_0 rfl ?_
  refine V_istore_n (i := 1) (ls' := [some (vr this), some (vi 0), none]) (pc := 1) dX0_heapsThere_1 rfl (Nat.le_of_ble_eq_true rfl) rfl ?_
  refine V_iconst (v := 0) (pc := 2) dX0_heapsThere_2 rfl ?_
  refine V_istore_n (i := 2) (ls' := [some (vr this), some (vi 0), some (vi 0)]) (pc := 3) dX0_heapsThere_3 rfl (Nat.le_of_ble_eq_true rfl) rfl ?_
  exact loop_V (A := fun s : Int32 × Int32 => V g Y_Ca_heapsThere 4 [some (vr this), some (vi s.1), some (vi s.2)] [] m (PM g Y_Ca_heapsThere r m')) (fun s x h hp => k_Ca_heapsThere_l4 h_this h hp) (0, 0) _ h hp
theorem e_Ca_heapsThere {g : GE} {this : Nat} {m : Mem} (h_this : kd this = 1) {x : Int32} (h : Ca_heapsThere this m = some x) : Ev g Y_Ca_heapsThere [vr this] m (some (vi x)) m :=
  Ev_of 2 (by decide +kernel) rfl (Nat.le_of_ble_eq_true rfl) rfl (k_Ca_heapsThere h_this h ⟨rfl, rfl⟩)
theorem k_PL_cannotLay {g : GE} {this : Nat} {v1 : Int32} {m : Mem} (h_this : kd this = 11) {r : Option AV} {m' : Mem} {x : Int32} (h : PL_cannotLay this v1 m = some x) (hp : (fun x : Int32 => r = some (vi x) ∧ m' = m) x) : V g Y_PL_cannotLay 0 [some (vr this), some (vi v1)] [] m (PM g Y_PL_cannotLay r m') := by
  unfold PL_cannotLay at h
  refine V_aload_n (i := 0) (pc := 0) dX10_cannotLay_0 rfl rfl ?_
  refine V_getR (b := (this + 27)) (pc := 1) dX10_cannotLay_1 fl_PL_19 h_this rfl rfl ?_
  refine V_getR (b := (this + 28)) (pc := 4) dX10_cannotLay_4 fl_PL_102 (kf_10_1 h_this) rfl rfl ?_
  obtain ⟨r7, e7, h⟩ := bnd h
  refine V_invV1 (c := 2) (pc := 7) dX10_cannotLay_7 (e_Fl_isThere (kf_0_0 (kf_10_1 h_this)) e7) iv_PL_222 (rm_PL_cannotLay_Fl_isThere _ _ _) rfl (kf_0_0 (kf_10_1 h_this)) cf_2 rfl (Nat.le_of_ble_eq_true rfl) rfl ?_
  refine V_if_eq (pc := 10) (tgt := 22) dX10_cannotLay_10 rfl (fun q => ?_) (fun q => ?_)
  · have h := ite_t q h
    refine V_bipush (v := (-2)) (pc := 22) dX10_cannotLay_22 rfl ?_
    obtain rfl := Option.some.inj h
    exact E_i (pc := 24) dX10_cannotLay_24 rfl hp
  · have h := ite_f q h
    refine V_iload_n (i := 1) (pc := 13) dX10_cannotLay_13 rfl rfl ?_
    refine V_if_lt (pc := 14) (tgt := 22) dX10_cannotLay_14 rfl (fun q => ?_) (fun q => ?_)
    · have h := ite_t q h
      refine V_bipush (v := (-2)) (pc := 22) dX10_cannotLay_22 rfl ?_
      obtain rfl := Option.some.inj h
      exact E_i (pc := 24) dX10_cannotLay_24 rfl hp
    · have h := ite_f q h
      refine V_iload_n (i := 1) (pc := 17) dX10_cannotLay_17 rfl rfl ?_
      refine V_iconst (v := 4) (pc := 18) dX10_cannotLay_18 rfl ?_
      refine V_icmp_lt (pc := 19) (tgt := 25) dX10_cannotLay_19 rfl (fun q => ?_) (fun q => ?_)
      · have h := ite_t q h
        refine V_aload_n (i := 0) (pc := 25) dX10_cannotLay_25 rfl rfl ?_
        refine V_getR (b := (this + 27)) (pc := 26) dX10_cannotLay_26 fl_PL_19 h_this rfl rfl ?_
        obtain ⟨r29, e29, h⟩ := bnd h
        refine V_invV1 (c := 0) (pc := 29) dX10_cannotLay_29 (e_Ca_heapsThere (kf_10_1 h_this) e29) iv_PL_409 (rm_PL_cannotLay_Ca_heapsThere _ _ _) rfl (kf_10_1 h_this) cf_0 rfl (Nat.le_of_ble_eq_true rfl) rfl ?_
        refine V_if_ne (pc := 32) (tgt := 40) dX10_cannotLay_32 rfl (fun q => ?_) (fun q => ?_)
        · have h := ite_f q h
          refine V_iconst (v := 0) (pc := 40) dX10_cannotLay_40 rfl ?_
          obtain rfl := Option.some.inj h
          exact E_i (pc := 41) dX10_cannotLay_41 rfl hp
        · have h := ite_t q h
          refine V_bipush (v := (-5)) (pc := 35) dX10_cannotLay_35 rfl ?_
          refine V_goto (tgt := 41) (pc := 37) dX10_cannotLay_37 rfl ?_
          obtain rfl := Option.some.inj h
          exact E_i (pc := 41) dX10_cannotLay_41 rfl hp
      · have h := ite_f q h
        refine V_bipush (v := (-2)) (pc := 22) dX10_cannotLay_22 rfl ?_
        obtain rfl := Option.some.inj h
        exact E_i (pc := 24) dX10_cannotLay_24 rfl hp
theorem e_PL_cannotLay {g : GE} {this : Nat} {v1 : Int32} {m : Mem} (h_this : kd this = 11) {x : Int32} (h : PL_cannotLay this v1 m = some x) : Ev g Y_PL_cannotLay [vr this, vi v1] m (some (vi x)) m :=
  Ev_of 0 (by decide +kernel) rfl (Nat.le_of_ble_eq_true rfl) rfl (k_PL_cannotLay h_this h ⟨rfl, rfl⟩)
theorem k_Ca_ringOfHeaps_b33 {g : GE} {this : Nat} {v1 : Int32} {v2 : Int32} {v3 : Int32}  {m : Mem} (h_this : kd this = 1) {r : Option AV} {m' : Mem} {x : (Int32 × Int32 × Mem) ⊕ (Int32 × Mem)} (h : Ca_ringOfHeaps_b33 this v1 v2 v3 m = some x) (hp : (Sum.elim (fun s : Int32 × Int32 × Mem => V g Y_Ca_ringOfHeaps 4 [some (vr this), some (vi v1), some (vi s.1), some (vi s.2.1)] [] s.2.2 (PM g Y_Ca_ringOfHeaps r m')) (fun x : Int32 × Mem => r = some (vi x.1) ∧ m' = x.2)) x) : V g Y_Ca_ringOfHeaps 33 [some (vr this), some (vi v1), some (vi v2), some (vi v3)] [] m (PM g Y_Ca_ringOfHeaps r m') := by
  unfold Ca_ringOfHeaps_b33 at h
  refine V_iinc (i := 3) (v := (v3 + 1)) (ls' := [some (vr this), some (vi v1), some (vi v2), some (vi (v3 + 1))]) (pc := 33) dX0_ringOfHeaps_33 rfl rfl (Nat.le_of_ble_eq_true rfl) rfl ?_
  refine V_goto (tgt := 4) (pc := 36) dX0_ringOfHeaps_36 rfl ?_
  obtain rfl := Option.some.inj h
  exact hp
theorem k_Ca_ringOfHeaps_l4 {g : GE} {this : Nat} {v1 : Int32} {v2 : Int32} {v3 : Int32} {m : Mem} (h_this : kd this = 1) {r : Option AV} {m' : Mem} {x : (Int32 × Int32 × Mem) ⊕ (Int32 × Mem)} (h : Ca_ringOfHeaps_l4 this v1 v2 v3 m = some x) (hp : (Sum.elim (fun s : Int32 × Int32 × Mem => V g Y_Ca_ringOfHeaps 4 [some (vr this), some (vi v1), some (vi s.1), some (vi s.2.1)] [] s.2.2 (PM g Y_Ca_ringOfHeaps r m')) (fun x : Int32 × Mem => r = some (vi x.1) ∧ m' = x.2)) x) : V g Y_Ca_ringOfHeaps 4 [some (vr this), some (vi v1), some (vi v2), some (vi v3)] [] m (PM g Y_Ca_ringOfHeaps r m') := by
  unfold Ca_ringOfHeaps_l4 at h
  refine V_iload_n (i := 3) (pc := 4) dX0_ringOfHeaps_4 rfl rfl ?_
  refine V_bipush (v := 8) (pc := 5) dX0_ringOfHeaps_5 rfl ?_
  refine V_icmp_ge (pc := 7) (tgt := 39) dX0_ringOfHeaps_7 rfl (fun q => ?_) (fun q => ?_)
  · have h := ite_t q h
    obtain ⟨y1, hu1, rfl⟩ := up_e h
    have h := hu1
    refine V_iload_n (i := 2) (pc := 39) dX0_ringOfHeaps_39 rfl rfl ?_
    obtain rfl := Option.some.inj h
    exact E_i (pc := 40) dX0_ringOfHeaps_40 rfl hp
  · have h := ite_f q h
    refine V_iload_n (i := 2) (pc := 10) dX0_ringOfHeaps_10 rfl rfl ?_
    refine V_iload_n (i := 1) (pc := 11) dX0_ringOfHeaps_11 rfl rfl ?_
    refine V_icmp_ge (pc := 12) (tgt := 39) dX0_ringOfHeaps_12 rfl (fun q => ?_) (fun q => ?_)
    · have h := ite_t q h
      obtain ⟨y2, hu2, rfl⟩ := up_e h
      have h := hu2
      refine V_iload_n (i := 2) (pc := 39) dX0_ringOfHeaps_39 rfl rfl ?_
      obtain rfl := Option.some.inj h
      exact E_i (pc := 40) dX0_ringOfHeaps_40 rfl hp
    · have h := ite_f q h
      refine V_aload_n (i := 0) (pc := 15) dX0_ringOfHeaps_15 rfl rfl ?_
      refine V_iload_n (i := 3) (pc := 16) dX0_ringOfHeaps_16 rfl rfl ?_
      obtain ⟨r17, e17, h⟩ := bnd h
      refine V_invV1 (c := 0) (pc := 17) dX0_ringOfHeaps_17 (e_Ca_hasHeap h_this e17) iv_Ca_77 (rm_Ca_ringOfHeaps_Ca_hasHeap _ _ _) rfl h_this cf_0 rfl (Nat.le_of_ble_eq_true rfl) rfl ?_
      refine V_if_eq (pc := 20) (tgt := 33) dX0_ringOfHeaps_20 rfl (fun q => ?_) (fun q => ?_)
      · have h := ite_t q h
        exact k_Ca_ringOfHeaps_b33 h_this h hp
      · have h := ite_f q h
        refine V_aload_n (i := 0) (pc := 23) dX0_ringOfHeaps_23 rfl rfl ?_
        refine V_getR (b := (this + 40)) (pc := 24) dX0_ringOfHeaps_24 fl_Ca_42 h_this rfl rfl ?_
        refine V_iload_n (i := 2) (pc := 27) dX0_ringOfHeaps_27 rfl rfl ?_
        refine V_iload_n (i := 3) (pc := 28) dX0_ringOfHeaps_28 rfl rfl ?_
        obtain ⟨hg29, h⟩ := gd_e h
        refine V_iast_lt (pc := 29) dX0_ringOfHeaps_29 (kf_0_10 h_this) (af_0_10 h_this) hg29 h (fun m29 h => ?_)
        refine V_iinc (i := 2) (v := (v2 + 1)) (ls' := [some (vr this), some (vi v1), some (vi (v2 + 1)), some (vi v3)]) (pc := 30) dX0_ringOfHeaps_30 rfl rfl (Nat.le_of_ble_eq_true rfl) rfl ?_
        exact k_Ca_ringOfHeaps_b33 h_this h hp
theorem k_Ca_ringOfHeaps {g : GE} {this : Nat} {v1 : Int32} {m : Mem} (h_this : kd this = 1) {r : Option AV} {m' : Mem} {x : Int32 × Mem} (h : Ca_ringOfHeaps this v1 m = some x) (hp : (fun x : Int32 × Mem => r = some (vi x.1) ∧ m' = x.2) x) : V g Y_Ca_ringOfHeaps 0 [some (vr this), some (vi v1), none, none] [] m (PM g Y_Ca_ringOfHeaps r m') := by
  unfold Ca_ringOfHeaps at h
  refine V_iconst (v := 0) (pc := 0) dX0_ringOfHeaps_0 rfl ?_
  refine V_istore_n (i := 2) (ls' := [some (vr this), some (vi v1), some (vi 0), none]) (pc := 1) dX0_ringOfHeaps_1 rfl (Nat.le_of_ble_eq_true rfl) rfl ?_
  refine V_iconst (v := 0) (pc := 2) dX0_ringOfHeaps_2 rfl ?_
  refine V_istore_n (i := 3) (ls' := [some (vr this), some (vi v1), some (vi 0), some (vi 0)]) (pc := 3) dX0_ringOfHeaps_3 rfl (Nat.le_of_ble_eq_true rfl) rfl ?_
  exact loop_V (A := fun s : Int32 × Int32 × Mem => V g Y_Ca_ringOfHeaps 4 [some (vr this), some (vi v1), some (vi s.1), some (vi s.2.1)] [] s.2.2 (PM g Y_Ca_ringOfHeaps r m')) (fun s x h hp => k_Ca_ringOfHeaps_l4 h_this h hp) (0, 0, m) _ h hp
theorem e_Ca_ringOfHeaps {g : GE} {this : Nat} {v1 : Int32} {m : Mem} (h_this : kd this = 1) {x : Int32 × Mem} (h : Ca_ringOfHeaps this v1 m = some x) : Ev g Y_Ca_ringOfHeaps [vr this, vi v1] m (some (vi x.1)) x.2 :=
  Ev_of 2 (by decide +kernel) rfl (Nat.le_of_ble_eq_true rfl) rfl (k_Ca_ringOfHeaps h_this h ⟨rfl, rfl⟩)
theorem k_Ca_takeUpAll_l10 {g : GE} {this : Nat} {v1 : Int32} {v2 : Int32} {m : Mem} (h_this : kd this = 1) {r : Option AV} {m' : Mem} {x : (Int32 × Mem) ⊕ ((Int32 × Mem) ⊕ (Mem))} (h : Ca_takeUpAll_l10 this v1 v2 m = some x) (hp : (Sum.elim (fun s : Int32 × Mem => V g Y_Ca_takeUpAll 10 [some (vr this), some (vi v1), some (vi s.1)] [] s.2 (PM g Y_Ca_takeUpAll r m')) (Sum.elim (fun s : Int32 × Mem => V g Y_Ca_takeUpAll 2 [some (vr this), some (vi s.1), none] [] s.2 (PM g Y_Ca_takeUpAll r m')) (fun x : Mem => r = none ∧ m' = x))) x) : V g Y_Ca_takeUpAll 10 [some (vr this), some (vi v1), some (vi v2)] [] m (PM g Y_Ca_takeUpAll r m') := by
  unfold Ca_takeUpAll_l10 at h
  refine V_iload_n (i := 2) (pc := 10) dX0_takeUpAll_10 rfl rfl ?_
  refine V_bipush (v := 6) (pc := 11) dX0_takeUpAll_11 rfl ?_
  refine V_icmp_ge (pc := 13) (tgt := 31) dX0_takeUpAll_13 rfl (fun q => ?_) (fun q => ?_)
  · have h := ite_t q h
    obtain ⟨y2, hu2, rfl⟩ := up_e h
    have h := hu2
    refine V_iinc (i := 1) (v := (v1 + 1)) (ls' := [some (vr this), some (vi (v1 + 1)), some (vi v2)]) (pc := 31) dX0_takeUpAll_31 rfl rfl (Nat.le_of_ble_eq_true rfl) rfl ?_
    refine V_goto (tgt := 2) (pc := 34) dX0_takeUpAll_34 rfl ?_
    refine V_sub (ls' := [some (vr this), some (vi (v1 + 1)), none]) (And.intro rfl (And.intro rfl trivial)) ?_
    obtain rfl := Option.some.inj h
    exact hp
  · have h := ite_f q h
    refine V_aload_n (i := 0) (pc := 16) dX0_takeUpAll_16 rfl rfl ?_
    refine V_getR (b := (this + 27)) (pc := 17) dX0_takeUpAll_17 fl_Ca_27 h_this rfl rfl ?_
    refine V_iload_n (i := 1) (pc := 20) dX0_takeUpAll_20 rfl rfl ?_
    obtain ⟨hg21, h⟩ := gd_e h
    refine V_aald (b := ((this + 27) + (1 + ix v1))) (k := 4) (pc := 21) dX0_takeUpAll_21 (kf_0_3 h_this) (by decide) (af_0_3 h_this) hg21 rfl ?_
    refine V_iload_n (i := 2) (pc := 22) dX0_takeUpAll_22 rfl rfl ?_
    refine V_iconst (v := 0) (pc := 23) dX0_takeUpAll_23 rfl ?_
    obtain ⟨hg24, h⟩ := gd_e h
    refine V_iast_lt (pc := 24) dX0_takeUpAll_24 (ka24 (kf_0_3 h_this) (af_0_3 h_this) hg21) ((la24 (kf_0_3 h_this) (af_0_3 h_this) hg21).trans (ag_0_3 h_this)) hg24 h (fun m24 h => ?_)
    refine V_iinc (i := 2) (v := (v2 + 1)) (ls' := [some (vr this), some (vi v1), some (vi (v2 + 1))]) (pc := 25) dX0_takeUpAll_25 rfl rfl (Nat.le_of_ble_eq_true rfl) rfl ?_
    refine V_goto (tgt := 10) (pc := 28) dX0_takeUpAll_28 rfl ?_
    obtain rfl := Option.some.inj h
    exact hp
theorem k_Ca_takeUpAll_l2 {g : GE} {this : Nat}  {v1 : Int32} {m : Mem} (h_this : kd this = 1) {r : Option AV} {m' : Mem} {x : (Int32 × Mem) ⊕ (Mem)} (h : Ca_takeUpAll_l2 this v1 m = some x) (hp : (Sum.elim (fun s : Int32 × Mem => V g Y_Ca_takeUpAll 2 [some (vr this), some (vi s.1), none] [] s.2 (PM g Y_Ca_takeUpAll r m')) (fun x : Mem => r = none ∧ m' = x)) x) : V g Y_Ca_takeUpAll 2 [some (vr this), some (vi v1), none] [] m (PM g Y_Ca_takeUpAll r m') := by
  unfold Ca_takeUpAll_l2 at h
  refine V_iload_n (i := 1) (pc := 2) dX0_takeUpAll_2 rfl rfl ?_
  refine V_bipush (v := 8) (pc := 3) dX0_takeUpAll_3 rfl ?_
  refine V_icmp_ge (pc := 5) (tgt := 37) dX0_takeUpAll_5 rfl (fun q => ?_) (fun q => ?_)
  · have h := ite_t q h
    obtain ⟨y1, hu1, rfl⟩ := up_e h
    have h := hu1
    obtain rfl := Option.some.inj h
    exact E_v (pc := 37) dX0_takeUpAll_37 rfl hp
  · have h := ite_f q h
    refine V_iconst (v := 0) (pc := 8) dX0_takeUpAll_8 rfl ?_
    refine V_istore_n (i := 2) (ls' := [some (vr this), some (vi v1), some (vi 0)]) (pc := 9) dX0_takeUpAll_9 rfl (Nat.le_of_ble_eq_true rfl) rfl ?_
    exact loop_V (A := fun s : Int32 × Mem => V g Y_Ca_takeUpAll 10 [some (vr this), some (vi v1), some (vi s.1)] [] s.2 (PM g Y_Ca_takeUpAll r m')) (fun s x h hp => k_Ca_takeUpAll_l10 h_this h hp) (0, m) _ h hp
theorem k_Ca_takeUpAll {g : GE} {this : Nat} {m : Mem} (h_this : kd this = 1) {r : Option AV} {m' : Mem} {x : Mem} (h : Ca_takeUpAll this m = some x) (hp : (fun x : Mem => r = none ∧ m' = x) x) : V g Y_Ca_takeUpAll 0 [some (vr this), none, none] [] m (PM g Y_Ca_takeUpAll r m') := by
  unfold Ca_takeUpAll at h
  refine V_iconst (v := 0) (pc := 0) dX0_takeUpAll_0 rfl ?_
  refine V_istore_n (i := 1) (ls' := [some (vr this), some (vi 0), none]) (pc := 1) dX0_takeUpAll_1 rfl (Nat.le_of_ble_eq_true rfl) rfl ?_
  exact loop_V (A := fun s : Int32 × Mem => V g Y_Ca_takeUpAll 2 [some (vr this), some (vi s.1), none] [] s.2 (PM g Y_Ca_takeUpAll r m')) (fun s x h hp => k_Ca_takeUpAll_l2 h_this h hp) (0, m) _ h hp
theorem e_Ca_takeUpAll {g : GE} {this : Nat} {m : Mem} (h_this : kd this = 1) {x : Mem} (h : Ca_takeUpAll this m = some x) : Ev g Y_Ca_takeUpAll [vr this] m (none) x :=
  Ev_of 2 (by decide +kernel) rfl (Nat.le_of_ble_eq_true rfl) rfl (k_Ca_takeUpAll h_this h ⟨rfl, rfl⟩)
theorem k_Ca_laySort_b92 {g : GE} {this : Nat} {v1 : Int32} {v2 : Int32} {v4 : Int32} {v5 : Int32}  {m : Mem} (h_this : kd this = 1) {r : Option AV} {m' : Mem} {x : (Int32 × Int32 × Mem) ⊕ (Int32 × Mem)} (h : Ca_laySort_b92 this v1 v2 v4 v5 m = some x) (hp : (Sum.elim (fun s : Int32 × Int32 × Mem => V g Y_Ca_laySort 6 [some (vr this), some (vi v1), some (vi v2), none, some (vi s.1), some (vi s.2.1)] [] s.2.2 (PM g Y_Ca_laySort r m')) (fun x : Int32 × Mem => r = some (vi x.1) ∧ m' = x.2)) x) : V g Y_Ca_laySort 92 [some (vr this), some (vi v1), some (vi v2), none, some (vi v4), some (vi v5)] [] m (PM g Y_Ca_laySort r m') := by
  unfold Ca_laySort_b92 at h
  refine V_iinc (i := 4) (v := (v4 + 1)) (ls' := [some (vr this), some (vi v1), some (vi v2), none, some (vi (v4 + 1)), some (vi v5)]) (pc := 92) dX0_laySort_92 rfl rfl (Nat.le_of_ble_eq_true rfl) rfl ?_
  refine V_iinc (i := 5) (v := (v5 + 1)) (ls' := [some (vr this), some (vi v1), some (vi v2), none, some (vi (v4 + 1)), some (vi (v5 + 1))]) (pc := 95) dX0_laySort_95 rfl rfl (Nat.le_of_ble_eq_true rfl) rfl ?_
  refine V_goto (tgt := 6) (pc := 98) dX0_laySort_98 rfl ?_
  obtain rfl := Option.some.inj h
  exact hp
theorem k_Ca_laySort_b51 {g : GE} {this : Nat} {v1 : Int32} {v2 : Int32} {v4 : Int32} {v5 : Int32}  {m : Mem} (h_this : kd this = 1) {r : Option AV} {m' : Mem} {x : (Int32 × Int32 × Mem) ⊕ (Int32 × Mem)} (h : Ca_laySort_b51 this v1 v2 v4 v5 m = some x) (hp : (Sum.elim (fun s : Int32 × Int32 × Mem => V g Y_Ca_laySort 6 [some (vr this), some (vi v1), some (vi v2), none, some (vi s.1), some (vi s.2.1)] [] s.2.2 (PM g Y_Ca_laySort r m')) (fun x : Int32 × Mem => r = some (vi x.1) ∧ m' = x.2)) x) : V g Y_Ca_laySort 51 [some (vr this), some (vi v1), some (vi v2), none, some (vi v4), some (vi v5)] [] m (PM g Y_Ca_laySort r m') := by
  unfold Ca_laySort_b51 at h
  refine V_aload_n (i := 0) (pc := 51) dX0_laySort_51 rfl rfl ?_
  refine V_getR (b := (this + 40)) (pc := 52) dX0_laySort_52 fl_Ca_42 h_this rfl rfl ?_
  refine V_iload (i := 4) (pc := 55) dX0_laySort_55 rfl ?_
  obtain ⟨hg57, h⟩ := gd_e h
  refine V_iald (pc := 57) dX0_laySort_57 (kf_0_10 h_this) (af_0_10 h_this) hg57 ?_
  obtain ⟨r58, e58, h⟩ := bnd h
  refine V_invSN1 (pc := 58) dX0_laySort_58 (e_PL_isHeap  e58) isn_Ca_70 (rm_Ca_laySort_PL_isHeap _ _ _) rfl (Nat.le_of_ble_eq_true rfl) rfl ?_
  refine V_if_eq (pc := 61) (tgt := 92) dX0_laySort_61 rfl (fun q => ?_) (fun q => ?_)
  · have h := ite_t q h
    exact k_Ca_laySort_b92 h_this h hp
  · have h := ite_f q h
    refine V_iload_n (i := 1) (pc := 64) dX0_laySort_64 rfl rfl ?_
    refine V_if_lt (pc := 65) (tgt := 92) dX0_laySort_65 rfl (fun q => ?_) (fun q => ?_)
    · have h := ite_t q h
      exact k_Ca_laySort_b92 h_this h hp
    · have h := ite_f q h
      refine V_iload_n (i := 1) (pc := 68) dX0_laySort_68 rfl rfl ?_
      refine V_bipush (v := 6) (pc := 69) dX0_laySort_69 rfl ?_
      refine V_icmp_ge (pc := 71) (tgt := 92) dX0_laySort_71 rfl (fun q => ?_) (fun q => ?_)
      · have h := ite_t q h
        exact k_Ca_laySort_b92 h_this h hp
      · have h := ite_f q h
        refine V_aload_n (i := 0) (pc := 74) dX0_laySort_74 rfl rfl ?_
        refine V_getR (b := (this + 27)) (pc := 75) dX0_laySort_75 fl_Ca_27 h_this rfl rfl ?_
        refine V_aload_n (i := 0) (pc := 78) dX0_laySort_78 rfl rfl ?_
        refine V_getR (b := (this + 40)) (pc := 79) dX0_laySort_79 fl_Ca_42 h_this rfl rfl ?_
        refine V_iload (i := 4) (pc := 82) dX0_laySort_82 rfl ?_
        obtain ⟨hg84, h⟩ := gd_e h
        refine V_iald (pc := 84) dX0_laySort_84 (kf_0_10 h_this) (af_0_10 h_this) hg84 ?_
        obtain ⟨hg85, h⟩ := gd_e h
        refine V_aald (b := ((this + 27) + (1 + ix (rI m (this + 40) (ix v4))))) (k := 4) (pc := 85) dX0_laySort_85 (kf_0_3 h_this) (by decide) (af_0_3 h_this) hg85 rfl ?_
        refine V_iload_n (i := 1) (pc := 86) dX0_laySort_86 rfl rfl ?_
        refine V_dup2 (pc := 87) dX0_laySort_87 ?_
        obtain ⟨hg88, h⟩ := gd_e h
        refine V_iald (pc := 88) dX0_laySort_88 (ka24 (kf_0_3 h_this) (af_0_3 h_this) hg85) ((la24 (kf_0_3 h_this) (af_0_3 h_this) hg85).trans (ag_0_3 h_this)) hg88 ?_
        refine V_iconst (v := 1) (pc := 89) dX0_laySort_89 rfl ?_
        refine V_iadd (pc := 90) dX0_laySort_90 ?_
        obtain ⟨hg91, h⟩ := gd_e h
        refine V_iast_lt (pc := 91) dX0_laySort_91 (ka24 (kf_0_3 h_this) (af_0_3 h_this) hg85) ((la24 (kf_0_3 h_this) (af_0_3 h_this) hg85).trans (ag_0_3 h_this)) hg91 h (fun m91 h => ?_)
        exact k_Ca_laySort_b92 h_this h hp
theorem k_Ca_laySort_b48 {g : GE} {this : Nat} {v1 : Int32} {v2 : Int32} {v5 : Int32}  {m : Mem} (h_this : kd this = 1) {r : Option AV} {m' : Mem} {x : (Int32 × Int32 × Mem) ⊕ (Int32 × Mem)} (h : Ca_laySort_b48 this v1 v2 v5 m = some x) (hp : (Sum.elim (fun s : Int32 × Int32 × Mem => V g Y_Ca_laySort 6 [some (vr this), some (vi v1), some (vi v2), none, some (vi s.1), some (vi s.2.1)] [] s.2.2 (PM g Y_Ca_laySort r m')) (fun x : Int32 × Mem => r = some (vi x.1) ∧ m' = x.2)) x) : V g Y_Ca_laySort 48 [some (vr this), some (vi v1), some (vi v2), none, none, some (vi v5)] [] m (PM g Y_Ca_laySort r m') := by
  unfold Ca_laySort_b48 at h
  refine V_iconst (v := 0) (pc := 48) dX0_laySort_48 rfl ?_
  refine V_istore (i := 4) (ls' := [some (vr this), some (vi v1), some (vi v2), none, some (vi 0), some (vi v5)]) (pc := 49) dX0_laySort_49 (Nat.le_of_ble_eq_true rfl) rfl ?_
  exact k_Ca_laySort_b51 h_this h hp
theorem k_Ca_laySort_l6 {g : GE} {this : Nat} {v1 : Int32} {v2 : Int32} {v4 : Int32} {v5 : Int32} {m : Mem} (h_this : kd this = 1) {r : Option AV} {m' : Mem} {x : (Int32 × Int32 × Mem) ⊕ (Int32 × Mem)} (h : Ca_laySort_l6 this v1 v2 v4 v5 m = some x) (hp : (Sum.elim (fun s : Int32 × Int32 × Mem => V g Y_Ca_laySort 6 [some (vr this), some (vi v1), some (vi v2), none, some (vi s.1), some (vi s.2.1)] [] s.2.2 (PM g Y_Ca_laySort r m')) (fun x : Int32 × Mem => r = some (vi x.1) ∧ m' = x.2)) x) : V g Y_Ca_laySort 6 [some (vr this), some (vi v1), some (vi v2), none, some (vi v4), some (vi v5)] [] m (PM g Y_Ca_laySort r m') := by
  unfold Ca_laySort_l6 at h
  refine V_iload (i := 5) (pc := 6) dX0_laySort_6 rfl ?_
  refine V_aload_n (i := 0) (pc := 8) dX0_laySort_8 rfl rfl ?_
  refine V_getR (b := (this + 1)) (pc := 9) dX0_laySort_9 fl_Ca_12 h_this rfl rfl ?_
  refine V_getR (b := (this + 11)) (pc := 12) dX0_laySort_12 fl_Ca_88 (kf_0_0 h_this) rfl rfl ?_
  refine V_iload_n (i := 1) (pc := 15) dX0_laySort_15 rfl rfl ?_
  refine V_iconst (v := 3) (pc := 16) dX0_laySort_16 rfl ?_
  obtain ⟨r17, e17, h⟩ := bnd h
  refine V_invV1 (c := 8) (pc := 17) dX0_laySort_17 (e_Ta_at (kf_2_16 (kf_0_0 h_this)) e17) iv_Ca_97 (rm_Ca_laySort_Ta_at _ _ _) rfl (kf_2_16 (kf_0_0 h_this)) cf_8 rfl (Nat.le_of_ble_eq_true rfl) rfl ?_
  refine V_icmp_ge (pc := 20) (tgt := 101) dX0_laySort_20 rfl (fun q => ?_) (fun q => ?_)
  · have h := ite_t q h
    obtain ⟨y1, hu1, rfl⟩ := up_e h
    have h := hu1
    refine V_iload (i := 4) (pc := 101) dX0_laySort_101 rfl ?_
    obtain rfl := Option.some.inj h
    exact E_i (pc := 103) dX0_laySort_103 rfl hp
  · have h := ite_f q h
    refine V_iload_n (i := 2) (pc := 23) dX0_laySort_23 rfl rfl ?_
    refine V_if_le (pc := 24) (tgt := 101) dX0_laySort_24 rfl (fun q => ?_) (fun q => ?_)
    · have h := ite_t q h
      obtain ⟨y2, hu2, rfl⟩ := up_e h
      have h := hu2
      refine V_iload (i := 4) (pc := 101) dX0_laySort_101 rfl ?_
      obtain rfl := Option.some.inj h
      exact E_i (pc := 103) dX0_laySort_103 rfl hp
    · have h := ite_f q h
      refine V_iload (i := 4) (pc := 27) dX0_laySort_27 rfl ?_
      refine V_if_lt (pc := 29) (tgt := 48) dX0_laySort_29 rfl (fun q => ?_) (fun q => ?_)
      · have h := ite_t q h
        refine V_sub (ls' := [some (vr this), some (vi v1), some (vi v2), none, none, some (vi v5)]) (And.intro rfl (And.intro rfl (And.intro rfl (And.intro rfl trivial)))) ?_
        exact k_Ca_laySort_b48 h_this h hp
      · have h := ite_f q h
        refine V_iload (i := 4) (pc := 32) dX0_laySort_32 rfl ?_
        refine V_iload_n (i := 2) (pc := 34) dX0_laySort_34 rfl rfl ?_
        refine V_icmp_ge (pc := 35) (tgt := 48) dX0_laySort_35 rfl (fun q => ?_) (fun q => ?_)
        · have h := ite_t q h
          refine V_sub (ls' := [some (vr this), some (vi v1), some (vi v2), none, none, some (vi v5)]) (And.intro rfl (And.intro rfl (And.intro rfl (And.intro rfl trivial)))) ?_
          exact k_Ca_laySort_b48 h_this h hp
        · have h := ite_f q h
          refine V_iload (i := 4) (pc := 38) dX0_laySort_38 rfl ?_
          refine V_aload_n (i := 0) (pc := 40) dX0_laySort_40 rfl rfl ?_
          refine V_getR (b := (this + 40)) (pc := 41) dX0_laySort_41 fl_Ca_42 h_this rfl rfl ?_
          refine V_alen (k := 0) (pc := 44) dX0_laySort_44 (kf_0_10 h_this) (Nat.le_of_ble_eq_true rfl) (af_0_10 h_this) ?_
          refine V_icmp_lt (pc := 45) (tgt := 51) dX0_laySort_45 rfl (fun q => ?_) (fun q => ?_)
          · have h := ite_t q h
            exact k_Ca_laySort_b51 h_this h hp
          · have h := ite_f q h
            refine V_sub (ls' := [some (vr this), some (vi v1), some (vi v2), none, none, some (vi v5)]) (And.intro rfl (And.intro rfl (And.intro rfl (And.intro rfl trivial)))) ?_
            exact k_Ca_laySort_b48 h_this h hp
theorem k_Ca_laySort {g : GE} {this : Nat} {v1 : Int32} {v2 : Int32} {v3 : Int32} {m : Mem} (h_this : kd this = 1) {r : Option AV} {m' : Mem} {x : Int32 × Mem} (h : Ca_laySort this v1 v2 v3 m = some x) (hp : (fun x : Int32 × Mem => r = some (vi x.1) ∧ m' = x.2) x) : V g Y_Ca_laySort 0 [some (vr this), some (vi v1), some (vi v2), some (vi v3), none, none] [] m (PM g Y_Ca_laySort r m') := by
  unfold Ca_laySort at h
  refine V_iload_n (i := 3) (pc := 0) dX0_laySort_0 rfl rfl ?_
  refine V_istore (i := 4) (ls' := [some (vr this), some (vi v1), some (vi v2), some (vi v3), some (vi v3), none]) (pc := 1) dX0_laySort_1 (Nat.le_of_ble_eq_true rfl) rfl ?_
  refine V_iconst (v := 0) (pc := 3) dX0_laySort_3 rfl ?_
  refine V_istore (i := 5) (ls' := [some (vr this), some (vi v1), some (vi v2), some (vi v3), some (vi v3), some (vi 0)]) (pc := 4) dX0_laySort_4 (Nat.le_of_ble_eq_true rfl) rfl ?_
  refine V_sub (ls' := [some (vr this), some (vi v1), some (vi v2), none, some (vi v3), some (vi 0)]) (And.intro rfl (And.intro rfl (And.intro rfl (And.intro rfl (And.intro rfl trivial))))) ?_
  exact loop_V (A := fun s : Int32 × Int32 × Mem => V g Y_Ca_laySort 6 [some (vr this), some (vi v1), some (vi v2), none, some (vi s.1), some (vi s.2.1)] [] s.2.2 (PM g Y_Ca_laySort r m')) (fun s x h hp => k_Ca_laySort_l6 h_this h hp) (v3, 0, m) _ h hp
theorem e_Ca_laySort {g : GE} {this : Nat} {v1 : Int32} {v2 : Int32} {v3 : Int32} {m : Mem} (h_this : kd this = 1) {x : Int32 × Mem} (h : Ca_laySort this v1 v2 v3 m = some x) : Ev g Y_Ca_laySort [vr this, vi v1, vi v2, vi v3] m (some (vi x.1)) x.2 :=
  Ev_of 2 (by decide +kernel) rfl (Nat.le_of_ble_eq_true rfl) rfl (k_Ca_laySort h_this h ⟨rfl, rfl⟩)
theorem k_Ca_layKind_b55 {g : GE} {this : Nat} {v1 : Int32} {v2 : Int32} {v3 : Int32} {v4 : Int32}  {m : Mem} (h_this : kd this = 1) {r : Option AV} {m' : Mem} {x : (Int32 × Int32 × Mem) ⊕ (Mem)} (h : Ca_layKind_b55 this v1 v2 v3 v4 m = some x) (hp : (Sum.elim (fun s : Int32 × Int32 × Mem => V g Y_Ca_layKind 5 [some (vr this), some (vi v1), some (vi v2), some (vi s.1), some (vi s.2.1)] [] s.2.2 (PM g Y_Ca_layKind r m')) (fun x : Mem => r = none ∧ m' = x)) x) : V g Y_Ca_layKind 55 [some (vr this), some (vi v1), some (vi v2), some (vi v3), some (vi v4)] [] m (PM g Y_Ca_layKind r m') := by
  unfold Ca_layKind_b55 at h
  refine V_iinc (i := 4) (v := (v4 + 1)) (ls' := [some (vr this), some (vi v1), some (vi v2), some (vi v3), some (vi (v4 + 1))]) (pc := 55) dX0_layKind_55 rfl rfl (Nat.le_of_ble_eq_true rfl) rfl ?_
  refine V_goto (tgt := 5) (pc := 58) dX0_layKind_58 rfl ?_
  obtain rfl := Option.some.inj h
  exact hp
theorem k_Ca_layKind_b42 {g : GE} {this : Nat} {v1 : Int32} {v2 : Int32} {v3 : Int32} {v4 : Int32} {k0 : Int32}  {m : Mem} (h_this : kd this = 1) {r : Option AV} {m' : Mem} {x : (Int32 × Int32 × Mem) ⊕ (Mem)} (h : Ca_layKind_b42 this v1 v2 v3 v4 k0 m = some x) (hp : (Sum.elim (fun s : Int32 × Int32 × Mem => V g Y_Ca_layKind 5 [some (vr this), some (vi v1), some (vi v2), some (vi s.1), some (vi s.2.1)] [] s.2.2 (PM g Y_Ca_layKind r m')) (fun x : Mem => r = none ∧ m' = x)) x) : V g Y_Ca_layKind 42 [some (vr this), some (vi v1), some (vi v2), some (vi v3), some (vi v4)] [vi k0] m (PM g Y_Ca_layKind r m') := by
  unfold Ca_layKind_b42 at h
  refine V_iload_n (i := 1) (pc := 42) dX0_layKind_42 rfl rfl ?_
  refine V_icmp_ne (pc := 43) (tgt := 55) dX0_layKind_43 rfl (fun q => ?_) (fun q => ?_)
  · have h := ite_f q h
    exact k_Ca_layKind_b55 h_this h hp
  · have h := ite_t q h
    refine V_aload_n (i := 0) (pc := 46) dX0_layKind_46 rfl rfl ?_
    refine V_iload (i := 4) (pc := 47) dX0_layKind_47 rfl ?_
    refine V_iload_n (i := 2) (pc := 49) dX0_layKind_49 rfl rfl ?_
    refine V_iload_n (i := 3) (pc := 50) dX0_layKind_50 rfl rfl ?_
    obtain ⟨r51, e51, h⟩ := bnd h
    refine V_invV1 (c := 0) (pc := 51) dX0_layKind_51 (e_Ca_laySort h_this e51) iv_Ca_146 (rm_Ca_layKind_Ca_laySort _ _ _) rfl h_this cf_0 rfl (Nat.le_of_ble_eq_true rfl) rfl ?_
    refine V_istore_n (i := 3) (ls' := [some (vr this), some (vi v1), some (vi v2), some (vi r51.1), some (vi v4)]) (pc := 54) dX0_layKind_54 rfl (Nat.le_of_ble_eq_true rfl) rfl ?_
    exact k_Ca_layKind_b55 h_this h hp
theorem k_Ca_layKind_l5 {g : GE} {this : Nat} {v1 : Int32} {v2 : Int32} {v3 : Int32} {v4 : Int32} {m : Mem} (h_this : kd this = 1) {r : Option AV} {m' : Mem} {x : (Int32 × Int32 × Mem) ⊕ (Mem)} (h : Ca_layKind_l5 this v1 v2 v3 v4 m = some x) (hp : (Sum.elim (fun s : Int32 × Int32 × Mem => V g Y_Ca_layKind 5 [some (vr this), some (vi v1), some (vi v2), some (vi s.1), some (vi s.2.1)] [] s.2.2 (PM g Y_Ca_layKind r m')) (fun x : Mem => r = none ∧ m' = x)) x) : V g Y_Ca_layKind 5 [some (vr this), some (vi v1), some (vi v2), some (vi v3), some (vi v4)] [] m (PM g Y_Ca_layKind r m') := by
  unfold Ca_layKind_l5 at h
  refine V_iload (i := 4) (pc := 5) dX0_layKind_5 rfl ?_
  refine V_aload_n (i := 0) (pc := 7) dX0_layKind_7 rfl rfl ?_
  refine V_getR (b := (this + 1)) (pc := 8) dX0_layKind_8 fl_Ca_12 h_this rfl rfl ?_
  refine V_getR (b := (this + 11)) (pc := 11) dX0_layKind_11 fl_Ca_88 (kf_0_0 h_this) rfl rfl ?_
  refine V_getI (pc := 14) dX0_layKind_14 fl_Ca_92 (kf_2_16 (kf_0_0 h_this)) rfl ?_
  refine V_icmp_ge (pc := 17) (tgt := 61) dX0_layKind_17 rfl (fun q => ?_) (fun q => ?_)
  · have h := ite_t q h
    obtain ⟨y1, hu1, rfl⟩ := up_e h
    have h := hu1
    obtain rfl := Option.some.inj h
    exact E_v (pc := 61) dX0_layKind_61 rfl hp
  · have h := ite_f q h
    refine V_aload_n (i := 0) (pc := 20) dX0_layKind_20 rfl rfl ?_
    refine V_getR (b := (this + 1)) (pc := 21) dX0_layKind_21 fl_Ca_12 h_this rfl rfl ?_
    refine V_getR (b := (this + 11)) (pc := 24) dX0_layKind_24 fl_Ca_88 (kf_0_0 h_this) rfl rfl ?_
    refine V_iload (i := 4) (pc := 27) dX0_layKind_27 rfl ?_
    refine V_iconst (v := 0) (pc := 29) dX0_layKind_29 rfl ?_
    obtain ⟨r30, e30, h⟩ := bnd h
    refine V_invV1 (c := 8) (pc := 30) dX0_layKind_30 (e_Ta_at (kf_2_16 (kf_0_0 h_this)) e30) iv_Ca_97 (rm_Ca_layKind_Ta_at _ _ _) rfl (kf_2_16 (kf_0_0 h_this)) cf_8 rfl (Nat.le_of_ble_eq_true rfl) rfl ?_
    refine V_iconst (v := 2) (pc := 33) dX0_layKind_33 rfl ?_
    refine V_icmp_ne (pc := 34) (tgt := 41) dX0_layKind_34 rfl (fun q => ?_) (fun q => ?_)
    · have h := ite_f q h
      refine V_iconst (v := 0) (pc := 41) dX0_layKind_41 rfl ?_
      exact k_Ca_layKind_b42 h_this h hp
    · have h := ite_t q h
      refine V_iconst (v := 1) (pc := 37) dX0_layKind_37 rfl ?_
      refine V_goto (tgt := 42) (pc := 38) dX0_layKind_38 rfl ?_
      exact k_Ca_layKind_b42 h_this h hp
theorem k_Ca_layKind {g : GE} {this : Nat} {v1 : Int32} {v2 : Int32} {m : Mem} (h_this : kd this = 1) {r : Option AV} {m' : Mem} {x : Mem} (h : Ca_layKind this v1 v2 m = some x) (hp : (fun x : Mem => r = none ∧ m' = x) x) : V g Y_Ca_layKind 0 [some (vr this), some (vi v1), some (vi v2), none, none] [] m (PM g Y_Ca_layKind r m') := by
  unfold Ca_layKind at h
  refine V_iconst (v := 0) (pc := 0) dX0_layKind_0 rfl ?_
  refine V_istore_n (i := 3) (ls' := [some (vr this), some (vi v1), some (vi v2), some (vi 0), none]) (pc := 1) dX0_layKind_1 rfl (Nat.le_of_ble_eq_true rfl) rfl ?_
  refine V_iconst (v := 0) (pc := 2) dX0_layKind_2 rfl ?_
  refine V_istore (i := 4) (ls' := [some (vr this), some (vi v1), some (vi v2), some (vi 0), some (vi 0)]) (pc := 3) dX0_layKind_3 (Nat.le_of_ble_eq_true rfl) rfl ?_
  exact loop_V (A := fun s : Int32 × Int32 × Mem => V g Y_Ca_layKind 5 [some (vr this), some (vi v1), some (vi v2), some (vi s.1), some (vi s.2.1)] [] s.2.2 (PM g Y_Ca_layKind r m')) (fun s x h hp => k_Ca_layKind_l5 h_this h hp) (0, 0, m) _ h hp
theorem e_Ca_layKind {g : GE} {this : Nat} {v1 : Int32} {v2 : Int32} {m : Mem} (h_this : kd this = 1) {x : Mem} (h : Ca_layKind this v1 v2 m = some x) : Ev g Y_Ca_layKind [vr this, vi v1, vi v2] m (none) x :=
  Ev_of 2 (by decide +kernel) rfl (Nat.le_of_ble_eq_true rfl) rfl (k_Ca_layKind h_this h ⟨rfl, rfl⟩)
theorem k_Ca_ringOfSeats_b29 {g : GE} {this : Nat} {v1 : Int32} {v2 : Int32}  {m : Mem} (h_this : kd this = 1) {r : Option AV} {m' : Mem} {x : (Int32 × Int32 × Mem) ⊕ (Int32 × Mem)} (h : Ca_ringOfSeats_b29 this v1 v2 m = some x) (hp : (Sum.elim (fun s : Int32 × Int32 × Mem => V g Y_Ca_ringOfSeats 4 [some (vr this), some (vi s.1), some (vi s.2.1)] [] s.2.2 (PM g Y_Ca_ringOfSeats r m')) (fun x : Int32 × Mem => r = some (vi x.1) ∧ m' = x.2)) x) : V g Y_Ca_ringOfSeats 29 [some (vr this), some (vi v1), some (vi v2)] [] m (PM g Y_Ca_ringOfSeats r m') := by
  unfold Ca_ringOfSeats_b29 at h
  refine V_iinc (i := 2) (v := (v2 + 1)) (ls' := [some (vr this), some (vi v1), some (vi (v2 + 1))]) (pc := 29) dX0_ringOfSeats_29 rfl rfl (Nat.le_of_ble_eq_true rfl) rfl ?_
  refine V_goto (tgt := 4) (pc := 32) dX0_ringOfSeats_32 rfl ?_
  obtain rfl := Option.some.inj h
  exact hp
theorem k_Ca_ringOfSeats_l4 {g : GE} {this : Nat}  {v1 : Int32} {v2 : Int32} {m : Mem} (h_this : kd this = 1) {r : Option AV} {m' : Mem} {x : (Int32 × Int32 × Mem) ⊕ (Int32 × Mem)} (h : Ca_ringOfSeats_l4 this v1 v2 m = some x) (hp : (Sum.elim (fun s : Int32 × Int32 × Mem => V g Y_Ca_ringOfSeats 4 [some (vr this), some (vi s.1), some (vi s.2.1)] [] s.2.2 (PM g Y_Ca_ringOfSeats r m')) (fun x : Int32 × Mem => r = some (vi x.1) ∧ m' = x.2)) x) : V g Y_Ca_ringOfSeats 4 [some (vr this), some (vi v1), some (vi v2)] [] m (PM g Y_Ca_ringOfSeats r m') := by
  unfold Ca_ringOfSeats_l4 at h
  refine V_iload_n (i := 2) (pc := 4) dX0_ringOfSeats_4 rfl rfl ?_
  refine V_bipush (v := 8) (pc := 5) dX0_ringOfSeats_5 rfl ?_
  refine V_icmp_ge (pc := 7) (tgt := 35) dX0_ringOfSeats_7 rfl (fun q => ?_) (fun q => ?_)
  · have h := ite_t q h
    obtain ⟨y1, hu1, rfl⟩ := up_e h
    have h := hu1
    refine V_iload_n (i := 1) (pc := 35) dX0_ringOfSeats_35 rfl rfl ?_
    obtain rfl := Option.some.inj h
    exact E_i (pc := 36) dX0_ringOfSeats_36 rfl hp
  · have h := ite_f q h
    refine V_aload_n (i := 0) (pc := 10) dX0_ringOfSeats_10 rfl rfl ?_
    refine V_iload_n (i := 2) (pc := 11) dX0_ringOfSeats_11 rfl rfl ?_
    refine V_iconst (v := 2) (pc := 12) dX0_ringOfSeats_12 rfl ?_
    obtain ⟨r13, e13, h⟩ := bnd h
    refine V_invV1 (c := 0) (pc := 13) dX0_ringOfSeats_13 (e_Ca_givenBy h_this e13) iv_Ca_149 (rm_Ca_ringOfSeats_Ca_givenBy _ _ _) rfl h_this cf_0 rfl (Nat.le_of_ble_eq_true rfl) rfl ?_
    refine V_if_le (pc := 16) (tgt := 29) dX0_ringOfSeats_16 rfl (fun q => ?_) (fun q => ?_)
    · have h := ite_t q h
      exact k_Ca_ringOfSeats_b29 h_this h hp
    · have h := ite_f q h
      refine V_aload_n (i := 0) (pc := 19) dX0_ringOfSeats_19 rfl rfl ?_
      refine V_getR (b := (this + 40)) (pc := 20) dX0_ringOfSeats_20 fl_Ca_42 h_this rfl rfl ?_
      refine V_iload_n (i := 1) (pc := 23) dX0_ringOfSeats_23 rfl rfl ?_
      refine V_iload_n (i := 2) (pc := 24) dX0_ringOfSeats_24 rfl rfl ?_
      obtain ⟨hg25, h⟩ := gd_e h
      refine V_iast_lt (pc := 25) dX0_ringOfSeats_25 (kf_0_10 h_this) (af_0_10 h_this) hg25 h (fun m25 h => ?_)
      refine V_iinc (i := 1) (v := (v1 + 1)) (ls' := [some (vr this), some (vi (v1 + 1)), some (vi v2)]) (pc := 26) dX0_ringOfSeats_26 rfl rfl (Nat.le_of_ble_eq_true rfl) rfl ?_
      exact k_Ca_ringOfSeats_b29 h_this h hp
theorem k_Ca_ringOfSeats {g : GE} {this : Nat} {m : Mem} (h_this : kd this = 1) {r : Option AV} {m' : Mem} {x : Int32 × Mem} (h : Ca_ringOfSeats this m = some x) (hp : (fun x : Int32 × Mem => r = some (vi x.1) ∧ m' = x.2) x) : V g Y_Ca_ringOfSeats 0 [some (vr this), none, none] [] m (PM g Y_Ca_ringOfSeats r m') := by
  unfold Ca_ringOfSeats at h
  refine V_iconst (v := 0) (pc := 0) dX0_ringOfSeats_0 rfl ?_
  refine V_istore_n (i := 1) (ls' := [some (vr this), some (vi 0), none]) (pc := 1) dX0_ringOfSeats_1 rfl (Nat.le_of_ble_eq_true rfl) rfl ?_
  refine V_iconst (v := 0) (pc := 2) dX0_ringOfSeats_2 rfl ?_
  refine V_istore_n (i := 2) (ls' := [some (vr this), some (vi 0), some (vi 0)]) (pc := 3) dX0_ringOfSeats_3 rfl (Nat.le_of_ble_eq_true rfl) rfl ?_
  exact loop_V (A := fun s : Int32 × Int32 × Mem => V g Y_Ca_ringOfSeats 4 [some (vr this), some (vi s.1), some (vi s.2.1)] [] s.2.2 (PM g Y_Ca_ringOfSeats r m')) (fun s x h hp => k_Ca_ringOfSeats_l4 h_this h hp) (0, 0, m) _ h hp
theorem e_Ca_ringOfSeats {g : GE} {this : Nat} {m : Mem} (h_this : kd this = 1) {x : Int32 × Mem} (h : Ca_ringOfSeats this m = some x) : Ev g Y_Ca_ringOfSeats [vr this] m (some (vi x.1)) x.2 :=
  Ev_of 2 (by decide +kernel) rfl (Nat.le_of_ble_eq_true rfl) rfl (k_Ca_ringOfSeats h_this h ⟨rfl, rfl⟩)
theorem k_Ca_layAll_b92 {g : GE} {this : Nat} {v1 : Int32} {v3 : Int32} {v5 : Int32} {k1 : Int32} {k2 : Int32} {k3 : Int32}  {m : Mem} (h_this : kd this = 1) {r : Option AV} {m' : Mem} {x : (Int32 × Int32 × Mem) ⊕ (Mem)} (h : Ca_layAll_b92 this v1 v3 v5 k1 k2 k3 m = some x) (hp : (Sum.elim (fun s : Int32 × Int32 × Mem => V g Y_Ca_layAll 62 [some (vr this), some (vi v1), none, some (vi v3), some (vi s.1), some (vi s.2.1)] [] s.2.2 (PM g Y_Ca_layAll r m')) (fun x : Mem => r = none ∧ m' = x)) x) : V g Y_Ca_layAll 92 [some (vr this), some (vi v1), none, some (vi v3), none, some (vi v5)] [vi k3, vi k2, vi k1, vr this] m (PM g Y_Ca_layAll r m') := by
  unfold Ca_layAll_b92 at h
  obtain ⟨r92, e92, h⟩ := bnd h
  refine V_invV1 (c := 0) (pc := 92) dX0_layAll_92 (e_Ca_laySort h_this e92) iv_Ca_146 (rm_Ca_layAll_Ca_laySort _ _ _) rfl h_this cf_0 rfl (Nat.le_of_ble_eq_true rfl) rfl ?_
  refine V_istore (i := 4) (ls' := [some (vr this), some (vi v1), none, some (vi v3), some (vi r92.1), some (vi v5)]) (pc := 95) dX0_layAll_95 (Nat.le_of_ble_eq_true rfl) rfl ?_
  refine V_iinc (i := 5) (v := (v5 + 1)) (ls' := [some (vr this), some (vi v1), none, some (vi v3), some (vi r92.1), some (vi (v5 + 1))]) (pc := 97) dX0_layAll_97 rfl rfl (Nat.le_of_ble_eq_true rfl) rfl ?_
  refine V_goto (tgt := 62) (pc := 100) dX0_layAll_100 rfl ?_
  obtain rfl := Option.some.inj h
  exact hp
theorem k_Ca_layAll_l62 {g : GE} {this : Nat} {v1 : Int32} {v3 : Int32} {v4 : Int32} {v5 : Int32} {m : Mem} (h_this : kd this = 1) {r : Option AV} {m' : Mem} {x : (Int32 × Int32 × Mem) ⊕ (Mem)} (h : Ca_layAll_l62 this v1 v3 v4 v5 m = some x) (hp : (Sum.elim (fun s : Int32 × Int32 × Mem => V g Y_Ca_layAll 62 [some (vr this), some (vi v1), none, some (vi v3), some (vi s.1), some (vi s.2.1)] [] s.2.2 (PM g Y_Ca_layAll r m')) (fun x : Mem => r = none ∧ m' = x)) x) : V g Y_Ca_layAll 62 [some (vr this), some (vi v1), none, some (vi v3), some (vi v4), some (vi v5)] [] m (PM g Y_Ca_layAll r m') := by
  unfold Ca_layAll_l62 at h
  refine V_iload (i := 5) (pc := 62) dX0_layAll_62 rfl ?_
  refine V_aload_n (i := 0) (pc := 64) dX0_layAll_64 rfl rfl ?_
  refine V_getR (b := (this + 1)) (pc := 65) dX0_layAll_65 fl_Ca_12 h_this rfl rfl ?_
  refine V_getR (b := (this + 11)) (pc := 68) dX0_layAll_68 fl_Ca_88 (kf_0_0 h_this) rfl rfl ?_
  refine V_getI (pc := 71) dX0_layAll_71 fl_Ca_92 (kf_2_16 (kf_0_0 h_this)) rfl ?_
  refine V_icmp_ge (pc := 74) (tgt := 103) dX0_layAll_74 rfl (fun q => ?_) (fun q => ?_)
  · have h := ite_t q h
    obtain ⟨y1, hu1, rfl⟩ := up_e h
    have h := hu1
    obtain rfl := Option.some.inj h
    exact E_v (pc := 103) dX0_layAll_103 rfl hp
  · have h := ite_f q h
    refine V_aload_n (i := 0) (pc := 77) dX0_layAll_77 rfl rfl ?_
    refine V_iload (i := 5) (pc := 78) dX0_layAll_78 rfl ?_
    refine V_iload_n (i := 3) (pc := 80) dX0_layAll_80 rfl rfl ?_
    refine V_iload_n (i := 1) (pc := 81) dX0_layAll_81 rfl rfl ?_
    refine V_iconst (v := 2) (pc := 82) dX0_layAll_82 rfl ?_
    refine V_icmp_ne (pc := 83) (tgt := 90) dX0_layAll_83 rfl (fun q => ?_) (fun q => ?_)
    · have h := ite_f q h
      refine V_iload (i := 4) (pc := 90) dX0_layAll_90 rfl ?_
      refine V_sub (ls' := [some (vr this), some (vi v1), none, some (vi v3), none, some (vi v5)]) (And.intro rfl (And.intro rfl (And.intro rfl (And.intro rfl trivial)))) ?_
      exact k_Ca_layAll_b92 h_this h hp
    · have h := ite_t q h
      refine V_iconst (v := 0) (pc := 86) dX0_layAll_86 rfl ?_
      refine V_goto (tgt := 92) (pc := 87) dX0_layAll_87 rfl ?_
      refine V_sub (ls' := [some (vr this), some (vi v1), none, some (vi v3), none, some (vi v5)]) (And.intro rfl (And.intro rfl (And.intro rfl (And.intro rfl trivial)))) ?_
      exact k_Ca_layAll_b92 h_this h hp
theorem k_Ca_layAll_b52 {g : GE} {this : Nat} {k1 : Int32} {k2 : Int32}  {m : Mem} (h_this : kd this = 1) {r : Option AV} {m' : Mem} {x : Mem} (h : Ca_layAll_b52 this k1 k2 m = some x) (hp : (fun x : Mem => r = none ∧ m' = x) x) : V g Y_Ca_layAll 52 [none, none, none, none, none, none] [vi k2, vi k1, vr this] m (PM g Y_Ca_layAll r m') := by
  unfold Ca_layAll_b52 at h
  obtain ⟨m52, e52, h⟩ := bnd h
  refine V_invV0 (c := 0) (pc := 52) dX0_layAll_52 (e_Ca_layKind h_this e52) iv_Ca_138 (rm_Ca_layAll_Ca_layKind _ _ _) rfl h_this cf_0 rfl (Nat.le_of_ble_eq_true rfl) rfl ?_
  obtain rfl := Option.some.inj h
  exact E_v (pc := 55) dX0_layAll_55 rfl hp
theorem k_Ca_layAll_b10 {g : GE} {this : Nat} {v1 : Int32} {v2 : Int32} {k1 : Int32}  {m : Mem} (h_this : kd this = 1) {r : Option AV} {m' : Mem} {x : Mem} (h : Ca_layAll_b10 this v1 v2 k1 m = some x) (hp : (fun x : Mem => r = none ∧ m' = x) x) : V g Y_Ca_layAll 10 [some (vr this), some (vi v1), some (vi v2), none, none, none] [vi k1, vr this] m (PM g Y_Ca_layAll r m') := by
  unfold Ca_layAll_b10 at h
  obtain ⟨r10, e10, h⟩ := bnd h
  refine V_invV1 (c := 0) (pc := 10) dX0_layAll_10 (e_Ca_ringOfHeaps h_this e10) iv_Ca_132 (rm_Ca_layAll_Ca_ringOfHeaps _ _ _) rfl h_this cf_0 rfl (Nat.le_of_ble_eq_true rfl) rfl ?_
  refine V_istore_n (i := 3) (ls' := [some (vr this), some (vi v1), some (vi v2), some (vi r10.1), none, none]) (pc := 13) dX0_layAll_13 rfl (Nat.le_of_ble_eq_true rfl) rfl ?_
  refine V_aload_n (i := 0) (pc := 14) dX0_layAll_14 rfl rfl ?_
  obtain ⟨m15, e15, h⟩ := bnd h
  refine V_invV0 (c := 0) (pc := 15) dX0_layAll_15 (e_Ca_takeUpAll h_this e15) iv_Ca_135 (rm_Ca_layAll_Ca_takeUpAll _ _ _) rfl h_this cf_0 rfl (Nat.le_of_ble_eq_true rfl) rfl ?_
  refine V_iload_n (i := 1) (pc := 18) dX0_layAll_18 rfl rfl ?_
  refine V_iconst (v := 3) (pc := 19) dX0_layAll_19 rfl ?_
  refine V_icmp_ne (pc := 20) (tgt := 56) dX0_layAll_20 rfl (fun q => ?_) (fun q => ?_)
  · have h := ite_f q h
    refine V_iconst (v := 0) (pc := 56) dX0_layAll_56 rfl ?_
    refine V_istore (i := 4) (ls' := [some (vr this), some (vi v1), some (vi v2), some (vi r10.1), some (vi 0), none]) (pc := 57) dX0_layAll_57 (Nat.le_of_ble_eq_true rfl) rfl ?_
    refine V_iconst (v := 0) (pc := 59) dX0_layAll_59 rfl ?_
    refine V_istore (i := 5) (ls' := [some (vr this), some (vi v1), some (vi v2), some (vi r10.1), some (vi 0), some (vi 0)]) (pc := 60) dX0_layAll_60 (Nat.le_of_ble_eq_true rfl) rfl ?_
    refine V_sub (ls' := [some (vr this), some (vi v1), none, some (vi r10.1), some (vi 0), some (vi 0)]) (And.intro rfl (And.intro rfl (And.intro rfl (And.intro rfl (And.intro rfl trivial))))) ?_
    exact loop_V (A := fun s : Int32 × Int32 × Mem => V g Y_Ca_layAll 62 [some (vr this), some (vi v1), none, some (vi r10.1), some (vi s.1), some (vi s.2.1)] [] s.2.2 (PM g Y_Ca_layAll r m')) (fun s x h hp => k_Ca_layAll_l62 h_this h hp) (0, 0, m15) _ h hp
  · have h := ite_t q h
    refine V_aload_n (i := 0) (pc := 23) dX0_layAll_23 rfl rfl ?_
    refine V_iconst (v := 1) (pc := 24) dX0_layAll_24 rfl ?_
    refine V_iload_n (i := 3) (pc := 25) dX0_layAll_25 rfl rfl ?_
    obtain ⟨m26, e26, h⟩ := bnd h
    refine V_invV0 (c := 0) (pc := 26) dX0_layAll_26 (e_Ca_layKind h_this e26) iv_Ca_138 (rm_Ca_layAll_Ca_layKind _ _ _) rfl h_this cf_0 rfl (Nat.le_of_ble_eq_true rfl) rfl ?_
    refine V_aload_n (i := 0) (pc := 29) dX0_layAll_29 rfl rfl ?_
    obtain ⟨r30, e30, h⟩ := bnd h
    refine V_invV1 (c := 0) (pc := 30) dX0_layAll_30 (e_Ca_ringOfSeats h_this e30) iv_Ca_142 (rm_Ca_layAll_Ca_ringOfSeats _ _ _) rfl h_this cf_0 rfl (Nat.le_of_ble_eq_true rfl) rfl ?_
    refine V_istore (i := 4) (ls' := [some (vr this), some (vi v1), some (vi v2), some (vi r10.1), some (vi r30.1), none]) (pc := 33) dX0_layAll_33 (Nat.le_of_ble_eq_true rfl) rfl ?_
    refine V_aload_n (i := 0) (pc := 35) dX0_layAll_35 rfl rfl ?_
    refine V_iconst (v := 0) (pc := 36) dX0_layAll_36 rfl ?_
    refine V_iload (i := 4) (pc := 37) dX0_layAll_37 rfl ?_
    refine V_if_ne (pc := 39) (tgt := 50) dX0_layAll_39 rfl (fun q => ?_) (fun q => ?_)
    · have h := ite_f q h
      refine V_iload (i := 4) (pc := 50) dX0_layAll_50 rfl ?_
      refine V_sub (ls' := [none, none, none, none, none, none]) trivial ?_
      exact k_Ca_layAll_b52 h_this h hp
    · have h := ite_t q h
      refine V_aload_n (i := 0) (pc := 42) dX0_layAll_42 rfl rfl ?_
      refine V_iload_n (i := 2) (pc := 43) dX0_layAll_43 rfl rfl ?_
      obtain ⟨r44, e44, h⟩ := bnd h
      refine V_invV1 (c := 0) (pc := 44) dX0_layAll_44 (e_Ca_ringOfHeaps h_this e44) iv_Ca_132 (rm_Ca_layAll_Ca_ringOfHeaps _ _ _) rfl h_this cf_0 rfl (Nat.le_of_ble_eq_true rfl) rfl ?_
      refine V_goto (tgt := 52) (pc := 47) dX0_layAll_47 rfl ?_
      refine V_sub (ls' := [none, none, none, none, none, none]) trivial ?_
      exact k_Ca_layAll_b52 h_this h hp
theorem k_Ca_layAll {g : GE} {this : Nat} {v1 : Int32} {v2 : Int32} {m : Mem} (h_this : kd this = 1) {r : Option AV} {m' : Mem} {x : Mem} (h : Ca_layAll this v1 v2 m = some x) (hp : (fun x : Mem => r = none ∧ m' = x) x) : V g Y_Ca_layAll 0 [some (vr this), some (vi v1), some (vi v2), none, none, none] [] m (PM g Y_Ca_layAll r m') := by
  unfold Ca_layAll at h
  refine V_aload_n (i := 0) (pc := 0) dX0_layAll_0 rfl rfl ?_
  refine V_iload_n (i := 1) (pc := 1) dX0_layAll_1 rfl rfl ?_
  refine V_if_ne (pc := 2) (tgt := 9) dX0_layAll_2 rfl (fun q => ?_) (fun q => ?_)
  · have h := ite_f q h
    refine V_iload_n (i := 2) (pc := 9) dX0_layAll_9 rfl rfl ?_
    exact k_Ca_layAll_b10 h_this h hp
  · have h := ite_t q h
    refine V_iconst (v := 1) (pc := 5) dX0_layAll_5 rfl ?_
    refine V_goto (tgt := 10) (pc := 6) dX0_layAll_6 rfl ?_
    exact k_Ca_layAll_b10 h_this h hp
theorem e_Ca_layAll {g : GE} {this : Nat} {v1 : Int32} {v2 : Int32} {m : Mem} (h_this : kd this = 1) {x : Mem} (h : Ca_layAll this v1 v2 m = some x) : Ev g Y_Ca_layAll [vr this, vi v1, vi v2] m (none) x :=
  Ev_of 3 (by decide +kernel) rfl (Nat.le_of_ble_eq_true rfl) rfl (k_Ca_layAll h_this h ⟨rfl, rfl⟩)
theorem k_Ca_heapsWithSomething_b21 {g : GE} {this : Nat} {v1 : Int32} {v2 : Int32}  {m : Mem} (h_this : kd this = 1) {r : Option AV} {m' : Mem} {x : (Int32 × Int32) ⊕ (Int32)} (h : Ca_heapsWithSomething_b21 this v1 v2 m = some x) (hp : (Sum.elim (fun s : Int32 × Int32 => V g Y_Ca_heapsWithSomething 4 [some (vr this), some (vi s.1), some (vi s.2)] [] m (PM g Y_Ca_heapsWithSomething r m')) (fun x : Int32 => r = some (vi x) ∧ m' = m)) x) : V g Y_Ca_heapsWithSomething 21 [some (vr this), some (vi v1), some (vi v2)] [] m (PM g Y_Ca_heapsWithSomething r m') := by
  unfold Ca_heapsWithSomething_b21 at h
  refine V_iinc (i := 2) (v := (v2 + 1)) (ls' := [some (vr this), some (vi v1), some (vi (v2 + 1))]) (pc := 21) dX0_heapsWithSomething_21 rfl rfl (Nat.le_of_ble_eq_true rfl) rfl ?_
  refine V_goto (tgt := 4) (pc := 24) dX0_heapsWithSomething_24 rfl ?_
  obtain rfl := Option.some.inj h
  exact hp
theorem k_Ca_heapsWithSomething_l4 {g : GE} {this : Nat}  {v1 : Int32} {v2 : Int32} {m : Mem} (h_this : kd this = 1) {r : Option AV} {m' : Mem} {x : (Int32 × Int32) ⊕ (Int32)} (h : Ca_heapsWithSomething_l4 this v1 v2 m = some x) (hp : (Sum.elim (fun s : Int32 × Int32 => V g Y_Ca_heapsWithSomething 4 [some (vr this), some (vi s.1), some (vi s.2)] [] m (PM g Y_Ca_heapsWithSomething r m')) (fun x : Int32 => r = some (vi x) ∧ m' = m)) x) : V g Y_Ca_heapsWithSomething 4 [some (vr this), some (vi v1), some (vi v2)] [] m (PM g Y_Ca_heapsWithSomething r m') := by
  unfold Ca_heapsWithSomething_l4 at h
  refine V_iload_n (i := 2) (pc := 4) dX0_heapsWithSomething_4 rfl rfl ?_
  refine V_bipush (v := 8) (pc := 5) dX0_heapsWithSomething_5 rfl ?_
  refine V_icmp_ge (pc := 7) (tgt := 27) dX0_heapsWithSomething_7 rfl (fun q => ?_) (fun q => ?_)
  · have h := ite_t q h
    obtain ⟨y1, hu1, rfl⟩ := up_e h
    have h := hu1
    refine V_iload_n (i := 1) (pc := 27) dX0_heapsWithSomething_27 rfl rfl ?_
    obtain rfl := Option.some.inj h
    exact E_i (pc := 28) dX0_heapsWithSomething_28 rfl hp
  · have h := ite_f q h
    refine V_aload_n (i := 0) (pc := 10) dX0_heapsWithSomething_10 rfl rfl ?_
    refine V_iload_n (i := 2) (pc := 11) dX0_heapsWithSomething_11 rfl rfl ?_
    obtain ⟨r12, e12, h⟩ := bnd h
    refine V_invV1 (c := 0) (pc := 12) dX0_heapsWithSomething_12 (e_Ca_tonsOf h_this e12) iv_Ca_80 (rm_Ca_heapsWithSomething_Ca_tonsOf _ _ _) rfl h_this cf_0 rfl (Nat.le_of_ble_eq_true rfl) rfl ?_
    refine V_if_le (pc := 15) (tgt := 21) dX0_heapsWithSomething_15 rfl (fun q => ?_) (fun q => ?_)
    · have h := ite_t q h
      exact k_Ca_heapsWithSomething_b21 h_this h hp
    · have h := ite_f q h
      refine V_iinc (i := 1) (v := (v1 + 1)) (ls' := [some (vr this), some (vi (v1 + 1)), some (vi v2)]) (pc := 18) dX0_heapsWithSomething_18 rfl rfl (Nat.le_of_ble_eq_true rfl) rfl ?_
      exact k_Ca_heapsWithSomething_b21 h_this h hp
theorem k_Ca_heapsWithSomething {g : GE} {this : Nat} {m : Mem} (h_this : kd this = 1) {r : Option AV} {m' : Mem} {x : Int32} (h : Ca_heapsWithSomething this m = some x) (hp : (fun x : Int32 => r = some (vi x) ∧ m' = m) x) : V g Y_Ca_heapsWithSomething 0 [some (vr this), none, none] [] m (PM g Y_Ca_heapsWithSomething r m') := by
  unfold Ca_heapsWithSomething at h
  refine V_iconst (v := 0) (pc := 0) dX0_heapsWithSomething_0 rfl ?_
  refine V_istore_n (i := 1) (ls' := [some (vr this), some (vi 0), none]) (pc := 1) dX0_heapsWithSomething_1 rfl (Nat.le_of_ble_eq_true rfl) rfl ?_
  refine V_iconst (v := 0) (pc := 2) dX0_heapsWithSomething_2 rfl ?_
  refine V_istore_n (i := 2) (ls' := [some (vr this), some (vi 0), some (vi 0)]) (pc := 3) dX0_heapsWithSomething_3 rfl (Nat.le_of_ble_eq_true rfl) rfl ?_
  exact loop_V (A := fun s : Int32 × Int32 => V g Y_Ca_heapsWithSomething 4 [some (vr this), some (vi s.1), some (vi s.2)] [] m (PM g Y_Ca_heapsWithSomething r m')) (fun s x h hp => k_Ca_heapsWithSomething_l4 h_this h hp) (0, 0) _ h hp
theorem e_Ca_heapsWithSomething {g : GE} {this : Nat} {m : Mem} (h_this : kd this = 1) {x : Int32} (h : Ca_heapsWithSomething this m = some x) : Ev g Y_Ca_heapsWithSomething [vr this] m (some (vi x)) m :=
  Ev_of 2 (by decide +kernel) rfl (Nat.le_of_ble_eq_true rfl) rfl (k_Ca_heapsWithSomething h_this h ⟨rfl, rfl⟩)
theorem k_PL_lay {g : GE} {this : Nat} {v1 : Int32} {m : Mem} (h_this : kd this = 11) {r : Option AV} {m' : Mem} {x : Int32 × Mem} (h : PL_lay this v1 m = some x) (hp : (fun x : Int32 × Mem => r = some (vi x.1) ∧ m' = x.2) x) : V g Y_PL_lay 0 [some (vr this), some (vi v1), none] [] m (PM g Y_PL_lay r m') := by
  unfold PL_lay at h
  refine V_aload_n (i := 0) (pc := 0) dX10_lay_0 rfl rfl ?_
  refine V_iload_n (i := 1) (pc := 1) dX10_lay_1 rfl rfl ?_
  obtain ⟨r2, e2, h⟩ := bnd h
  refine V_invV1 (c := 10) (pc := 2) dX10_lay_2 (e_PL_cannotLay h_this e2) iv_PL_263 (rm_PL_lay_PL_cannotLay _ _ _) rfl h_this cf_10 rfl (Nat.le_of_ble_eq_true rfl) rfl ?_
  refine V_istore_n (i := 2) (ls' := [some (vr this), some (vi v1), some (vi r2)]) (pc := 5) dX10_lay_5 rfl (Nat.le_of_ble_eq_true rfl) rfl ?_
  refine V_iload_n (i := 2) (pc := 6) dX10_lay_6 rfl rfl ?_
  refine V_if_eq (pc := 7) (tgt := 12) dX10_lay_7 rfl (fun q => ?_) (fun q => ?_)
  · have h := ite_t q h
    refine V_aload_n (i := 0) (pc := 12) dX10_lay_12 rfl rfl ?_
    refine V_getR (b := (this + 27)) (pc := 13) dX10_lay_13 fl_PL_19 h_this rfl rfl ?_
    refine V_iload_n (i := 1) (pc := 16) dX10_lay_16 rfl rfl ?_
    refine V_bipush (v := 8) (pc := 17) dX10_lay_17 rfl ?_
    obtain ⟨m19, e19, h⟩ := bnd h
    refine V_invV0 (c := 0) (pc := 19) dX10_lay_19 (e_Ca_layAll (kf_10_1 h_this) e19) iv_PL_266 (rm_PL_lay_Ca_layAll _ _ _) rfl (kf_10_1 h_this) cf_0 rfl (Nat.le_of_ble_eq_true rfl) rfl ?_
    refine V_aload_n (i := 0) (pc := 22) dX10_lay_22 rfl rfl ?_
    refine V_getR (b := (this + 27)) (pc := 23) dX10_lay_23 fl_PL_19 h_this rfl rfl ?_
    obtain ⟨r26, e26, h⟩ := bnd h
    refine V_invV1 (c := 0) (pc := 26) dX10_lay_26 (e_Ca_heapsWithSomething (kf_10_1 h_this) e26) iv_PL_270 (rm_PL_lay_Ca_heapsWithSomething _ _ _) rfl (kf_10_1 h_this) cf_0 rfl (Nat.le_of_ble_eq_true rfl) rfl ?_
    obtain rfl := Option.some.inj h
    exact E_i (pc := 29) dX10_lay_29 rfl hp
  · have h := ite_f q h
    refine V_iload_n (i := 2) (pc := 10) dX10_lay_10 rfl rfl ?_
    obtain rfl := Option.some.inj h
    exact E_i (pc := 11) dX10_lay_11 rfl hp
theorem e_PL_lay {g : GE} {this : Nat} {v1 : Int32} {m : Mem} (h_this : kd this = 11) {x : Int32 × Mem} (h : PL_lay this v1 m = some x) : Ev g Y_PL_lay [vr this, vi v1] m (some (vi x.1)) x.2 :=
  Ev_of 1 (by decide +kernel) rfl (Nat.le_of_ble_eq_true rfl) rfl (k_PL_lay h_this h ⟨rfl, rfl⟩)
theorem k_Ca_copyFrom_l124 {g : GE} {this : Nat} {v1 : Nat}  {v2 : Int32} {m : Mem} (h_this : kd this = 1) (h_v1 : kd v1 = 1) {r : Option AV} {m' : Mem} {x : (Int32 × Mem) ⊕ (Mem)} (h : Ca_copyFrom_l124 this v1 v2 m = some x) (hp : (Sum.elim (fun s : Int32 × Mem => V g Y_Ca_copyFrom 124 [some (vr this), some (vr v1), some (vi s.1), none] [] s.2 (PM g Y_Ca_copyFrom r m')) (fun x : Mem => r = none ∧ m' = x)) x) : V g Y_Ca_copyFrom 124 [some (vr this), some (vr v1), some (vi v2), none] [] m (PM g Y_Ca_copyFrom r m') := by
  unfold Ca_copyFrom_l124 at h
  refine V_iload_n (i := 2) (pc := 124) dX0_copyFrom_124 rfl rfl ?_
  refine V_bipush (v := 7) (pc := 125) dX0_copyFrom_125 rfl ?_
  refine V_icmp_ge (pc := 127) (tgt := 148) dX0_copyFrom_127 rfl (fun q => ?_) (fun q => ?_)
  · have h := ite_t q h
    obtain ⟨y3, hu3, rfl⟩ := up_e h
    have h := hu3
    refine V_aload_n (i := 0) (pc := 148) dX0_copyFrom_148 rfl rfl ?_
    refine V_aload_n (i := 1) (pc := 149) dX0_copyFrom_149 rfl rfl ?_
    refine V_getI (pc := 150) dX0_copyFrom_150 fl_Ca_64 h_v1 rfl ?_
    refine V_putI_lt (pc := 153) dX0_copyFrom_153 fp_Ca_64 h_this rfl rfl rfl h (fun m153 h => ?_)
    obtain rfl := Option.some.inj h
    exact E_v (pc := 156) dX0_copyFrom_156 rfl hp
  · have h := ite_f q h
    refine V_aload_n (i := 0) (pc := 130) dX0_copyFrom_130 rfl rfl ?_
    refine V_getR (b := (this + 39)) (pc := 131) dX0_copyFrom_131 fl_Ca_39 h_this rfl rfl ?_
    refine V_iload_n (i := 2) (pc := 134) dX0_copyFrom_134 rfl rfl ?_
    refine V_aload_n (i := 1) (pc := 135) dX0_copyFrom_135 rfl rfl ?_
    refine V_getR (b := (v1 + 39)) (pc := 136) dX0_copyFrom_136 fl_Ca_39 h_v1 rfl rfl ?_
    refine V_iload_n (i := 2) (pc := 139) dX0_copyFrom_139 rfl rfl ?_
    obtain ⟨hg140, h⟩ := gd_e h
    refine V_iald (pc := 140) dX0_copyFrom_140 (kf_0_8 h_v1) (af_0_8 h_v1) hg140 ?_
    obtain ⟨hg141, h⟩ := gd_e h
    refine V_iast_lt (pc := 141) dX0_copyFrom_141 (kf_0_8 h_this) (af_0_8 h_this) hg141 h (fun m141 h => ?_)
    refine V_iinc (i := 2) (v := (v2 + 1)) (ls' := [some (vr this), some (vr v1), some (vi (v2 + 1)), none]) (pc := 142) dX0_copyFrom_142 rfl rfl (Nat.le_of_ble_eq_true rfl) rfl ?_
    refine V_goto (tgt := 124) (pc := 145) dX0_copyFrom_145 rfl ?_
    obtain rfl := Option.some.inj h
    exact hp
theorem k_Ca_copyFrom_l74 {g : GE} {this : Nat} {v1 : Nat}  {v2 : Int32} {m : Mem} (h_this : kd this = 1) (h_v1 : kd v1 = 1) {r : Option AV} {m' : Mem} {x : (Int32 × Mem) ⊕ (Mem)} (h : Ca_copyFrom_l74 this v1 v2 m = some x) (hp : (Sum.elim (fun s : Int32 × Mem => V g Y_Ca_copyFrom 74 [some (vr this), some (vr v1), some (vi s.1), none] [] s.2 (PM g Y_Ca_copyFrom r m')) (fun x : Mem => r = none ∧ m' = x)) x) : V g Y_Ca_copyFrom 74 [some (vr this), some (vr v1), some (vi v2), none] [] m (PM g Y_Ca_copyFrom r m') := by
  unfold Ca_copyFrom_l74 at h
  refine V_iload_n (i := 2) (pc := 74) dX0_copyFrom_74 rfl rfl ?_
  refine V_iconst (v := 4) (pc := 75) dX0_copyFrom_75 rfl ?_
  refine V_icmp_ge (pc := 76) (tgt := 114) dX0_copyFrom_76 rfl (fun q => ?_) (fun q => ?_)
  · have h := ite_t q h
    obtain ⟨y2, hu2, rfl⟩ := up_e h
    have h := hu2
    refine V_aload_n (i := 0) (pc := 114) dX0_copyFrom_114 rfl rfl ?_
    refine V_aload_n (i := 1) (pc := 115) dX0_copyFrom_115 rfl rfl ?_
    refine V_getI (pc := 116) dX0_copyFrom_116 fl_Ca_61 h_v1 rfl ?_
    refine V_putI_lt (pc := 119) dX0_copyFrom_119 fp_Ca_61 h_this rfl rfl rfl h (fun m119 h => ?_)
    refine V_iconst (v := 0) (pc := 122) dX0_copyFrom_122 rfl ?_
    refine V_istore_n (i := 2) (ls' := [some (vr this), some (vr v1), some (vi 0), none]) (pc := 123) dX0_copyFrom_123 rfl (Nat.le_of_ble_eq_true rfl) rfl ?_
    exact loop_V (A := fun s : Int32 × Mem => V g Y_Ca_copyFrom 124 [some (vr this), some (vr v1), some (vi s.1), none] [] s.2 (PM g Y_Ca_copyFrom r m')) (fun s x h hp => k_Ca_copyFrom_l124 h_this h_v1 h hp) (0, m119) _ h hp
  · have h := ite_f q h
    refine V_aload_n (i := 0) (pc := 79) dX0_copyFrom_79 rfl rfl ?_
    refine V_iload_n (i := 2) (pc := 80) dX0_copyFrom_80 rfl rfl ?_
    refine V_aload_n (i := 1) (pc := 81) dX0_copyFrom_81 rfl rfl ?_
    refine V_getR (b := (v1 + 36)) (pc := 82) dX0_copyFrom_82 fl_Ca_30 h_v1 rfl rfl ?_
    refine V_iload_n (i := 2) (pc := 85) dX0_copyFrom_85 rfl rfl ?_
    obtain ⟨hg86, h⟩ := gd_e h
    refine V_iald (pc := 86) dX0_copyFrom_86 (kf_0_4 h_v1) (af_0_4 h_v1) hg86 ?_
    refine V_aload_n (i := 1) (pc := 87) dX0_copyFrom_87 rfl rfl ?_
    refine V_getR (b := (v1 + 37)) (pc := 88) dX0_copyFrom_88 fl_Ca_33 h_v1 rfl rfl ?_
    refine V_iload_n (i := 2) (pc := 91) dX0_copyFrom_91 rfl rfl ?_
    obtain ⟨hg92, h⟩ := gd_e h
    refine V_iald (pc := 92) dX0_copyFrom_92 (kf_0_5 h_v1) (af_0_5 h_v1) hg92 ?_
    obtain ⟨m93, e93, h⟩ := bnd h
    refine V_invV0 (c := 0) (pc := 93) dX0_copyFrom_93 (e_Ca_placeGroup h_this e93) iv_Ca_53 (rm_Ca_copyFrom_Ca_placeGroup _ _ _) rfl h_this cf_0 rfl (Nat.le_of_ble_eq_true rfl) rfl ?_
    refine V_aload_n (i := 0) (pc := 96) dX0_copyFrom_96 rfl rfl ?_
    refine V_getR (b := (this + 38)) (pc := 97) dX0_copyFrom_97 fl_Ca_36 h_this rfl rfl ?_
    refine V_iload_n (i := 2) (pc := 100) dX0_copyFrom_100 rfl rfl ?_
    refine V_aload_n (i := 1) (pc := 101) dX0_copyFrom_101 rfl rfl ?_
    refine V_getR (b := (v1 + 38)) (pc := 102) dX0_copyFrom_102 fl_Ca_36 h_v1 rfl rfl ?_
    refine V_iload_n (i := 2) (pc := 105) dX0_copyFrom_105 rfl rfl ?_
    obtain ⟨hg106, h⟩ := gd_e h
    refine V_iald (pc := 106) dX0_copyFrom_106 (kf_0_6 h_v1) (af_0_6 h_v1) hg106 ?_
    obtain ⟨hg107, h⟩ := gd_e h
    refine V_iast_lt (pc := 107) dX0_copyFrom_107 (kf_0_6 h_this) (af_0_6 h_this) hg107 h (fun m107 h => ?_)
    refine V_iinc (i := 2) (v := (v2 + 1)) (ls' := [some (vr this), some (vr v1), some (vi (v2 + 1)), none]) (pc := 108) dX0_copyFrom_108 rfl rfl (Nat.le_of_ble_eq_true rfl) rfl ?_
    refine V_goto (tgt := 74) (pc := 111) dX0_copyFrom_111 rfl ?_
    obtain rfl := Option.some.inj h
    exact hp
theorem k_Ca_copyFrom_l38 {g : GE} {this : Nat} {v1 : Nat} {v2 : Int32} {v3 : Int32} {m : Mem} (h_this : kd this = 1) (h_v1 : kd v1 = 1) {r : Option AV} {m' : Mem} {x : (Int32 × Mem) ⊕ ((Int32 × Mem) ⊕ (Mem))} (h : Ca_copyFrom_l38 this v1 v2 v3 m = some x) (hp : (Sum.elim (fun s : Int32 × Mem => V g Y_Ca_copyFrom 38 [some (vr this), some (vr v1), some (vi v2), some (vi s.1)] [] s.2 (PM g Y_Ca_copyFrom r m')) (Sum.elim (fun s : Int32 × Mem => V g Y_Ca_copyFrom 13 [some (vr this), some (vr v1), some (vi s.1), none] [] s.2 (PM g Y_Ca_copyFrom r m')) (fun x : Mem => r = none ∧ m' = x))) x) : V g Y_Ca_copyFrom 38 [some (vr this), some (vr v1), some (vi v2), some (vi v3)] [] m (PM g Y_Ca_copyFrom r m') := by
  unfold Ca_copyFrom_l38 at h
  refine V_iload_n (i := 3) (pc := 38) dX0_copyFrom_38 rfl rfl ?_
  refine V_bipush (v := 6) (pc := 39) dX0_copyFrom_39 rfl ?_
  refine V_icmp_ge (pc := 41) (tgt := 66) dX0_copyFrom_41 rfl (fun q => ?_) (fun q => ?_)
  · have h := ite_t q h
    obtain ⟨y4, hu4, rfl⟩ := up_e h
    have h := hu4
    refine V_iinc (i := 2) (v := (v2 + 1)) (ls' := [some (vr this), some (vr v1), some (vi (v2 + 1)), some (vi v3)]) (pc := 66) dX0_copyFrom_66 rfl rfl (Nat.le_of_ble_eq_true rfl) rfl ?_
    refine V_goto (tgt := 13) (pc := 69) dX0_copyFrom_69 rfl ?_
    refine V_sub (ls' := [some (vr this), some (vr v1), some (vi (v2 + 1)), none]) (And.intro rfl (And.intro rfl (And.intro rfl trivial))) ?_
    obtain rfl := Option.some.inj h
    exact hp
  · have h := ite_f q h
    refine V_aload_n (i := 0) (pc := 44) dX0_copyFrom_44 rfl rfl ?_
    refine V_getR (b := (this + 27)) (pc := 45) dX0_copyFrom_45 fl_Ca_27 h_this rfl rfl ?_
    refine V_iload_n (i := 2) (pc := 48) dX0_copyFrom_48 rfl rfl ?_
    obtain ⟨hg49, h⟩ := gd_e h
    refine V_aald (b := ((this + 27) + (1 + ix v2))) (k := 4) (pc := 49) dX0_copyFrom_49 (kf_0_3 h_this) (by decide) (af_0_3 h_this) hg49 rfl ?_
    refine V_iload_n (i := 3) (pc := 50) dX0_copyFrom_50 rfl rfl ?_
    refine V_aload_n (i := 1) (pc := 51) dX0_copyFrom_51 rfl rfl ?_
    refine V_getR (b := (v1 + 27)) (pc := 52) dX0_copyFrom_52 fl_Ca_27 h_v1 rfl rfl ?_
    refine V_iload_n (i := 2) (pc := 55) dX0_copyFrom_55 rfl rfl ?_
    obtain ⟨hg56, h⟩ := gd_e h
    refine V_aald (b := ((v1 + 27) + (1 + ix v2))) (k := 4) (pc := 56) dX0_copyFrom_56 (kf_0_3 h_v1) (by decide) (af_0_3 h_v1) hg56 rfl ?_
    refine V_iload_n (i := 3) (pc := 57) dX0_copyFrom_57 rfl rfl ?_
    obtain ⟨hg58, h⟩ := gd_e h
    refine V_iald (pc := 58) dX0_copyFrom_58 (ka24 (kf_0_3 h_v1) (af_0_3 h_v1) hg56) ((la24 (kf_0_3 h_v1) (af_0_3 h_v1) hg56).trans (ag_0_3 h_v1)) hg58 ?_
    obtain ⟨hg59, h⟩ := gd_e h
    refine V_iast_lt (pc := 59) dX0_copyFrom_59 (ka24 (kf_0_3 h_this) (af_0_3 h_this) hg49) ((la24 (kf_0_3 h_this) (af_0_3 h_this) hg49).trans (ag_0_3 h_this)) hg59 h (fun m59 h => ?_)
    refine V_iinc (i := 3) (v := (v3 + 1)) (ls' := [some (vr this), some (vr v1), some (vi v2), some (vi (v3 + 1))]) (pc := 60) dX0_copyFrom_60 rfl rfl (Nat.le_of_ble_eq_true rfl) rfl ?_
    refine V_goto (tgt := 38) (pc := 63) dX0_copyFrom_63 rfl ?_
    obtain rfl := Option.some.inj h
    exact hp
theorem k_Ca_copyFrom_l13 {g : GE} {this : Nat} {v1 : Nat}  {v2 : Int32} {m : Mem} (h_this : kd this = 1) (h_v1 : kd v1 = 1) {r : Option AV} {m' : Mem} {x : (Int32 × Mem) ⊕ (Mem)} (h : Ca_copyFrom_l13 this v1 v2 m = some x) (hp : (Sum.elim (fun s : Int32 × Mem => V g Y_Ca_copyFrom 13 [some (vr this), some (vr v1), some (vi s.1), none] [] s.2 (PM g Y_Ca_copyFrom r m')) (fun x : Mem => r = none ∧ m' = x)) x) : V g Y_Ca_copyFrom 13 [some (vr this), some (vr v1), some (vi v2), none] [] m (PM g Y_Ca_copyFrom r m') := by
  unfold Ca_copyFrom_l13 at h
  refine V_iload_n (i := 2) (pc := 13) dX0_copyFrom_13 rfl rfl ?_
  refine V_bipush (v := 8) (pc := 14) dX0_copyFrom_14 rfl ?_
  refine V_icmp_ge (pc := 16) (tgt := 72) dX0_copyFrom_16 rfl (fun q => ?_) (fun q => ?_)
  · have h := ite_t q h
    obtain ⟨y1, hu1, rfl⟩ := up_e h
    have h := hu1
    refine V_iconst (v := 0) (pc := 72) dX0_copyFrom_72 rfl ?_
    refine V_istore_n (i := 2) (ls' := [some (vr this), some (vr v1), some (vi 0), none]) (pc := 73) dX0_copyFrom_73 rfl (Nat.le_of_ble_eq_true rfl) rfl ?_
    exact loop_V (A := fun s : Int32 × Mem => V g Y_Ca_copyFrom 74 [some (vr this), some (vr v1), some (vi s.1), none] [] s.2 (PM g Y_Ca_copyFrom r m')) (fun s x h hp => k_Ca_copyFrom_l74 h_this h_v1 h hp) (0, m) _ h hp
  · have h := ite_f q h
    refine V_aload_n (i := 0) (pc := 19) dX0_copyFrom_19 rfl rfl ?_
    refine V_iload_n (i := 2) (pc := 20) dX0_copyFrom_20 rfl rfl ?_
    refine V_aload_n (i := 1) (pc := 21) dX0_copyFrom_21 rfl rfl ?_
    refine V_getR (b := (v1 + 25)) (pc := 22) dX0_copyFrom_22 fl_Ca_18 h_v1 rfl rfl ?_
    refine V_iload_n (i := 2) (pc := 25) dX0_copyFrom_25 rfl rfl ?_
    obtain ⟨hg26, h⟩ := gd_e h
    refine V_iald (pc := 26) dX0_copyFrom_26 (kf_0_1 h_v1) (af_0_1 h_v1) hg26 ?_
    refine V_aload_n (i := 1) (pc := 27) dX0_copyFrom_27 rfl rfl ?_
    refine V_getR (b := (v1 + 26)) (pc := 28) dX0_copyFrom_28 fl_Ca_22 h_v1 rfl rfl ?_
    refine V_iload_n (i := 2) (pc := 31) dX0_copyFrom_31 rfl rfl ?_
    obtain ⟨hg32, h⟩ := gd_e h
    refine V_iald (pc := 32) dX0_copyFrom_32 (kf_0_2 h_v1) (af_0_2 h_v1) hg32 ?_
    obtain ⟨m33, e33, h⟩ := bnd h
    refine V_invV0 (c := 0) (pc := 33) dX0_copyFrom_33 (e_Ca_placeHeap h_this e33) iv_Ca_67 (rm_Ca_copyFrom_Ca_placeHeap _ _ _) rfl h_this cf_0 rfl (Nat.le_of_ble_eq_true rfl) rfl ?_
    refine V_iconst (v := 0) (pc := 36) dX0_copyFrom_36 rfl ?_
    refine V_istore_n (i := 3) (ls' := [some (vr this), some (vr v1), some (vi v2), some (vi 0)]) (pc := 37) dX0_copyFrom_37 rfl (Nat.le_of_ble_eq_true rfl) rfl ?_
    exact loop_V (A := fun s : Int32 × Mem => V g Y_Ca_copyFrom 38 [some (vr this), some (vr v1), some (vi v2), some (vi s.1)] [] s.2 (PM g Y_Ca_copyFrom r m')) (fun s x h hp => k_Ca_copyFrom_l38 h_this h_v1 h hp) (0, m33) _ h hp
theorem k_Ca_copyFrom {g : GE} {this : Nat} {v1 : Nat} {m : Mem} (h_this : kd this = 1) (h_v1 : kd v1 = 1) {r : Option AV} {m' : Mem} {x : Mem} (h : Ca_copyFrom this v1 m = some x) (hp : (fun x : Mem => r = none ∧ m' = x) x) : V g Y_Ca_copyFrom 0 [some (vr this), some (vr v1), none, none] [] m (PM g Y_Ca_copyFrom r m') := by
  unfold Ca_copyFrom at h
  refine V_aload_n (i := 0) (pc := 0) dX0_copyFrom_0 rfl rfl ?_
  refine V_getR (b := (this + 1)) (pc := 1) dX0_copyFrom_1 fl_Ca_12 h_this rfl rfl ?_
  refine V_aload_n (i := 1) (pc := 4) dX0_copyFrom_4 rfl rfl ?_
  refine V_getR (b := (v1 + 1)) (pc := 5) dX0_copyFrom_5 fl_Ca_12 h_v1 rfl rfl ?_
  obtain ⟨m8, e8, h⟩ := bnd h
  refine V_invV0 (c := 2) (pc := 8) dX0_copyFrom_8 (e_Fl_copyFrom (kf_0_0 h_this) (kf_0_0 h_v1) e8) iv_Ca_45 (rm_Ca_copyFrom_Fl_copyFrom _ _ _) rfl (kf_0_0 h_this) cf_2 rfl (Nat.le_of_ble_eq_true rfl) rfl ?_
  refine V_iconst (v := 0) (pc := 11) dX0_copyFrom_11 rfl ?_
  refine V_istore_n (i := 2) (ls' := [some (vr this), some (vr v1), some (vi 0), none]) (pc := 12) dX0_copyFrom_12 rfl (Nat.le_of_ble_eq_true rfl) rfl ?_
  exact loop_V (A := fun s : Int32 × Mem => V g Y_Ca_copyFrom 13 [some (vr this), some (vr v1), some (vi s.1), none] [] s.2 (PM g Y_Ca_copyFrom r m')) (fun s x h hp => k_Ca_copyFrom_l13 h_this h_v1 h hp) (0, m8) _ h hp
theorem e_Ca_copyFrom {g : GE} {this : Nat} {v1 : Nat} {m : Mem} (h_this : kd this = 1) (h_v1 : kd v1 = 1) {x : Mem} (h : Ca_copyFrom this v1 m = some x) : Ev g Y_Ca_copyFrom [vr this, vr v1] m (none) x :=
  Ev_of 2 (by decide +kernel) rfl (Nat.le_of_ble_eq_true rfl) rfl (k_Ca_copyFrom h_this h_v1 h ⟨rfl, rfl⟩)
theorem k_Tr_lostIfLaid {g : GE} {this : Nat} {v1 : Nat} {v2 : Int32} {v3 : Int32} {m : Mem} (h_this : kd this = 10) (h_v1 : kd v1 = 1) {r : Option AV} {m' : Mem} {x : Int64 × Mem} (h : Tr_lostIfLaid this v1 v2 v3 m = some x) (hp : (fun x : Int64 × Mem => r = some (vl x.1) ∧ m' = x.2) x) : V g Y_Tr_lostIfLaid 0 [some (vr this), some (vr v1), some (vi v2), some (vi v3)] [] m (PM g Y_Tr_lostIfLaid r m') := by
  unfold Tr_lostIfLaid at h
  refine V_aload_n (i := 0) (pc := 0) dX9_lostIfLaid_0 rfl rfl ?_
  refine V_getR (b := (this + 1)) (pc := 1) dX9_lostIfLaid_1 fl_Tr_12 h_this rfl rfl ?_
  refine V_aload_n (i := 1) (pc := 4) dX9_lostIfLaid_4 rfl rfl ?_
  obtain ⟨m5, e5, h⟩ := bnd h
  refine V_invV0 (c := 0) (pc := 5) dX9_lostIfLaid_5 (e_Ca_copyFrom (kf_9_0 h_this) h_v1 e5) iv_Tr_25 (rm_Tr_lostIfLaid_Ca_copyFrom _ _ _) rfl (kf_9_0 h_this) cf_0 rfl (Nat.le_of_ble_eq_true rfl) rfl ?_
  refine V_aload_n (i := 0) (pc := 8) dX9_lostIfLaid_8 rfl rfl ?_
  refine V_getR (b := (this + 1)) (pc := 9) dX9_lostIfLaid_9 fl_Tr_12 h_this rfl rfl ?_
  refine V_iload_n (i := 2) (pc := 12) dX9_lostIfLaid_12 rfl rfl ?_
  refine V_iload_n (i := 3) (pc := 13) dX9_lostIfLaid_13 rfl rfl ?_
  obtain ⟨m14, e14, h⟩ := bnd h
  refine V_invV0 (c := 0) (pc := 14) dX9_lostIfLaid_14 (e_Ca_layAll (kf_9_0 h_this) e14) iv_Tr_29 (rm_Tr_lostIfLaid_Ca_layAll _ _ _) rfl (kf_9_0 h_this) cf_0 rfl (Nat.le_of_ble_eq_true rfl) rfl ?_
  refine V_aload_n (i := 0) (pc := 17) dX9_lostIfLaid_17 rfl rfl ?_
  refine V_getR (b := (this + 42)) (pc := 18) dX9_lostIfLaid_18 fl_Tr_21 h_this rfl rfl ?_
  refine V_aload_n (i := 0) (pc := 21) dX9_lostIfLaid_21 rfl rfl ?_
  refine V_getR (b := (this + 1)) (pc := 22) dX9_lostIfLaid_22 fl_Tr_12 h_this rfl rfl ?_
  refine V_iconst (v := 1) (pc := 25) dX9_lostIfLaid_25 rfl ?_
  obtain ⟨r26, e26, h⟩ := bnd h
  refine V_invV1 (c := 4) (pc := 26) dX9_lostIfLaid_26 (e_Ic_lostIn (kf_9_1 h_this) (kf_9_0 h_this) e26) iv_Tr_33 (rm_Tr_lostIfLaid_Ic_lostIn _ _ _) rfl (kf_9_1 h_this) cf_4 rfl (Nat.le_of_ble_eq_true rfl) rfl ?_
  obtain rfl := Option.some.inj h
  exact E_l (pc := 29) dX9_lostIfLaid_29 rfl hp
theorem e_Tr_lostIfLaid {g : GE} {this : Nat} {v1 : Nat} {v2 : Int32} {v3 : Int32} {m : Mem} (h_this : kd this = 10) (h_v1 : kd v1 = 1) {x : Int64 × Mem} (h : Tr_lostIfLaid this v1 v2 v3 m = some x) : Ev g Y_Tr_lostIfLaid [vr this, vr v1, vi v2, vi v3] m (some (vl x.1)) x.2 :=
  Ev_of 0 (by decide +kernel) rfl (Nat.le_of_ble_eq_true rfl) rfl (k_Tr_lostIfLaid h_this h_v1 h ⟨rfl, rfl⟩)
theorem k_PL_trial {g : GE} {this : Nat} {v1 : Int32} {m : Mem} (h_this : kd this = 11) {r : Option AV} {m' : Mem} {x : Int64 × Mem} (h : PL_trial this v1 m = some x) (hp : (fun x : Int64 × Mem => r = some (vl x.1) ∧ m' = x.2) x) : V g Y_PL_trial 0 [some (vr this), some (vi v1), none] [] m (PM g Y_PL_trial r m') := by
  unfold PL_trial at h
  refine V_aload_n (i := 0) (pc := 0) dX10_trial_0 rfl rfl ?_
  refine V_iload_n (i := 1) (pc := 1) dX10_trial_1 rfl rfl ?_
  obtain ⟨r2, e2, h⟩ := bnd h
  refine V_invV1 (c := 10) (pc := 2) dX10_trial_2 (e_PL_cannotLay h_this e2) iv_PL_263 (rm_PL_trial_PL_cannotLay _ _ _) rfl h_this cf_10 rfl (Nat.le_of_ble_eq_true rfl) rfl ?_
  refine V_istore_n (i := 2) (ls' := [some (vr this), some (vi v1), some (vi r2)]) (pc := 5) dX10_trial_5 rfl (Nat.le_of_ble_eq_true rfl) rfl ?_
  refine V_iload_n (i := 2) (pc := 6) dX10_trial_6 rfl rfl ?_
  refine V_if_eq (pc := 7) (tgt := 15) dX10_trial_7 rfl (fun q => ?_) (fun q => ?_)
  · have h := ite_t q h
    refine V_aload_n (i := 0) (pc := 15) dX10_trial_15 rfl rfl ?_
    refine V_getR (b := (this + 219)) (pc := 16) dX10_trial_16 fl_PL_48 h_this rfl rfl ?_
    refine V_aload_n (i := 0) (pc := 19) dX10_trial_19 rfl rfl ?_
    refine V_getR (b := (this + 27)) (pc := 20) dX10_trial_20 fl_PL_19 h_this rfl rfl ?_
    refine V_iload_n (i := 1) (pc := 23) dX10_trial_23 rfl rfl ?_
    refine V_bipush (v := 8) (pc := 24) dX10_trial_24 rfl ?_
    obtain ⟨r26, e26, h⟩ := bnd h
    refine V_invV1 (c := 9) (pc := 26) dX10_trial_26 (e_Tr_lostIfLaid (kf_10_6 h_this) (kf_10_1 h_this) e26) iv_PL_273 (rm_PL_trial_Tr_lostIfLaid _ _ _) rfl (kf_10_6 h_this) cf_9 rfl (Nat.le_of_ble_eq_true rfl) rfl ?_
    obtain rfl := Option.some.inj h
    exact E_l (pc := 29) dX10_trial_29 rfl hp
  · have h := ite_f q h
    refine V_iload_n (i := 2) (pc := 10) dX10_trial_10 rfl rfl ?_
    refine V_i2l (pc := 11) dX10_trial_11 ?_
    refine V_goto (tgt := 29) (pc := 12) dX10_trial_12 rfl ?_
    obtain rfl := Option.some.inj h
    exact E_l (pc := 29) dX10_trial_29 rfl hp
theorem e_PL_trial {g : GE} {this : Nat} {v1 : Int32} {m : Mem} (h_this : kd this = 11) {x : Int64 × Mem} (h : PL_trial this v1 m = some x) : Ev g Y_PL_trial [vr this, vi v1] m (some (vl x.1)) x.2 :=
  Ev_of 1 (by decide +kernel) rfl (Nat.le_of_ble_eq_true rfl) rfl (k_PL_trial h_this h ⟨rfl, rfl⟩)
theorem k_Tr_bestLaying_b44 {g : GE} {this : Nat} {v1 : Nat} {v2 : Int32} {v3 : Int64} {v5 : Int32}  {m : Mem} (h_this : kd this = 10) (h_v1 : kd v1 = 1) {r : Option AV} {m' : Mem} {x : (Int32 × Int64 × Int32 × Mem) ⊕ (Int32 × Mem)} (h : Tr_bestLaying_b44 this v1 v2 v3 v5 m = some x) (hp : (Sum.elim (fun s : Int32 × Int64 × Int32 × Mem => V g Y_Tr_bestLaying 14 [some (vr this), some (vr v1), some (vi s.1), some (vl s.2.1), none, some (vi s.2.2.1), none, none] [] s.2.2.2 (PM g Y_Tr_bestLaying r m')) (fun x : Int32 × Mem => r = some (vi x.1) ∧ m' = x.2)) x) : V g Y_Tr_bestLaying 44 [some (vr this), some (vr v1), some (vi v2), some (vl v3), none, some (vi v5), none, none] [] m (PM g Y_Tr_bestLaying r m') := by
  unfold Tr_bestLaying_b44 at h
  refine V_iinc (i := 5) (v := (v5 + 1)) (ls' := [some (vr this), some (vr v1), some (vi v2), some (vl v3), none, some (vi (v5 + 1)), none, none]) (pc := 44) dX9_bestLaying_44 rfl rfl (Nat.le_of_ble_eq_true rfl) rfl ?_
  refine V_goto (tgt := 14) (pc := 47) dX9_bestLaying_47 rfl ?_
  obtain rfl := Option.some.inj h
  exact hp
theorem k_Tr_bestLaying_l14 {g : GE} {this : Nat} {v1 : Nat}  {v2 : Int32} {v3 : Int64} {v5 : Int32} {m : Mem} (h_this : kd this = 10) (h_v1 : kd v1 = 1) {r : Option AV} {m' : Mem} {x : (Int32 × Int64 × Int32 × Mem) ⊕ (Int32 × Mem)} (h : Tr_bestLaying_l14 this v1 v2 v3 v5 m = some x) (hp : (Sum.elim (fun s : Int32 × Int64 × Int32 × Mem => V g Y_Tr_bestLaying 14 [some (vr this), some (vr v1), some (vi s.1), some (vl s.2.1), none, some (vi s.2.2.1), none, none] [] s.2.2.2 (PM g Y_Tr_bestLaying r m')) (fun x : Int32 × Mem => r = some (vi x.1) ∧ m' = x.2)) x) : V g Y_Tr_bestLaying 14 [some (vr this), some (vr v1), some (vi v2), some (vl v3), none, some (vi v5), none, none] [] m (PM g Y_Tr_bestLaying r m') := by
  unfold Tr_bestLaying_l14 at h
  refine V_iload (i := 5) (pc := 14) dX9_bestLaying_14 rfl ?_
  refine V_iconst (v := 4) (pc := 16) dX9_bestLaying_16 rfl ?_
  refine V_icmp_ge (pc := 17) (tgt := 50) dX9_bestLaying_17 rfl (fun q => ?_) (fun q => ?_)
  · have h := ite_t q h
    obtain ⟨y1, hu1, rfl⟩ := up_e h
    have h := hu1
    refine V_iload_n (i := 2) (pc := 50) dX9_bestLaying_50 rfl rfl ?_
    obtain rfl := Option.some.inj h
    exact E_i (pc := 51) dX9_bestLaying_51 rfl hp
  · have h := ite_f q h
    refine V_aload_n (i := 0) (pc := 20) dX9_bestLaying_20 rfl rfl ?_
    refine V_aload_n (i := 1) (pc := 21) dX9_bestLaying_21 rfl rfl ?_
    refine V_iload (i := 5) (pc := 22) dX9_bestLaying_22 rfl ?_
    refine V_bipush (v := 8) (pc := 24) dX9_bestLaying_24 rfl ?_
    obtain ⟨r26, e26, h⟩ := bnd h
    refine V_invV1 (c := 9) (pc := 26) dX9_bestLaying_26 (e_Tr_lostIfLaid h_this h_v1 e26) iv_Tr_37 (rm_Tr_bestLaying_Tr_lostIfLaid _ _ _) rfl h_this cf_9 rfl (Nat.le_of_ble_eq_true rfl) rfl ?_
    refine V_lstore (i := 6) (ls' := [some (vr this), some (vr v1), some (vi v2), some (vl v3), none, some (vi v5), some (vl r26.1), none]) (pc := 29) dX9_bestLaying_29 (Nat.le_of_ble_eq_true rfl) rfl ?_
    refine V_lload (i := 6) (pc := 31) dX9_bestLaying_31 rfl ?_
    refine V_lload_n (i := 3) (pc := 33) dX9_bestLaying_33 rfl rfl ?_
    refine V_lif_ge (pc := 34) (tgt := 44) dX9_bestLaying_34 dX9_bestLaying_35 rfl (fun q => ?_) (fun q => ?_)
    · have h := ite_t q h
      refine V_sub (ls' := [some (vr this), some (vr v1), some (vi v2), some (vl v3), none, some (vi v5), none, none]) (And.intro rfl (And.intro rfl (And.intro rfl (And.intro rfl (And.intro rfl trivial))))) ?_
      exact k_Tr_bestLaying_b44 h_this h_v1 h hp
    · have h := ite_f q h
      refine V_lload (i := 6) (pc := 38) dX9_bestLaying_38 rfl ?_
      refine V_lstore_n (i := 3) (ls' := [some (vr this), some (vr v1), some (vi v2), some (vl r26.1), none, some (vi v5), some (vl r26.1), none]) (pc := 40) dX9_bestLaying_40 rfl (Nat.le_of_ble_eq_true rfl) rfl ?_
      refine V_iload (i := 5) (pc := 41) dX9_bestLaying_41 rfl ?_
      refine V_istore_n (i := 2) (ls' := [some (vr this), some (vr v1), some (vi v5), some (vl r26.1), none, some (vi v5), some (vl r26.1), none]) (pc := 43) dX9_bestLaying_43 rfl (Nat.le_of_ble_eq_true rfl) rfl ?_
      refine V_sub (ls' := [some (vr this), some (vr v1), some (vi v5), some (vl r26.1), none, some (vi v5), none, none]) (And.intro rfl (And.intro rfl (And.intro rfl (And.intro rfl (And.intro rfl trivial))))) ?_
      exact k_Tr_bestLaying_b44 h_this h_v1 h hp
theorem k_Tr_bestLaying {g : GE} {this : Nat} {v1 : Nat} {m : Mem} (h_this : kd this = 10) (h_v1 : kd v1 = 1) {r : Option AV} {m' : Mem} {x : Int32 × Mem} (h : Tr_bestLaying this v1 m = some x) (hp : (fun x : Int32 × Mem => r = some (vi x.1) ∧ m' = x.2) x) : V g Y_Tr_bestLaying 0 [some (vr this), some (vr v1), none, none, none, none, none, none] [] m (PM g Y_Tr_bestLaying r m') := by
  unfold Tr_bestLaying at h
  refine V_iconst (v := 0) (pc := 0) dX9_bestLaying_0 rfl ?_
  refine V_istore_n (i := 2) (ls' := [some (vr this), some (vr v1), some (vi 0), none, none, none, none, none]) (pc := 1) dX9_bestLaying_1 rfl (Nat.le_of_ble_eq_true rfl) rfl ?_
  refine V_aload_n (i := 0) (pc := 2) dX9_bestLaying_2 rfl rfl ?_
  refine V_aload_n (i := 1) (pc := 3) dX9_bestLaying_3 rfl rfl ?_
  refine V_iconst (v := 0) (pc := 4) dX9_bestLaying_4 rfl ?_
  refine V_bipush (v := 8) (pc := 5) dX9_bestLaying_5 rfl ?_
  obtain ⟨r7, e7, h⟩ := bnd h
  refine V_invV1 (c := 9) (pc := 7) dX9_bestLaying_7 (e_Tr_lostIfLaid h_this h_v1 e7) iv_Tr_37 (rm_Tr_bestLaying_Tr_lostIfLaid _ _ _) rfl h_this cf_9 rfl (Nat.le_of_ble_eq_true rfl) rfl ?_
  refine V_lstore_n (i := 3) (ls' := [some (vr this), some (vr v1), some (vi 0), some (vl r7.1), none, none, none, none]) (pc := 10) dX9_bestLaying_10 rfl (Nat.le_of_ble_eq_true rfl) rfl ?_
  refine V_iconst (v := 1) (pc := 11) dX9_bestLaying_11 rfl ?_
  refine V_istore (i := 5) (ls' := [some (vr this), some (vr v1), some (vi 0), some (vl r7.1), none, some (vi 1), none, none]) (pc := 12) dX9_bestLaying_12 (Nat.le_of_ble_eq_true rfl) rfl ?_
  exact loop_V (A := fun s : Int32 × Int64 × Int32 × Mem => V g Y_Tr_bestLaying 14 [some (vr this), some (vr v1), some (vi s.1), some (vl s.2.1), none, some (vi s.2.2.1), none, none] [] s.2.2.2 (PM g Y_Tr_bestLaying r m')) (fun s x h hp => k_Tr_bestLaying_l14 h_this h_v1 h hp) (0, r7.1, 1, r7.2) _ h hp
theorem e_Tr_bestLaying {g : GE} {this : Nat} {v1 : Nat} {m : Mem} (h_this : kd this = 10) (h_v1 : kd v1 = 1) {x : Int32 × Mem} (h : Tr_bestLaying this v1 m = some x) : Ev g Y_Tr_bestLaying [vr this, vr v1] m (some (vi x.1)) x.2 :=
  Ev_of 6 (by decide +kernel) rfl (Nat.le_of_ble_eq_true rfl) rfl (k_Tr_bestLaying h_this h_v1 h ⟨rfl, rfl⟩)
theorem k_PL_best {g : GE} {this : Nat} {m : Mem} (h_this : kd this = 11) {r : Option AV} {m' : Mem} {x : Int32 × Mem} (h : PL_best this m = some x) (hp : (fun x : Int32 × Mem => r = some (vi x.1) ∧ m' = x.2) x) : V g Y_PL_best 0 [some (vr this), none] [] m (PM g Y_PL_best r m') := by
  unfold PL_best at h
  refine V_aload_n (i := 0) (pc := 0) dX10_best_0 rfl rfl ?_
  refine V_iconst (v := 0) (pc := 1) dX10_best_1 rfl ?_
  obtain ⟨r2, e2, h⟩ := bnd h
  refine V_invV1 (c := 10) (pc := 2) dX10_best_2 (e_PL_cannotLay h_this e2) iv_PL_263 (rm_PL_best_PL_cannotLay _ _ _) rfl h_this cf_10 rfl (Nat.le_of_ble_eq_true rfl) rfl ?_
  refine V_istore_n (i := 1) (ls' := [some (vr this), some (vi r2)]) (pc := 5) dX10_best_5 rfl (Nat.le_of_ble_eq_true rfl) rfl ?_
  refine V_iload_n (i := 1) (pc := 6) dX10_best_6 rfl rfl ?_
  refine V_if_eq (pc := 7) (tgt := 14) dX10_best_7 rfl (fun q => ?_) (fun q => ?_)
  · have h := ite_t q h
    refine V_aload_n (i := 0) (pc := 14) dX10_best_14 rfl rfl ?_
    refine V_getR (b := (this + 219)) (pc := 15) dX10_best_15 fl_PL_48 h_this rfl rfl ?_
    refine V_aload_n (i := 0) (pc := 18) dX10_best_18 rfl rfl ?_
    refine V_getR (b := (this + 27)) (pc := 19) dX10_best_19 fl_PL_19 h_this rfl rfl ?_
    obtain ⟨r22, e22, h⟩ := bnd h
    refine V_invV1 (c := 9) (pc := 22) dX10_best_22 (e_Tr_bestLaying (kf_10_6 h_this) (kf_10_1 h_this) e22) iv_PL_277 (rm_PL_best_Tr_bestLaying _ _ _) rfl (kf_10_6 h_this) cf_9 rfl (Nat.le_of_ble_eq_true rfl) rfl ?_
    obtain rfl := Option.some.inj h
    exact E_i (pc := 25) dX10_best_25 rfl hp
  · have h := ite_f q h
    refine V_iload_n (i := 1) (pc := 10) dX10_best_10 rfl rfl ?_
    refine V_goto (tgt := 25) (pc := 11) dX10_best_11 rfl ?_
    obtain rfl := Option.some.inj h
    exact E_i (pc := 25) dX10_best_25 rfl hp
theorem e_PL_best {g : GE} {this : Nat} {m : Mem} (h_this : kd this = 11) {x : Int32 × Mem} (h : PL_best this m = some x) : Ev g Y_PL_best [vr this] m (some (vi x.1)) x.2 :=
  Ev_of 1 (by decide +kernel) rfl (Nat.le_of_ble_eq_true rfl) rfl (k_PL_best h_this h ⟨rfl, rfl⟩)
theorem k_Fl_isLike_b66 {g : GE} {this : Nat} {v1 : Int32} {v2 : Int32} {v3 : Int32} {v4 : Int32} {v5 : Int32} {k0 : Int32} {k1 : Int32}  {m : Mem} (h_this : kd this = 3) {r : Option AV} {m' : Mem} {x : (Int32) ⊕ (Int32)} (h : Fl_isLike_b66 this v1 v2 v3 v4 v5 k0 k1 m = some x) (hp : (Sum.elim (fun s : Int32 => V g Y_Fl_isLike 21 [some (vr this), some (vi v1), some (vi v2), some (vi v3), some (vi v4), some (vi s)] [] m (PM g Y_Fl_isLike r m')) (fun x : Int32 => r = some (vi x) ∧ m' = m)) x) : V g Y_Fl_isLike 66 [some (vr this), some (vi v1), some (vi v2), some (vi v3), some (vi v4), some (vi v5)] [vi k1, vi k0] m (PM g Y_Fl_isLike r m') := by
  unfold Fl_isLike_b66 at h
  refine V_icmp_eq (pc := 66) (tgt := 71) dX2_isLike_66 rfl (fun q => ?_) (fun q => ?_)
  · have h := ite_t q h
    refine V_iinc (i := 5) (v := (v5 + 1)) (ls' := [some (vr this), some (vi v1), some (vi v2), some (vi v3), some (vi v4), some (vi (v5 + 1))]) (pc := 71) dX2_isLike_71 rfl rfl (Nat.le_of_ble_eq_true rfl) rfl ?_
    refine V_goto (tgt := 21) (pc := 74) dX2_isLike_74 rfl ?_
    obtain rfl := Option.some.inj h
    exact hp
  · have h := ite_f q h
    obtain ⟨y2, hu2, rfl⟩ := up_e h
    have h := hu2
    refine V_iconst (v := 0) (pc := 69) dX2_isLike_69 rfl ?_
    obtain rfl := Option.some.inj h
    exact E_z (pc := 70) dX2_isLike_70 rfl rfl hp
theorem k_Fl_isLike_b49 {g : GE} {this : Nat} {v1 : Int32} {v2 : Int32} {v3 : Int32} {v4 : Int32} {v5 : Int32} {k0 : Int32}  {m : Mem} (h_this : kd this = 3) {r : Option AV} {m' : Mem} {x : (Int32) ⊕ (Int32)} (h : Fl_isLike_b49 this v1 v2 v3 v4 v5 k0 m = some x) (hp : (Sum.elim (fun s : Int32 => V g Y_Fl_isLike 21 [some (vr this), some (vi v1), some (vi v2), some (vi v3), some (vi v4), some (vi s)] [] m (PM g Y_Fl_isLike r m')) (fun x : Int32 => r = some (vi x) ∧ m' = m)) x) : V g Y_Fl_isLike 49 [some (vr this), some (vi v1), some (vi v2), some (vi v3), some (vi v4), some (vi v5)] [vi k0] m (PM g Y_Fl_isLike r m') := by
  unfold Fl_isLike_b49 at h
  refine V_aload_n (i := 0) (pc := 49) dX2_isLike_49 rfl rfl ?_
  refine V_iload (i := 5) (pc := 50) dX2_isLike_50 rfl ?_
  refine V_iload_n (i := 3) (pc := 52) dX2_isLike_52 rfl rfl ?_
  refine V_iload (i := 4) (pc := 53) dX2_isLike_53 rfl ?_
  obtain ⟨r55, e55, h⟩ := bnd h
  refine V_invV1 (c := 2) (pc := 55) dX2_isLike_55 (e_Fl_cellsBetween h_this e55) iv_Fl_108 (rm_Fl_isLike_Fl_cellsBetween _ _ _) rfl h_this cf_2 rfl (Nat.le_of_ble_eq_true rfl) rfl ?_
  refine V_if_ne (pc := 58) (tgt := 65) dX2_isLike_58 rfl (fun q => ?_) (fun q => ?_)
  · have h := ite_f q h
    refine V_iconst (v := 0) (pc := 65) dX2_isLike_65 rfl ?_
    exact k_Fl_isLike_b66 h_this h hp
  · have h := ite_t q h
    refine V_iconst (v := 1) (pc := 61) dX2_isLike_61 rfl ?_
    refine V_goto (tgt := 66) (pc := 62) dX2_isLike_62 rfl ?_
    exact k_Fl_isLike_b66 h_this h hp
theorem k_Fl_isLike_l21 {g : GE} {this : Nat} {v1 : Int32} {v2 : Int32} {v3 : Int32} {v4 : Int32} {v5 : Int32} {m : Mem} (h_this : kd this = 3) {r : Option AV} {m' : Mem} {x : (Int32) ⊕ (Int32)} (h : Fl_isLike_l21 this v1 v2 v3 v4 v5 m = some x) (hp : (Sum.elim (fun s : Int32 => V g Y_Fl_isLike 21 [some (vr this), some (vi v1), some (vi v2), some (vi v3), some (vi v4), some (vi s)] [] m (PM g Y_Fl_isLike r m')) (fun x : Int32 => r = some (vi x) ∧ m' = m)) x) : V g Y_Fl_isLike 21 [some (vr this), some (vi v1), some (vi v2), some (vi v3), some (vi v4), some (vi v5)] [] m (PM g Y_Fl_isLike r m') := by
  unfold Fl_isLike_l21 at h
  refine V_iload (i := 5) (pc := 21) dX2_isLike_21 rfl ?_
  refine V_aload_n (i := 0) (pc := 23) dX2_isLike_23 rfl rfl ?_
  refine V_getR (b := (this + 1)) (pc := 24) dX2_isLike_24 fl_Fl_14 h_this rfl rfl ?_
  refine V_getI (pc := 27) dX2_isLike_27 fl_Fl_75 (kf_2_15 h_this) rfl ?_
  refine V_icmp_ge (pc := 30) (tgt := 77) dX2_isLike_30 rfl (fun q => ?_) (fun q => ?_)
  · have h := ite_t q h
    obtain ⟨y1, hu1, rfl⟩ := up_e h
    have h := hu1
    refine V_iconst (v := 1) (pc := 77) dX2_isLike_77 rfl ?_
    obtain rfl := Option.some.inj h
    exact E_z (pc := 78) dX2_isLike_78 rfl rfl hp
  · have h := ite_f q h
    refine V_aload_n (i := 0) (pc := 33) dX2_isLike_33 rfl rfl ?_
    refine V_iload (i := 5) (pc := 34) dX2_isLike_34 rfl ?_
    refine V_iload_n (i := 1) (pc := 36) dX2_isLike_36 rfl rfl ?_
    refine V_iload_n (i := 2) (pc := 37) dX2_isLike_37 rfl rfl ?_
    obtain ⟨r38, e38, h⟩ := bnd h
    refine V_invV1 (c := 2) (pc := 38) dX2_isLike_38 (e_Fl_cellsBetween h_this e38) iv_Fl_108 (rm_Fl_isLike_Fl_cellsBetween _ _ _) rfl h_this cf_2 rfl (Nat.le_of_ble_eq_true rfl) rfl ?_
    refine V_if_ne (pc := 41) (tgt := 48) dX2_isLike_41 rfl (fun q => ?_) (fun q => ?_)
    · have h := ite_f q h
      refine V_iconst (v := 0) (pc := 48) dX2_isLike_48 rfl ?_
      exact k_Fl_isLike_b49 h_this h hp
    · have h := ite_t q h
      refine V_iconst (v := 1) (pc := 44) dX2_isLike_44 rfl ?_
      refine V_goto (tgt := 49) (pc := 45) dX2_isLike_45 rfl ?_
      exact k_Fl_isLike_b49 h_this h hp
theorem k_Fl_isLike {g : GE} {this : Nat} {v1 : Int32} {v2 : Int32} {v3 : Int32} {v4 : Int32} {m : Mem} (h_this : kd this = 3) {r : Option AV} {m' : Mem} {x : Int32} (h : Fl_isLike this v1 v2 v3 v4 m = some x) (hp : (fun x : Int32 => r = some (vi x) ∧ m' = m) x) : V g Y_Fl_isLike 0 [some (vr this), some (vi v1), some (vi v2), some (vi v3), some (vi v4), none] [] m (PM g Y_Fl_isLike r m') := by
  unfold Fl_isLike at h
  refine V_aload_n (i := 0) (pc := 0) dX2_isLike_0 rfl rfl ?_
  refine V_iload_n (i := 1) (pc := 1) dX2_isLike_1 rfl rfl ?_
  refine V_iload_n (i := 2) (pc := 2) dX2_isLike_2 rfl rfl ?_
  obtain ⟨r3, e3, h⟩ := bnd h
  refine V_invV1 (c := 2) (pc := 3) dX2_isLike_3 (e_Fl_beyond h_this e3) iv_Fl_105 (rm_Fl_isLike_Fl_beyond _ _ _) rfl h_this cf_2 rfl (Nat.le_of_ble_eq_true rfl) rfl ?_
  refine V_aload_n (i := 0) (pc := 6) dX2_isLike_6 rfl rfl ?_
  refine V_iload_n (i := 3) (pc := 7) dX2_isLike_7 rfl rfl ?_
  refine V_iload (i := 4) (pc := 8) dX2_isLike_8 rfl ?_
  obtain ⟨r10, e10, h⟩ := bnd h
  refine V_invV1 (c := 2) (pc := 10) dX2_isLike_10 (e_Fl_beyond h_this e10) iv_Fl_105 (rm_Fl_isLike_Fl_beyond _ _ _) rfl h_this cf_2 rfl (Nat.le_of_ble_eq_true rfl) rfl ?_
  refine V_icmp_eq (pc := 13) (tgt := 18) dX2_isLike_13 rfl (fun q => ?_) (fun q => ?_)
  · have h := ite_t q h
    refine V_iconst (v := 0) (pc := 18) dX2_isLike_18 rfl ?_
    refine V_istore (i := 5) (ls' := [some (vr this), some (vi v1), some (vi v2), some (vi v3), some (vi v4), some (vi 0)]) (pc := 19) dX2_isLike_19 (Nat.le_of_ble_eq_true rfl) rfl ?_
    exact loop_V (A := fun s : Int32 => V g Y_Fl_isLike 21 [some (vr this), some (vi v1), some (vi v2), some (vi v3), some (vi v4), some (vi s)] [] m (PM g Y_Fl_isLike r m')) (fun s x h hp => k_Fl_isLike_l21 h_this h hp) (0) _ h hp
  · have h := ite_f q h
    refine V_iconst (v := 0) (pc := 16) dX2_isLike_16 rfl ?_
    obtain rfl := Option.some.inj h
    exact E_z (pc := 17) dX2_isLike_17 rfl rfl hp
theorem e_Fl_isLike {g : GE} {this : Nat} {v1 : Int32} {v2 : Int32} {v3 : Int32} {v4 : Int32} {m : Mem} (h_this : kd this = 3) {x : Int32} (h : Fl_isLike this v1 v2 v3 v4 m = some x) : Ev g Y_Fl_isLike [vr this, vi v1, vi v2, vi v3, vi v4] m (some (vi x)) m :=
  Ev_of 1 (by decide +kernel) rfl (Nat.le_of_ble_eq_true rfl) rfl (k_Fl_isLike h_this h ⟨rfl, rfl⟩)
theorem k_Fl_isLikeNeighbour_b34 {g : GE} {this : Nat}   {m : Mem} (h_this : kd this = 3) {r : Option AV} {m' : Mem} {x : Int32} (h : Fl_isLikeNeighbour_b34 this m = some x) (hp : (fun x : Int32 => r = some (vi x) ∧ m' = m) x) : V g Y_Fl_isLikeNeighbour 34 [none, none, none] [] m (PM g Y_Fl_isLikeNeighbour r m') := by
  unfold Fl_isLikeNeighbour_b34 at h
  refine V_iconst (v := 1) (pc := 34) dX2_isLikeNeighbour_34 rfl ?_
  refine V_goto (tgt := 39) (pc := 35) dX2_isLikeNeighbour_35 rfl ?_
  obtain rfl := Option.some.inj h
  exact E_z (pc := 39) dX2_isLikeNeighbour_39 rfl rfl hp
theorem k_Fl_isLikeNeighbour_b17 {g : GE} {this : Nat} {v1 : Int32} {v2 : Int32}  {m : Mem} (h_this : kd this = 3) {r : Option AV} {m' : Mem} {x : Int32} (h : Fl_isLikeNeighbour_b17 this v1 v2 m = some x) (hp : (fun x : Int32 => r = some (vi x) ∧ m' = m) x) : V g Y_Fl_isLikeNeighbour 17 [some (vr this), some (vi v1), some (vi v2)] [] m (PM g Y_Fl_isLikeNeighbour r m') := by
  unfold Fl_isLikeNeighbour_b17 at h
  refine V_iload_n (i := 2) (pc := 17) dX2_isLikeNeighbour_17 rfl rfl ?_
  refine V_if_le (pc := 18) (tgt := 38) dX2_isLikeNeighbour_18 rfl (fun q => ?_) (fun q => ?_)
  · have h := ite_t q h
    refine V_iconst (v := 0) (pc := 38) dX2_isLikeNeighbour_38 rfl ?_
    obtain rfl := Option.some.inj h
    exact E_z (pc := 39) dX2_isLikeNeighbour_39 rfl rfl hp
  · have h := ite_f q h
    refine V_aload_n (i := 0) (pc := 21) dX2_isLikeNeighbour_21 rfl rfl ?_
    refine V_iload_n (i := 1) (pc := 22) dX2_isLikeNeighbour_22 rfl rfl ?_
    refine V_iload_n (i := 2) (pc := 23) dX2_isLikeNeighbour_23 rfl rfl ?_
    refine V_iload_n (i := 1) (pc := 24) dX2_isLikeNeighbour_24 rfl rfl ?_
    refine V_iload_n (i := 2) (pc := 25) dX2_isLikeNeighbour_25 rfl rfl ?_
    refine V_iconst (v := 1) (pc := 26) dX2_isLikeNeighbour_26 rfl ?_
    refine V_isub (pc := 27) dX2_isLikeNeighbour_27 ?_
    obtain ⟨r28, e28, h⟩ := bnd h
    refine V_invV1 (c := 2) (pc := 28) dX2_isLikeNeighbour_28 (e_Fl_isLike h_this e28) iv_Fl_96 (rm_Fl_isLikeNeighbour_Fl_isLike _ _ _) rfl h_this cf_2 rfl (Nat.le_of_ble_eq_true rfl) rfl ?_
    refine V_if_eq (pc := 31) (tgt := 38) dX2_isLikeNeighbour_31 rfl (fun q => ?_) (fun q => ?_)
    · have h := ite_t q h
      refine V_iconst (v := 0) (pc := 38) dX2_isLikeNeighbour_38 rfl ?_
      obtain rfl := Option.some.inj h
      exact E_z (pc := 39) dX2_isLikeNeighbour_39 rfl rfl hp
    · have h := ite_f q h
      refine V_sub (ls' := [none, none, none]) trivial ?_
      exact k_Fl_isLikeNeighbour_b34 h_this h hp
theorem k_Fl_isLikeNeighbour {g : GE} {this : Nat} {v1 : Int32} {v2 : Int32} {m : Mem} (h_this : kd this = 3) {r : Option AV} {m' : Mem} {x : Int32} (h : Fl_isLikeNeighbour this v1 v2 m = some x) (hp : (fun x : Int32 => r = some (vi x) ∧ m' = m) x) : V g Y_Fl_isLikeNeighbour 0 [some (vr this), some (vi v1), some (vi v2)] [] m (PM g Y_Fl_isLikeNeighbour r m') := by
  unfold Fl_isLikeNeighbour at h
  refine V_iload_n (i := 1) (pc := 0) dX2_isLikeNeighbour_0 rfl rfl ?_
  refine V_if_le (pc := 1) (tgt := 17) dX2_isLikeNeighbour_1 rfl (fun q => ?_) (fun q => ?_)
  · have h := ite_t q h
    exact k_Fl_isLikeNeighbour_b17 h_this h hp
  · have h := ite_f q h
    refine V_aload_n (i := 0) (pc := 4) dX2_isLikeNeighbour_4 rfl rfl ?_
    refine V_iload_n (i := 1) (pc := 5) dX2_isLikeNeighbour_5 rfl rfl ?_
    refine V_iload_n (i := 2) (pc := 6) dX2_isLikeNeighbour_6 rfl rfl ?_
    refine V_iload_n (i := 1) (pc := 7) dX2_isLikeNeighbour_7 rfl rfl ?_
    refine V_iconst (v := 1) (pc := 8) dX2_isLikeNeighbour_8 rfl ?_
    refine V_isub (pc := 9) dX2_isLikeNeighbour_9 ?_
    refine V_iload_n (i := 2) (pc := 10) dX2_isLikeNeighbour_10 rfl rfl ?_
    obtain ⟨r11, e11, h⟩ := bnd h
    refine V_invV1 (c := 2) (pc := 11) dX2_isLikeNeighbour_11 (e_Fl_isLike h_this e11) iv_Fl_96 (rm_Fl_isLikeNeighbour_Fl_isLike _ _ _) rfl h_this cf_2 rfl (Nat.le_of_ble_eq_true rfl) rfl ?_
    refine V_if_ne (pc := 14) (tgt := 34) dX2_isLikeNeighbour_14 rfl (fun q => ?_) (fun q => ?_)
    · have h := ite_f q h
      refine V_sub (ls' := [none, none, none]) trivial ?_
      exact k_Fl_isLikeNeighbour_b34 h_this h hp
    · have h := ite_t q h
      exact k_Fl_isLikeNeighbour_b17 h_this h hp
theorem e_Fl_isLikeNeighbour {g : GE} {this : Nat} {v1 : Int32} {v2 : Int32} {m : Mem} (h_this : kd this = 3) {x : Int32} (h : Fl_isLikeNeighbour this v1 v2 m = some x) : Ev g Y_Fl_isLikeNeighbour [vr this, vi v1, vi v2] m (some (vi x)) m :=
  Ev_of 0 (by decide +kernel) rfl (Nat.le_of_ble_eq_true rfl) rfl (k_Fl_isLikeNeighbour h_this h ⟨rfl, rfl⟩)
theorem k_Tr_noteMove {g : GE} {this : Nat} {v1 : Int32} {v2 : Int32} {v3 : Int32} {m : Mem} (h_this : kd this = 10) {r : Option AV} {m' : Mem} {x : Mem} (h : Tr_noteMove this v1 v2 v3 m = some x) (hp : (fun x : Mem => r = none ∧ m' = x) x) : V g Y_Tr_noteMove 0 [some (vr this), some (vi v1), some (vi v2), some (vi v3)] [] m (PM g Y_Tr_noteMove r m') := by
  unfold Tr_noteMove at h
  refine V_aload_n (i := 0) (pc := 0) dX9_noteMove_0 rfl rfl ?_
  refine V_iload_n (i := 1) (pc := 1) dX9_noteMove_1 rfl rfl ?_
  refine V_putI_lt (pc := 2) dX9_noteMove_2 fp_Tr_72 h_this rfl rfl rfl h (fun m2 h => ?_)
  refine V_aload_n (i := 0) (pc := 5) dX9_noteMove_5 rfl rfl ?_
  refine V_iload_n (i := 2) (pc := 6) dX9_noteMove_6 rfl rfl ?_
  refine V_putI_lt (pc := 7) dX9_noteMove_7 fp_Tr_75 h_this rfl rfl rfl h (fun m7 h => ?_)
  refine V_aload_n (i := 0) (pc := 10) dX9_noteMove_10 rfl rfl ?_
  refine V_iload_n (i := 3) (pc := 11) dX9_noteMove_11 rfl rfl ?_
  refine V_putI_lt (pc := 12) dX9_noteMove_12 fp_Tr_78 h_this rfl rfl rfl h (fun m12 h => ?_)
  obtain rfl := Option.some.inj h
  exact E_v (pc := 15) dX9_noteMove_15 rfl hp
theorem e_Tr_noteMove {g : GE} {this : Nat} {v1 : Int32} {v2 : Int32} {v3 : Int32} {m : Mem} (h_this : kd this = 10) {x : Mem} (h : Tr_noteMove this v1 v2 v3 m = some x) : Ev g Y_Tr_noteMove [vr this, vi v1, vi v2, vi v3] m (none) x :=
  Ev_of 0 (by decide +kernel) rfl (Nat.le_of_ble_eq_true rfl) rfl (k_Tr_noteMove h_this h ⟨rfl, rfl⟩)
theorem k_Tr_findBetter_b157 {g : GE} {this : Nat} {v1 : Nat} {v3 : Int64} {v5 : Int64} {v7 : Int32} {v8 : Int32} {v9 : Int32}  {m : Mem} (h_this : kd this = 10) (h_v1 : kd v1 = 1) {r : Option AV} {m' : Mem} {x : (Int64 × Int32 × Mem) ⊕ (Int32 × Mem)} (h : Tr_findBetter_b157 this v1 v3 v5 v7 v8 v9 m = some x) (hp : (Sum.elim (fun s : Int64 × Int32 × Mem => V g Y_Tr_findBetter 21 [some (vr this), some (vr v1), some (vr (v1 + 1)), some (vl v3), none, some (vl s.1), none, some (vi s.2.1), none, none, none, none, none, none, none] [] s.2.2 (PM g Y_Tr_findBetter r m')) (fun x : Int32 × Mem => r = some (vi x.1) ∧ m' = x.2)) x) : V g Y_Tr_findBetter 157 [some (vr this), some (vr v1), some (vr (v1 + 1)), some (vl v3), none, some (vl v5), none, some (vi v7), some (vi v8), some (vi v9), none, none, none, none, none] [] m (PM g Y_Tr_findBetter r m') := by
  unfold Tr_findBetter_b157 at h
  refine V_aload_n (i := 1) (pc := 157) dX9_findBetter_157 rfl rfl ?_
  refine V_iload (i := 7) (pc := 158) dX9_findBetter_158 rfl ?_
  refine V_iload (i := 8) (pc := 160) dX9_findBetter_160 rfl ?_
  refine V_iload (i := 9) (pc := 162) dX9_findBetter_162 rfl ?_
  obtain ⟨m164, e164, h⟩ := bnd h
  refine V_invV0 (c := 0) (pc := 164) dX9_findBetter_164 (e_Ca_placeHeap h_v1 e164) iv_Tr_81 (rm_Tr_findBetter_Ca_placeHeap _ _ _) rfl h_v1 cf_0 rfl (Nat.le_of_ble_eq_true rfl) rfl ?_
  refine V_iinc (i := 7) (v := (v7 + 1)) (ls' := [some (vr this), some (vr v1), some (vr (v1 + 1)), some (vl v3), none, some (vl v5), none, some (vi (v7 + 1)), some (vi v8), some (vi v9), none, none, none, none, none]) (pc := 167) dX9_findBetter_167 rfl rfl (Nat.le_of_ble_eq_true rfl) rfl ?_
  refine V_goto (tgt := 21) (pc := 170) dX9_findBetter_170 rfl ?_
  refine V_sub (ls' := [some (vr this), some (vr v1), some (vr (v1 + 1)), some (vl v3), none, some (vl v5), none, some (vi (v7 + 1)), none, none, none, none, none, none, none]) (And.intro rfl (And.intro rfl (And.intro rfl (And.intro rfl (And.intro rfl (And.intro rfl trivial)))))) ?_
  obtain rfl := Option.some.inj h
  exact hp
theorem k_Tr_findBetter_b145 {g : GE} {this : Nat} {v1 : Nat} {v3 : Int64} {v5 : Int64} {v7 : Int32} {v8 : Int32} {v9 : Int32} {v10 : Int32} {v11 : Int32} {v12 : Int32}  {m : Mem} (h_this : kd this = 10) (h_v1 : kd v1 = 1) {r : Option AV} {m' : Mem} {x : (Int64 × Int32 × Mem) ⊕ ((Int64 × Int32 × Mem) ⊕ ((Int64 × Int32 × Mem) ⊕ (Int32 × Mem)))} (h : Tr_findBetter_b145 this v1 v3 v5 v7 v8 v9 v10 v11 v12 m = some x) (hp : (Sum.elim (fun s : Int64 × Int32 × Mem => V g Y_Tr_findBetter 82 [some (vr this), some (vr v1), some (vr (v1 + 1)), some (vl v3), none, some (vl s.1), none, some (vi v7), some (vi v8), some (vi v9), some (vi v10), some (vi v11), some (vi s.2.1), none, none] [] s.2.2 (PM g Y_Tr_findBetter r m')) (Sum.elim (fun s : Int64 × Int32 × Mem => V g Y_Tr_findBetter 65 [some (vr this), some (vr v1), some (vr (v1 + 1)), some (vl v3), none, some (vl s.1), none, some (vi v7), some (vi v8), some (vi v9), some (vi v10), some (vi s.2.1), none, none, none] [] s.2.2 (PM g Y_Tr_findBetter r m')) (Sum.elim (fun s : Int64 × Int32 × Mem => V g Y_Tr_findBetter 21 [some (vr this), some (vr v1), some (vr (v1 + 1)), some (vl v3), none, some (vl s.1), none, some (vi s.2.1), none, none, none, none, none, none, none] [] s.2.2 (PM g Y_Tr_findBetter r m')) (fun x : Int32 × Mem => r = some (vi x.1) ∧ m' = x.2)))) x) : V g Y_Tr_findBetter 145 [some (vr this), some (vr v1), some (vr (v1 + 1)), some (vl v3), none, some (vl v5), none, some (vi v7), some (vi v8), some (vi v9), some (vi v10), some (vi v11), some (vi v12), none, none] [] m (PM g Y_Tr_findBetter r m') := by
  unfold Tr_findBetter_b145 at h
  refine V_iinc (i := 12) (v := (v12 + 1)) (ls' := [some (vr this), some (vr v1), some (vr (v1 + 1)), some (vl v3), none, some (vl v5), none, some (vi v7), some (vi v8), some (vi v9), some (vi v10), some (vi v11), some (vi (v12 + 1)), none, none]) (pc := 145) dX9_findBetter_145 rfl rfl (Nat.le_of_ble_eq_true rfl) rfl ?_
  refine V_goto (tgt := 82) (pc := 148) dX9_findBetter_148 rfl ?_
  obtain rfl := Option.some.inj h
  exact hp
theorem k_Tr_findBetter_l82 {g : GE} {this : Nat} {v1 : Nat} {v3 : Int64} {v7 : Int32} {v8 : Int32} {v9 : Int32} {v10 : Int32} {v11 : Int32} {v5 : Int64} {v12 : Int32} {m : Mem} (h_this : kd this = 10) (h_v1 : kd v1 = 1) {r : Option AV} {m' : Mem} {x : (Int64 × Int32 × Mem) ⊕ ((Int64 × Int32 × Mem) ⊕ ((Int64 × Int32 × Mem) ⊕ (Int32 × Mem)))} (h : Tr_findBetter_l82 this v1 v3 v7 v8 v9 v10 v11 v5 v12 m = some x) (hp : (Sum.elim (fun s : Int64 × Int32 × Mem => V g Y_Tr_findBetter 82 [some (vr this), some (vr v1), some (vr (v1 + 1)), some (vl v3), none, some (vl s.1), none, some (vi v7), some (vi v8), some (vi v9), some (vi v10), some (vi v11), some (vi s.2.1), none, none] [] s.2.2 (PM g Y_Tr_findBetter r m')) (Sum.elim (fun s : Int64 × Int32 × Mem => V g Y_Tr_findBetter 65 [some (vr this), some (vr v1), some (vr (v1 + 1)), some (vl v3), none, some (vl s.1), none, some (vi v7), some (vi v8), some (vi v9), some (vi v10), some (vi s.2.1), none, none, none] [] s.2.2 (PM g Y_Tr_findBetter r m')) (Sum.elim (fun s : Int64 × Int32 × Mem => V g Y_Tr_findBetter 21 [some (vr this), some (vr v1), some (vr (v1 + 1)), some (vl v3), none, some (vl s.1), none, some (vi s.2.1), none, none, none, none, none, none, none] [] s.2.2 (PM g Y_Tr_findBetter r m')) (fun x : Int32 × Mem => r = some (vi x.1) ∧ m' = x.2)))) x) : V g Y_Tr_findBetter 82 [some (vr this), some (vr v1), some (vr (v1 + 1)), some (vl v3), none, some (vl v5), none, some (vi v7), some (vi v8), some (vi v9), some (vi v10), some (vi v11), some (vi v12), none, none] [] m (PM g Y_Tr_findBetter r m') := by
  unfold Tr_findBetter_l82 at h
  refine V_iload (i := 12) (pc := 82) dX9_findBetter_82 rfl ?_
  refine V_aload_n (i := 2) (pc := 84) dX9_findBetter_84 rfl rfl ?_
  refine V_getI (pc := 85) dX9_findBetter_85 fl_Tr_57 (kf_0_0 h_v1) rfl ?_
  refine V_icmp_ge (pc := 88) (tgt := 151) dX9_findBetter_88 rfl (fun q => ?_) (fun q => ?_)
  · have h := ite_t q h
    obtain ⟨y4, hu4, rfl⟩ := up_e h
    have h := hu4
    refine V_iinc (i := 11) (v := (v11 + 1)) (ls' := [some (vr this), some (vr v1), some (vr (v1 + 1)), some (vl v3), none, some (vl v5), none, some (vi v7), some (vi v8), some (vi v9), some (vi v10), some (vi (v11 + 1)), some (vi v12), none, none]) (pc := 151) dX9_findBetter_151 rfl rfl (Nat.le_of_ble_eq_true rfl) rfl ?_
    refine V_goto (tgt := 65) (pc := 154) dX9_findBetter_154 rfl ?_
    refine V_sub (ls' := [some (vr this), some (vr v1), some (vr (v1 + 1)), some (vl v3), none, some (vl v5), none, some (vi v7), some (vi v8), some (vi v9), some (vi v10), some (vi (v11 + 1)), none, none, none]) (And.intro rfl (And.intro rfl (And.intro rfl (And.intro rfl (And.intro rfl (And.intro rfl (And.intro rfl (And.intro rfl (And.intro rfl (And.intro rfl trivial)))))))))) ?_
    obtain rfl := Option.some.inj h
    exact hp
  · have h := ite_f q h
    refine V_aload_n (i := 2) (pc := 91) dX9_findBetter_91 rfl rfl ?_
    refine V_iload (i := 12) (pc := 92) dX9_findBetter_92 rfl ?_
    refine V_iload (i := 11) (pc := 94) dX9_findBetter_94 rfl ?_
    obtain ⟨r96, e96, h⟩ := bnd h
    refine V_invV1 (c := 2) (pc := 96) dX9_findBetter_96 (e_Fl_isLikeNeighbour (kf_0_0 h_v1) e96) iv_Tr_60 (rm_Tr_findBetter_Fl_isLikeNeighbour _ _ _) rfl (kf_0_0 h_v1) cf_2 rfl (Nat.le_of_ble_eq_true rfl) rfl ?_
    refine V_if_ne (pc := 99) (tgt := 145) dX9_findBetter_99 rfl (fun q => ?_) (fun q => ?_)
    · have h := ite_f q h
      exact k_Tr_findBetter_b145 h_this h_v1 h hp
    · have h := ite_t q h
      refine V_aload_n (i := 1) (pc := 102) dX9_findBetter_102 rfl rfl ?_
      refine V_iload (i := 7) (pc := 103) dX9_findBetter_103 rfl ?_
      refine V_iload (i := 12) (pc := 105) dX9_findBetter_105 rfl ?_
      refine V_iload (i := 11) (pc := 107) dX9_findBetter_107 rfl ?_
      obtain ⟨m109, e109, h⟩ := bnd h
      refine V_invV0 (c := 0) (pc := 109) dX9_findBetter_109 (e_Ca_placeHeap h_v1 e109) iv_Tr_81 (rm_Tr_findBetter_Ca_placeHeap _ _ _) rfl h_v1 cf_0 rfl (Nat.le_of_ble_eq_true rfl) rfl ?_
      refine V_aload_n (i := 0) (pc := 112) dX9_findBetter_112 rfl rfl ?_
      refine V_getR (b := (this + 42)) (pc := 113) dX9_findBetter_113 fl_Tr_21 h_this rfl rfl ?_
      refine V_aload_n (i := 1) (pc := 116) dX9_findBetter_116 rfl rfl ?_
      refine V_iconst (v := 1) (pc := 117) dX9_findBetter_117 rfl ?_
      obtain ⟨r118, e118, h⟩ := bnd h
      refine V_invV1 (c := 4) (pc := 118) dX9_findBetter_118 (e_Ic_lostIn (kf_9_1 h_this) h_v1 e118) iv_Tr_33 (rm_Tr_findBetter_Ic_lostIn _ _ _) rfl (kf_9_1 h_this) cf_4 rfl (Nat.le_of_ble_eq_true rfl) rfl ?_
      refine V_lstore (i := 13) (ls' := [some (vr this), some (vr v1), some (vr (v1 + 1)), some (vl v3), none, some (vl v5), none, some (vi v7), some (vi v8), some (vi v9), some (vi v10), some (vi v11), some (vi v12), some (vl r118.1), none]) (pc := 121) dX9_findBetter_121 (Nat.le_of_ble_eq_true rfl) rfl ?_
      refine V_lload (i := 13) (pc := 123) dX9_findBetter_123 rfl ?_
      refine V_lload (i := 5) (pc := 125) dX9_findBetter_125 rfl ?_
      refine V_lif_ge (pc := 127) (tgt := 145) dX9_findBetter_127 dX9_findBetter_128 rfl (fun q => ?_) (fun q => ?_)
      · have h := ite_t q h
        refine V_sub (ls' := [some (vr this), some (vr v1), some (vr (v1 + 1)), some (vl v3), none, some (vl v5), none, some (vi v7), some (vi v8), some (vi v9), some (vi v10), some (vi v11), some (vi v12), none, none]) (And.intro rfl (And.intro rfl (And.intro rfl (And.intro rfl (And.intro rfl (And.intro rfl (And.intro rfl (And.intro rfl (And.intro rfl (And.intro rfl (And.intro rfl trivial))))))))))) ?_
        exact k_Tr_findBetter_b145 h_this h_v1 h hp
      · have h := ite_f q h
        refine V_lload (i := 13) (pc := 131) dX9_findBetter_131 rfl ?_
        refine V_lstore (i := 5) (ls' := [some (vr this), some (vr v1), some (vr (v1 + 1)), some (vl v3), none, some (vl r118.1), none, some (vi v7), some (vi v8), some (vi v9), some (vi v10), some (vi v11), some (vi v12), some (vl r118.1), none]) (pc := 133) dX9_findBetter_133 (Nat.le_of_ble_eq_true rfl) rfl ?_
        refine V_aload_n (i := 0) (pc := 135) dX9_findBetter_135 rfl rfl ?_
        refine V_iload (i := 7) (pc := 136) dX9_findBetter_136 rfl ?_
        refine V_iload (i := 12) (pc := 138) dX9_findBetter_138 rfl ?_
        refine V_iload (i := 11) (pc := 140) dX9_findBetter_140 rfl ?_
        obtain ⟨m142, e142, h⟩ := bnd h
        refine V_invV0 (c := 9) (pc := 142) dX9_findBetter_142 (e_Tr_noteMove h_this e142) iv_Tr_95 (rm_Tr_findBetter_Tr_noteMove _ _ _) rfl h_this cf_9 rfl (Nat.le_of_ble_eq_true rfl) rfl ?_
        refine V_sub (ls' := [some (vr this), some (vr v1), some (vr (v1 + 1)), some (vl v3), none, some (vl r118.1), none, some (vi v7), some (vi v8), some (vi v9), some (vi v10), some (vi v11), some (vi v12), none, none]) (And.intro rfl (And.intro rfl (And.intro rfl (And.intro rfl (And.intro rfl (And.intro rfl (And.intro rfl (And.intro rfl (And.intro rfl (And.intro rfl (And.intro rfl trivial))))))))))) ?_
        exact k_Tr_findBetter_b145 h_this h_v1 h hp
theorem k_Tr_findBetter_l65 {g : GE} {this : Nat} {v1 : Nat} {v3 : Int64} {v7 : Int32} {v8 : Int32} {v9 : Int32} {v10 : Int32} {v5 : Int64} {v11 : Int32} {m : Mem} (h_this : kd this = 10) (h_v1 : kd v1 = 1) {r : Option AV} {m' : Mem} {x : (Int64 × Int32 × Mem) ⊕ ((Int64 × Int32 × Mem) ⊕ (Int32 × Mem))} (h : Tr_findBetter_l65 this v1 v3 v7 v8 v9 v10 v5 v11 m = some x) (hp : (Sum.elim (fun s : Int64 × Int32 × Mem => V g Y_Tr_findBetter 65 [some (vr this), some (vr v1), some (vr (v1 + 1)), some (vl v3), none, some (vl s.1), none, some (vi v7), some (vi v8), some (vi v9), some (vi v10), some (vi s.2.1), none, none, none] [] s.2.2 (PM g Y_Tr_findBetter r m')) (Sum.elim (fun s : Int64 × Int32 × Mem => V g Y_Tr_findBetter 21 [some (vr this), some (vr v1), some (vr (v1 + 1)), some (vl v3), none, some (vl s.1), none, some (vi s.2.1), none, none, none, none, none, none, none] [] s.2.2 (PM g Y_Tr_findBetter r m')) (fun x : Int32 × Mem => r = some (vi x.1) ∧ m' = x.2))) x) : V g Y_Tr_findBetter 65 [some (vr this), some (vr v1), some (vr (v1 + 1)), some (vl v3), none, some (vl v5), none, some (vi v7), some (vi v8), some (vi v9), some (vi v10), some (vi v11), none, none, none] [] m (PM g Y_Tr_findBetter r m') := by
  unfold Tr_findBetter_l65 at h
  refine V_iload (i := 11) (pc := 65) dX9_findBetter_65 rfl ?_
  refine V_aload_n (i := 2) (pc := 67) dX9_findBetter_67 rfl rfl ?_
  refine V_getI (pc := 68) dX9_findBetter_68 fl_Tr_51 (kf_0_0 h_v1) rfl ?_
  refine V_icmp_ge (pc := 71) (tgt := 157) dX9_findBetter_71 rfl (fun q => ?_) (fun q => ?_)
  · have h := ite_t q h
    obtain ⟨y2, hu2, rfl⟩ := up_e h
    have h := hu2
    refine V_sub (ls' := [some (vr this), some (vr v1), some (vr (v1 + 1)), some (vl v3), none, some (vl v5), none, some (vi v7), some (vi v8), some (vi v9), none, none, none, none, none]) (And.intro rfl (And.intro rfl (And.intro rfl (And.intro rfl (And.intro rfl (And.intro rfl (And.intro rfl (And.intro rfl trivial)))))))) ?_
    exact k_Tr_findBetter_b157 h_this h_v1 h hp
  · have h := ite_f q h
    refine V_iload (i := 10) (pc := 74) dX9_findBetter_74 rfl ?_
    refine V_if_eq (pc := 76) (tgt := 157) dX9_findBetter_76 rfl (fun q => ?_) (fun q => ?_)
    · have h := ite_t q h
      obtain ⟨y3, hu3, rfl⟩ := up_e h
      have h := hu3
      refine V_sub (ls' := [some (vr this), some (vr v1), some (vr (v1 + 1)), some (vl v3), none, some (vl v5), none, some (vi v7), some (vi v8), some (vi v9), none, none, none, none, none]) (And.intro rfl (And.intro rfl (And.intro rfl (And.intro rfl (And.intro rfl (And.intro rfl (And.intro rfl (And.intro rfl trivial)))))))) ?_
      exact k_Tr_findBetter_b157 h_this h_v1 h hp
    · have h := ite_f q h
      refine V_iconst (v := 0) (pc := 79) dX9_findBetter_79 rfl ?_
      refine V_istore (i := 12) (ls' := [some (vr this), some (vr v1), some (vr (v1 + 1)), some (vl v3), none, some (vl v5), none, some (vi v7), some (vi v8), some (vi v9), some (vi v10), some (vi v11), some (vi 0), none, none]) (pc := 80) dX9_findBetter_80 (Nat.le_of_ble_eq_true rfl) rfl ?_
      exact loop_V (A := fun s : Int64 × Int32 × Mem => V g Y_Tr_findBetter 82 [some (vr this), some (vr v1), some (vr (v1 + 1)), some (vl v3), none, some (vl s.1), none, some (vi v7), some (vi v8), some (vi v9), some (vi v10), some (vi v11), some (vi s.2.1), none, none] [] s.2.2 (PM g Y_Tr_findBetter r m')) (fun s x h hp => k_Tr_findBetter_l82 h_this h_v1 h hp) (v5, 0, m) _ h hp
theorem k_Tr_findBetter_b60 {g : GE} {this : Nat} {v1 : Nat} {v3 : Int64} {v5 : Int64} {v7 : Int32} {v8 : Int32} {v9 : Int32} {k0 : Int32}  {m : Mem} (h_this : kd this = 10) (h_v1 : kd v1 = 1) {r : Option AV} {m' : Mem} {x : (Int64 × Int32 × Mem) ⊕ (Int32 × Mem)} (h : Tr_findBetter_b60 this v1 v3 v5 v7 v8 v9 k0 m = some x) (hp : (Sum.elim (fun s : Int64 × Int32 × Mem => V g Y_Tr_findBetter 21 [some (vr this), some (vr v1), some (vr (v1 + 1)), some (vl v3), none, some (vl s.1), none, some (vi s.2.1), none, none, none, none, none, none, none] [] s.2.2 (PM g Y_Tr_findBetter r m')) (fun x : Int32 × Mem => r = some (vi x.1) ∧ m' = x.2)) x) : V g Y_Tr_findBetter 60 [some (vr this), some (vr v1), some (vr (v1 + 1)), some (vl v3), none, some (vl v5), none, some (vi v7), some (vi v8), some (vi v9), none, none, none, none, none] [vi k0] m (PM g Y_Tr_findBetter r m') := by
  unfold Tr_findBetter_b60 at h
  refine V_istore (i := 10) (ls' := [some (vr this), some (vr v1), some (vr (v1 + 1)), some (vl v3), none, some (vl v5), none, some (vi v7), some (vi v8), some (vi v9), some (vi k0), none, none, none, none]) (pc := 60) dX9_findBetter_60 (Nat.le_of_ble_eq_true rfl) rfl ?_
  refine V_iconst (v := 0) (pc := 62) dX9_findBetter_62 rfl ?_
  refine V_istore (i := 11) (ls' := [some (vr this), some (vr v1), some (vr (v1 + 1)), some (vl v3), none, some (vl v5), none, some (vi v7), some (vi v8), some (vi v9), some (vi k0), some (vi 0), none, none, none]) (pc := 63) dX9_findBetter_63 (Nat.le_of_ble_eq_true rfl) rfl ?_
  exact loop_V (A := fun s : Int64 × Int32 × Mem => V g Y_Tr_findBetter 65 [some (vr this), some (vr v1), some (vr (v1 + 1)), some (vl v3), none, some (vl s.1), none, some (vi v7), some (vi v8), some (vi v9), some (vi k0), some (vi s.2.1), none, none, none] [] s.2.2 (PM g Y_Tr_findBetter r m')) (fun s x h hp => k_Tr_findBetter_l65 h_this h_v1 h hp) (v5, 0, m) _ h hp
theorem k_Tr_findBetter_l21 {g : GE} {this : Nat} {v1 : Nat} {v3 : Int64} {v5 : Int64} {v7 : Int32} {m : Mem} (h_this : kd this = 10) (h_v1 : kd v1 = 1) {r : Option AV} {m' : Mem} {x : (Int64 × Int32 × Mem) ⊕ (Int32 × Mem)} (h : Tr_findBetter_l21 this v1 v3 v5 v7 m = some x) (hp : (Sum.elim (fun s : Int64 × Int32 × Mem => V g Y_Tr_findBetter 21 [some (vr this), some (vr v1), some (vr (v1 + 1)), some (vl v3), none, some (vl s.1), none, some (vi s.2.1), none, none, none, none, none, none, none] [] s.2.2 (PM g Y_Tr_findBetter r m')) (fun x : Int32 × Mem => r = some (vi x.1) ∧ m' = x.2)) x) : V g Y_Tr_findBetter 21 [some (vr this), some (vr v1), some (vr (v1 + 1)), some (vl v3), none, some (vl v5), none, some (vi v7), none, none, none, none, none, none, none] [] m (PM g Y_Tr_findBetter r m') := by
  unfold Tr_findBetter_l21 at h
  refine V_iload (i := 7) (pc := 21) dX9_findBetter_21 rfl ?_
  refine V_bipush (v := 8) (pc := 23) dX9_findBetter_23 rfl ?_
  refine V_icmp_ge (pc := 25) (tgt := 173) dX9_findBetter_25 rfl (fun q => ?_) (fun q => ?_)
  · have h := ite_t q h
    obtain ⟨y1, hu1, rfl⟩ := up_e h
    have h := hu1
    refine V_lload (i := 5) (pc := 173) dX9_findBetter_173 rfl ?_
    refine V_lload_n (i := 3) (pc := 175) dX9_findBetter_175 rfl rfl ?_
    refine V_lif_ge (pc := 176) (tgt := 184) dX9_findBetter_176 dX9_findBetter_177 rfl (fun q => ?_) (fun q => ?_)
    · have h := ite_t q h
      refine V_iconst (v := 0) (pc := 184) dX9_findBetter_184 rfl ?_
      obtain rfl := Option.some.inj h
      exact E_z (pc := 185) dX9_findBetter_185 rfl rfl hp
    · have h := ite_f q h
      refine V_iconst (v := 1) (pc := 180) dX9_findBetter_180 rfl ?_
      refine V_goto (tgt := 185) (pc := 181) dX9_findBetter_181 rfl ?_
      obtain rfl := Option.some.inj h
      exact E_z (pc := 185) dX9_findBetter_185 rfl rfl hp
  · have h := ite_f q h
    refine V_aload_n (i := 1) (pc := 28) dX9_findBetter_28 rfl rfl ?_
    refine V_getR (b := (v1 + 25)) (pc := 29) dX9_findBetter_29 fl_Tr_84 h_v1 rfl rfl ?_
    refine V_iload (i := 7) (pc := 32) dX9_findBetter_32 rfl ?_
    obtain ⟨hg34, h⟩ := gd_e h
    refine V_iald (pc := 34) dX9_findBetter_34 (kf_0_1 h_v1) (af_0_1 h_v1) hg34 ?_
    refine V_istore (i := 8) (ls' := [some (vr this), some (vr v1), some (vr (v1 + 1)), some (vl v3), none, some (vl v5), none, some (vi v7), some (vi (rI m (v1 + 25) (ix v7))), none, none, none, none, none, none]) (pc := 35) dX9_findBetter_35 (Nat.le_of_ble_eq_true rfl) rfl ?_
    refine V_aload_n (i := 1) (pc := 37) dX9_findBetter_37 rfl rfl ?_
    refine V_getR (b := (v1 + 26)) (pc := 38) dX9_findBetter_38 fl_Tr_88 h_v1 rfl rfl ?_
    refine V_iload (i := 7) (pc := 41) dX9_findBetter_41 rfl ?_
    obtain ⟨hg43, h⟩ := gd_e h
    refine V_iald (pc := 43) dX9_findBetter_43 (kf_0_2 h_v1) (af_0_2 h_v1) hg43 ?_
    refine V_istore (i := 9) (ls' := [some (vr this), some (vr v1), some (vr (v1 + 1)), some (vl v3), none, some (vl v5), none, some (vi v7), some (vi (rI m (v1 + 25) (ix v7))), some (vi (rI m (v1 + 26) (ix v7))), none, none, none, none, none]) (pc := 44) dX9_findBetter_44 (Nat.le_of_ble_eq_true rfl) rfl ?_
    refine V_aload_n (i := 1) (pc := 46) dX9_findBetter_46 rfl rfl ?_
    refine V_iload (i := 7) (pc := 47) dX9_findBetter_47 rfl ?_
    obtain ⟨r49, e49, h⟩ := bnd h
    refine V_invV1 (c := 0) (pc := 49) dX9_findBetter_49 (e_Ca_tonsOf h_v1 e49) iv_Tr_91 (rm_Tr_findBetter_Ca_tonsOf _ _ _) rfl h_v1 cf_0 rfl (Nat.le_of_ble_eq_true rfl) rfl ?_
    refine V_if_le (pc := 52) (tgt := 59) dX9_findBetter_52 rfl (fun q => ?_) (fun q => ?_)
    · have h := ite_t q h
      refine V_iconst (v := 0) (pc := 59) dX9_findBetter_59 rfl ?_
      exact k_Tr_findBetter_b60 h_this h_v1 h hp
    · have h := ite_f q h
      refine V_iconst (v := 1) (pc := 55) dX9_findBetter_55 rfl ?_
      refine V_goto (tgt := 60) (pc := 56) dX9_findBetter_56 rfl ?_
      exact k_Tr_findBetter_b60 h_this h_v1 h hp
theorem k_Tr_findBetter {g : GE} {this : Nat} {v1 : Nat} {m : Mem} (h_this : kd this = 10) (h_v1 : kd v1 = 1) {r : Option AV} {m' : Mem} {x : Int32 × Mem} (h : Tr_findBetter this v1 m = some x) (hp : (fun x : Int32 × Mem => r = some (vi x.1) ∧ m' = x.2) x) : V g Y_Tr_findBetter 0 [some (vr this), some (vr v1), none, none, none, none, none, none, none, none, none, none, none, none, none] [] m (PM g Y_Tr_findBetter r m') := by
  unfold Tr_findBetter at h
  refine V_aload_n (i := 1) (pc := 0) dX9_findBetter_0 rfl rfl ?_
  refine V_getR (b := (v1 + 1)) (pc := 1) dX9_findBetter_1 fl_Tr_47 h_v1 rfl rfl ?_
  refine V_astore_n (i := 2) (ls' := [some (vr this), some (vr v1), some (vr (v1 + 1)), none, none, none, none, none, none, none, none, none, none, none, none]) (pc := 4) dX9_findBetter_4 rfl (Nat.le_of_ble_eq_true rfl) rfl ?_
  refine V_aload_n (i := 0) (pc := 5) dX9_findBetter_5 rfl rfl ?_
  refine V_getR (b := (this + 42)) (pc := 6) dX9_findBetter_6 fl_Tr_21 h_this rfl rfl ?_
  refine V_aload_n (i := 1) (pc := 9) dX9_findBetter_9 rfl rfl ?_
  refine V_iconst (v := 1) (pc := 10) dX9_findBetter_10 rfl ?_
  obtain ⟨r11, e11, h⟩ := bnd h
  refine V_invV1 (c := 4) (pc := 11) dX9_findBetter_11 (e_Ic_lostIn (kf_9_1 h_this) h_v1 e11) iv_Tr_33 (rm_Tr_findBetter_Ic_lostIn _ _ _) rfl (kf_9_1 h_this) cf_4 rfl (Nat.le_of_ble_eq_true rfl) rfl ?_
  refine V_lstore_n (i := 3) (ls' := [some (vr this), some (vr v1), some (vr (v1 + 1)), some (vl r11.1), none, none, none, none, none, none, none, none, none, none, none]) (pc := 14) dX9_findBetter_14 rfl (Nat.le_of_ble_eq_true rfl) rfl ?_
  refine V_lload_n (i := 3) (pc := 15) dX9_findBetter_15 rfl rfl ?_
  refine V_lstore (i := 5) (ls' := [some (vr this), some (vr v1), some (vr (v1 + 1)), some (vl r11.1), none, some (vl r11.1), none, none, none, none, none, none, none, none, none]) (pc := 16) dX9_findBetter_16 (Nat.le_of_ble_eq_true rfl) rfl ?_
  refine V_iconst (v := 0) (pc := 18) dX9_findBetter_18 rfl ?_
  refine V_istore (i := 7) (ls' := [some (vr this), some (vr v1), some (vr (v1 + 1)), some (vl r11.1), none, some (vl r11.1), none, some (vi 0), none, none, none, none, none, none, none]) (pc := 19) dX9_findBetter_19 (Nat.le_of_ble_eq_true rfl) rfl ?_
  exact loop_V (A := fun s : Int64 × Int32 × Mem => V g Y_Tr_findBetter 21 [some (vr this), some (vr v1), some (vr (v1 + 1)), some (vl r11.1), none, some (vl s.1), none, some (vi s.2.1), none, none, none, none, none, none, none] [] s.2.2 (PM g Y_Tr_findBetter r m')) (fun s x h hp => k_Tr_findBetter_l21 h_this h_v1 h hp) (r11.1, 0, r11.2) _ h hp
theorem e_Tr_findBetter {g : GE} {this : Nat} {v1 : Nat} {m : Mem} (h_this : kd this = 10) (h_v1 : kd v1 = 1) {x : Int32 × Mem} (h : Tr_findBetter this v1 m = some x) : Ev g Y_Tr_findBetter [vr this, vr v1] m (some (vi x.1)) x.2 :=
  Ev_of 13 (by decide +kernel) rfl (Nat.le_of_ble_eq_true rfl) rfl (k_Tr_findBetter h_this h_v1 h ⟨rfl, rfl⟩)
theorem k_Tr_moveHeaps_l2 {g : GE} {this : Nat} {v1 : Nat} {v2 : Int32} {v3 : Int32} {m : Mem} (h_this : kd this = 10) (h_v1 : kd v1 = 1) {r : Option AV} {m' : Mem} {x : (Int32 × Mem) ⊕ (Int32 × Mem)} (h : Tr_moveHeaps_l2 this v1 v2 v3 m = some x) (hp : (Sum.elim (fun s : Int32 × Mem => V g Y_Tr_moveHeaps 2 [some (vr this), some (vr v1), some (vi v2), some (vi s.1)] [] s.2 (PM g Y_Tr_moveHeaps r m')) (fun x : Int32 × Mem => r = some (vi x.1) ∧ m' = x.2)) x) : V g Y_Tr_moveHeaps 2 [some (vr this), some (vr v1), some (vi v2), some (vi v3)] [] m (PM g Y_Tr_moveHeaps r m') := by
  unfold Tr_moveHeaps_l2 at h
  refine V_iload_n (i := 3) (pc := 2) dX9_moveHeaps_2 rfl rfl ?_
  refine V_iload_n (i := 2) (pc := 3) dX9_moveHeaps_3 rfl rfl ?_
  refine V_icmp_ge (pc := 4) (tgt := 37) dX9_moveHeaps_4 rfl (fun q => ?_) (fun q => ?_)
  · have h := ite_t q h
    obtain ⟨y1, hu1, rfl⟩ := up_e h
    have h := hu1
    refine V_iload_n (i := 3) (pc := 37) dX9_moveHeaps_37 rfl rfl ?_
    obtain rfl := Option.some.inj h
    exact E_i (pc := 38) dX9_moveHeaps_38 rfl hp
  · have h := ite_f q h
    refine V_aload_n (i := 0) (pc := 7) dX9_moveHeaps_7 rfl rfl ?_
    refine V_aload_n (i := 1) (pc := 8) dX9_moveHeaps_8 rfl rfl ?_
    obtain ⟨r9, e9, h⟩ := bnd h
    refine V_invV1 (c := 9) (pc := 9) dX9_moveHeaps_9 (e_Tr_findBetter h_this h_v1 e9) iv_Tr_68 (rm_Tr_moveHeaps_Tr_findBetter _ _ _) rfl h_this cf_9 rfl (Nat.le_of_ble_eq_true rfl) rfl ?_
    refine V_if_eq (pc := 12) (tgt := 37) dX9_moveHeaps_12 rfl (fun q => ?_) (fun q => ?_)
    · have h := ite_t q h
      obtain ⟨y2, hu2, rfl⟩ := up_e h
      have h := hu2
      refine V_iload_n (i := 3) (pc := 37) dX9_moveHeaps_37 rfl rfl ?_
      obtain rfl := Option.some.inj h
      exact E_i (pc := 38) dX9_moveHeaps_38 rfl hp
    · have h := ite_f q h
      refine V_aload_n (i := 1) (pc := 15) dX9_moveHeaps_15 rfl rfl ?_
      refine V_aload_n (i := 0) (pc := 16) dX9_moveHeaps_16 rfl rfl ?_
      refine V_getI (pc := 17) dX9_moveHeaps_17 fl_Tr_72 h_this rfl ?_
      refine V_aload_n (i := 0) (pc := 20) dX9_moveHeaps_20 rfl rfl ?_
      refine V_getI (pc := 21) dX9_moveHeaps_21 fl_Tr_75 h_this rfl ?_
      refine V_aload_n (i := 0) (pc := 24) dX9_moveHeaps_24 rfl rfl ?_
      refine V_getI (pc := 25) dX9_moveHeaps_25 fl_Tr_78 h_this rfl ?_
      obtain ⟨m28, e28, h⟩ := bnd h
      refine V_invV0 (c := 0) (pc := 28) dX9_moveHeaps_28 (e_Ca_placeHeap h_v1 e28) iv_Tr_81 (rm_Tr_moveHeaps_Ca_placeHeap _ _ _) rfl h_v1 cf_0 rfl (Nat.le_of_ble_eq_true rfl) rfl ?_
      refine V_iinc (i := 3) (v := (v3 + 1)) (ls' := [some (vr this), some (vr v1), some (vi v2), some (vi (v3 + 1))]) (pc := 31) dX9_moveHeaps_31 rfl rfl (Nat.le_of_ble_eq_true rfl) rfl ?_
      refine V_goto (tgt := 2) (pc := 34) dX9_moveHeaps_34 rfl ?_
      obtain rfl := Option.some.inj h
      exact hp
theorem k_Tr_moveHeaps {g : GE} {this : Nat} {v1 : Nat} {v2 : Int32} {m : Mem} (h_this : kd this = 10) (h_v1 : kd v1 = 1) {r : Option AV} {m' : Mem} {x : Int32 × Mem} (h : Tr_moveHeaps this v1 v2 m = some x) (hp : (fun x : Int32 × Mem => r = some (vi x.1) ∧ m' = x.2) x) : V g Y_Tr_moveHeaps 0 [some (vr this), some (vr v1), some (vi v2), none] [] m (PM g Y_Tr_moveHeaps r m') := by
  unfold Tr_moveHeaps at h
  refine V_iconst (v := 0) (pc := 0) dX9_moveHeaps_0 rfl ?_
  refine V_istore_n (i := 3) (ls' := [some (vr this), some (vr v1), some (vi v2), some (vi 0)]) (pc := 1) dX9_moveHeaps_1 rfl (Nat.le_of_ble_eq_true rfl) rfl ?_
  exact loop_V (A := fun s : Int32 × Mem => V g Y_Tr_moveHeaps 2 [some (vr this), some (vr v1), some (vi v2), some (vi s.1)] [] s.2 (PM g Y_Tr_moveHeaps r m')) (fun s x h hp => k_Tr_moveHeaps_l2 h_this h_v1 h hp) (0, m) _ h hp
theorem e_Tr_moveHeaps {g : GE} {this : Nat} {v1 : Nat} {v2 : Int32} {m : Mem} (h_this : kd this = 10) (h_v1 : kd v1 = 1) {x : Int32 × Mem} (h : Tr_moveHeaps this v1 v2 m = some x) : Ev g Y_Tr_moveHeaps [vr this, vr v1, vi v2] m (some (vi x.1)) x.2 :=
  Ev_of 1 (by decide +kernel) rfl (Nat.le_of_ble_eq_true rfl) rfl (k_Tr_moveHeaps h_this h_v1 h ⟨rfl, rfl⟩)
theorem k_PL_betters {g : GE} {this : Nat} {v1 : Int32} {m : Mem} (h_this : kd this = 11) {r : Option AV} {m' : Mem} {x : Int32 × Mem} (h : PL_betters this v1 m = some x) (hp : (fun x : Int32 × Mem => r = some (vi x.1) ∧ m' = x.2) x) : V g Y_PL_betters 0 [some (vr this), some (vi v1)] [] m (PM g Y_PL_betters r m') := by
  unfold PL_betters at h
  refine V_aload_n (i := 0) (pc := 0) dX10_betters_0 rfl rfl ?_
  refine V_getR (b := (this + 27)) (pc := 1) dX10_betters_1 fl_PL_19 h_this rfl rfl ?_
  refine V_getR (b := (this + 28)) (pc := 4) dX10_betters_4 fl_PL_102 (kf_10_1 h_this) rfl rfl ?_
  obtain ⟨r7, e7, h⟩ := bnd h
  refine V_invV1 (c := 2) (pc := 7) dX10_betters_7 (e_Fl_isThere (kf_0_0 (kf_10_1 h_this)) e7) iv_PL_222 (rm_PL_betters_Fl_isThere _ _ _) rfl (kf_0_0 (kf_10_1 h_this)) cf_2 rfl (Nat.le_of_ble_eq_true rfl) rfl ?_
  refine V_if_eq (pc := 10) (tgt := 22) dX10_betters_10 rfl (fun q => ?_) (fun q => ?_)
  · have h := ite_t q h
    refine V_bipush (v := (-2)) (pc := 22) dX10_betters_22 rfl ?_
    obtain rfl := Option.some.inj h
    exact E_i (pc := 24) dX10_betters_24 rfl hp
  · have h := ite_f q h
    refine V_iload_n (i := 1) (pc := 13) dX10_betters_13 rfl rfl ?_
    refine V_if_lt (pc := 14) (tgt := 22) dX10_betters_14 rfl (fun q => ?_) (fun q => ?_)
    · have h := ite_t q h
      refine V_bipush (v := (-2)) (pc := 22) dX10_betters_22 rfl ?_
      obtain rfl := Option.some.inj h
      exact E_i (pc := 24) dX10_betters_24 rfl hp
    · have h := ite_f q h
      refine V_iload_n (i := 1) (pc := 17) dX10_betters_17 rfl rfl ?_
      refine V_iconst (v := 5) (pc := 18) dX10_betters_18 rfl ?_
      refine V_icmp_le (pc := 19) (tgt := 25) dX10_betters_19 rfl (fun q => ?_) (fun q => ?_)
      · have h := ite_t q h
        refine V_aload_n (i := 0) (pc := 25) dX10_betters_25 rfl rfl ?_
        refine V_getR (b := (this + 219)) (pc := 26) dX10_betters_26 fl_PL_48 h_this rfl rfl ?_
        refine V_aload_n (i := 0) (pc := 29) dX10_betters_29 rfl rfl ?_
        refine V_getR (b := (this + 27)) (pc := 30) dX10_betters_30 fl_PL_19 h_this rfl rfl ?_
        refine V_iload_n (i := 1) (pc := 33) dX10_betters_33 rfl rfl ?_
        obtain ⟨r34, e34, h⟩ := bnd h
        refine V_invV1 (c := 9) (pc := 34) dX10_betters_34 (e_Tr_moveHeaps (kf_10_6 h_this) (kf_10_1 h_this) e34) iv_PL_281 (rm_PL_betters_Tr_moveHeaps _ _ _) rfl (kf_10_6 h_this) cf_9 rfl (Nat.le_of_ble_eq_true rfl) rfl ?_
        obtain rfl := Option.some.inj h
        exact E_i (pc := 37) dX10_betters_37 rfl hp
      · have h := ite_f q h
        refine V_bipush (v := (-2)) (pc := 22) dX10_betters_22 rfl ?_
        obtain rfl := Option.some.inj h
        exact E_i (pc := 24) dX10_betters_24 rfl hp
theorem e_PL_betters {g : GE} {this : Nat} {v1 : Int32} {m : Mem} (h_this : kd this = 11) {x : Int32 × Mem} (h : PL_betters this v1 m = some x) : Ev g Y_PL_betters [vr this, vi v1] m (some (vi x.1)) x.2 :=
  Ev_of 0 (by decide +kernel) rfl (Nat.le_of_ble_eq_true rfl) rfl (k_PL_betters h_this h ⟨rfl, rfl⟩)
theorem k_PL_gap {g : GE} {this : Nat} {m : Mem} (h_this : kd this = 11) {r : Option AV} {m' : Mem} {x : Int64 × Mem} (h : PL_gap this m = some x) (hp : (fun x : Int64 × Mem => r = some (vl x.1) ∧ m' = x.2) x) : V g Y_PL_gap 0 [some (vr this)] [] m (PM g Y_PL_gap r m') := by
  unfold PL_gap at h
  refine V_aload_n (i := 0) (pc := 0) dX10_gap_0 rfl rfl ?_
  refine V_getR (b := (this + 27)) (pc := 1) dX10_gap_1 fl_PL_19 h_this rfl rfl ?_
  refine V_getR (b := (this + 28)) (pc := 4) dX10_gap_4 fl_PL_102 (kf_10_1 h_this) rfl rfl ?_
  obtain ⟨r7, e7, h⟩ := bnd h
  refine V_invV1 (c := 2) (pc := 7) dX10_gap_7 (e_Fl_isThere (kf_0_0 (kf_10_1 h_this)) e7) iv_PL_222 (rm_PL_gap_Fl_isThere _ _ _) rfl (kf_0_0 (kf_10_1 h_this)) cf_2 rfl (Nat.le_of_ble_eq_true rfl) rfl ?_
  refine V_if_ne (pc := 10) (tgt := 17) dX10_gap_10 rfl (fun q => ?_) (fun q => ?_)
  · have h := ite_f q h
    refine V_aload_n (i := 0) (pc := 17) dX10_gap_17 rfl rfl ?_
    refine V_getR (b := (this + 219)) (pc := 18) dX10_gap_18 fl_PL_48 h_this rfl rfl ?_
    refine V_getR (b := (this + 220)) (pc := 21) dX10_gap_21 fl_PL_285 (kf_10_6 h_this) rfl rfl ?_
    refine V_aload_n (i := 0) (pc := 24) dX10_gap_24 rfl rfl ?_
    refine V_getR (b := (this + 27)) (pc := 25) dX10_gap_25 fl_PL_19 h_this rfl rfl ?_
    obtain ⟨m28, e28, h⟩ := bnd h
    refine V_invV0 (c := 0) (pc := 28) dX10_gap_28 (e_Ca_copyFrom (kf_9_0 (kf_10_6 h_this)) (kf_10_1 h_this) e28) iv_PL_288 (rm_PL_gap_Ca_copyFrom _ _ _) rfl (kf_9_0 (kf_10_6 h_this)) cf_0 rfl (Nat.le_of_ble_eq_true rfl) rfl ?_
    refine V_aload_n (i := 0) (pc := 31) dX10_gap_31 rfl rfl ?_
    refine V_getR (b := (this + 219)) (pc := 32) dX10_gap_32 fl_PL_48 h_this rfl rfl ?_
    refine V_aload_n (i := 0) (pc := 35) dX10_gap_35 rfl rfl ?_
    refine V_getR (b := (this + 219)) (pc := 36) dX10_gap_36 fl_PL_48 h_this rfl rfl ?_
    refine V_getR (b := (this + 220)) (pc := 39) dX10_gap_39 fl_PL_285 (kf_10_6 h_this) rfl rfl ?_
    refine V_iconst (v := 5) (pc := 42) dX10_gap_42 rfl ?_
    obtain ⟨r43, e43, h⟩ := bnd h
    refine V_invV1 (c := 9) (pc := 43) dX10_gap_43 (e_Tr_moveHeaps (kf_10_6 h_this) (kf_9_0 (kf_10_6 h_this)) e43) iv_PL_281 (rm_PL_gap_Tr_moveHeaps _ _ _) rfl (kf_10_6 h_this) cf_9 rfl (Nat.le_of_ble_eq_true rfl) rfl ?_
    refine V_popi (pc := 46) dX10_gap_46 ?_
    refine V_aload_n (i := 0) (pc := 47) dX10_gap_47 rfl rfl ?_
    refine V_getR (b := (this + 202)) (pc := 48) dX10_gap_48 fl_PL_41 h_this rfl rfl ?_
    refine V_aload_n (i := 0) (pc := 51) dX10_gap_51 rfl rfl ?_
    refine V_getR (b := (this + 27)) (pc := 52) dX10_gap_52 fl_PL_19 h_this rfl rfl ?_
    refine V_iconst (v := 1) (pc := 55) dX10_gap_55 rfl ?_
    obtain ⟨r56, e56, h⟩ := bnd h
    refine V_invV1 (c := 4) (pc := 56) dX10_gap_56 (e_Ic_lostIn (kf_10_5 h_this) (kf_10_1 h_this) e56) iv_PL_238 (rm_PL_gap_Ic_lostIn _ _ _) rfl (kf_10_5 h_this) cf_4 rfl (Nat.le_of_ble_eq_true rfl) rfl ?_
    refine V_aload_n (i := 0) (pc := 59) dX10_gap_59 rfl rfl ?_
    refine V_getR (b := (this + 202)) (pc := 60) dX10_gap_60 fl_PL_41 h_this rfl rfl ?_
    refine V_aload_n (i := 0) (pc := 63) dX10_gap_63 rfl rfl ?_
    refine V_getR (b := (this + 219)) (pc := 64) dX10_gap_64 fl_PL_48 h_this rfl rfl ?_
    refine V_getR (b := (this + 220)) (pc := 67) dX10_gap_67 fl_PL_285 (kf_10_6 h_this) rfl rfl ?_
    refine V_iconst (v := 1) (pc := 70) dX10_gap_70 rfl ?_
    obtain ⟨r71, e71, h⟩ := bnd h
    refine V_invV1 (c := 4) (pc := 71) dX10_gap_71 (e_Ic_lostIn (kf_10_5 h_this) (kf_9_0 (kf_10_6 h_this)) e71) iv_PL_238 (rm_PL_gap_Ic_lostIn _ _ _) rfl (kf_10_5 h_this) cf_4 rfl (Nat.le_of_ble_eq_true rfl) rfl ?_
    refine V_lsub (pc := 74) dX10_gap_74 ?_
    obtain rfl := Option.some.inj h
    exact E_l (pc := 75) dX10_gap_75 rfl hp
  · have h := ite_t q h
    refine V_ldc2 (v := (-2)) (pc := 13) dX10_gap_13 con_PL_209 ?_
    obtain rfl := Option.some.inj h
    exact E_l (pc := 16) dX10_gap_16 rfl hp
theorem e_PL_gap {g : GE} {this : Nat} {m : Mem} (h_this : kd this = 11) {x : Int64 × Mem} (h : PL_gap this m = some x) : Ev g Y_PL_gap [vr this] m (some (vl x.1)) x.2 :=
  Ev_of 0 (by decide +kernel) rfl (Nat.le_of_ble_eq_true rfl) rfl (k_PL_gap h_this h ⟨rfl, rfl⟩)
theorem k_Tr_bestHeaps_b52 {g : GE} {this : Nat} {v1 : Nat} {v2 : Int32} {v3 : Int64} {v5 : Int32}  {m : Mem} (h_this : kd this = 10) (h_v1 : kd v1 = 1) {r : Option AV} {m' : Mem} {x : (Int32 × Int64 × Int32 × Mem) ⊕ (Int32 × Mem)} (h : Tr_bestHeaps_b52 this v1 v2 v3 v5 m = some x) (hp : (Sum.elim (fun s : Int32 × Int64 × Int32 × Mem => V g Y_Tr_bestHeaps 13 [some (vr this), some (vr v1), some (vi s.1), some (vl s.2.1), none, some (vi s.2.2.1), none, none] [] s.2.2.2 (PM g Y_Tr_bestHeaps r m')) (fun x : Int32 × Mem => r = some (vi x.1) ∧ m' = x.2)) x) : V g Y_Tr_bestHeaps 52 [some (vr this), some (vr v1), some (vi v2), some (vl v3), none, some (vi v5), none, none] [] m (PM g Y_Tr_bestHeaps r m') := by
  unfold Tr_bestHeaps_b52 at h
  refine V_iinc (i := 5) (v := (v5 + 1)) (ls' := [some (vr this), some (vr v1), some (vi v2), some (vl v3), none, some (vi (v5 + 1)), none, none]) (pc := 52) dX9_bestHeaps_52 rfl rfl (Nat.le_of_ble_eq_true rfl) rfl ?_
  refine V_goto (tgt := 13) (pc := 55) dX9_bestHeaps_55 rfl ?_
  obtain rfl := Option.some.inj h
  exact hp
theorem k_Tr_bestHeaps_l13 {g : GE} {this : Nat} {v1 : Nat}  {v2 : Int32} {v3 : Int64} {v5 : Int32} {m : Mem} (h_this : kd this = 10) (h_v1 : kd v1 = 1) {r : Option AV} {m' : Mem} {x : (Int32 × Int64 × Int32 × Mem) ⊕ (Int32 × Mem)} (h : Tr_bestHeaps_l13 this v1 v2 v3 v5 m = some x) (hp : (Sum.elim (fun s : Int32 × Int64 × Int32 × Mem => V g Y_Tr_bestHeaps 13 [some (vr this), some (vr v1), some (vi s.1), some (vl s.2.1), none, some (vi s.2.2.1), none, none] [] s.2.2.2 (PM g Y_Tr_bestHeaps r m')) (fun x : Int32 × Mem => r = some (vi x.1) ∧ m' = x.2)) x) : V g Y_Tr_bestHeaps 13 [some (vr this), some (vr v1), some (vi v2), some (vl v3), none, some (vi v5), none, none] [] m (PM g Y_Tr_bestHeaps r m') := by
  unfold Tr_bestHeaps_l13 at h
  refine V_iload (i := 5) (pc := 13) dX9_bestHeaps_13 rfl ?_
  refine V_aload_n (i := 1) (pc := 15) dX9_bestHeaps_15 rfl rfl ?_
  obtain ⟨r16, e16, h⟩ := bnd h
  refine V_invV1 (c := 0) (pc := 16) dX9_bestHeaps_16 (e_Ca_heapsThere h_v1 e16) iv_Tr_41 (rm_Tr_bestHeaps_Ca_heapsThere _ _ _) rfl h_v1 cf_0 rfl (Nat.le_of_ble_eq_true rfl) rfl ?_
  refine V_icmp_gt (pc := 19) (tgt := 58) dX9_bestHeaps_19 rfl (fun q => ?_) (fun q => ?_)
  · have h := ite_t q h
    obtain ⟨y1, hu1, rfl⟩ := up_e h
    have h := hu1
    refine V_iload_n (i := 2) (pc := 58) dX9_bestHeaps_58 rfl rfl ?_
    obtain rfl := Option.some.inj h
    exact E_i (pc := 59) dX9_bestHeaps_59 rfl hp
  · have h := ite_f q h
    refine V_iload (i := 5) (pc := 22) dX9_bestHeaps_22 rfl ?_
    refine V_bipush (v := 8) (pc := 24) dX9_bestHeaps_24 rfl ?_
    refine V_icmp_gt (pc := 26) (tgt := 58) dX9_bestHeaps_26 rfl (fun q => ?_) (fun q => ?_)
    · have h := ite_t q h
      obtain ⟨y2, hu2, rfl⟩ := up_e h
      have h := hu2
      refine V_iload_n (i := 2) (pc := 58) dX9_bestHeaps_58 rfl rfl ?_
      obtain rfl := Option.some.inj h
      exact E_i (pc := 59) dX9_bestHeaps_59 rfl hp
    · have h := ite_f q h
      refine V_aload_n (i := 0) (pc := 29) dX9_bestHeaps_29 rfl rfl ?_
      refine V_aload_n (i := 1) (pc := 30) dX9_bestHeaps_30 rfl rfl ?_
      refine V_iconst (v := 1) (pc := 31) dX9_bestHeaps_31 rfl ?_
      refine V_iload (i := 5) (pc := 32) dX9_bestHeaps_32 rfl ?_
      obtain ⟨r34, e34, h⟩ := bnd h
      refine V_invV1 (c := 9) (pc := 34) dX9_bestHeaps_34 (e_Tr_lostIfLaid h_this h_v1 e34) iv_Tr_37 (rm_Tr_bestHeaps_Tr_lostIfLaid _ _ _) rfl h_this cf_9 rfl (Nat.le_of_ble_eq_true rfl) rfl ?_
      refine V_lstore (i := 6) (ls' := [some (vr this), some (vr v1), some (vi v2), some (vl v3), none, some (vi v5), some (vl r34.1), none]) (pc := 37) dX9_bestHeaps_37 (Nat.le_of_ble_eq_true rfl) rfl ?_
      refine V_lload (i := 6) (pc := 39) dX9_bestHeaps_39 rfl ?_
      refine V_lload_n (i := 3) (pc := 41) dX9_bestHeaps_41 rfl rfl ?_
      refine V_lif_ge (pc := 42) (tgt := 52) dX9_bestHeaps_42 dX9_bestHeaps_43 rfl (fun q => ?_) (fun q => ?_)
      · have h := ite_t q h
        refine V_sub (ls' := [some (vr this), some (vr v1), some (vi v2), some (vl v3), none, some (vi v5), none, none]) (And.intro rfl (And.intro rfl (And.intro rfl (And.intro rfl (And.intro rfl trivial))))) ?_
        exact k_Tr_bestHeaps_b52 h_this h_v1 h hp
      · have h := ite_f q h
        refine V_lload (i := 6) (pc := 46) dX9_bestHeaps_46 rfl ?_
        refine V_lstore_n (i := 3) (ls' := [some (vr this), some (vr v1), some (vi v2), some (vl r34.1), none, some (vi v5), some (vl r34.1), none]) (pc := 48) dX9_bestHeaps_48 rfl (Nat.le_of_ble_eq_true rfl) rfl ?_
        refine V_iload (i := 5) (pc := 49) dX9_bestHeaps_49 rfl ?_
        refine V_istore_n (i := 2) (ls' := [some (vr this), some (vr v1), some (vi v5), some (vl r34.1), none, some (vi v5), some (vl r34.1), none]) (pc := 51) dX9_bestHeaps_51 rfl (Nat.le_of_ble_eq_true rfl) rfl ?_
        refine V_sub (ls' := [some (vr this), some (vr v1), some (vi v5), some (vl r34.1), none, some (vi v5), none, none]) (And.intro rfl (And.intro rfl (And.intro rfl (And.intro rfl (And.intro rfl trivial))))) ?_
        exact k_Tr_bestHeaps_b52 h_this h_v1 h hp
theorem k_Tr_bestHeaps {g : GE} {this : Nat} {v1 : Nat} {m : Mem} (h_this : kd this = 10) (h_v1 : kd v1 = 1) {r : Option AV} {m' : Mem} {x : Int32 × Mem} (h : Tr_bestHeaps this v1 m = some x) (hp : (fun x : Int32 × Mem => r = some (vi x.1) ∧ m' = x.2) x) : V g Y_Tr_bestHeaps 0 [some (vr this), some (vr v1), none, none, none, none, none, none] [] m (PM g Y_Tr_bestHeaps r m') := by
  unfold Tr_bestHeaps at h
  refine V_iconst (v := 1) (pc := 0) dX9_bestHeaps_0 rfl ?_
  refine V_istore_n (i := 2) (ls' := [some (vr this), some (vr v1), some (vi 1), none, none, none, none, none]) (pc := 1) dX9_bestHeaps_1 rfl (Nat.le_of_ble_eq_true rfl) rfl ?_
  refine V_aload_n (i := 0) (pc := 2) dX9_bestHeaps_2 rfl rfl ?_
  refine V_aload_n (i := 1) (pc := 3) dX9_bestHeaps_3 rfl rfl ?_
  refine V_iconst (v := 1) (pc := 4) dX9_bestHeaps_4 rfl ?_
  refine V_iconst (v := 1) (pc := 5) dX9_bestHeaps_5 rfl ?_
  obtain ⟨r6, e6, h⟩ := bnd h
  refine V_invV1 (c := 9) (pc := 6) dX9_bestHeaps_6 (e_Tr_lostIfLaid h_this h_v1 e6) iv_Tr_37 (rm_Tr_bestHeaps_Tr_lostIfLaid _ _ _) rfl h_this cf_9 rfl (Nat.le_of_ble_eq_true rfl) rfl ?_
  refine V_lstore_n (i := 3) (ls' := [some (vr this), some (vr v1), some (vi 1), some (vl r6.1), none, none, none, none]) (pc := 9) dX9_bestHeaps_9 rfl (Nat.le_of_ble_eq_true rfl) rfl ?_
  refine V_iconst (v := 2) (pc := 10) dX9_bestHeaps_10 rfl ?_
  refine V_istore (i := 5) (ls' := [some (vr this), some (vr v1), some (vi 1), some (vl r6.1), none, some (vi 2), none, none]) (pc := 11) dX9_bestHeaps_11 (Nat.le_of_ble_eq_true rfl) rfl ?_
  exact loop_V (A := fun s : Int32 × Int64 × Int32 × Mem => V g Y_Tr_bestHeaps 13 [some (vr this), some (vr v1), some (vi s.1), some (vl s.2.1), none, some (vi s.2.2.1), none, none] [] s.2.2.2 (PM g Y_Tr_bestHeaps r m')) (fun s x h hp => k_Tr_bestHeaps_l13 h_this h_v1 h hp) (1, r6.1, 2, r6.2) _ h hp
theorem e_Tr_bestHeaps {g : GE} {this : Nat} {v1 : Nat} {m : Mem} (h_this : kd this = 10) (h_v1 : kd v1 = 1) {x : Int32 × Mem} (h : Tr_bestHeaps this v1 m = some x) : Ev g Y_Tr_bestHeaps [vr this, vr v1] m (some (vi x.1)) x.2 :=
  Ev_of 6 (by decide +kernel) rfl (Nat.le_of_ble_eq_true rfl) rfl (k_Tr_bestHeaps h_this h_v1 h ⟨rfl, rfl⟩)
theorem k_PL_heaps {g : GE} {this : Nat} {m : Mem} (h_this : kd this = 11) {r : Option AV} {m' : Mem} {x : Int32 × Mem} (h : PL_heaps this m = some x) (hp : (fun x : Int32 × Mem => r = some (vi x.1) ∧ m' = x.2) x) : V g Y_PL_heaps 0 [some (vr this), none] [] m (PM g Y_PL_heaps r m') := by
  unfold PL_heaps at h
  refine V_aload_n (i := 0) (pc := 0) dX10_heaps_0 rfl rfl ?_
  refine V_iconst (v := 0) (pc := 1) dX10_heaps_1 rfl ?_
  obtain ⟨r2, e2, h⟩ := bnd h
  refine V_invV1 (c := 10) (pc := 2) dX10_heaps_2 (e_PL_cannotLay h_this e2) iv_PL_263 (rm_PL_heaps_PL_cannotLay _ _ _) rfl h_this cf_10 rfl (Nat.le_of_ble_eq_true rfl) rfl ?_
  refine V_istore_n (i := 1) (ls' := [some (vr this), some (vi r2)]) (pc := 5) dX10_heaps_5 rfl (Nat.le_of_ble_eq_true rfl) rfl ?_
  refine V_iload_n (i := 1) (pc := 6) dX10_heaps_6 rfl rfl ?_
  refine V_if_eq (pc := 7) (tgt := 14) dX10_heaps_7 rfl (fun q => ?_) (fun q => ?_)
  · have h := ite_t q h
    refine V_aload_n (i := 0) (pc := 14) dX10_heaps_14 rfl rfl ?_
    refine V_getR (b := (this + 219)) (pc := 15) dX10_heaps_15 fl_PL_48 h_this rfl rfl ?_
    refine V_aload_n (i := 0) (pc := 18) dX10_heaps_18 rfl rfl ?_
    refine V_getR (b := (this + 27)) (pc := 19) dX10_heaps_19 fl_PL_19 h_this rfl rfl ?_
    obtain ⟨r22, e22, h⟩ := bnd h
    refine V_invV1 (c := 9) (pc := 22) dX10_heaps_22 (e_Tr_bestHeaps (kf_10_6 h_this) (kf_10_1 h_this) e22) iv_PL_291 (rm_PL_heaps_Tr_bestHeaps _ _ _) rfl (kf_10_6 h_this) cf_9 rfl (Nat.le_of_ble_eq_true rfl) rfl ?_
    obtain rfl := Option.some.inj h
    exact E_i (pc := 25) dX10_heaps_25 rfl hp
  · have h := ite_f q h
    refine V_iload_n (i := 1) (pc := 10) dX10_heaps_10 rfl rfl ?_
    refine V_goto (tgt := 25) (pc := 11) dX10_heaps_11 rfl ?_
    obtain rfl := Option.some.inj h
    exact E_i (pc := 25) dX10_heaps_25 rfl hp
theorem e_PL_heaps {g : GE} {this : Nat} {m : Mem} (h_this : kd this = 11) {x : Int32 × Mem} (h : PL_heaps this m = some x) : Ev g Y_PL_heaps [vr this] m (some (vi x.1)) x.2 :=
  Ev_of 1 (by decide +kernel) rfl (Nat.le_of_ble_eq_true rfl) rfl (k_PL_heaps h_this h ⟨rfl, rfl⟩)
theorem k_Tr_bestCellFor_b106 {g : GE} {this : Nat} {v1 : Nat} {v2 : Int32} {v3 : Int32} {v4 : Int64} {v6 : Int32} {v7 : Int32}  {m : Mem} (h_this : kd this = 10) (h_v1 : kd v1 = 1) {r : Option AV} {m' : Mem} {x : (Int32 × Int64 × Int32 × Mem) ⊕ ((Int32 × Int64 × Int32 × Mem) ⊕ (Int32 × Mem))} (h : Tr_bestCellFor_b106 this v1 v2 v3 v4 v6 v7 m = some x) (hp : (Sum.elim (fun s : Int32 × Int64 × Int32 × Mem => V g Y_Tr_bestCellFor 33 [some (vr this), some (vr v1), some (vi v2), some (vi s.1), some (vl s.2.1), none, some (vi v6), some (vi s.2.2.1), none, none] [] s.2.2.2 (PM g Y_Tr_bestCellFor r m')) (Sum.elim (fun s : Int32 × Int64 × Int32 × Mem => V g Y_Tr_bestCellFor 18 [some (vr this), some (vr v1), some (vi v2), some (vi s.1), some (vl s.2.1), none, some (vi s.2.2.1), none, none, none] [] s.2.2.2 (PM g Y_Tr_bestCellFor r m')) (fun x : Int32 × Mem => r = some (vi x.1) ∧ m' = x.2))) x) : V g Y_Tr_bestCellFor 106 [some (vr this), some (vr v1), some (vi v2), some (vi v3), some (vl v4), none, some (vi v6), some (vi v7), none, none] [] m (PM g Y_Tr_bestCellFor r m') := by
  unfold Tr_bestCellFor_b106 at h
  refine V_iinc (i := 7) (v := (v7 + 1)) (ls' := [some (vr this), some (vr v1), some (vi v2), some (vi v3), some (vl v4), none, some (vi v6), some (vi (v7 + 1)), none, none]) (pc := 106) dX9_bestCellFor_106 rfl rfl (Nat.le_of_ble_eq_true rfl) rfl ?_
  refine V_goto (tgt := 33) (pc := 109) dX9_bestCellFor_109 rfl ?_
  obtain rfl := Option.some.inj h
  exact hp
theorem k_Tr_bestCellFor_l33 {g : GE} {this : Nat} {v1 : Nat} {v2 : Int32} {v6 : Int32} {v3 : Int32} {v4 : Int64} {v7 : Int32} {m : Mem} (h_this : kd this = 10) (h_v1 : kd v1 = 1) {r : Option AV} {m' : Mem} {x : (Int32 × Int64 × Int32 × Mem) ⊕ ((Int32 × Int64 × Int32 × Mem) ⊕ (Int32 × Mem))} (h : Tr_bestCellFor_l33 this v1 v2 v6 v3 v4 v7 m = some x) (hp : (Sum.elim (fun s : Int32 × Int64 × Int32 × Mem => V g Y_Tr_bestCellFor 33 [some (vr this), some (vr v1), some (vi v2), some (vi s.1), some (vl s.2.1), none, some (vi v6), some (vi s.2.2.1), none, none] [] s.2.2.2 (PM g Y_Tr_bestCellFor r m')) (Sum.elim (fun s : Int32 × Int64 × Int32 × Mem => V g Y_Tr_bestCellFor 18 [some (vr this), some (vr v1), some (vi v2), some (vi s.1), some (vl s.2.1), none, some (vi s.2.2.1), none, none, none] [] s.2.2.2 (PM g Y_Tr_bestCellFor r m')) (fun x : Int32 × Mem => r = some (vi x.1) ∧ m' = x.2))) x) : V g Y_Tr_bestCellFor 33 [some (vr this), some (vr v1), some (vi v2), some (vi v3), some (vl v4), none, some (vi v6), some (vi v7), none, none] [] m (PM g Y_Tr_bestCellFor r m') := by
  unfold Tr_bestCellFor_l33 at h
  refine V_iload (i := 7) (pc := 33) dX9_bestCellFor_33 rfl ?_
  refine V_aload_n (i := 1) (pc := 35) dX9_bestCellFor_35 rfl rfl ?_
  refine V_getR (b := (v1 + 1)) (pc := 36) dX9_bestCellFor_36 fl_Tr_47 h_v1 rfl rfl ?_
  refine V_getI (pc := 39) dX9_bestCellFor_39 fl_Tr_57 (kf_0_0 h_v1) rfl ?_
  refine V_icmp_ge (pc := 42) (tgt := 112) dX9_bestCellFor_42 rfl (fun q => ?_) (fun q => ?_)
  · have h := ite_t q h
    obtain ⟨y2, hu2, rfl⟩ := up_e h
    have h := hu2
    refine V_iinc (i := 6) (v := (v6 + 1)) (ls' := [some (vr this), some (vr v1), some (vi v2), some (vi v3), some (vl v4), none, some (vi (v6 + 1)), some (vi v7), none, none]) (pc := 112) dX9_bestCellFor_112 rfl rfl (Nat.le_of_ble_eq_true rfl) rfl ?_
    refine V_goto (tgt := 18) (pc := 115) dX9_bestCellFor_115 rfl ?_
    refine V_sub (ls' := [some (vr this), some (vr v1), some (vi v2), some (vi v3), some (vl v4), none, some (vi (v6 + 1)), none, none, none]) (And.intro rfl (And.intro rfl (And.intro rfl (And.intro rfl (And.intro rfl (And.intro rfl trivial)))))) ?_
    obtain rfl := Option.some.inj h
    exact hp
  · have h := ite_f q h
    refine V_aload_n (i := 1) (pc := 45) dX9_bestCellFor_45 rfl rfl ?_
    refine V_getR (b := (v1 + 1)) (pc := 46) dX9_bestCellFor_46 fl_Tr_47 h_v1 rfl rfl ?_
    refine V_iload (i := 7) (pc := 49) dX9_bestCellFor_49 rfl ?_
    refine V_iload (i := 6) (pc := 51) dX9_bestCellFor_51 rfl ?_
    obtain ⟨r53, e53, h⟩ := bnd h
    refine V_invV1 (c := 2) (pc := 53) dX9_bestCellFor_53 (e_Fl_isLikeNeighbour (kf_0_0 h_v1) e53) iv_Tr_60 (rm_Tr_bestCellFor_Fl_isLikeNeighbour _ _ _) rfl (kf_0_0 h_v1) cf_2 rfl (Nat.le_of_ble_eq_true rfl) rfl ?_
    refine V_if_ne (pc := 56) (tgt := 106) dX9_bestCellFor_56 rfl (fun q => ?_) (fun q => ?_)
    · have h := ite_f q h
      exact k_Tr_bestCellFor_b106 h_this h_v1 h hp
    · have h := ite_t q h
      refine V_aload_n (i := 0) (pc := 59) dX9_bestCellFor_59 rfl rfl ?_
      refine V_getR (b := (this + 1)) (pc := 60) dX9_bestCellFor_60 fl_Tr_12 h_this rfl rfl ?_
      refine V_iload_n (i := 2) (pc := 63) dX9_bestCellFor_63 rfl rfl ?_
      refine V_iload (i := 7) (pc := 64) dX9_bestCellFor_64 rfl ?_
      refine V_iload (i := 6) (pc := 66) dX9_bestCellFor_66 rfl ?_
      obtain ⟨m68, e68, h⟩ := bnd h
      refine V_invV0 (c := 0) (pc := 68) dX9_bestCellFor_68 (e_Ca_placeGroup (kf_9_0 h_this) e68) iv_Tr_64 (rm_Tr_bestCellFor_Ca_placeGroup _ _ _) rfl (kf_9_0 h_this) cf_0 rfl (Nat.le_of_ble_eq_true rfl) rfl ?_
      refine V_aload_n (i := 0) (pc := 71) dX9_bestCellFor_71 rfl rfl ?_
      refine V_getR (b := (this + 42)) (pc := 72) dX9_bestCellFor_72 fl_Tr_21 h_this rfl rfl ?_
      refine V_aload_n (i := 0) (pc := 75) dX9_bestCellFor_75 rfl rfl ?_
      refine V_getR (b := (this + 1)) (pc := 76) dX9_bestCellFor_76 fl_Tr_12 h_this rfl rfl ?_
      refine V_iconst (v := 1) (pc := 79) dX9_bestCellFor_79 rfl ?_
      obtain ⟨r80, e80, h⟩ := bnd h
      refine V_invV1 (c := 4) (pc := 80) dX9_bestCellFor_80 (e_Ic_lostIn (kf_9_1 h_this) (kf_9_0 h_this) e80) iv_Tr_33 (rm_Tr_bestCellFor_Ic_lostIn _ _ _) rfl (kf_9_1 h_this) cf_4 rfl (Nat.le_of_ble_eq_true rfl) rfl ?_
      refine V_lstore (i := 8) (ls' := [some (vr this), some (vr v1), some (vi v2), some (vi v3), some (vl v4), none, some (vi v6), some (vi v7), some (vl r80.1), none]) (pc := 83) dX9_bestCellFor_83 (Nat.le_of_ble_eq_true rfl) rfl ?_
      refine V_lload (i := 8) (pc := 85) dX9_bestCellFor_85 rfl ?_
      refine V_lload (i := 4) (pc := 87) dX9_bestCellFor_87 rfl ?_
      refine V_lif_ge (pc := 89) (tgt := 106) dX9_bestCellFor_89 dX9_bestCellFor_90 rfl (fun q => ?_) (fun q => ?_)
      · have h := ite_t q h
        refine V_sub (ls' := [some (vr this), some (vr v1), some (vi v2), some (vi v3), some (vl v4), none, some (vi v6), some (vi v7), none, none]) (And.intro rfl (And.intro rfl (And.intro rfl (And.intro rfl (And.intro rfl (And.intro rfl (And.intro rfl trivial))))))) ?_
        exact k_Tr_bestCellFor_b106 h_this h_v1 h hp
      · have h := ite_f q h
        refine V_lload (i := 8) (pc := 93) dX9_bestCellFor_93 rfl ?_
        refine V_lstore (i := 4) (ls' := [some (vr this), some (vr v1), some (vi v2), some (vi v3), some (vl r80.1), none, some (vi v6), some (vi v7), some (vl r80.1), none]) (pc := 95) dX9_bestCellFor_95 (Nat.le_of_ble_eq_true rfl) rfl ?_
        refine V_iload (i := 7) (pc := 97) dX9_bestCellFor_97 rfl ?_
        refine V_bipush (v := 12) (pc := 99) dX9_bestCellFor_99 rfl ?_
        refine V_iload (i := 6) (pc := 101) dX9_bestCellFor_101 rfl ?_
        refine V_imul (pc := 103) dX9_bestCellFor_103 ?_
        refine V_iadd (pc := 104) dX9_bestCellFor_104 ?_
        refine V_istore_n (i := 3) (ls' := [some (vr this), some (vr v1), some (vi v2), some (vi (v7 + (12 * v6))), some (vl r80.1), none, some (vi v6), some (vi v7), some (vl r80.1), none]) (pc := 105) dX9_bestCellFor_105 rfl (Nat.le_of_ble_eq_true rfl) rfl ?_
        refine V_sub (ls' := [some (vr this), some (vr v1), some (vi v2), some (vi (v7 + (12 * v6))), some (vl r80.1), none, some (vi v6), some (vi v7), none, none]) (And.intro rfl (And.intro rfl (And.intro rfl (And.intro rfl (And.intro rfl (And.intro rfl (And.intro rfl trivial))))))) ?_
        exact k_Tr_bestCellFor_b106 h_this h_v1 h hp
theorem k_Tr_bestCellFor_l18 {g : GE} {this : Nat} {v1 : Nat} {v2 : Int32} {v3 : Int32} {v4 : Int64} {v6 : Int32} {m : Mem} (h_this : kd this = 10) (h_v1 : kd v1 = 1) {r : Option AV} {m' : Mem} {x : (Int32 × Int64 × Int32 × Mem) ⊕ (Int32 × Mem)} (h : Tr_bestCellFor_l18 this v1 v2 v3 v4 v6 m = some x) (hp : (Sum.elim (fun s : Int32 × Int64 × Int32 × Mem => V g Y_Tr_bestCellFor 18 [some (vr this), some (vr v1), some (vi v2), some (vi s.1), some (vl s.2.1), none, some (vi s.2.2.1), none, none, none] [] s.2.2.2 (PM g Y_Tr_bestCellFor r m')) (fun x : Int32 × Mem => r = some (vi x.1) ∧ m' = x.2)) x) : V g Y_Tr_bestCellFor 18 [some (vr this), some (vr v1), some (vi v2), some (vi v3), some (vl v4), none, some (vi v6), none, none, none] [] m (PM g Y_Tr_bestCellFor r m') := by
  unfold Tr_bestCellFor_l18 at h
  refine V_iload (i := 6) (pc := 18) dX9_bestCellFor_18 rfl ?_
  refine V_aload_n (i := 1) (pc := 20) dX9_bestCellFor_20 rfl rfl ?_
  refine V_getR (b := (v1 + 1)) (pc := 21) dX9_bestCellFor_21 fl_Tr_47 h_v1 rfl rfl ?_
  refine V_getI (pc := 24) dX9_bestCellFor_24 fl_Tr_51 (kf_0_0 h_v1) rfl ?_
  refine V_icmp_ge (pc := 27) (tgt := 118) dX9_bestCellFor_27 rfl (fun q => ?_) (fun q => ?_)
  · have h := ite_t q h
    obtain ⟨y1, hu1, rfl⟩ := up_e h
    have h := hu1
    refine V_iload_n (i := 3) (pc := 118) dX9_bestCellFor_118 rfl rfl ?_
    obtain rfl := Option.some.inj h
    exact E_i (pc := 119) dX9_bestCellFor_119 rfl hp
  · have h := ite_f q h
    refine V_iconst (v := 0) (pc := 30) dX9_bestCellFor_30 rfl ?_
    refine V_istore (i := 7) (ls' := [some (vr this), some (vr v1), some (vi v2), some (vi v3), some (vl v4), none, some (vi v6), some (vi 0), none, none]) (pc := 31) dX9_bestCellFor_31 (Nat.le_of_ble_eq_true rfl) rfl ?_
    exact loop_V (A := fun s : Int32 × Int64 × Int32 × Mem => V g Y_Tr_bestCellFor 33 [some (vr this), some (vr v1), some (vi v2), some (vi s.1), some (vl s.2.1), none, some (vi v6), some (vi s.2.2.1), none, none] [] s.2.2.2 (PM g Y_Tr_bestCellFor r m')) (fun s x h hp => k_Tr_bestCellFor_l33 h_this h_v1 h hp) (v3, v4, 0, m) _ h hp
theorem k_Tr_bestCellFor {g : GE} {this : Nat} {v1 : Nat} {v2 : Int32} {m : Mem} (h_this : kd this = 10) (h_v1 : kd v1 = 1) {r : Option AV} {m' : Mem} {x : Int32 × Mem} (h : Tr_bestCellFor this v1 v2 m = some x) (hp : (fun x : Int32 × Mem => r = some (vi x.1) ∧ m' = x.2) x) : V g Y_Tr_bestCellFor 0 [some (vr this), some (vr v1), some (vi v2), none, none, none, none, none, none, none] [] m (PM g Y_Tr_bestCellFor r m') := by
  unfold Tr_bestCellFor at h
  refine V_aload_n (i := 0) (pc := 0) dX9_bestCellFor_0 rfl rfl ?_
  refine V_getR (b := (this + 1)) (pc := 1) dX9_bestCellFor_1 fl_Tr_12 h_this rfl rfl ?_
  refine V_aload_n (i := 1) (pc := 4) dX9_bestCellFor_4 rfl rfl ?_
  obtain ⟨m5, e5, h⟩ := bnd h
  refine V_invV0 (c := 0) (pc := 5) dX9_bestCellFor_5 (e_Ca_copyFrom (kf_9_0 h_this) h_v1 e5) iv_Tr_25 (rm_Tr_bestCellFor_Ca_copyFrom _ _ _) rfl (kf_9_0 h_this) cf_0 rfl (Nat.le_of_ble_eq_true rfl) rfl ?_
  refine V_iconst (v := 0) (pc := 8) dX9_bestCellFor_8 rfl ?_
  refine V_istore_n (i := 3) (ls' := [some (vr this), some (vr v1), some (vi v2), some (vi 0), none, none, none, none, none, none]) (pc := 9) dX9_bestCellFor_9 rfl (Nat.le_of_ble_eq_true rfl) rfl ?_
  refine V_ldc2 (v := 1000000000001) (pc := 10) dX9_bestCellFor_10 con_Tr_45 ?_
  refine V_lstore (i := 4) (ls' := [some (vr this), some (vr v1), some (vi v2), some (vi 0), some (vl 1000000000001), none, none, none, none, none]) (pc := 13) dX9_bestCellFor_13 (Nat.le_of_ble_eq_true rfl) rfl ?_
  refine V_iconst (v := 0) (pc := 15) dX9_bestCellFor_15 rfl ?_
  refine V_istore (i := 6) (ls' := [some (vr this), some (vr v1), some (vi v2), some (vi 0), some (vl 1000000000001), none, some (vi 0), none, none, none]) (pc := 16) dX9_bestCellFor_16 (Nat.le_of_ble_eq_true rfl) rfl ?_
  exact loop_V (A := fun s : Int32 × Int64 × Int32 × Mem => V g Y_Tr_bestCellFor 18 [some (vr this), some (vr v1), some (vi v2), some (vi s.1), some (vl s.2.1), none, some (vi s.2.2.1), none, none, none] [] s.2.2.2 (PM g Y_Tr_bestCellFor r m')) (fun s x h hp => k_Tr_bestCellFor_l18 h_this h_v1 h hp) (0, 1000000000001, 0, m5) _ h hp
theorem e_Tr_bestCellFor {g : GE} {this : Nat} {v1 : Nat} {v2 : Int32} {m : Mem} (h_this : kd this = 10) (h_v1 : kd v1 = 1) {x : Int32 × Mem} (h : Tr_bestCellFor this v1 v2 m = some x) : Ev g Y_Tr_bestCellFor [vr this, vr v1, vi v2] m (some (vi x.1)) x.2 :=
  Ev_of 7 (by decide +kernel) rfl (Nat.le_of_ble_eq_true rfl) rfl (k_Tr_bestCellFor h_this h_v1 h ⟨rfl, rfl⟩)
theorem k_PL_where {g : GE} {this : Nat} {v1 : Int32} {m : Mem} (h_this : kd this = 11) {r : Option AV} {m' : Mem} {x : Int32 × Mem} (h : PL_where this v1 m = some x) (hp : (fun x : Int32 × Mem => r = some (vi x.1) ∧ m' = x.2) x) : V g Y_PL_where 0 [some (vr this), some (vi v1)] [] m (PM g Y_PL_where r m') := by
  unfold PL_where at h
  refine V_aload_n (i := 0) (pc := 0) dX10_where_0 rfl rfl ?_
  refine V_getR (b := (this + 27)) (pc := 1) dX10_where_1 fl_PL_19 h_this rfl rfl ?_
  refine V_getR (b := (this + 28)) (pc := 4) dX10_where_4 fl_PL_102 (kf_10_1 h_this) rfl rfl ?_
  obtain ⟨r7, e7, h⟩ := bnd h
  refine V_invV1 (c := 2) (pc := 7) dX10_where_7 (e_Fl_isThere (kf_0_0 (kf_10_1 h_this)) e7) iv_PL_222 (rm_PL_where_Fl_isThere _ _ _) rfl (kf_0_0 (kf_10_1 h_this)) cf_2 rfl (Nat.le_of_ble_eq_true rfl) rfl ?_
  refine V_if_eq (pc := 10) (tgt := 20) dX10_where_10 rfl (fun q => ?_) (fun q => ?_)
  · have h := ite_t q h
    refine V_bipush (v := (-2)) (pc := 20) dX10_where_20 rfl ?_
    obtain rfl := Option.some.inj h
    exact E_i (pc := 22) dX10_where_22 rfl hp
  · have h := ite_f q h
    refine V_iload_n (i := 1) (pc := 13) dX10_where_13 rfl rfl ?_
    obtain ⟨r14, e14, h⟩ := bnd h
    refine V_invS1 (pc := 14) dX10_where_14 (e_PL_isGroup  e14) is_PL_150 (rm_PL_where_PL_isGroup _ _ _) rfl (Nat.le_of_ble_eq_true rfl) rfl ?_
    refine V_if_ne (pc := 17) (tgt := 23) dX10_where_17 rfl (fun q => ?_) (fun q => ?_)
    · have h := ite_f q h
      refine V_aload_n (i := 0) (pc := 23) dX10_where_23 rfl rfl ?_
      refine V_getR (b := (this + 219)) (pc := 24) dX10_where_24 fl_PL_48 h_this rfl rfl ?_
      refine V_aload_n (i := 0) (pc := 27) dX10_where_27 rfl rfl ?_
      refine V_getR (b := (this + 27)) (pc := 28) dX10_where_28 fl_PL_19 h_this rfl rfl ?_
      refine V_iload_n (i := 1) (pc := 31) dX10_where_31 rfl rfl ?_
      obtain ⟨r32, e32, h⟩ := bnd h
      refine V_invV1 (c := 9) (pc := 32) dX10_where_32 (e_Tr_bestCellFor (kf_10_6 h_this) (kf_10_1 h_this) e32) iv_PL_294 (rm_PL_where_Tr_bestCellFor _ _ _) rfl (kf_10_6 h_this) cf_9 rfl (Nat.le_of_ble_eq_true rfl) rfl ?_
      obtain rfl := Option.some.inj h
      exact E_i (pc := 35) dX10_where_35 rfl hp
    · have h := ite_t q h
      refine V_bipush (v := (-2)) (pc := 20) dX10_where_20 rfl ?_
      obtain rfl := Option.some.inj h
      exact E_i (pc := 22) dX10_where_22 rfl hp
theorem e_PL_where {g : GE} {this : Nat} {v1 : Int32} {m : Mem} (h_this : kd this = 11) {x : Int32 × Mem} (h : PL_where this v1 m = some x) : Ev g Y_PL_where [vr this, vi v1] m (some (vi x.1)) x.2 :=
  Ev_of 0 (by decide +kernel) rfl (Nat.le_of_ble_eq_true rfl) rfl (k_PL_where h_this h ⟨rfl, rfl⟩)
theorem k_PL_unseenBy_l7 {g : GE} {this : Nat} {v1 : Int32} {v2 : Int64} {v4 : Int32} {m : Mem} (h_this : kd this = 11) {r : Option AV} {m' : Mem} {x : (Int64 × Int32) ⊕ (Int64)} (h : PL_unseenBy_l7 this v1 v2 v4 m = some x) (hp : (Sum.elim (fun s : Int64 × Int32 => V g Y_PL_unseenBy 7 [some (vr this), some (vi v1), some (vl s.1), none, some (vi s.2)] [] m (PM g Y_PL_unseenBy r m')) (fun x : Int64 => r = some (vl x) ∧ m' = m)) x) : V g Y_PL_unseenBy 7 [some (vr this), some (vi v1), some (vl v2), none, some (vi v4)] [] m (PM g Y_PL_unseenBy r m') := by
  unfold PL_unseenBy_l7 at h
  refine V_iload (i := 4) (pc := 7) dX10_unseenBy_7 rfl ?_
  refine V_iload_n (i := 1) (pc := 9) dX10_unseenBy_9 rfl rfl ?_
  refine V_icmp_ge (pc := 10) (tgt := 40) dX10_unseenBy_10 rfl (fun q => ?_) (fun q => ?_)
  · have h := ite_t q h
    obtain ⟨y1, hu1, rfl⟩ := up_e h
    have h := hu1
    refine V_lload_n (i := 2) (pc := 40) dX10_unseenBy_40 rfl rfl ?_
    obtain rfl := Option.some.inj h
    exact E_l (pc := 41) dX10_unseenBy_41 rfl hp
  · have h := ite_f q h
    refine V_lload_n (i := 2) (pc := 13) dX10_unseenBy_13 rfl rfl ?_
    refine V_bipush (v := 100) (pc := 14) dX10_unseenBy_14 rfl ?_
    refine V_aload_n (i := 0) (pc := 16) dX10_unseenBy_16 rfl rfl ?_
    refine V_getR (b := (this + 27)) (pc := 17) dX10_unseenBy_17 fl_PL_19 h_this rfl rfl ?_
    refine V_getR (b := (this + 28)) (pc := 20) dX10_unseenBy_20 fl_PL_102 (kf_10_1 h_this) rfl rfl ?_
    refine V_getI (pc := 23) dX10_unseenBy_23 fl_PL_444 (kf_0_0 (kf_10_1 h_this)) rfl ?_
    refine V_isub (pc := 26) dX10_unseenBy_26 ?_
    refine V_i2l (pc := 27) dX10_unseenBy_27 ?_
    refine V_lmul (pc := 28) dX10_unseenBy_28 ?_
    refine V_ldc2 (v := 100) (pc := 29) dX10_unseenBy_29 con_PL_447 ?_
    refine V_ldiv (pc := 32) dX10_unseenBy_32 (by decide) ?_
    refine V_lstore_n (i := 2) (ls' := [some (vr this), some (vi v1), some (vl ((v2 * ((100 - (rI m (this + 28) 10)).toInt64)) / 100)), none, some (vi v4)]) (pc := 33) dX10_unseenBy_33 rfl (Nat.le_of_ble_eq_true rfl) rfl ?_
    refine V_iinc (i := 4) (v := (v4 + 1)) (ls' := [some (vr this), some (vi v1), some (vl ((v2 * ((100 - (rI m (this + 28) 10)).toInt64)) / 100)), none, some (vi (v4 + 1))]) (pc := 34) dX10_unseenBy_34 rfl rfl (Nat.le_of_ble_eq_true rfl) rfl ?_
    refine V_goto (tgt := 7) (pc := 37) dX10_unseenBy_37 rfl ?_
    obtain rfl := Option.some.inj h
    exact hp
theorem k_PL_unseenBy {g : GE} {this : Nat} {v1 : Int32} {m : Mem} (h_this : kd this = 11) {r : Option AV} {m' : Mem} {x : Int64} (h : PL_unseenBy this v1 m = some x) (hp : (fun x : Int64 => r = some (vl x) ∧ m' = m) x) : V g Y_PL_unseenBy 0 [some (vr this), some (vi v1), none, none, none] [] m (PM g Y_PL_unseenBy r m') := by
  unfold PL_unseenBy at h
  refine V_ldc2 (v := 1000000000000) (pc := 0) dX10_unseenBy_0 con_PL_442 ?_
  refine V_lstore_n (i := 2) (ls' := [some (vr this), some (vi v1), some (vl 1000000000000), none, none]) (pc := 3) dX10_unseenBy_3 rfl (Nat.le_of_ble_eq_true rfl) rfl ?_
  refine V_iconst (v := 0) (pc := 4) dX10_unseenBy_4 rfl ?_
  refine V_istore (i := 4) (ls' := [some (vr this), some (vi v1), some (vl 1000000000000), none, some (vi 0)]) (pc := 5) dX10_unseenBy_5 (Nat.le_of_ble_eq_true rfl) rfl ?_
  exact loop_V (A := fun s : Int64 × Int32 => V g Y_PL_unseenBy 7 [some (vr this), some (vi v1), some (vl s.1), none, some (vi s.2)] [] m (PM g Y_PL_unseenBy r m')) (fun s x h hp => k_PL_unseenBy_l7 h_this h hp) (1000000000000, 0) _ h hp
theorem e_PL_unseenBy {g : GE} {this : Nat} {v1 : Int32} {m : Mem} (h_this : kd this = 11) {x : Int64} (h : PL_unseenBy this v1 m = some x) : Ev g Y_PL_unseenBy [vr this, vi v1] m (some (vl x)) m :=
  Ev_of 3 (by decide +kernel) rfl (Nat.le_of_ble_eq_true rfl) rfl (k_PL_unseenBy h_this h ⟨rfl, rfl⟩)
theorem k_PL_watch_b10 {g : GE} {this : Nat}   {m : Mem} (h_this : kd this = 11) {r : Option AV} {m' : Mem} {x : Int64} (h : PL_watch_b10 this m = some x) (hp : (fun x : Int64 => r = some (vl x) ∧ m' = m) x) : V g Y_PL_watch 10 [none, none] [] m (PM g Y_PL_watch r m') := by
  unfold PL_watch_b10 at h
  refine V_ldc2 (v := (-2)) (pc := 10) dX10_watch_10 con_PL_209 ?_
  refine V_goto (tgt := 21) (pc := 13) dX10_watch_13 rfl ?_
  obtain rfl := Option.some.inj h
  exact E_l (pc := 21) dX10_watch_21 rfl hp
theorem k_PL_watch {g : GE} {this : Nat} {v1 : Int32} {m : Mem} (h_this : kd this = 11) {r : Option AV} {m' : Mem} {x : Int64} (h : PL_watch this v1 m = some x) (hp : (fun x : Int64 => r = some (vl x) ∧ m' = m) x) : V g Y_PL_watch 0 [some (vr this), some (vi v1)] [] m (PM g Y_PL_watch r m') := by
  unfold PL_watch at h
  refine V_iload_n (i := 1) (pc := 0) dX10_watch_0 rfl rfl ?_
  refine V_if_lt (pc := 1) (tgt := 10) dX10_watch_1 rfl (fun q => ?_) (fun q => ?_)
  · have h := ite_t q h
    refine V_sub (ls' := [none, none]) trivial ?_
    exact k_PL_watch_b10 h_this h hp
  · have h := ite_f q h
    refine V_iload_n (i := 1) (pc := 4) dX10_watch_4 rfl rfl ?_
    refine V_bipush (v := 28) (pc := 5) dX10_watch_5 rfl ?_
    refine V_icmp_le (pc := 7) (tgt := 16) dX10_watch_7 rfl (fun q => ?_) (fun q => ?_)
    · have h := ite_t q h
      refine V_aload_n (i := 0) (pc := 16) dX10_watch_16 rfl rfl ?_
      refine V_iload_n (i := 1) (pc := 17) dX10_watch_17 rfl rfl ?_
      obtain ⟨r18, e18, h⟩ := bnd h
      refine V_invV1 (c := 10) (pc := 18) dX10_watch_18 (e_PL_unseenBy h_this e18) iv_PL_297 (rm_PL_watch_PL_unseenBy _ _ _) rfl h_this cf_10 rfl (Nat.le_of_ble_eq_true rfl) rfl ?_
      obtain rfl := Option.some.inj h
      exact E_l (pc := 21) dX10_watch_21 rfl hp
    · have h := ite_f q h
      refine V_sub (ls' := [none, none]) trivial ?_
      exact k_PL_watch_b10 h_this h hp
theorem e_PL_watch {g : GE} {this : Nat} {v1 : Int32} {m : Mem} (h_this : kd this = 11) {x : Int64} (h : PL_watch this v1 m = some x) : Ev g Y_PL_watch [vr this, vi v1] m (some (vl x)) m :=
  Ev_of 0 (by decide +kernel) rfl (Nat.le_of_ble_eq_true rfl) rfl (k_PL_watch h_this h ⟨rfl, rfl⟩)
theorem k_PL_watches_l12 {g : GE} {this : Nat} {v1 : Int32} {v2 : Int32} {m : Mem} (h_this : kd this = 11) {r : Option AV} {m' : Mem} {x : (Int32) ⊕ (Int32)} (h : PL_watches_l12 this v1 v2 m = some x) (hp : (Sum.elim (fun s : Int32 => V g Y_PL_watches 12 [some (vr this), some (vi v1), some (vi s)] [] m (PM g Y_PL_watches r m')) (fun x : Int32 => r = some (vi x) ∧ m' = m)) x) : V g Y_PL_watches 12 [some (vr this), some (vi v1), some (vi v2)] [] m (PM g Y_PL_watches r m') := by
  unfold PL_watches_l12 at h
  refine V_iload_n (i := 2) (pc := 12) dX10_watches_12 rfl rfl ?_
  refine V_bipush (v := 28) (pc := 13) dX10_watches_13 rfl ?_
  refine V_icmp_gt (pc := 15) (tgt := 41) dX10_watches_15 rfl (fun q => ?_) (fun q => ?_)
  · have h := ite_t q h
    obtain ⟨y1, hu1, rfl⟩ := up_e h
    have h := hu1
    refine V_iconst (v := (-1)) (pc := 41) dX10_watches_41 rfl ?_
    obtain rfl := Option.some.inj h
    exact E_i (pc := 42) dX10_watches_42 rfl hp
  · have h := ite_f q h
    refine V_aload_n (i := 0) (pc := 18) dX10_watches_18 rfl rfl ?_
    refine V_iload_n (i := 2) (pc := 19) dX10_watches_19 rfl rfl ?_
    obtain ⟨r20, e20, h⟩ := bnd h
    refine V_invV1 (c := 10) (pc := 20) dX10_watches_20 (e_PL_unseenBy h_this e20) iv_PL_297 (rm_PL_watches_PL_unseenBy _ _ _) rfl h_this cf_10 rfl (Nat.le_of_ble_eq_true rfl) rfl ?_
    refine V_iload_n (i := 1) (pc := 23) dX10_watches_23 rfl rfl ?_
    refine V_i2l (pc := 24) dX10_watches_24 ?_
    refine V_ldc2 (v := 1000000000) (pc := 25) dX10_watches_25 con_PL_249 ?_
    refine V_lmul (pc := 28) dX10_watches_28 ?_
    refine V_lif_gt (pc := 29) (tgt := 35) dX10_watches_29 dX10_watches_30 rfl (fun q => ?_) (fun q => ?_)
    · have h := ite_t q h
      refine V_iinc (i := 2) (v := (v2 + 1)) (ls' := [some (vr this), some (vi v1), some (vi (v2 + 1))]) (pc := 35) dX10_watches_35 rfl rfl (Nat.le_of_ble_eq_true rfl) rfl ?_
      refine V_goto (tgt := 12) (pc := 38) dX10_watches_38 rfl ?_
      obtain rfl := Option.some.inj h
      exact hp
    · have h := ite_f q h
      obtain ⟨y2, hu2, rfl⟩ := up_e h
      have h := hu2
      refine V_iload_n (i := 2) (pc := 33) dX10_watches_33 rfl rfl ?_
      obtain rfl := Option.some.inj h
      exact E_i (pc := 34) dX10_watches_34 rfl hp
theorem k_PL_watches {g : GE} {this : Nat} {v1 : Int32} {m : Mem} (h_this : kd this = 11) {r : Option AV} {m' : Mem} {x : Int32} (h : PL_watches this v1 m = some x) (hp : (fun x : Int32 => r = some (vi x) ∧ m' = m) x) : V g Y_PL_watches 0 [some (vr this), some (vi v1), none] [] m (PM g Y_PL_watches r m') := by
  unfold PL_watches at h
  refine V_iload_n (i := 1) (pc := 0) dX10_watches_0 rfl rfl ?_
  obtain ⟨r1, e1, h⟩ := bnd h
  refine V_invS1 (pc := 1) dX10_watches_1 (e_PL_isThousandths  e1) is_PL_242 (rm_PL_watches_PL_isThousandths _ _ _) rfl (Nat.le_of_ble_eq_true rfl) rfl ?_
  refine V_if_ne (pc := 4) (tgt := 10) dX10_watches_4 rfl (fun q => ?_) (fun q => ?_)
  · have h := ite_f q h
    refine V_iconst (v := 0) (pc := 10) dX10_watches_10 rfl ?_
    refine V_istore_n (i := 2) (ls' := [some (vr this), some (vi v1), some (vi 0)]) (pc := 11) dX10_watches_11 rfl (Nat.le_of_ble_eq_true rfl) rfl ?_
    exact loop_V (A := fun s : Int32 => V g Y_PL_watches 12 [some (vr this), some (vi v1), some (vi s)] [] m (PM g Y_PL_watches r m')) (fun s x h hp => k_PL_watches_l12 h_this h hp) (0) _ h hp
  · have h := ite_t q h
    refine V_bipush (v := (-2)) (pc := 7) dX10_watches_7 rfl ?_
    obtain rfl := Option.some.inj h
    exact E_i (pc := 9) dX10_watches_9 rfl hp
theorem e_PL_watches {g : GE} {this : Nat} {v1 : Int32} {m : Mem} (h_this : kd this = 11) {x : Int32} (h : PL_watches this v1 m = some x) : Ev g Y_PL_watches [vr this, vi v1] m (some (vi x)) m :=
  Ev_of 1 (by decide +kernel) rfl (Nat.le_of_ble_eq_true rfl) rfl (k_PL_watches h_this h ⟨rfl, rfl⟩)
theorem k_Go_isNear {g : GE} {v0 : Int32} {v1 : Int32} {m : Mem} {r : Option AV} {m' : Mem} {x : Int32} (h : Go_isNear v0 v1 m = some x) (hp : (fun x : Int32 => r = some (vi x) ∧ m' = m) x) : V g Y_Go_isNear 0 [some (vi v0), some (vi v1)] [] m (PM g Y_Go_isNear r m') := by
  unfold Go_isNear at h
  refine V_iload_n (i := 0) (pc := 0) dX3_isNear_0 rfl rfl ?_
  refine V_if_le (pc := 1) (tgt := 19) dX3_isNear_1 rfl (fun q => ?_) (fun q => ?_)
  · have h := ite_t q h
    refine V_iconst (v := 0) (pc := 19) dX3_isNear_19 rfl ?_
    obtain rfl := Option.some.inj h
    exact E_z (pc := 20) dX3_isNear_20 rfl rfl hp
  · have h := ite_f q h
    refine V_iload_n (i := 1) (pc := 4) dX3_isNear_4 rfl rfl ?_
    refine V_iload_n (i := 0) (pc := 5) dX3_isNear_5 rfl rfl ?_
    refine V_iconst (v := 1) (pc := 6) dX3_isNear_6 rfl ?_
    refine V_isub (pc := 7) dX3_isNear_7 ?_
    refine V_ishr (pc := 8) dX3_isNear_8 ?_
    refine V_iconst (v := 1) (pc := 9) dX3_isNear_9 rfl ?_
    refine V_iand (pc := 10) dX3_isNear_10 ?_
    refine V_iconst (v := 1) (pc := 11) dX3_isNear_11 rfl ?_
    refine V_icmp_ne (pc := 12) (tgt := 19) dX3_isNear_12 rfl (fun q => ?_) (fun q => ?_)
    · have h := ite_f q h
      refine V_iconst (v := 0) (pc := 19) dX3_isNear_19 rfl ?_
      obtain rfl := Option.some.inj h
      exact E_z (pc := 20) dX3_isNear_20 rfl rfl hp
    · have h := ite_t q h
      refine V_iconst (v := 1) (pc := 15) dX3_isNear_15 rfl ?_
      refine V_goto (tgt := 20) (pc := 16) dX3_isNear_16 rfl ?_
      obtain rfl := Option.some.inj h
      exact E_z (pc := 20) dX3_isNear_20 rfl rfl hp
theorem e_Go_isNear {g : GE} {v0 : Int32} {v1 : Int32} {m : Mem} {x : Int32} (h : Go_isNear v0 v1 m = some x) : Ev g Y_Go_isNear [vi v0, vi v1] m (some (vi x)) m :=
  Ev_of 0 (by decide +kernel) rfl (Nat.le_of_ble_eq_true rfl) rfl (k_Go_isNear  h ⟨rfl, rfl⟩)
theorem k_Go_canBe_b59 {g : GE} {v0 : Nat}   {m : Mem} (h_v0 : kd v0 = 3) {r : Option AV} {m' : Mem} {x : Int32} (h : Go_canBe_b59 v0 m = some x) (hp : (fun x : Int32 => r = some (vi x) ∧ m' = m) x) : V g Y_Go_canBe 59 [none, none, none, none] [] m (PM g Y_Go_canBe r m') := by
  unfold Go_canBe_b59 at h
  refine V_iconst (v := 1) (pc := 59) dX3_canBe_59 rfl ?_
  refine V_goto (tgt := 64) (pc := 60) dX3_canBe_60 rfl ?_
  obtain rfl := Option.some.inj h
  exact E_z (pc := 64) dX3_canBe_64 rfl rfl hp
theorem k_Go_canBe {g : GE} {v0 : Nat} {v1 : Int32} {v2 : Int32} {v3 : Int32} {m : Mem} (h_v0 : kd v0 = 3) {r : Option AV} {m' : Mem} {x : Int32} (h : Go_canBe v0 v1 v2 v3 m = some x) (hp : (fun x : Int32 => r = some (vi x) ∧ m' = m) x) : V g Y_Go_canBe 0 [some (vr v0), some (vi v1), some (vi v2), some (vi v3)] [] m (PM g Y_Go_canBe r m') := by
  unfold Go_canBe at h
  refine V_iload_n (i := 1) (pc := 0) dX3_canBe_0 rfl rfl ?_
  refine V_iconst (v := 1) (pc := 1) dX3_canBe_1 rfl ?_
  refine V_icmp_lt (pc := 2) (tgt := 28) dX3_canBe_2 rfl (fun q => ?_) (fun q => ?_)
  · have h := ite_t q h
    refine V_iconst (v := 0) (pc := 28) dX3_canBe_28 rfl ?_
    obtain rfl := Option.some.inj h
    exact E_z (pc := 29) dX3_canBe_29 rfl rfl hp
  · have h := ite_f q h
    refine V_iload_n (i := 1) (pc := 5) dX3_canBe_5 rfl rfl ?_
    refine V_aload_n (i := 0) (pc := 6) dX3_canBe_6 rfl rfl ?_
    refine V_getI (pc := 7) dX3_canBe_7 fl_Go_19 h_v0 rfl ?_
    refine V_icmp_gt (pc := 10) (tgt := 28) dX3_canBe_10 rfl (fun q => ?_) (fun q => ?_)
    · have h := ite_t q h
      refine V_iconst (v := 0) (pc := 28) dX3_canBe_28 rfl ?_
      obtain rfl := Option.some.inj h
      exact E_z (pc := 29) dX3_canBe_29 rfl rfl hp
    · have h := ite_f q h
      refine V_iload_n (i := 2) (pc := 13) dX3_canBe_13 rfl rfl ?_
      refine V_if_lt (pc := 14) (tgt := 28) dX3_canBe_14 rfl (fun q => ?_) (fun q => ?_)
      · have h := ite_t q h
        refine V_iconst (v := 0) (pc := 28) dX3_canBe_28 rfl ?_
        obtain rfl := Option.some.inj h
        exact E_z (pc := 29) dX3_canBe_29 rfl rfl hp
      · have h := ite_f q h
        refine V_iload_n (i := 2) (pc := 17) dX3_canBe_17 rfl rfl ?_
        refine V_aload_n (i := 0) (pc := 18) dX3_canBe_18 rfl rfl ?_
        refine V_getR (b := (v0 + 18)) (pc := 19) dX3_canBe_19 fl_Go_25 h_v0 rfl rfl ?_
        refine V_getI (pc := 22) dX3_canBe_22 fl_Go_29 (kf_2_17 h_v0) rfl ?_
        refine V_icmp_le (pc := 25) (tgt := 30) dX3_canBe_25 rfl (fun q => ?_) (fun q => ?_)
        · have h := ite_t q h
          refine V_iload_n (i := 3) (pc := 30) dX3_canBe_30 rfl rfl ?_
          refine V_if_lt (pc := 31) (tgt := 63) dX3_canBe_31 rfl (fun q => ?_) (fun q => ?_)
          · have h := ite_t q h
            refine V_iconst (v := 0) (pc := 63) dX3_canBe_63 rfl ?_
            obtain rfl := Option.some.inj h
            exact E_z (pc := 64) dX3_canBe_64 rfl rfl hp
          · have h := ite_f q h
            refine V_iload_n (i := 3) (pc := 34) dX3_canBe_34 rfl rfl ?_
            refine V_iconst (v := 1) (pc := 35) dX3_canBe_35 rfl ?_
            refine V_aload_n (i := 0) (pc := 36) dX3_canBe_36 rfl rfl ?_
            refine V_getR (b := (v0 + 18)) (pc := 37) dX3_canBe_37 fl_Go_25 h_v0 rfl rfl ?_
            refine V_getI (pc := 40) dX3_canBe_40 fl_Go_29 (kf_2_17 h_v0) rfl ?_
            refine V_ishl (pc := 43) dX3_canBe_43 ?_
            refine V_icmp_ge (pc := 44) (tgt := 63) dX3_canBe_44 rfl (fun q => ?_) (fun q => ?_)
            · have h := ite_t q h
              refine V_iconst (v := 0) (pc := 63) dX3_canBe_63 rfl ?_
              obtain rfl := Option.some.inj h
              exact E_z (pc := 64) dX3_canBe_64 rfl rfl hp
            · have h := ite_f q h
              refine V_iload_n (i := 2) (pc := 47) dX3_canBe_47 rfl rfl ?_
              refine V_if_eq (pc := 48) (tgt := 59) dX3_canBe_48 rfl (fun q => ?_) (fun q => ?_)
              · have h := ite_t q h
                refine V_sub (ls' := [none, none, none, none]) trivial ?_
                exact k_Go_canBe_b59 h_v0 h hp
              · have h := ite_f q h
                refine V_iload_n (i := 2) (pc := 51) dX3_canBe_51 rfl rfl ?_
                refine V_iload_n (i := 3) (pc := 52) dX3_canBe_52 rfl rfl ?_
                obtain ⟨r53, e53, h⟩ := bnd h
                refine V_invS1 (pc := 53) dX3_canBe_53 (e_Go_isNear  e53) is_Go_34 (rm_Go_canBe_Go_isNear _ _ _) rfl (Nat.le_of_ble_eq_true rfl) rfl ?_
                refine V_if_eq (pc := 56) (tgt := 63) dX3_canBe_56 rfl (fun q => ?_) (fun q => ?_)
                · have h := ite_t q h
                  refine V_iconst (v := 0) (pc := 63) dX3_canBe_63 rfl ?_
                  obtain rfl := Option.some.inj h
                  exact E_z (pc := 64) dX3_canBe_64 rfl rfl hp
                · have h := ite_f q h
                  refine V_sub (ls' := [none, none, none, none]) trivial ?_
                  exact k_Go_canBe_b59 h_v0 h hp
        · have h := ite_f q h
          refine V_iconst (v := 0) (pc := 28) dX3_canBe_28 rfl ?_
          obtain rfl := Option.some.inj h
          exact E_z (pc := 29) dX3_canBe_29 rfl rfl hp
theorem e_Go_canBe {g : GE} {v0 : Nat} {v1 : Int32} {v2 : Int32} {v3 : Int32} {m : Mem} (h_v0 : kd v0 = 3) {x : Int32} (h : Go_canBe v0 v1 v2 v3 m = some x) : Ev g Y_Go_canBe [vr v0, vi v1, vi v2, vi v3] m (some (vi x)) m :=
  Ev_of 0 (by decide +kernel) rfl (Nat.le_of_ble_eq_true rfl) rfl (k_Go_canBe h_v0 h ⟨rfl, rfl⟩)
theorem k_Go_begin_l9 {g : GE} {this : Nat} {v1 : Int32} {v2 : Int32} {m : Mem} (h_this : kd this = 4) {r : Option AV} {m' : Mem} {x : (Int32 × Mem) ⊕ ((Int32 × Mem) ⊕ (Mem))} (h : Go_begin_l9 this v1 v2 m = some x) (hp : (Sum.elim (fun s : Int32 × Mem => V g Y_Go_begin 9 [some (vr this), some (vi v1), some (vi s.1)] [] s.2 (PM g Y_Go_begin r m')) (Sum.elim (fun s : Int32 × Mem => V g Y_Go_begin 2 [some (vr this), some (vi s.1), none] [] s.2 (PM g Y_Go_begin r m')) (fun x : Mem => r = none ∧ m' = x))) x) : V g Y_Go_begin 9 [some (vr this), some (vi v1), some (vi v2)] [] m (PM g Y_Go_begin r m') := by
  unfold Go_begin_l9 at h
  refine V_iload_n (i := 2) (pc := 9) dX3_begin_9 rfl rfl ?_
  refine V_bipush (v := 16) (pc := 10) dX3_begin_10 rfl ?_
  refine V_icmp_ge (pc := 12) (tgt := 32) dX3_begin_12 rfl (fun q => ?_) (fun q => ?_)
  · have h := ite_t q h
    obtain ⟨y2, hu2, rfl⟩ := up_e h
    have h := hu2
    refine V_iinc (i := 1) (v := (v1 + 1)) (ls' := [some (vr this), some (vi (v1 + 1)), some (vi v2)]) (pc := 32) dX3_begin_32 rfl rfl (Nat.le_of_ble_eq_true rfl) rfl ?_
    refine V_goto (tgt := 2) (pc := 35) dX3_begin_35 rfl ?_
    refine V_sub (ls' := [some (vr this), some (vi (v1 + 1)), none]) (And.intro rfl (And.intro rfl trivial)) ?_
    obtain rfl := Option.some.inj h
    exact hp
  · have h := ite_f q h
    refine V_aload_n (i := 0) (pc := 15) dX3_begin_15 rfl rfl ?_
    refine V_getR (b := (this + 1)) (pc := 16) dX3_begin_16 fl_Go_11 h_this rfl rfl ?_
    refine V_iload_n (i := 1) (pc := 19) dX3_begin_19 rfl rfl ?_
    obtain ⟨hg20, h⟩ := gd_e h
    refine V_aald (b := ((this + 1) + (1 + ix v1))) (k := 5) (pc := 20) dX3_begin_20 (kf_3_0 h_this) (by decide) (af_3_0 h_this) hg20 rfl ?_
    refine V_iload_n (i := 2) (pc := 21) dX3_begin_21 rfl rfl ?_
    refine V_ldc2 (v := 1000000000000) (pc := 22) dX3_begin_22 con_Go_57 ?_
    obtain ⟨hg25, h⟩ := gd_e h
    refine V_last_lt (pc := 25) dX3_begin_25 (ka25 (kf_3_0 h_this) (af_3_0 h_this) hg20) ((la25 (kf_3_0 h_this) (af_3_0 h_this) hg20).trans (ag_3_0 h_this)) hg25 h (fun m25 h => ?_)
    refine V_iinc (i := 2) (v := (v2 + 1)) (ls' := [some (vr this), some (vi v1), some (vi (v2 + 1))]) (pc := 26) dX3_begin_26 rfl rfl (Nat.le_of_ble_eq_true rfl) rfl ?_
    refine V_goto (tgt := 9) (pc := 29) dX3_begin_29 rfl ?_
    obtain rfl := Option.some.inj h
    exact hp
theorem k_Go_begin_l2 {g : GE} {this : Nat}  {v1 : Int32} {m : Mem} (h_this : kd this = 4) {r : Option AV} {m' : Mem} {x : (Int32 × Mem) ⊕ (Mem)} (h : Go_begin_l2 this v1 m = some x) (hp : (Sum.elim (fun s : Int32 × Mem => V g Y_Go_begin 2 [some (vr this), some (vi s.1), none] [] s.2 (PM g Y_Go_begin r m')) (fun x : Mem => r = none ∧ m' = x)) x) : V g Y_Go_begin 2 [some (vr this), some (vi v1), none] [] m (PM g Y_Go_begin r m') := by
  unfold Go_begin_l2 at h
  refine V_iload_n (i := 1) (pc := 2) dX3_begin_2 rfl rfl ?_
  refine V_iconst (v := 4) (pc := 3) dX3_begin_3 rfl ?_
  refine V_icmp_gt (pc := 4) (tgt := 38) dX3_begin_4 rfl (fun q => ?_) (fun q => ?_)
  · have h := ite_t q h
    obtain ⟨y1, hu1, rfl⟩ := up_e h
    have h := hu1
    obtain rfl := Option.some.inj h
    exact E_v (pc := 38) dX3_begin_38 rfl hp
  · have h := ite_f q h
    refine V_iconst (v := 0) (pc := 7) dX3_begin_7 rfl ?_
    refine V_istore_n (i := 2) (ls' := [some (vr this), some (vi v1), some (vi 0)]) (pc := 8) dX3_begin_8 rfl (Nat.le_of_ble_eq_true rfl) rfl ?_
    exact loop_V (A := fun s : Int32 × Mem => V g Y_Go_begin 9 [some (vr this), some (vi v1), some (vi s.1)] [] s.2 (PM g Y_Go_begin r m')) (fun s x h hp => k_Go_begin_l9 h_this h hp) (0, m) _ h hp
theorem k_Go_begin {g : GE} {this : Nat} {m : Mem} (h_this : kd this = 4) {r : Option AV} {m' : Mem} {x : Mem} (h : Go_begin this m = some x) (hp : (fun x : Mem => r = none ∧ m' = x) x) : V g Y_Go_begin 0 [some (vr this), none, none] [] m (PM g Y_Go_begin r m') := by
  unfold Go_begin at h
  refine V_iconst (v := 0) (pc := 0) dX3_begin_0 rfl ?_
  refine V_istore_n (i := 1) (ls' := [some (vr this), some (vi 0), none]) (pc := 1) dX3_begin_1 rfl (Nat.le_of_ble_eq_true rfl) rfl ?_
  exact loop_V (A := fun s : Int32 × Mem => V g Y_Go_begin 2 [some (vr this), some (vi s.1), none] [] s.2 (PM g Y_Go_begin r m')) (fun s x h hp => k_Go_begin_l2 h_this h hp) (0, m) _ h hp
theorem e_Go_begin {g : GE} {this : Nat} {m : Mem} (h_this : kd this = 4) {x : Mem} (h : Go_begin this m = some x) : Ev g Y_Go_begin [vr this] m (none) x :=
  Ev_of 2 (by decide +kernel) rfl (Nat.le_of_ble_eq_true rfl) rfl (k_Go_begin h_this h ⟨rfl, rfl⟩)
theorem k_Go_worthOf {g : GE} {this : Nat} {v1 : Int32} {v2 : Int32} {m : Mem} (h_this : kd this = 4) {r : Option AV} {m' : Mem} {x : Int64} (h : Go_worthOf this v1 v2 m = some x) (hp : (fun x : Int64 => r = some (vl x) ∧ m' = m) x) : V g Y_Go_worthOf 0 [some (vr this), some (vi v1), some (vi v2)] [] m (PM g Y_Go_worthOf r m') := by
  unfold Go_worthOf at h
  refine V_iload_n (i := 1) (pc := 0) dX3_worthOf_0 rfl rfl ?_
  refine V_if_lt (pc := 1) (tgt := 28) dX3_worthOf_1 rfl (fun q => ?_) (fun q => ?_)
  · have h := ite_t q h
    refine V_lconst (v := 0) (pc := 28) dX3_worthOf_28 rfl ?_
    obtain rfl := Option.some.inj h
    exact E_l (pc := 29) dX3_worthOf_29 rfl hp
  · have h := ite_f q h
    refine V_iload_n (i := 1) (pc := 4) dX3_worthOf_4 rfl rfl ?_
    refine V_aload_n (i := 0) (pc := 5) dX3_worthOf_5 rfl rfl ?_
    refine V_getR (b := (this + 1)) (pc := 6) dX3_worthOf_6 fl_Go_11 h_this rfl rfl ?_
    refine V_alen (k := 5) (pc := 9) dX3_worthOf_9 (kf_3_0 h_this) (Nat.le_of_ble_eq_true rfl) (af_3_0 h_this) ?_
    refine V_icmp_ge (pc := 10) (tgt := 28) dX3_worthOf_10 rfl (fun q => ?_) (fun q => ?_)
    · have h := ite_t q h
      refine V_lconst (v := 0) (pc := 28) dX3_worthOf_28 rfl ?_
      obtain rfl := Option.some.inj h
      exact E_l (pc := 29) dX3_worthOf_29 rfl hp
    · have h := ite_f q h
      refine V_iload_n (i := 2) (pc := 13) dX3_worthOf_13 rfl rfl ?_
      refine V_if_lt (pc := 14) (tgt := 28) dX3_worthOf_14 rfl (fun q => ?_) (fun q => ?_)
      · have h := ite_t q h
        refine V_lconst (v := 0) (pc := 28) dX3_worthOf_28 rfl ?_
        obtain rfl := Option.some.inj h
        exact E_l (pc := 29) dX3_worthOf_29 rfl hp
      · have h := ite_f q h
        refine V_iload_n (i := 2) (pc := 17) dX3_worthOf_17 rfl rfl ?_
        refine V_aload_n (i := 0) (pc := 18) dX3_worthOf_18 rfl rfl ?_
        refine V_getR (b := (this + 1)) (pc := 19) dX3_worthOf_19 fl_Go_11 h_this rfl rfl ?_
        refine V_iload_n (i := 1) (pc := 22) dX3_worthOf_22 rfl rfl ?_
        obtain ⟨hg23, h⟩ := gd_e h
        refine V_aald (b := ((this + 1) + (1 + ix v1))) (k := 5) (pc := 23) dX3_worthOf_23 (kf_3_0 h_this) (by decide) (af_3_0 h_this) hg23 rfl ?_
        refine V_alen (k := 1) (pc := 24) dX3_worthOf_24 (ka25 (kf_3_0 h_this) (af_3_0 h_this) hg23) (Nat.le_of_ble_eq_true rfl) ((la25 (kf_3_0 h_this) (af_3_0 h_this) hg23).trans (ag_3_0 h_this)) ?_
        refine V_icmp_lt (pc := 25) (tgt := 30) dX3_worthOf_25 rfl (fun q => ?_) (fun q => ?_)
        · have h := ite_t q h
          refine V_aload_n (i := 0) (pc := 30) dX3_worthOf_30 rfl rfl ?_
          refine V_getR (b := (this + 1)) (pc := 31) dX3_worthOf_31 fl_Go_11 h_this rfl rfl ?_
          refine V_iload_n (i := 1) (pc := 34) dX3_worthOf_34 rfl rfl ?_
          obtain ⟨hg35, h⟩ := gd_e h
          refine V_aald (b := ((this + 1) + (1 + ix v1))) (k := 5) (pc := 35) dX3_worthOf_35 (kf_3_0 h_this) (by decide) (af_3_0 h_this) hg35 rfl ?_
          refine V_iload_n (i := 2) (pc := 36) dX3_worthOf_36 rfl rfl ?_
          obtain ⟨hg37, h⟩ := gd_e h
          refine V_lald (pc := 37) dX3_worthOf_37 (ka25 (kf_3_0 h_this) (af_3_0 h_this) hg35) ((la25 (kf_3_0 h_this) (af_3_0 h_this) hg35).trans (ag_3_0 h_this)) hg37 ?_
          obtain rfl := Option.some.inj h
          exact E_l (pc := 38) dX3_worthOf_38 rfl hp
        · have h := ite_f q h
          refine V_lconst (v := 0) (pc := 28) dX3_worthOf_28 rfl ?_
          obtain rfl := Option.some.inj h
          exact E_l (pc := 29) dX3_worthOf_29 rfl hp
theorem e_Go_worthOf {g : GE} {this : Nat} {v1 : Int32} {v2 : Int32} {m : Mem} (h_this : kd this = 4) {x : Int64} (h : Go_worthOf this v1 v2 m = some x) : Ev g Y_Go_worthOf [vr this, vi v1, vi v2] m (some (vl x)) m :=
  Ev_of 0 (by decide +kernel) rfl (Nat.le_of_ble_eq_true rfl) rfl (k_Go_worthOf h_this h ⟨rfl, rfl⟩)
theorem k_Go_worthOfGoing_b22 {g : GE} {this : Nat} {v1 : Nat} {v2 : Int32} {v3 : Int32} {v4 : Int32} {k0 : Int32}  {m : Mem} (h_this : kd this = 4) (h_v1 : kd v1 = 3) {r : Option AV} {m' : Mem} {x : Int64} (h : Go_worthOfGoing_b22 this v1 v2 v3 v4 k0 m = some x) (hp : (fun x : Int64 => r = some (vl x) ∧ m' = m) x) : V g Y_Go_worthOfGoing 22 [some (vr this), some (vr v1), some (vi v2), some (vi v3), some (vi v4), none, none, none] [vi k0] m (PM g Y_Go_worthOfGoing r m') := by
  unfold Go_worthOfGoing_b22 at h
  refine V_istore (i := 5) (ls' := [some (vr this), some (vr v1), some (vi v2), some (vi v3), some (vi v4), some (vi k0), none, none]) (pc := 22) dX3_worthOfGoing_22 (Nat.le_of_ble_eq_true rfl) rfl ?_
  refine V_aload_n (i := 0) (pc := 24) dX3_worthOfGoing_24 rfl rfl ?_
  refine V_iload_n (i := 3) (pc := 25) dX3_worthOfGoing_25 rfl rfl ?_
  refine V_iload (i := 4) (pc := 26) dX3_worthOfGoing_26 rfl ?_
  obtain ⟨r28, e28, h⟩ := bnd h
  refine V_invV1 (c := 3) (pc := 28) dX3_worthOfGoing_28 (e_Go_worthOf h_this e28) iv_Go_77 (rm_Go_worthOfGoing_Go_worthOf _ _ _) rfl h_this cf_3 rfl (Nat.le_of_ble_eq_true rfl) rfl ?_
  refine V_sipush (v := 10000) (pc := 31) dX3_worthOfGoing_31 rfl ?_
  refine V_iload (i := 5) (pc := 34) dX3_worthOfGoing_34 rfl ?_
  refine V_isub (pc := 36) dX3_worthOfGoing_36 ?_
  refine V_i2l (pc := 37) dX3_worthOfGoing_37 ?_
  refine V_lmul (pc := 38) dX3_worthOfGoing_38 ?_
  refine V_ldc2 (v := 10000) (pc := 39) dX3_worthOfGoing_39 con_Go_81 ?_
  refine V_ldiv (pc := 42) dX3_worthOfGoing_42 (by decide) ?_
  refine V_lstore (i := 6) (ls' := [some (vr this), some (vr v1), some (vi v2), some (vi v3), some (vi v4), some (vi k0), some (vl ((r28 * ((10000 - k0).toInt64)) / 10000)), none]) (pc := 43) dX3_worthOfGoing_43 (Nat.le_of_ble_eq_true rfl) rfl ?_
  refine V_iload_n (i := 3) (pc := 45) dX3_worthOfGoing_45 rfl rfl ?_
  refine V_iload_n (i := 2) (pc := 46) dX3_worthOfGoing_46 rfl rfl ?_
  refine V_icmp_ne (pc := 47) (tgt := 55) dX3_worthOfGoing_47 rfl (fun q => ?_) (fun q => ?_)
  · have h := ite_f q h
    refine V_lload (i := 6) (pc := 55) dX3_worthOfGoing_55 rfl ?_
    refine V_sipush (v := 10000) (pc := 57) dX3_worthOfGoing_57 rfl ?_
    refine V_aload_n (i := 1) (pc := 60) dX3_worthOfGoing_60 rfl rfl ?_
    refine V_getI (pc := 61) dX3_worthOfGoing_61 fl_Go_83 h_v1 rfl ?_
    refine V_isub (pc := 64) dX3_worthOfGoing_64 ?_
    refine V_i2l (pc := 65) dX3_worthOfGoing_65 ?_
    refine V_lmul (pc := 66) dX3_worthOfGoing_66 ?_
    refine V_ldc2 (v := 10000) (pc := 67) dX3_worthOfGoing_67 con_Go_81 ?_
    refine V_ldiv (pc := 70) dX3_worthOfGoing_70 (by decide) ?_
    obtain rfl := Option.some.inj h
    exact E_l (pc := 71) dX3_worthOfGoing_71 rfl hp
  · have h := ite_t q h
    refine V_lload (i := 6) (pc := 50) dX3_worthOfGoing_50 rfl ?_
    refine V_goto (tgt := 71) (pc := 52) dX3_worthOfGoing_52 rfl ?_
    obtain rfl := Option.some.inj h
    exact E_l (pc := 71) dX3_worthOfGoing_71 rfl hp
theorem k_Go_worthOfGoing {g : GE} {this : Nat} {v1 : Nat} {v2 : Int32} {v3 : Int32} {v4 : Int32} {m : Mem} (h_this : kd this = 4) (h_v1 : kd v1 = 3) {r : Option AV} {m' : Mem} {x : Int64} (h : Go_worthOfGoing this v1 v2 v3 v4 m = some x) (hp : (fun x : Int64 => r = some (vl x) ∧ m' = m) x) : V g Y_Go_worthOfGoing 0 [some (vr this), some (vr v1), some (vi v2), some (vi v3), some (vi v4), none, none, none] [] m (PM g Y_Go_worthOfGoing r m') := by
  unfold Go_worthOfGoing at h
  refine V_iload_n (i := 3) (pc := 0) dX3_worthOfGoing_0 rfl rfl ?_
  refine V_if_ne (pc := 1) (tgt := 11) dX3_worthOfGoing_1 rfl (fun q => ?_) (fun q => ?_)
  · have h := ite_f q h
    refine V_aload_n (i := 1) (pc := 11) dX3_worthOfGoing_11 rfl rfl ?_
    refine V_getR (b := (v1 + 18)) (pc := 12) dX3_worthOfGoing_12 fl_Go_25 h_v1 rfl rfl ?_
    refine V_iload_n (i := 3) (pc := 15) dX3_worthOfGoing_15 rfl rfl ?_
    refine V_iconst (v := 1) (pc := 16) dX3_worthOfGoing_16 rfl ?_
    refine V_isub (pc := 17) dX3_worthOfGoing_17 ?_
    refine V_iconst (v := 2) (pc := 18) dX3_worthOfGoing_18 rfl ?_
    obtain ⟨r19, e19, h⟩ := bnd h
    refine V_invV1 (c := 8) (pc := 19) dX3_worthOfGoing_19 (e_Ta_at (kf_2_17 h_v1) e19) iv_Go_65 (rm_Go_worthOfGoing_Ta_at _ _ _) rfl (kf_2_17 h_v1) cf_8 rfl (Nat.le_of_ble_eq_true rfl) rfl ?_
    exact k_Go_worthOfGoing_b22 h_this h_v1 h hp
  · have h := ite_t q h
    refine V_aload_n (i := 1) (pc := 4) dX3_worthOfGoing_4 rfl rfl ?_
    refine V_getI (pc := 5) dX3_worthOfGoing_5 fl_Go_74 h_v1 rfl ?_
    refine V_goto (tgt := 22) (pc := 8) dX3_worthOfGoing_8 rfl ?_
    exact k_Go_worthOfGoing_b22 h_this h_v1 h hp
theorem e_Go_worthOfGoing {g : GE} {this : Nat} {v1 : Nat} {v2 : Int32} {v3 : Int32} {v4 : Int32} {m : Mem} (h_this : kd this = 4) (h_v1 : kd v1 = 3) {x : Int64} (h : Go_worthOfGoing this v1 v2 v3 v4 m = some x) : Ev g Y_Go_worthOfGoing [vr this, vr v1, vi v2, vi v3, vi v4] m (some (vl x)) m :=
  Ev_of 3 (by decide +kernel) rfl (Nat.le_of_ble_eq_true rfl) rfl (k_Go_worthOfGoing h_this h_v1 h ⟨rfl, rfl⟩)
theorem k_Go_bestFrom_b73 {g : GE} {this : Nat} {v1 : Nat} {v2 : Int32} {v3 : Int32} {v4 : Int32} {v5 : Int64} {v7 : Int32}  {m : Mem} (h_this : kd this = 4) (h_v1 : kd v1 = 3) {r : Option AV} {m' : Mem} {x : (Int32 × Int64 × Int32) ⊕ (Int32)} (h : Go_bestFrom_b73 this v1 v2 v3 v4 v5 v7 m = some x) (hp : (Sum.elim (fun s : Int32 × Int64 × Int32 => V g Y_Go_bestFrom 16 [some (vr this), some (vr v1), some (vi v2), some (vi v3), some (vi s.1), some (vl s.2.1), none, some (vi s.2.2)] [] m (PM g Y_Go_bestFrom r m')) (fun x : Int32 => r = some (vi x) ∧ m' = m)) x) : V g Y_Go_bestFrom 73 [some (vr this), some (vr v1), some (vi v2), some (vi v3), some (vi v4), some (vl v5), none, some (vi v7)] [] m (PM g Y_Go_bestFrom r m') := by
  unfold Go_bestFrom_b73 at h
  refine V_iinc (i := 7) (v := (v7 + 1)) (ls' := [some (vr this), some (vr v1), some (vi v2), some (vi v3), some (vi v4), some (vl v5), none, some (vi (v7 + 1))]) (pc := 73) dX3_bestFrom_73 rfl rfl (Nat.le_of_ble_eq_true rfl) rfl ?_
  refine V_goto (tgt := 16) (pc := 76) dX3_bestFrom_76 rfl ?_
  obtain rfl := Option.some.inj h
  exact hp
theorem k_Go_bestFrom_l16 {g : GE} {this : Nat} {v1 : Nat} {v2 : Int32} {v3 : Int32} {v4 : Int32} {v5 : Int64} {v7 : Int32} {m : Mem} (h_this : kd this = 4) (h_v1 : kd v1 = 3) {r : Option AV} {m' : Mem} {x : (Int32 × Int64 × Int32) ⊕ (Int32)} (h : Go_bestFrom_l16 this v1 v2 v3 v4 v5 v7 m = some x) (hp : (Sum.elim (fun s : Int32 × Int64 × Int32 => V g Y_Go_bestFrom 16 [some (vr this), some (vr v1), some (vi v2), some (vi v3), some (vi s.1), some (vl s.2.1), none, some (vi s.2.2)] [] m (PM g Y_Go_bestFrom r m')) (fun x : Int32 => r = some (vi x) ∧ m' = m)) x) : V g Y_Go_bestFrom 16 [some (vr this), some (vr v1), some (vi v2), some (vi v3), some (vi v4), some (vl v5), none, some (vi v7)] [] m (PM g Y_Go_bestFrom r m') := by
  unfold Go_bestFrom_l16 at h
  refine V_iload (i := 7) (pc := 16) dX3_bestFrom_16 rfl ?_
  refine V_aload_n (i := 1) (pc := 18) dX3_bestFrom_18 rfl rfl ?_
  refine V_getR (b := (v1 + 18)) (pc := 19) dX3_bestFrom_19 fl_Go_25 h_v1 rfl rfl ?_
  refine V_getI (pc := 22) dX3_bestFrom_22 fl_Go_29 (kf_2_17 h_v1) rfl ?_
  refine V_icmp_gt (pc := 25) (tgt := 79) dX3_bestFrom_25 rfl (fun q => ?_) (fun q => ?_)
  · have h := ite_t q h
    obtain ⟨y1, hu1, rfl⟩ := up_e h
    have h := hu1
    refine V_iload (i := 4) (pc := 79) dX3_bestFrom_79 rfl ?_
    obtain rfl := Option.some.inj h
    exact E_i (pc := 81) dX3_bestFrom_81 rfl hp
  · have h := ite_f q h
    refine V_iload (i := 7) (pc := 28) dX3_bestFrom_28 rfl ?_
    refine V_iload_n (i := 2) (pc := 30) dX3_bestFrom_30 rfl rfl ?_
    refine V_icmp_eq (pc := 31) (tgt := 73) dX3_bestFrom_31 rfl (fun q => ?_) (fun q => ?_)
    · have h := ite_t q h
      exact k_Go_bestFrom_b73 h_this h_v1 h hp
    · have h := ite_f q h
      refine V_iload (i := 7) (pc := 34) dX3_bestFrom_34 rfl ?_
      refine V_iload_n (i := 3) (pc := 36) dX3_bestFrom_36 rfl rfl ?_
      obtain ⟨r37, e37, h⟩ := bnd h
      refine V_invS1 (pc := 37) dX3_bestFrom_37 (e_Go_isNear  e37) is_Go_34 (rm_Go_bestFrom_Go_isNear _ _ _) rfl (Nat.le_of_ble_eq_true rfl) rfl ?_
      refine V_if_eq (pc := 40) (tgt := 73) dX3_bestFrom_40 rfl (fun q => ?_) (fun q => ?_)
      · have h := ite_t q h
        exact k_Go_bestFrom_b73 h_this h_v1 h hp
      · have h := ite_f q h
        refine V_aload_n (i := 0) (pc := 43) dX3_bestFrom_43 rfl rfl ?_
        refine V_aload_n (i := 1) (pc := 44) dX3_bestFrom_44 rfl rfl ?_
        refine V_iload_n (i := 2) (pc := 45) dX3_bestFrom_45 rfl rfl ?_
        refine V_iload (i := 7) (pc := 46) dX3_bestFrom_46 rfl ?_
        refine V_iload_n (i := 3) (pc := 48) dX3_bestFrom_48 rfl rfl ?_
        obtain ⟨r49, e49, h⟩ := bnd h
        refine V_invV1 (c := 3) (pc := 49) dX3_bestFrom_49 (e_Go_worthOfGoing h_this h_v1 e49) iv_Go_53 (rm_Go_bestFrom_Go_worthOfGoing _ _ _) rfl h_this cf_3 rfl (Nat.le_of_ble_eq_true rfl) rfl ?_
        refine V_lload (i := 5) (pc := 52) dX3_bestFrom_52 rfl ?_
        refine V_lif_le (pc := 54) (tgt := 73) dX3_bestFrom_54 dX3_bestFrom_55 rfl (fun q => ?_) (fun q => ?_)
        · have h := ite_t q h
          exact k_Go_bestFrom_b73 h_this h_v1 h hp
        · have h := ite_f q h
          refine V_iload (i := 7) (pc := 58) dX3_bestFrom_58 rfl ?_
          refine V_istore (i := 4) (ls' := [some (vr this), some (vr v1), some (vi v2), some (vi v3), some (vi v7), some (vl v5), none, some (vi v7)]) (pc := 60) dX3_bestFrom_60 (Nat.le_of_ble_eq_true rfl) rfl ?_
          refine V_aload_n (i := 0) (pc := 62) dX3_bestFrom_62 rfl rfl ?_
          refine V_aload_n (i := 1) (pc := 63) dX3_bestFrom_63 rfl rfl ?_
          refine V_iload_n (i := 2) (pc := 64) dX3_bestFrom_64 rfl rfl ?_
          refine V_iload (i := 7) (pc := 65) dX3_bestFrom_65 rfl ?_
          refine V_iload_n (i := 3) (pc := 67) dX3_bestFrom_67 rfl rfl ?_
          obtain ⟨r68, e68, h⟩ := bnd h
          refine V_invV1 (c := 3) (pc := 68) dX3_bestFrom_68 (e_Go_worthOfGoing h_this h_v1 e68) iv_Go_53 (rm_Go_bestFrom_Go_worthOfGoing _ _ _) rfl h_this cf_3 rfl (Nat.le_of_ble_eq_true rfl) rfl ?_
          refine V_lstore (i := 5) (ls' := [some (vr this), some (vr v1), some (vi v2), some (vi v3), some (vi v7), some (vl r68), none, some (vi v7)]) (pc := 71) dX3_bestFrom_71 (Nat.le_of_ble_eq_true rfl) rfl ?_
          exact k_Go_bestFrom_b73 h_this h_v1 h hp
theorem k_Go_bestFrom {g : GE} {this : Nat} {v1 : Nat} {v2 : Int32} {v3 : Int32} {m : Mem} (h_this : kd this = 4) (h_v1 : kd v1 = 3) {r : Option AV} {m' : Mem} {x : Int32} (h : Go_bestFrom this v1 v2 v3 m = some x) (hp : (fun x : Int32 => r = some (vi x) ∧ m' = m) x) : V g Y_Go_bestFrom 0 [some (vr this), some (vr v1), some (vi v2), some (vi v3), none, none, none, none] [] m (PM g Y_Go_bestFrom r m') := by
  unfold Go_bestFrom at h
  refine V_iload_n (i := 2) (pc := 0) dX3_bestFrom_0 rfl rfl ?_
  refine V_istore (i := 4) (ls' := [some (vr this), some (vr v1), some (vi v2), some (vi v3), some (vi v2), none, none, none]) (pc := 1) dX3_bestFrom_1 (Nat.le_of_ble_eq_true rfl) rfl ?_
  refine V_aload_n (i := 0) (pc := 3) dX3_bestFrom_3 rfl rfl ?_
  refine V_aload_n (i := 1) (pc := 4) dX3_bestFrom_4 rfl rfl ?_
  refine V_iload_n (i := 2) (pc := 5) dX3_bestFrom_5 rfl rfl ?_
  refine V_iload_n (i := 2) (pc := 6) dX3_bestFrom_6 rfl rfl ?_
  refine V_iload_n (i := 3) (pc := 7) dX3_bestFrom_7 rfl rfl ?_
  obtain ⟨r8, e8, h⟩ := bnd h
  refine V_invV1 (c := 3) (pc := 8) dX3_bestFrom_8 (e_Go_worthOfGoing h_this h_v1 e8) iv_Go_53 (rm_Go_bestFrom_Go_worthOfGoing _ _ _) rfl h_this cf_3 rfl (Nat.le_of_ble_eq_true rfl) rfl ?_
  refine V_lstore (i := 5) (ls' := [some (vr this), some (vr v1), some (vi v2), some (vi v3), some (vi v2), some (vl r8), none, none]) (pc := 11) dX3_bestFrom_11 (Nat.le_of_ble_eq_true rfl) rfl ?_
  refine V_iconst (v := 1) (pc := 13) dX3_bestFrom_13 rfl ?_
  refine V_istore (i := 7) (ls' := [some (vr this), some (vr v1), some (vi v2), some (vi v3), some (vi v2), some (vl r8), none, some (vi 1)]) (pc := 14) dX3_bestFrom_14 (Nat.le_of_ble_eq_true rfl) rfl ?_
  exact loop_V (A := fun s : Int32 × Int64 × Int32 => V g Y_Go_bestFrom 16 [some (vr this), some (vr v1), some (vi v2), some (vi v3), some (vi s.1), some (vl s.2.1), none, some (vi s.2.2)] [] m (PM g Y_Go_bestFrom r m')) (fun s x h hp => k_Go_bestFrom_l16 h_this h_v1 h hp) (v2, r8, 1) _ h hp
theorem e_Go_bestFrom {g : GE} {this : Nat} {v1 : Nat} {v2 : Int32} {v3 : Int32} {m : Mem} (h_this : kd this = 4) (h_v1 : kd v1 = 3) {x : Int32} (h : Go_bestFrom this v1 v2 v3 m = some x) : Ev g Y_Go_bestFrom [vr this, vr v1, vi v2, vi v3] m (some (vi x)) m :=
  Ev_of 4 (by decide +kernel) rfl (Nat.le_of_ble_eq_true rfl) rfl (k_Go_bestFrom h_this h_v1 h ⟨rfl, rfl⟩)
theorem k_Go_mixComing_b96 {g : GE} {this : Nat} {v1 : Int32} {v2 : Int32} {v3 : Int64} {v5 : Int32}  {m : Mem} (h_this : kd this = 4) {r : Option AV} {m' : Mem} {x : (Int32 × Mem) ⊕ (Mem)} (h : Go_mixComing_b96 this v1 v2 v3 v5 m = some x) (hp : (Sum.elim (fun s : Int32 × Mem => V g Y_Go_mixComing 17 [some (vr this), some (vi v1), some (vi v2), some (vl v3), none, some (vi s.1), none] [] s.2 (PM g Y_Go_mixComing r m')) (fun x : Mem => r = none ∧ m' = x)) x) : V g Y_Go_mixComing 96 [some (vr this), some (vi v1), some (vi v2), some (vl v3), none, some (vi v5), none] [] m (PM g Y_Go_mixComing r m') := by
  unfold Go_mixComing_b96 at h
  refine V_iinc (i := 5) (v := (v5 + 1)) (ls' := [some (vr this), some (vi v1), some (vi v2), some (vl v3), none, some (vi (v5 + 1)), none]) (pc := 96) dX3_mixComing_96 rfl rfl (Nat.le_of_ble_eq_true rfl) rfl ?_
  refine V_goto (tgt := 17) (pc := 99) dX3_mixComing_99 rfl ?_
  obtain rfl := Option.some.inj h
  exact hp
theorem k_Go_mixComing_l17 {g : GE} {this : Nat} {v1 : Int32} {v2 : Int32} {v3 : Int64} {v5 : Int32} {m : Mem} (h_this : kd this = 4) {r : Option AV} {m' : Mem} {x : (Int32 × Mem) ⊕ (Mem)} (h : Go_mixComing_l17 this v1 v2 v3 v5 m = some x) (hp : (Sum.elim (fun s : Int32 × Mem => V g Y_Go_mixComing 17 [some (vr this), some (vi v1), some (vi v2), some (vl v3), none, some (vi s.1), none] [] s.2 (PM g Y_Go_mixComing r m')) (fun x : Mem => r = none ∧ m' = x)) x) : V g Y_Go_mixComing 17 [some (vr this), some (vi v1), some (vi v2), some (vl v3), none, some (vi v5), none] [] m (PM g Y_Go_mixComing r m') := by
  unfold Go_mixComing_l17 at h
  refine V_iload (i := 5) (pc := 17) dX3_mixComing_17 rfl ?_
  refine V_aload_n (i := 0) (pc := 19) dX3_mixComing_19 rfl rfl ?_
  refine V_getR (b := (this + 7)) (pc := 20) dX3_mixComing_20 fl_Go_16 h_this rfl rfl ?_
  refine V_iload_n (i := 1) (pc := 23) dX3_mixComing_23 rfl rfl ?_
  obtain ⟨hg24, h⟩ := gd_e h
  refine V_aald (b := ((this + 7) + (1 + ix v1))) (k := 5) (pc := 24) dX3_mixComing_24 (kf_3_1 h_this) (by decide) (af_3_1 h_this) hg24 rfl ?_
  refine V_alen (k := 1) (pc := 25) dX3_mixComing_25 (ka25 (kf_3_1 h_this) (af_3_1 h_this) hg24) (Nat.le_of_ble_eq_true rfl) ((la25 (kf_3_1 h_this) (af_3_1 h_this) hg24).trans (ag_3_1 h_this)) ?_
  refine V_icmp_ge (pc := 26) (tgt := 102) dX3_mixComing_26 rfl (fun q => ?_) (fun q => ?_)
  · have h := ite_t q h
    obtain ⟨y1, hu1, rfl⟩ := up_e h
    have h := hu1
    obtain rfl := Option.some.inj h
    exact E_v (pc := 102) dX3_mixComing_102 rfl hp
  · have h := ite_f q h
    refine V_iload (i := 5) (pc := 29) dX3_mixComing_29 rfl ?_
    refine V_iconst (v := 1) (pc := 31) dX3_mixComing_31 rfl ?_
    refine V_iload_n (i := 2) (pc := 32) dX3_mixComing_32 rfl rfl ?_
    refine V_ishl (pc := 33) dX3_mixComing_33 ?_
    refine V_ior (pc := 34) dX3_mixComing_34 ?_
    refine V_istore (i := 6) (ls' := [some (vr this), some (vi v1), some (vi v2), some (vl v3), none, some (vi v5), some (vi (v5 ||| ((1 : Int32) <<< (v2 &&& 31))))]) (pc := 35) dX3_mixComing_35 (Nat.le_of_ble_eq_true rfl) rfl ?_
    refine V_iload (i := 6) (pc := 37) dX3_mixComing_37 rfl ?_
    refine V_iload (i := 5) (pc := 39) dX3_mixComing_39 rfl ?_
    refine V_icmp_eq (pc := 41) (tgt := 96) dX3_mixComing_41 rfl (fun q => ?_) (fun q => ?_)
    · have h := ite_t q h
      refine V_sub (ls' := [some (vr this), some (vi v1), some (vi v2), some (vl v3), none, some (vi v5), none]) (And.intro rfl (And.intro rfl (And.intro rfl (And.intro rfl (And.intro rfl trivial))))) ?_
      exact k_Go_mixComing_b96 h_this h hp
    · have h := ite_f q h
      refine V_iload (i := 6) (pc := 44) dX3_mixComing_44 rfl ?_
      refine V_aload_n (i := 0) (pc := 46) dX3_mixComing_46 rfl rfl ?_
      refine V_getR (b := (this + 7)) (pc := 47) dX3_mixComing_47 fl_Go_16 h_this rfl rfl ?_
      refine V_iload_n (i := 1) (pc := 50) dX3_mixComing_50 rfl rfl ?_
      obtain ⟨hg51, h⟩ := gd_e h
      refine V_aald (b := ((this + 7) + (1 + ix v1))) (k := 5) (pc := 51) dX3_mixComing_51 (kf_3_1 h_this) (by decide) (af_3_1 h_this) hg51 rfl ?_
      refine V_alen (k := 1) (pc := 52) dX3_mixComing_52 (ka25 (kf_3_1 h_this) (af_3_1 h_this) hg51) (Nat.le_of_ble_eq_true rfl) ((la25 (kf_3_1 h_this) (af_3_1 h_this) hg51).trans (ag_3_1 h_this)) ?_
      refine V_icmp_ge (pc := 53) (tgt := 96) dX3_mixComing_53 rfl (fun q => ?_) (fun q => ?_)
      · have h := ite_t q h
        refine V_sub (ls' := [some (vr this), some (vi v1), some (vi v2), some (vl v3), none, some (vi v5), none]) (And.intro rfl (And.intro rfl (And.intro rfl (And.intro rfl (And.intro rfl trivial))))) ?_
        exact k_Go_mixComing_b96 h_this h hp
      · have h := ite_f q h
        refine V_aload_n (i := 0) (pc := 56) dX3_mixComing_56 rfl rfl ?_
        refine V_getR (b := (this + 7)) (pc := 57) dX3_mixComing_57 fl_Go_16 h_this rfl rfl ?_
        refine V_iload_n (i := 1) (pc := 60) dX3_mixComing_60 rfl rfl ?_
        obtain ⟨hg61, h⟩ := gd_e h
        refine V_aald (b := ((this + 7) + (1 + ix v1))) (k := 5) (pc := 61) dX3_mixComing_61 (kf_3_1 h_this) (by decide) (af_3_1 h_this) hg61 rfl ?_
        refine V_iload (i := 5) (pc := 62) dX3_mixComing_62 rfl ?_
        refine V_lload_n (i := 3) (pc := 64) dX3_mixComing_64 rfl rfl ?_
        refine V_aload_n (i := 0) (pc := 65) dX3_mixComing_65 rfl rfl ?_
        refine V_getR (b := (this + 7)) (pc := 66) dX3_mixComing_66 fl_Go_16 h_this rfl rfl ?_
        refine V_iload_n (i := 1) (pc := 69) dX3_mixComing_69 rfl rfl ?_
        obtain ⟨hg70, h⟩ := gd_e h
        refine V_aald (b := ((this + 7) + (1 + ix v1))) (k := 5) (pc := 70) dX3_mixComing_70 (kf_3_1 h_this) (by decide) (af_3_1 h_this) hg70 rfl ?_
        refine V_iload (i := 6) (pc := 71) dX3_mixComing_71 rfl ?_
        obtain ⟨hg73, h⟩ := gd_e h
        refine V_lald (pc := 73) dX3_mixComing_73 (ka25 (kf_3_1 h_this) (af_3_1 h_this) hg70) ((la25 (kf_3_1 h_this) (af_3_1 h_this) hg70).trans (ag_3_1 h_this)) hg73 ?_
        refine V_lmul (pc := 74) dX3_mixComing_74 ?_
        refine V_ldc2 (v := 100) (pc := 75) dX3_mixComing_75 con_Go_72 ?_
        refine V_lload_n (i := 3) (pc := 78) dX3_mixComing_78 rfl rfl ?_
        refine V_lsub (pc := 79) dX3_mixComing_79 ?_
        refine V_aload_n (i := 0) (pc := 80) dX3_mixComing_80 rfl rfl ?_
        refine V_getR (b := (this + 7)) (pc := 81) dX3_mixComing_81 fl_Go_16 h_this rfl rfl ?_
        refine V_iload_n (i := 1) (pc := 84) dX3_mixComing_84 rfl rfl ?_
        obtain ⟨hg85, h⟩ := gd_e h
        refine V_aald (b := ((this + 7) + (1 + ix v1))) (k := 5) (pc := 85) dX3_mixComing_85 (kf_3_1 h_this) (by decide) (af_3_1 h_this) hg85 rfl ?_
        refine V_iload (i := 5) (pc := 86) dX3_mixComing_86 rfl ?_
        obtain ⟨hg88, h⟩ := gd_e h
        refine V_lald (pc := 88) dX3_mixComing_88 (ka25 (kf_3_1 h_this) (af_3_1 h_this) hg85) ((la25 (kf_3_1 h_this) (af_3_1 h_this) hg85).trans (ag_3_1 h_this)) hg88 ?_
        refine V_lmul (pc := 89) dX3_mixComing_89 ?_
        refine V_ladd (pc := 90) dX3_mixComing_90 ?_
        refine V_ldc2 (v := 100) (pc := 91) dX3_mixComing_91 con_Go_72 ?_
        refine V_ldiv (pc := 94) dX3_mixComing_94 (by decide) ?_
        obtain ⟨hg95, h⟩ := gd_e h
        refine V_last_lt (pc := 95) dX3_mixComing_95 (ka25 (kf_3_1 h_this) (af_3_1 h_this) hg61) ((la25 (kf_3_1 h_this) (af_3_1 h_this) hg61).trans (ag_3_1 h_this)) hg95 h (fun m95 h => ?_)
        refine V_sub (ls' := [some (vr this), some (vi v1), some (vi v2), some (vl v3), none, some (vi v5), none]) (And.intro rfl (And.intro rfl (And.intro rfl (And.intro rfl (And.intro rfl trivial))))) ?_
        exact k_Go_mixComing_b96 h_this h hp
theorem k_Go_mixComing {g : GE} {this : Nat} {v1 : Int32} {v2 : Int32} {v3 : Int64} {m : Mem} (h_this : kd this = 4) {r : Option AV} {m' : Mem} {x : Mem} (h : Go_mixComing this v1 v2 v3 m = some x) (hp : (fun x : Mem => r = none ∧ m' = x) x) : V g Y_Go_mixComing 0 [some (vr this), some (vi v1), some (vi v2), some (vl v3), none, none, none] [] m (PM g Y_Go_mixComing r m') := by
  unfold Go_mixComing at h
  refine V_iload_n (i := 1) (pc := 0) dX3_mixComing_0 rfl rfl ?_
  refine V_if_lt (pc := 1) (tgt := 13) dX3_mixComing_1 rfl (fun q => ?_) (fun q => ?_)
  · have h := ite_t q h
    obtain rfl := Option.some.inj h
    exact E_v (pc := 13) dX3_mixComing_13 rfl hp
  · have h := ite_f q h
    refine V_iload_n (i := 1) (pc := 4) dX3_mixComing_4 rfl rfl ?_
    refine V_aload_n (i := 0) (pc := 5) dX3_mixComing_5 rfl rfl ?_
    refine V_getR (b := (this + 7)) (pc := 6) dX3_mixComing_6 fl_Go_16 h_this rfl rfl ?_
    refine V_alen (k := 5) (pc := 9) dX3_mixComing_9 (kf_3_1 h_this) (Nat.le_of_ble_eq_true rfl) (af_3_1 h_this) ?_
    refine V_icmp_lt (pc := 10) (tgt := 14) dX3_mixComing_10 rfl (fun q => ?_) (fun q => ?_)
    · have h := ite_t q h
      refine V_iconst (v := 0) (pc := 14) dX3_mixComing_14 rfl ?_
      refine V_istore (i := 5) (ls' := [some (vr this), some (vi v1), some (vi v2), some (vl v3), none, some (vi 0), none]) (pc := 15) dX3_mixComing_15 (Nat.le_of_ble_eq_true rfl) rfl ?_
      exact loop_V (A := fun s : Int32 × Mem => V g Y_Go_mixComing 17 [some (vr this), some (vi v1), some (vi v2), some (vl v3), none, some (vi s.1), none] [] s.2 (PM g Y_Go_mixComing r m')) (fun s x h hp => k_Go_mixComing_l17 h_this h hp) (0, m) _ h hp
    · have h := ite_f q h
      obtain rfl := Option.some.inj h
      exact E_v (pc := 13) dX3_mixComing_13 rfl hp
theorem e_Go_mixComing {g : GE} {this : Nat} {v1 : Int32} {v2 : Int32} {v3 : Int64} {m : Mem} (h_this : kd this = 4) {x : Mem} (h : Go_mixComing this v1 v2 v3 m = some x) : Ev g Y_Go_mixComing [vr this, vi v1, vi v2, vl v3] m (none) x :=
  Ev_of 2 (by decide +kernel) rfl (Nat.le_of_ble_eq_true rfl) rfl (k_Go_mixComing h_this h ⟨rfl, rfl⟩)
theorem k_Go_workDay_l133 {g : GE} {this : Nat} {v1 : Nat} {v3 : Int32} {v4 : Int32} {v5 : Int32} {m : Mem} (h_this : kd this = 4) (h_v1 : kd v1 = 3) {r : Option AV} {m' : Mem} {x : (Int32 × Mem) ⊕ ((Int32 × Mem) ⊕ (Mem))} (h : Go_workDay_l133 this v1 v3 v4 v5 m = some x) (hp : (Sum.elim (fun s : Int32 × Mem => V g Y_Go_workDay 133 [some (vr this), none, none, some (vi v3), some (vi v4), some (vi s.1)] [] s.2 (PM g Y_Go_workDay r m')) (Sum.elim (fun s : Int32 × Mem => V g Y_Go_workDay 124 [some (vr this), none, none, some (vi v3), some (vi s.1), none] [] s.2 (PM g Y_Go_workDay r m')) (fun x : Mem => r = none ∧ m' = x))) x) : V g Y_Go_workDay 133 [some (vr this), none, none, some (vi v3), some (vi v4), some (vi v5)] [] m (PM g Y_Go_workDay r m') := by
  unfold Go_workDay_l133 at h
  refine V_iload (i := 5) (pc := 133) dX3_workDay_133 rfl ?_
  refine V_iconst (v := 1) (pc := 135) dX3_workDay_135 rfl ?_
  refine V_iload_n (i := 3) (pc := 136) dX3_workDay_136 rfl rfl ?_
  refine V_ishl (pc := 137) dX3_workDay_137 ?_
  refine V_icmp_ge (pc := 138) (tgt := 167) dX3_workDay_138 rfl (fun q => ?_) (fun q => ?_)
  · have h := ite_t q h
    obtain ⟨y3, hu3, rfl⟩ := up_e h
    have h := hu3
    refine V_iinc (i := 4) (v := (v4 + 1)) (ls' := [some (vr this), none, none, some (vi v3), some (vi (v4 + 1)), some (vi v5)]) (pc := 167) dX3_workDay_167 rfl rfl (Nat.le_of_ble_eq_true rfl) rfl ?_
    refine V_goto (tgt := 124) (pc := 170) dX3_workDay_170 rfl ?_
    refine V_sub (ls' := [some (vr this), none, none, some (vi v3), some (vi (v4 + 1)), none]) (And.intro rfl (And.intro rfl (And.intro rfl trivial))) ?_
    obtain rfl := Option.some.inj h
    exact hp
  · have h := ite_f q h
    refine V_aload_n (i := 0) (pc := 141) dX3_workDay_141 rfl rfl ?_
    refine V_getR (b := (this + 1)) (pc := 142) dX3_workDay_142 fl_Go_11 h_this rfl rfl ?_
    refine V_iload (i := 4) (pc := 145) dX3_workDay_145 rfl ?_
    obtain ⟨hg147, h⟩ := gd_e h
    refine V_aald (b := ((this + 1) + (1 + ix v4))) (k := 5) (pc := 147) dX3_workDay_147 (kf_3_0 h_this) (by decide) (af_3_0 h_this) hg147 rfl ?_
    refine V_iload (i := 5) (pc := 148) dX3_workDay_148 rfl ?_
    refine V_aload_n (i := 0) (pc := 150) dX3_workDay_150 rfl rfl ?_
    refine V_getR (b := (this + 7)) (pc := 151) dX3_workDay_151 fl_Go_16 h_this rfl rfl ?_
    refine V_iload (i := 4) (pc := 154) dX3_workDay_154 rfl ?_
    obtain ⟨hg156, h⟩ := gd_e h
    refine V_aald (b := ((this + 7) + (1 + ix v4))) (k := 5) (pc := 156) dX3_workDay_156 (kf_3_1 h_this) (by decide) (af_3_1 h_this) hg156 rfl ?_
    refine V_iload (i := 5) (pc := 157) dX3_workDay_157 rfl ?_
    obtain ⟨hg159, h⟩ := gd_e h
    refine V_lald (pc := 159) dX3_workDay_159 (ka25 (kf_3_1 h_this) (af_3_1 h_this) hg156) ((la25 (kf_3_1 h_this) (af_3_1 h_this) hg156).trans (ag_3_1 h_this)) hg159 ?_
    obtain ⟨hg160, h⟩ := gd_e h
    refine V_last_lt (pc := 160) dX3_workDay_160 (ka25 (kf_3_0 h_this) (af_3_0 h_this) hg147) ((la25 (kf_3_0 h_this) (af_3_0 h_this) hg147).trans (ag_3_0 h_this)) hg160 h (fun m160 h => ?_)
    refine V_iinc (i := 5) (v := (v5 + 1)) (ls' := [some (vr this), none, none, some (vi v3), some (vi v4), some (vi (v5 + 1))]) (pc := 161) dX3_workDay_161 rfl rfl (Nat.le_of_ble_eq_true rfl) rfl ?_
    refine V_goto (tgt := 133) (pc := 164) dX3_workDay_164 rfl ?_
    obtain rfl := Option.some.inj h
    exact hp
theorem k_Go_workDay_l124 {g : GE} {this : Nat} {v1 : Nat} {v3 : Int32} {v4 : Int32} {m : Mem} (h_this : kd this = 4) (h_v1 : kd v1 = 3) {r : Option AV} {m' : Mem} {x : (Int32 × Mem) ⊕ (Mem)} (h : Go_workDay_l124 this v1 v3 v4 m = some x) (hp : (Sum.elim (fun s : Int32 × Mem => V g Y_Go_workDay 124 [some (vr this), none, none, some (vi v3), some (vi s.1), none] [] s.2 (PM g Y_Go_workDay r m')) (fun x : Mem => r = none ∧ m' = x)) x) : V g Y_Go_workDay 124 [some (vr this), none, none, some (vi v3), some (vi v4), none] [] m (PM g Y_Go_workDay r m') := by
  unfold Go_workDay_l124 at h
  refine V_iload (i := 4) (pc := 124) dX3_workDay_124 rfl ?_
  refine V_iload_n (i := 3) (pc := 126) dX3_workDay_126 rfl rfl ?_
  refine V_icmp_gt (pc := 127) (tgt := 173) dX3_workDay_127 rfl (fun q => ?_) (fun q => ?_)
  · have h := ite_t q h
    obtain ⟨y2, hu2, rfl⟩ := up_e h
    have h := hu2
    obtain rfl := Option.some.inj h
    exact E_v (pc := 173) dX3_workDay_173 rfl hp
  · have h := ite_f q h
    refine V_iconst (v := 0) (pc := 130) dX3_workDay_130 rfl ?_
    refine V_istore (i := 5) (ls' := [some (vr this), none, none, some (vi v3), some (vi v4), some (vi 0)]) (pc := 131) dX3_workDay_131 (Nat.le_of_ble_eq_true rfl) rfl ?_
    exact loop_V (A := fun s : Int32 × Mem => V g Y_Go_workDay 133 [some (vr this), none, none, some (vi v3), some (vi v4), some (vi s.1)] [] s.2 (PM g Y_Go_workDay r m')) (fun s x h hp => k_Go_workDay_l133 h_this h_v1 h hp) (0, m) _ h hp
theorem k_Go_workDay_b109 {g : GE} {this : Nat} {v1 : Nat} {v2 : Int32} {v3 : Int32} {v4 : Int32} {v5 : Int32}  {m : Mem} (h_this : kd this = 4) (h_v1 : kd v1 = 3) {r : Option AV} {m' : Mem} {x : (Int32 × Mem) ⊕ ((Int32 × Mem) ⊕ (Mem))} (h : Go_workDay_b109 this v1 v2 v3 v4 v5 m = some x) (hp : (Sum.elim (fun s : Int32 × Mem => V g Y_Go_workDay 71 [some (vr this), some (vr v1), some (vi v2), some (vi v3), some (vi v4), some (vi s.1)] [] s.2 (PM g Y_Go_workDay r m')) (Sum.elim (fun s : Int32 × Mem => V g Y_Go_workDay 15 [some (vr this), some (vr v1), some (vi v2), some (vi v3), some (vi s.1), none] [] s.2 (PM g Y_Go_workDay r m')) (fun x : Mem => r = none ∧ m' = x))) x) : V g Y_Go_workDay 109 [some (vr this), some (vr v1), some (vi v2), some (vi v3), some (vi v4), some (vi v5)] [] m (PM g Y_Go_workDay r m') := by
  unfold Go_workDay_b109 at h
  refine V_iinc (i := 5) (v := (v5 + (-1))) (ls' := [some (vr this), some (vr v1), some (vi v2), some (vi v3), some (vi v4), some (vi (v5 + (-1)))]) (pc := 109) dX3_workDay_109 rfl rfl (Nat.le_of_ble_eq_true rfl) rfl ?_
  refine V_goto (tgt := 71) (pc := 112) dX3_workDay_112 rfl ?_
  obtain rfl := Option.some.inj h
  exact hp
theorem k_Go_workDay_l71 {g : GE} {this : Nat} {v1 : Nat} {v2 : Int32} {v3 : Int32} {v4 : Int32} {v5 : Int32} {m : Mem} (h_this : kd this = 4) (h_v1 : kd v1 = 3) {r : Option AV} {m' : Mem} {x : (Int32 × Mem) ⊕ ((Int32 × Mem) ⊕ (Mem))} (h : Go_workDay_l71 this v1 v2 v3 v4 v5 m = some x) (hp : (Sum.elim (fun s : Int32 × Mem => V g Y_Go_workDay 71 [some (vr this), some (vr v1), some (vi v2), some (vi v3), some (vi v4), some (vi s.1)] [] s.2 (PM g Y_Go_workDay r m')) (Sum.elim (fun s : Int32 × Mem => V g Y_Go_workDay 15 [some (vr this), some (vr v1), some (vi v2), some (vi v3), some (vi s.1), none] [] s.2 (PM g Y_Go_workDay r m')) (fun x : Mem => r = none ∧ m' = x))) x) : V g Y_Go_workDay 71 [some (vr this), some (vr v1), some (vi v2), some (vi v3), some (vi v4), some (vi v5)] [] m (PM g Y_Go_workDay r m') := by
  unfold Go_workDay_l71 at h
  refine V_iload (i := 5) (pc := 71) dX3_workDay_71 rfl ?_
  refine V_if_lt (pc := 73) (tgt := 115) dX3_workDay_73 rfl (fun q => ?_) (fun q => ?_)
  · have h := ite_t q h
    obtain ⟨y5, hu5, rfl⟩ := up_e h
    have h := hu5
    refine V_iinc (i := 4) (v := (v4 + 1)) (ls' := [some (vr this), some (vr v1), some (vi v2), some (vi v3), some (vi (v4 + 1)), some (vi v5)]) (pc := 115) dX3_workDay_115 rfl rfl (Nat.le_of_ble_eq_true rfl) rfl ?_
    refine V_goto (tgt := 15) (pc := 118) dX3_workDay_118 rfl ?_
    refine V_sub (ls' := [some (vr this), some (vr v1), some (vi v2), some (vi v3), some (vi (v4 + 1)), none]) (And.intro rfl (And.intro rfl (And.intro rfl (And.intro rfl (And.intro rfl trivial))))) ?_
    obtain rfl := Option.some.inj h
    exact hp
  · have h := ite_f q h
    refine V_aload_n (i := 1) (pc := 76) dX3_workDay_76 rfl rfl ?_
    refine V_getR (b := (v1 + 18)) (pc := 77) dX3_workDay_77 fl_Go_25 h_v1 rfl rfl ?_
    refine V_iload (i := 5) (pc := 80) dX3_workDay_80 rfl ?_
    refine V_iconst (v := 0) (pc := 82) dX3_workDay_82 rfl ?_
    obtain ⟨r83, e83, h⟩ := bnd h
    refine V_invV1 (c := 8) (pc := 83) dX3_workDay_83 (e_Ta_at (kf_2_17 h_v1) e83) iv_Go_65 (rm_Go_workDay_Ta_at _ _ _) rfl (kf_2_17 h_v1) cf_8 rfl (Nat.le_of_ble_eq_true rfl) rfl ?_
    refine V_iload_n (i := 2) (pc := 86) dX3_workDay_86 rfl rfl ?_
    refine V_icmp_gt (pc := 87) (tgt := 109) dX3_workDay_87 rfl (fun q => ?_) (fun q => ?_)
    · have h := ite_t q h
      exact k_Go_workDay_b109 h_this h_v1 h hp
    · have h := ite_f q h
      refine V_aload_n (i := 0) (pc := 90) dX3_workDay_90 rfl rfl ?_
      refine V_iload (i := 4) (pc := 91) dX3_workDay_91 rfl ?_
      refine V_iload (i := 5) (pc := 93) dX3_workDay_93 rfl ?_
      refine V_aload_n (i := 1) (pc := 95) dX3_workDay_95 rfl rfl ?_
      refine V_getR (b := (v1 + 18)) (pc := 96) dX3_workDay_96 fl_Go_25 h_v1 rfl rfl ?_
      refine V_iload (i := 5) (pc := 99) dX3_workDay_99 rfl ?_
      refine V_iconst (v := 1) (pc := 101) dX3_workDay_101 rfl ?_
      obtain ⟨r102, e102, h⟩ := bnd h
      refine V_invV1 (c := 8) (pc := 102) dX3_workDay_102 (e_Ta_at (kf_2_17 h_v1) e102) iv_Go_65 (rm_Go_workDay_Ta_at _ _ _) rfl (kf_2_17 h_v1) cf_8 rfl (Nat.le_of_ble_eq_true rfl) rfl ?_
      refine V_i2l (pc := 105) dX3_workDay_105 ?_
      obtain ⟨m106, e106, h⟩ := bnd h
      refine V_invV0 (c := 3) (pc := 106) dX3_workDay_106 (e_Go_mixComing h_this e106) iv_Go_68 (rm_Go_workDay_Go_mixComing _ _ _) rfl h_this cf_3 rfl (Nat.le_of_ble_eq_true rfl) rfl ?_
      exact k_Go_workDay_b109 h_this h_v1 h hp
theorem k_Go_workDay_l24 {g : GE} {this : Nat} {v1 : Nat} {v2 : Int32} {v3 : Int32} {v4 : Int32} {v5 : Int32} {m : Mem} (h_this : kd this = 4) (h_v1 : kd v1 = 3) {r : Option AV} {m' : Mem} {x : (Int32 × Mem) ⊕ ((Int32 × Mem) ⊕ (Mem))} (h : Go_workDay_l24 this v1 v2 v3 v4 v5 m = some x) (hp : (Sum.elim (fun s : Int32 × Mem => V g Y_Go_workDay 24 [some (vr this), some (vr v1), some (vi v2), some (vi v3), some (vi v4), some (vi s.1)] [] s.2 (PM g Y_Go_workDay r m')) (Sum.elim (fun s : Int32 × Mem => V g Y_Go_workDay 15 [some (vr this), some (vr v1), some (vi v2), some (vi v3), some (vi s.1), none] [] s.2 (PM g Y_Go_workDay r m')) (fun x : Mem => r = none ∧ m' = x))) x) : V g Y_Go_workDay 24 [some (vr this), some (vr v1), some (vi v2), some (vi v3), some (vi v4), some (vi v5)] [] m (PM g Y_Go_workDay r m') := by
  unfold Go_workDay_l24 at h
  refine V_iload (i := 5) (pc := 24) dX3_workDay_24 rfl ?_
  refine V_iconst (v := 1) (pc := 26) dX3_workDay_26 rfl ?_
  refine V_iload_n (i := 3) (pc := 27) dX3_workDay_27 rfl rfl ?_
  refine V_ishl (pc := 28) dX3_workDay_28 ?_
  refine V_icmp_ge (pc := 29) (tgt := 66) dX3_workDay_29 rfl (fun q => ?_) (fun q => ?_)
  · have h := ite_t q h
    obtain ⟨y4, hu4, rfl⟩ := up_e h
    have h := hu4
    refine V_iload_n (i := 3) (pc := 66) dX3_workDay_66 rfl rfl ?_
    refine V_iconst (v := 1) (pc := 67) dX3_workDay_67 rfl ?_
    refine V_isub (pc := 68) dX3_workDay_68 ?_
    refine V_istore (i := 5) (ls' := [some (vr this), some (vr v1), some (vi v2), some (vi v3), some (vi v4), some (vi (v3 - 1))]) (pc := 69) dX3_workDay_69 (Nat.le_of_ble_eq_true rfl) rfl ?_
    exact loop_V (A := fun s : Int32 × Mem => V g Y_Go_workDay 71 [some (vr this), some (vr v1), some (vi v2), some (vi v3), some (vi v4), some (vi s.1)] [] s.2 (PM g Y_Go_workDay r m')) (fun s x h hp => k_Go_workDay_l71 h_this h_v1 h hp) ((v3 - 1), m) _ h hp
  · have h := ite_f q h
    refine V_aload_n (i := 0) (pc := 32) dX3_workDay_32 rfl rfl ?_
    refine V_getR (b := (this + 7)) (pc := 33) dX3_workDay_33 fl_Go_16 h_this rfl rfl ?_
    refine V_iload (i := 4) (pc := 36) dX3_workDay_36 rfl ?_
    obtain ⟨hg38, h⟩ := gd_e h
    refine V_aald (b := ((this + 7) + (1 + ix v4))) (k := 5) (pc := 38) dX3_workDay_38 (kf_3_1 h_this) (by decide) (af_3_1 h_this) hg38 rfl ?_
    refine V_iload (i := 5) (pc := 39) dX3_workDay_39 rfl ?_
    refine V_aload_n (i := 0) (pc := 41) dX3_workDay_41 rfl rfl ?_
    refine V_aload_n (i := 1) (pc := 42) dX3_workDay_42 rfl rfl ?_
    refine V_iload (i := 4) (pc := 43) dX3_workDay_43 rfl ?_
    refine V_aload_n (i := 0) (pc := 45) dX3_workDay_45 rfl rfl ?_
    refine V_aload_n (i := 1) (pc := 46) dX3_workDay_46 rfl rfl ?_
    refine V_iload (i := 4) (pc := 47) dX3_workDay_47 rfl ?_
    refine V_iload (i := 5) (pc := 49) dX3_workDay_49 rfl ?_
    obtain ⟨r51, e51, h⟩ := bnd h
    refine V_invV1 (c := 3) (pc := 51) dX3_workDay_51 (e_Go_bestFrom h_this h_v1 e51) iv_Go_49 (rm_Go_workDay_Go_bestFrom _ _ _) rfl h_this cf_3 rfl (Nat.le_of_ble_eq_true rfl) rfl ?_
    refine V_iload (i := 5) (pc := 54) dX3_workDay_54 rfl ?_
    obtain ⟨r56, e56, h⟩ := bnd h
    refine V_invV1 (c := 3) (pc := 56) dX3_workDay_56 (e_Go_worthOfGoing h_this h_v1 e56) iv_Go_53 (rm_Go_workDay_Go_worthOfGoing _ _ _) rfl h_this cf_3 rfl (Nat.le_of_ble_eq_true rfl) rfl ?_
    obtain ⟨hg59, h⟩ := gd_e h
    refine V_last_lt (pc := 59) dX3_workDay_59 (ka25 (kf_3_1 h_this) (af_3_1 h_this) hg38) ((la25 (kf_3_1 h_this) (af_3_1 h_this) hg38).trans (ag_3_1 h_this)) hg59 h (fun m59 h => ?_)
    refine V_iinc (i := 5) (v := (v5 + 1)) (ls' := [some (vr this), some (vr v1), some (vi v2), some (vi v3), some (vi v4), some (vi (v5 + 1))]) (pc := 60) dX3_workDay_60 rfl rfl (Nat.le_of_ble_eq_true rfl) rfl ?_
    refine V_goto (tgt := 24) (pc := 63) dX3_workDay_63 rfl ?_
    obtain rfl := Option.some.inj h
    exact hp
theorem k_Go_workDay_l15 {g : GE} {this : Nat} {v1 : Nat} {v2 : Int32} {v3 : Int32} {v4 : Int32} {m : Mem} (h_this : kd this = 4) (h_v1 : kd v1 = 3) {r : Option AV} {m' : Mem} {x : (Int32 × Mem) ⊕ (Mem)} (h : Go_workDay_l15 this v1 v2 v3 v4 m = some x) (hp : (Sum.elim (fun s : Int32 × Mem => V g Y_Go_workDay 15 [some (vr this), some (vr v1), some (vi v2), some (vi v3), some (vi s.1), none] [] s.2 (PM g Y_Go_workDay r m')) (fun x : Mem => r = none ∧ m' = x)) x) : V g Y_Go_workDay 15 [some (vr this), some (vr v1), some (vi v2), some (vi v3), some (vi v4), none] [] m (PM g Y_Go_workDay r m') := by
  unfold Go_workDay_l15 at h
  refine V_iload (i := 4) (pc := 15) dX3_workDay_15 rfl ?_
  refine V_iload_n (i := 3) (pc := 17) dX3_workDay_17 rfl rfl ?_
  refine V_icmp_gt (pc := 18) (tgt := 121) dX3_workDay_18 rfl (fun q => ?_) (fun q => ?_)
  · have h := ite_t q h
    obtain ⟨y1, hu1, rfl⟩ := up_e h
    have h := hu1
    refine V_iconst (v := 0) (pc := 121) dX3_workDay_121 rfl ?_
    refine V_istore (i := 4) (ls' := [some (vr this), some (vr v1), some (vi v2), some (vi v3), some (vi 0), none]) (pc := 122) dX3_workDay_122 (Nat.le_of_ble_eq_true rfl) rfl ?_
    refine V_sub (ls' := [some (vr this), none, none, some (vi v3), some (vi 0), none]) (And.intro rfl (And.intro rfl (And.intro rfl trivial))) ?_
    exact loop_V (A := fun s : Int32 × Mem => V g Y_Go_workDay 124 [some (vr this), none, none, some (vi v3), some (vi s.1), none] [] s.2 (PM g Y_Go_workDay r m')) (fun s x h hp => k_Go_workDay_l124 h_this h_v1 h hp) (0, m) _ h hp
  · have h := ite_f q h
    refine V_iconst (v := 0) (pc := 21) dX3_workDay_21 rfl ?_
    refine V_istore (i := 5) (ls' := [some (vr this), some (vr v1), some (vi v2), some (vi v3), some (vi v4), some (vi 0)]) (pc := 22) dX3_workDay_22 (Nat.le_of_ble_eq_true rfl) rfl ?_
    exact loop_V (A := fun s : Int32 × Mem => V g Y_Go_workDay 24 [some (vr this), some (vr v1), some (vi v2), some (vi v3), some (vi v4), some (vi s.1)] [] s.2 (PM g Y_Go_workDay r m')) (fun s x h hp => k_Go_workDay_l24 h_this h_v1 h hp) (0, m) _ h hp
theorem k_Go_workDay {g : GE} {this : Nat} {v1 : Nat} {v2 : Int32} {m : Mem} (h_this : kd this = 4) (h_v1 : kd v1 = 3) {r : Option AV} {m' : Mem} {x : Mem} (h : Go_workDay this v1 v2 m = some x) (hp : (fun x : Mem => r = none ∧ m' = x) x) : V g Y_Go_workDay 0 [some (vr this), some (vr v1), some (vi v2), none, none, none] [] m (PM g Y_Go_workDay r m') := by
  unfold Go_workDay at h
  refine V_aload_n (i := 1) (pc := 0) dX3_workDay_0 rfl rfl ?_
  refine V_getR (b := (v1 + 18)) (pc := 1) dX3_workDay_1 fl_Go_25 h_v1 rfl rfl ?_
  refine V_getI (pc := 4) dX3_workDay_4 fl_Go_29 (kf_2_17 h_v1) rfl ?_
  refine V_iconst (v := 4) (pc := 7) dX3_workDay_7 rfl ?_
  refine V_mmin (pc := 8) dX3_workDay_8 ma_Go_59 (rmM_Go_workDay _ _ _) (Nat.le_of_ble_eq_true rfl) ?_
  refine V_istore_n (i := 3) (ls' := [some (vr this), some (vr v1), some (vi v2), some (vi (jmin (rI m (v1 + 18) 1) 4)), none, none]) (pc := 11) dX3_workDay_11 rfl (Nat.le_of_ble_eq_true rfl) rfl ?_
  refine V_iconst (v := 0) (pc := 12) dX3_workDay_12 rfl ?_
  refine V_istore (i := 4) (ls' := [some (vr this), some (vr v1), some (vi v2), some (vi (jmin (rI m (v1 + 18) 1) 4)), some (vi 0), none]) (pc := 13) dX3_workDay_13 (Nat.le_of_ble_eq_true rfl) rfl ?_
  exact loop_V (A := fun s : Int32 × Mem => V g Y_Go_workDay 15 [some (vr this), some (vr v1), some (vi v2), some (vi (jmin (rI m (v1 + 18) 1) 4)), some (vi s.1), none] [] s.2 (PM g Y_Go_workDay r m')) (fun s x h hp => k_Go_workDay_l15 h_this h_v1 h hp) (0, m) _ h hp
theorem e_Go_workDay {g : GE} {this : Nat} {v1 : Nat} {v2 : Int32} {m : Mem} (h_this : kd this = 4) (h_v1 : kd v1 = 3) {x : Mem} (h : Go_workDay this v1 v2 m = some x) : Ev g Y_Go_workDay [vr this, vr v1, vi v2] m (none) x :=
  Ev_of 3 (by decide +kernel) rfl (Nat.le_of_ble_eq_true rfl) rfl (k_Go_workDay h_this h_v1 h ⟨rfl, rfl⟩)
theorem k_Go_workBackTo_l9 {g : GE} {this : Nat} {v1 : Nat} {v2 : Int32} {v3 : Int32} {m : Mem} (h_this : kd this = 4) (h_v1 : kd v1 = 3) {r : Option AV} {m' : Mem} {x : (Int32 × Mem) ⊕ (Mem)} (h : Go_workBackTo_l9 this v1 v2 v3 m = some x) (hp : (Sum.elim (fun s : Int32 × Mem => V g Y_Go_workBackTo 9 [some (vr this), some (vr v1), some (vi v2), some (vi s.1)] [] s.2 (PM g Y_Go_workBackTo r m')) (fun x : Mem => r = none ∧ m' = x)) x) : V g Y_Go_workBackTo 9 [some (vr this), some (vr v1), some (vi v2), some (vi v3)] [] m (PM g Y_Go_workBackTo r m') := by
  unfold Go_workBackTo_l9 at h
  refine V_iload_n (i := 3) (pc := 9) dX3_workBackTo_9 rfl rfl ?_
  refine V_iload_n (i := 2) (pc := 10) dX3_workBackTo_10 rfl rfl ?_
  refine V_icmp_lt (pc := 11) (tgt := 30) dX3_workBackTo_11 rfl (fun q => ?_) (fun q => ?_)
  · have h := ite_t q h
    obtain ⟨y1, hu1, rfl⟩ := up_e h
    have h := hu1
    obtain rfl := Option.some.inj h
    exact E_v (pc := 30) dX3_workBackTo_30 rfl hp
  · have h := ite_f q h
    refine V_iload_n (i := 3) (pc := 14) dX3_workBackTo_14 rfl rfl ?_
    refine V_if_le (pc := 15) (tgt := 30) dX3_workBackTo_15 rfl (fun q => ?_) (fun q => ?_)
    · have h := ite_t q h
      obtain ⟨y2, hu2, rfl⟩ := up_e h
      have h := hu2
      obtain rfl := Option.some.inj h
      exact E_v (pc := 30) dX3_workBackTo_30 rfl hp
    · have h := ite_f q h
      refine V_aload_n (i := 0) (pc := 18) dX3_workBackTo_18 rfl rfl ?_
      refine V_aload_n (i := 1) (pc := 19) dX3_workBackTo_19 rfl rfl ?_
      refine V_iload_n (i := 3) (pc := 20) dX3_workBackTo_20 rfl rfl ?_
      obtain ⟨m21, e21, h⟩ := bnd h
      refine V_invV0 (c := 3) (pc := 21) dX3_workBackTo_21 (e_Go_workDay h_this h_v1 e21) iv_Go_41 (rm_Go_workBackTo_Go_workDay _ _ _) rfl h_this cf_3 rfl (Nat.le_of_ble_eq_true rfl) rfl ?_
      refine V_iinc (i := 3) (v := (v3 + (-1))) (ls' := [some (vr this), some (vr v1), some (vi v2), some (vi (v3 + (-1)))]) (pc := 24) dX3_workBackTo_24 rfl rfl (Nat.le_of_ble_eq_true rfl) rfl ?_
      refine V_goto (tgt := 9) (pc := 27) dX3_workBackTo_27 rfl ?_
      obtain rfl := Option.some.inj h
      exact hp
theorem k_Go_workBackTo {g : GE} {this : Nat} {v1 : Nat} {v2 : Int32} {m : Mem} (h_this : kd this = 4) (h_v1 : kd v1 = 3) {r : Option AV} {m' : Mem} {x : Mem} (h : Go_workBackTo this v1 v2 m = some x) (hp : (fun x : Mem => r = none ∧ m' = x) x) : V g Y_Go_workBackTo 0 [some (vr this), some (vr v1), some (vi v2), none] [] m (PM g Y_Go_workBackTo r m') := by
  unfold Go_workBackTo at h
  refine V_aload_n (i := 0) (pc := 0) dX3_workBackTo_0 rfl rfl ?_
  obtain ⟨m1, e1, h⟩ := bnd h
  refine V_invV0 (c := 3) (pc := 1) dX3_workBackTo_1 (e_Go_begin h_this e1) iv_Go_38 (rm_Go_workBackTo_Go_begin _ _ _) rfl h_this cf_3 rfl (Nat.le_of_ble_eq_true rfl) rfl ?_
  refine V_aload_n (i := 1) (pc := 4) dX3_workBackTo_4 rfl rfl ?_
  refine V_getI (pc := 5) dX3_workBackTo_5 fl_Go_19 h_v1 rfl ?_
  refine V_istore_n (i := 3) (ls' := [some (vr this), some (vr v1), some (vi v2), some (vi (rI m1 v1 3))]) (pc := 8) dX3_workBackTo_8 rfl (Nat.le_of_ble_eq_true rfl) rfl ?_
  exact loop_V (A := fun s : Int32 × Mem => V g Y_Go_workBackTo 9 [some (vr this), some (vr v1), some (vi v2), some (vi s.1)] [] s.2 (PM g Y_Go_workBackTo r m')) (fun s x h hp => k_Go_workBackTo_l9 h_this h_v1 h hp) ((rI m1 v1 3), m1) _ h hp
theorem e_Go_workBackTo {g : GE} {this : Nat} {v1 : Nat} {v2 : Int32} {m : Mem} (h_this : kd this = 4) (h_v1 : kd v1 = 3) {x : Mem} (h : Go_workBackTo this v1 v2 m = some x) : Ev g Y_Go_workBackTo [vr this, vr v1, vi v2] m (none) x :=
  Ev_of 1 (by decide +kernel) rfl (Nat.le_of_ble_eq_true rfl) rfl (k_Go_workBackTo h_this h_v1 h ⟨rfl, rfl⟩)
theorem k_PL_alive {g : GE} {this : Nat} {v1 : Int32} {v2 : Int32} {v3 : Int32} {m : Mem} (h_this : kd this = 11) {r : Option AV} {m' : Mem} {x : Int64 × Mem} (h : PL_alive this v1 v2 v3 m = some x) (hp : (fun x : Int64 × Mem => r = some (vl x.1) ∧ m' = x.2) x) : V g Y_PL_alive 0 [some (vr this), some (vi v1), some (vi v2), some (vi v3)] [] m (PM g Y_PL_alive r m') := by
  unfold PL_alive at h
  refine V_aload_n (i := 0) (pc := 0) dX10_alive_0 rfl rfl ?_
  refine V_getR (b := (this + 27)) (pc := 1) dX10_alive_1 fl_PL_19 h_this rfl rfl ?_
  refine V_getR (b := (this + 28)) (pc := 4) dX10_alive_4 fl_PL_102 (kf_10_1 h_this) rfl rfl ?_
  refine V_iload_n (i := 1) (pc := 7) dX10_alive_7 rfl rfl ?_
  refine V_iload_n (i := 2) (pc := 8) dX10_alive_8 rfl rfl ?_
  refine V_iload_n (i := 3) (pc := 9) dX10_alive_9 rfl rfl ?_
  obtain ⟨r10, e10, h⟩ := bnd h
  refine V_invS1 (pc := 10) dX10_alive_10 (e_Go_canBe (kf_0_0 (kf_10_1 h_this)) e10) is_PL_300 (rm_PL_alive_Go_canBe _ _ _) rfl (Nat.le_of_ble_eq_true rfl) rfl ?_
  refine V_if_ne (pc := 13) (tgt := 20) dX10_alive_13 rfl (fun q => ?_) (fun q => ?_)
  · have h := ite_f q h
    refine V_aload_n (i := 0) (pc := 20) dX10_alive_20 rfl rfl ?_
    refine V_getR (b := (this + 281)) (pc := 21) dX10_alive_21 fl_PL_62 h_this rfl rfl ?_
    refine V_aload_n (i := 0) (pc := 24) dX10_alive_24 rfl rfl ?_
    refine V_getR (b := (this + 27)) (pc := 25) dX10_alive_25 fl_PL_19 h_this rfl rfl ?_
    refine V_getR (b := (this + 28)) (pc := 28) dX10_alive_28 fl_PL_102 (kf_10_1 h_this) rfl rfl ?_
    refine V_iload_n (i := 1) (pc := 31) dX10_alive_31 rfl rfl ?_
    obtain ⟨m32, e32, h⟩ := bnd h
    refine V_invV0 (c := 3) (pc := 32) dX10_alive_32 (e_Go_workBackTo (kf_10_8 h_this) (kf_0_0 (kf_10_1 h_this)) e32) iv_PL_304 (rm_PL_alive_Go_workBackTo _ _ _) rfl (kf_10_8 h_this) cf_3 rfl (Nat.le_of_ble_eq_true rfl) rfl ?_
    refine V_aload_n (i := 0) (pc := 35) dX10_alive_35 rfl rfl ?_
    refine V_getR (b := (this + 281)) (pc := 36) dX10_alive_36 fl_PL_62 h_this rfl rfl ?_
    refine V_iload_n (i := 2) (pc := 39) dX10_alive_39 rfl rfl ?_
    refine V_iload_n (i := 3) (pc := 40) dX10_alive_40 rfl rfl ?_
    obtain ⟨r41, e41, h⟩ := bnd h
    refine V_invV1 (c := 3) (pc := 41) dX10_alive_41 (e_Go_worthOf (kf_10_8 h_this) e41) iv_PL_308 (rm_PL_alive_Go_worthOf _ _ _) rfl (kf_10_8 h_this) cf_3 rfl (Nat.le_of_ble_eq_true rfl) rfl ?_
    obtain rfl := Option.some.inj h
    exact E_l (pc := 44) dX10_alive_44 rfl hp
  · have h := ite_t q h
    refine V_ldc2 (v := (-2)) (pc := 16) dX10_alive_16 con_PL_209 ?_
    obtain rfl := Option.some.inj h
    exact E_l (pc := 19) dX10_alive_19 rfl hp
theorem e_PL_alive {g : GE} {this : Nat} {v1 : Int32} {v2 : Int32} {v3 : Int32} {m : Mem} (h_this : kd this = 11) {x : Int64 × Mem} (h : PL_alive this v1 v2 v3 m = some x) : Ev g Y_PL_alive [vr this, vi v1, vi v2, vi v3] m (some (vl x.1)) x.2 :=
  Ev_of 0 (by decide +kernel) rfl (Nat.le_of_ble_eq_true rfl) rfl (k_PL_alive h_this h ⟨rfl, rfl⟩)
theorem k_PL_go {g : GE} {this : Nat} {v1 : Int32} {v2 : Int32} {v3 : Int32} {m : Mem} (h_this : kd this = 11) {r : Option AV} {m' : Mem} {x : Int32 × Mem} (h : PL_go this v1 v2 v3 m = some x) (hp : (fun x : Int32 × Mem => r = some (vi x.1) ∧ m' = x.2) x) : V g Y_PL_go 0 [some (vr this), some (vi v1), some (vi v2), some (vi v3)] [] m (PM g Y_PL_go r m') := by
  unfold PL_go at h
  refine V_aload_n (i := 0) (pc := 0) dX10_go_0 rfl rfl ?_
  refine V_getR (b := (this + 27)) (pc := 1) dX10_go_1 fl_PL_19 h_this rfl rfl ?_
  refine V_getR (b := (this + 28)) (pc := 4) dX10_go_4 fl_PL_102 (kf_10_1 h_this) rfl rfl ?_
  refine V_iload_n (i := 1) (pc := 7) dX10_go_7 rfl rfl ?_
  refine V_iload_n (i := 2) (pc := 8) dX10_go_8 rfl rfl ?_
  refine V_iload_n (i := 3) (pc := 9) dX10_go_9 rfl rfl ?_
  obtain ⟨r10, e10, h⟩ := bnd h
  refine V_invS1 (pc := 10) dX10_go_10 (e_Go_canBe (kf_0_0 (kf_10_1 h_this)) e10) is_PL_300 (rm_PL_go_Go_canBe _ _ _) rfl (Nat.le_of_ble_eq_true rfl) rfl ?_
  refine V_if_ne (pc := 13) (tgt := 19) dX10_go_13 rfl (fun q => ?_) (fun q => ?_)
  · have h := ite_f q h
    refine V_aload_n (i := 0) (pc := 19) dX10_go_19 rfl rfl ?_
    refine V_getR (b := (this + 281)) (pc := 20) dX10_go_20 fl_PL_62 h_this rfl rfl ?_
    refine V_aload_n (i := 0) (pc := 23) dX10_go_23 rfl rfl ?_
    refine V_getR (b := (this + 27)) (pc := 24) dX10_go_24 fl_PL_19 h_this rfl rfl ?_
    refine V_getR (b := (this + 28)) (pc := 27) dX10_go_27 fl_PL_102 (kf_10_1 h_this) rfl rfl ?_
    refine V_iload_n (i := 1) (pc := 30) dX10_go_30 rfl rfl ?_
    refine V_iconst (v := 1) (pc := 31) dX10_go_31 rfl ?_
    refine V_iadd (pc := 32) dX10_go_32 ?_
    obtain ⟨m33, e33, h⟩ := bnd h
    refine V_invV0 (c := 3) (pc := 33) dX10_go_33 (e_Go_workBackTo (kf_10_8 h_this) (kf_0_0 (kf_10_1 h_this)) e33) iv_PL_304 (rm_PL_go_Go_workBackTo _ _ _) rfl (kf_10_8 h_this) cf_3 rfl (Nat.le_of_ble_eq_true rfl) rfl ?_
    refine V_aload_n (i := 0) (pc := 36) dX10_go_36 rfl rfl ?_
    refine V_getR (b := (this + 281)) (pc := 37) dX10_go_37 fl_PL_62 h_this rfl rfl ?_
    refine V_aload_n (i := 0) (pc := 40) dX10_go_40 rfl rfl ?_
    refine V_getR (b := (this + 27)) (pc := 41) dX10_go_41 fl_PL_19 h_this rfl rfl ?_
    refine V_getR (b := (this + 28)) (pc := 44) dX10_go_44 fl_PL_102 (kf_10_1 h_this) rfl rfl ?_
    refine V_iload_n (i := 2) (pc := 47) dX10_go_47 rfl rfl ?_
    refine V_iload_n (i := 3) (pc := 48) dX10_go_48 rfl rfl ?_
    obtain ⟨r49, e49, h⟩ := bnd h
    refine V_invV1 (c := 3) (pc := 49) dX10_go_49 (e_Go_bestFrom (kf_10_8 h_this) (kf_0_0 (kf_10_1 h_this)) e49) iv_PL_312 (rm_PL_go_Go_bestFrom _ _ _) rfl (kf_10_8 h_this) cf_3 rfl (Nat.le_of_ble_eq_true rfl) rfl ?_
    obtain rfl := Option.some.inj h
    exact E_i (pc := 52) dX10_go_52 rfl hp
  · have h := ite_t q h
    refine V_bipush (v := (-2)) (pc := 16) dX10_go_16 rfl ?_
    obtain rfl := Option.some.inj h
    exact E_i (pc := 18) dX10_go_18 rfl hp
theorem e_PL_go {g : GE} {this : Nat} {v1 : Int32} {v2 : Int32} {v3 : Int32} {m : Mem} (h_this : kd this = 11) {x : Int32 × Mem} (h : PL_go this v1 v2 v3 m = some x) : Ev g Y_PL_go [vr this, vi v1, vi v2, vi v3] m (some (vi x.1)) x.2 :=
  Ev_of 0 (by decide +kernel) rfl (Nat.le_of_ble_eq_true rfl) rfl (k_PL_go h_this h ⟨rfl, rfl⟩)
theorem k_Go_dueBy_b34 {g : GE} {v0 : Nat} {v1 : Int32} {v2 : Int32} {v3 : Int32}  {m : Mem} (h_v0 : kd v0 = 3) {r : Option AV} {m' : Mem} {x : (Int32 × Int32) ⊕ (Int32)} (h : Go_dueBy_b34 v0 v1 v2 v3 m = some x) (hp : (Sum.elim (fun s : Int32 × Int32 => V g Y_Go_dueBy 4 [some (vr v0), some (vi v1), some (vi s.1), some (vi s.2)] [] m (PM g Y_Go_dueBy r m')) (fun x : Int32 => r = some (vi x) ∧ m' = m)) x) : V g Y_Go_dueBy 34 [some (vr v0), some (vi v1), some (vi v2), some (vi v3)] [] m (PM g Y_Go_dueBy r m') := by
  unfold Go_dueBy_b34 at h
  refine V_iinc (i := 3) (v := (v3 + 1)) (ls' := [some (vr v0), some (vi v1), some (vi v2), some (vi (v3 + 1))]) (pc := 34) dX3_dueBy_34 rfl rfl (Nat.le_of_ble_eq_true rfl) rfl ?_
  refine V_goto (tgt := 4) (pc := 37) dX3_dueBy_37 rfl ?_
  obtain rfl := Option.some.inj h
  exact hp
theorem k_Go_dueBy_l4 {g : GE} {v0 : Nat} {v1 : Int32} {v2 : Int32} {v3 : Int32} {m : Mem} (h_v0 : kd v0 = 3) {r : Option AV} {m' : Mem} {x : (Int32 × Int32) ⊕ (Int32)} (h : Go_dueBy_l4 v0 v1 v2 v3 m = some x) (hp : (Sum.elim (fun s : Int32 × Int32 => V g Y_Go_dueBy 4 [some (vr v0), some (vi v1), some (vi s.1), some (vi s.2)] [] m (PM g Y_Go_dueBy r m')) (fun x : Int32 => r = some (vi x) ∧ m' = m)) x) : V g Y_Go_dueBy 4 [some (vr v0), some (vi v1), some (vi v2), some (vi v3)] [] m (PM g Y_Go_dueBy r m') := by
  unfold Go_dueBy_l4 at h
  refine V_iload_n (i := 3) (pc := 4) dX3_dueBy_4 rfl rfl ?_
  refine V_aload_n (i := 0) (pc := 5) dX3_dueBy_5 rfl rfl ?_
  refine V_getR (b := (v0 + 18)) (pc := 6) dX3_dueBy_6 fl_Go_25 h_v0 rfl rfl ?_
  refine V_getI (pc := 9) dX3_dueBy_9 fl_Go_29 (kf_2_17 h_v0) rfl ?_
  refine V_icmp_ge (pc := 12) (tgt := 40) dX3_dueBy_12 rfl (fun q => ?_) (fun q => ?_)
  · have h := ite_t q h
    obtain ⟨y1, hu1, rfl⟩ := up_e h
    have h := hu1
    refine V_iload_n (i := 2) (pc := 40) dX3_dueBy_40 rfl rfl ?_
    obtain rfl := Option.some.inj h
    exact E_i (pc := 41) dX3_dueBy_41 rfl hp
  · have h := ite_f q h
    refine V_aload_n (i := 0) (pc := 15) dX3_dueBy_15 rfl rfl ?_
    refine V_getR (b := (v0 + 18)) (pc := 16) dX3_dueBy_16 fl_Go_25 h_v0 rfl rfl ?_
    refine V_iload_n (i := 3) (pc := 19) dX3_dueBy_19 rfl rfl ?_
    refine V_iconst (v := 0) (pc := 20) dX3_dueBy_20 rfl ?_
    obtain ⟨r21, e21, h⟩ := bnd h
    refine V_invV1 (c := 8) (pc := 21) dX3_dueBy_21 (e_Ta_at (kf_2_17 h_v0) e21) iv_Go_65 (rm_Go_dueBy_Ta_at _ _ _) rfl (kf_2_17 h_v0) cf_8 rfl (Nat.le_of_ble_eq_true rfl) rfl ?_
    refine V_iload_n (i := 1) (pc := 24) dX3_dueBy_24 rfl rfl ?_
    refine V_icmp_gt (pc := 25) (tgt := 34) dX3_dueBy_25 rfl (fun q => ?_) (fun q => ?_)
    · have h := ite_t q h
      exact k_Go_dueBy_b34 h_v0 h hp
    · have h := ite_f q h
      refine V_iload_n (i := 2) (pc := 28) dX3_dueBy_28 rfl rfl ?_
      refine V_iconst (v := 1) (pc := 29) dX3_dueBy_29 rfl ?_
      refine V_iload_n (i := 3) (pc := 30) dX3_dueBy_30 rfl rfl ?_
      refine V_ishl (pc := 31) dX3_dueBy_31 ?_
      refine V_ior (pc := 32) dX3_dueBy_32 ?_
      refine V_istore_n (i := 2) (ls' := [some (vr v0), some (vi v1), some (vi (v2 ||| ((1 : Int32) <<< (v3 &&& 31)))), some (vi v3)]) (pc := 33) dX3_dueBy_33 rfl (Nat.le_of_ble_eq_true rfl) rfl ?_
      exact k_Go_dueBy_b34 h_v0 h hp
theorem k_Go_dueBy {g : GE} {v0 : Nat} {v1 : Int32} {m : Mem} (h_v0 : kd v0 = 3) {r : Option AV} {m' : Mem} {x : Int32} (h : Go_dueBy v0 v1 m = some x) (hp : (fun x : Int32 => r = some (vi x) ∧ m' = m) x) : V g Y_Go_dueBy 0 [some (vr v0), some (vi v1), none, none] [] m (PM g Y_Go_dueBy r m') := by
  unfold Go_dueBy at h
  refine V_iconst (v := 0) (pc := 0) dX3_dueBy_0 rfl ?_
  refine V_istore_n (i := 2) (ls' := [some (vr v0), some (vi v1), some (vi 0), none]) (pc := 1) dX3_dueBy_1 rfl (Nat.le_of_ble_eq_true rfl) rfl ?_
  refine V_iconst (v := 0) (pc := 2) dX3_dueBy_2 rfl ?_
  refine V_istore_n (i := 3) (ls' := [some (vr v0), some (vi v1), some (vi 0), some (vi 0)]) (pc := 3) dX3_dueBy_3 rfl (Nat.le_of_ble_eq_true rfl) rfl ?_
  exact loop_V (A := fun s : Int32 × Int32 => V g Y_Go_dueBy 4 [some (vr v0), some (vi v1), some (vi s.1), some (vi s.2)] [] m (PM g Y_Go_dueBy r m')) (fun s x h hp => k_Go_dueBy_l4 h_v0 h hp) (0, 0) _ h hp
theorem e_Go_dueBy {g : GE} {v0 : Nat} {v1 : Int32} {m : Mem} (h_v0 : kd v0 = 3) {x : Int32} (h : Go_dueBy v0 v1 m = some x) : Ev g Y_Go_dueBy [vr v0, vi v1] m (some (vi x)) m :=
  Ev_of 2 (by decide +kernel) rfl (Nat.le_of_ble_eq_true rfl) rfl (k_Go_dueBy h_v0 h ⟨rfl, rfl⟩)
theorem k_Go_firstDayToGo_b31 {g : GE} {this : Nat} {v1 : Nat} {v2 : Int32} {v3 : Int32}  {m : Mem} (h_this : kd this = 4) (h_v1 : kd v1 = 3) {r : Option AV} {m' : Mem} {x : (Int32 × Int32 × Mem) ⊕ (Int32 × Mem)} (h : Go_firstDayToGo_b31 this v1 v2 v3 m = some x) (hp : (Sum.elim (fun s : Int32 × Int32 × Mem => V g Y_Go_firstDayToGo 11 [some (vr this), some (vr v1), some (vi s.1), some (vi s.2.1)] [] s.2.2 (PM g Y_Go_firstDayToGo r m')) (fun x : Int32 × Mem => r = some (vi x.1) ∧ m' = x.2)) x) : V g Y_Go_firstDayToGo 31 [some (vr this), some (vr v1), some (vi v2), some (vi v3)] [] m (PM g Y_Go_firstDayToGo r m') := by
  unfold Go_firstDayToGo_b31 at h
  refine V_aload_n (i := 0) (pc := 31) dX3_firstDayToGo_31 rfl rfl ?_
  refine V_aload_n (i := 1) (pc := 32) dX3_firstDayToGo_32 rfl rfl ?_
  refine V_iload_n (i := 3) (pc := 33) dX3_firstDayToGo_33 rfl rfl ?_
  obtain ⟨m34, e34, h⟩ := bnd h
  refine V_invV0 (c := 3) (pc := 34) dX3_firstDayToGo_34 (e_Go_workDay h_this h_v1 e34) iv_Go_41 (rm_Go_firstDayToGo_Go_workDay _ _ _) rfl h_this cf_3 rfl (Nat.le_of_ble_eq_true rfl) rfl ?_
  refine V_iinc (i := 3) (v := (v3 + (-1))) (ls' := [some (vr this), some (vr v1), some (vi v2), some (vi (v3 + (-1)))]) (pc := 37) dX3_firstDayToGo_37 rfl rfl (Nat.le_of_ble_eq_true rfl) rfl ?_
  refine V_goto (tgt := 11) (pc := 40) dX3_firstDayToGo_40 rfl ?_
  obtain rfl := Option.some.inj h
  exact hp
theorem k_Go_firstDayToGo_l11 {g : GE} {this : Nat} {v1 : Nat}  {v2 : Int32} {v3 : Int32} {m : Mem} (h_this : kd this = 4) (h_v1 : kd v1 = 3) {r : Option AV} {m' : Mem} {x : (Int32 × Int32 × Mem) ⊕ (Int32 × Mem)} (h : Go_firstDayToGo_l11 this v1 v2 v3 m = some x) (hp : (Sum.elim (fun s : Int32 × Int32 × Mem => V g Y_Go_firstDayToGo 11 [some (vr this), some (vr v1), some (vi s.1), some (vi s.2.1)] [] s.2.2 (PM g Y_Go_firstDayToGo r m')) (fun x : Int32 × Mem => r = some (vi x.1) ∧ m' = x.2)) x) : V g Y_Go_firstDayToGo 11 [some (vr this), some (vr v1), some (vi v2), some (vi v3)] [] m (PM g Y_Go_firstDayToGo r m') := by
  unfold Go_firstDayToGo_l11 at h
  refine V_iload_n (i := 3) (pc := 11) dX3_firstDayToGo_11 rfl rfl ?_
  refine V_if_le (pc := 12) (tgt := 43) dX3_firstDayToGo_12 rfl (fun q => ?_) (fun q => ?_)
  · have h := ite_t q h
    obtain ⟨y1, hu1, rfl⟩ := up_e h
    have h := hu1
    refine V_iload_n (i := 2) (pc := 43) dX3_firstDayToGo_43 rfl rfl ?_
    obtain rfl := Option.some.inj h
    exact E_i (pc := 44) dX3_firstDayToGo_44 rfl hp
  · have h := ite_f q h
    refine V_aload_n (i := 0) (pc := 15) dX3_firstDayToGo_15 rfl rfl ?_
    refine V_aload_n (i := 1) (pc := 16) dX3_firstDayToGo_16 rfl rfl ?_
    refine V_iconst (v := 0) (pc := 17) dX3_firstDayToGo_17 rfl ?_
    refine V_aload_n (i := 1) (pc := 18) dX3_firstDayToGo_18 rfl rfl ?_
    refine V_iload_n (i := 3) (pc := 19) dX3_firstDayToGo_19 rfl rfl ?_
    obtain ⟨r20, e20, h⟩ := bnd h
    refine V_invS1 (pc := 20) dX3_firstDayToGo_20 (e_Go_dueBy h_v1 e20) is_Go_45 (rm_Go_firstDayToGo_Go_dueBy _ _ _) rfl (Nat.le_of_ble_eq_true rfl) rfl ?_
    obtain ⟨r23, e23, h⟩ := bnd h
    refine V_invV1 (c := 3) (pc := 23) dX3_firstDayToGo_23 (e_Go_bestFrom h_this h_v1 e23) iv_Go_49 (rm_Go_firstDayToGo_Go_bestFrom _ _ _) rfl h_this cf_3 rfl (Nat.le_of_ble_eq_true rfl) rfl ?_
    refine V_if_eq (pc := 26) (tgt := 31) dX3_firstDayToGo_26 rfl (fun q => ?_) (fun q => ?_)
    · have h := ite_t q h
      exact k_Go_firstDayToGo_b31 h_this h_v1 h hp
    · have h := ite_f q h
      refine V_iload_n (i := 3) (pc := 29) dX3_firstDayToGo_29 rfl rfl ?_
      refine V_istore_n (i := 2) (ls' := [some (vr this), some (vr v1), some (vi v3), some (vi v3)]) (pc := 30) dX3_firstDayToGo_30 rfl (Nat.le_of_ble_eq_true rfl) rfl ?_
      exact k_Go_firstDayToGo_b31 h_this h_v1 h hp
theorem k_Go_firstDayToGo {g : GE} {this : Nat} {v1 : Nat} {m : Mem} (h_this : kd this = 4) (h_v1 : kd v1 = 3) {r : Option AV} {m' : Mem} {x : Int32 × Mem} (h : Go_firstDayToGo this v1 m = some x) (hp : (fun x : Int32 × Mem => r = some (vi x.1) ∧ m' = x.2) x) : V g Y_Go_firstDayToGo 0 [some (vr this), some (vr v1), none, none] [] m (PM g Y_Go_firstDayToGo r m') := by
  unfold Go_firstDayToGo at h
  refine V_iconst (v := (-1)) (pc := 0) dX3_firstDayToGo_0 rfl ?_
  refine V_istore_n (i := 2) (ls' := [some (vr this), some (vr v1), some (vi (-1)), none]) (pc := 1) dX3_firstDayToGo_1 rfl (Nat.le_of_ble_eq_true rfl) rfl ?_
  refine V_aload_n (i := 0) (pc := 2) dX3_firstDayToGo_2 rfl rfl ?_
  obtain ⟨m3, e3, h⟩ := bnd h
  refine V_invV0 (c := 3) (pc := 3) dX3_firstDayToGo_3 (e_Go_begin h_this e3) iv_Go_38 (rm_Go_firstDayToGo_Go_begin _ _ _) rfl h_this cf_3 rfl (Nat.le_of_ble_eq_true rfl) rfl ?_
  refine V_aload_n (i := 1) (pc := 6) dX3_firstDayToGo_6 rfl rfl ?_
  refine V_getI (pc := 7) dX3_firstDayToGo_7 fl_Go_19 h_v1 rfl ?_
  refine V_istore_n (i := 3) (ls' := [some (vr this), some (vr v1), some (vi (-1)), some (vi (rI m3 v1 3))]) (pc := 10) dX3_firstDayToGo_10 rfl (Nat.le_of_ble_eq_true rfl) rfl ?_
  exact loop_V (A := fun s : Int32 × Int32 × Mem => V g Y_Go_firstDayToGo 11 [some (vr this), some (vr v1), some (vi s.1), some (vi s.2.1)] [] s.2.2 (PM g Y_Go_firstDayToGo r m')) (fun s x h hp => k_Go_firstDayToGo_l11 h_this h_v1 h hp) ((-1), (rI m3 v1 3), m3) _ h hp
theorem e_Go_firstDayToGo {g : GE} {this : Nat} {v1 : Nat} {m : Mem} (h_this : kd this = 4) (h_v1 : kd v1 = 3) {x : Int32 × Mem} (h : Go_firstDayToGo this v1 m = some x) : Ev g Y_Go_firstDayToGo [vr this, vr v1] m (some (vi x.1)) x.2 :=
  Ev_of 2 (by decide +kernel) rfl (Nat.le_of_ble_eq_true rfl) rfl (k_Go_firstDayToGo h_this h_v1 h ⟨rfl, rfl⟩)
theorem k_PL_leave {g : GE} {this : Nat} {m : Mem} (h_this : kd this = 11) {r : Option AV} {m' : Mem} {x : Int32 × Mem} (h : PL_leave this m = some x) (hp : (fun x : Int32 × Mem => r = some (vi x.1) ∧ m' = x.2) x) : V g Y_PL_leave 0 [some (vr this)] [] m (PM g Y_PL_leave r m') := by
  unfold PL_leave at h
  refine V_aload_n (i := 0) (pc := 0) dX10_leave_0 rfl rfl ?_
  refine V_getR (b := (this + 27)) (pc := 1) dX10_leave_1 fl_PL_19 h_this rfl rfl ?_
  refine V_getR (b := (this + 28)) (pc := 4) dX10_leave_4 fl_PL_102 (kf_10_1 h_this) rfl rfl ?_
  obtain ⟨r7, e7, h⟩ := bnd h
  refine V_invV1 (c := 2) (pc := 7) dX10_leave_7 (e_Fl_isThere (kf_0_0 (kf_10_1 h_this)) e7) iv_PL_222 (rm_PL_leave_Fl_isThere _ _ _) rfl (kf_0_0 (kf_10_1 h_this)) cf_2 rfl (Nat.le_of_ble_eq_true rfl) rfl ?_
  refine V_if_eq (pc := 10) (tgt := 30) dX10_leave_10 rfl (fun q => ?_) (fun q => ?_)
  · have h := ite_t q h
    refine V_bipush (v := (-2)) (pc := 30) dX10_leave_30 rfl ?_
    obtain rfl := Option.some.inj h
    exact E_i (pc := 32) dX10_leave_32 rfl hp
  · have h := ite_f q h
    refine V_aload_n (i := 0) (pc := 13) dX10_leave_13 rfl rfl ?_
    refine V_getR (b := (this + 281)) (pc := 14) dX10_leave_14 fl_PL_62 h_this rfl rfl ?_
    refine V_aload_n (i := 0) (pc := 17) dX10_leave_17 rfl rfl ?_
    refine V_getR (b := (this + 27)) (pc := 18) dX10_leave_18 fl_PL_19 h_this rfl rfl ?_
    refine V_getR (b := (this + 28)) (pc := 21) dX10_leave_21 fl_PL_102 (kf_10_1 h_this) rfl rfl ?_
    obtain ⟨r24, e24, h⟩ := bnd h
    refine V_invV1 (c := 3) (pc := 24) dX10_leave_24 (e_Go_firstDayToGo (kf_10_8 h_this) (kf_0_0 (kf_10_1 h_this)) e24) iv_PL_316 (rm_PL_leave_Go_firstDayToGo _ _ _) rfl (kf_10_8 h_this) cf_3 rfl (Nat.le_of_ble_eq_true rfl) rfl ?_
    refine V_goto (tgt := 32) (pc := 27) dX10_leave_27 rfl ?_
    obtain rfl := Option.some.inj h
    exact E_i (pc := 32) dX10_leave_32 rfl hp
theorem e_PL_leave {g : GE} {this : Nat} {m : Mem} (h_this : kd this = 11) {x : Int32 × Mem} (h : PL_leave this m = some x) : Ev g Y_PL_leave [vr this] m (some (vi x.1)) x.2 :=
  Ev_of 0 (by decide +kernel) rfl (Nat.le_of_ble_eq_true rfl) rfl (k_PL_leave h_this h ⟨rfl, rfl⟩)
theorem k_PL_isCrew {g : GE} {v0 : Int32} {v1 : Int32} {m : Mem} {r : Option AV} {m' : Mem} {x : Int32} (h : PL_isCrew v0 v1 m = some x) (hp : (fun x : Int32 => r = some (vi x) ∧ m' = m) x) : V g Y_PL_isCrew 0 [some (vi v0), some (vi v1)] [] m (PM g Y_PL_isCrew r m') := by
  unfold PL_isCrew at h
  refine V_iload_n (i := 0) (pc := 0) dX10_isCrew_0 rfl rfl ?_
  refine V_if_lt (pc := 1) (tgt := 24) dX10_isCrew_1 rfl (fun q => ?_) (fun q => ?_)
  · have h := ite_t q h
    refine V_iconst (v := 0) (pc := 24) dX10_isCrew_24 rfl ?_
    obtain rfl := Option.some.inj h
    exact E_z (pc := 25) dX10_isCrew_25 rfl rfl hp
  · have h := ite_f q h
    refine V_iload_n (i := 0) (pc := 4) dX10_isCrew_4 rfl rfl ?_
    refine V_bipush (v := 28) (pc := 5) dX10_isCrew_5 rfl ?_
    refine V_icmp_gt (pc := 7) (tgt := 24) dX10_isCrew_7 rfl (fun q => ?_) (fun q => ?_)
    · have h := ite_t q h
      refine V_iconst (v := 0) (pc := 24) dX10_isCrew_24 rfl ?_
      obtain rfl := Option.some.inj h
      exact E_z (pc := 25) dX10_isCrew_25 rfl rfl hp
    · have h := ite_f q h
      refine V_iload_n (i := 1) (pc := 10) dX10_isCrew_10 rfl rfl ?_
      refine V_if_lt (pc := 11) (tgt := 24) dX10_isCrew_11 rfl (fun q => ?_) (fun q => ?_)
      · have h := ite_t q h
        refine V_iconst (v := 0) (pc := 24) dX10_isCrew_24 rfl ?_
        obtain rfl := Option.some.inj h
        exact E_z (pc := 25) dX10_isCrew_25 rfl rfl hp
      · have h := ite_f q h
        refine V_iload_n (i := 1) (pc := 14) dX10_isCrew_14 rfl rfl ?_
        refine V_bipush (v := 60) (pc := 15) dX10_isCrew_15 rfl ?_
        refine V_icmp_gt (pc := 17) (tgt := 24) dX10_isCrew_17 rfl (fun q => ?_) (fun q => ?_)
        · have h := ite_t q h
          refine V_iconst (v := 0) (pc := 24) dX10_isCrew_24 rfl ?_
          obtain rfl := Option.some.inj h
          exact E_z (pc := 25) dX10_isCrew_25 rfl rfl hp
        · have h := ite_f q h
          refine V_iconst (v := 1) (pc := 20) dX10_isCrew_20 rfl ?_
          refine V_goto (tgt := 25) (pc := 21) dX10_isCrew_21 rfl ?_
          obtain rfl := Option.some.inj h
          exact E_z (pc := 25) dX10_isCrew_25 rfl rfl hp
theorem e_PL_isCrew {g : GE} {v0 : Int32} {v1 : Int32} {m : Mem} {x : Int32} (h : PL_isCrew v0 v1 m = some x) : Ev g Y_PL_isCrew [vi v0, vi v1] m (some (vi x)) m :=
  Ev_of 0 (by decide +kernel) rfl (Nat.le_of_ble_eq_true rfl) rfl (k_PL_isCrew  h ⟨rfl, rfl⟩)
theorem k_St_begin_b43 {g : GE} {this : Nat} {v2 : Int32} {k1 : Int32} {k2 : Int32}  {m : Mem} (h_this : kd this = 8) {r : Option AV} {m' : Mem} {x : (Int32 × Mem) ⊕ (Mem)} (h : St_begin_b43 this v2 k1 k2 m = some x) (hp : (Sum.elim (fun s : Int32 × Mem => V g Y_St_begin 21 [some (vr this), none, some (vi s.1)] [] s.2 (PM g Y_St_begin r m')) (fun x : Mem => r = none ∧ m' = x)) x) : V g Y_St_begin 43 [some (vr this), none, some (vi v2)] [vi k2, vi k1, vr (this + 1)] m (PM g Y_St_begin r m') := by
  unfold St_begin_b43 at h
  obtain ⟨hg43, h⟩ := gd_e h
  refine V_iast_lt (pc := 43) dX7_begin_43 (kf_7_0 h_this) (af_7_0 h_this) hg43 h (fun m43 h => ?_)
  refine V_aload_n (i := 0) (pc := 44) dX7_begin_44 rfl rfl ?_
  refine V_getR (b := (this + 2)) (pc := 45) dX7_begin_45 fl_St_15 h_this rfl rfl ?_
  refine V_iload_n (i := 2) (pc := 48) dX7_begin_48 rfl rfl ?_
  refine V_iconst (v := 0) (pc := 49) dX7_begin_49 rfl ?_
  obtain ⟨hg50, h⟩ := gd_e h
  refine V_iast_lt (pc := 50) dX7_begin_50 (kf_7_1 h_this) (af_7_1 h_this) hg50 h (fun m50 h => ?_)
  refine V_iinc (i := 2) (v := (v2 + 1)) (ls' := [some (vr this), none, some (vi (v2 + 1))]) (pc := 51) dX7_begin_51 rfl rfl (Nat.le_of_ble_eq_true rfl) rfl ?_
  refine V_goto (tgt := 21) (pc := 54) dX7_begin_54 rfl ?_
  obtain rfl := Option.some.inj h
  exact hp
theorem k_St_begin_l21 {g : GE} {this : Nat}  {v2 : Int32} {m : Mem} (h_this : kd this = 8) {r : Option AV} {m' : Mem} {x : (Int32 × Mem) ⊕ (Mem)} (h : St_begin_l21 this v2 m = some x) (hp : (Sum.elim (fun s : Int32 × Mem => V g Y_St_begin 21 [some (vr this), none, some (vi s.1)] [] s.2 (PM g Y_St_begin r m')) (fun x : Mem => r = none ∧ m' = x)) x) : V g Y_St_begin 21 [some (vr this), none, some (vi v2)] [] m (PM g Y_St_begin r m') := by
  unfold St_begin_l21 at h
  refine V_iload_n (i := 2) (pc := 21) dX7_begin_21 rfl rfl ?_
  refine V_aload_n (i := 0) (pc := 22) dX7_begin_22 rfl rfl ?_
  refine V_getI (pc := 23) dX7_begin_23 fl_St_18 h_this rfl ?_
  refine V_icmp_gt (pc := 26) (tgt := 57) dX7_begin_26 rfl (fun q => ?_) (fun q => ?_)
  · have h := ite_t q h
    obtain ⟨y1, hu1, rfl⟩ := up_e h
    have h := hu1
    obtain rfl := Option.some.inj h
    exact E_v (pc := 57) dX7_begin_57 rfl hp
  · have h := ite_f q h
    refine V_aload_n (i := 0) (pc := 29) dX7_begin_29 rfl rfl ?_
    refine V_getR (b := (this + 1)) (pc := 30) dX7_begin_30 fl_St_9 h_this rfl rfl ?_
    refine V_iload_n (i := 2) (pc := 33) dX7_begin_33 rfl rfl ?_
    refine V_iload_n (i := 2) (pc := 34) dX7_begin_34 rfl rfl ?_
    refine V_if_ne (pc := 35) (tgt := 42) dX7_begin_35 rfl (fun q => ?_) (fun q => ?_)
    · have h := ite_f q h
      refine V_iconst (v := (-1)) (pc := 42) dX7_begin_42 rfl ?_
      exact k_St_begin_b43 h_this h hp
    · have h := ite_t q h
      refine V_iconst (v := 0) (pc := 38) dX7_begin_38 rfl ?_
      refine V_goto (tgt := 43) (pc := 39) dX7_begin_39 rfl ?_
      exact k_St_begin_b43 h_this h hp
theorem k_St_begin {g : GE} {this : Nat} {v1 : Int32} {m : Mem} (h_this : kd this = 8) {r : Option AV} {m' : Mem} {x : Mem} (h : St_begin this v1 m = some x) (hp : (fun x : Mem => r = none ∧ m' = x) x) : V g Y_St_begin 0 [some (vr this), some (vi v1), none] [] m (PM g Y_St_begin r m') := by
  unfold St_begin at h
  refine V_aload_n (i := 0) (pc := 0) dX7_begin_0 rfl rfl ?_
  refine V_iconst (v := 0) (pc := 1) dX7_begin_1 rfl ?_
  refine V_iload_n (i := 1) (pc := 2) dX7_begin_2 rfl rfl ?_
  refine V_aload_n (i := 0) (pc := 3) dX7_begin_3 rfl rfl ?_
  refine V_getR (b := (this + 1)) (pc := 4) dX7_begin_4 fl_St_9 h_this rfl rfl ?_
  refine V_alen (k := 0) (pc := 7) dX7_begin_7 (kf_7_0 h_this) (Nat.le_of_ble_eq_true rfl) (af_7_0 h_this) ?_
  refine V_iconst (v := 1) (pc := 8) dX7_begin_8 rfl ?_
  refine V_isub (pc := 9) dX7_begin_9 ?_
  refine V_mmin (pc := 10) dX7_begin_10 ma_St_86 (rmM_St_begin _ _ _) (Nat.le_of_ble_eq_true rfl) ?_
  refine V_mmax (pc := 13) dX7_begin_13 ma_St_91 (rmM_St_begin _ _ _) (Nat.le_of_ble_eq_true rfl) ?_
  refine V_putI_lt (pc := 16) dX7_begin_16 fp_St_18 h_this rfl rfl rfl h (fun m16 h => ?_)
  refine V_iconst (v := 0) (pc := 19) dX7_begin_19 rfl ?_
  refine V_istore_n (i := 2) (ls' := [some (vr this), some (vi v1), some (vi 0)]) (pc := 20) dX7_begin_20 rfl (Nat.le_of_ble_eq_true rfl) rfl ?_
  refine V_sub (ls' := [some (vr this), none, some (vi 0)]) (And.intro rfl (And.intro rfl trivial)) ?_
  exact loop_V (A := fun s : Int32 × Mem => V g Y_St_begin 21 [some (vr this), none, some (vi s.1)] [] s.2 (PM g Y_St_begin r m')) (fun s x h hp => k_St_begin_l21 h_this h hp) (0, m16) _ h hp
theorem e_St_begin {g : GE} {this : Nat} {v1 : Int32} {m : Mem} (h_this : kd this = 8) {x : Mem} (h : St_begin this v1 m = some x) : Ev g Y_St_begin [vr this, vi v1] m (none) x :=
  Ev_of 1 (by decide +kernel) rfl (Nat.le_of_ble_eq_true rfl) rfl (k_St_begin h_this h ⟨rfl, rfl⟩)
theorem k_St_offer_b143 {g : GE} {this : Nat} {v1 : Int32} {v2 : Int32} {v3 : Int32} {v4 : Int32} {v5 : Int32} {k1 : Int32} {k2 : Int32}  {m : Mem} (h_this : kd this = 8) {r : Option AV} {m' : Mem} {x : (Int32 × Mem) ⊕ (Mem)} (h : St_offer_b143 this v1 v2 v3 v4 v5 k1 k2 m = some x) (hp : (Sum.elim (fun s : Int32 × Mem => V g Y_St_offer 6 [some (vr this), some (vi v1), some (vi v2), some (vi v3), some (vi v4), some (vi s.1), none, none, none, none, none] [] s.2 (PM g Y_St_offer r m')) (fun x : Mem => r = none ∧ m' = x)) x) : V g Y_St_offer 143 [some (vr this), some (vi v1), some (vi v2), some (vi v3), some (vi v4), some (vi v5), none, none, none, none, none] [vi k2, vi k1, vr (this + 2)] m (PM g Y_St_offer r m') := by
  unfold St_offer_b143 at h
  obtain ⟨hg143, h⟩ := gd_e h
  refine V_iast_lt (pc := 143) dX7_offer_143 (kf_7_1 h_this) (af_7_1 h_this) hg143 h (fun m143 h => ?_)
  refine V_iinc (i := 5) (v := (v5 + (-1))) (ls' := [some (vr this), some (vi v1), some (vi v2), some (vi v3), some (vi v4), some (vi (v5 + (-1))), none, none, none, none, none]) (pc := 144) dX7_offer_144 rfl rfl (Nat.le_of_ble_eq_true rfl) rfl ?_
  refine V_goto (tgt := 6) (pc := 147) dX7_offer_147 rfl ?_
  obtain rfl := Option.some.inj h
  exact hp
theorem k_St_offer_b105 {g : GE} {this : Nat} {v1 : Int32} {v2 : Int32} {v3 : Int32} {v4 : Int32} {v5 : Int32} {v6 : Int32} {v7 : Int32} {v8 : Int32} {v9 : Int32}  {m : Mem} (h_this : kd this = 8) {r : Option AV} {m' : Mem} {x : (Int32 × Int32 × Int32 × Int32) ⊕ ((Int32 × Mem) ⊕ (Mem))} (h : St_offer_b105 this v1 v2 v3 v4 v5 v6 v7 v8 v9 m = some x) (hp : (Sum.elim (fun s : Int32 × Int32 × Int32 × Int32 => V g Y_St_offer 30 [some (vr this), some (vi v1), some (vi v2), some (vi v3), some (vi v4), some (vi v5), some (vi s.1), some (vi s.2.1), some (vi s.2.2.1), some (vi s.2.2.2), none] [] m (PM g Y_St_offer r m')) (Sum.elim (fun s : Int32 × Mem => V g Y_St_offer 6 [some (vr this), some (vi v1), some (vi v2), some (vi v3), some (vi v4), some (vi s.1), none, none, none, none, none] [] s.2 (PM g Y_St_offer r m')) (fun x : Mem => r = none ∧ m' = x))) x) : V g Y_St_offer 105 [some (vr this), some (vi v1), some (vi v2), some (vi v3), some (vi v4), some (vi v5), some (vi v6), some (vi v7), some (vi v8), some (vi v9), none] [] m (PM g Y_St_offer r m') := by
  unfold St_offer_b105 at h
  refine V_iinc (i := 9) (v := (v9 + 1)) (ls' := [some (vr this), some (vi v1), some (vi v2), some (vi v3), some (vi v4), some (vi v5), some (vi v6), some (vi v7), some (vi v8), some (vi (v9 + 1)), none]) (pc := 105) dX7_offer_105 rfl rfl (Nat.le_of_ble_eq_true rfl) rfl ?_
  refine V_goto (tgt := 30) (pc := 108) dX7_offer_108 rfl ?_
  obtain rfl := Option.some.inj h
  exact hp
theorem k_St_offer_b83 {g : GE} {this : Nat} {v1 : Int32} {v2 : Int32} {v3 : Int32} {v4 : Int32} {v5 : Int32} {v9 : Int32} {v10 : Int32}  {m : Mem} (h_this : kd this = 8) {r : Option AV} {m' : Mem} {x : (Int32 × Int32 × Int32 × Int32) ⊕ ((Int32 × Mem) ⊕ (Mem))} (h : St_offer_b83 this v1 v2 v3 v4 v5 v9 v10 m = some x) (hp : (Sum.elim (fun s : Int32 × Int32 × Int32 × Int32 => V g Y_St_offer 30 [some (vr this), some (vi v1), some (vi v2), some (vi v3), some (vi v4), some (vi v5), some (vi s.1), some (vi s.2.1), some (vi s.2.2.1), some (vi s.2.2.2), none] [] m (PM g Y_St_offer r m')) (Sum.elim (fun s : Int32 × Mem => V g Y_St_offer 6 [some (vr this), some (vi v1), some (vi v2), some (vi v3), some (vi v4), some (vi s.1), none, none, none, none, none] [] s.2 (PM g Y_St_offer r m')) (fun x : Mem => r = none ∧ m' = x))) x) : V g Y_St_offer 83 [some (vr this), some (vi v1), some (vi v2), some (vi v3), some (vi v4), some (vi v5), none, none, none, some (vi v9), some (vi v10)] [] m (PM g Y_St_offer r m') := by
  unfold St_offer_b83 at h
  refine V_aload_n (i := 0) (pc := 83) dX7_offer_83 rfl rfl ?_
  refine V_getR (b := (this + 1)) (pc := 84) dX7_offer_84 fl_St_9 h_this rfl rfl ?_
  refine V_iload (i := 10) (pc := 87) dX7_offer_87 rfl ?_
  obtain ⟨hg89, h⟩ := gd_e h
  refine V_iald (pc := 89) dX7_offer_89 (kf_7_0 h_this) (af_7_0 h_this) hg89 ?_
  refine V_iload (i := 9) (pc := 90) dX7_offer_90 rfl ?_
  refine V_iload_n (i := 3) (pc := 92) dX7_offer_92 rfl rfl ?_
  refine V_imul (pc := 93) dX7_offer_93 ?_
  refine V_iadd (pc := 94) dX7_offer_94 ?_
  refine V_istore (i := 8) (ls' := [some (vr this), some (vi v1), some (vi v2), some (vi v3), some (vi v4), some (vi v5), none, none, some (vi ((rI m (this + 1) (ix v10)) + (v9 * v3))), some (vi v9), some (vi v10)]) (pc := 95) dX7_offer_95 (Nat.le_of_ble_eq_true rfl) rfl ?_
  refine V_iload (i := 9) (pc := 97) dX7_offer_97 rfl ?_
  refine V_istore (i := 6) (ls' := [some (vr this), some (vi v1), some (vi v2), some (vi v3), some (vi v4), some (vi v5), some (vi v9), none, some (vi ((rI m (this + 1) (ix v10)) + (v9 * v3))), some (vi v9), some (vi v10)]) (pc := 99) dX7_offer_99 (Nat.le_of_ble_eq_true rfl) rfl ?_
  refine V_iload (i := 10) (pc := 101) dX7_offer_101 rfl ?_
  refine V_istore (i := 7) (ls' := [some (vr this), some (vi v1), some (vi v2), some (vi v3), some (vi v4), some (vi v5), some (vi v9), some (vi v10), some (vi ((rI m (this + 1) (ix v10)) + (v9 * v3))), some (vi v9), some (vi v10)]) (pc := 103) dX7_offer_103 (Nat.le_of_ble_eq_true rfl) rfl ?_
  refine V_sub (ls' := [some (vr this), some (vi v1), some (vi v2), some (vi v3), some (vi v4), some (vi v5), some (vi v9), some (vi v10), some (vi ((rI m (this + 1) (ix v10)) + (v9 * v3))), some (vi v9), none]) (And.intro rfl (And.intro rfl (And.intro rfl (And.intro rfl (And.intro rfl (And.intro rfl (And.intro rfl (And.intro rfl (And.intro rfl (And.intro rfl trivial)))))))))) ?_
  exact k_St_offer_b105 h_this h hp
theorem k_St_offer_l30 {g : GE} {this : Nat} {v1 : Int32} {v2 : Int32} {v3 : Int32} {v4 : Int32} {v5 : Int32} {v6 : Int32} {v7 : Int32} {v8 : Int32} {v9 : Int32} {m : Mem} (h_this : kd this = 8) {r : Option AV} {m' : Mem} {x : (Int32 × Int32 × Int32 × Int32) ⊕ ((Int32 × Mem) ⊕ (Mem))} (h : St_offer_l30 this v1 v2 v3 v4 v5 v6 v7 v8 v9 m = some x) (hp : (Sum.elim (fun s : Int32 × Int32 × Int32 × Int32 => V g Y_St_offer 30 [some (vr this), some (vi v1), some (vi v2), some (vi v3), some (vi v4), some (vi v5), some (vi s.1), some (vi s.2.1), some (vi s.2.2.1), some (vi s.2.2.2), none] [] m (PM g Y_St_offer r m')) (Sum.elim (fun s : Int32 × Mem => V g Y_St_offer 6 [some (vr this), some (vi v1), some (vi v2), some (vi v3), some (vi v4), some (vi s.1), none, none, none, none, none] [] s.2 (PM g Y_St_offer r m')) (fun x : Mem => r = none ∧ m' = x))) x) : V g Y_St_offer 30 [some (vr this), some (vi v1), some (vi v2), some (vi v3), some (vi v4), some (vi v5), some (vi v6), some (vi v7), some (vi v8), some (vi v9), none] [] m (PM g Y_St_offer r m') := by
  unfold St_offer_l30 at h
  refine V_iload (i := 9) (pc := 30) dX7_offer_30 rfl ?_
  refine V_iload_n (i := 1) (pc := 32) dX7_offer_32 rfl rfl ?_
  refine V_icmp_gt (pc := 33) (tgt := 111) dX7_offer_33 rfl (fun q => ?_) (fun q => ?_)
  · have h := ite_t q h
    obtain ⟨y2, hu2, rfl⟩ := up_e h
    have h := hu2
    refine V_aload_n (i := 0) (pc := 111) dX7_offer_111 rfl rfl ?_
    refine V_getR (b := (this + 1)) (pc := 112) dX7_offer_112 fl_St_9 h_this rfl rfl ?_
    refine V_iload (i := 5) (pc := 115) dX7_offer_115 rfl ?_
    refine V_iload (i := 8) (pc := 117) dX7_offer_117 rfl ?_
    obtain ⟨hg119, h⟩ := gd_e h
    refine V_iast_lt (pc := 119) dX7_offer_119 (kf_7_0 h_this) (af_7_0 h_this) hg119 h (fun m119 h => ?_)
    refine V_aload_n (i := 0) (pc := 120) dX7_offer_120 rfl rfl ?_
    refine V_getR (b := (this + 2)) (pc := 121) dX7_offer_121 fl_St_15 h_this rfl rfl ?_
    refine V_iload (i := 5) (pc := 124) dX7_offer_124 rfl ?_
    refine V_iload (i := 4) (pc := 126) dX7_offer_126 rfl ?_
    refine V_if_eq (pc := 128) (tgt := 136) dX7_offer_128 rfl (fun q => ?_) (fun q => ?_)
    · have h := ite_t q h
      refine V_aload_n (i := 0) (pc := 136) dX7_offer_136 rfl rfl ?_
      refine V_getR (b := (this + 2)) (pc := 137) dX7_offer_137 fl_St_15 h_this rfl rfl ?_
      refine V_iload (i := 7) (pc := 140) dX7_offer_140 rfl ?_
      obtain ⟨hg142, h⟩ := gd_e h
      refine V_iald (pc := 142) dX7_offer_142 (kf_7_1 h_this) (af_7_1 h_this) hg142 ?_
      refine V_sub (ls' := [some (vr this), some (vi v1), some (vi v2), some (vi v3), some (vi v4), some (vi v5), none, none, none, none, none]) (And.intro rfl (And.intro rfl (And.intro rfl (And.intro rfl (And.intro rfl (And.intro rfl trivial)))))) ?_
      exact k_St_offer_b143 h_this h hp
    · have h := ite_f q h
      refine V_iload (i := 6) (pc := 131) dX7_offer_131 rfl ?_
      refine V_goto (tgt := 143) (pc := 133) dX7_offer_133 rfl ?_
      refine V_sub (ls' := [some (vr this), some (vi v1), some (vi v2), some (vi v3), some (vi v4), some (vi v5), none, none, none, none, none]) (And.intro rfl (And.intro rfl (And.intro rfl (And.intro rfl (And.intro rfl (And.intro rfl trivial)))))) ?_
      exact k_St_offer_b143 h_this h hp
  · have h := ite_f q h
    refine V_iconst (v := 0) (pc := 36) dX7_offer_36 rfl ?_
    refine V_iload (i := 5) (pc := 37) dX7_offer_37 rfl ?_
    refine V_iload (i := 9) (pc := 39) dX7_offer_39 rfl ?_
    refine V_iload_n (i := 2) (pc := 41) dX7_offer_41 rfl rfl ?_
    refine V_imul (pc := 42) dX7_offer_42 ?_
    refine V_isub (pc := 43) dX7_offer_43 ?_
    refine V_mmax (pc := 44) dX7_offer_44 ma_St_91 (rmM_St_offer _ _ _) (Nat.le_of_ble_eq_true rfl) ?_
    refine V_istore (i := 10) (ls' := [some (vr this), some (vi v1), some (vi v2), some (vi v3), some (vi v4), some (vi v5), some (vi v6), some (vi v7), some (vi v8), some (vi v9), some (vi (jmax 0 (v5 - (v9 * v2))))]) (pc := 47) dX7_offer_47 (Nat.le_of_ble_eq_true rfl) rfl ?_
    refine V_aload_n (i := 0) (pc := 49) dX7_offer_49 rfl rfl ?_
    refine V_getR (b := (this + 1)) (pc := 50) dX7_offer_50 fl_St_9 h_this rfl rfl ?_
    refine V_iload (i := 10) (pc := 53) dX7_offer_53 rfl ?_
    obtain ⟨hg55, h⟩ := gd_e h
    refine V_iald (pc := 55) dX7_offer_55 (kf_7_0 h_this) (af_7_0 h_this) hg55 ?_
    refine V_iconst (v := (-1)) (pc := 56) dX7_offer_56 rfl ?_
    refine V_icmp_eq (pc := 57) (tgt := 105) dX7_offer_57 rfl (fun q => ?_) (fun q => ?_)
    · have h := ite_t q h
      refine V_sub (ls' := [some (vr this), some (vi v1), some (vi v2), some (vi v3), some (vi v4), some (vi v5), some (vi v6), some (vi v7), some (vi v8), some (vi v9), none]) (And.intro rfl (And.intro rfl (And.intro rfl (And.intro rfl (And.intro rfl (And.intro rfl (And.intro rfl (And.intro rfl (And.intro rfl (And.intro rfl trivial)))))))))) ?_
      exact k_St_offer_b105 h_this h hp
    · have h := ite_f q h
      refine V_iload (i := 8) (pc := 60) dX7_offer_60 rfl ?_
      refine V_iconst (v := (-1)) (pc := 62) dX7_offer_62 rfl ?_
      refine V_icmp_eq (pc := 63) (tgt := 83) dX7_offer_63 rfl (fun q => ?_) (fun q => ?_)
      · have h := ite_t q h
        refine V_sub (ls' := [some (vr this), some (vi v1), some (vi v2), some (vi v3), some (vi v4), some (vi v5), none, none, none, some (vi v9), some (vi (jmax 0 (v5 - (v9 * v2))))]) (And.intro rfl (And.intro rfl (And.intro rfl (And.intro rfl (And.intro rfl (And.intro rfl (And.intro rfl (And.intro rfl trivial)))))))) ?_
        exact k_St_offer_b83 h_this h hp
      · have h := ite_f q h
        refine V_aload_n (i := 0) (pc := 66) dX7_offer_66 rfl rfl ?_
        refine V_getR (b := (this + 1)) (pc := 67) dX7_offer_67 fl_St_9 h_this rfl rfl ?_
        refine V_iload (i := 10) (pc := 70) dX7_offer_70 rfl ?_
        obtain ⟨hg72, h⟩ := gd_e h
        refine V_iald (pc := 72) dX7_offer_72 (kf_7_0 h_this) (af_7_0 h_this) hg72 ?_
        refine V_iload (i := 9) (pc := 73) dX7_offer_73 rfl ?_
        refine V_iload_n (i := 3) (pc := 75) dX7_offer_75 rfl rfl ?_
        refine V_imul (pc := 76) dX7_offer_76 ?_
        refine V_iadd (pc := 77) dX7_offer_77 ?_
        refine V_iload (i := 8) (pc := 78) dX7_offer_78 rfl ?_
        refine V_icmp_ge (pc := 80) (tgt := 105) dX7_offer_80 rfl (fun q => ?_) (fun q => ?_)
        · have h := ite_t q h
          refine V_sub (ls' := [some (vr this), some (vi v1), some (vi v2), some (vi v3), some (vi v4), some (vi v5), some (vi v6), some (vi v7), some (vi v8), some (vi v9), none]) (And.intro rfl (And.intro rfl (And.intro rfl (And.intro rfl (And.intro rfl (And.intro rfl (And.intro rfl (And.intro rfl (And.intro rfl (And.intro rfl trivial)))))))))) ?_
          exact k_St_offer_b105 h_this h hp
        · have h := ite_f q h
          refine V_sub (ls' := [some (vr this), some (vi v1), some (vi v2), some (vi v3), some (vi v4), some (vi v5), none, none, none, some (vi v9), some (vi (jmax 0 (v5 - (v9 * v2))))]) (And.intro rfl (And.intro rfl (And.intro rfl (And.intro rfl (And.intro rfl (And.intro rfl (And.intro rfl (And.intro rfl trivial)))))))) ?_
          exact k_St_offer_b83 h_this h hp
theorem k_St_offer_l6 {g : GE} {this : Nat} {v1 : Int32} {v2 : Int32} {v3 : Int32} {v4 : Int32} {v5 : Int32} {m : Mem} (h_this : kd this = 8) {r : Option AV} {m' : Mem} {x : (Int32 × Mem) ⊕ (Mem)} (h : St_offer_l6 this v1 v2 v3 v4 v5 m = some x) (hp : (Sum.elim (fun s : Int32 × Mem => V g Y_St_offer 6 [some (vr this), some (vi v1), some (vi v2), some (vi v3), some (vi v4), some (vi s.1), none, none, none, none, none] [] s.2 (PM g Y_St_offer r m')) (fun x : Mem => r = none ∧ m' = x)) x) : V g Y_St_offer 6 [some (vr this), some (vi v1), some (vi v2), some (vi v3), some (vi v4), some (vi v5), none, none, none, none, none] [] m (PM g Y_St_offer r m') := by
  unfold St_offer_l6 at h
  refine V_iload (i := 5) (pc := 6) dX7_offer_6 rfl ?_
  refine V_if_le (pc := 8) (tgt := 150) dX7_offer_8 rfl (fun q => ?_) (fun q => ?_)
  · have h := ite_t q h
    obtain ⟨y1, hu1, rfl⟩ := up_e h
    have h := hu1
    obtain rfl := Option.some.inj h
    exact E_v (pc := 150) dX7_offer_150 rfl hp
  · have h := ite_f q h
    refine V_iconst (v := 0) (pc := 11) dX7_offer_11 rfl ?_
    refine V_istore (i := 6) (ls' := [some (vr this), some (vi v1), some (vi v2), some (vi v3), some (vi v4), some (vi v5), some (vi 0), none, none, none, none]) (pc := 12) dX7_offer_12 (Nat.le_of_ble_eq_true rfl) rfl ?_
    refine V_iload (i := 5) (pc := 14) dX7_offer_14 rfl ?_
    refine V_istore (i := 7) (ls' := [some (vr this), some (vi v1), some (vi v2), some (vi v3), some (vi v4), some (vi v5), some (vi 0), some (vi v5), none, none, none]) (pc := 16) dX7_offer_16 (Nat.le_of_ble_eq_true rfl) rfl ?_
    refine V_aload_n (i := 0) (pc := 18) dX7_offer_18 rfl rfl ?_
    refine V_getR (b := (this + 1)) (pc := 19) dX7_offer_19 fl_St_9 h_this rfl rfl ?_
    refine V_iload (i := 5) (pc := 22) dX7_offer_22 rfl ?_
    obtain ⟨hg24, h⟩ := gd_e h
    refine V_iald (pc := 24) dX7_offer_24 (kf_7_0 h_this) (af_7_0 h_this) hg24 ?_
    refine V_istore (i := 8) (ls' := [some (vr this), some (vi v1), some (vi v2), some (vi v3), some (vi v4), some (vi v5), some (vi 0), some (vi v5), some (vi (rI m (this + 1) (ix v5))), none, none]) (pc := 25) dX7_offer_25 (Nat.le_of_ble_eq_true rfl) rfl ?_
    refine V_iconst (v := 1) (pc := 27) dX7_offer_27 rfl ?_
    refine V_istore (i := 9) (ls' := [some (vr this), some (vi v1), some (vi v2), some (vi v3), some (vi v4), some (vi v5), some (vi 0), some (vi v5), some (vi (rI m (this + 1) (ix v5))), some (vi 1), none]) (pc := 28) dX7_offer_28 (Nat.le_of_ble_eq_true rfl) rfl ?_
    exact loop_V (A := fun s : Int32 × Int32 × Int32 × Int32 => V g Y_St_offer 30 [some (vr this), some (vi v1), some (vi v2), some (vi v3), some (vi v4), some (vi v5), some (vi s.1), some (vi s.2.1), some (vi s.2.2.1), some (vi s.2.2.2), none] [] m (PM g Y_St_offer r m')) (fun s x h hp => k_St_offer_l30 h_this h hp) (0, v5, (rI m (this + 1) (ix v5)), 1) _ h hp
theorem k_St_offer {g : GE} {this : Nat} {v1 : Int32} {v2 : Int32} {v3 : Int32} {v4 : Int32} {m : Mem} (h_this : kd this = 8) {r : Option AV} {m' : Mem} {x : Mem} (h : St_offer this v1 v2 v3 v4 m = some x) (hp : (fun x : Mem => r = none ∧ m' = x) x) : V g Y_St_offer 0 [some (vr this), some (vi v1), some (vi v2), some (vi v3), some (vi v4), none, none, none, none, none, none] [] m (PM g Y_St_offer r m') := by
  unfold St_offer at h
  refine V_aload_n (i := 0) (pc := 0) dX7_offer_0 rfl rfl ?_
  refine V_getI (pc := 1) dX7_offer_1 fl_St_18 h_this rfl ?_
  refine V_istore (i := 5) (ls' := [some (vr this), some (vi v1), some (vi v2), some (vi v3), some (vi v4), some (vi (rI m this 2)), none, none, none, none, none]) (pc := 4) dX7_offer_4 (Nat.le_of_ble_eq_true rfl) rfl ?_
  exact loop_V (A := fun s : Int32 × Mem => V g Y_St_offer 6 [some (vr this), some (vi v1), some (vi v2), some (vi v3), some (vi v4), some (vi s.1), none, none, none, none, none] [] s.2 (PM g Y_St_offer r m')) (fun s x h hp => k_St_offer_l6 h_this h hp) ((rI m this 2), m) _ h hp
theorem e_St_offer {g : GE} {this : Nat} {v1 : Int32} {v2 : Int32} {v3 : Int32} {v4 : Int32} {m : Mem} (h_this : kd this = 8) {x : Mem} (h : St_offer this v1 v2 v3 v4 m = some x) : Ev g Y_St_offer [vr this, vi v1, vi v2, vi v3, vi v4] m (none) x :=
  Ev_of 6 (by decide +kernel) rfl (Nat.le_of_ble_eq_true rfl) rfl (k_St_offer h_this h ⟨rfl, rfl⟩)
theorem k_St_costOf {g : GE} {this : Nat} {v1 : Int32} {m : Mem} (h_this : kd this = 8) {r : Option AV} {m' : Mem} {x : Int32} (h : St_costOf this v1 m = some x) (hp : (fun x : Int32 => r = some (vi x) ∧ m' = m) x) : V g Y_St_costOf 0 [some (vr this), some (vi v1)] [] m (PM g Y_St_costOf r m') := by
  unfold St_costOf at h
  refine V_iload_n (i := 1) (pc := 0) dX7_costOf_0 rfl rfl ?_
  refine V_if_lt (pc := 1) (tgt := 30) dX7_costOf_1 rfl (fun q => ?_) (fun q => ?_)
  · have h := ite_t q h
    refine V_iconst (v := (-1)) (pc := 30) dX7_costOf_30 rfl ?_
    obtain rfl := Option.some.inj h
    exact E_i (pc := 31) dX7_costOf_31 rfl hp
  · have h := ite_f q h
    refine V_iload_n (i := 1) (pc := 4) dX7_costOf_4 rfl rfl ?_
    refine V_aload_n (i := 0) (pc := 5) dX7_costOf_5 rfl rfl ?_
    refine V_getI (pc := 6) dX7_costOf_6 fl_St_18 h_this rfl ?_
    refine V_icmp_gt (pc := 9) (tgt := 30) dX7_costOf_9 rfl (fun q => ?_) (fun q => ?_)
    · have h := ite_t q h
      refine V_iconst (v := (-1)) (pc := 30) dX7_costOf_30 rfl ?_
      obtain rfl := Option.some.inj h
      exact E_i (pc := 31) dX7_costOf_31 rfl hp
    · have h := ite_f q h
      refine V_iload_n (i := 1) (pc := 12) dX7_costOf_12 rfl rfl ?_
      refine V_aload_n (i := 0) (pc := 13) dX7_costOf_13 rfl rfl ?_
      refine V_getR (b := (this + 1)) (pc := 14) dX7_costOf_14 fl_St_9 h_this rfl rfl ?_
      refine V_alen (k := 0) (pc := 17) dX7_costOf_17 (kf_7_0 h_this) (Nat.le_of_ble_eq_true rfl) (af_7_0 h_this) ?_
      refine V_icmp_ge (pc := 18) (tgt := 30) dX7_costOf_18 rfl (fun q => ?_) (fun q => ?_)
      · have h := ite_t q h
        refine V_iconst (v := (-1)) (pc := 30) dX7_costOf_30 rfl ?_
        obtain rfl := Option.some.inj h
        exact E_i (pc := 31) dX7_costOf_31 rfl hp
      · have h := ite_f q h
        refine V_aload_n (i := 0) (pc := 21) dX7_costOf_21 rfl rfl ?_
        refine V_getR (b := (this + 1)) (pc := 22) dX7_costOf_22 fl_St_9 h_this rfl rfl ?_
        refine V_iload_n (i := 1) (pc := 25) dX7_costOf_25 rfl rfl ?_
        obtain ⟨hg26, h⟩ := gd_e h
        refine V_iald (pc := 26) dX7_costOf_26 (kf_7_0 h_this) (af_7_0 h_this) hg26 ?_
        refine V_goto (tgt := 31) (pc := 27) dX7_costOf_27 rfl ?_
        obtain rfl := Option.some.inj h
        exact E_i (pc := 31) dX7_costOf_31 rfl hp
theorem e_St_costOf {g : GE} {this : Nat} {v1 : Int32} {m : Mem} (h_this : kd this = 8) {x : Int32} (h : St_costOf this v1 m = some x) : Ev g Y_St_costOf [vr this, vi v1] m (some (vi x)) m :=
  Ev_of 0 (by decide +kernel) rfl (Nat.le_of_ble_eq_true rfl) rfl (k_St_costOf h_this h ⟨rfl, rfl⟩)
theorem k_St_loadOf_b91 {g : GE} {this : Nat} {v1 : Nat} {v2 : Int32} {v4 : Int32} {v5 : Int32}  {m : Mem} (h_this : kd this = 8) (h_v1 : kd v1 = 3) {r : Option AV} {m' : Mem} {x : (Int32 × Mem) ⊕ (Int32 × Mem)} (h : St_loadOf_b91 this v1 v2 v4 v5 m = some x) (hp : (Sum.elim (fun s : Int32 × Mem => V g Y_St_loadOf 26 [some (vr this), some (vr v1), some (vi v2), none, some (vi v4), some (vi s.1)] [] s.2 (PM g Y_St_loadOf r m')) (fun x : Int32 × Mem => r = some (vi x.1) ∧ m' = x.2)) x) : V g Y_St_loadOf 91 [some (vr this), some (vr v1), some (vi v2), none, some (vi v4), some (vi v5)] [] m (PM g Y_St_loadOf r m') := by
  unfold St_loadOf_b91 at h
  refine V_iinc (i := 5) (v := (v5 + (-1))) (ls' := [some (vr this), some (vr v1), some (vi v2), none, some (vi v4), some (vi (v5 + (-1)))]) (pc := 91) dX7_loadOf_91 rfl rfl (Nat.le_of_ble_eq_true rfl) rfl ?_
  refine V_goto (tgt := 26) (pc := 94) dX7_loadOf_94 rfl ?_
  obtain rfl := Option.some.inj h
  exact hp
theorem k_St_loadOf_b88 {g : GE} {this : Nat} {v1 : Nat} {v2 : Int32} {v4 : Int32} {v5 : Int32} {k1 : Int32} {k2 : Int32} {k3 : Int32} {k4 : Int32}  {m : Mem} (h_this : kd this = 8) (h_v1 : kd v1 = 3) {r : Option AV} {m' : Mem} {x : (Int32 × Mem) ⊕ (Int32 × Mem)} (h : St_loadOf_b88 this v1 v2 v4 v5 k1 k2 k3 k4 m = some x) (hp : (Sum.elim (fun s : Int32 × Mem => V g Y_St_loadOf 26 [some (vr this), some (vr v1), some (vi v2), none, some (vi v4), some (vi s.1)] [] s.2 (PM g Y_St_loadOf r m')) (fun x : Int32 × Mem => r = some (vi x.1) ∧ m' = x.2)) x) : V g Y_St_loadOf 88 [some (vr this), some (vr v1), some (vi v2), none, some (vi v4), some (vi v5)] [vi k4, vi k3, vi k2, vi k1, vr this] m (PM g Y_St_loadOf r m') := by
  unfold St_loadOf_b88 at h
  obtain ⟨m88, e88, h⟩ := bnd h
  refine V_invV0 (c := 7) (pc := 88) dX7_loadOf_88 (e_St_offer h_this e88) iv_St_45 (rm_St_loadOf_St_offer _ _ _) rfl h_this cf_7 rfl (Nat.le_of_ble_eq_true rfl) rfl ?_
  exact k_St_loadOf_b91 h_this h_v1 h hp
theorem k_St_loadOf_l26 {g : GE} {this : Nat} {v1 : Nat} {v2 : Int32} {v4 : Int32} {v5 : Int32} {m : Mem} (h_this : kd this = 8) (h_v1 : kd v1 = 3) {r : Option AV} {m' : Mem} {x : (Int32 × Mem) ⊕ (Int32 × Mem)} (h : St_loadOf_l26 this v1 v2 v4 v5 m = some x) (hp : (Sum.elim (fun s : Int32 × Mem => V g Y_St_loadOf 26 [some (vr this), some (vr v1), some (vi v2), none, some (vi v4), some (vi s.1)] [] s.2 (PM g Y_St_loadOf r m')) (fun x : Int32 × Mem => r = some (vi x.1) ∧ m' = x.2)) x) : V g Y_St_loadOf 26 [some (vr this), some (vr v1), some (vi v2), none, some (vi v4), some (vi v5)] [] m (PM g Y_St_loadOf r m') := by
  unfold St_loadOf_l26 at h
  refine V_iload (i := 5) (pc := 26) dX7_loadOf_26 rfl ?_
  refine V_if_lt (pc := 28) (tgt := 97) dX7_loadOf_28 rfl (fun q => ?_) (fun q => ?_)
  · have h := ite_t q h
    obtain ⟨y1, hu1, rfl⟩ := up_e h
    have h := hu1
    refine V_aload_n (i := 0) (pc := 97) dX7_loadOf_97 rfl rfl ?_
    refine V_aload_n (i := 0) (pc := 98) dX7_loadOf_98 rfl rfl ?_
    refine V_getI (pc := 99) dX7_loadOf_99 fl_St_18 h_this rfl ?_
    obtain ⟨r102, e102, h⟩ := bnd h
    refine V_invV1 (c := 7) (pc := 102) dX7_loadOf_102 (e_St_costOf h_this e102) iv_St_49 (rm_St_loadOf_St_costOf _ _ _) rfl h_this cf_7 rfl (Nat.le_of_ble_eq_true rfl) rfl ?_
    obtain rfl := Option.some.inj h
    exact E_i (pc := 105) dX7_loadOf_105 rfl hp
  · have h := ite_f q h
    refine V_aload_n (i := 1) (pc := 31) dX7_loadOf_31 rfl rfl ?_
    refine V_getR (b := (v1 + 10)) (pc := 32) dX7_loadOf_32 fl_St_32 h_v1 rfl rfl ?_
    refine V_iload (i := 5) (pc := 35) dX7_loadOf_35 rfl ?_
    refine V_iconst (v := 0) (pc := 37) dX7_loadOf_37 rfl ?_
    obtain ⟨r38, e38, h⟩ := bnd h
    refine V_invV1 (c := 8) (pc := 38) dX7_loadOf_38 (e_Ta_at (kf_2_16 h_v1) e38) iv_St_41 (rm_St_loadOf_Ta_at _ _ _) rfl (kf_2_16 h_v1) cf_8 rfl (Nat.le_of_ble_eq_true rfl) rfl ?_
    refine V_iload_n (i := 2) (pc := 41) dX7_loadOf_41 rfl rfl ?_
    refine V_icmp_ne (pc := 42) (tgt := 91) dX7_loadOf_42 rfl (fun q => ?_) (fun q => ?_)
    · have h := ite_f q h
      exact k_St_loadOf_b91 h_this h_v1 h hp
    · have h := ite_t q h
      refine V_aload_n (i := 0) (pc := 45) dX7_loadOf_45 rfl rfl ?_
      refine V_aload_n (i := 1) (pc := 46) dX7_loadOf_46 rfl rfl ?_
      refine V_getR (b := (v1 + 10)) (pc := 47) dX7_loadOf_47 fl_St_32 h_v1 rfl rfl ?_
      refine V_iload (i := 5) (pc := 50) dX7_loadOf_50 rfl ?_
      refine V_iconst (v := 3) (pc := 52) dX7_loadOf_52 rfl ?_
      obtain ⟨r53, e53, h⟩ := bnd h
      refine V_invV1 (c := 8) (pc := 53) dX7_loadOf_53 (e_Ta_at (kf_2_16 h_v1) e53) iv_St_41 (rm_St_loadOf_Ta_at _ _ _) rfl (kf_2_16 h_v1) cf_8 rfl (Nat.le_of_ble_eq_true rfl) rfl ?_
      refine V_aload_n (i := 1) (pc := 56) dX7_loadOf_56 rfl rfl ?_
      refine V_getR (b := (v1 + 10)) (pc := 57) dX7_loadOf_57 fl_St_32 h_v1 rfl rfl ?_
      refine V_iload (i := 5) (pc := 60) dX7_loadOf_60 rfl ?_
      refine V_iconst (v := 1) (pc := 62) dX7_loadOf_62 rfl ?_
      obtain ⟨r63, e63, h⟩ := bnd h
      refine V_invV1 (c := 8) (pc := 63) dX7_loadOf_63 (e_Ta_at (kf_2_16 h_v1) e63) iv_St_41 (rm_St_loadOf_Ta_at _ _ _) rfl (kf_2_16 h_v1) cf_8 rfl (Nat.le_of_ble_eq_true rfl) rfl ?_
      refine V_aload_n (i := 1) (pc := 66) dX7_loadOf_66 rfl rfl ?_
      refine V_getR (b := (v1 + 10)) (pc := 67) dX7_loadOf_67 fl_St_32 h_v1 rfl rfl ?_
      refine V_iload (i := 5) (pc := 70) dX7_loadOf_70 rfl ?_
      refine V_iconst (v := 2) (pc := 72) dX7_loadOf_72 rfl ?_
      obtain ⟨r73, e73, h⟩ := bnd h
      refine V_invV1 (c := 8) (pc := 73) dX7_loadOf_73 (e_Ta_at (kf_2_16 h_v1) e73) iv_St_41 (rm_St_loadOf_Ta_at _ _ _) rfl (kf_2_16 h_v1) cf_8 rfl (Nat.le_of_ble_eq_true rfl) rfl ?_
      refine V_iload (i := 5) (pc := 76) dX7_loadOf_76 rfl ?_
      refine V_iload (i := 4) (pc := 78) dX7_loadOf_78 rfl ?_
      refine V_icmp_ne (pc := 80) (tgt := 87) dX7_loadOf_80 rfl (fun q => ?_) (fun q => ?_)
      · have h := ite_f q h
        refine V_iconst (v := 0) (pc := 87) dX7_loadOf_87 rfl ?_
        exact k_St_loadOf_b88 h_this h_v1 h hp
      · have h := ite_t q h
        refine V_iconst (v := 1) (pc := 83) dX7_loadOf_83 rfl ?_
        refine V_goto (tgt := 88) (pc := 84) dX7_loadOf_84 rfl ?_
        exact k_St_loadOf_b88 h_this h_v1 h hp
theorem k_St_loadOf {g : GE} {this : Nat} {v1 : Nat} {v2 : Int32} {v3 : Int32} {v4 : Int32} {m : Mem} (h_this : kd this = 8) (h_v1 : kd v1 = 3) {r : Option AV} {m' : Mem} {x : Int32 × Mem} (h : St_loadOf this v1 v2 v3 v4 m = some x) (hp : (fun x : Int32 × Mem => r = some (vi x.1) ∧ m' = x.2) x) : V g Y_St_loadOf 0 [some (vr this), some (vr v1), some (vi v2), some (vi v3), some (vi v4), none] [] m (PM g Y_St_loadOf r m') := by
  unfold St_loadOf at h
  refine V_aload_n (i := 1) (pc := 0) dX7_loadOf_0 rfl rfl ?_
  refine V_iload_n (i := 2) (pc := 1) dX7_loadOf_1 rfl rfl ?_
  obtain ⟨r2, e2, h⟩ := bnd h
  refine V_invV1 (c := 2) (pc := 2) dX7_loadOf_2 (e_Fl_tells h_v1 e2) iv_St_22 (rm_St_loadOf_Fl_tells _ _ _) rfl h_v1 cf_2 rfl (Nat.le_of_ble_eq_true rfl) rfl ?_
  refine V_if_ne (pc := 5) (tgt := 10) dX7_loadOf_5 rfl (fun q => ?_) (fun q => ?_)
  · have h := ite_f q h
    refine V_aload_n (i := 0) (pc := 10) dX7_loadOf_10 rfl rfl ?_
    refine V_iload_n (i := 3) (pc := 11) dX7_loadOf_11 rfl rfl ?_
    obtain ⟨m12, e12, h⟩ := bnd h
    refine V_invV0 (c := 7) (pc := 12) dX7_loadOf_12 (e_St_begin h_this e12) iv_St_28 (rm_St_loadOf_St_begin _ _ _) rfl h_this cf_7 rfl (Nat.le_of_ble_eq_true rfl) rfl ?_
    refine V_aload_n (i := 1) (pc := 15) dX7_loadOf_15 rfl rfl ?_
    refine V_getR (b := (v1 + 10)) (pc := 16) dX7_loadOf_16 fl_St_32 h_v1 rfl rfl ?_
    refine V_getI (pc := 19) dX7_loadOf_19 fl_St_36 (kf_2_16 h_v1) rfl ?_
    refine V_iconst (v := 1) (pc := 22) dX7_loadOf_22 rfl ?_
    refine V_isub (pc := 23) dX7_loadOf_23 ?_
    refine V_istore (i := 5) (ls' := [some (vr this), some (vr v1), some (vi v2), some (vi v3), some (vi v4), some (vi ((rI m12 (v1 + 10) 1) - 1))]) (pc := 24) dX7_loadOf_24 (Nat.le_of_ble_eq_true rfl) rfl ?_
    refine V_sub (ls' := [some (vr this), some (vr v1), some (vi v2), none, some (vi v4), some (vi ((rI m12 (v1 + 10) 1) - 1))]) (And.intro rfl (And.intro rfl (And.intro rfl (And.intro rfl (And.intro rfl trivial))))) ?_
    exact loop_V (A := fun s : Int32 × Mem => V g Y_St_loadOf 26 [some (vr this), some (vr v1), some (vi v2), none, some (vi v4), some (vi s.1)] [] s.2 (PM g Y_St_loadOf r m')) (fun s x h hp => k_St_loadOf_l26 h_this h_v1 h hp) (((rI m12 (v1 + 10) 1) - 1), m12) _ h hp
  · have h := ite_t q h
    refine V_iconst (v := 0) (pc := 8) dX7_loadOf_8 rfl ?_
    obtain rfl := Option.some.inj h
    exact E_i (pc := 9) dX7_loadOf_9 rfl hp
theorem e_St_loadOf {g : GE} {this : Nat} {v1 : Nat} {v2 : Int32} {v3 : Int32} {v4 : Int32} {m : Mem} (h_this : kd this = 8) (h_v1 : kd v1 = 3) {x : Int32 × Mem} (h : St_loadOf this v1 v2 v3 v4 m = some x) : Ev g Y_St_loadOf [vr this, vr v1, vi v2, vi v3, vi v4] m (some (vi x.1)) x.2 :=
  Ev_of 1 (by decide +kernel) rfl (Nat.le_of_ble_eq_true rfl) rfl (k_St_loadOf h_this h_v1 h ⟨rfl, rfl⟩)
theorem k_St_loadOfKinds_l6 {g : GE} {this : Nat} {v1 : Nat} {v3 : Int32} {v4 : Int32} {v5 : Int32} {v6 : Int32} {m : Mem} (h_this : kd this = 8) (h_v1 : kd v1 = 3) {r : Option AV} {m' : Mem} {x : (Int32 × Int32 × Mem) ⊕ (Int32 × Mem)} (h : St_loadOfKinds_l6 this v1 v3 v4 v5 v6 m = some x) (hp : (Sum.elim (fun s : Int32 × Int32 × Mem => V g Y_St_loadOfKinds 6 [some (vr this), some (vr v1), none, some (vi v3), some (vi v4), some (vi s.1), some (vi s.2.1), none] [] s.2.2 (PM g Y_St_loadOfKinds r m')) (fun x : Int32 × Mem => r = some (vi x.1) ∧ m' = x.2)) x) : V g Y_St_loadOfKinds 6 [some (vr this), some (vr v1), none, some (vi v3), some (vi v4), some (vi v5), some (vi v6), none] [] m (PM g Y_St_loadOfKinds r m') := by
  unfold St_loadOfKinds_l6 at h
  refine V_iload (i := 6) (pc := 6) dX7_loadOfKinds_6 rfl ?_
  refine V_iconst (v := 4) (pc := 8) dX7_loadOfKinds_8 rfl ?_
  refine V_icmp_ge (pc := 9) (tgt := 51) dX7_loadOfKinds_9 rfl (fun q => ?_) (fun q => ?_)
  · have h := ite_t q h
    obtain ⟨y1, hu1, rfl⟩ := up_e h
    have h := hu1
    refine V_iload (i := 5) (pc := 51) dX7_loadOfKinds_51 rfl ?_
    obtain rfl := Option.some.inj h
    exact E_i (pc := 53) dX7_loadOfKinds_53 rfl hp
  · have h := ite_f q h
    refine V_aload_n (i := 0) (pc := 12) dX7_loadOfKinds_12 rfl rfl ?_
    refine V_aload_n (i := 1) (pc := 13) dX7_loadOfKinds_13 rfl rfl ?_
    refine V_iload (i := 6) (pc := 14) dX7_loadOfKinds_14 rfl ?_
    refine V_iload (i := 6) (pc := 16) dX7_loadOfKinds_16 rfl ?_
    refine V_iload_n (i := 3) (pc := 18) dX7_loadOfKinds_18 rfl rfl ?_
    refine V_iload (i := 4) (pc := 19) dX7_loadOfKinds_19 rfl ?_
    obtain ⟨r21, e21, h⟩ := bnd h
    refine V_invSN1 (pc := 21) dX7_loadOfKinds_21 (e_PL_neededOf  e21) isn_St_53 (rm_St_loadOfKinds_PL_neededOf _ _ _) rfl (Nat.le_of_ble_eq_true rfl) rfl ?_
    refine V_iconst (v := (-1)) (pc := 24) dX7_loadOfKinds_24 rfl ?_
    obtain ⟨r25, e25, h⟩ := bnd h
    refine V_invV1 (c := 7) (pc := 25) dX7_loadOfKinds_25 (e_St_loadOf h_this h_v1 e25) iv_St_57 (rm_St_loadOfKinds_St_loadOf _ _ _) rfl h_this cf_7 rfl (Nat.le_of_ble_eq_true rfl) rfl ?_
    refine V_istore (i := 7) (ls' := [some (vr this), some (vr v1), none, some (vi v3), some (vi v4), some (vi v5), some (vi v6), some (vi r25.1)]) (pc := 28) dX7_loadOfKinds_28 (Nat.le_of_ble_eq_true rfl) rfl ?_
    refine V_iload (i := 7) (pc := 30) dX7_loadOfKinds_30 rfl ?_
    refine V_iconst (v := (-1)) (pc := 32) dX7_loadOfKinds_32 rfl ?_
    refine V_icmp_ne (pc := 33) (tgt := 38) dX7_loadOfKinds_33 rfl (fun q => ?_) (fun q => ?_)
    · have h := ite_f q h
      refine V_iload (i := 5) (pc := 38) dX7_loadOfKinds_38 rfl ?_
      refine V_iload (i := 7) (pc := 40) dX7_loadOfKinds_40 rfl ?_
      refine V_iadd (pc := 42) dX7_loadOfKinds_42 ?_
      refine V_istore (i := 5) (ls' := [some (vr this), some (vr v1), none, some (vi v3), some (vi v4), some (vi (v5 + r25.1)), some (vi v6), some (vi r25.1)]) (pc := 43) dX7_loadOfKinds_43 (Nat.le_of_ble_eq_true rfl) rfl ?_
      refine V_iinc (i := 6) (v := (v6 + 1)) (ls' := [some (vr this), some (vr v1), none, some (vi v3), some (vi v4), some (vi (v5 + r25.1)), some (vi (v6 + 1)), some (vi r25.1)]) (pc := 45) dX7_loadOfKinds_45 rfl rfl (Nat.le_of_ble_eq_true rfl) rfl ?_
      refine V_goto (tgt := 6) (pc := 48) dX7_loadOfKinds_48 rfl ?_
      refine V_sub (ls' := [some (vr this), some (vr v1), none, some (vi v3), some (vi v4), some (vi (v5 + r25.1)), some (vi (v6 + 1)), none]) (And.intro rfl (And.intro rfl (And.intro rfl (And.intro rfl (And.intro rfl (And.intro rfl trivial)))))) ?_
      obtain rfl := Option.some.inj h
      exact hp
    · have h := ite_t q h
      obtain ⟨y2, hu2, rfl⟩ := up_e h
      have h := hu2
      refine V_iconst (v := (-1)) (pc := 36) dX7_loadOfKinds_36 rfl ?_
      obtain rfl := Option.some.inj h
      exact E_i (pc := 37) dX7_loadOfKinds_37 rfl hp
theorem k_St_loadOfKinds {g : GE} {this : Nat} {v1 : Nat} {v2 : Int32} {v3 : Int32} {v4 : Int32} {m : Mem} (h_this : kd this = 8) (h_v1 : kd v1 = 3) {r : Option AV} {m' : Mem} {x : Int32 × Mem} (h : St_loadOfKinds this v1 v2 v3 v4 m = some x) (hp : (fun x : Int32 × Mem => r = some (vi x.1) ∧ m' = x.2) x) : V g Y_St_loadOfKinds 0 [some (vr this), some (vr v1), some (vi v2), some (vi v3), some (vi v4), none, none, none] [] m (PM g Y_St_loadOfKinds r m') := by
  unfold St_loadOfKinds at h
  refine V_iconst (v := 0) (pc := 0) dX7_loadOfKinds_0 rfl ?_
  refine V_istore (i := 5) (ls' := [some (vr this), some (vr v1), some (vi v2), some (vi v3), some (vi v4), some (vi 0), none, none]) (pc := 1) dX7_loadOfKinds_1 (Nat.le_of_ble_eq_true rfl) rfl ?_
  refine V_iload_n (i := 2) (pc := 3) dX7_loadOfKinds_3 rfl rfl ?_
  refine V_istore (i := 6) (ls' := [some (vr this), some (vr v1), some (vi v2), some (vi v3), some (vi v4), some (vi 0), some (vi v2), none]) (pc := 4) dX7_loadOfKinds_4 (Nat.le_of_ble_eq_true rfl) rfl ?_
  refine V_sub (ls' := [some (vr this), some (vr v1), none, some (vi v3), some (vi v4), some (vi 0), some (vi v2), none]) (And.intro rfl (And.intro rfl (And.intro rfl (And.intro rfl (And.intro rfl (And.intro rfl trivial)))))) ?_
  exact loop_V (A := fun s : Int32 × Int32 × Mem => V g Y_St_loadOfKinds 6 [some (vr this), some (vr v1), none, some (vi v3), some (vi v4), some (vi s.1), some (vi s.2.1), none] [] s.2.2 (PM g Y_St_loadOfKinds r m')) (fun s x h hp => k_St_loadOfKinds_l6 h_this h_v1 h hp) (0, v2, m) _ h hp
theorem e_St_loadOfKinds {g : GE} {this : Nat} {v1 : Nat} {v2 : Int32} {v3 : Int32} {v4 : Int32} {m : Mem} (h_this : kd this = 8) (h_v1 : kd v1 = 3) {x : Int32 × Mem} (h : St_loadOfKinds this v1 v2 v3 v4 m = some x) : Ev g Y_St_loadOfKinds [vr this, vr v1, vi v2, vi v3, vi v4] m (some (vi x.1)) x.2 :=
  Ev_of 3 (by decide +kernel) rfl (Nat.le_of_ble_eq_true rfl) rfl (k_St_loadOfKinds h_this h_v1 h ⟨rfl, rfl⟩)
theorem k_PL_least {g : GE} {this : Nat} {v1 : Int32} {v2 : Int32} {v3 : Int32} {m : Mem} (h_this : kd this = 11) {r : Option AV} {m' : Mem} {x : Int32 × Mem} (h : PL_least this v1 v2 v3 m = some x) (hp : (fun x : Int32 × Mem => r = some (vi x.1) ∧ m' = x.2) x) : V g Y_PL_least 0 [some (vr this), some (vi v1), some (vi v2), some (vi v3)] [] m (PM g Y_PL_least r m') := by
  unfold PL_least at h
  refine V_iload_n (i := 1) (pc := 0) dX10_least_0 rfl rfl ?_
  refine V_iload_n (i := 2) (pc := 1) dX10_least_1 rfl rfl ?_
  obtain ⟨r2, e2, h⟩ := bnd h
  refine V_invS1 (pc := 2) dX10_least_2 (e_PL_isCrew  e2) is_PL_320 (rm_PL_least_PL_isCrew _ _ _) rfl (Nat.le_of_ble_eq_true rfl) rfl ?_
  refine V_if_eq (pc := 5) (tgt := 18) dX10_least_5 rfl (fun q => ?_) (fun q => ?_)
  · have h := ite_t q h
    refine V_bipush (v := (-2)) (pc := 18) dX10_least_18 rfl ?_
    obtain rfl := Option.some.inj h
    exact E_i (pc := 20) dX10_least_20 rfl hp
  · have h := ite_f q h
    refine V_iload_n (i := 3) (pc := 8) dX10_least_8 rfl rfl ?_
    refine V_iconst (v := (-1)) (pc := 9) dX10_least_9 rfl ?_
    refine V_icmp_lt (pc := 10) (tgt := 18) dX10_least_10 rfl (fun q => ?_) (fun q => ?_)
    · have h := ite_t q h
      refine V_bipush (v := (-2)) (pc := 18) dX10_least_18 rfl ?_
      obtain rfl := Option.some.inj h
      exact E_i (pc := 20) dX10_least_20 rfl hp
    · have h := ite_f q h
      refine V_iload_n (i := 3) (pc := 13) dX10_least_13 rfl rfl ?_
      refine V_iconst (v := 4) (pc := 14) dX10_least_14 rfl ?_
      refine V_icmp_lt (pc := 15) (tgt := 21) dX10_least_15 rfl (fun q => ?_) (fun q => ?_)
      · have h := ite_t q h
        refine V_iload_n (i := 3) (pc := 21) dX10_least_21 rfl rfl ?_
        refine V_iconst (v := (-1)) (pc := 22) dX10_least_22 rfl ?_
        refine V_icmp_eq (pc := 23) (tgt := 49) dX10_least_23 rfl (fun q => ?_) (fun q => ?_)
        · have h := ite_t q h
          refine V_aload_n (i := 0) (pc := 49) dX10_least_49 rfl rfl ?_
          refine V_getR (b := (this + 278)) (pc := 50) dX10_least_50 fl_PL_55 h_this rfl rfl ?_
          refine V_aload_n (i := 0) (pc := 53) dX10_least_53 rfl rfl ?_
          refine V_getR (b := (this + 27)) (pc := 54) dX10_least_54 fl_PL_19 h_this rfl rfl ?_
          refine V_getR (b := (this + 28)) (pc := 57) dX10_least_57 fl_PL_102 (kf_10_1 h_this) rfl rfl ?_
          refine V_iconst (v := 0) (pc := 60) dX10_least_60 rfl ?_
          refine V_iload_n (i := 1) (pc := 61) dX10_least_61 rfl rfl ?_
          refine V_iload_n (i := 2) (pc := 62) dX10_least_62 rfl rfl ?_
          obtain ⟨r63, e63, h⟩ := bnd h
          refine V_invV1 (c := 7) (pc := 63) dX10_least_63 (e_St_loadOfKinds (kf_10_7 h_this) (kf_0_0 (kf_10_1 h_this)) e63) iv_PL_331 (rm_PL_least_St_loadOfKinds _ _ _) rfl (kf_10_7 h_this) cf_7 rfl (Nat.le_of_ble_eq_true rfl) rfl ?_
          obtain rfl := Option.some.inj h
          exact E_i (pc := 66) dX10_least_66 rfl hp
        · have h := ite_f q h
          refine V_aload_n (i := 0) (pc := 26) dX10_least_26 rfl rfl ?_
          refine V_getR (b := (this + 278)) (pc := 27) dX10_least_27 fl_PL_55 h_this rfl rfl ?_
          refine V_aload_n (i := 0) (pc := 30) dX10_least_30 rfl rfl ?_
          refine V_getR (b := (this + 27)) (pc := 31) dX10_least_31 fl_PL_19 h_this rfl rfl ?_
          refine V_getR (b := (this + 28)) (pc := 34) dX10_least_34 fl_PL_102 (kf_10_1 h_this) rfl rfl ?_
          refine V_iload_n (i := 3) (pc := 37) dX10_least_37 rfl rfl ?_
          refine V_iload_n (i := 3) (pc := 38) dX10_least_38 rfl rfl ?_
          refine V_iload_n (i := 1) (pc := 39) dX10_least_39 rfl rfl ?_
          refine V_iload_n (i := 2) (pc := 40) dX10_least_40 rfl rfl ?_
          obtain ⟨r41, e41, h⟩ := bnd h
          refine V_invS1 (pc := 41) dX10_least_41 (e_PL_neededOf  e41) is_PL_323 (rm_PL_least_PL_neededOf _ _ _) rfl (Nat.le_of_ble_eq_true rfl) rfl ?_
          refine V_iconst (v := (-1)) (pc := 44) dX10_least_44 rfl ?_
          obtain ⟨r45, e45, h⟩ := bnd h
          refine V_invV1 (c := 7) (pc := 45) dX10_least_45 (e_St_loadOf (kf_10_7 h_this) (kf_0_0 (kf_10_1 h_this)) e45) iv_PL_327 (rm_PL_least_St_loadOf _ _ _) rfl (kf_10_7 h_this) cf_7 rfl (Nat.le_of_ble_eq_true rfl) rfl ?_
          obtain rfl := Option.some.inj h
          exact E_i (pc := 48) dX10_least_48 rfl hp
      · have h := ite_f q h
        refine V_bipush (v := (-2)) (pc := 18) dX10_least_18 rfl ?_
        obtain rfl := Option.some.inj h
        exact E_i (pc := 20) dX10_least_20 rfl hp
theorem e_PL_least {g : GE} {this : Nat} {v1 : Int32} {v2 : Int32} {v3 : Int32} {m : Mem} (h_this : kd this = 11) {x : Int32 × Mem} (h : PL_least this v1 v2 v3 m = some x) : Ev g Y_PL_least [vr this, vi v1, vi v2, vi v3] m (some (vi x.1)) x.2 :=
  Ev_of 0 (by decide +kernel) rfl (Nat.le_of_ble_eq_true rfl) rfl (k_PL_least h_this h ⟨rfl, rfl⟩)
theorem k_St_askedUnits {g : GE} {this : Nat} {m : Mem} (h_this : kd this = 8) {r : Option AV} {m' : Mem} {x : Int32} (h : St_askedUnits this m = some x) (hp : (fun x : Int32 => r = some (vi x) ∧ m' = m) x) : V g Y_St_askedUnits 0 [some (vr this)] [] m (PM g Y_St_askedUnits r m') := by
  unfold St_askedUnits at h
  refine V_aload_n (i := 0) (pc := 0) dX7_askedUnits_0 rfl rfl ?_
  refine V_getI (pc := 1) dX7_askedUnits_1 fl_St_18 h_this rfl ?_
  refine V_if_lt (pc := 4) (tgt := 31) dX7_askedUnits_4 rfl (fun q => ?_) (fun q => ?_)
  · have h := ite_t q h
    refine V_iconst (v := 0) (pc := 31) dX7_askedUnits_31 rfl ?_
    obtain rfl := Option.some.inj h
    exact E_i (pc := 32) dX7_askedUnits_32 rfl hp
  · have h := ite_f q h
    refine V_aload_n (i := 0) (pc := 7) dX7_askedUnits_7 rfl rfl ?_
    refine V_getI (pc := 8) dX7_askedUnits_8 fl_St_18 h_this rfl ?_
    refine V_aload_n (i := 0) (pc := 11) dX7_askedUnits_11 rfl rfl ?_
    refine V_getR (b := (this + 2)) (pc := 12) dX7_askedUnits_12 fl_St_15 h_this rfl rfl ?_
    refine V_alen (k := 0) (pc := 15) dX7_askedUnits_15 (kf_7_1 h_this) (Nat.le_of_ble_eq_true rfl) (af_7_1 h_this) ?_
    refine V_icmp_ge (pc := 16) (tgt := 31) dX7_askedUnits_16 rfl (fun q => ?_) (fun q => ?_)
    · have h := ite_t q h
      refine V_iconst (v := 0) (pc := 31) dX7_askedUnits_31 rfl ?_
      obtain rfl := Option.some.inj h
      exact E_i (pc := 32) dX7_askedUnits_32 rfl hp
    · have h := ite_f q h
      refine V_aload_n (i := 0) (pc := 19) dX7_askedUnits_19 rfl rfl ?_
      refine V_getR (b := (this + 2)) (pc := 20) dX7_askedUnits_20 fl_St_15 h_this rfl rfl ?_
      refine V_aload_n (i := 0) (pc := 23) dX7_askedUnits_23 rfl rfl ?_
      refine V_getI (pc := 24) dX7_askedUnits_24 fl_St_18 h_this rfl ?_
      obtain ⟨hg27, h⟩ := gd_e h
      refine V_iald (pc := 27) dX7_askedUnits_27 (kf_7_1 h_this) (af_7_1 h_this) hg27 ?_
      refine V_goto (tgt := 32) (pc := 28) dX7_askedUnits_28 rfl ?_
      obtain rfl := Option.some.inj h
      exact E_i (pc := 32) dX7_askedUnits_32 rfl hp
theorem e_St_askedUnits {g : GE} {this : Nat} {m : Mem} (h_this : kd this = 8) {x : Int32} (h : St_askedUnits this m = some x) : Ev g Y_St_askedUnits [vr this] m (some (vi x)) m :=
  Ev_of 0 (by decide +kernel) rfl (Nat.le_of_ble_eq_true rfl) rfl (k_St_askedUnits h_this h ⟨rfl, rfl⟩)
theorem k_PL_load {g : GE} {this : Nat} {v1 : Int32} {v2 : Int32} {v3 : Int32} {m : Mem} (h_this : kd this = 11) {r : Option AV} {m' : Mem} {x : Int32 × Mem} (h : PL_load this v1 v2 v3 m = some x) (hp : (fun x : Int32 × Mem => r = some (vi x.1) ∧ m' = x.2) x) : V g Y_PL_load 0 [some (vr this), some (vi v1), some (vi v2), some (vi v3), none, none] [] m (PM g Y_PL_load r m') := by
  unfold PL_load at h
  refine V_iload_n (i := 1) (pc := 0) dX10_load_0 rfl rfl ?_
  refine V_iload_n (i := 2) (pc := 1) dX10_load_1 rfl rfl ?_
  obtain ⟨r2, e2, h⟩ := bnd h
  refine V_invS1 (pc := 2) dX10_load_2 (e_PL_isCrew  e2) is_PL_320 (rm_PL_load_PL_isCrew _ _ _) rfl (Nat.le_of_ble_eq_true rfl) rfl ?_
  refine V_if_eq (pc := 5) (tgt := 25) dX10_load_5 rfl (fun q => ?_) (fun q => ?_)
  · have h := ite_t q h
    refine V_bipush (v := (-2)) (pc := 25) dX10_load_25 rfl ?_
    obtain rfl := Option.some.inj h
    exact E_i (pc := 27) dX10_load_27 rfl hp
  · have h := ite_f q h
    refine V_aload_n (i := 0) (pc := 8) dX10_load_8 rfl rfl ?_
    refine V_getR (b := (this + 27)) (pc := 9) dX10_load_9 fl_PL_19 h_this rfl rfl ?_
    refine V_getR (b := (this + 28)) (pc := 12) dX10_load_12 fl_PL_102 (kf_10_1 h_this) rfl rfl ?_
    refine V_getR (b := (this + 38)) (pc := 15) dX10_load_15 fl_PL_130 (kf_0_0 (kf_10_1 h_this)) rfl rfl ?_
    refine V_iload_n (i := 3) (pc := 18) dX10_load_18 rfl rfl ?_
    obtain ⟨r19, e19, h⟩ := bnd h
    refine V_invV1 (c := 8) (pc := 19) dX10_load_19 (e_Ta_has (kf_2_16 (kf_0_0 (kf_10_1 h_this))) e19) iv_PL_134 (rm_PL_load_Ta_has _ _ _) rfl (kf_2_16 (kf_0_0 (kf_10_1 h_this))) cf_8 rfl (Nat.le_of_ble_eq_true rfl) rfl ?_
    refine V_if_ne (pc := 22) (tgt := 28) dX10_load_22 rfl (fun q => ?_) (fun q => ?_)
    · have h := ite_f q h
      refine V_aload_n (i := 0) (pc := 28) dX10_load_28 rfl rfl ?_
      refine V_getR (b := (this + 27)) (pc := 29) dX10_load_29 fl_PL_19 h_this rfl rfl ?_
      refine V_getR (b := (this + 28)) (pc := 32) dX10_load_32 fl_PL_102 (kf_10_1 h_this) rfl rfl ?_
      refine V_getR (b := (this + 38)) (pc := 35) dX10_load_35 fl_PL_130 (kf_0_0 (kf_10_1 h_this)) rfl rfl ?_
      refine V_iload_n (i := 3) (pc := 38) dX10_load_38 rfl rfl ?_
      refine V_iconst (v := 0) (pc := 39) dX10_load_39 rfl ?_
      obtain ⟨r40, e40, h⟩ := bnd h
      refine V_invV1 (c := 8) (pc := 40) dX10_load_40 (e_Ta_at (kf_2_16 (kf_0_0 (kf_10_1 h_this))) e40) iv_PL_139 (rm_PL_load_Ta_at _ _ _) rfl (kf_2_16 (kf_0_0 (kf_10_1 h_this))) cf_8 rfl (Nat.le_of_ble_eq_true rfl) rfl ?_
      refine V_istore (i := 4) (ls' := [some (vr this), some (vi v1), some (vi v2), some (vi v3), some (vi r40), none]) (pc := 43) dX10_load_43 (Nat.le_of_ble_eq_true rfl) rfl ?_
      refine V_aload_n (i := 0) (pc := 45) dX10_load_45 rfl rfl ?_
      refine V_getR (b := (this + 278)) (pc := 46) dX10_load_46 fl_PL_55 h_this rfl rfl ?_
      refine V_aload_n (i := 0) (pc := 49) dX10_load_49 rfl rfl ?_
      refine V_getR (b := (this + 27)) (pc := 50) dX10_load_50 fl_PL_19 h_this rfl rfl ?_
      refine V_getR (b := (this + 28)) (pc := 53) dX10_load_53 fl_PL_102 (kf_10_1 h_this) rfl rfl ?_
      refine V_iload (i := 4) (pc := 56) dX10_load_56 rfl ?_
      refine V_iload (i := 4) (pc := 58) dX10_load_58 rfl ?_
      refine V_iload_n (i := 1) (pc := 60) dX10_load_60 rfl rfl ?_
      refine V_iload_n (i := 2) (pc := 61) dX10_load_61 rfl rfl ?_
      obtain ⟨r62, e62, h⟩ := bnd h
      refine V_invS1 (pc := 62) dX10_load_62 (e_PL_neededOf  e62) is_PL_323 (rm_PL_load_PL_neededOf _ _ _) rfl (Nat.le_of_ble_eq_true rfl) rfl ?_
      refine V_iload_n (i := 3) (pc := 65) dX10_load_65 rfl rfl ?_
      obtain ⟨r66, e66, h⟩ := bnd h
      refine V_invV1 (c := 7) (pc := 66) dX10_load_66 (e_St_loadOf (kf_10_7 h_this) (kf_0_0 (kf_10_1 h_this)) e66) iv_PL_327 (rm_PL_load_St_loadOf _ _ _) rfl (kf_10_7 h_this) cf_7 rfl (Nat.le_of_ble_eq_true rfl) rfl ?_
      refine V_istore (i := 5) (ls' := [some (vr this), some (vi v1), some (vi v2), some (vi v3), some (vi r40), some (vi r66.1)]) (pc := 69) dX10_load_69 (Nat.le_of_ble_eq_true rfl) rfl ?_
      refine V_iload (i := 5) (pc := 71) dX10_load_71 rfl ?_
      refine V_iconst (v := (-1)) (pc := 73) dX10_load_73 rfl ?_
      refine V_icmp_ne (pc := 74) (tgt := 81) dX10_load_74 rfl (fun q => ?_) (fun q => ?_)
      · have h := ite_f q h
        refine V_aload_n (i := 0) (pc := 81) dX10_load_81 rfl rfl ?_
        refine V_getR (b := (this + 278)) (pc := 82) dX10_load_82 fl_PL_55 h_this rfl rfl ?_
        obtain ⟨r85, e85, h⟩ := bnd h
        refine V_invV1 (c := 7) (pc := 85) dX10_load_85 (e_St_askedUnits (kf_10_7 h_this) e85) iv_PL_334 (rm_PL_load_St_askedUnits _ _ _) rfl (kf_10_7 h_this) cf_7 rfl (Nat.le_of_ble_eq_true rfl) rfl ?_
        obtain rfl := Option.some.inj h
        exact E_i (pc := 88) dX10_load_88 rfl hp
      · have h := ite_t q h
        refine V_iconst (v := (-1)) (pc := 77) dX10_load_77 rfl ?_
        refine V_goto (tgt := 88) (pc := 78) dX10_load_78 rfl ?_
        obtain rfl := Option.some.inj h
        exact E_i (pc := 88) dX10_load_88 rfl hp
    · have h := ite_t q h
      refine V_bipush (v := (-2)) (pc := 25) dX10_load_25 rfl ?_
      obtain rfl := Option.some.inj h
      exact E_i (pc := 27) dX10_load_27 rfl hp
theorem e_PL_load {g : GE} {this : Nat} {v1 : Int32} {v2 : Int32} {v3 : Int32} {m : Mem} (h_this : kd this = 11) {x : Int32 × Mem} (h : PL_load this v1 v2 v3 m = some x) : Ev g Y_PL_load [vr this, vi v1, vi v2, vi v3] m (some (vi x.1)) x.2 :=
  Ev_of 2 (by decide +kernel) rfl (Nat.le_of_ble_eq_true rfl) rfl (k_PL_load h_this h ⟨rfl, rfl⟩)
