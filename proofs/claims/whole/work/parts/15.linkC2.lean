theorem k_PL_lasts_b129 {g : GE} {this : Nat} {v1 : Int32} {v2 : Int32} {v3 : Int32} {v4 : Int32} {v5 : Int32}  {m : Mem} (h_this : kd this = 11) {r : Option AV} {m' : Mem} {x : (Int32) ⊕ (Int32 × Mem)} (h : PL_lasts_b129 this v1 v2 v3 v4 v5 m = some x) (hp : (Sum.elim (fun s : Int32 => V g Y_PL_lasts 85 [some (vr this), some (vi v1), some (vi v2), some (vi v3), some (vi v4), some (vi s), none] [] m (PM g Y_PL_lasts r m')) (fun x : Int32 × Mem => r = some (vi x.1) ∧ m' = x.2)) x) : V g Y_PL_lasts 129 [some (vr this), some (vi v1), some (vi v2), some (vi v3), some (vi v4), some (vi v5), none] [] m (PM g Y_PL_lasts r m') := by
  unfold PL_lasts_b129 at h
  refine V_iinc (i := 5) (v := (v5 + (-1))) (ls' := [some (vr this), some (vi v1), some (vi v2), some (vi v3), some (vi v4), some (vi (v5 + (-1))), none]) (pc := 129) dX10_lasts_129 rfl rfl (Nat.le_of_ble_eq_true rfl) rfl ?_
  refine V_goto (tgt := 85) (pc := 132) dX10_lasts_132 rfl ?_
  obtain rfl := Option.some.inj h
  exact hp
theorem k_PL_lasts_b110 {g : GE} {this : Nat} {v1 : Int32} {v2 : Int32} {v3 : Int32} {v4 : Int32} {v5 : Int32} {k0 : Int32}  {m : Mem} (h_this : kd this = 11) {r : Option AV} {m' : Mem} {x : (Int32) ⊕ (Int32 × Mem)} (h : PL_lasts_b110 this v1 v2 v3 v4 v5 k0 m = some x) (hp : (Sum.elim (fun s : Int32 => V g Y_PL_lasts 85 [some (vr this), some (vi v1), some (vi v2), some (vi v3), some (vi v4), some (vi s), none] [] m (PM g Y_PL_lasts r m')) (fun x : Int32 × Mem => r = some (vi x.1) ∧ m' = x.2)) x) : V g Y_PL_lasts 110 [some (vr this), some (vi v1), some (vi v2), some (vi v3), some (vi v4), some (vi v5), none] [vi k0] m (PM g Y_PL_lasts r m') := by
  unfold PL_lasts_b110 at h
  refine V_istore (i := 6) (ls' := [some (vr this), some (vi v1), some (vi v2), some (vi v3), some (vi v4), some (vi v5), some (vi k0)]) (pc := 110) dX10_lasts_110 (Nat.le_of_ble_eq_true rfl) rfl ?_
  refine V_iload (i := 6) (pc := 112) dX10_lasts_112 rfl ?_
  refine V_iconst (v := (-1)) (pc := 114) dX10_lasts_114 rfl ?_
  refine V_icmp_eq (pc := 115) (tgt := 129) dX10_lasts_115 rfl (fun q => ?_) (fun q => ?_)
  · have h := ite_t q h
    refine V_sub (ls' := [some (vr this), some (vi v1), some (vi v2), some (vi v3), some (vi v4), some (vi v5), none]) (And.intro rfl (And.intro rfl (And.intro rfl (And.intro rfl (And.intro rfl (And.intro rfl trivial)))))) ?_
    exact k_PL_lasts_b129 h_this h hp
  · have h := ite_f q h
    refine V_iload (i := 6) (pc := 118) dX10_lasts_118 rfl ?_
    refine V_iload_n (i := 3) (pc := 120) dX10_lasts_120 rfl rfl ?_
    refine V_iadd (pc := 121) dX10_lasts_121 ?_
    refine V_iload_n (i := 2) (pc := 122) dX10_lasts_122 rfl rfl ?_
    refine V_icmp_gt (pc := 123) (tgt := 129) dX10_lasts_123 rfl (fun q => ?_) (fun q => ?_)
    · have h := ite_t q h
      refine V_sub (ls' := [some (vr this), some (vi v1), some (vi v2), some (vi v3), some (vi v4), some (vi v5), none]) (And.intro rfl (And.intro rfl (And.intro rfl (And.intro rfl (And.intro rfl (And.intro rfl trivial)))))) ?_
      exact k_PL_lasts_b129 h_this h hp
    · have h := ite_f q h
      obtain ⟨y2, hu2, rfl⟩ := up_e h
      have h := hu2
      refine V_iload (i := 5) (pc := 126) dX10_lasts_126 rfl ?_
      obtain rfl := Option.some.inj h
      exact E_i (pc := 128) dX10_lasts_128 rfl hp
theorem k_PL_lasts_l85 {g : GE} {this : Nat} {v1 : Int32} {v2 : Int32} {v3 : Int32} {v4 : Int32} {v5 : Int32} {m : Mem} (h_this : kd this = 11) {r : Option AV} {m' : Mem} {x : (Int32) ⊕ (Int32 × Mem)} (h : PL_lasts_l85 this v1 v2 v3 v4 v5 m = some x) (hp : (Sum.elim (fun s : Int32 => V g Y_PL_lasts 85 [some (vr this), some (vi v1), some (vi v2), some (vi v3), some (vi v4), some (vi s), none] [] m (PM g Y_PL_lasts r m')) (fun x : Int32 × Mem => r = some (vi x.1) ∧ m' = x.2)) x) : V g Y_PL_lasts 85 [some (vr this), some (vi v1), some (vi v2), some (vi v3), some (vi v4), some (vi v5), none] [] m (PM g Y_PL_lasts r m') := by
  unfold PL_lasts_l85 at h
  refine V_iload (i := 5) (pc := 85) dX10_lasts_85 rfl ?_
  refine V_if_lt (pc := 87) (tgt := 135) dX10_lasts_87 rfl (fun q => ?_) (fun q => ?_)
  · have h := ite_t q h
    obtain ⟨y1, hu1, rfl⟩ := up_e h
    have h := hu1
    refine V_iconst (v := (-1)) (pc := 135) dX10_lasts_135 rfl ?_
    obtain rfl := Option.some.inj h
    exact E_i (pc := 136) dX10_lasts_136 rfl hp
  · have h := ite_f q h
    refine V_iload (i := 4) (pc := 90) dX10_lasts_90 rfl ?_
    refine V_if_eq (pc := 92) (tgt := 109) dX10_lasts_92 rfl (fun q => ?_) (fun q => ?_)
    · have h := ite_t q h
      refine V_iconst (v := 0) (pc := 109) dX10_lasts_109 rfl ?_
      exact k_PL_lasts_b110 h_this h hp
    · have h := ite_f q h
      refine V_aload_n (i := 0) (pc := 95) dX10_lasts_95 rfl rfl ?_
      refine V_getR (b := (this + 278)) (pc := 96) dX10_lasts_96 fl_PL_55 h_this rfl rfl ?_
      refine V_iload_n (i := 1) (pc := 99) dX10_lasts_99 rfl rfl ?_
      refine V_iload (i := 5) (pc := 100) dX10_lasts_100 rfl ?_
      refine V_imul (pc := 102) dX10_lasts_102 ?_
      obtain ⟨r103, e103, h⟩ := bnd h
      refine V_invV1 (c := 7) (pc := 103) dX10_lasts_103 (e_St_costOf (kf_10_7 h_this) e103) iv_PL_340 (rm_PL_lasts_St_costOf _ _ _) rfl (kf_10_7 h_this) cf_7 rfl (Nat.le_of_ble_eq_true rfl) rfl ?_
      refine V_goto (tgt := 110) (pc := 106) dX10_lasts_106 rfl ?_
      exact k_PL_lasts_b110 h_this h hp
theorem k_PL_lasts {g : GE} {this : Nat} {v1 : Int32} {v2 : Int32} {m : Mem} (h_this : kd this = 11) {r : Option AV} {m' : Mem} {x : Int32 × Mem} (h : PL_lasts this v1 v2 m = some x) (hp : (fun x : Int32 × Mem => r = some (vi x.1) ∧ m' = x.2) x) : V g Y_PL_lasts 0 [some (vr this), some (vi v1), some (vi v2), none, none, none, none] [] m (PM g Y_PL_lasts r m') := by
  unfold PL_lasts at h
  refine V_iload_n (i := 1) (pc := 0) dX10_lasts_0 rfl rfl ?_
  refine V_iconst (v := 0) (pc := 1) dX10_lasts_1 rfl ?_
  obtain ⟨r2, e2, h⟩ := bnd h
  refine V_invS1 (pc := 2) dX10_lasts_2 (e_PL_isCrew  e2) is_PL_320 (rm_PL_lasts_PL_isCrew _ _ _) rfl (Nat.le_of_ble_eq_true rfl) rfl ?_
  refine V_if_eq (pc := 5) (tgt := 19) dX10_lasts_5 rfl (fun q => ?_) (fun q => ?_)
  · have h := ite_t q h
    refine V_bipush (v := (-2)) (pc := 19) dX10_lasts_19 rfl ?_
    obtain rfl := Option.some.inj h
    exact E_i (pc := 21) dX10_lasts_21 rfl hp
  · have h := ite_f q h
    refine V_iload_n (i := 2) (pc := 8) dX10_lasts_8 rfl rfl ?_
    refine V_if_lt (pc := 9) (tgt := 19) dX10_lasts_9 rfl (fun q => ?_) (fun q => ?_)
    · have h := ite_t q h
      refine V_bipush (v := (-2)) (pc := 19) dX10_lasts_19 rfl ?_
      obtain rfl := Option.some.inj h
      exact E_i (pc := 21) dX10_lasts_21 rfl hp
    · have h := ite_f q h
      refine V_iload_n (i := 2) (pc := 12) dX10_lasts_12 rfl rfl ?_
      refine V_sipush (v := 9999) (pc := 13) dX10_lasts_13 rfl ?_
      refine V_icmp_le (pc := 16) (tgt := 22) dX10_lasts_16 rfl (fun q => ?_) (fun q => ?_)
      · have h := ite_t q h
        refine V_aload_n (i := 0) (pc := 22) dX10_lasts_22 rfl rfl ?_
        refine V_getR (b := (this + 278)) (pc := 23) dX10_lasts_23 fl_PL_55 h_this rfl rfl ?_
        refine V_aload_n (i := 0) (pc := 26) dX10_lasts_26 rfl rfl ?_
        refine V_getR (b := (this + 27)) (pc := 27) dX10_lasts_27 fl_PL_19 h_this rfl rfl ?_
        refine V_getR (b := (this + 28)) (pc := 30) dX10_lasts_30 fl_PL_102 (kf_10_1 h_this) rfl rfl ?_
        refine V_iconst (v := 1) (pc := 33) dX10_lasts_33 rfl ?_
        refine V_iload_n (i := 1) (pc := 34) dX10_lasts_34 rfl rfl ?_
        refine V_iconst (v := 0) (pc := 35) dX10_lasts_35 rfl ?_
        obtain ⟨r36, e36, h⟩ := bnd h
        refine V_invV1 (c := 7) (pc := 36) dX10_lasts_36 (e_St_loadOfKinds (kf_10_7 h_this) (kf_0_0 (kf_10_1 h_this)) e36) iv_PL_331 (rm_PL_lasts_St_loadOfKinds _ _ _) rfl (kf_10_7 h_this) cf_7 rfl (Nat.le_of_ble_eq_true rfl) rfl ?_
        refine V_istore_n (i := 3) (ls' := [some (vr this), some (vi v1), some (vi v2), some (vi r36.1), none, none, none]) (pc := 39) dX10_lasts_39 rfl (Nat.le_of_ble_eq_true rfl) rfl ?_
        refine V_iload_n (i := 3) (pc := 40) dX10_lasts_40 rfl rfl ?_
        refine V_iconst (v := (-1)) (pc := 41) dX10_lasts_41 rfl ?_
        refine V_icmp_ne (pc := 42) (tgt := 47) dX10_lasts_42 rfl (fun q => ?_) (fun q => ?_)
        · have h := ite_f q h
          refine V_aload_n (i := 0) (pc := 47) dX10_lasts_47 rfl rfl ?_
          refine V_getR (b := (this + 27)) (pc := 48) dX10_lasts_48 fl_PL_19 h_this rfl rfl ?_
          refine V_getR (b := (this + 28)) (pc := 51) dX10_lasts_51 fl_PL_102 (kf_10_1 h_this) rfl rfl ?_
          refine V_iconst (v := 0) (pc := 54) dX10_lasts_54 rfl ?_
          obtain ⟨r55, e55, h⟩ := bnd h
          refine V_invV1 (c := 2) (pc := 55) dX10_lasts_55 (e_Fl_tells (kf_0_0 (kf_10_1 h_this)) e55) iv_PL_337 (rm_PL_lasts_Fl_tells _ _ _) rfl (kf_0_0 (kf_10_1 h_this)) cf_2 rfl (Nat.le_of_ble_eq_true rfl) rfl ?_
          refine V_istore (i := 4) (ls' := [some (vr this), some (vi v1), some (vi v2), some (vi r36.1), some (vi r55), none, none]) (pc := 58) dX10_lasts_58 (Nat.le_of_ble_eq_true rfl) rfl ?_
          refine V_aload_n (i := 0) (pc := 60) dX10_lasts_60 rfl rfl ?_
          refine V_getR (b := (this + 278)) (pc := 61) dX10_lasts_61 fl_PL_55 h_this rfl rfl ?_
          refine V_aload_n (i := 0) (pc := 64) dX10_lasts_64 rfl rfl ?_
          refine V_getR (b := (this + 27)) (pc := 65) dX10_lasts_65 fl_PL_19 h_this rfl rfl ?_
          refine V_getR (b := (this + 28)) (pc := 68) dX10_lasts_68 fl_PL_102 (kf_10_1 h_this) rfl rfl ?_
          refine V_iconst (v := 0) (pc := 71) dX10_lasts_71 rfl ?_
          refine V_iload_n (i := 1) (pc := 72) dX10_lasts_72 rfl rfl ?_
          refine V_bipush (v := 60) (pc := 73) dX10_lasts_73 rfl ?_
          refine V_imul (pc := 75) dX10_lasts_75 ?_
          refine V_iconst (v := (-1)) (pc := 76) dX10_lasts_76 rfl ?_
          obtain ⟨r77, e77, h⟩ := bnd h
          refine V_invV1 (c := 7) (pc := 77) dX10_lasts_77 (e_St_loadOf (kf_10_7 h_this) (kf_0_0 (kf_10_1 h_this)) e77) iv_PL_327 (rm_PL_lasts_St_loadOf _ _ _) rfl (kf_10_7 h_this) cf_7 rfl (Nat.le_of_ble_eq_true rfl) rfl ?_
          refine V_popi (pc := 80) dX10_lasts_80 ?_
          refine V_bipush (v := 60) (pc := 81) dX10_lasts_81 rfl ?_
          refine V_istore (i := 5) (ls' := [some (vr this), some (vi v1), some (vi v2), some (vi r36.1), some (vi r55), some (vi 60), none]) (pc := 83) dX10_lasts_83 (Nat.le_of_ble_eq_true rfl) rfl ?_
          exact loop_V (A := fun s : Int32 => V g Y_PL_lasts 85 [some (vr this), some (vi v1), some (vi v2), some (vi r36.1), some (vi r55), some (vi s), none] [] r77.2 (PM g Y_PL_lasts r m')) (fun s x h hp => k_PL_lasts_l85 h_this h hp) (60) _ h hp
        · have h := ite_t q h
          refine V_iconst (v := (-1)) (pc := 45) dX10_lasts_45 rfl ?_
          obtain rfl := Option.some.inj h
          exact E_i (pc := 46) dX10_lasts_46 rfl hp
      · have h := ite_f q h
        refine V_bipush (v := (-2)) (pc := 19) dX10_lasts_19 rfl ?_
        obtain rfl := Option.some.inj h
        exact E_i (pc := 21) dX10_lasts_21 rfl hp
theorem e_PL_lasts {g : GE} {this : Nat} {v1 : Int32} {v2 : Int32} {m : Mem} (h_this : kd this = 11) {x : Int32 × Mem} (h : PL_lasts this v1 v2 m = some x) : Ev g Y_PL_lasts [vr this, vi v1, vi v2] m (some (vi x.1)) x.2 :=
  Ev_of 4 (by decide +kernel) rfl (Nat.le_of_ble_eq_true rfl) rfl (k_PL_lasts h_this h ⟨rfl, rfl⟩)
theorem k_Ca_cracksBetween {g : GE} {this : Nat} {v1 : Int32} {v2 : Int32} {v3 : Int32} {m : Mem} (h_this : kd this = 1) {r : Option AV} {m' : Mem} {x : Int32} (h : Ca_cracksBetween this v1 v2 v3 m = some x) (hp : (fun x : Int32 => r = some (vi x) ∧ m' = m) x) : V g Y_Ca_cracksBetween 0 [some (vr this), some (vi v1), some (vi v2), some (vi v3), none, none] [] m (PM g Y_Ca_cracksBetween r m') := by
  unfold Ca_cracksBetween at h
  refine V_iload_n (i := 2) (pc := 0) dX0_cracksBetween_0 rfl rfl ?_
  obtain ⟨r1, e1, h⟩ := bnd h
  refine V_invSN1 (pc := 1) dX0_cracksBetween_1 (e_PL_isHeap  e1) isn_Ca_70 (rm_Ca_cracksBetween_PL_isHeap _ _ _) rfl (Nat.le_of_ble_eq_true rfl) rfl ?_
  refine V_if_eq (pc := 4) (tgt := 14) dX0_cracksBetween_4 rfl (fun q => ?_) (fun q => ?_)
  · have h := ite_t q h
    refine V_iconst (v := 0) (pc := 14) dX0_cracksBetween_14 rfl ?_
    obtain rfl := Option.some.inj h
    exact E_i (pc := 15) dX0_cracksBetween_15 rfl hp
  · have h := ite_f q h
    refine V_iload_n (i := 3) (pc := 7) dX0_cracksBetween_7 rfl rfl ?_
    obtain ⟨r8, e8, h⟩ := bnd h
    refine V_invSN1 (pc := 8) dX0_cracksBetween_8 (e_PL_isGroup  e8) isn_Ca_74 (rm_Ca_cracksBetween_PL_isGroup _ _ _) rfl (Nat.le_of_ble_eq_true rfl) rfl ?_
    refine V_if_ne (pc := 11) (tgt := 16) dX0_cracksBetween_11 rfl (fun q => ?_) (fun q => ?_)
    · have h := ite_f q h
      refine V_aload_n (i := 0) (pc := 16) dX0_cracksBetween_16 rfl rfl ?_
      refine V_getR (b := (this + 1)) (pc := 17) dX0_cracksBetween_17 fl_Ca_12 h_this rfl rfl ?_
      refine V_aload_n (i := 0) (pc := 20) dX0_cracksBetween_20 rfl rfl ?_
      refine V_getR (b := (this + 25)) (pc := 21) dX0_cracksBetween_21 fl_Ca_18 h_this rfl rfl ?_
      refine V_iload_n (i := 2) (pc := 24) dX0_cracksBetween_24 rfl rfl ?_
      obtain ⟨hg25, h⟩ := gd_e h
      refine V_iald (pc := 25) dX0_cracksBetween_25 (kf_0_1 h_this) (af_0_1 h_this) hg25 ?_
      refine V_aload_n (i := 0) (pc := 26) dX0_cracksBetween_26 rfl rfl ?_
      refine V_getR (b := (this + 26)) (pc := 27) dX0_cracksBetween_27 fl_Ca_22 h_this rfl rfl ?_
      refine V_iload_n (i := 2) (pc := 30) dX0_cracksBetween_30 rfl rfl ?_
      obtain ⟨hg31, h⟩ := gd_e h
      refine V_iald (pc := 31) dX0_cracksBetween_31 (kf_0_2 h_this) (af_0_2 h_this) hg31 ?_
      obtain ⟨r32, e32, h⟩ := bnd h
      refine V_invV1 (c := 2) (pc := 32) dX0_cracksBetween_32 (e_Fl_beyond (kf_0_0 h_this) e32) iv_Ca_110 (rm_Ca_cracksBetween_Fl_beyond _ _ _) rfl (kf_0_0 h_this) cf_2 rfl (Nat.le_of_ble_eq_true rfl) rfl ?_
      refine V_istore (i := 4) (ls' := [some (vr this), some (vi v1), some (vi v2), some (vi v3), some (vi r32), none]) (pc := 35) dX0_cracksBetween_35 (Nat.le_of_ble_eq_true rfl) rfl ?_
      refine V_aload_n (i := 0) (pc := 37) dX0_cracksBetween_37 rfl rfl ?_
      refine V_getR (b := (this + 1)) (pc := 38) dX0_cracksBetween_38 fl_Ca_12 h_this rfl rfl ?_
      refine V_aload_n (i := 0) (pc := 41) dX0_cracksBetween_41 rfl rfl ?_
      refine V_getR (b := (this + 36)) (pc := 42) dX0_cracksBetween_42 fl_Ca_30 h_this rfl rfl ?_
      refine V_iload_n (i := 3) (pc := 45) dX0_cracksBetween_45 rfl rfl ?_
      obtain ⟨hg46, h⟩ := gd_e h
      refine V_iald (pc := 46) dX0_cracksBetween_46 (kf_0_4 h_this) (af_0_4 h_this) hg46 ?_
      refine V_aload_n (i := 0) (pc := 47) dX0_cracksBetween_47 rfl rfl ?_
      refine V_getR (b := (this + 37)) (pc := 48) dX0_cracksBetween_48 fl_Ca_33 h_this rfl rfl ?_
      refine V_iload_n (i := 3) (pc := 51) dX0_cracksBetween_51 rfl rfl ?_
      obtain ⟨hg52, h⟩ := gd_e h
      refine V_iald (pc := 52) dX0_cracksBetween_52 (kf_0_5 h_this) (af_0_5 h_this) hg52 ?_
      obtain ⟨r53, e53, h⟩ := bnd h
      refine V_invV1 (c := 2) (pc := 53) dX0_cracksBetween_53 (e_Fl_beyond (kf_0_0 h_this) e53) iv_Ca_110 (rm_Ca_cracksBetween_Fl_beyond _ _ _) rfl (kf_0_0 h_this) cf_2 rfl (Nat.le_of_ble_eq_true rfl) rfl ?_
      refine V_istore (i := 5) (ls' := [some (vr this), some (vi v1), some (vi v2), some (vi v3), some (vi r32), some (vi r53)]) (pc := 56) dX0_cracksBetween_56 (Nat.le_of_ble_eq_true rfl) rfl ?_
      refine V_iload (i := 4) (pc := 58) dX0_cracksBetween_58 rfl ?_
      refine V_iload (i := 5) (pc := 60) dX0_cracksBetween_60 rfl ?_
      refine V_ixor (pc := 62) dX0_cracksBetween_62 ?_
      refine V_iload_n (i := 1) (pc := 63) dX0_cracksBetween_63 rfl rfl ?_
      refine V_iand (pc := 64) dX0_cracksBetween_64 ?_
      obtain ⟨r65, e65, h⟩ := bnd h
      refine V_invS1 (pc := 65) dX0_cracksBetween_65 (e_In_bitCount  e65) is_Ca_113 (rm_Ca_cracksBetween_In_bitCount _ _ _) rfl (Nat.le_of_ble_eq_true rfl) rfl ?_
      obtain rfl := Option.some.inj h
      exact E_i (pc := 68) dX0_cracksBetween_68 rfl hp
    · have h := ite_t q h
      refine V_iconst (v := 0) (pc := 14) dX0_cracksBetween_14 rfl ?_
      obtain rfl := Option.some.inj h
      exact E_i (pc := 15) dX0_cracksBetween_15 rfl hp
theorem e_Ca_cracksBetween {g : GE} {this : Nat} {v1 : Int32} {v2 : Int32} {v3 : Int32} {m : Mem} (h_this : kd this = 1) {x : Int32} (h : Ca_cracksBetween this v1 v2 v3 m = some x) : Ev g Y_Ca_cracksBetween [vr this, vi v1, vi v2, vi v3] m (some (vi x)) m :=
  Ev_of 2 (by decide +kernel) rfl (Nat.le_of_ble_eq_true rfl) rfl (k_Ca_cracksBetween h_this h ⟨rfl, rfl⟩)
theorem k_PL_across {g : GE} {this : Nat} {v1 : Int32} {v2 : Int32} {v3 : Int32} {m : Mem} (h_this : kd this = 11) {r : Option AV} {m' : Mem} {x : Int32} (h : PL_across this v1 v2 v3 m = some x) (hp : (fun x : Int32 => r = some (vi x) ∧ m' = m) x) : V g Y_PL_across 0 [some (vr this), some (vi v1), some (vi v2), some (vi v3)] [] m (PM g Y_PL_across r m') := by
  unfold PL_across at h
  refine V_aload_n (i := 0) (pc := 0) dX10_across_0 rfl rfl ?_
  refine V_getR (b := (this + 27)) (pc := 1) dX10_across_1 fl_PL_19 h_this rfl rfl ?_
  refine V_getR (b := (this + 28)) (pc := 4) dX10_across_4 fl_PL_102 (kf_10_1 h_this) rfl rfl ?_
  refine V_iload_n (i := 1) (pc := 7) dX10_across_7 rfl rfl ?_
  obtain ⟨r8, e8, h⟩ := bnd h
  refine V_invV1 (c := 2) (pc := 8) dX10_across_8 (e_Fl_hasSet (kf_0_0 (kf_10_1 h_this)) e8) iv_PL_167 (rm_PL_across_Fl_hasSet _ _ _) rfl (kf_0_0 (kf_10_1 h_this)) cf_2 rfl (Nat.le_of_ble_eq_true rfl) rfl ?_
  refine V_if_eq (pc := 11) (tgt := 28) dX10_across_11 rfl (fun q => ?_) (fun q => ?_)
  · have h := ite_t q h
    refine V_bipush (v := (-2)) (pc := 28) dX10_across_28 rfl ?_
    obtain rfl := Option.some.inj h
    exact E_i (pc := 30) dX10_across_30 rfl hp
  · have h := ite_f q h
    refine V_iload_n (i := 2) (pc := 14) dX10_across_14 rfl rfl ?_
    obtain ⟨r15, e15, h⟩ := bnd h
    refine V_invS1 (pc := 15) dX10_across_15 (e_PL_isHeap  e15) is_PL_113 (rm_PL_across_PL_isHeap _ _ _) rfl (Nat.le_of_ble_eq_true rfl) rfl ?_
    refine V_if_eq (pc := 18) (tgt := 28) dX10_across_18 rfl (fun q => ?_) (fun q => ?_)
    · have h := ite_t q h
      refine V_bipush (v := (-2)) (pc := 28) dX10_across_28 rfl ?_
      obtain rfl := Option.some.inj h
      exact E_i (pc := 30) dX10_across_30 rfl hp
    · have h := ite_f q h
      refine V_iload_n (i := 3) (pc := 21) dX10_across_21 rfl rfl ?_
      obtain ⟨r22, e22, h⟩ := bnd h
      refine V_invS1 (pc := 22) dX10_across_22 (e_PL_isGroup  e22) is_PL_150 (rm_PL_across_PL_isGroup _ _ _) rfl (Nat.le_of_ble_eq_true rfl) rfl ?_
      refine V_if_ne (pc := 25) (tgt := 31) dX10_across_25 rfl (fun q => ?_) (fun q => ?_)
      · have h := ite_f q h
        refine V_aload_n (i := 0) (pc := 31) dX10_across_31 rfl rfl ?_
        refine V_getR (b := (this + 27)) (pc := 32) dX10_across_32 fl_PL_19 h_this rfl rfl ?_
        refine V_iload_n (i := 2) (pc := 35) dX10_across_35 rfl rfl ?_
        obtain ⟨r36, e36, h⟩ := bnd h
        refine V_invV1 (c := 0) (pc := 36) dX10_across_36 (e_Ca_hasHeap (kf_10_1 h_this) e36) iv_PL_120 (rm_PL_across_Ca_hasHeap _ _ _) rfl (kf_10_1 h_this) cf_0 rfl (Nat.le_of_ble_eq_true rfl) rfl ?_
        refine V_if_eq (pc := 39) (tgt := 55) dX10_across_39 rfl (fun q => ?_) (fun q => ?_)
        · have h := ite_t q h
          refine V_iconst (v := (-1)) (pc := 55) dX10_across_55 rfl ?_
          obtain rfl := Option.some.inj h
          exact E_i (pc := 56) dX10_across_56 rfl hp
        · have h := ite_f q h
          refine V_aload_n (i := 0) (pc := 42) dX10_across_42 rfl rfl ?_
          refine V_getR (b := (this + 27)) (pc := 43) dX10_across_43 fl_PL_19 h_this rfl rfl ?_
          refine V_iload_n (i := 1) (pc := 46) dX10_across_46 rfl rfl ?_
          refine V_iload_n (i := 2) (pc := 47) dX10_across_47 rfl rfl ?_
          refine V_iload_n (i := 3) (pc := 48) dX10_across_48 rfl rfl ?_
          obtain ⟨r49, e49, h⟩ := bnd h
          refine V_invV1 (c := 0) (pc := 49) dX10_across_49 (e_Ca_cracksBetween (kf_10_1 h_this) e49) iv_PL_343 (rm_PL_across_Ca_cracksBetween _ _ _) rfl (kf_10_1 h_this) cf_0 rfl (Nat.le_of_ble_eq_true rfl) rfl ?_
          refine V_goto (tgt := 56) (pc := 52) dX10_across_52 rfl ?_
          obtain rfl := Option.some.inj h
          exact E_i (pc := 56) dX10_across_56 rfl hp
      · have h := ite_t q h
        refine V_bipush (v := (-2)) (pc := 28) dX10_across_28 rfl ?_
        obtain rfl := Option.some.inj h
        exact E_i (pc := 30) dX10_across_30 rfl hp
theorem e_PL_across {g : GE} {this : Nat} {v1 : Int32} {v2 : Int32} {v3 : Int32} {m : Mem} (h_this : kd this = 11) {x : Int32} (h : PL_across this v1 v2 v3 m = some x) : Ev g Y_PL_across [vr this, vi v1, vi v2, vi v3] m (some (vi x)) m :=
  Ev_of 0 (by decide +kernel) rfl (Nat.le_of_ble_eq_true rfl) rfl (k_PL_across h_this h ⟨rfl, rfl⟩)
theorem k_Ca_minutesOf {g : GE} {this : Nat} {v1 : Int32} {v2 : Int32} {v3 : Int32} {v4 : Int32} {m : Mem} (h_this : kd this = 1) {r : Option AV} {m' : Mem} {x : Int32} (h : Ca_minutesOf this v1 v2 v3 v4 m = some x) (hp : (fun x : Int32 => r = some (vi x) ∧ m' = m) x) : V g Y_Ca_minutesOf 0 [some (vr this), some (vi v1), some (vi v2), some (vi v3), some (vi v4), none] [] m (PM g Y_Ca_minutesOf r m') := by
  unfold Ca_minutesOf at h
  refine V_iload_n (i := 2) (pc := 0) dX0_minutesOf_0 rfl rfl ?_
  obtain ⟨r1, e1, h⟩ := bnd h
  refine V_invSN1 (pc := 1) dX0_minutesOf_1 (e_PL_isHeap  e1) isn_Ca_70 (rm_Ca_minutesOf_PL_isHeap _ _ _) rfl (Nat.le_of_ble_eq_true rfl) rfl ?_
  refine V_if_eq (pc := 4) (tgt := 15) dX0_minutesOf_4 rfl (fun q => ?_) (fun q => ?_)
  · have h := ite_t q h
    refine V_iconst (v := 0) (pc := 15) dX0_minutesOf_15 rfl ?_
    obtain rfl := Option.some.inj h
    exact E_i (pc := 16) dX0_minutesOf_16 rfl hp
  · have h := ite_f q h
    refine V_iload (i := 4) (pc := 7) dX0_minutesOf_7 rfl ?_
    obtain ⟨r9, e9, h⟩ := bnd h
    refine V_invSN1 (pc := 9) dX0_minutesOf_9 (e_PL_isGroup  e9) isn_Ca_74 (rm_Ca_minutesOf_PL_isGroup _ _ _) rfl (Nat.le_of_ble_eq_true rfl) rfl ?_
    refine V_if_ne (pc := 12) (tgt := 17) dX0_minutesOf_12 rfl (fun q => ?_) (fun q => ?_)
    · have h := ite_f q h
      refine V_aload_n (i := 0) (pc := 17) dX0_minutesOf_17 rfl rfl ?_
      refine V_getR (b := (this + 25)) (pc := 18) dX0_minutesOf_18 fl_Ca_18 h_this rfl rfl ?_
      refine V_iload_n (i := 2) (pc := 21) dX0_minutesOf_21 rfl rfl ?_
      obtain ⟨hg22, h⟩ := gd_e h
      refine V_iald (pc := 22) dX0_minutesOf_22 (kf_0_1 h_this) (af_0_1 h_this) hg22 ?_
      refine V_aload_n (i := 0) (pc := 23) dX0_minutesOf_23 rfl rfl ?_
      refine V_getR (b := (this + 36)) (pc := 24) dX0_minutesOf_24 fl_Ca_30 h_this rfl rfl ?_
      refine V_iload (i := 4) (pc := 27) dX0_minutesOf_27 rfl ?_
      obtain ⟨hg29, h⟩ := gd_e h
      refine V_iald (pc := 29) dX0_minutesOf_29 (kf_0_4 h_this) (af_0_4 h_this) hg29 ?_
      refine V_isub (pc := 30) dX0_minutesOf_30 ?_
      refine V_mabs (pc := 31) dX0_minutesOf_31 ma_Ca_118 (rmM_Ca_minutesOf _ _ _) (Nat.le_of_ble_eq_true rfl) ?_
      refine V_aload_n (i := 0) (pc := 34) dX0_minutesOf_34 rfl rfl ?_
      refine V_getR (b := (this + 26)) (pc := 35) dX0_minutesOf_35 fl_Ca_22 h_this rfl rfl ?_
      refine V_iload_n (i := 2) (pc := 38) dX0_minutesOf_38 rfl rfl ?_
      obtain ⟨hg39, h⟩ := gd_e h
      refine V_iald (pc := 39) dX0_minutesOf_39 (kf_0_2 h_this) (af_0_2 h_this) hg39 ?_
      refine V_aload_n (i := 0) (pc := 40) dX0_minutesOf_40 rfl rfl ?_
      refine V_getR (b := (this + 37)) (pc := 41) dX0_minutesOf_41 fl_Ca_33 h_this rfl rfl ?_
      refine V_iload (i := 4) (pc := 44) dX0_minutesOf_44 rfl ?_
      obtain ⟨hg46, h⟩ := gd_e h
      refine V_iald (pc := 46) dX0_minutesOf_46 (kf_0_5 h_this) (af_0_5 h_this) hg46 ?_
      refine V_isub (pc := 47) dX0_minutesOf_47 ?_
      refine V_mabs (pc := 48) dX0_minutesOf_48 ma_Ca_118 (rmM_Ca_minutesOf _ _ _) (Nat.le_of_ble_eq_true rfl) ?_
      refine V_iadd (pc := 51) dX0_minutesOf_51 ?_
      refine V_istore (i := 5) (ls' := [some (vr this), some (vi v1), some (vi v2), some (vi v3), some (vi v4), some (vi ((jabs ((rI m (this + 25) (ix v2)) - (rI m (this + 36) (ix v4)))) + (jabs ((rI m (this + 26) (ix v2)) - (rI m (this + 37) (ix v4))))))]) (pc := 52) dX0_minutesOf_52 (Nat.le_of_ble_eq_true rfl) rfl ?_
      refine V_aload_n (i := 0) (pc := 54) dX0_minutesOf_54 rfl rfl ?_
      refine V_getR (b := (this + 1)) (pc := 55) dX0_minutesOf_55 fl_Ca_12 h_this rfl rfl ?_
      refine V_getR (b := (this + 11)) (pc := 58) dX0_minutesOf_58 fl_Ca_88 (kf_0_0 h_this) rfl rfl ?_
      refine V_iload_n (i := 3) (pc := 61) dX0_minutesOf_61 rfl rfl ?_
      refine V_iconst (v := 2) (pc := 62) dX0_minutesOf_62 rfl ?_
      obtain ⟨r63, e63, h⟩ := bnd h
      refine V_invV1 (c := 8) (pc := 63) dX0_minutesOf_63 (e_Ta_at (kf_2_16 (kf_0_0 h_this)) e63) iv_Ca_97 (rm_Ca_minutesOf_Ta_at _ _ _) rfl (kf_2_16 (kf_0_0 h_this)) cf_8 rfl (Nat.le_of_ble_eq_true rfl) rfl ?_
      refine V_iload (i := 5) (pc := 66) dX0_minutesOf_66 rfl ?_
      refine V_imul (pc := 68) dX0_minutesOf_68 ?_
      refine V_aload_n (i := 0) (pc := 69) dX0_minutesOf_69 rfl rfl ?_
      refine V_getR (b := (this + 1)) (pc := 70) dX0_minutesOf_70 fl_Ca_12 h_this rfl rfl ?_
      refine V_getI (pc := 73) dX0_minutesOf_73 fl_Ca_123 (kf_0_0 h_this) rfl ?_
      refine V_imul (pc := 76) dX0_minutesOf_76 ?_
      refine V_aload_n (i := 0) (pc := 77) dX0_minutesOf_77 rfl rfl ?_
      refine V_iload_n (i := 1) (pc := 78) dX0_minutesOf_78 rfl rfl ?_
      refine V_iload_n (i := 2) (pc := 79) dX0_minutesOf_79 rfl rfl ?_
      refine V_iload (i := 4) (pc := 80) dX0_minutesOf_80 rfl ?_
      obtain ⟨r82, e82, h⟩ := bnd h
      refine V_invV1 (c := 0) (pc := 82) dX0_minutesOf_82 (e_Ca_cracksBetween h_this e82) iv_Ca_126 (rm_Ca_minutesOf_Ca_cracksBetween _ _ _) rfl h_this cf_0 rfl (Nat.le_of_ble_eq_true rfl) rfl ?_
      refine V_aload_n (i := 0) (pc := 85) dX0_minutesOf_85 rfl rfl ?_
      refine V_getR (b := (this + 1)) (pc := 86) dX0_minutesOf_86 fl_Ca_12 h_this rfl rfl ?_
      refine V_getI (pc := 89) dX0_minutesOf_89 fl_Ca_129 (kf_0_0 h_this) rfl ?_
      refine V_imul (pc := 92) dX0_minutesOf_92 ?_
      refine V_iadd (pc := 93) dX0_minutesOf_93 ?_
      obtain rfl := Option.some.inj h
      exact E_i (pc := 94) dX0_minutesOf_94 rfl hp
    · have h := ite_t q h
      refine V_iconst (v := 0) (pc := 15) dX0_minutesOf_15 rfl ?_
      obtain rfl := Option.some.inj h
      exact E_i (pc := 16) dX0_minutesOf_16 rfl hp
theorem e_Ca_minutesOf {g : GE} {this : Nat} {v1 : Int32} {v2 : Int32} {v3 : Int32} {v4 : Int32} {m : Mem} (h_this : kd this = 1) {x : Int32} (h : Ca_minutesOf this v1 v2 v3 v4 m = some x) : Ev g Y_Ca_minutesOf [vr this, vi v1, vi v2, vi v3, vi v4] m (some (vi x)) m :=
  Ev_of 1 (by decide +kernel) rfl (Nat.le_of_ble_eq_true rfl) rfl (k_Ca_minutesOf h_this h ⟨rfl, rfl⟩)
theorem k_PL_minutes {g : GE} {this : Nat} {v1 : Int32} {v2 : Int32} {v3 : Int32} {v4 : Int32} {m : Mem} (h_this : kd this = 11) {r : Option AV} {m' : Mem} {x : Int32} (h : PL_minutes this v1 v2 v3 v4 m = some x) (hp : (fun x : Int32 => r = some (vi x) ∧ m' = m) x) : V g Y_PL_minutes 0 [some (vr this), some (vi v1), some (vi v2), some (vi v3), some (vi v4)] [] m (PM g Y_PL_minutes r m') := by
  unfold PL_minutes at h
  refine V_aload_n (i := 0) (pc := 0) dX10_minutes_0 rfl rfl ?_
  refine V_getR (b := (this + 27)) (pc := 1) dX10_minutes_1 fl_PL_19 h_this rfl rfl ?_
  refine V_getR (b := (this + 28)) (pc := 4) dX10_minutes_4 fl_PL_102 (kf_10_1 h_this) rfl rfl ?_
  refine V_iload_n (i := 1) (pc := 7) dX10_minutes_7 rfl rfl ?_
  obtain ⟨r8, e8, h⟩ := bnd h
  refine V_invV1 (c := 2) (pc := 8) dX10_minutes_8 (e_Fl_hasSet (kf_0_0 (kf_10_1 h_this)) e8) iv_PL_167 (rm_PL_minutes_Fl_hasSet _ _ _) rfl (kf_0_0 (kf_10_1 h_this)) cf_2 rfl (Nat.le_of_ble_eq_true rfl) rfl ?_
  refine V_if_eq (pc := 11) (tgt := 46) dX10_minutes_11 rfl (fun q => ?_) (fun q => ?_)
  · have h := ite_t q h
    refine V_bipush (v := (-2)) (pc := 46) dX10_minutes_46 rfl ?_
    obtain rfl := Option.some.inj h
    exact E_i (pc := 48) dX10_minutes_48 rfl hp
  · have h := ite_f q h
    refine V_iload_n (i := 2) (pc := 14) dX10_minutes_14 rfl rfl ?_
    obtain ⟨r15, e15, h⟩ := bnd h
    refine V_invS1 (pc := 15) dX10_minutes_15 (e_PL_isHeap  e15) is_PL_113 (rm_PL_minutes_PL_isHeap _ _ _) rfl (Nat.le_of_ble_eq_true rfl) rfl ?_
    refine V_if_eq (pc := 18) (tgt := 46) dX10_minutes_18 rfl (fun q => ?_) (fun q => ?_)
    · have h := ite_t q h
      refine V_bipush (v := (-2)) (pc := 46) dX10_minutes_46 rfl ?_
      obtain rfl := Option.some.inj h
      exact E_i (pc := 48) dX10_minutes_48 rfl hp
    · have h := ite_f q h
      refine V_iload (i := 4) (pc := 21) dX10_minutes_21 rfl ?_
      obtain ⟨r23, e23, h⟩ := bnd h
      refine V_invS1 (pc := 23) dX10_minutes_23 (e_PL_isGroup  e23) is_PL_150 (rm_PL_minutes_PL_isGroup _ _ _) rfl (Nat.le_of_ble_eq_true rfl) rfl ?_
      refine V_if_eq (pc := 26) (tgt := 46) dX10_minutes_26 rfl (fun q => ?_) (fun q => ?_)
      · have h := ite_t q h
        refine V_bipush (v := (-2)) (pc := 46) dX10_minutes_46 rfl ?_
        obtain rfl := Option.some.inj h
        exact E_i (pc := 48) dX10_minutes_48 rfl hp
      · have h := ite_f q h
        refine V_aload_n (i := 0) (pc := 29) dX10_minutes_29 rfl rfl ?_
        refine V_getR (b := (this + 27)) (pc := 30) dX10_minutes_30 fl_PL_19 h_this rfl rfl ?_
        refine V_getR (b := (this + 28)) (pc := 33) dX10_minutes_33 fl_PL_102 (kf_10_1 h_this) rfl rfl ?_
        refine V_getR (b := (this + 38)) (pc := 36) dX10_minutes_36 fl_PL_130 (kf_0_0 (kf_10_1 h_this)) rfl rfl ?_
        refine V_iload_n (i := 3) (pc := 39) dX10_minutes_39 rfl rfl ?_
        obtain ⟨r40, e40, h⟩ := bnd h
        refine V_invV1 (c := 8) (pc := 40) dX10_minutes_40 (e_Ta_has (kf_2_16 (kf_0_0 (kf_10_1 h_this))) e40) iv_PL_134 (rm_PL_minutes_Ta_has _ _ _) rfl (kf_2_16 (kf_0_0 (kf_10_1 h_this))) cf_8 rfl (Nat.le_of_ble_eq_true rfl) rfl ?_
        refine V_if_ne (pc := 43) (tgt := 49) dX10_minutes_43 rfl (fun q => ?_) (fun q => ?_)
        · have h := ite_f q h
          refine V_aload_n (i := 0) (pc := 49) dX10_minutes_49 rfl rfl ?_
          refine V_getR (b := (this + 27)) (pc := 50) dX10_minutes_50 fl_PL_19 h_this rfl rfl ?_
          refine V_iload_n (i := 2) (pc := 53) dX10_minutes_53 rfl rfl ?_
          obtain ⟨r54, e54, h⟩ := bnd h
          refine V_invV1 (c := 0) (pc := 54) dX10_minutes_54 (e_Ca_hasHeap (kf_10_1 h_this) e54) iv_PL_120 (rm_PL_minutes_Ca_hasHeap _ _ _) rfl (kf_10_1 h_this) cf_0 rfl (Nat.le_of_ble_eq_true rfl) rfl ?_
          refine V_if_eq (pc := 57) (tgt := 75) dX10_minutes_57 rfl (fun q => ?_) (fun q => ?_)
          · have h := ite_t q h
            refine V_iconst (v := (-1)) (pc := 75) dX10_minutes_75 rfl ?_
            obtain rfl := Option.some.inj h
            exact E_i (pc := 76) dX10_minutes_76 rfl hp
          · have h := ite_f q h
            refine V_aload_n (i := 0) (pc := 60) dX10_minutes_60 rfl rfl ?_
            refine V_getR (b := (this + 27)) (pc := 61) dX10_minutes_61 fl_PL_19 h_this rfl rfl ?_
            refine V_iload_n (i := 1) (pc := 64) dX10_minutes_64 rfl rfl ?_
            refine V_iload_n (i := 2) (pc := 65) dX10_minutes_65 rfl rfl ?_
            refine V_iload_n (i := 3) (pc := 66) dX10_minutes_66 rfl rfl ?_
            refine V_iload (i := 4) (pc := 67) dX10_minutes_67 rfl ?_
            obtain ⟨r69, e69, h⟩ := bnd h
            refine V_invV1 (c := 0) (pc := 69) dX10_minutes_69 (e_Ca_minutesOf (kf_10_1 h_this) e69) iv_PL_346 (rm_PL_minutes_Ca_minutesOf _ _ _) rfl (kf_10_1 h_this) cf_0 rfl (Nat.le_of_ble_eq_true rfl) rfl ?_
            refine V_goto (tgt := 76) (pc := 72) dX10_minutes_72 rfl ?_
            obtain rfl := Option.some.inj h
            exact E_i (pc := 76) dX10_minutes_76 rfl hp
        · have h := ite_t q h
          refine V_bipush (v := (-2)) (pc := 46) dX10_minutes_46 rfl ?_
          obtain rfl := Option.some.inj h
          exact E_i (pc := 48) dX10_minutes_48 rfl hp
theorem e_PL_minutes {g : GE} {this : Nat} {v1 : Int32} {v2 : Int32} {v3 : Int32} {v4 : Int32} {m : Mem} (h_this : kd this = 11) {x : Int32} (h : PL_minutes this v1 v2 v3 v4 m = some x) : Ev g Y_PL_minutes [vr this, vi v1, vi v2, vi v3, vi v4] m (some (vi x)) m :=
  Ev_of 0 (by decide +kernel) rfl (Nat.le_of_ble_eq_true rfl) rfl (k_PL_minutes h_this h ⟨rfl, rfl⟩)
theorem k_Ic_isHeapWith {g : GE} {this : Nat} {v1 : Int32} {v2 : Int32} {v3 : Int32} {m : Mem} (h_this : kd this = 5) {r : Option AV} {m' : Mem} {x : Int32} (h : Ic_isHeapWith this v1 v2 v3 m = some x) (hp : (fun x : Int32 => r = some (vi x) ∧ m' = m) x) : V g Y_Ic_isHeapWith 0 [some (vr this), some (vi v1), some (vi v2), some (vi v3)] [] m (PM g Y_Ic_isHeapWith r m') := by
  unfold Ic_isHeapWith at h
  refine V_iload_n (i := 2) (pc := 0) dX4_isHeapWith_0 rfl rfl ?_
  obtain ⟨r1, e1, h⟩ := bnd h
  refine V_invSN1 (pc := 1) dX4_isHeapWith_1 (e_PL_isHeap  e1) isn_Ic_144 (rm_Ic_isHeapWith_PL_isHeap _ _ _) rfl (Nat.le_of_ble_eq_true rfl) rfl ?_
  refine V_if_eq (pc := 4) (tgt := 37) dX4_isHeapWith_4 rfl (fun q => ?_) (fun q => ?_)
  · have h := ite_t q h
    refine V_iconst (v := 0) (pc := 37) dX4_isHeapWith_37 rfl ?_
    obtain rfl := Option.some.inj h
    exact E_z (pc := 38) dX4_isHeapWith_38 rfl rfl hp
  · have h := ite_f q h
    refine V_iload_n (i := 3) (pc := 7) dX4_isHeapWith_7 rfl rfl ?_
    obtain ⟨r8, e8, h⟩ := bnd h
    refine V_invSN1 (pc := 8) dX4_isHeapWith_8 (e_PL_isGroup  e8) isn_Ic_141 (rm_Ic_isHeapWith_PL_isGroup _ _ _) rfl (Nat.le_of_ble_eq_true rfl) rfl ?_
    refine V_if_eq (pc := 11) (tgt := 37) dX4_isHeapWith_11 rfl (fun q => ?_) (fun q => ?_)
    · have h := ite_t q h
      refine V_iconst (v := 0) (pc := 37) dX4_isHeapWith_37 rfl ?_
      obtain rfl := Option.some.inj h
      exact E_z (pc := 38) dX4_isHeapWith_38 rfl rfl hp
    · have h := ite_f q h
      refine V_iload_n (i := 1) (pc := 14) dX4_isHeapWith_14 rfl rfl ?_
      refine V_aload_n (i := 0) (pc := 15) dX4_isHeapWith_15 rfl rfl ?_
      refine V_getR (b := (this + 6)) (pc := 16) dX4_isHeapWith_16 fl_Ic_32 h_this rfl rfl ?_
      refine V_iload_n (i := 2) (pc := 19) dX4_isHeapWith_19 rfl rfl ?_
      obtain ⟨hg20, h⟩ := gd_e h
      refine V_iald (pc := 20) dX4_isHeapWith_20 (kf_4_9 h_this) (af_4_9 h_this) hg20 ?_
      refine V_aload_n (i := 0) (pc := 21) dX4_isHeapWith_21 rfl rfl ?_
      refine V_getR (b := (this + 5)) (pc := 22) dX4_isHeapWith_22 fl_Ic_29 h_this rfl rfl ?_
      refine V_iload_n (i := 3) (pc := 25) dX4_isHeapWith_25 rfl rfl ?_
      obtain ⟨hg26, h⟩ := gd_e h
      refine V_iald (pc := 26) dX4_isHeapWith_26 (kf_4_8 h_this) (af_4_8 h_this) hg26 ?_
      obtain ⟨r27, e27, h⟩ := bnd h
      refine V_invS1 (pc := 27) dX4_isHeapWith_27 (e_Ic_isOnePiece  e27) is_Ic_134 (rm_Ic_isHeapWith_Ic_isOnePiece _ _ _) rfl (Nat.le_of_ble_eq_true rfl) rfl ?_
      refine V_if_eq (pc := 30) (tgt := 37) dX4_isHeapWith_30 rfl (fun q => ?_) (fun q => ?_)
      · have h := ite_t q h
        refine V_iconst (v := 0) (pc := 37) dX4_isHeapWith_37 rfl ?_
        obtain rfl := Option.some.inj h
        exact E_z (pc := 38) dX4_isHeapWith_38 rfl rfl hp
      · have h := ite_f q h
        refine V_iconst (v := 1) (pc := 33) dX4_isHeapWith_33 rfl ?_
        refine V_goto (tgt := 38) (pc := 34) dX4_isHeapWith_34 rfl ?_
        obtain rfl := Option.some.inj h
        exact E_z (pc := 38) dX4_isHeapWith_38 rfl rfl hp
theorem e_Ic_isHeapWith {g : GE} {this : Nat} {v1 : Int32} {v2 : Int32} {v3 : Int32} {m : Mem} (h_this : kd this = 5) {x : Int32} (h : Ic_isHeapWith this v1 v2 v3 m = some x) : Ev g Y_Ic_isHeapWith [vr this, vi v1, vi v2, vi v3] m (some (vi x)) m :=
  Ev_of 0 (by decide +kernel) rfl (Nat.le_of_ble_eq_true rfl) rfl (k_Ic_isHeapWith h_this h ⟨rfl, rfl⟩)
theorem k_St_fetchOf_b147 {g : GE} {this : Nat} {v1 : Nat} {v2 : Nat} {v3 : Int32} {v4 : Int32} {v5 : Int32} {v6 : Int32} {v7 : Int32} {v9 : Int32}  {m : Mem} (h_this : kd this = 8) (h_v1 : kd v1 = 5) (h_v2 : kd v2 = 1) {r : Option AV} {m' : Mem} {x : (Int32 × Mem) ⊕ (Int32 × Mem)} (h : St_fetchOf_b147 this v1 v2 v3 v4 v5 v6 v7 v9 m = some x) (hp : (Sum.elim (fun s : Int32 × Mem => V g Y_St_fetchOf 26 [some (vr this), some (vr v1), some (vr v2), some (vi v3), some (vi v4), some (vi v5), some (vi v6), some (vi v7), some (vr (v2 + 11)), some (vi s.1), none, none] [] s.2 (PM g Y_St_fetchOf r m')) (fun x : Int32 × Mem => r = some (vi x.1) ∧ m' = x.2)) x) : V g Y_St_fetchOf 147 [some (vr this), some (vr v1), some (vr v2), some (vi v3), some (vi v4), some (vi v5), some (vi v6), some (vi v7), some (vr (v2 + 11)), some (vi v9), none, none] [] m (PM g Y_St_fetchOf r m') := by
  unfold St_fetchOf_b147 at h
  refine V_iinc (i := 9) (v := (v9 + (-1))) (ls' := [some (vr this), some (vr v1), some (vr v2), some (vi v3), some (vi v4), some (vi v5), some (vi v6), some (vi v7), some (vr (v2 + 11)), some (vi (v9 + (-1))), none, none]) (pc := 147) dX7_fetchOf_147 rfl rfl (Nat.le_of_ble_eq_true rfl) rfl ?_
  refine V_goto (tgt := 26) (pc := 150) dX7_fetchOf_150 rfl ?_
  obtain rfl := Option.some.inj h
  exact hp
theorem k_St_fetchOf_b141 {g : GE} {this : Nat} {v1 : Nat} {v2 : Nat} {v3 : Int32} {v4 : Int32} {v5 : Int32} {v6 : Int32} {v7 : Int32} {v9 : Int32} {v10 : Int32} {v11 : Int32}  {m : Mem} (h_this : kd this = 8) (h_v1 : kd v1 = 5) (h_v2 : kd v2 = 1) {r : Option AV} {m' : Mem} {x : (Int32 × Mem) ⊕ ((Int32 × Mem) ⊕ (Int32 × Mem))} (h : St_fetchOf_b141 this v1 v2 v3 v4 v5 v6 v7 v9 v10 v11 m = some x) (hp : (Sum.elim (fun s : Int32 × Mem => V g Y_St_fetchOf 68 [some (vr this), some (vr v1), some (vr v2), some (vi v3), some (vi v4), some (vi v5), some (vi v6), some (vi v7), some (vr (v2 + 11)), some (vi v9), some (vi v10), some (vi s.1)] [] s.2 (PM g Y_St_fetchOf r m')) (Sum.elim (fun s : Int32 × Mem => V g Y_St_fetchOf 26 [some (vr this), some (vr v1), some (vr v2), some (vi v3), some (vi v4), some (vi v5), some (vi v6), some (vi v7), some (vr (v2 + 11)), some (vi s.1), none, none] [] s.2 (PM g Y_St_fetchOf r m')) (fun x : Int32 × Mem => r = some (vi x.1) ∧ m' = x.2))) x) : V g Y_St_fetchOf 141 [some (vr this), some (vr v1), some (vr v2), some (vi v3), some (vi v4), some (vi v5), some (vi v6), some (vi v7), some (vr (v2 + 11)), some (vi v9), some (vi v10), some (vi v11)] [] m (PM g Y_St_fetchOf r m') := by
  unfold St_fetchOf_b141 at h
  refine V_iinc (i := 11) (v := (v11 + (-1))) (ls' := [some (vr this), some (vr v1), some (vr v2), some (vi v3), some (vi v4), some (vi v5), some (vi v6), some (vi v7), some (vr (v2 + 11)), some (vi v9), some (vi v10), some (vi (v11 + (-1)))]) (pc := 141) dX7_fetchOf_141 rfl rfl (Nat.le_of_ble_eq_true rfl) rfl ?_
  refine V_goto (tgt := 68) (pc := 144) dX7_fetchOf_144 rfl ?_
  obtain rfl := Option.some.inj h
  exact hp
theorem k_St_fetchOf_b138 {g : GE} {this : Nat} {v1 : Nat} {v2 : Nat} {v3 : Int32} {v4 : Int32} {v5 : Int32} {v6 : Int32} {v7 : Int32} {v9 : Int32} {v10 : Int32} {v11 : Int32} {k1 : Int32} {k2 : Int32} {k3 : Int32} {k4 : Int32}  {m : Mem} (h_this : kd this = 8) (h_v1 : kd v1 = 5) (h_v2 : kd v2 = 1) {r : Option AV} {m' : Mem} {x : (Int32 × Mem) ⊕ ((Int32 × Mem) ⊕ (Int32 × Mem))} (h : St_fetchOf_b138 this v1 v2 v3 v4 v5 v6 v7 v9 v10 v11 k1 k2 k3 k4 m = some x) (hp : (Sum.elim (fun s : Int32 × Mem => V g Y_St_fetchOf 68 [some (vr this), some (vr v1), some (vr v2), some (vi v3), some (vi v4), some (vi v5), some (vi v6), some (vi v7), some (vr (v2 + 11)), some (vi v9), some (vi v10), some (vi s.1)] [] s.2 (PM g Y_St_fetchOf r m')) (Sum.elim (fun s : Int32 × Mem => V g Y_St_fetchOf 26 [some (vr this), some (vr v1), some (vr v2), some (vi v3), some (vi v4), some (vi v5), some (vi v6), some (vi v7), some (vr (v2 + 11)), some (vi s.1), none, none] [] s.2 (PM g Y_St_fetchOf r m')) (fun x : Int32 × Mem => r = some (vi x.1) ∧ m' = x.2))) x) : V g Y_St_fetchOf 138 [some (vr this), some (vr v1), some (vr v2), some (vi v3), some (vi v4), some (vi v5), some (vi v6), some (vi v7), some (vr (v2 + 11)), some (vi v9), some (vi v10), some (vi v11)] [vi k4, vi k3, vi k2, vi k1, vr this] m (PM g Y_St_fetchOf r m') := by
  unfold St_fetchOf_b138 at h
  obtain ⟨m138, e138, h⟩ := bnd h
  refine V_invV0 (c := 7) (pc := 138) dX7_fetchOf_138 (e_St_offer h_this e138) iv_St_45 (rm_St_fetchOf_St_offer _ _ _) rfl h_this cf_7 rfl (Nat.le_of_ble_eq_true rfl) rfl ?_
  exact k_St_fetchOf_b141 h_this h_v1 h_v2 h hp
theorem k_St_fetchOf_b137 {g : GE} {this : Nat} {v1 : Nat} {v2 : Nat} {v3 : Int32} {v4 : Int32} {v5 : Int32} {v6 : Int32} {v7 : Int32} {v9 : Int32} {v10 : Int32} {v11 : Int32} {k1 : Int32} {k2 : Int32} {k3 : Int32}  {m : Mem} (h_this : kd this = 8) (h_v1 : kd v1 = 5) (h_v2 : kd v2 = 1) {r : Option AV} {m' : Mem} {x : (Int32 × Mem) ⊕ ((Int32 × Mem) ⊕ (Int32 × Mem))} (h : St_fetchOf_b137 this v1 v2 v3 v4 v5 v6 v7 v9 v10 v11 k1 k2 k3 m = some x) (hp : (Sum.elim (fun s : Int32 × Mem => V g Y_St_fetchOf 68 [some (vr this), some (vr v1), some (vr v2), some (vi v3), some (vi v4), some (vi v5), some (vi v6), some (vi v7), some (vr (v2 + 11)), some (vi v9), some (vi v10), some (vi s.1)] [] s.2 (PM g Y_St_fetchOf r m')) (Sum.elim (fun s : Int32 × Mem => V g Y_St_fetchOf 26 [some (vr this), some (vr v1), some (vr v2), some (vi v3), some (vi v4), some (vi v5), some (vi v6), some (vi v7), some (vr (v2 + 11)), some (vi s.1), none, none] [] s.2 (PM g Y_St_fetchOf r m')) (fun x : Int32 × Mem => r = some (vi x.1) ∧ m' = x.2))) x) : V g Y_St_fetchOf 137 [some (vr this), some (vr v1), some (vr v2), some (vi v3), some (vi v4), some (vi v5), some (vi v6), some (vi v7), some (vr (v2 + 11)), some (vi v9), some (vi v10), some (vi v11)] [vi k3, vi k2, vi k1, vr this] m (PM g Y_St_fetchOf r m') := by
  unfold St_fetchOf_b137 at h
  refine V_iconst (v := 0) (pc := 137) dX7_fetchOf_137 rfl ?_
  exact k_St_fetchOf_b138 h_this h_v1 h_v2 h hp
theorem k_St_fetchOf_l68 {g : GE} {this : Nat} {v1 : Nat} {v2 : Nat} {v3 : Int32} {v4 : Int32} {v5 : Int32} {v6 : Int32} {v7 : Int32} {v9 : Int32} {v10 : Int32} {v11 : Int32} {m : Mem} (h_this : kd this = 8) (h_v1 : kd v1 = 5) (h_v2 : kd v2 = 1) {r : Option AV} {m' : Mem} {x : (Int32 × Mem) ⊕ ((Int32 × Mem) ⊕ (Int32 × Mem))} (h : St_fetchOf_l68 this v1 v2 v3 v4 v5 v6 v7 v9 v10 v11 m = some x) (hp : (Sum.elim (fun s : Int32 × Mem => V g Y_St_fetchOf 68 [some (vr this), some (vr v1), some (vr v2), some (vi v3), some (vi v4), some (vi v5), some (vi v6), some (vi v7), some (vr (v2 + 11)), some (vi v9), some (vi v10), some (vi s.1)] [] s.2 (PM g Y_St_fetchOf r m')) (Sum.elim (fun s : Int32 × Mem => V g Y_St_fetchOf 26 [some (vr this), some (vr v1), some (vr v2), some (vi v3), some (vi v4), some (vi v5), some (vi v6), some (vi v7), some (vr (v2 + 11)), some (vi s.1), none, none] [] s.2 (PM g Y_St_fetchOf r m')) (fun x : Int32 × Mem => r = some (vi x.1) ∧ m' = x.2))) x) : V g Y_St_fetchOf 68 [some (vr this), some (vr v1), some (vr v2), some (vi v3), some (vi v4), some (vi v5), some (vi v6), some (vi v7), some (vr (v2 + 11)), some (vi v9), some (vi v10), some (vi v11)] [] m (PM g Y_St_fetchOf r m') := by
  unfold St_fetchOf_l68 at h
  refine V_iload (i := 11) (pc := 68) dX7_fetchOf_68 rfl ?_
  refine V_if_lt (pc := 70) (tgt := 147) dX7_fetchOf_70 rfl (fun q => ?_) (fun q => ?_)
  · have h := ite_t q h
    obtain ⟨y2, hu2, rfl⟩ := up_e h
    have h := hu2
    refine V_sub (ls' := [some (vr this), some (vr v1), some (vr v2), some (vi v3), some (vi v4), some (vi v5), some (vi v6), some (vi v7), some (vr (v2 + 11)), some (vi v9), none, none]) (And.intro rfl (And.intro rfl (And.intro rfl (And.intro rfl (And.intro rfl (And.intro rfl (And.intro rfl (And.intro rfl (And.intro rfl (And.intro rfl trivial)))))))))) ?_
    exact k_St_fetchOf_b147 h_this h_v1 h_v2 h hp
  · have h := ite_f q h
    refine V_iload (i := 10) (pc := 73) dX7_fetchOf_73 rfl ?_
    refine V_if_eq (pc := 75) (tgt := 147) dX7_fetchOf_75 rfl (fun q => ?_) (fun q => ?_)
    · have h := ite_t q h
      obtain ⟨y3, hu3, rfl⟩ := up_e h
      have h := hu3
      refine V_sub (ls' := [some (vr this), some (vr v1), some (vr v2), some (vi v3), some (vi v4), some (vi v5), some (vi v6), some (vi v7), some (vr (v2 + 11)), some (vi v9), none, none]) (And.intro rfl (And.intro rfl (And.intro rfl (And.intro rfl (And.intro rfl (And.intro rfl (And.intro rfl (And.intro rfl (And.intro rfl (And.intro rfl trivial)))))))))) ?_
      exact k_St_fetchOf_b147 h_this h_v1 h_v2 h hp
    · have h := ite_f q h
      refine V_aload (i := 8) (pc := 78) dX7_fetchOf_78 rfl ?_
      refine V_iload (i := 11) (pc := 80) dX7_fetchOf_80 rfl ?_
      refine V_iconst (v := 0) (pc := 82) dX7_fetchOf_82 rfl ?_
      obtain ⟨r83, e83, h⟩ := bnd h
      refine V_invV1 (c := 8) (pc := 83) dX7_fetchOf_83 (e_Ta_at (kf_2_16 (kf_0_0 h_v2)) e83) iv_St_41 (rm_St_fetchOf_Ta_at _ _ _) rfl (kf_2_16 (kf_0_0 h_v2)) cf_8 rfl (Nat.le_of_ble_eq_true rfl) rfl ?_
      refine V_iload (i := 5) (pc := 86) dX7_fetchOf_86 rfl ?_
      refine V_icmp_ne (pc := 88) (tgt := 141) dX7_fetchOf_88 rfl (fun q => ?_) (fun q => ?_)
      · have h := ite_f q h
        exact k_St_fetchOf_b141 h_this h_v1 h_v2 h hp
      · have h := ite_t q h
        refine V_aload_n (i := 0) (pc := 91) dX7_fetchOf_91 rfl rfl ?_
        refine V_aload_n (i := 2) (pc := 92) dX7_fetchOf_92 rfl rfl ?_
        refine V_iload (i := 9) (pc := 93) dX7_fetchOf_93 rfl ?_
        refine V_iload (i := 11) (pc := 95) dX7_fetchOf_95 rfl ?_
        obtain ⟨r97, e97, h⟩ := bnd h
        refine V_invV1 (c := 0) (pc := 97) dX7_fetchOf_97 (e_Ca_unitsIn h_v2 e97) iv_St_79 (rm_St_fetchOf_Ca_unitsIn _ _ _) rfl h_v2 cf_0 rfl (Nat.le_of_ble_eq_true rfl) rfl ?_
        refine V_aload (i := 8) (pc := 100) dX7_fetchOf_100 rfl ?_
        refine V_iload (i := 11) (pc := 102) dX7_fetchOf_102 rfl ?_
        refine V_iconst (v := 1) (pc := 104) dX7_fetchOf_104 rfl ?_
        obtain ⟨r105, e105, h⟩ := bnd h
        refine V_invV1 (c := 8) (pc := 105) dX7_fetchOf_105 (e_Ta_at (kf_2_16 (kf_0_0 h_v2)) e105) iv_St_41 (rm_St_fetchOf_Ta_at _ _ _) rfl (kf_2_16 (kf_0_0 h_v2)) cf_8 rfl (Nat.le_of_ble_eq_true rfl) rfl ?_
        refine V_aload_n (i := 2) (pc := 108) dX7_fetchOf_108 rfl rfl ?_
        refine V_iload_n (i := 3) (pc := 109) dX7_fetchOf_109 rfl rfl ?_
        refine V_iload (i := 9) (pc := 110) dX7_fetchOf_110 rfl ?_
        refine V_iload (i := 11) (pc := 112) dX7_fetchOf_112 rfl ?_
        refine V_iload (i := 4) (pc := 114) dX7_fetchOf_114 rfl ?_
        obtain ⟨r116, e116, h⟩ := bnd h
        refine V_invV1 (c := 0) (pc := 116) dX7_fetchOf_116 (e_Ca_minutesOf h_v2 e116) iv_St_82 (rm_St_fetchOf_Ca_minutesOf _ _ _) rfl h_v2 cf_0 rfl (Nat.le_of_ble_eq_true rfl) rfl ?_
        refine V_iload (i := 9) (pc := 119) dX7_fetchOf_119 rfl ?_
        refine V_iload (i := 6) (pc := 121) dX7_fetchOf_121 rfl ?_
        refine V_icmp_ne (pc := 123) (tgt := 137) dX7_fetchOf_123 rfl (fun q => ?_) (fun q => ?_)
        · have h := ite_f q h
          exact k_St_fetchOf_b137 h_this h_v1 h_v2 h hp
        · have h := ite_t q h
          refine V_iload (i := 11) (pc := 126) dX7_fetchOf_126 rfl ?_
          refine V_iload (i := 7) (pc := 128) dX7_fetchOf_128 rfl ?_
          refine V_icmp_ne (pc := 130) (tgt := 137) dX7_fetchOf_130 rfl (fun q => ?_) (fun q => ?_)
          · have h := ite_f q h
            exact k_St_fetchOf_b137 h_this h_v1 h_v2 h hp
          · have h := ite_t q h
            refine V_iconst (v := 1) (pc := 133) dX7_fetchOf_133 rfl ?_
            refine V_goto (tgt := 138) (pc := 134) dX7_fetchOf_134 rfl ?_
            exact k_St_fetchOf_b138 h_this h_v1 h_v2 h hp
theorem k_St_fetchOf_b57 {g : GE} {this : Nat} {v1 : Nat} {v2 : Nat} {v3 : Int32} {v4 : Int32} {v5 : Int32} {v6 : Int32} {v7 : Int32} {v9 : Int32} {k0 : Int32}  {m : Mem} (h_this : kd this = 8) (h_v1 : kd v1 = 5) (h_v2 : kd v2 = 1) {r : Option AV} {m' : Mem} {x : (Int32 × Mem) ⊕ (Int32 × Mem)} (h : St_fetchOf_b57 this v1 v2 v3 v4 v5 v6 v7 v9 k0 m = some x) (hp : (Sum.elim (fun s : Int32 × Mem => V g Y_St_fetchOf 26 [some (vr this), some (vr v1), some (vr v2), some (vi v3), some (vi v4), some (vi v5), some (vi v6), some (vi v7), some (vr (v2 + 11)), some (vi s.1), none, none] [] s.2 (PM g Y_St_fetchOf r m')) (fun x : Int32 × Mem => r = some (vi x.1) ∧ m' = x.2)) x) : V g Y_St_fetchOf 57 [some (vr this), some (vr v1), some (vr v2), some (vi v3), some (vi v4), some (vi v5), some (vi v6), some (vi v7), some (vr (v2 + 11)), some (vi v9), none, none] [vi k0] m (PM g Y_St_fetchOf r m') := by
  unfold St_fetchOf_b57 at h
  refine V_istore (i := 10) (ls' := [some (vr this), some (vr v1), some (vr v2), some (vi v3), some (vi v4), some (vi v5), some (vi v6), some (vi v7), some (vr (v2 + 11)), some (vi v9), some (vi k0), none]) (pc := 57) dX7_fetchOf_57 (Nat.le_of_ble_eq_true rfl) rfl ?_
  refine V_aload (i := 8) (pc := 59) dX7_fetchOf_59 rfl ?_
  refine V_getI (pc := 61) dX7_fetchOf_61 fl_St_36 (kf_2_16 (kf_0_0 h_v2)) rfl ?_
  refine V_iconst (v := 1) (pc := 64) dX7_fetchOf_64 rfl ?_
  refine V_isub (pc := 65) dX7_fetchOf_65 ?_
  refine V_istore (i := 11) (ls' := [some (vr this), some (vr v1), some (vr v2), some (vi v3), some (vi v4), some (vi v5), some (vi v6), some (vi v7), some (vr (v2 + 11)), some (vi v9), some (vi k0), some (vi ((rI m (v2 + 11) 1) - 1))]) (pc := 66) dX7_fetchOf_66 (Nat.le_of_ble_eq_true rfl) rfl ?_
  exact loop_V (A := fun s : Int32 × Mem => V g Y_St_fetchOf 68 [some (vr this), some (vr v1), some (vr v2), some (vi v3), some (vi v4), some (vi v5), some (vi v6), some (vi v7), some (vr (v2 + 11)), some (vi v9), some (vi k0), some (vi s.1)] [] s.2 (PM g Y_St_fetchOf r m')) (fun s x h hp => k_St_fetchOf_l68 h_this h_v1 h_v2 h hp) (((rI m (v2 + 11) 1) - 1), m) _ h hp
theorem k_St_fetchOf_b56 {g : GE} {this : Nat} {v1 : Nat} {v2 : Nat} {v3 : Int32} {v4 : Int32} {v5 : Int32} {v6 : Int32} {v7 : Int32} {v9 : Int32}  {m : Mem} (h_this : kd this = 8) (h_v1 : kd v1 = 5) (h_v2 : kd v2 = 1) {r : Option AV} {m' : Mem} {x : (Int32 × Mem) ⊕ (Int32 × Mem)} (h : St_fetchOf_b56 this v1 v2 v3 v4 v5 v6 v7 v9 m = some x) (hp : (Sum.elim (fun s : Int32 × Mem => V g Y_St_fetchOf 26 [some (vr this), some (vr v1), some (vr v2), some (vi v3), some (vi v4), some (vi v5), some (vi v6), some (vi v7), some (vr (v2 + 11)), some (vi s.1), none, none] [] s.2 (PM g Y_St_fetchOf r m')) (fun x : Int32 × Mem => r = some (vi x.1) ∧ m' = x.2)) x) : V g Y_St_fetchOf 56 [some (vr this), some (vr v1), some (vr v2), some (vi v3), some (vi v4), some (vi v5), some (vi v6), some (vi v7), some (vr (v2 + 11)), some (vi v9), none, none] [] m (PM g Y_St_fetchOf r m') := by
  unfold St_fetchOf_b56 at h
  refine V_iconst (v := 0) (pc := 56) dX7_fetchOf_56 rfl ?_
  exact k_St_fetchOf_b57 h_this h_v1 h_v2 h hp
theorem k_St_fetchOf_l26 {g : GE} {this : Nat} {v1 : Nat} {v2 : Nat} {v3 : Int32} {v4 : Int32} {v5 : Int32} {v6 : Int32} {v7 : Int32} {v9 : Int32} {m : Mem} (h_this : kd this = 8) (h_v1 : kd v1 = 5) (h_v2 : kd v2 = 1) {r : Option AV} {m' : Mem} {x : (Int32 × Mem) ⊕ (Int32 × Mem)} (h : St_fetchOf_l26 this v1 v2 v3 v4 v5 v6 v7 v9 m = some x) (hp : (Sum.elim (fun s : Int32 × Mem => V g Y_St_fetchOf 26 [some (vr this), some (vr v1), some (vr v2), some (vi v3), some (vi v4), some (vi v5), some (vi v6), some (vi v7), some (vr (v2 + 11)), some (vi s.1), none, none] [] s.2 (PM g Y_St_fetchOf r m')) (fun x : Int32 × Mem => r = some (vi x.1) ∧ m' = x.2)) x) : V g Y_St_fetchOf 26 [some (vr this), some (vr v1), some (vr v2), some (vi v3), some (vi v4), some (vi v5), some (vi v6), some (vi v7), some (vr (v2 + 11)), some (vi v9), none, none] [] m (PM g Y_St_fetchOf r m') := by
  unfold St_fetchOf_l26 at h
  refine V_iload (i := 9) (pc := 26) dX7_fetchOf_26 rfl ?_
  refine V_if_lt (pc := 28) (tgt := 153) dX7_fetchOf_28 rfl (fun q => ?_) (fun q => ?_)
  · have h := ite_t q h
    obtain ⟨y1, hu1, rfl⟩ := up_e h
    have h := hu1
    refine V_aload_n (i := 0) (pc := 153) dX7_fetchOf_153 rfl rfl ?_
    refine V_aload_n (i := 0) (pc := 154) dX7_fetchOf_154 rfl rfl ?_
    refine V_getI (pc := 155) dX7_fetchOf_155 fl_St_18 h_this rfl ?_
    obtain ⟨r158, e158, h⟩ := bnd h
    refine V_invV1 (c := 7) (pc := 158) dX7_fetchOf_158 (e_St_costOf h_this e158) iv_St_49 (rm_St_fetchOf_St_costOf _ _ _) rfl h_this cf_7 rfl (Nat.le_of_ble_eq_true rfl) rfl ?_
    obtain rfl := Option.some.inj h
    exact E_i (pc := 161) dX7_fetchOf_161 rfl hp
  · have h := ite_f q h
    refine V_aload_n (i := 2) (pc := 31) dX7_fetchOf_31 rfl rfl ?_
    refine V_iload (i := 9) (pc := 32) dX7_fetchOf_32 rfl ?_
    obtain ⟨r34, e34, h⟩ := bnd h
    refine V_invV1 (c := 0) (pc := 34) dX7_fetchOf_34 (e_Ca_hasHeap h_v2 e34) iv_St_72 (rm_St_fetchOf_Ca_hasHeap _ _ _) rfl h_v2 cf_0 rfl (Nat.le_of_ble_eq_true rfl) rfl ?_
    refine V_if_eq (pc := 37) (tgt := 56) dX7_fetchOf_37 rfl (fun q => ?_) (fun q => ?_)
    · have h := ite_t q h
      exact k_St_fetchOf_b56 h_this h_v1 h_v2 h hp
    · have h := ite_f q h
      refine V_aload_n (i := 1) (pc := 40) dX7_fetchOf_40 rfl rfl ?_
      refine V_iload_n (i := 3) (pc := 41) dX7_fetchOf_41 rfl rfl ?_
      refine V_iload (i := 9) (pc := 42) dX7_fetchOf_42 rfl ?_
      refine V_iload (i := 4) (pc := 44) dX7_fetchOf_44 rfl ?_
      obtain ⟨r46, e46, h⟩ := bnd h
      refine V_invV1 (c := 4) (pc := 46) dX7_fetchOf_46 (e_Ic_isHeapWith h_v1 e46) iv_St_75 (rm_St_fetchOf_Ic_isHeapWith _ _ _) rfl h_v1 cf_4 rfl (Nat.le_of_ble_eq_true rfl) rfl ?_
      refine V_if_ne (pc := 49) (tgt := 56) dX7_fetchOf_49 rfl (fun q => ?_) (fun q => ?_)
      · have h := ite_f q h
        exact k_St_fetchOf_b56 h_this h_v1 h_v2 h hp
      · have h := ite_t q h
        refine V_iconst (v := 1) (pc := 52) dX7_fetchOf_52 rfl ?_
        refine V_goto (tgt := 57) (pc := 53) dX7_fetchOf_53 rfl ?_
        exact k_St_fetchOf_b57 h_this h_v1 h_v2 h hp
theorem k_St_fetchOf {g : GE} {this : Nat} {v1 : Nat} {v2 : Nat} {v3 : Int32} {v4 : Int32} {v5 : Int32} {v6 : Int32} {v7 : Int32} {m : Mem} (h_this : kd this = 8) (h_v1 : kd v1 = 5) (h_v2 : kd v2 = 1) {r : Option AV} {m' : Mem} {x : Int32 × Mem} (h : St_fetchOf this v1 v2 v3 v4 v5 v6 v7 m = some x) (hp : (fun x : Int32 × Mem => r = some (vi x.1) ∧ m' = x.2) x) : V g Y_St_fetchOf 0 [some (vr this), some (vr v1), some (vr v2), some (vi v3), some (vi v4), some (vi v5), some (vi v6), some (vi v7), none, none, none, none] [] m (PM g Y_St_fetchOf r m') := by
  unfold St_fetchOf at h
  refine V_aload_n (i := 2) (pc := 0) dX7_fetchOf_0 rfl rfl ?_
  refine V_getR (b := (v2 + 1)) (pc := 1) dX7_fetchOf_1 fl_St_61 h_v2 rfl rfl ?_
  refine V_getR (b := (v2 + 11)) (pc := 4) dX7_fetchOf_4 fl_St_32 (kf_0_0 h_v2) rfl rfl ?_
  refine V_astore (i := 8) (ls' := [some (vr this), some (vr v1), some (vr v2), some (vi v3), some (vi v4), some (vi v5), some (vi v6), some (vi v7), some (vr (v2 + 11)), none, none, none]) (pc := 7) dX7_fetchOf_7 (Nat.le_of_ble_eq_true rfl) rfl ?_
  refine V_aload_n (i := 0) (pc := 9) dX7_fetchOf_9 rfl rfl ?_
  refine V_aload_n (i := 1) (pc := 10) dX7_fetchOf_10 rfl rfl ?_
  refine V_iload_n (i := 3) (pc := 11) dX7_fetchOf_11 rfl rfl ?_
  refine V_iload (i := 4) (pc := 12) dX7_fetchOf_12 rfl ?_
  refine V_iload (i := 5) (pc := 14) dX7_fetchOf_14 rfl ?_
  obtain ⟨r16, e16, h⟩ := bnd h
  refine V_invV1 (c := 4) (pc := 16) dX7_fetchOf_16 (e_Ic_shortOf h_v1 e16) iv_St_67 (rm_St_fetchOf_Ic_shortOf _ _ _) rfl h_v1 cf_4 rfl (Nat.le_of_ble_eq_true rfl) rfl ?_
  obtain ⟨m19, e19, h⟩ := bnd h
  refine V_invV0 (c := 7) (pc := 19) dX7_fetchOf_19 (e_St_begin h_this e19) iv_St_28 (rm_St_fetchOf_St_begin _ _ _) rfl h_this cf_7 rfl (Nat.le_of_ble_eq_true rfl) rfl ?_
  refine V_bipush (v := 7) (pc := 22) dX7_fetchOf_22 rfl ?_
  refine V_istore (i := 9) (ls' := [some (vr this), some (vr v1), some (vr v2), some (vi v3), some (vi v4), some (vi v5), some (vi v6), some (vi v7), some (vr (v2 + 11)), some (vi 7), none, none]) (pc := 24) dX7_fetchOf_24 (Nat.le_of_ble_eq_true rfl) rfl ?_
  exact loop_V (A := fun s : Int32 × Mem => V g Y_St_fetchOf 26 [some (vr this), some (vr v1), some (vr v2), some (vi v3), some (vi v4), some (vi v5), some (vi v6), some (vi v7), some (vr (v2 + 11)), some (vi s.1), none, none] [] s.2 (PM g Y_St_fetchOf r m')) (fun s x h hp => k_St_fetchOf_l26 h_this h_v1 h_v2 h hp) (7, m19) _ h hp
theorem e_St_fetchOf {g : GE} {this : Nat} {v1 : Nat} {v2 : Nat} {v3 : Int32} {v4 : Int32} {v5 : Int32} {v6 : Int32} {v7 : Int32} {m : Mem} (h_this : kd this = 8) (h_v1 : kd v1 = 5) (h_v2 : kd v2 = 1) {x : Int32 × Mem} (h : St_fetchOf this v1 v2 v3 v4 v5 v6 v7 m = some x) : Ev g Y_St_fetchOf [vr this, vr v1, vr v2, vi v3, vi v4, vi v5, vi v6, vi v7] m (some (vi x.1)) x.2 :=
  Ev_of 4 (by decide +kernel) rfl (Nat.le_of_ble_eq_true rfl) rfl (k_St_fetchOf h_this h_v1 h_v2 h ⟨rfl, rfl⟩)
theorem k_PL_fetch_l40 {g : GE} {this : Nat} {v1 : Int32} {v2 : Int32} {v3 : Int32} {v4 : Int32} {m : Mem} (h_this : kd this = 11) {r : Option AV} {m' : Mem} {x : (Int32 × Int32 × Mem) ⊕ (Int32 × Mem)} (h : PL_fetch_l40 this v1 v2 v3 v4 m = some x) (hp : (Sum.elim (fun s : Int32 × Int32 × Mem => V g Y_PL_fetch 40 [some (vr this), some (vi v1), some (vi v2), some (vi s.1), some (vi s.2.1), none] [] s.2.2 (PM g Y_PL_fetch r m')) (fun x : Int32 × Mem => r = some (vi x.1) ∧ m' = x.2)) x) : V g Y_PL_fetch 40 [some (vr this), some (vi v1), some (vi v2), some (vi v3), some (vi v4), none] [] m (PM g Y_PL_fetch r m') := by
  unfold PL_fetch_l40 at h
  refine V_iload (i := 4) (pc := 40) dX10_fetch_40 rfl ?_
  refine V_iconst (v := 4) (pc := 42) dX10_fetch_42 rfl ?_
  refine V_icmp_ge (pc := 43) (tgt := 88) dX10_fetch_43 rfl (fun q => ?_) (fun q => ?_)
  · have h := ite_t q h
    obtain ⟨y1, hu1, rfl⟩ := up_e h
    have h := hu1
    refine V_iload_n (i := 3) (pc := 88) dX10_fetch_88 rfl rfl ?_
    obtain rfl := Option.some.inj h
    exact E_i (pc := 89) dX10_fetch_89 rfl hp
  · have h := ite_f q h
    refine V_aload_n (i := 0) (pc := 46) dX10_fetch_46 rfl rfl ?_
    refine V_getR (b := (this + 278)) (pc := 47) dX10_fetch_47 fl_PL_55 h_this rfl rfl ?_
    refine V_aload_n (i := 0) (pc := 50) dX10_fetch_50 rfl rfl ?_
    refine V_getR (b := (this + 202)) (pc := 51) dX10_fetch_51 fl_PL_41 h_this rfl rfl ?_
    refine V_aload_n (i := 0) (pc := 54) dX10_fetch_54 rfl rfl ?_
    refine V_getR (b := (this + 27)) (pc := 55) dX10_fetch_55 fl_PL_19 h_this rfl rfl ?_
    refine V_iload_n (i := 1) (pc := 58) dX10_fetch_58 rfl rfl ?_
    refine V_iload_n (i := 2) (pc := 59) dX10_fetch_59 rfl rfl ?_
    refine V_iload (i := 4) (pc := 60) dX10_fetch_60 rfl ?_
    refine V_iconst (v := (-1)) (pc := 62) dX10_fetch_62 rfl ?_
    refine V_iconst (v := (-1)) (pc := 63) dX10_fetch_63 rfl ?_
    obtain ⟨r64, e64, h⟩ := bnd h
    refine V_invV1 (c := 7) (pc := 64) dX10_fetch_64 (e_St_fetchOf (kf_10_7 h_this) (kf_10_5 h_this) (kf_10_1 h_this) e64) iv_PL_350 (rm_PL_fetch_St_fetchOf _ _ _) rfl (kf_10_7 h_this) cf_7 rfl (Nat.le_of_ble_eq_true rfl) rfl ?_
    refine V_istore (i := 5) (ls' := [some (vr this), some (vi v1), some (vi v2), some (vi v3), some (vi v4), some (vi r64.1)]) (pc := 67) dX10_fetch_67 (Nat.le_of_ble_eq_true rfl) rfl ?_
    refine V_iload (i := 5) (pc := 69) dX10_fetch_69 rfl ?_
    refine V_iconst (v := (-1)) (pc := 71) dX10_fetch_71 rfl ?_
    refine V_icmp_ne (pc := 72) (tgt := 77) dX10_fetch_72 rfl (fun q => ?_) (fun q => ?_)
    · have h := ite_f q h
      refine V_iload_n (i := 3) (pc := 77) dX10_fetch_77 rfl rfl ?_
      refine V_iload (i := 5) (pc := 78) dX10_fetch_78 rfl ?_
      refine V_iadd (pc := 80) dX10_fetch_80 ?_
      refine V_istore_n (i := 3) (ls' := [some (vr this), some (vi v1), some (vi v2), some (vi (v3 + r64.1)), some (vi v4), some (vi r64.1)]) (pc := 81) dX10_fetch_81 rfl (Nat.le_of_ble_eq_true rfl) rfl ?_
      refine V_iinc (i := 4) (v := (v4 + 1)) (ls' := [some (vr this), some (vi v1), some (vi v2), some (vi (v3 + r64.1)), some (vi (v4 + 1)), some (vi r64.1)]) (pc := 82) dX10_fetch_82 rfl rfl (Nat.le_of_ble_eq_true rfl) rfl ?_
      refine V_goto (tgt := 40) (pc := 85) dX10_fetch_85 rfl ?_
      refine V_sub (ls' := [some (vr this), some (vi v1), some (vi v2), some (vi (v3 + r64.1)), some (vi (v4 + 1)), none]) (And.intro rfl (And.intro rfl (And.intro rfl (And.intro rfl (And.intro rfl trivial))))) ?_
      obtain rfl := Option.some.inj h
      exact hp
    · have h := ite_t q h
      obtain ⟨y2, hu2, rfl⟩ := up_e h
      have h := hu2
      refine V_iconst (v := (-1)) (pc := 75) dX10_fetch_75 rfl ?_
      obtain rfl := Option.some.inj h
      exact E_i (pc := 76) dX10_fetch_76 rfl hp
theorem k_PL_fetch {g : GE} {this : Nat} {v1 : Int32} {v2 : Int32} {m : Mem} (h_this : kd this = 11) {r : Option AV} {m' : Mem} {x : Int32 × Mem} (h : PL_fetch this v1 v2 m = some x) (hp : (fun x : Int32 × Mem => r = some (vi x.1) ∧ m' = x.2) x) : V g Y_PL_fetch 0 [some (vr this), some (vi v1), some (vi v2), none, none, none] [] m (PM g Y_PL_fetch r m') := by
  unfold PL_fetch at h
  refine V_aload_n (i := 0) (pc := 0) dX10_fetch_0 rfl rfl ?_
  refine V_getR (b := (this + 27)) (pc := 1) dX10_fetch_1 fl_PL_19 h_this rfl rfl ?_
  refine V_getR (b := (this + 28)) (pc := 4) dX10_fetch_4 fl_PL_102 (kf_10_1 h_this) rfl rfl ?_
  refine V_iload_n (i := 1) (pc := 7) dX10_fetch_7 rfl rfl ?_
  obtain ⟨r8, e8, h⟩ := bnd h
  refine V_invV1 (c := 2) (pc := 8) dX10_fetch_8 (e_Fl_hasSet (kf_0_0 (kf_10_1 h_this)) e8) iv_PL_167 (rm_PL_fetch_Fl_hasSet _ _ _) rfl (kf_0_0 (kf_10_1 h_this)) cf_2 rfl (Nat.le_of_ble_eq_true rfl) rfl ?_
  refine V_if_eq (pc := 11) (tgt := 21) dX10_fetch_11 rfl (fun q => ?_) (fun q => ?_)
  · have h := ite_t q h
    refine V_bipush (v := (-2)) (pc := 21) dX10_fetch_21 rfl ?_
    obtain rfl := Option.some.inj h
    exact E_i (pc := 23) dX10_fetch_23 rfl hp
  · have h := ite_f q h
    refine V_iload_n (i := 2) (pc := 14) dX10_fetch_14 rfl rfl ?_
    obtain ⟨r15, e15, h⟩ := bnd h
    refine V_invS1 (pc := 15) dX10_fetch_15 (e_PL_isGroup  e15) is_PL_150 (rm_PL_fetch_PL_isGroup _ _ _) rfl (Nat.le_of_ble_eq_true rfl) rfl ?_
    refine V_if_ne (pc := 18) (tgt := 24) dX10_fetch_18 rfl (fun q => ?_) (fun q => ?_)
    · have h := ite_f q h
      refine V_aload_n (i := 0) (pc := 24) dX10_fetch_24 rfl rfl ?_
      refine V_getR (b := (this + 202)) (pc := 25) dX10_fetch_25 fl_PL_41 h_this rfl rfl ?_
      refine V_aload_n (i := 0) (pc := 28) dX10_fetch_28 rfl rfl ?_
      refine V_getR (b := (this + 27)) (pc := 29) dX10_fetch_29 fl_PL_19 h_this rfl rfl ?_
      obtain ⟨m32, e32, h⟩ := bnd h
      refine V_invV0 (c := 4) (pc := 32) dX10_fetch_32 (e_Ic_look (kf_10_5 h_this) (kf_10_1 h_this) e32) iv_PL_211 (rm_PL_fetch_Ic_look _ _ _) rfl (kf_10_5 h_this) cf_4 rfl (Nat.le_of_ble_eq_true rfl) rfl ?_
      refine V_iconst (v := 0) (pc := 35) dX10_fetch_35 rfl ?_
      refine V_istore_n (i := 3) (ls' := [some (vr this), some (vi v1), some (vi v2), some (vi 0), none, none]) (pc := 36) dX10_fetch_36 rfl (Nat.le_of_ble_eq_true rfl) rfl ?_
      refine V_iconst (v := 0) (pc := 37) dX10_fetch_37 rfl ?_
      refine V_istore (i := 4) (ls' := [some (vr this), some (vi v1), some (vi v2), some (vi 0), some (vi 0), none]) (pc := 38) dX10_fetch_38 (Nat.le_of_ble_eq_true rfl) rfl ?_
      exact loop_V (A := fun s : Int32 × Int32 × Mem => V g Y_PL_fetch 40 [some (vr this), some (vi v1), some (vi v2), some (vi s.1), some (vi s.2.1), none] [] s.2.2 (PM g Y_PL_fetch r m')) (fun s x h hp => k_PL_fetch_l40 h_this h hp) (0, 0, m32) _ h hp
    · have h := ite_t q h
      refine V_bipush (v := (-2)) (pc := 21) dX10_fetch_21 rfl ?_
      obtain rfl := Option.some.inj h
      exact E_i (pc := 23) dX10_fetch_23 rfl hp
theorem e_PL_fetch {g : GE} {this : Nat} {v1 : Int32} {v2 : Int32} {m : Mem} (h_this : kd this = 11) {x : Int32 × Mem} (h : PL_fetch this v1 v2 m = some x) : Ev g Y_PL_fetch [vr this, vi v1, vi v2] m (some (vi x.1)) x.2 :=
  Ev_of 3 (by decide +kernel) rfl (Nat.le_of_ble_eq_true rfl) rfl (k_PL_fetch h_this h ⟨rfl, rfl⟩)
theorem k_PL_fetched {g : GE} {this : Nat} {v1 : Int32} {v2 : Int32} {v3 : Int32} {v4 : Int32} {m : Mem} (h_this : kd this = 11) {r : Option AV} {m' : Mem} {x : Int32 × Mem} (h : PL_fetched this v1 v2 v3 v4 m = some x) (hp : (fun x : Int32 × Mem => r = some (vi x.1) ∧ m' = x.2) x) : V g Y_PL_fetched 0 [some (vr this), some (vi v1), some (vi v2), some (vi v3), some (vi v4), none, none] [] m (PM g Y_PL_fetched r m') := by
  unfold PL_fetched at h
  refine V_aload_n (i := 0) (pc := 0) dX10_fetched_0 rfl rfl ?_
  refine V_getR (b := (this + 27)) (pc := 1) dX10_fetched_1 fl_PL_19 h_this rfl rfl ?_
  refine V_getR (b := (this + 28)) (pc := 4) dX10_fetched_4 fl_PL_102 (kf_10_1 h_this) rfl rfl ?_
  refine V_iload_n (i := 1) (pc := 7) dX10_fetched_7 rfl rfl ?_
  obtain ⟨r8, e8, h⟩ := bnd h
  refine V_invV1 (c := 2) (pc := 8) dX10_fetched_8 (e_Fl_hasSet (kf_0_0 (kf_10_1 h_this)) e8) iv_PL_167 (rm_PL_fetched_Fl_hasSet _ _ _) rfl (kf_0_0 (kf_10_1 h_this)) cf_2 rfl (Nat.le_of_ble_eq_true rfl) rfl ?_
  refine V_if_eq (pc := 11) (tgt := 46) dX10_fetched_11 rfl (fun q => ?_) (fun q => ?_)
  · have h := ite_t q h
    refine V_bipush (v := (-2)) (pc := 46) dX10_fetched_46 rfl ?_
    obtain rfl := Option.some.inj h
    exact E_i (pc := 48) dX10_fetched_48 rfl hp
  · have h := ite_f q h
    refine V_iload_n (i := 2) (pc := 14) dX10_fetched_14 rfl rfl ?_
    obtain ⟨r15, e15, h⟩ := bnd h
    refine V_invS1 (pc := 15) dX10_fetched_15 (e_PL_isGroup  e15) is_PL_150 (rm_PL_fetched_PL_isGroup _ _ _) rfl (Nat.le_of_ble_eq_true rfl) rfl ?_
    refine V_if_eq (pc := 18) (tgt := 46) dX10_fetched_18 rfl (fun q => ?_) (fun q => ?_)
    · have h := ite_t q h
      refine V_bipush (v := (-2)) (pc := 46) dX10_fetched_46 rfl ?_
      obtain rfl := Option.some.inj h
      exact E_i (pc := 48) dX10_fetched_48 rfl hp
    · have h := ite_f q h
      refine V_iload_n (i := 3) (pc := 21) dX10_fetched_21 rfl rfl ?_
      obtain ⟨r22, e22, h⟩ := bnd h
      refine V_invS1 (pc := 22) dX10_fetched_22 (e_PL_isHeap  e22) is_PL_113 (rm_PL_fetched_PL_isHeap _ _ _) rfl (Nat.le_of_ble_eq_true rfl) rfl ?_
      refine V_if_eq (pc := 25) (tgt := 46) dX10_fetched_25 rfl (fun q => ?_) (fun q => ?_)
      · have h := ite_t q h
        refine V_bipush (v := (-2)) (pc := 46) dX10_fetched_46 rfl ?_
        obtain rfl := Option.some.inj h
        exact E_i (pc := 48) dX10_fetched_48 rfl hp
      · have h := ite_f q h
        refine V_aload_n (i := 0) (pc := 28) dX10_fetched_28 rfl rfl ?_
        refine V_getR (b := (this + 27)) (pc := 29) dX10_fetched_29 fl_PL_19 h_this rfl rfl ?_
        refine V_getR (b := (this + 28)) (pc := 32) dX10_fetched_32 fl_PL_102 (kf_10_1 h_this) rfl rfl ?_
        refine V_getR (b := (this + 38)) (pc := 35) dX10_fetched_35 fl_PL_130 (kf_0_0 (kf_10_1 h_this)) rfl rfl ?_
        refine V_iload (i := 4) (pc := 38) dX10_fetched_38 rfl ?_
        obtain ⟨r40, e40, h⟩ := bnd h
        refine V_invV1 (c := 8) (pc := 40) dX10_fetched_40 (e_Ta_has (kf_2_16 (kf_0_0 (kf_10_1 h_this))) e40) iv_PL_134 (rm_PL_fetched_Ta_has _ _ _) rfl (kf_2_16 (kf_0_0 (kf_10_1 h_this))) cf_8 rfl (Nat.le_of_ble_eq_true rfl) rfl ?_
        refine V_if_ne (pc := 43) (tgt := 49) dX10_fetched_43 rfl (fun q => ?_) (fun q => ?_)
        · have h := ite_f q h
          refine V_aload_n (i := 0) (pc := 49) dX10_fetched_49 rfl rfl ?_
          refine V_getR (b := (this + 202)) (pc := 50) dX10_fetched_50 fl_PL_41 h_this rfl rfl ?_
          refine V_aload_n (i := 0) (pc := 53) dX10_fetched_53 rfl rfl ?_
          refine V_getR (b := (this + 27)) (pc := 54) dX10_fetched_54 fl_PL_19 h_this rfl rfl ?_
          obtain ⟨m57, e57, h⟩ := bnd h
          refine V_invV0 (c := 4) (pc := 57) dX10_fetched_57 (e_Ic_look (kf_10_5 h_this) (kf_10_1 h_this) e57) iv_PL_211 (rm_PL_fetched_Ic_look _ _ _) rfl (kf_10_5 h_this) cf_4 rfl (Nat.le_of_ble_eq_true rfl) rfl ?_
          refine V_aload_n (i := 0) (pc := 60) dX10_fetched_60 rfl rfl ?_
          refine V_getR (b := (this + 27)) (pc := 61) dX10_fetched_61 fl_PL_19 h_this rfl rfl ?_
          refine V_getR (b := (this + 28)) (pc := 64) dX10_fetched_64 fl_PL_102 (kf_10_1 h_this) rfl rfl ?_
          refine V_getR (b := (this + 38)) (pc := 67) dX10_fetched_67 fl_PL_130 (kf_0_0 (kf_10_1 h_this)) rfl rfl ?_
          refine V_iload (i := 4) (pc := 70) dX10_fetched_70 rfl ?_
          refine V_iconst (v := 0) (pc := 72) dX10_fetched_72 rfl ?_
          obtain ⟨r73, e73, h⟩ := bnd h
          refine V_invV1 (c := 8) (pc := 73) dX10_fetched_73 (e_Ta_at (kf_2_16 (kf_0_0 (kf_10_1 h_this))) e73) iv_PL_139 (rm_PL_fetched_Ta_at _ _ _) rfl (kf_2_16 (kf_0_0 (kf_10_1 h_this))) cf_8 rfl (Nat.le_of_ble_eq_true rfl) rfl ?_
          refine V_istore (i := 5) (ls' := [some (vr this), some (vi v1), some (vi v2), some (vi v3), some (vi v4), some (vi r73), none]) (pc := 76) dX10_fetched_76 (Nat.le_of_ble_eq_true rfl) rfl ?_
          refine V_aload_n (i := 0) (pc := 78) dX10_fetched_78 rfl rfl ?_
          refine V_getR (b := (this + 278)) (pc := 79) dX10_fetched_79 fl_PL_55 h_this rfl rfl ?_
          refine V_aload_n (i := 0) (pc := 82) dX10_fetched_82 rfl rfl ?_
          refine V_getR (b := (this + 202)) (pc := 83) dX10_fetched_83 fl_PL_41 h_this rfl rfl ?_
          refine V_aload_n (i := 0) (pc := 86) dX10_fetched_86 rfl rfl ?_
          refine V_getR (b := (this + 27)) (pc := 87) dX10_fetched_87 fl_PL_19 h_this rfl rfl ?_
          refine V_iload_n (i := 1) (pc := 90) dX10_fetched_90 rfl rfl ?_
          refine V_iload_n (i := 2) (pc := 91) dX10_fetched_91 rfl rfl ?_
          refine V_iload (i := 5) (pc := 92) dX10_fetched_92 rfl ?_
          refine V_iload_n (i := 3) (pc := 94) dX10_fetched_94 rfl rfl ?_
          refine V_iload (i := 4) (pc := 95) dX10_fetched_95 rfl ?_
          obtain ⟨r97, e97, h⟩ := bnd h
          refine V_invV1 (c := 7) (pc := 97) dX10_fetched_97 (e_St_fetchOf (kf_10_7 h_this) (kf_10_5 h_this) (kf_10_1 h_this) e97) iv_PL_350 (rm_PL_fetched_St_fetchOf _ _ _) rfl (kf_10_7 h_this) cf_7 rfl (Nat.le_of_ble_eq_true rfl) rfl ?_
          refine V_istore (i := 6) (ls' := [some (vr this), some (vi v1), some (vi v2), some (vi v3), some (vi v4), some (vi r73), some (vi r97.1)]) (pc := 100) dX10_fetched_100 (Nat.le_of_ble_eq_true rfl) rfl ?_
          refine V_iload (i := 6) (pc := 102) dX10_fetched_102 rfl ?_
          refine V_iconst (v := (-1)) (pc := 104) dX10_fetched_104 rfl ?_
          refine V_icmp_ne (pc := 105) (tgt := 112) dX10_fetched_105 rfl (fun q => ?_) (fun q => ?_)
          · have h := ite_f q h
            refine V_aload_n (i := 0) (pc := 112) dX10_fetched_112 rfl rfl ?_
            refine V_getR (b := (this + 278)) (pc := 113) dX10_fetched_113 fl_PL_55 h_this rfl rfl ?_
            obtain ⟨r116, e116, h⟩ := bnd h
            refine V_invV1 (c := 7) (pc := 116) dX10_fetched_116 (e_St_askedUnits (kf_10_7 h_this) e116) iv_PL_334 (rm_PL_fetched_St_askedUnits _ _ _) rfl (kf_10_7 h_this) cf_7 rfl (Nat.le_of_ble_eq_true rfl) rfl ?_
            obtain rfl := Option.some.inj h
            exact E_i (pc := 119) dX10_fetched_119 rfl hp
          · have h := ite_t q h
            refine V_iconst (v := (-1)) (pc := 108) dX10_fetched_108 rfl ?_
            refine V_goto (tgt := 119) (pc := 109) dX10_fetched_109 rfl ?_
            obtain rfl := Option.some.inj h
            exact E_i (pc := 119) dX10_fetched_119 rfl hp
        · have h := ite_t q h
          refine V_bipush (v := (-2)) (pc := 46) dX10_fetched_46 rfl ?_
          obtain rfl := Option.some.inj h
          exact E_i (pc := 48) dX10_fetched_48 rfl hp
theorem e_PL_fetched {g : GE} {this : Nat} {v1 : Int32} {v2 : Int32} {v3 : Int32} {v4 : Int32} {m : Mem} (h_this : kd this = 11) {x : Int32 × Mem} (h : PL_fetched this v1 v2 v3 v4 m = some x) : Ev g Y_PL_fetched [vr this, vi v1, vi v2, vi v3, vi v4] m (some (vi x.1)) x.2 :=
  Ev_of 2 (by decide +kernel) rfl (Nat.le_of_ble_eq_true rfl) rfl (k_PL_fetched h_this h ⟨rfl, rfl⟩)
theorem k_PL_thin_l43 {g : GE} {this : Nat} {v1 : Int32} {v2 : Int32} {v3 : Int32} {v4 : Int32} {m : Mem} (h_this : kd this = 11) {r : Option AV} {m' : Mem} {x : (Int32) ⊕ (Int32)} (h : PL_thin_l43 this v1 v2 v3 v4 m = some x) (hp : (Sum.elim (fun s : Int32 => V g Y_PL_thin 43 [some (vr this), some (vi v1), some (vi v2), some (vi v3), some (vi s)] [] m (PM g Y_PL_thin r m')) (fun x : Int32 => r = some (vi x) ∧ m' = m)) x) : V g Y_PL_thin 43 [some (vr this), some (vi v1), some (vi v2), some (vi v3), some (vi v4)] [] m (PM g Y_PL_thin r m') := by
  unfold PL_thin_l43 at h
  refine V_iload (i := 4) (pc := 43) dX10_thin_43 rfl ?_
  refine V_iload_n (i := 3) (pc := 45) dX10_thin_45 rfl rfl ?_
  refine V_icmp_gt (pc := 46) (tgt := 77) dX10_thin_46 rfl (fun q => ?_) (fun q => ?_)
  · have h := ite_t q h
    obtain ⟨y1, hu1, rfl⟩ := up_e h
    have h := hu1
    refine V_iconst (v := (-1)) (pc := 77) dX10_thin_77 rfl ?_
    obtain rfl := Option.some.inj h
    exact E_i (pc := 78) dX10_thin_78 rfl hp
  · have h := ite_f q h
    refine V_aload_n (i := 0) (pc := 49) dX10_thin_49 rfl rfl ?_
    refine V_getR (b := (this + 27)) (pc := 50) dX10_thin_50 fl_PL_19 h_this rfl rfl ?_
    refine V_getR (b := (this + 28)) (pc := 53) dX10_thin_53 fl_PL_102 (kf_10_1 h_this) rfl rfl ?_
    refine V_iload_n (i := 1) (pc := 56) dX10_thin_56 rfl rfl ?_
    refine V_iload_n (i := 3) (pc := 57) dX10_thin_57 rfl rfl ?_
    refine V_iload (i := 4) (pc := 58) dX10_thin_58 rfl ?_
    refine V_isub (pc := 60) dX10_thin_60 ?_
    obtain ⟨r61, e61, h⟩ := bnd h
    refine V_invV1 (c := 2) (pc := 61) dX10_thin_61 (e_Fl_oddsUnder (kf_0_0 (kf_10_1 h_this)) e61) iv_PL_354 (rm_PL_thin_Fl_oddsUnder _ _ _) rfl (kf_0_0 (kf_10_1 h_this)) cf_2 rfl (Nat.le_of_ble_eq_true rfl) rfl ?_
    refine V_iload_n (i := 2) (pc := 64) dX10_thin_64 rfl rfl ?_
    refine V_icmp_gt (pc := 65) (tgt := 71) dX10_thin_65 rfl (fun q => ?_) (fun q => ?_)
    · have h := ite_t q h
      refine V_iinc (i := 4) (v := (v4 + 1)) (ls' := [some (vr this), some (vi v1), some (vi v2), some (vi v3), some (vi (v4 + 1))]) (pc := 71) dX10_thin_71 rfl rfl (Nat.le_of_ble_eq_true rfl) rfl ?_
      refine V_goto (tgt := 43) (pc := 74) dX10_thin_74 rfl ?_
      obtain rfl := Option.some.inj h
      exact hp
    · have h := ite_f q h
      obtain ⟨y2, hu2, rfl⟩ := up_e h
      have h := hu2
      refine V_iload (i := 4) (pc := 68) dX10_thin_68 rfl ?_
      obtain rfl := Option.some.inj h
      exact E_i (pc := 70) dX10_thin_70 rfl hp
theorem k_PL_thin {g : GE} {this : Nat} {v1 : Int32} {v2 : Int32} {m : Mem} (h_this : kd this = 11) {r : Option AV} {m' : Mem} {x : Int32} (h : PL_thin this v1 v2 m = some x) (hp : (fun x : Int32 => r = some (vi x) ∧ m' = m) x) : V g Y_PL_thin 0 [some (vr this), some (vi v1), some (vi v2), none, none] [] m (PM g Y_PL_thin r m') := by
  unfold PL_thin at h
  refine V_aload_n (i := 0) (pc := 0) dX10_thin_0 rfl rfl ?_
  refine V_getR (b := (this + 27)) (pc := 1) dX10_thin_1 fl_PL_19 h_this rfl rfl ?_
  refine V_getR (b := (this + 28)) (pc := 4) dX10_thin_4 fl_PL_102 (kf_10_1 h_this) rfl rfl ?_
  refine V_getR (b := (this + 29)) (pc := 7) dX10_thin_7 fl_PL_186 (kf_0_0 (kf_10_1 h_this)) rfl rfl ?_
  refine V_iload_n (i := 1) (pc := 10) dX10_thin_10 rfl rfl ?_
  obtain ⟨r11, e11, h⟩ := bnd h
  refine V_invV1 (c := 8) (pc := 11) dX10_thin_11 (e_Ta_has (kf_2_15 (kf_0_0 (kf_10_1 h_this))) e11) iv_PL_134 (rm_PL_thin_Ta_has _ _ _) rfl (kf_2_15 (kf_0_0 (kf_10_1 h_this))) cf_8 rfl (Nat.le_of_ble_eq_true rfl) rfl ?_
  refine V_if_eq (pc := 14) (tgt := 28) dX10_thin_14 rfl (fun q => ?_) (fun q => ?_)
  · have h := ite_t q h
    refine V_bipush (v := (-2)) (pc := 28) dX10_thin_28 rfl ?_
    obtain rfl := Option.some.inj h
    exact E_i (pc := 30) dX10_thin_30 rfl hp
  · have h := ite_f q h
    refine V_iload_n (i := 2) (pc := 17) dX10_thin_17 rfl rfl ?_
    refine V_if_lt (pc := 18) (tgt := 28) dX10_thin_18 rfl (fun q => ?_) (fun q => ?_)
    · have h := ite_t q h
      refine V_bipush (v := (-2)) (pc := 28) dX10_thin_28 rfl ?_
      obtain rfl := Option.some.inj h
      exact E_i (pc := 30) dX10_thin_30 rfl hp
    · have h := ite_f q h
      refine V_iload_n (i := 2) (pc := 21) dX10_thin_21 rfl rfl ?_
      refine V_sipush (v := 10000) (pc := 22) dX10_thin_22 rfl ?_
      refine V_icmp_le (pc := 25) (tgt := 31) dX10_thin_25 rfl (fun q => ?_) (fun q => ?_)
      · have h := ite_t q h
        refine V_aload_n (i := 0) (pc := 31) dX10_thin_31 rfl rfl ?_
        refine V_getR (b := (this + 27)) (pc := 32) dX10_thin_32 fl_PL_19 h_this rfl rfl ?_
        refine V_iload_n (i := 1) (pc := 35) dX10_thin_35 rfl rfl ?_
        obtain ⟨r36, e36, h⟩ := bnd h
        refine V_invV1 (c := 0) (pc := 36) dX10_thin_36 (e_Ca_tonsNear (kf_10_1 h_this) e36) iv_PL_189 (rm_PL_thin_Ca_tonsNear _ _ _) rfl (kf_10_1 h_this) cf_0 rfl (Nat.le_of_ble_eq_true rfl) rfl ?_
        refine V_istore_n (i := 3) (ls' := [some (vr this), some (vi v1), some (vi v2), some (vi r36), none]) (pc := 39) dX10_thin_39 rfl (Nat.le_of_ble_eq_true rfl) rfl ?_
        refine V_iconst (v := 0) (pc := 40) dX10_thin_40 rfl ?_
        refine V_istore (i := 4) (ls' := [some (vr this), some (vi v1), some (vi v2), some (vi r36), some (vi 0)]) (pc := 41) dX10_thin_41 (Nat.le_of_ble_eq_true rfl) rfl ?_
        exact loop_V (A := fun s : Int32 => V g Y_PL_thin 43 [some (vr this), some (vi v1), some (vi v2), some (vi r36), some (vi s)] [] m (PM g Y_PL_thin r m')) (fun s x h hp => k_PL_thin_l43 h_this h hp) (0) _ h hp
      · have h := ite_f q h
        refine V_bipush (v := (-2)) (pc := 28) dX10_thin_28 rfl ?_
        obtain rfl := Option.some.inj h
        exact E_i (pc := 30) dX10_thin_30 rfl hp
theorem e_PL_thin {g : GE} {this : Nat} {v1 : Int32} {v2 : Int32} {m : Mem} (h_this : kd this = 11) {x : Int32} (h : PL_thin this v1 v2 m = some x) : Ev g Y_PL_thin [vr this, vi v1, vi v2] m (some (vi x)) m :=
  Ev_of 2 (by decide +kernel) rfl (Nat.le_of_ble_eq_true rfl) rfl (k_PL_thin h_this h ⟨rfl, rfl⟩)
theorem k_PL_apart_b71 {g : GE} {this : Nat} {v1 : Int32} {v2 : Int32} {v3 : Int32} {v4 : Int32}  {m : Mem} (h_this : kd this = 11) {r : Option AV} {m' : Mem} {x : (Int32 × Int32) ⊕ (Int32)} (h : PL_apart_b71 this v1 v2 v3 v4 m = some x) (hp : (Sum.elim (fun s : Int32 × Int32 => V g Y_PL_apart 23 [some (vr this), some (vi v1), some (vi v2), some (vi s.1), some (vi s.2), none] [] m (PM g Y_PL_apart r m')) (fun x : Int32 => r = some (vi x) ∧ m' = m)) x) : V g Y_PL_apart 71 [some (vr this), some (vi v1), some (vi v2), some (vi v3), some (vi v4), none] [] m (PM g Y_PL_apart r m') := by
  unfold PL_apart_b71 at h
  refine V_iinc (i := 4) (v := (v4 + 1)) (ls' := [some (vr this), some (vi v1), some (vi v2), some (vi v3), some (vi (v4 + 1)), none]) (pc := 71) dX10_apart_71 rfl rfl (Nat.le_of_ble_eq_true rfl) rfl ?_
  refine V_goto (tgt := 23) (pc := 74) dX10_apart_74 rfl ?_
  obtain rfl := Option.some.inj h
  exact hp
theorem k_PL_apart_b68 {g : GE} {this : Nat} {v1 : Int32} {v2 : Int32} {v4 : Int32} {v5 : Int32}  {m : Mem} (h_this : kd this = 11) {r : Option AV} {m' : Mem} {x : (Int32 × Int32) ⊕ (Int32)} (h : PL_apart_b68 this v1 v2 v4 v5 m = some x) (hp : (Sum.elim (fun s : Int32 × Int32 => V g Y_PL_apart 23 [some (vr this), some (vi v1), some (vi v2), some (vi s.1), some (vi s.2), none] [] m (PM g Y_PL_apart r m')) (fun x : Int32 => r = some (vi x) ∧ m' = m)) x) : V g Y_PL_apart 68 [some (vr this), some (vi v1), some (vi v2), none, some (vi v4), some (vi v5)] [] m (PM g Y_PL_apart r m') := by
  unfold PL_apart_b68 at h
  refine V_iload (i := 5) (pc := 68) dX10_apart_68 rfl ?_
  refine V_istore_n (i := 3) (ls' := [some (vr this), some (vi v1), some (vi v2), some (vi v5), some (vi v4), some (vi v5)]) (pc := 70) dX10_apart_70 rfl (Nat.le_of_ble_eq_true rfl) rfl ?_
  refine V_sub (ls' := [some (vr this), some (vi v1), some (vi v2), some (vi v5), some (vi v4), none]) (And.intro rfl (And.intro rfl (And.intro rfl (And.intro rfl (And.intro rfl trivial))))) ?_
  exact k_PL_apart_b71 h_this h hp
theorem k_PL_apart_l23 {g : GE} {this : Nat} {v1 : Int32} {v2 : Int32} {v3 : Int32} {v4 : Int32} {m : Mem} (h_this : kd this = 11) {r : Option AV} {m' : Mem} {x : (Int32 × Int32) ⊕ (Int32)} (h : PL_apart_l23 this v1 v2 v3 v4 m = some x) (hp : (Sum.elim (fun s : Int32 × Int32 => V g Y_PL_apart 23 [some (vr this), some (vi v1), some (vi v2), some (vi s.1), some (vi s.2), none] [] m (PM g Y_PL_apart r m')) (fun x : Int32 => r = some (vi x) ∧ m' = m)) x) : V g Y_PL_apart 23 [some (vr this), some (vi v1), some (vi v2), some (vi v3), some (vi v4), none] [] m (PM g Y_PL_apart r m') := by
  unfold PL_apart_l23 at h
  refine V_iload (i := 4) (pc := 23) dX10_apart_23 rfl ?_
  refine V_aload_n (i := 0) (pc := 25) dX10_apart_25 rfl rfl ?_
  refine V_getR (b := (this + 27)) (pc := 26) dX10_apart_26 fl_PL_19 h_this rfl rfl ?_
  refine V_getR (b := (this + 28)) (pc := 29) dX10_apart_29 fl_PL_102 (kf_10_1 h_this) rfl rfl ?_
  refine V_getR (b := (this + 29)) (pc := 32) dX10_apart_32 fl_PL_186 (kf_0_0 (kf_10_1 h_this)) rfl rfl ?_
  refine V_getI (pc := 35) dX10_apart_35 fl_PL_226 (kf_2_15 (kf_0_0 (kf_10_1 h_this))) rfl ?_
  refine V_icmp_ge (pc := 38) (tgt := 77) dX10_apart_38 rfl (fun q => ?_) (fun q => ?_)
  · have h := ite_t q h
    obtain ⟨y1, hu1, rfl⟩ := up_e h
    have h := hu1
    refine V_iload_n (i := 3) (pc := 77) dX10_apart_77 rfl rfl ?_
    obtain rfl := Option.some.inj h
    exact E_i (pc := 78) dX10_apart_78 rfl hp
  · have h := ite_f q h
    refine V_aload_n (i := 0) (pc := 41) dX10_apart_41 rfl rfl ?_
    refine V_getR (b := (this + 27)) (pc := 42) dX10_apart_42 fl_PL_19 h_this rfl rfl ?_
    refine V_getR (b := (this + 28)) (pc := 45) dX10_apart_45 fl_PL_102 (kf_10_1 h_this) rfl rfl ?_
    refine V_iload (i := 4) (pc := 48) dX10_apart_48 rfl ?_
    refine V_iload_n (i := 1) (pc := 50) dX10_apart_50 rfl rfl ?_
    refine V_iload_n (i := 2) (pc := 51) dX10_apart_51 rfl rfl ?_
    obtain ⟨r52, e52, h⟩ := bnd h
    refine V_invV1 (c := 2) (pc := 52) dX10_apart_52 (e_Fl_cellsBetween (kf_0_0 (kf_10_1 h_this)) e52) iv_PL_357 (rm_PL_apart_Fl_cellsBetween _ _ _) rfl (kf_0_0 (kf_10_1 h_this)) cf_2 rfl (Nat.le_of_ble_eq_true rfl) rfl ?_
    refine V_istore (i := 5) (ls' := [some (vr this), some (vi v1), some (vi v2), some (vi v3), some (vi v4), some (vi r52)]) (pc := 55) dX10_apart_55 (Nat.le_of_ble_eq_true rfl) rfl ?_
    refine V_iload_n (i := 3) (pc := 57) dX10_apart_57 rfl rfl ?_
    refine V_iconst (v := (-1)) (pc := 58) dX10_apart_58 rfl ?_
    refine V_icmp_eq (pc := 59) (tgt := 68) dX10_apart_59 rfl (fun q => ?_) (fun q => ?_)
    · have h := ite_t q h
      refine V_sub (ls' := [some (vr this), some (vi v1), some (vi v2), none, some (vi v4), some (vi r52)]) (And.intro rfl (And.intro rfl (And.intro rfl (And.intro rfl (And.intro rfl trivial))))) ?_
      exact k_PL_apart_b68 h_this h hp
    · have h := ite_f q h
      refine V_iload (i := 5) (pc := 62) dX10_apart_62 rfl ?_
      refine V_iload_n (i := 3) (pc := 64) dX10_apart_64 rfl rfl ?_
      refine V_icmp_ge (pc := 65) (tgt := 71) dX10_apart_65 rfl (fun q => ?_) (fun q => ?_)
      · have h := ite_t q h
        refine V_sub (ls' := [some (vr this), some (vi v1), some (vi v2), some (vi v3), some (vi v4), none]) (And.intro rfl (And.intro rfl (And.intro rfl (And.intro rfl (And.intro rfl trivial))))) ?_
        exact k_PL_apart_b71 h_this h hp
      · have h := ite_f q h
        refine V_sub (ls' := [some (vr this), some (vi v1), some (vi v2), none, some (vi v4), some (vi r52)]) (And.intro rfl (And.intro rfl (And.intro rfl (And.intro rfl (And.intro rfl trivial))))) ?_
        exact k_PL_apart_b68 h_this h hp
theorem k_PL_apart {g : GE} {this : Nat} {v1 : Int32} {v2 : Int32} {m : Mem} (h_this : kd this = 11) {r : Option AV} {m' : Mem} {x : Int32} (h : PL_apart this v1 v2 m = some x) (hp : (fun x : Int32 => r = some (vi x) ∧ m' = m) x) : V g Y_PL_apart 0 [some (vr this), some (vi v1), some (vi v2), none, none, none] [] m (PM g Y_PL_apart r m') := by
  unfold PL_apart at h
  refine V_aload_n (i := 0) (pc := 0) dX10_apart_0 rfl rfl ?_
  refine V_getR (b := (this + 27)) (pc := 1) dX10_apart_1 fl_PL_19 h_this rfl rfl ?_
  refine V_getR (b := (this + 28)) (pc := 4) dX10_apart_4 fl_PL_102 (kf_10_1 h_this) rfl rfl ?_
  refine V_iload_n (i := 1) (pc := 7) dX10_apart_7 rfl rfl ?_
  refine V_iload_n (i := 2) (pc := 8) dX10_apart_8 rfl rfl ?_
  obtain ⟨r9, e9, h⟩ := bnd h
  refine V_invV1 (c := 2) (pc := 9) dX10_apart_9 (e_Fl_hasCell (kf_0_0 (kf_10_1 h_this)) e9) iv_PL_116 (rm_PL_apart_Fl_hasCell _ _ _) rfl (kf_0_0 (kf_10_1 h_this)) cf_2 rfl (Nat.le_of_ble_eq_true rfl) rfl ?_
  refine V_if_ne (pc := 12) (tgt := 18) dX10_apart_12 rfl (fun q => ?_) (fun q => ?_)
  · have h := ite_f q h
    refine V_iconst (v := (-1)) (pc := 18) dX10_apart_18 rfl ?_
    refine V_istore_n (i := 3) (ls' := [some (vr this), some (vi v1), some (vi v2), some (vi (-1)), none, none]) (pc := 19) dX10_apart_19 rfl (Nat.le_of_ble_eq_true rfl) rfl ?_
    refine V_iconst (v := 0) (pc := 20) dX10_apart_20 rfl ?_
    refine V_istore (i := 4) (ls' := [some (vr this), some (vi v1), some (vi v2), some (vi (-1)), some (vi 0), none]) (pc := 21) dX10_apart_21 (Nat.le_of_ble_eq_true rfl) rfl ?_
    exact loop_V (A := fun s : Int32 × Int32 => V g Y_PL_apart 23 [some (vr this), some (vi v1), some (vi v2), some (vi s.1), some (vi s.2), none] [] m (PM g Y_PL_apart r m')) (fun s x h hp => k_PL_apart_l23 h_this h hp) ((-1), 0) _ h hp
  · have h := ite_t q h
    refine V_bipush (v := (-2)) (pc := 15) dX10_apart_15 rfl ?_
    obtain rfl := Option.some.inj h
    exact E_i (pc := 17) dX10_apart_17 rfl hp
theorem e_PL_apart {g : GE} {this : Nat} {v1 : Int32} {v2 : Int32} {m : Mem} (h_this : kd this = 11) {x : Int32} (h : PL_apart this v1 v2 m = some x) : Ev g Y_PL_apart [vr this, vi v1, vi v2] m (some (vi x)) m :=
  Ev_of 3 (by decide +kernel) rfl (Nat.le_of_ble_eq_true rfl) rfl (k_PL_apart h_this h ⟨rfl, rfl⟩)
theorem k_Dr_begin_b25 {g : GE} {this : Nat} {v1 : Int32} {v2 : Int32} {k1 : Int32} {k2 : Int64}  {m : Mem} (h_this : kd this = 2) {r : Option AV} {m' : Mem} {x : (Int32 × Mem) ⊕ (Mem)} (h : Dr_begin_b25 this v1 v2 k1 k2 m = some x) (hp : (Sum.elim (fun s : Int32 × Mem => V g Y_Dr_begin 2 [some (vr this), some (vi v1), some (vi s.1)] [] s.2 (PM g Y_Dr_begin r m')) (fun x : Mem => r = none ∧ m' = x)) x) : V g Y_Dr_begin 25 [some (vr this), some (vi v1), some (vi v2)] [vl k2, vi k1, vr (this + 1)] m (PM g Y_Dr_begin r m') := by
  unfold Dr_begin_b25 at h
  obtain ⟨hg25, h⟩ := gd_e h
  refine V_last_lt (pc := 25) dX1_begin_25 (kf_1_0 h_this) (af_1_0 h_this) hg25 h (fun m25 h => ?_)
  refine V_iinc (i := 2) (v := (v2 + 1)) (ls' := [some (vr this), some (vi v1), some (vi (v2 + 1))]) (pc := 26) dX1_begin_26 rfl rfl (Nat.le_of_ble_eq_true rfl) rfl ?_
  refine V_goto (tgt := 2) (pc := 29) dX1_begin_29 rfl ?_
  obtain rfl := Option.some.inj h
  exact hp
theorem k_Dr_begin_l2 {g : GE} {this : Nat} {v1 : Int32} {v2 : Int32} {m : Mem} (h_this : kd this = 2) {r : Option AV} {m' : Mem} {x : (Int32 × Mem) ⊕ (Mem)} (h : Dr_begin_l2 this v1 v2 m = some x) (hp : (Sum.elim (fun s : Int32 × Mem => V g Y_Dr_begin 2 [some (vr this), some (vi v1), some (vi s.1)] [] s.2 (PM g Y_Dr_begin r m')) (fun x : Mem => r = none ∧ m' = x)) x) : V g Y_Dr_begin 2 [some (vr this), some (vi v1), some (vi v2)] [] m (PM g Y_Dr_begin r m') := by
  unfold Dr_begin_l2 at h
  refine V_iload_n (i := 2) (pc := 2) dX1_begin_2 rfl rfl ?_
  refine V_bipush (v := 99) (pc := 3) dX1_begin_3 rfl ?_
  refine V_icmp_gt (pc := 5) (tgt := 32) dX1_begin_5 rfl (fun q => ?_) (fun q => ?_)
  · have h := ite_t q h
    obtain ⟨y1, hu1, rfl⟩ := up_e h
    have h := hu1
    obtain rfl := Option.some.inj h
    exact E_v (pc := 32) dX1_begin_32 rfl hp
  · have h := ite_f q h
    refine V_aload_n (i := 0) (pc := 8) dX1_begin_8 rfl rfl ?_
    refine V_getR (b := (this + 1)) (pc := 9) dX1_begin_9 fl_Dr_9 h_this rfl rfl ?_
    refine V_iload_n (i := 2) (pc := 12) dX1_begin_12 rfl rfl ?_
    refine V_iload_n (i := 2) (pc := 13) dX1_begin_13 rfl rfl ?_
    refine V_iload_n (i := 1) (pc := 14) dX1_begin_14 rfl rfl ?_
    refine V_icmp_ne (pc := 15) (tgt := 24) dX1_begin_15 rfl (fun q => ?_) (fun q => ?_)
    · have h := ite_f q h
      refine V_lconst (v := 0) (pc := 24) dX1_begin_24 rfl ?_
      exact k_Dr_begin_b25 h_this h hp
    · have h := ite_t q h
      refine V_ldc2 (v := 1000000000000) (pc := 18) dX1_begin_18 con_Dr_18 ?_
      refine V_goto (tgt := 25) (pc := 21) dX1_begin_21 rfl ?_
      exact k_Dr_begin_b25 h_this h hp
theorem k_Dr_begin {g : GE} {this : Nat} {v1 : Int32} {m : Mem} (h_this : kd this = 2) {r : Option AV} {m' : Mem} {x : Mem} (h : Dr_begin this v1 m = some x) (hp : (fun x : Mem => r = none ∧ m' = x) x) : V g Y_Dr_begin 0 [some (vr this), some (vi v1), none] [] m (PM g Y_Dr_begin r m') := by
  unfold Dr_begin at h
  refine V_iconst (v := 0) (pc := 0) dX1_begin_0 rfl ?_
  refine V_istore_n (i := 2) (ls' := [some (vr this), some (vi v1), some (vi 0)]) (pc := 1) dX1_begin_1 rfl (Nat.le_of_ble_eq_true rfl) rfl ?_
  exact loop_V (A := fun s : Int32 × Mem => V g Y_Dr_begin 2 [some (vr this), some (vi v1), some (vi s.1)] [] s.2 (PM g Y_Dr_begin r m')) (fun s x h hp => k_Dr_begin_l2 h_this h hp) (0, m) _ h hp
theorem e_Dr_begin {g : GE} {this : Nat} {v1 : Int32} {m : Mem} (h_this : kd this = 2) {x : Mem} (h : Dr_begin this v1 m = some x) : Ev g Y_Dr_begin [vr this, vi v1] m (none) x :=
  Ev_of 1 (by decide +kernel) rfl (Nat.le_of_ble_eq_true rfl) rfl (k_Dr_begin h_this h ⟨rfl, rfl⟩)
theorem k_Dr_passDay_l104 {g : GE} {this : Nat}  {v2 : Int32} {m : Mem} (h_this : kd this = 2) {r : Option AV} {m' : Mem} {x : (Int32 × Mem) ⊕ (Mem)} (h : Dr_passDay_l104 this v2 m = some x) (hp : (Sum.elim (fun s : Int32 × Mem => V g Y_Dr_passDay 104 [some (vr this), none, some (vi s.1), none, none] [] s.2 (PM g Y_Dr_passDay r m')) (fun x : Mem => r = none ∧ m' = x)) x) : V g Y_Dr_passDay 104 [some (vr this), none, some (vi v2), none, none] [] m (PM g Y_Dr_passDay r m') := by
  unfold Dr_passDay_l104 at h
  refine V_iload_n (i := 2) (pc := 104) dX1_passDay_104 rfl rfl ?_
  refine V_bipush (v := 99) (pc := 105) dX1_passDay_105 rfl ?_
  refine V_icmp_gt (pc := 107) (tgt := 128) dX1_passDay_107 rfl (fun q => ?_) (fun q => ?_)
  · have h := ite_t q h
    obtain ⟨y3, hu3, rfl⟩ := up_e h
    have h := hu3
    obtain rfl := Option.some.inj h
    exact E_v (pc := 128) dX1_passDay_128 rfl hp
  · have h := ite_f q h
    refine V_aload_n (i := 0) (pc := 110) dX1_passDay_110 rfl rfl ?_
    refine V_getR (b := (this + 1)) (pc := 111) dX1_passDay_111 fl_Dr_9 h_this rfl rfl ?_
    refine V_iload_n (i := 2) (pc := 114) dX1_passDay_114 rfl rfl ?_
    refine V_aload_n (i := 0) (pc := 115) dX1_passDay_115 rfl rfl ?_
    refine V_getR (b := (this + 2)) (pc := 116) dX1_passDay_116 fl_Dr_15 h_this rfl rfl ?_
    refine V_iload_n (i := 2) (pc := 119) dX1_passDay_119 rfl rfl ?_
    obtain ⟨hg120, h⟩ := gd_e h
    refine V_lald (pc := 120) dX1_passDay_120 (kf_1_1 h_this) (af_1_1 h_this) hg120 ?_
    obtain ⟨hg121, h⟩ := gd_e h
    refine V_last_lt (pc := 121) dX1_passDay_121 (kf_1_0 h_this) (af_1_0 h_this) hg121 h (fun m121 h => ?_)
    refine V_iinc (i := 2) (v := (v2 + 1)) (ls' := [some (vr this), none, some (vi (v2 + 1)), none, none]) (pc := 122) dX1_passDay_122 rfl rfl (Nat.le_of_ble_eq_true rfl) rfl ?_
    refine V_goto (tgt := 104) (pc := 125) dX1_passDay_125 rfl ?_
    obtain rfl := Option.some.inj h
    exact hp
theorem k_Dr_passDay_l36 {g : GE} {this : Nat} {v1 : Int32} {v2 : Int32} {m : Mem} (h_this : kd this = 2) {r : Option AV} {m' : Mem} {x : (Int32 × Mem) ⊕ (Mem)} (h : Dr_passDay_l36 this v1 v2 m = some x) (hp : (Sum.elim (fun s : Int32 × Mem => V g Y_Dr_passDay 36 [some (vr this), some (vi v1), some (vi s.1), none, none] [] s.2 (PM g Y_Dr_passDay r m')) (fun x : Mem => r = none ∧ m' = x)) x) : V g Y_Dr_passDay 36 [some (vr this), some (vi v1), some (vi v2), none, none] [] m (PM g Y_Dr_passDay r m') := by
  unfold Dr_passDay_l36 at h
  refine V_iload_n (i := 2) (pc := 36) dX1_passDay_36 rfl rfl ?_
  refine V_bipush (v := 99) (pc := 37) dX1_passDay_37 rfl ?_
  refine V_icmp_gt (pc := 39) (tgt := 102) dX1_passDay_39 rfl (fun q => ?_) (fun q => ?_)
  · have h := ite_t q h
    obtain ⟨y2, hu2, rfl⟩ := up_e h
    have h := hu2
    refine V_iconst (v := 0) (pc := 102) dX1_passDay_102 rfl ?_
    refine V_istore_n (i := 2) (ls' := [some (vr this), some (vi v1), some (vi 0), none, none]) (pc := 103) dX1_passDay_103 rfl (Nat.le_of_ble_eq_true rfl) rfl ?_
    refine V_sub (ls' := [some (vr this), none, some (vi 0), none, none]) (And.intro rfl (And.intro rfl trivial)) ?_
    exact loop_V (A := fun s : Int32 × Mem => V g Y_Dr_passDay 104 [some (vr this), none, some (vi s.1), none, none] [] s.2 (PM g Y_Dr_passDay r m')) (fun s x h hp => k_Dr_passDay_l104 h_this h hp) (0, m) _ h hp
  · have h := ite_f q h
    refine V_aload_n (i := 0) (pc := 42) dX1_passDay_42 rfl rfl ?_
    refine V_getR (b := (this + 1)) (pc := 43) dX1_passDay_43 fl_Dr_9 h_this rfl rfl ?_
    refine V_iload_n (i := 2) (pc := 46) dX1_passDay_46 rfl rfl ?_
    obtain ⟨hg47, h⟩ := gd_e h
    refine V_lald (pc := 47) dX1_passDay_47 (kf_1_0 h_this) (af_1_0 h_this) hg47 ?_
    refine V_iload_n (i := 1) (pc := 48) dX1_passDay_48 rfl rfl ?_
    refine V_i2l (pc := 49) dX1_passDay_49 ?_
    refine V_lmul (pc := 50) dX1_passDay_50 ?_
    refine V_ldc2 (v := 100) (pc := 51) dX1_passDay_51 con_Dr_20 ?_
    refine V_ldiv (pc := 54) dX1_passDay_54 (by decide) ?_
    refine V_lstore_n (i := 3) (ls' := [some (vr this), some (vi v1), some (vi v2), some (vl (((rL m (this + 1) (ix v2)) * (v1.toInt64)) / 100)), none]) (pc := 55) dX1_passDay_55 rfl (Nat.le_of_ble_eq_true rfl) rfl ?_
    refine V_aload_n (i := 0) (pc := 56) dX1_passDay_56 rfl rfl ?_
    refine V_getR (b := (this + 2)) (pc := 57) dX1_passDay_57 fl_Dr_15 h_this rfl rfl ?_
    refine V_iconst (v := 0) (pc := 60) dX1_passDay_60 rfl ?_
    refine V_iload_n (i := 2) (pc := 61) dX1_passDay_61 rfl rfl ?_
    refine V_iconst (v := 2) (pc := 62) dX1_passDay_62 rfl ?_
    refine V_isub (pc := 63) dX1_passDay_63 ?_
    refine V_mmax (pc := 64) dX1_passDay_64 ma_Dr_22 (rmM_Dr_passDay _ _ _) (Nat.le_of_ble_eq_true rfl) ?_
    refine V_dup2 (pc := 67) dX1_passDay_67 ?_
    obtain ⟨hg68, h⟩ := gd_e h
    refine V_lald (pc := 68) dX1_passDay_68 (kf_1_1 h_this) (af_1_1 h_this) hg68 ?_
    refine V_lload_n (i := 3) (pc := 69) dX1_passDay_69 rfl rfl ?_
    refine V_ladd (pc := 70) dX1_passDay_70 ?_
    obtain ⟨hg71, h⟩ := gd_e h
    refine V_last_lt (pc := 71) dX1_passDay_71 (kf_1_1 h_this) (af_1_1 h_this) hg71 h (fun m71 h => ?_)
    refine V_aload_n (i := 0) (pc := 72) dX1_passDay_72 rfl rfl ?_
    refine V_getR (b := (this + 2)) (pc := 73) dX1_passDay_73 fl_Dr_15 h_this rfl rfl ?_
    refine V_bipush (v := 99) (pc := 76) dX1_passDay_76 rfl ?_
    refine V_iload_n (i := 2) (pc := 78) dX1_passDay_78 rfl rfl ?_
    refine V_iconst (v := 1) (pc := 79) dX1_passDay_79 rfl ?_
    refine V_iadd (pc := 80) dX1_passDay_80 ?_
    refine V_mmin (pc := 81) dX1_passDay_81 ma_Dr_28 (rmM_Dr_passDay _ _ _) (Nat.le_of_ble_eq_true rfl) ?_
    refine V_dup2 (pc := 84) dX1_passDay_84 ?_
    obtain ⟨hg85, h⟩ := gd_e h
    refine V_lald (pc := 85) dX1_passDay_85 (kf_1_1 h_this) (af_1_1 h_this) hg85 ?_
    refine V_aload_n (i := 0) (pc := 86) dX1_passDay_86 rfl rfl ?_
    refine V_getR (b := (this + 1)) (pc := 87) dX1_passDay_87 fl_Dr_9 h_this rfl rfl ?_
    refine V_iload_n (i := 2) (pc := 90) dX1_passDay_90 rfl rfl ?_
    obtain ⟨hg91, h⟩ := gd_e h
    refine V_lald (pc := 91) dX1_passDay_91 (kf_1_0 h_this) (af_1_0 h_this) hg91 ?_
    refine V_lload_n (i := 3) (pc := 92) dX1_passDay_92 rfl rfl ?_
    refine V_lsub (pc := 93) dX1_passDay_93 ?_
    refine V_ladd (pc := 94) dX1_passDay_94 ?_
    obtain ⟨hg95, h⟩ := gd_e h
    refine V_last_lt (pc := 95) dX1_passDay_95 (kf_1_1 h_this) (af_1_1 h_this) hg95 h (fun m95 h => ?_)
    refine V_iinc (i := 2) (v := (v2 + 1)) (ls' := [some (vr this), some (vi v1), some (vi (v2 + 1)), some (vl (((rL m (this + 1) (ix v2)) * (v1.toInt64)) / 100)), none]) (pc := 96) dX1_passDay_96 rfl rfl (Nat.le_of_ble_eq_true rfl) rfl ?_
    refine V_goto (tgt := 36) (pc := 99) dX1_passDay_99 rfl ?_
    refine V_sub (ls' := [some (vr this), some (vi v1), some (vi (v2 + 1)), none, none]) (And.intro rfl (And.intro rfl (And.intro rfl trivial))) ?_
    obtain rfl := Option.some.inj h
    exact hp
theorem k_Dr_passDay_b27 {g : GE} {this : Nat} {v1 : Int32} {v2 : Int32} {k1 : Int32} {k2 : Int64}  {m : Mem} (h_this : kd this = 2) {r : Option AV} {m' : Mem} {x : (Int32 × Mem) ⊕ (Mem)} (h : Dr_passDay_b27 this v1 v2 k1 k2 m = some x) (hp : (Sum.elim (fun s : Int32 × Mem => V g Y_Dr_passDay 2 [some (vr this), some (vi v1), some (vi s.1), none, none] [] s.2 (PM g Y_Dr_passDay r m')) (fun x : Mem => r = none ∧ m' = x)) x) : V g Y_Dr_passDay 27 [some (vr this), some (vi v1), some (vi v2), none, none] [vl k2, vi k1, vr (this + 2)] m (PM g Y_Dr_passDay r m') := by
  unfold Dr_passDay_b27 at h
  obtain ⟨hg27, h⟩ := gd_e h
  refine V_last_lt (pc := 27) dX1_passDay_27 (kf_1_1 h_this) (af_1_1 h_this) hg27 h (fun m27 h => ?_)
  refine V_iinc (i := 2) (v := (v2 + 1)) (ls' := [some (vr this), some (vi v1), some (vi (v2 + 1)), none, none]) (pc := 28) dX1_passDay_28 rfl rfl (Nat.le_of_ble_eq_true rfl) rfl ?_
  refine V_goto (tgt := 2) (pc := 31) dX1_passDay_31 rfl ?_
  obtain rfl := Option.some.inj h
  exact hp
theorem k_Dr_passDay_l2 {g : GE} {this : Nat} {v1 : Int32} {v2 : Int32} {m : Mem} (h_this : kd this = 2) {r : Option AV} {m' : Mem} {x : (Int32 × Mem) ⊕ (Mem)} (h : Dr_passDay_l2 this v1 v2 m = some x) (hp : (Sum.elim (fun s : Int32 × Mem => V g Y_Dr_passDay 2 [some (vr this), some (vi v1), some (vi s.1), none, none] [] s.2 (PM g Y_Dr_passDay r m')) (fun x : Mem => r = none ∧ m' = x)) x) : V g Y_Dr_passDay 2 [some (vr this), some (vi v1), some (vi v2), none, none] [] m (PM g Y_Dr_passDay r m') := by
  unfold Dr_passDay_l2 at h
  refine V_iload_n (i := 2) (pc := 2) dX1_passDay_2 rfl rfl ?_
  refine V_bipush (v := 99) (pc := 3) dX1_passDay_3 rfl ?_
  refine V_icmp_gt (pc := 5) (tgt := 34) dX1_passDay_5 rfl (fun q => ?_) (fun q => ?_)
  · have h := ite_t q h
    obtain ⟨y1, hu1, rfl⟩ := up_e h
    have h := hu1
    refine V_iconst (v := 1) (pc := 34) dX1_passDay_34 rfl ?_
    refine V_istore_n (i := 2) (ls' := [some (vr this), some (vi v1), some (vi 1), none, none]) (pc := 35) dX1_passDay_35 rfl (Nat.le_of_ble_eq_true rfl) rfl ?_
    exact loop_V (A := fun s : Int32 × Mem => V g Y_Dr_passDay 36 [some (vr this), some (vi v1), some (vi s.1), none, none] [] s.2 (PM g Y_Dr_passDay r m')) (fun s x h hp => k_Dr_passDay_l36 h_this h hp) (1, m) _ h hp
  · have h := ite_f q h
    refine V_aload_n (i := 0) (pc := 8) dX1_passDay_8 rfl rfl ?_
    refine V_getR (b := (this + 2)) (pc := 9) dX1_passDay_9 fl_Dr_15 h_this rfl rfl ?_
    refine V_iload_n (i := 2) (pc := 12) dX1_passDay_12 rfl rfl ?_
    refine V_iload_n (i := 2) (pc := 13) dX1_passDay_13 rfl rfl ?_
    refine V_if_ne (pc := 14) (tgt := 26) dX1_passDay_14 rfl (fun q => ?_) (fun q => ?_)
    · have h := ite_f q h
      refine V_lconst (v := 0) (pc := 26) dX1_passDay_26 rfl ?_
      exact k_Dr_passDay_b27 h_this h hp
    · have h := ite_t q h
      refine V_aload_n (i := 0) (pc := 17) dX1_passDay_17 rfl rfl ?_
      refine V_getR (b := (this + 1)) (pc := 18) dX1_passDay_18 fl_Dr_9 h_this rfl rfl ?_
      refine V_iconst (v := 0) (pc := 21) dX1_passDay_21 rfl ?_
      obtain ⟨hg22, h⟩ := gd_e h
      refine V_lald (pc := 22) dX1_passDay_22 (kf_1_0 h_this) (af_1_0 h_this) hg22 ?_
      refine V_goto (tgt := 27) (pc := 23) dX1_passDay_23 rfl ?_
      exact k_Dr_passDay_b27 h_this h hp
theorem k_Dr_passDay {g : GE} {this : Nat} {v1 : Int32} {m : Mem} (h_this : kd this = 2) {r : Option AV} {m' : Mem} {x : Mem} (h : Dr_passDay this v1 m = some x) (hp : (fun x : Mem => r = none ∧ m' = x) x) : V g Y_Dr_passDay 0 [some (vr this), some (vi v1), none, none, none] [] m (PM g Y_Dr_passDay r m') := by
  unfold Dr_passDay at h
  refine V_iconst (v := 0) (pc := 0) dX1_passDay_0 rfl ?_
  refine V_istore_n (i := 2) (ls' := [some (vr this), some (vi v1), some (vi 0), none, none]) (pc := 1) dX1_passDay_1 rfl (Nat.le_of_ble_eq_true rfl) rfl ?_
  exact loop_V (A := fun s : Int32 × Mem => V g Y_Dr_passDay 2 [some (vr this), some (vi v1), some (vi s.1), none, none] [] s.2 (PM g Y_Dr_passDay r m')) (fun s x h hp => k_Dr_passDay_l2 h_this h hp) (0, m) _ h hp
theorem e_Dr_passDay {g : GE} {this : Nat} {v1 : Int32} {m : Mem} (h_this : kd this = 2) {x : Mem} (h : Dr_passDay this v1 m = some x) : Ev g Y_Dr_passDay [vr this, vi v1] m (none) x :=
  Ev_of 3 (by decide +kernel) rfl (Nat.le_of_ble_eq_true rfl) rfl (k_Dr_passDay h_this h ⟨rfl, rfl⟩)
theorem k_Dr_partsAt {g : GE} {this : Nat} {v1 : Int32} {m : Mem} (h_this : kd this = 2) {r : Option AV} {m' : Mem} {x : Int64} (h : Dr_partsAt this v1 m = some x) (hp : (fun x : Int64 => r = some (vl x) ∧ m' = m) x) : V g Y_Dr_partsAt 0 [some (vr this), some (vi v1)] [] m (PM g Y_Dr_partsAt r m') := by
  unfold Dr_partsAt at h
  refine V_iload_n (i := 1) (pc := 0) dX1_partsAt_0 rfl rfl ?_
  refine V_if_lt (pc := 1) (tgt := 19) dX1_partsAt_1 rfl (fun q => ?_) (fun q => ?_)
  · have h := ite_t q h
    refine V_lconst (v := 0) (pc := 19) dX1_partsAt_19 rfl ?_
    obtain rfl := Option.some.inj h
    exact E_l (pc := 20) dX1_partsAt_20 rfl hp
  · have h := ite_f q h
    refine V_iload_n (i := 1) (pc := 4) dX1_partsAt_4 rfl rfl ?_
    refine V_bipush (v := 99) (pc := 5) dX1_partsAt_5 rfl ?_
    refine V_icmp_gt (pc := 7) (tgt := 19) dX1_partsAt_7 rfl (fun q => ?_) (fun q => ?_)
    · have h := ite_t q h
      refine V_lconst (v := 0) (pc := 19) dX1_partsAt_19 rfl ?_
      obtain rfl := Option.some.inj h
      exact E_l (pc := 20) dX1_partsAt_20 rfl hp
    · have h := ite_f q h
      refine V_aload_n (i := 0) (pc := 10) dX1_partsAt_10 rfl rfl ?_
      refine V_getR (b := (this + 1)) (pc := 11) dX1_partsAt_11 fl_Dr_9 h_this rfl rfl ?_
      refine V_iload_n (i := 1) (pc := 14) dX1_partsAt_14 rfl rfl ?_
      obtain ⟨hg15, h⟩ := gd_e h
      refine V_lald (pc := 15) dX1_partsAt_15 (kf_1_0 h_this) (af_1_0 h_this) hg15 ?_
      refine V_goto (tgt := 20) (pc := 16) dX1_partsAt_16 rfl ?_
      obtain rfl := Option.some.inj h
      exact E_l (pc := 20) dX1_partsAt_20 rfl hp
theorem e_Dr_partsAt {g : GE} {this : Nat} {v1 : Int32} {m : Mem} (h_this : kd this = 2) {x : Int64} (h : Dr_partsAt this v1 m = some x) : Ev g Y_Dr_partsAt [vr this, vi v1] m (some (vl x)) m :=
  Ev_of 0 (by decide +kernel) rfl (Nat.le_of_ble_eq_true rfl) rfl (k_Dr_partsAt h_this h ⟨rfl, rfl⟩)
theorem k_PL_miles_l56 {g : GE} {this : Nat} {v1 : Int32} {v2 : Int32} {v3 : Int32} {m : Mem} (h_this : kd this = 11) {r : Option AV} {m' : Mem} {x : (Int32 × Mem) ⊕ (Int64 × Mem)} (h : PL_miles_l56 this v1 v2 v3 m = some x) (hp : (Sum.elim (fun s : Int32 × Mem => V g Y_PL_miles 56 [some (vr this), some (vi v1), some (vi v2), some (vi s.1)] [] s.2 (PM g Y_PL_miles r m')) (fun x : Int64 × Mem => r = some (vl x.1) ∧ m' = x.2)) x) : V g Y_PL_miles 56 [some (vr this), some (vi v1), some (vi v2), some (vi v3)] [] m (PM g Y_PL_miles r m') := by
  unfold PL_miles_l56 at h
  refine V_iload_n (i := 3) (pc := 56) dX10_miles_56 rfl rfl ?_
  refine V_iload_n (i := 1) (pc := 57) dX10_miles_57 rfl rfl ?_
  refine V_icmp_ge (pc := 58) (tgt := 84) dX10_miles_58 rfl (fun q => ?_) (fun q => ?_)
  · have h := ite_t q h
    obtain ⟨y1, hu1, rfl⟩ := up_e h
    have h := hu1
    refine V_aload_n (i := 0) (pc := 84) dX10_miles_84 rfl rfl ?_
    refine V_getR (b := (this + 294)) (pc := 85) dX10_miles_85 fl_PL_69 h_this rfl rfl ?_
    refine V_iload_n (i := 2) (pc := 88) dX10_miles_88 rfl rfl ?_
    obtain ⟨r89, e89, h⟩ := bnd h
    refine V_invV1 (c := 1) (pc := 89) dX10_miles_89 (e_Dr_partsAt (kf_10_9 h_this) e89) iv_PL_370 (rm_PL_miles_Dr_partsAt _ _ _) rfl (kf_10_9 h_this) cf_1 rfl (Nat.le_of_ble_eq_true rfl) rfl ?_
    obtain rfl := Option.some.inj h
    exact E_l (pc := 92) dX10_miles_92 rfl hp
  · have h := ite_f q h
    refine V_aload_n (i := 0) (pc := 61) dX10_miles_61 rfl rfl ?_
    refine V_getR (b := (this + 294)) (pc := 62) dX10_miles_62 fl_PL_69 h_this rfl rfl ?_
    refine V_aload_n (i := 0) (pc := 65) dX10_miles_65 rfl rfl ?_
    refine V_getR (b := (this + 27)) (pc := 66) dX10_miles_66 fl_PL_19 h_this rfl rfl ?_
    refine V_getR (b := (this + 28)) (pc := 69) dX10_miles_69 fl_PL_102 (kf_10_1 h_this) rfl rfl ?_
    refine V_getI (pc := 72) dX10_miles_72 fl_PL_365 (kf_0_0 (kf_10_1 h_this)) rfl ?_
    obtain ⟨m75, e75, h⟩ := bnd h
    refine V_invV0 (c := 1) (pc := 75) dX10_miles_75 (e_Dr_passDay (kf_10_9 h_this) e75) iv_PL_367 (rm_PL_miles_Dr_passDay _ _ _) rfl (kf_10_9 h_this) cf_1 rfl (Nat.le_of_ble_eq_true rfl) rfl ?_
    refine V_iinc (i := 3) (v := (v3 + 1)) (ls' := [some (vr this), some (vi v1), some (vi v2), some (vi (v3 + 1))]) (pc := 78) dX10_miles_78 rfl rfl (Nat.le_of_ble_eq_true rfl) rfl ?_
    refine V_goto (tgt := 56) (pc := 81) dX10_miles_81 rfl ?_
    obtain rfl := Option.some.inj h
    exact hp
theorem k_PL_miles {g : GE} {this : Nat} {v1 : Int32} {v2 : Int32} {m : Mem} (h_this : kd this = 11) {r : Option AV} {m' : Mem} {x : Int64 × Mem} (h : PL_miles this v1 v2 m = some x) (hp : (fun x : Int64 × Mem => r = some (vl x.1) ∧ m' = x.2) x) : V g Y_PL_miles 0 [some (vr this), some (vi v1), some (vi v2), none] [] m (PM g Y_PL_miles r m') := by
  unfold PL_miles at h
  refine V_aload_n (i := 0) (pc := 0) dX10_miles_0 rfl rfl ?_
  refine V_getR (b := (this + 27)) (pc := 1) dX10_miles_1 fl_PL_19 h_this rfl rfl ?_
  refine V_getR (b := (this + 28)) (pc := 4) dX10_miles_4 fl_PL_102 (kf_10_1 h_this) rfl rfl ?_
  obtain ⟨r7, e7, h⟩ := bnd h
  refine V_invV1 (c := 2) (pc := 7) dX10_miles_7 (e_Fl_isThere (kf_0_0 (kf_10_1 h_this)) e7) iv_PL_222 (rm_PL_miles_Fl_isThere _ _ _) rfl (kf_0_0 (kf_10_1 h_this)) cf_2 rfl (Nat.le_of_ble_eq_true rfl) rfl ?_
  refine V_if_eq (pc := 10) (tgt := 33) dX10_miles_10 rfl (fun q => ?_) (fun q => ?_)
  · have h := ite_t q h
    refine V_ldc2 (v := (-2)) (pc := 33) dX10_miles_33 con_PL_209 ?_
    obtain rfl := Option.some.inj h
    exact E_l (pc := 36) dX10_miles_36 rfl hp
  · have h := ite_f q h
    refine V_iload_n (i := 1) (pc := 13) dX10_miles_13 rfl rfl ?_
    refine V_if_lt (pc := 14) (tgt := 33) dX10_miles_14 rfl (fun q => ?_) (fun q => ?_)
    · have h := ite_t q h
      refine V_ldc2 (v := (-2)) (pc := 33) dX10_miles_33 con_PL_209 ?_
      obtain rfl := Option.some.inj h
      exact E_l (pc := 36) dX10_miles_36 rfl hp
    · have h := ite_f q h
      refine V_iload_n (i := 1) (pc := 17) dX10_miles_17 rfl rfl ?_
      refine V_bipush (v := 60) (pc := 18) dX10_miles_18 rfl ?_
      refine V_icmp_gt (pc := 20) (tgt := 33) dX10_miles_20 rfl (fun q => ?_) (fun q => ?_)
      · have h := ite_t q h
        refine V_ldc2 (v := (-2)) (pc := 33) dX10_miles_33 con_PL_209 ?_
        obtain rfl := Option.some.inj h
        exact E_l (pc := 36) dX10_miles_36 rfl hp
      · have h := ite_f q h
        refine V_iload_n (i := 2) (pc := 23) dX10_miles_23 rfl rfl ?_
        refine V_if_lt (pc := 24) (tgt := 33) dX10_miles_24 rfl (fun q => ?_) (fun q => ?_)
        · have h := ite_t q h
          refine V_ldc2 (v := (-2)) (pc := 33) dX10_miles_33 con_PL_209 ?_
          obtain rfl := Option.some.inj h
          exact E_l (pc := 36) dX10_miles_36 rfl hp
        · have h := ite_f q h
          refine V_iload_n (i := 2) (pc := 27) dX10_miles_27 rfl rfl ?_
          refine V_bipush (v := 99) (pc := 28) dX10_miles_28 rfl ?_
          refine V_icmp_le (pc := 30) (tgt := 37) dX10_miles_30 rfl (fun q => ?_) (fun q => ?_)
          · have h := ite_t q h
            refine V_aload_n (i := 0) (pc := 37) dX10_miles_37 rfl rfl ?_
            refine V_getR (b := (this + 294)) (pc := 38) dX10_miles_38 fl_PL_69 h_this rfl rfl ?_
            refine V_aload_n (i := 0) (pc := 41) dX10_miles_41 rfl rfl ?_
            refine V_getR (b := (this + 27)) (pc := 42) dX10_miles_42 fl_PL_19 h_this rfl rfl ?_
            refine V_getR (b := (this + 28)) (pc := 45) dX10_miles_45 fl_PL_102 (kf_10_1 h_this) rfl rfl ?_
            refine V_getI (pc := 48) dX10_miles_48 fl_PL_360 (kf_0_0 (kf_10_1 h_this)) rfl ?_
            obtain ⟨m51, e51, h⟩ := bnd h
            refine V_invV0 (c := 1) (pc := 51) dX10_miles_51 (e_Dr_begin (kf_10_9 h_this) e51) iv_PL_363 (rm_PL_miles_Dr_begin _ _ _) rfl (kf_10_9 h_this) cf_1 rfl (Nat.le_of_ble_eq_true rfl) rfl ?_
            refine V_iconst (v := 0) (pc := 54) dX10_miles_54 rfl ?_
            refine V_istore_n (i := 3) (ls' := [some (vr this), some (vi v1), some (vi v2), some (vi 0)]) (pc := 55) dX10_miles_55 rfl (Nat.le_of_ble_eq_true rfl) rfl ?_
            exact loop_V (A := fun s : Int32 × Mem => V g Y_PL_miles 56 [some (vr this), some (vi v1), some (vi v2), some (vi s.1)] [] s.2 (PM g Y_PL_miles r m')) (fun s x h hp => k_PL_miles_l56 h_this h hp) (0, m51) _ h hp
          · have h := ite_f q h
            refine V_ldc2 (v := (-2)) (pc := 33) dX10_miles_33 con_PL_209 ?_
            obtain rfl := Option.some.inj h
            exact E_l (pc := 36) dX10_miles_36 rfl hp
theorem e_PL_miles {g : GE} {this : Nat} {v1 : Int32} {v2 : Int32} {m : Mem} (h_this : kd this = 11) {x : Int64 × Mem} (h : PL_miles this v1 v2 m = some x) : Ev g Y_PL_miles [vr this, vi v1, vi v2] m (some (vl x.1)) x.2 :=
  Ev_of 1 (by decide +kernel) rfl (Nat.le_of_ble_eq_true rfl) rfl (k_PL_miles h_this h ⟨rfl, rfl⟩)
theorem k_Dr_partsWithin_l5 {g : GE} {this : Nat} {v1 : Int32} {v2 : Int64} {v4 : Int32} {m : Mem} (h_this : kd this = 2) {r : Option AV} {m' : Mem} {x : (Int64 × Int32) ⊕ (Int64)} (h : Dr_partsWithin_l5 this v1 v2 v4 m = some x) (hp : (Sum.elim (fun s : Int64 × Int32 => V g Y_Dr_partsWithin 5 [some (vr this), some (vi v1), some (vl s.1), none, some (vi s.2)] [] m (PM g Y_Dr_partsWithin r m')) (fun x : Int64 => r = some (vl x) ∧ m' = m)) x) : V g Y_Dr_partsWithin 5 [some (vr this), some (vi v1), some (vl v2), none, some (vi v4)] [] m (PM g Y_Dr_partsWithin r m') := by
  unfold Dr_partsWithin_l5 at h
  refine V_iload (i := 4) (pc := 5) dX1_partsWithin_5 rfl ?_
  refine V_iload_n (i := 1) (pc := 7) dX1_partsWithin_7 rfl rfl ?_
  refine V_icmp_gt (pc := 8) (tgt := 34) dX1_partsWithin_8 rfl (fun q => ?_) (fun q => ?_)
  · have h := ite_t q h
    obtain ⟨y1, hu1, rfl⟩ := up_e h
    have h := hu1
    refine V_lload_n (i := 2) (pc := 34) dX1_partsWithin_34 rfl rfl ?_
    obtain rfl := Option.some.inj h
    exact E_l (pc := 35) dX1_partsWithin_35 rfl hp
  · have h := ite_f q h
    refine V_iload (i := 4) (pc := 11) dX1_partsWithin_11 rfl ?_
    refine V_bipush (v := 99) (pc := 13) dX1_partsWithin_13 rfl ?_
    refine V_icmp_gt (pc := 15) (tgt := 34) dX1_partsWithin_15 rfl (fun q => ?_) (fun q => ?_)
    · have h := ite_t q h
      obtain ⟨y2, hu2, rfl⟩ := up_e h
      have h := hu2
      refine V_lload_n (i := 2) (pc := 34) dX1_partsWithin_34 rfl rfl ?_
      obtain rfl := Option.some.inj h
      exact E_l (pc := 35) dX1_partsWithin_35 rfl hp
    · have h := ite_f q h
      refine V_lload_n (i := 2) (pc := 18) dX1_partsWithin_18 rfl rfl ?_
      refine V_aload_n (i := 0) (pc := 19) dX1_partsWithin_19 rfl rfl ?_
      refine V_getR (b := (this + 1)) (pc := 20) dX1_partsWithin_20 fl_Dr_9 h_this rfl rfl ?_
      refine V_iload (i := 4) (pc := 23) dX1_partsWithin_23 rfl ?_
      obtain ⟨hg25, h⟩ := gd_e h
      refine V_lald (pc := 25) dX1_partsWithin_25 (kf_1_0 h_this) (af_1_0 h_this) hg25 ?_
      refine V_ladd (pc := 26) dX1_partsWithin_26 ?_
      refine V_lstore_n (i := 2) (ls' := [some (vr this), some (vi v1), some (vl (v2 + (rL m (this + 1) (ix v4)))), none, some (vi v4)]) (pc := 27) dX1_partsWithin_27 rfl (Nat.le_of_ble_eq_true rfl) rfl ?_
      refine V_iinc (i := 4) (v := (v4 + 1)) (ls' := [some (vr this), some (vi v1), some (vl (v2 + (rL m (this + 1) (ix v4)))), none, some (vi (v4 + 1))]) (pc := 28) dX1_partsWithin_28 rfl rfl (Nat.le_of_ble_eq_true rfl) rfl ?_
      refine V_goto (tgt := 5) (pc := 31) dX1_partsWithin_31 rfl ?_
      obtain rfl := Option.some.inj h
      exact hp
theorem k_Dr_partsWithin {g : GE} {this : Nat} {v1 : Int32} {m : Mem} (h_this : kd this = 2) {r : Option AV} {m' : Mem} {x : Int64} (h : Dr_partsWithin this v1 m = some x) (hp : (fun x : Int64 => r = some (vl x) ∧ m' = m) x) : V g Y_Dr_partsWithin 0 [some (vr this), some (vi v1), none, none, none] [] m (PM g Y_Dr_partsWithin r m') := by
  unfold Dr_partsWithin at h
  refine V_lconst (v := 0) (pc := 0) dX1_partsWithin_0 rfl ?_
  refine V_lstore_n (i := 2) (ls' := [some (vr this), some (vi v1), some (vl 0), none, none]) (pc := 1) dX1_partsWithin_1 rfl (Nat.le_of_ble_eq_true rfl) rfl ?_
  refine V_iconst (v := 0) (pc := 2) dX1_partsWithin_2 rfl ?_
  refine V_istore (i := 4) (ls' := [some (vr this), some (vi v1), some (vl 0), none, some (vi 0)]) (pc := 3) dX1_partsWithin_3 (Nat.le_of_ble_eq_true rfl) rfl ?_
  exact loop_V (A := fun s : Int64 × Int32 => V g Y_Dr_partsWithin 5 [some (vr this), some (vi v1), some (vl s.1), none, some (vi s.2)] [] m (PM g Y_Dr_partsWithin r m')) (fun s x h hp => k_Dr_partsWithin_l5 h_this h hp) (0, 0) _ h hp
theorem e_Dr_partsWithin {g : GE} {this : Nat} {v1 : Int32} {m : Mem} (h_this : kd this = 2) {x : Int64} (h : Dr_partsWithin this v1 m = some x) : Ev g Y_Dr_partsWithin [vr this, vi v1] m (some (vl x)) m :=
  Ev_of 3 (by decide +kernel) rfl (Nat.le_of_ble_eq_true rfl) rfl (k_Dr_partsWithin h_this h ⟨rfl, rfl⟩)
theorem k_PL_boats_l56 {g : GE} {this : Nat} {v1 : Int32} {v2 : Int32} {v3 : Int32} {m : Mem} (h_this : kd this = 11) {r : Option AV} {m' : Mem} {x : (Int32 × Mem) ⊕ (Int32 × Mem)} (h : PL_boats_l56 this v1 v2 v3 m = some x) (hp : (Sum.elim (fun s : Int32 × Mem => V g Y_PL_boats 56 [some (vr this), some (vi v1), some (vi v2), some (vi s.1)] [] s.2 (PM g Y_PL_boats r m')) (fun x : Int32 × Mem => r = some (vi x.1) ∧ m' = x.2)) x) : V g Y_PL_boats 56 [some (vr this), some (vi v1), some (vi v2), some (vi v3)] [] m (PM g Y_PL_boats r m') := by
  unfold PL_boats_l56 at h
  refine V_iload_n (i := 3) (pc := 56) dX10_boats_56 rfl rfl ?_
  refine V_bipush (v := 60) (pc := 57) dX10_boats_57 rfl ?_
  refine V_icmp_gt (pc := 59) (tgt := 105) dX10_boats_59 rfl (fun q => ?_) (fun q => ?_)
  · have h := ite_t q h
    obtain ⟨y1, hu1, rfl⟩ := up_e h
    have h := hu1
    refine V_iconst (v := (-1)) (pc := 105) dX10_boats_105 rfl ?_
    obtain rfl := Option.some.inj h
    exact E_i (pc := 106) dX10_boats_106 rfl hp
  · have h := ite_f q h
    refine V_aload_n (i := 0) (pc := 62) dX10_boats_62 rfl rfl ?_
    refine V_getR (b := (this + 294)) (pc := 63) dX10_boats_63 fl_PL_69 h_this rfl rfl ?_
    refine V_iload_n (i := 1) (pc := 66) dX10_boats_66 rfl rfl ?_
    obtain ⟨r67, e67, h⟩ := bnd h
    refine V_invV1 (c := 1) (pc := 67) dX10_boats_67 (e_Dr_partsWithin (kf_10_9 h_this) e67) iv_PL_373 (rm_PL_boats_Dr_partsWithin _ _ _) rfl (kf_10_9 h_this) cf_1 rfl (Nat.le_of_ble_eq_true rfl) rfl ?_
    refine V_iload_n (i := 2) (pc := 70) dX10_boats_70 rfl rfl ?_
    refine V_i2l (pc := 71) dX10_boats_71 ?_
    refine V_ldc2 (v := 1000000000) (pc := 72) dX10_boats_72 con_PL_249 ?_
    refine V_lmul (pc := 75) dX10_boats_75 ?_
    refine V_lif_lt (pc := 76) (tgt := 82) dX10_boats_76 dX10_boats_77 rfl (fun q => ?_) (fun q => ?_)
    · have h := ite_t q h
      refine V_aload_n (i := 0) (pc := 82) dX10_boats_82 rfl rfl ?_
      refine V_getR (b := (this + 294)) (pc := 83) dX10_boats_83 fl_PL_69 h_this rfl rfl ?_
      refine V_aload_n (i := 0) (pc := 86) dX10_boats_86 rfl rfl ?_
      refine V_getR (b := (this + 27)) (pc := 87) dX10_boats_87 fl_PL_19 h_this rfl rfl ?_
      refine V_getR (b := (this + 28)) (pc := 90) dX10_boats_90 fl_PL_102 (kf_10_1 h_this) rfl rfl ?_
      refine V_getI (pc := 93) dX10_boats_93 fl_PL_365 (kf_0_0 (kf_10_1 h_this)) rfl ?_
      obtain ⟨m96, e96, h⟩ := bnd h
      refine V_invV0 (c := 1) (pc := 96) dX10_boats_96 (e_Dr_passDay (kf_10_9 h_this) e96) iv_PL_367 (rm_PL_boats_Dr_passDay _ _ _) rfl (kf_10_9 h_this) cf_1 rfl (Nat.le_of_ble_eq_true rfl) rfl ?_
      refine V_iinc (i := 3) (v := (v3 + 1)) (ls' := [some (vr this), some (vi v1), some (vi v2), some (vi (v3 + 1))]) (pc := 99) dX10_boats_99 rfl rfl (Nat.le_of_ble_eq_true rfl) rfl ?_
      refine V_goto (tgt := 56) (pc := 102) dX10_boats_102 rfl ?_
      obtain rfl := Option.some.inj h
      exact hp
    · have h := ite_f q h
      obtain ⟨y2, hu2, rfl⟩ := up_e h
      have h := hu2
      refine V_iload_n (i := 3) (pc := 80) dX10_boats_80 rfl rfl ?_
      obtain rfl := Option.some.inj h
      exact E_i (pc := 81) dX10_boats_81 rfl hp
theorem k_PL_boats {g : GE} {this : Nat} {v1 : Int32} {v2 : Int32} {m : Mem} (h_this : kd this = 11) {r : Option AV} {m' : Mem} {x : Int32 × Mem} (h : PL_boats this v1 v2 m = some x) (hp : (fun x : Int32 × Mem => r = some (vi x.1) ∧ m' = x.2) x) : V g Y_PL_boats 0 [some (vr this), some (vi v1), some (vi v2), none] [] m (PM g Y_PL_boats r m') := by
  unfold PL_boats at h
  refine V_aload_n (i := 0) (pc := 0) dX10_boats_0 rfl rfl ?_
  refine V_getR (b := (this + 27)) (pc := 1) dX10_boats_1 fl_PL_19 h_this rfl rfl ?_
  refine V_getR (b := (this + 28)) (pc := 4) dX10_boats_4 fl_PL_102 (kf_10_1 h_this) rfl rfl ?_
  obtain ⟨r7, e7, h⟩ := bnd h
  refine V_invV1 (c := 2) (pc := 7) dX10_boats_7 (e_Fl_isThere (kf_0_0 (kf_10_1 h_this)) e7) iv_PL_222 (rm_PL_boats_Fl_isThere _ _ _) rfl (kf_0_0 (kf_10_1 h_this)) cf_2 rfl (Nat.le_of_ble_eq_true rfl) rfl ?_
  refine V_if_eq (pc := 10) (tgt := 34) dX10_boats_10 rfl (fun q => ?_) (fun q => ?_)
  · have h := ite_t q h
    refine V_bipush (v := (-2)) (pc := 34) dX10_boats_34 rfl ?_
    obtain rfl := Option.some.inj h
    exact E_i (pc := 36) dX10_boats_36 rfl hp
  · have h := ite_f q h
    refine V_iload_n (i := 1) (pc := 13) dX10_boats_13 rfl rfl ?_
    refine V_if_lt (pc := 14) (tgt := 34) dX10_boats_14 rfl (fun q => ?_) (fun q => ?_)
    · have h := ite_t q h
      refine V_bipush (v := (-2)) (pc := 34) dX10_boats_34 rfl ?_
      obtain rfl := Option.some.inj h
      exact E_i (pc := 36) dX10_boats_36 rfl hp
    · have h := ite_f q h
      refine V_iload_n (i := 1) (pc := 17) dX10_boats_17 rfl rfl ?_
      refine V_bipush (v := 99) (pc := 18) dX10_boats_18 rfl ?_
      refine V_icmp_gt (pc := 20) (tgt := 34) dX10_boats_20 rfl (fun q => ?_) (fun q => ?_)
      · have h := ite_t q h
        refine V_bipush (v := (-2)) (pc := 34) dX10_boats_34 rfl ?_
        obtain rfl := Option.some.inj h
        exact E_i (pc := 36) dX10_boats_36 rfl hp
      · have h := ite_f q h
        refine V_iload_n (i := 2) (pc := 23) dX10_boats_23 rfl rfl ?_
        obtain ⟨r24, e24, h⟩ := bnd h
        refine V_invS1 (pc := 24) dX10_boats_24 (e_PL_isThousandths  e24) is_PL_242 (rm_PL_boats_PL_isThousandths _ _ _) rfl (Nat.le_of_ble_eq_true rfl) rfl ?_
        refine V_if_eq (pc := 27) (tgt := 34) dX10_boats_27 rfl (fun q => ?_) (fun q => ?_)
        · have h := ite_t q h
          refine V_bipush (v := (-2)) (pc := 34) dX10_boats_34 rfl ?_
          obtain rfl := Option.some.inj h
          exact E_i (pc := 36) dX10_boats_36 rfl hp
        · have h := ite_f q h
          refine V_iload_n (i := 2) (pc := 30) dX10_boats_30 rfl rfl ?_
          refine V_if_ne (pc := 31) (tgt := 37) dX10_boats_31 rfl (fun q => ?_) (fun q => ?_)
          · have h := ite_f q h
            refine V_aload_n (i := 0) (pc := 37) dX10_boats_37 rfl rfl ?_
            refine V_getR (b := (this + 294)) (pc := 38) dX10_boats_38 fl_PL_69 h_this rfl rfl ?_
            refine V_aload_n (i := 0) (pc := 41) dX10_boats_41 rfl rfl ?_
            refine V_getR (b := (this + 27)) (pc := 42) dX10_boats_42 fl_PL_19 h_this rfl rfl ?_
            refine V_getR (b := (this + 28)) (pc := 45) dX10_boats_45 fl_PL_102 (kf_10_1 h_this) rfl rfl ?_
            refine V_getI (pc := 48) dX10_boats_48 fl_PL_360 (kf_0_0 (kf_10_1 h_this)) rfl ?_
            obtain ⟨m51, e51, h⟩ := bnd h
            refine V_invV0 (c := 1) (pc := 51) dX10_boats_51 (e_Dr_begin (kf_10_9 h_this) e51) iv_PL_363 (rm_PL_boats_Dr_begin _ _ _) rfl (kf_10_9 h_this) cf_1 rfl (Nat.le_of_ble_eq_true rfl) rfl ?_
            refine V_iconst (v := 0) (pc := 54) dX10_boats_54 rfl ?_
            refine V_istore_n (i := 3) (ls' := [some (vr this), some (vi v1), some (vi v2), some (vi 0)]) (pc := 55) dX10_boats_55 rfl (Nat.le_of_ble_eq_true rfl) rfl ?_
            exact loop_V (A := fun s : Int32 × Mem => V g Y_PL_boats 56 [some (vr this), some (vi v1), some (vi v2), some (vi s.1)] [] s.2 (PM g Y_PL_boats r m')) (fun s x h hp => k_PL_boats_l56 h_this h hp) (0, m51) _ h hp
          · have h := ite_t q h
            refine V_bipush (v := (-2)) (pc := 34) dX10_boats_34 rfl ?_
            obtain rfl := Option.some.inj h
            exact E_i (pc := 36) dX10_boats_36 rfl hp
theorem e_PL_boats {g : GE} {this : Nat} {v1 : Int32} {v2 : Int32} {m : Mem} (h_this : kd this = 11) {x : Int32 × Mem} (h : PL_boats this v1 v2 m = some x) : Ev g Y_PL_boats [vr this, vi v1, vi v2] m (some (vi x.1)) x.2 :=
  Ev_of 1 (by decide +kernel) rfl (Nat.le_of_ble_eq_true rfl) rfl (k_PL_boats h_this h ⟨rfl, rfl⟩)
theorem k_PL_saw {g : GE} {this : Nat} {v1 : Int32} {m : Mem} (h_this : kd this = 11) {r : Option AV} {m' : Mem} {x : Int32 × Mem} (h : PL_saw this v1 m = some x) (hp : (fun x : Int32 × Mem => r = some (vi x.1) ∧ m' = x.2) x) : V g Y_PL_saw 0 [some (vr this), some (vi v1)] [] m (PM g Y_PL_saw r m') := by
  unfold PL_saw at h
  refine V_aload_n (i := 0) (pc := 0) dX10_saw_0 rfl rfl ?_
  refine V_getR (b := (this + 27)) (pc := 1) dX10_saw_1 fl_PL_19 h_this rfl rfl ?_
  refine V_getR (b := (this + 28)) (pc := 4) dX10_saw_4 fl_PL_102 (kf_10_1 h_this) rfl rfl ?_
  refine V_getR (b := (this + 29)) (pc := 7) dX10_saw_7 fl_PL_186 (kf_0_0 (kf_10_1 h_this)) rfl rfl ?_
  refine V_iload_n (i := 1) (pc := 10) dX10_saw_10 rfl rfl ?_
  obtain ⟨r11, e11, h⟩ := bnd h
  refine V_invV1 (c := 8) (pc := 11) dX10_saw_11 (e_Ta_has (kf_2_15 (kf_0_0 (kf_10_1 h_this))) e11) iv_PL_134 (rm_PL_saw_Ta_has _ _ _) rfl (kf_2_15 (kf_0_0 (kf_10_1 h_this))) cf_8 rfl (Nat.le_of_ble_eq_true rfl) rfl ?_
  refine V_if_ne (pc := 14) (tgt := 20) dX10_saw_14 rfl (fun q => ?_) (fun q => ?_)
  · have h := ite_f q h
    refine V_aload_n (i := 0) (pc := 20) dX10_saw_20 rfl rfl ?_
    refine V_getR (b := (this + 27)) (pc := 21) dX10_saw_21 fl_PL_19 h_this rfl rfl ?_
    refine V_getR (b := (this + 66)) (pc := 24) dX10_saw_24 fl_PL_376 (kf_10_1 h_this) rfl rfl ?_
    refine V_iload_n (i := 1) (pc := 27) dX10_saw_27 rfl rfl ?_
    obtain ⟨hg28, h⟩ := gd_e h
    refine V_iald (pc := 28) dX10_saw_28 (kf_0_8 (kf_10_1 h_this)) (af_0_8 (kf_10_1 h_this)) hg28 ?_
    refine V_bipush (v := 99) (pc := 29) dX10_saw_29 rfl ?_
    refine V_icmp_lt (pc := 31) (tgt := 37) dX10_saw_31 rfl (fun q => ?_) (fun q => ?_)
    · have h := ite_t q h
      refine V_aload_n (i := 0) (pc := 37) dX10_saw_37 rfl rfl ?_
      refine V_getR (b := (this + 27)) (pc := 38) dX10_saw_38 fl_PL_19 h_this rfl rfl ?_
      refine V_getR (b := (this + 66)) (pc := 41) dX10_saw_41 fl_PL_376 (kf_10_1 h_this) rfl rfl ?_
      refine V_iload_n (i := 1) (pc := 44) dX10_saw_44 rfl rfl ?_
      refine V_dup2 (pc := 45) dX10_saw_45 ?_
      obtain ⟨hg46, h⟩ := gd_e h
      refine V_iald (pc := 46) dX10_saw_46 (kf_0_8 (kf_10_1 h_this)) (af_0_8 (kf_10_1 h_this)) hg46 ?_
      refine V_iconst (v := 1) (pc := 47) dX10_saw_47 rfl ?_
      refine V_iadd (pc := 48) dX10_saw_48 ?_
      obtain ⟨hg49, h⟩ := gd_e h
      refine V_iast_lt (pc := 49) dX10_saw_49 (kf_0_8 (kf_10_1 h_this)) (af_0_8 (kf_10_1 h_this)) hg49 h (fun m49 h => ?_)
      refine V_aload_n (i := 0) (pc := 50) dX10_saw_50 rfl rfl ?_
      refine V_getR (b := (this + 27)) (pc := 51) dX10_saw_51 fl_PL_19 h_this rfl rfl ?_
      refine V_getR (b := (this + 66)) (pc := 54) dX10_saw_54 fl_PL_376 (kf_10_1 h_this) rfl rfl ?_
      refine V_iload_n (i := 1) (pc := 57) dX10_saw_57 rfl rfl ?_
      obtain ⟨hg58, h⟩ := gd_e h
      refine V_iald (pc := 58) dX10_saw_58 (kf_0_8 (kf_10_1 h_this)) (af_0_8 (kf_10_1 h_this)) hg58 ?_
      obtain rfl := Option.some.inj h
      exact E_i (pc := 59) dX10_saw_59 rfl hp
    · have h := ite_f q h
      refine V_bipush (v := (-3)) (pc := 34) dX10_saw_34 rfl ?_
      obtain rfl := Option.some.inj h
      exact E_i (pc := 36) dX10_saw_36 rfl hp
  · have h := ite_t q h
    refine V_bipush (v := (-2)) (pc := 17) dX10_saw_17 rfl ?_
    obtain rfl := Option.some.inj h
    exact E_i (pc := 19) dX10_saw_19 rfl hp
theorem e_PL_saw {g : GE} {this : Nat} {v1 : Int32} {m : Mem} (h_this : kd this = 11) {x : Int32 × Mem} (h : PL_saw this v1 m = some x) : Ev g Y_PL_saw [vr this, vi v1] m (some (vi x.1)) x.2 :=
  Ev_of 0 (by decide +kernel) rfl (Nat.le_of_ble_eq_true rfl) rfl (k_PL_saw h_this h ⟨rfl, rfl⟩)
theorem k_PL_pass {g : GE} {this : Nat} {v1 : Int32} {m : Mem} (h_this : kd this = 11) {r : Option AV} {m' : Mem} {x : Int32 × Mem} (h : PL_pass this v1 m = some x) (hp : (fun x : Int32 × Mem => r = some (vi x.1) ∧ m' = x.2) x) : V g Y_PL_pass 0 [some (vr this), some (vi v1)] [] m (PM g Y_PL_pass r m') := by
  unfold PL_pass at h
  refine V_aload_n (i := 0) (pc := 0) dX10_pass_0 rfl rfl ?_
  refine V_getR (b := (this + 27)) (pc := 1) dX10_pass_1 fl_PL_19 h_this rfl rfl ?_
  refine V_getR (b := (this + 28)) (pc := 4) dX10_pass_4 fl_PL_102 (kf_10_1 h_this) rfl rfl ?_
  obtain ⟨r7, e7, h⟩ := bnd h
  refine V_invV1 (c := 2) (pc := 7) dX10_pass_7 (e_Fl_isThere (kf_0_0 (kf_10_1 h_this)) e7) iv_PL_222 (rm_PL_pass_Fl_isThere _ _ _) rfl (kf_0_0 (kf_10_1 h_this)) cf_2 rfl (Nat.le_of_ble_eq_true rfl) rfl ?_
  refine V_if_eq (pc := 10) (tgt := 38) dX10_pass_10 rfl (fun q => ?_) (fun q => ?_)
  · have h := ite_t q h
    refine V_bipush (v := (-2)) (pc := 38) dX10_pass_38 rfl ?_
    obtain rfl := Option.some.inj h
    exact E_i (pc := 40) dX10_pass_40 rfl hp
  · have h := ite_f q h
    refine V_iload_n (i := 1) (pc := 13) dX10_pass_13 rfl rfl ?_
    refine V_if_lt (pc := 14) (tgt := 38) dX10_pass_14 rfl (fun q => ?_) (fun q => ?_)
    · have h := ite_t q h
      refine V_bipush (v := (-2)) (pc := 38) dX10_pass_38 rfl ?_
      obtain rfl := Option.some.inj h
      exact E_i (pc := 40) dX10_pass_40 rfl hp
    · have h := ite_f q h
      refine V_iload_n (i := 1) (pc := 17) dX10_pass_17 rfl rfl ?_
      refine V_bipush (v := 99) (pc := 18) dX10_pass_18 rfl ?_
      refine V_icmp_gt (pc := 20) (tgt := 38) dX10_pass_20 rfl (fun q => ?_) (fun q => ?_)
      · have h := ite_t q h
        refine V_bipush (v := (-2)) (pc := 38) dX10_pass_38 rfl ?_
        obtain rfl := Option.some.inj h
        exact E_i (pc := 40) dX10_pass_40 rfl hp
      · have h := ite_f q h
        refine V_aload_n (i := 0) (pc := 23) dX10_pass_23 rfl rfl ?_
        refine V_getR (b := (this + 27)) (pc := 24) dX10_pass_24 fl_PL_19 h_this rfl rfl ?_
        refine V_getI (pc := 27) dX10_pass_27 fl_PL_379 (kf_10_1 h_this) rfl ?_
        refine V_iload_n (i := 1) (pc := 30) dX10_pass_30 rfl rfl ?_
        refine V_iadd (pc := 31) dX10_pass_31 ?_
        refine V_sipush (v := 9999) (pc := 32) dX10_pass_32 rfl ?_
        refine V_icmp_le (pc := 35) (tgt := 41) dX10_pass_35 rfl (fun q => ?_) (fun q => ?_)
        · have h := ite_t q h
          refine V_aload_n (i := 0) (pc := 41) dX10_pass_41 rfl rfl ?_
          refine V_getR (b := (this + 27)) (pc := 42) dX10_pass_42 fl_PL_19 h_this rfl rfl ?_
          refine V_dupr (pc := 45) dX10_pass_45 ?_
          refine V_getI (pc := 46) dX10_pass_46 fl_PL_379 (kf_10_1 h_this) rfl ?_
          refine V_iload_n (i := 1) (pc := 49) dX10_pass_49 rfl rfl ?_
          refine V_iadd (pc := 50) dX10_pass_50 ?_
          refine V_putI_lt (pc := 51) dX10_pass_51 fp_PL_379 (kf_10_1 h_this) rfl rfl rfl h (fun m51 h => ?_)
          refine V_aload_n (i := 0) (pc := 54) dX10_pass_54 rfl rfl ?_
          refine V_getR (b := (this + 27)) (pc := 55) dX10_pass_55 fl_PL_19 h_this rfl rfl ?_
          refine V_getI (pc := 58) dX10_pass_58 fl_PL_379 (kf_10_1 h_this) rfl ?_
          obtain rfl := Option.some.inj h
          exact E_i (pc := 61) dX10_pass_61 rfl hp
        · have h := ite_f q h
          refine V_bipush (v := (-2)) (pc := 38) dX10_pass_38 rfl ?_
          obtain rfl := Option.some.inj h
          exact E_i (pc := 40) dX10_pass_40 rfl hp
theorem e_PL_pass {g : GE} {this : Nat} {v1 : Int32} {m : Mem} (h_this : kd this = 11) {x : Int32 × Mem} (h : PL_pass this v1 m = some x) : Ev g Y_PL_pass [vr this, vi v1] m (some (vi x.1)) x.2 :=
  Ev_of 0 (by decide +kernel) rfl (Nat.le_of_ble_eq_true rfl) rfl (k_PL_pass h_this h ⟨rfl, rfl⟩)
theorem k_PL_seam {g : GE} {this : Nat} {v1 : Int32} {m : Mem} (h_this : kd this = 11) {r : Option AV} {m' : Mem} {x : Int32} (h : PL_seam this v1 m = some x) (hp : (fun x : Int32 => r = some (vi x) ∧ m' = m) x) : V g Y_PL_seam 0 [some (vr this), some (vi v1), none] [] m (PM g Y_PL_seam r m') := by
  unfold PL_seam at h
  refine V_aload_n (i := 0) (pc := 0) dX10_seam_0 rfl rfl ?_
  refine V_getR (b := (this + 27)) (pc := 1) dX10_seam_1 fl_PL_19 h_this rfl rfl ?_
  refine V_getR (b := (this + 28)) (pc := 4) dX10_seam_4 fl_PL_102 (kf_10_1 h_this) rfl rfl ?_
  refine V_getR (b := (this + 29)) (pc := 7) dX10_seam_7 fl_PL_186 (kf_0_0 (kf_10_1 h_this)) rfl rfl ?_
  refine V_iload_n (i := 1) (pc := 10) dX10_seam_10 rfl rfl ?_
  obtain ⟨r11, e11, h⟩ := bnd h
  refine V_invV1 (c := 8) (pc := 11) dX10_seam_11 (e_Ta_has (kf_2_15 (kf_0_0 (kf_10_1 h_this))) e11) iv_PL_134 (rm_PL_seam_Ta_has _ _ _) rfl (kf_2_15 (kf_0_0 (kf_10_1 h_this))) cf_8 rfl (Nat.le_of_ble_eq_true rfl) rfl ?_
  refine V_if_ne (pc := 14) (tgt := 20) dX10_seam_14 rfl (fun q => ?_) (fun q => ?_)
  · have h := ite_f q h
    refine V_iconst (v := 0) (pc := 20) dX10_seam_20 rfl ?_
    refine V_aload_n (i := 0) (pc := 21) dX10_seam_21 rfl rfl ?_
    refine V_getR (b := (this + 27)) (pc := 22) dX10_seam_22 fl_PL_19 h_this rfl rfl ?_
    refine V_getI (pc := 25) dX10_seam_25 fl_PL_379 (kf_10_1 h_this) rfl ?_
    refine V_mmax (pc := 28) dX10_seam_28 ma_PL_382 (rmM_PL_seam _ _ _) (Nat.le_of_ble_eq_true rfl) ?_
    refine V_istore_n (i := 2) (ls' := [some (vr this), some (vi v1), some (vi (jmax 0 (rI m (this + 27) 9)))]) (pc := 31) dX10_seam_31 rfl (Nat.le_of_ble_eq_true rfl) rfl ?_
    refine V_bipush (v := 100) (pc := 32) dX10_seam_32 rfl ?_
    refine V_aload_n (i := 0) (pc := 34) dX10_seam_34 rfl rfl ?_
    refine V_getR (b := (this + 27)) (pc := 35) dX10_seam_35 fl_PL_19 h_this rfl rfl ?_
    refine V_iload_n (i := 1) (pc := 38) dX10_seam_38 rfl rfl ?_
    obtain ⟨r39, e39, h⟩ := bnd h
    refine V_invV1 (c := 0) (pc := 39) dX10_seam_39 (e_Ca_oddsOf (kf_10_1 h_this) e39) iv_PL_192 (rm_PL_seam_Ca_oddsOf _ _ _) rfl (kf_10_1 h_this) cf_0 rfl (Nat.le_of_ble_eq_true rfl) rfl ?_
    refine V_imul (pc := 42) dX10_seam_42 ?_
    refine V_sipush (v := 10000) (pc := 43) dX10_seam_43 rfl ?_
    refine V_aload_n (i := 0) (pc := 46) dX10_seam_46 rfl rfl ?_
    refine V_getR (b := (this + 27)) (pc := 47) dX10_seam_47 fl_PL_19 h_this rfl rfl ?_
    refine V_getR (b := (this + 66)) (pc := 50) dX10_seam_50 fl_PL_376 (kf_10_1 h_this) rfl rfl ?_
    refine V_iload_n (i := 1) (pc := 53) dX10_seam_53 rfl rfl ?_
    obtain ⟨hg54, h⟩ := gd_e h
    refine V_iald (pc := 54) dX10_seam_54 (kf_0_8 (kf_10_1 h_this)) (af_0_8 (kf_10_1 h_this)) hg54 ?_
    refine V_imul (pc := 55) dX10_seam_55 ?_
    refine V_iadd (pc := 56) dX10_seam_56 ?_
    refine V_bipush (v := 100) (pc := 57) dX10_seam_57 rfl ?_
    refine V_iload_n (i := 2) (pc := 59) dX10_seam_59 rfl rfl ?_
    refine V_iadd (pc := 60) dX10_seam_60 ?_
    obtain ⟨hg61, h⟩ := gd_e h
    refine V_idiv (pc := 61) dX10_seam_61 hg61 ?_
    obtain rfl := Option.some.inj h
    exact E_i (pc := 62) dX10_seam_62 rfl hp
  · have h := ite_t q h
    refine V_bipush (v := (-2)) (pc := 17) dX10_seam_17 rfl ?_
    obtain rfl := Option.some.inj h
    exact E_i (pc := 19) dX10_seam_19 rfl hp
theorem e_PL_seam {g : GE} {this : Nat} {v1 : Int32} {m : Mem} (h_this : kd this = 11) {x : Int32} (h : PL_seam this v1 m = some x) : Ev g Y_PL_seam [vr this, vi v1] m (some (vi x)) m :=
  Ev_of 1 (by decide +kernel) rfl (Nat.le_of_ble_eq_true rfl) rfl (k_PL_seam h_this h ⟨rfl, rfl⟩)
theorem k_PL_isSpring {g : GE} {v0 : Int32} {v1 : Int32} {m : Mem} {r : Option AV} {m' : Mem} {x : Int32} (h : PL_isSpring v0 v1 m = some x) (hp : (fun x : Int32 => r = some (vi x) ∧ m' = m) x) : V g Y_PL_isSpring 0 [some (vi v0), some (vi v1)] [] m (PM g Y_PL_isSpring r m') := by
  unfold PL_isSpring at h
  refine V_iload_n (i := 0) (pc := 0) dX10_isSpring_0 rfl rfl ?_
  refine V_if_lt (pc := 1) (tgt := 25) dX10_isSpring_1 rfl (fun q => ?_) (fun q => ?_)
  · have h := ite_t q h
    refine V_iconst (v := 0) (pc := 25) dX10_isSpring_25 rfl ?_
    obtain rfl := Option.some.inj h
    exact E_z (pc := 26) dX10_isSpring_26 rfl rfl hp
  · have h := ite_f q h
    refine V_iload_n (i := 0) (pc := 4) dX10_isSpring_4 rfl rfl ?_
    refine V_ldcw (v := 2000000000) (pc := 5) dX10_isSpring_5 con_PL_441 ?_
    refine V_icmp_gt (pc := 8) (tgt := 25) dX10_isSpring_8 rfl (fun q => ?_) (fun q => ?_)
    · have h := ite_t q h
      refine V_iconst (v := 0) (pc := 25) dX10_isSpring_25 rfl ?_
      obtain rfl := Option.some.inj h
      exact E_z (pc := 26) dX10_isSpring_26 rfl rfl hp
    · have h := ite_f q h
      refine V_iload_n (i := 1) (pc := 11) dX10_isSpring_11 rfl rfl ?_
      refine V_if_lt (pc := 12) (tgt := 25) dX10_isSpring_12 rfl (fun q => ?_) (fun q => ?_)
      · have h := ite_t q h
        refine V_iconst (v := 0) (pc := 25) dX10_isSpring_25 rfl ?_
        obtain rfl := Option.some.inj h
        exact E_z (pc := 26) dX10_isSpring_26 rfl rfl hp
      · have h := ite_f q h
        refine V_iload_n (i := 1) (pc := 15) dX10_isSpring_15 rfl rfl ?_
        refine V_bipush (v := 99) (pc := 16) dX10_isSpring_16 rfl ?_
        refine V_icmp_gt (pc := 18) (tgt := 25) dX10_isSpring_18 rfl (fun q => ?_) (fun q => ?_)
        · have h := ite_t q h
          refine V_iconst (v := 0) (pc := 25) dX10_isSpring_25 rfl ?_
          obtain rfl := Option.some.inj h
          exact E_z (pc := 26) dX10_isSpring_26 rfl rfl hp
        · have h := ite_f q h
          refine V_iconst (v := 1) (pc := 21) dX10_isSpring_21 rfl ?_
          refine V_goto (tgt := 26) (pc := 22) dX10_isSpring_22 rfl ?_
          obtain rfl := Option.some.inj h
          exact E_z (pc := 26) dX10_isSpring_26 rfl rfl hp
theorem e_PL_isSpring {g : GE} {v0 : Int32} {v1 : Int32} {m : Mem} {x : Int32} (h : PL_isSpring v0 v1 m = some x) : Ev g Y_PL_isSpring [vi v0, vi v1] m (some (vi x)) m :=
  Ev_of 0 (by decide +kernel) rfl (Nat.le_of_ble_eq_true rfl) rfl (k_PL_isSpring  h ⟨rfl, rfl⟩)
theorem k_Ic_drawSpring_b160 {g : GE} {this : Nat} {v3 : Int32} {v4 : Int64} {v6 : Int32} {v7 : Int32}  {m : Mem} (h_this : kd this = 5) {r : Option AV} {m' : Mem} {x : (Int64 × Int32 × Int32 × Mem) ⊕ (Int32 × Mem)} (h : Ic_drawSpring_b160 this v3 v4 v6 v7 m = some x) (hp : (Sum.elim (fun s : Int64 × Int32 × Int32 × Mem => V g Y_Ic_drawSpring 17 [some (vr this), none, none, some (vi v3), some (vl s.1), none, some (vi s.2.1), some (vi s.2.2.1), none, none, none, none] [] s.2.2.2 (PM g Y_Ic_drawSpring r m')) (fun x : Int32 × Mem => r = some (vi x.1) ∧ m' = x.2)) x) : V g Y_Ic_drawSpring 160 [some (vr this), none, none, some (vi v3), some (vl v4), none, some (vi v6), some (vi v7), none, none, none, none] [] m (PM g Y_Ic_drawSpring r m') := by
  unfold Ic_drawSpring_b160 at h
  refine V_iinc (i := 7) (v := (v7 + 1)) (ls' := [some (vr this), none, none, some (vi v3), some (vl v4), none, some (vi v6), some (vi (v7 + 1)), none, none, none, none]) (pc := 160) dX4_drawSpring_160 rfl rfl (Nat.le_of_ble_eq_true rfl) rfl ?_
  refine V_goto (tgt := 17) (pc := 163) dX4_drawSpring_163 rfl ?_
  obtain rfl := Option.some.inj h
  exact hp
theorem k_Ic_drawSpring_b140 {g : GE} {this : Nat} {v3 : Int32} {v4 : Int64} {v6 : Int32} {v7 : Int32}  {m : Mem} (h_this : kd this = 5) {r : Option AV} {m' : Mem} {x : (Int64 × Int32 × Int32 × Mem) ⊕ (Int32 × Mem)} (h : Ic_drawSpring_b140 this v3 v4 v6 v7 m = some x) (hp : (Sum.elim (fun s : Int64 × Int32 × Int32 × Mem => V g Y_Ic_drawSpring 17 [some (vr this), none, none, some (vi v3), some (vl s.1), none, some (vi s.2.1), some (vi s.2.2.1), none, none, none, none] [] s.2.2.2 (PM g Y_Ic_drawSpring r m')) (fun x : Int32 × Mem => r = some (vi x.1) ∧ m' = x.2)) x) : V g Y_Ic_drawSpring 140 [some (vr this), none, none, some (vi v3), some (vl v4), none, some (vi v6), some (vi v7), none, none, none, none] [] m (PM g Y_Ic_drawSpring r m') := by
  unfold Ic_drawSpring_b140 at h
  refine V_iload (i := 6) (pc := 140) dX4_drawSpring_140 rfl ?_
  refine V_if_ne (pc := 142) (tgt := 160) dX4_drawSpring_142 rfl (fun q => ?_) (fun q => ?_)
  · have h := ite_f q h
    exact k_Ic_drawSpring_b160 h_this h hp
  · have h := ite_t q h
    refine V_aload_n (i := 0) (pc := 145) dX4_drawSpring_145 rfl rfl ?_
    refine V_aload_n (i := 0) (pc := 146) dX4_drawSpring_146 rfl rfl ?_
    refine V_getI (pc := 147) dX4_drawSpring_147 fl_Ic_147 h_this rfl ?_
    obtain ⟨r150, e150, h⟩ := bnd h
    refine V_invV1 (c := 4) (pc := 150) dX4_drawSpring_150 (e_Ic_isEnough h_this e150) iv_Ic_117 (rm_Ic_drawSpring_Ic_isEnough _ _ _) rfl h_this cf_4 rfl (Nat.le_of_ble_eq_true rfl) rfl ?_
    refine V_if_ne (pc := 153) (tgt := 160) dX4_drawSpring_153 rfl (fun q => ?_) (fun q => ?_)
    · have h := ite_f q h
      exact k_Ic_drawSpring_b160 h_this h hp
    · have h := ite_t q h
      refine V_iload (i := 7) (pc := 156) dX4_drawSpring_156 rfl ?_
      refine V_istore (i := 6) (ls' := [some (vr this), none, none, some (vi v3), some (vl v4), none, some (vi v7), some (vi v7), none, none, none, none]) (pc := 158) dX4_drawSpring_158 (Nat.le_of_ble_eq_true rfl) rfl ?_
      exact k_Ic_drawSpring_b160 h_this h hp
theorem k_Ic_drawSpring_b134 {g : GE} {this : Nat} {v3 : Int32} {v4 : Int64} {v6 : Int32} {v7 : Int32} {v8 : Int32}  {m : Mem} (h_this : kd this = 5) {r : Option AV} {m' : Mem} {x : (Int64 × Int32 × Mem) ⊕ ((Int64 × Int32 × Int32 × Mem) ⊕ (Int32 × Mem))} (h : Ic_drawSpring_b134 this v3 v4 v6 v7 v8 m = some x) (hp : (Sum.elim (fun s : Int64 × Int32 × Mem => V g Y_Ic_drawSpring 26 [some (vr this), none, none, some (vi v3), some (vl s.1), none, some (vi v6), some (vi v7), some (vi s.2.1), none, none, none] [] s.2.2 (PM g Y_Ic_drawSpring r m')) (Sum.elim (fun s : Int64 × Int32 × Int32 × Mem => V g Y_Ic_drawSpring 17 [some (vr this), none, none, some (vi v3), some (vl s.1), none, some (vi s.2.1), some (vi s.2.2.1), none, none, none, none] [] s.2.2.2 (PM g Y_Ic_drawSpring r m')) (fun x : Int32 × Mem => r = some (vi x.1) ∧ m' = x.2))) x) : V g Y_Ic_drawSpring 134 [some (vr this), none, none, some (vi v3), some (vl v4), none, some (vi v6), some (vi v7), some (vi v8), none, none, none] [] m (PM g Y_Ic_drawSpring r m') := by
  unfold Ic_drawSpring_b134 at h
  refine V_iinc (i := 8) (v := (v8 + 1)) (ls' := [some (vr this), none, none, some (vi v3), some (vl v4), none, some (vi v6), some (vi v7), some (vi (v8 + 1)), none, none, none]) (pc := 134) dX4_drawSpring_134 rfl rfl (Nat.le_of_ble_eq_true rfl) rfl ?_
  refine V_goto (tgt := 26) (pc := 137) dX4_drawSpring_137 rfl ?_
  obtain rfl := Option.some.inj h
  exact hp
theorem k_Ic_drawSpring_b116 {g : GE} {this : Nat} {v3 : Int32} {v4 : Int64} {v6 : Int32} {v7 : Int32} {v8 : Int32} {k0 : Int64} {k1 : Int32}  {m : Mem} (h_this : kd this = 5) {r : Option AV} {m' : Mem} {x : (Int64 × Int32 × Mem) ⊕ ((Int64 × Int32 × Int32 × Mem) ⊕ (Int32 × Mem))} (h : Ic_drawSpring_b116 this v3 v4 v6 v7 v8 k0 k1 m = some x) (hp : (Sum.elim (fun s : Int64 × Int32 × Mem => V g Y_Ic_drawSpring 26 [some (vr this), none, none, some (vi v3), some (vl s.1), none, some (vi v6), some (vi v7), some (vi s.2.1), none, none, none] [] s.2.2 (PM g Y_Ic_drawSpring r m')) (Sum.elim (fun s : Int64 × Int32 × Int32 × Mem => V g Y_Ic_drawSpring 17 [some (vr this), none, none, some (vi v3), some (vl s.1), none, some (vi s.2.1), some (vi s.2.2.1), none, none, none, none] [] s.2.2.2 (PM g Y_Ic_drawSpring r m')) (fun x : Int32 × Mem => r = some (vi x.1) ∧ m' = x.2))) x) : V g Y_Ic_drawSpring 116 [some (vr this), none, none, some (vi v3), some (vl v4), none, some (vi v6), some (vi v7), some (vi v8), none, none, none] [vi k1, vl k0] m (PM g Y_Ic_drawSpring r m') := by
  unfold Ic_drawSpring_b116 at h
  refine V_i2l (pc := 116) dX4_drawSpring_116 ?_
  refine V_lif_ge (pc := 117) (tgt := 134) dX4_drawSpring_117 dX4_drawSpring_118 rfl (fun q => ?_) (fun q => ?_)
  · have h := ite_t q h
    exact k_Ic_drawSpring_b134 h_this h hp
  · have h := ite_f q h
    refine V_aload_n (i := 0) (pc := 121) dX4_drawSpring_121 rfl rfl ?_
    refine V_dupr (pc := 122) dX4_drawSpring_122 ?_
    refine V_getI (pc := 123) dX4_drawSpring_123 fl_Ic_147 h_this rfl ?_
    refine V_iconst (v := 1) (pc := 126) dX4_drawSpring_126 rfl ?_
    refine V_iload (i := 8) (pc := 127) dX4_drawSpring_127 rfl ?_
    refine V_ishl (pc := 129) dX4_drawSpring_129 ?_
    refine V_ixor (pc := 130) dX4_drawSpring_130 ?_
    refine V_putI_lt (pc := 131) dX4_drawSpring_131 fp_Ic_147 h_this rfl rfl rfl h (fun m131 h => ?_)
    exact k_Ic_drawSpring_b134 h_this h hp
theorem k_Ic_drawSpring_b90 {g : GE} {this : Nat} {v3 : Int32} {v4 : Int64} {v6 : Int32} {v7 : Int32} {v8 : Int32} {v9 : Int64} {k0 : Int32}  {m : Mem} (h_this : kd this = 5) {r : Option AV} {m' : Mem} {x : (Int64 × Int32 × Mem) ⊕ ((Int64 × Int32 × Int32 × Mem) ⊕ (Int32 × Mem))} (h : Ic_drawSpring_b90 this v3 v4 v6 v7 v8 v9 k0 m = some x) (hp : (Sum.elim (fun s : Int64 × Int32 × Mem => V g Y_Ic_drawSpring 26 [some (vr this), none, none, some (vi v3), some (vl s.1), none, some (vi v6), some (vi v7), some (vi s.2.1), none, none, none] [] s.2.2 (PM g Y_Ic_drawSpring r m')) (Sum.elim (fun s : Int64 × Int32 × Int32 × Mem => V g Y_Ic_drawSpring 17 [some (vr this), none, none, some (vi v3), some (vl s.1), none, some (vi s.2.1), some (vi s.2.2.1), none, none, none, none] [] s.2.2.2 (PM g Y_Ic_drawSpring r m')) (fun x : Int32 × Mem => r = some (vi x.1) ∧ m' = x.2))) x) : V g Y_Ic_drawSpring 90 [some (vr this), none, none, some (vi v3), some (vl v4), none, some (vi v6), some (vi v7), some (vi v8), some (vl v9), none, none] [vi k0] m (PM g Y_Ic_drawSpring r m') := by
  unfold Ic_drawSpring_b90 at h
  refine V_istore (i := 11) (ls' := [some (vr this), none, none, some (vi v3), some (vl v4), none, some (vi v6), some (vi v7), some (vi v8), some (vl v9), none, some (vi k0)]) (pc := 90) dX4_drawSpring_90 (Nat.le_of_ble_eq_true rfl) rfl ?_
  refine V_lload (i := 9) (pc := 92) dX4_drawSpring_92 rfl ?_
  refine V_iload (i := 11) (pc := 94) dX4_drawSpring_94 rfl ?_
  refine V_if_eq (pc := 96) (tgt := 109) dX4_drawSpring_96 rfl (fun q => ?_) (fun q => ?_)
  · have h := ite_t q h
    refine V_aload_n (i := 0) (pc := 109) dX4_drawSpring_109 rfl rfl ?_
    refine V_getR (b := (this + 3)) (pc := 110) dX4_drawSpring_110 fl_Ic_23 h_this rfl rfl ?_
    refine V_iload (i := 8) (pc := 113) dX4_drawSpring_113 rfl ?_
    obtain ⟨hg115, h⟩ := gd_e h
    refine V_iald (pc := 115) dX4_drawSpring_115 (kf_4_6 h_this) (af_4_6 h_this) hg115 ?_
    refine V_sub (ls' := [some (vr this), none, none, some (vi v3), some (vl v4), none, some (vi v6), some (vi v7), some (vi v8), none, none, none]) (And.intro rfl (And.intro rfl (And.intro rfl (And.intro rfl (And.intro rfl (And.intro rfl trivial)))))) ?_
    exact k_Ic_drawSpring_b116 h_this h hp
  · have h := ite_f q h
    refine V_bipush (v := 100) (pc := 99) dX4_drawSpring_99 rfl ?_
    refine V_aload_n (i := 0) (pc := 101) dX4_drawSpring_101 rfl rfl ?_
    refine V_getI (pc := 102) dX4_drawSpring_102 fl_Ic_73 h_this rfl ?_
    refine V_imul (pc := 105) dX4_drawSpring_105 ?_
    refine V_goto (tgt := 116) (pc := 106) dX4_drawSpring_106 rfl ?_
    refine V_sub (ls' := [some (vr this), none, none, some (vi v3), some (vl v4), none, some (vi v6), some (vi v7), some (vi v8), none, none, none]) (And.intro rfl (And.intro rfl (And.intro rfl (And.intro rfl (And.intro rfl (And.intro rfl trivial)))))) ?_
    exact k_Ic_drawSpring_b116 h_this h hp
theorem k_Ic_drawSpring_l26 {g : GE} {this : Nat} {v3 : Int32} {v6 : Int32} {v7 : Int32} {v4 : Int64} {v8 : Int32} {m : Mem} (h_this : kd this = 5) {r : Option AV} {m' : Mem} {x : (Int64 × Int32 × Mem) ⊕ ((Int64 × Int32 × Int32 × Mem) ⊕ (Int32 × Mem))} (h : Ic_drawSpring_l26 this v3 v6 v7 v4 v8 m = some x) (hp : (Sum.elim (fun s : Int64 × Int32 × Mem => V g Y_Ic_drawSpring 26 [some (vr this), none, none, some (vi v3), some (vl s.1), none, some (vi v6), some (vi v7), some (vi s.2.1), none, none, none] [] s.2.2 (PM g Y_Ic_drawSpring r m')) (Sum.elim (fun s : Int64 × Int32 × Int32 × Mem => V g Y_Ic_drawSpring 17 [some (vr this), none, none, some (vi v3), some (vl s.1), none, some (vi s.2.1), some (vi s.2.2.1), none, none, none, none] [] s.2.2.2 (PM g Y_Ic_drawSpring r m')) (fun x : Int32 × Mem => r = some (vi x.1) ∧ m' = x.2))) x) : V g Y_Ic_drawSpring 26 [some (vr this), none, none, some (vi v3), some (vl v4), none, some (vi v6), some (vi v7), some (vi v8), none, none, none] [] m (PM g Y_Ic_drawSpring r m') := by
  unfold Ic_drawSpring_l26 at h
  refine V_iload (i := 8) (pc := 26) dX4_drawSpring_26 rfl ?_
  refine V_bipush (v := 7) (pc := 28) dX4_drawSpring_28 rfl ?_
  refine V_icmp_ge (pc := 30) (tgt := 140) dX4_drawSpring_30 rfl (fun q => ?_) (fun q => ?_)
  · have h := ite_t q h
    obtain ⟨y2, hu2, rfl⟩ := up_e h
    have h := hu2
    refine V_sub (ls' := [some (vr this), none, none, some (vi v3), some (vl v4), none, some (vi v6), some (vi v7), none, none, none, none]) (And.intro rfl (And.intro rfl (And.intro rfl (And.intro rfl (And.intro rfl trivial))))) ?_
    exact k_Ic_drawSpring_b140 h_this h hp
  · have h := ite_f q h
    refine V_iconst (v := 1) (pc := 33) dX4_drawSpring_33 rfl ?_
    refine V_iload (i := 8) (pc := 34) dX4_drawSpring_34 rfl ?_
    refine V_ishl (pc := 36) dX4_drawSpring_36 ?_
    refine V_aload_n (i := 0) (pc := 37) dX4_drawSpring_37 rfl rfl ?_
    refine V_getI (pc := 38) dX4_drawSpring_38 fl_Ic_9 h_this rfl ?_
    refine V_icmp_ge (pc := 41) (tgt := 140) dX4_drawSpring_41 rfl (fun q => ?_) (fun q => ?_)
    · have h := ite_t q h
      obtain ⟨y3, hu3, rfl⟩ := up_e h
      have h := hu3
      refine V_sub (ls' := [some (vr this), none, none, some (vi v3), some (vl v4), none, some (vi v6), some (vi v7), none, none, none, none]) (And.intro rfl (And.intro rfl (And.intro rfl (And.intro rfl (And.intro rfl trivial))))) ?_
      exact k_Ic_drawSpring_b140 h_this h hp
    · have h := ite_f q h
      refine V_ldc2 (v := 1103515245) (pc := 44) dX4_drawSpring_44 con_Ic_150 ?_
      refine V_lload (i := 4) (pc := 47) dX4_drawSpring_47 rfl ?_
      refine V_lmul (pc := 49) dX4_drawSpring_49 ?_
      refine V_ldc2 (v := 12345) (pc := 50) dX4_drawSpring_50 con_Ic_152 ?_
      refine V_ladd (pc := 53) dX4_drawSpring_53 ?_
      refine V_ldc2 (v := 2147483647) (pc := 54) dX4_drawSpring_54 con_Ic_154 ?_
      refine V_land (pc := 57) dX4_drawSpring_57 ?_
      refine V_lstore (i := 4) (ls' := [some (vr this), none, none, some (vi v3), some (vl (((1103515245 * v4) + 12345) &&& 2147483647)), none, some (vi v6), some (vi v7), some (vi v8), none, none, none]) (pc := 58) dX4_drawSpring_58 (Nat.le_of_ble_eq_true rfl) rfl ?_
      refine V_lload (i := 4) (pc := 60) dX4_drawSpring_60 rfl ?_
      refine V_ldc2 (v := 65536) (pc := 62) dX4_drawSpring_62 con_Ic_156 ?_
      refine V_ldiv (pc := 65) dX4_drawSpring_65 (by decide) ?_
      refine V_ldc2 (v := 10000) (pc := 66) dX4_drawSpring_66 con_Ic_113 ?_
      refine V_lrem (pc := 69) dX4_drawSpring_69 (by decide) ?_
      refine V_lstore (i := 9) (ls' := [some (vr this), none, none, some (vi v3), some (vl (((1103515245 * v4) + 12345) &&& 2147483647)), none, some (vi v6), some (vi v7), some (vi v8), some (vl (((((1103515245 * v4) + 12345) &&& 2147483647) / 65536) - ((((1103515245 * v4) + 12345) &&& 2147483647) / 65536) / 10000 * 10000)), none, none]) (pc := 70) dX4_drawSpring_70 (Nat.le_of_ble_eq_true rfl) rfl ?_
      refine V_aload_n (i := 0) (pc := 72) dX4_drawSpring_72 rfl rfl ?_
      refine V_getI (pc := 73) dX4_drawSpring_73 fl_Ic_147 h_this rfl ?_
      refine V_iload (i := 8) (pc := 76) dX4_drawSpring_76 rfl ?_
      refine V_ishr (pc := 78) dX4_drawSpring_78 ?_
      refine V_iconst (v := 1) (pc := 79) dX4_drawSpring_79 rfl ?_
      refine V_iand (pc := 80) dX4_drawSpring_80 ?_
      refine V_iconst (v := 1) (pc := 81) dX4_drawSpring_81 rfl ?_
      refine V_icmp_ne (pc := 82) (tgt := 89) dX4_drawSpring_82 rfl (fun q => ?_) (fun q => ?_)
      · have h := ite_f q h
        refine V_iconst (v := 0) (pc := 89) dX4_drawSpring_89 rfl ?_
        exact k_Ic_drawSpring_b90 h_this h hp
      · have h := ite_t q h
        refine V_iconst (v := 1) (pc := 85) dX4_drawSpring_85 rfl ?_
        refine V_goto (tgt := 90) (pc := 86) dX4_drawSpring_86 rfl ?_
        exact k_Ic_drawSpring_b90 h_this h hp
theorem k_Ic_drawSpring_l17 {g : GE} {this : Nat} {v3 : Int32} {v4 : Int64} {v6 : Int32} {v7 : Int32} {m : Mem} (h_this : kd this = 5) {r : Option AV} {m' : Mem} {x : (Int64 × Int32 × Int32 × Mem) ⊕ (Int32 × Mem)} (h : Ic_drawSpring_l17 this v3 v4 v6 v7 m = some x) (hp : (Sum.elim (fun s : Int64 × Int32 × Int32 × Mem => V g Y_Ic_drawSpring 17 [some (vr this), none, none, some (vi v3), some (vl s.1), none, some (vi s.2.1), some (vi s.2.2.1), none, none, none, none] [] s.2.2.2 (PM g Y_Ic_drawSpring r m')) (fun x : Int32 × Mem => r = some (vi x.1) ∧ m' = x.2)) x) : V g Y_Ic_drawSpring 17 [some (vr this), none, none, some (vi v3), some (vl v4), none, some (vi v6), some (vi v7), none, none, none, none] [] m (PM g Y_Ic_drawSpring r m') := by
  unfold Ic_drawSpring_l17 at h
  refine V_iload (i := 7) (pc := 17) dX4_drawSpring_17 rfl ?_
  refine V_iload_n (i := 3) (pc := 19) dX4_drawSpring_19 rfl rfl ?_
  refine V_icmp_gt (pc := 20) (tgt := 166) dX4_drawSpring_20 rfl (fun q => ?_) (fun q => ?_)
  · have h := ite_t q h
    obtain ⟨y1, hu1, rfl⟩ := up_e h
    have h := hu1
    refine V_iload (i := 6) (pc := 166) dX4_drawSpring_166 rfl ?_
    obtain rfl := Option.some.inj h
    exact E_i (pc := 168) dX4_drawSpring_168 rfl hp
  · have h := ite_f q h
    refine V_iconst (v := 0) (pc := 23) dX4_drawSpring_23 rfl ?_
    refine V_istore (i := 8) (ls' := [some (vr this), none, none, some (vi v3), some (vl v4), none, some (vi v6), some (vi v7), some (vi 0), none, none, none]) (pc := 24) dX4_drawSpring_24 (Nat.le_of_ble_eq_true rfl) rfl ?_
    exact loop_V (A := fun s : Int64 × Int32 × Mem => V g Y_Ic_drawSpring 26 [some (vr this), none, none, some (vi v3), some (vl s.1), none, some (vi v6), some (vi v7), some (vi s.2.1), none, none, none] [] s.2.2 (PM g Y_Ic_drawSpring r m')) (fun s x h hp => k_Ic_drawSpring_l26 h_this h hp) (v4, 0, m) _ h hp
theorem k_Ic_drawSpring {g : GE} {this : Nat} {v1 : Int64} {v3 : Int32} {m : Mem} (h_this : kd this = 5) {r : Option AV} {m' : Mem} {x : Int32 × Mem} (h : Ic_drawSpring this v1 v3 m = some x) (hp : (fun x : Int32 × Mem => r = some (vi x.1) ∧ m' = x.2) x) : V g Y_Ic_drawSpring 0 [some (vr this), some (vl v1), none, some (vi v3), none, none, none, none, none, none, none, none] [] m (PM g Y_Ic_drawSpring r m') := by
  unfold Ic_drawSpring at h
  refine V_lload_n (i := 1) (pc := 0) dX4_drawSpring_0 rfl rfl ?_
  refine V_lstore (i := 4) (ls' := [some (vr this), some (vl v1), none, some (vi v3), some (vl v1), none, none, none, none, none, none, none]) (pc := 1) dX4_drawSpring_1 (Nat.le_of_ble_eq_true rfl) rfl ?_
  refine V_iconst (v := 0) (pc := 3) dX4_drawSpring_3 rfl ?_
  refine V_istore (i := 6) (ls' := [some (vr this), some (vl v1), none, some (vi v3), some (vl v1), none, some (vi 0), none, none, none, none, none]) (pc := 4) dX4_drawSpring_4 (Nat.le_of_ble_eq_true rfl) rfl ?_
  refine V_aload_n (i := 0) (pc := 6) dX4_drawSpring_6 rfl rfl ?_
  refine V_aload_n (i := 0) (pc := 7) dX4_drawSpring_7 rfl rfl ?_
  refine V_getI (pc := 8) dX4_drawSpring_8 fl_Ic_69 h_this rfl ?_
  refine V_putI_lt (pc := 11) dX4_drawSpring_11 fp_Ic_147 h_this rfl rfl rfl h (fun m11 h => ?_)
  refine V_iconst (v := 1) (pc := 14) dX4_drawSpring_14 rfl ?_
  refine V_istore (i := 7) (ls' := [some (vr this), some (vl v1), none, some (vi v3), some (vl v1), none, some (vi 0), some (vi 1), none, none, none, none]) (pc := 15) dX4_drawSpring_15 (Nat.le_of_ble_eq_true rfl) rfl ?_
  refine V_sub (ls' := [some (vr this), none, none, some (vi v3), some (vl v1), none, some (vi 0), some (vi 1), none, none, none, none]) (And.intro rfl (And.intro rfl (And.intro rfl (And.intro rfl (And.intro rfl trivial))))) ?_
  exact loop_V (A := fun s : Int64 × Int32 × Int32 × Mem => V g Y_Ic_drawSpring 17 [some (vr this), none, none, some (vi v3), some (vl s.1), none, some (vi s.2.1), some (vi s.2.2.1), none, none, none, none] [] s.2.2.2 (PM g Y_Ic_drawSpring r m')) (fun s x h hp => k_Ic_drawSpring_l17 h_this h hp) (v1, 0, 1, m11) _ h hp
theorem e_Ic_drawSpring {g : GE} {this : Nat} {v1 : Int64} {v3 : Int32} {m : Mem} (h_this : kd this = 5) {x : Int32 × Mem} (h : Ic_drawSpring this v1 v3 m = some x) : Ev g Y_Ic_drawSpring [vr this, vl v1, vi v3] m (some (vi x.1)) x.2 :=
  Ev_of 8 (by decide +kernel) rfl (Nat.le_of_ble_eq_true rfl) rfl (k_Ic_drawSpring h_this h ⟨rfl, rfl⟩)
theorem k_PL_run {g : GE} {this : Nat} {v1 : Int32} {v2 : Int32} {m : Mem} (h_this : kd this = 11) {r : Option AV} {m' : Mem} {x : Int32 × Mem} (h : PL_run this v1 v2 m = some x) (hp : (fun x : Int32 × Mem => r = some (vi x.1) ∧ m' = x.2) x) : V g Y_PL_run 0 [some (vr this), some (vi v1), some (vi v2)] [] m (PM g Y_PL_run r m') := by
  unfold PL_run at h
  refine V_aload_n (i := 0) (pc := 0) dX10_run_0 rfl rfl ?_
  refine V_getR (b := (this + 27)) (pc := 1) dX10_run_1 fl_PL_19 h_this rfl rfl ?_
  refine V_getR (b := (this + 28)) (pc := 4) dX10_run_4 fl_PL_102 (kf_10_1 h_this) rfl rfl ?_
  obtain ⟨r7, e7, h⟩ := bnd h
  refine V_invV1 (c := 2) (pc := 7) dX10_run_7 (e_Fl_isThere (kf_0_0 (kf_10_1 h_this)) e7) iv_PL_222 (rm_PL_run_Fl_isThere _ _ _) rfl (kf_0_0 (kf_10_1 h_this)) cf_2 rfl (Nat.le_of_ble_eq_true rfl) rfl ?_
  refine V_if_eq (pc := 10) (tgt := 21) dX10_run_10 rfl (fun q => ?_) (fun q => ?_)
  · have h := ite_t q h
    refine V_bipush (v := (-2)) (pc := 21) dX10_run_21 rfl ?_
    obtain rfl := Option.some.inj h
    exact E_i (pc := 23) dX10_run_23 rfl hp
  · have h := ite_f q h
    refine V_iload_n (i := 1) (pc := 13) dX10_run_13 rfl rfl ?_
    refine V_iload_n (i := 2) (pc := 14) dX10_run_14 rfl rfl ?_
    obtain ⟨r15, e15, h⟩ := bnd h
    refine V_invS1 (pc := 15) dX10_run_15 (e_PL_isSpring  e15) is_PL_387 (rm_PL_run_PL_isSpring _ _ _) rfl (Nat.le_of_ble_eq_true rfl) rfl ?_
    refine V_if_ne (pc := 18) (tgt := 24) dX10_run_18 rfl (fun q => ?_) (fun q => ?_)
    · have h := ite_f q h
      refine V_aload_n (i := 0) (pc := 24) dX10_run_24 rfl rfl ?_
      refine V_getR (b := (this + 202)) (pc := 25) dX10_run_25 fl_PL_41 h_this rfl rfl ?_
      refine V_aload_n (i := 0) (pc := 28) dX10_run_28 rfl rfl ?_
      refine V_getR (b := (this + 27)) (pc := 29) dX10_run_29 fl_PL_19 h_this rfl rfl ?_
      obtain ⟨m32, e32, h⟩ := bnd h
      refine V_invV0 (c := 4) (pc := 32) dX10_run_32 (e_Ic_look (kf_10_5 h_this) (kf_10_1 h_this) e32) iv_PL_211 (rm_PL_run_Ic_look _ _ _) rfl (kf_10_5 h_this) cf_4 rfl (Nat.le_of_ble_eq_true rfl) rfl ?_
      refine V_aload_n (i := 0) (pc := 35) dX10_run_35 rfl rfl ?_
      refine V_aload_n (i := 0) (pc := 36) dX10_run_36 rfl rfl ?_
      refine V_getR (b := (this + 202)) (pc := 37) dX10_run_37 fl_PL_41 h_this rfl rfl ?_
      refine V_iload_n (i := 1) (pc := 40) dX10_run_40 rfl rfl ?_
      refine V_i2l (pc := 41) dX10_run_41 ?_
      refine V_iload_n (i := 2) (pc := 42) dX10_run_42 rfl rfl ?_
      obtain ⟨r43, e43, h⟩ := bnd h
      refine V_invV1 (c := 4) (pc := 43) dX10_run_43 (e_Ic_drawSpring (kf_10_5 h_this) e43) iv_PL_390 (rm_PL_run_Ic_drawSpring _ _ _) rfl (kf_10_5 h_this) cf_4 rfl (Nat.le_of_ble_eq_true rfl) rfl ?_
      refine V_putI_lt (pc := 46) dX10_run_46 fp_PL_99 h_this rfl rfl rfl h (fun m46 h => ?_)
      refine V_aload_n (i := 0) (pc := 49) dX10_run_49 rfl rfl ?_
      refine V_getR (b := (this + 27)) (pc := 50) dX10_run_50 fl_PL_19 h_this rfl rfl ?_
      refine V_aload_n (i := 0) (pc := 53) dX10_run_53 rfl rfl ?_
      refine V_getR (b := (this + 202)) (pc := 54) dX10_run_54 fl_PL_41 h_this rfl rfl ?_
      refine V_getI (pc := 57) dX10_run_57 fl_PL_394 (kf_10_5 h_this) rfl ?_
      refine V_putI_lt (pc := 60) dX10_run_60 fp_PL_170 (kf_10_1 h_this) rfl rfl rfl h (fun m60 h => ?_)
      refine V_aload_n (i := 0) (pc := 63) dX10_run_63 rfl rfl ?_
      refine V_getR (b := (this + 27)) (pc := 64) dX10_run_64 fl_PL_19 h_this rfl rfl ?_
      refine V_getI (pc := 67) dX10_run_67 fl_PL_170 (kf_10_1 h_this) rfl ?_
      obtain rfl := Option.some.inj h
      exact E_i (pc := 70) dX10_run_70 rfl hp
    · have h := ite_t q h
      refine V_bipush (v := (-2)) (pc := 21) dX10_run_21 rfl ?_
      obtain rfl := Option.some.inj h
      exact E_i (pc := 23) dX10_run_23 rfl hp
theorem e_PL_run {g : GE} {this : Nat} {v1 : Int32} {v2 : Int32} {m : Mem} (h_this : kd this = 11) {x : Int32 × Mem} (h : PL_run this v1 v2 m = some x) : Ev g Y_PL_run [vr this, vi v1, vi v2] m (some (vi x.1)) x.2 :=
  Ev_of 0 (by decide +kernel) rfl (Nat.le_of_ble_eq_true rfl) rfl (k_PL_run h_this h ⟨rfl, rfl⟩)
theorem k_PL_struck {g : GE} {this : Nat} {m : Mem} (h_this : kd this = 11) {r : Option AV} {m' : Mem} {x : Int32} (h : PL_struck this m = some x) (hp : (fun x : Int32 => r = some (vi x) ∧ m' = m) x) : V g Y_PL_struck 0 [some (vr this)] [] m (PM g Y_PL_struck r m') := by
  unfold PL_struck at h
  refine V_aload_n (i := 0) (pc := 0) dX10_struck_0 rfl rfl ?_
  refine V_getI (pc := 1) dX10_struck_1 fl_PL_99 h_this rfl ?_
  obtain rfl := Option.some.inj h
  exact E_i (pc := 4) dX10_struck_4 rfl hp
theorem e_PL_struck {g : GE} {this : Nat} {m : Mem} (h_this : kd this = 11) {x : Int32} (h : PL_struck this m = some x) : Ev g Y_PL_struck [vr this] m (some (vi x)) m :=
  Ev_of 0 (by decide +kernel) rfl (Nat.le_of_ble_eq_true rfl) rfl (k_PL_struck h_this h ⟨rfl, rfl⟩)
theorem k_PL_springs_b78 {g : GE} {this : Nat} {v1 : Int32} {v2 : Int32} {v3 : Int32} {v4 : Int32} {v5 : Int32}  {m : Mem} (h_this : kd this = 11) {r : Option AV} {m' : Mem} {x : (Int32 × Int32 × Mem) ⊕ (Int32 × Mem)} (h : PL_springs_b78 this v1 v2 v3 v4 v5 m = some x) (hp : (Sum.elim (fun s : Int32 × Int32 × Mem => V g Y_PL_springs 52 [some (vr this), some (vi v1), some (vi v2), some (vi v3), some (vi s.1), some (vi s.2.1)] [] s.2.2 (PM g Y_PL_springs r m')) (fun x : Int32 × Mem => r = some (vi x.1) ∧ m' = x.2)) x) : V g Y_PL_springs 78 [some (vr this), some (vi v1), some (vi v2), some (vi v3), some (vi v4), some (vi v5)] [] m (PM g Y_PL_springs r m') := by
  unfold PL_springs_b78 at h
  refine V_iinc (i := 5) (v := (v5 + 1)) (ls' := [some (vr this), some (vi v1), some (vi v2), some (vi v3), some (vi v4), some (vi (v5 + 1))]) (pc := 78) dX10_springs_78 rfl rfl (Nat.le_of_ble_eq_true rfl) rfl ?_
  refine V_goto (tgt := 52) (pc := 81) dX10_springs_81 rfl ?_
  obtain rfl := Option.some.inj h
  exact hp
theorem k_PL_springs_l52 {g : GE} {this : Nat} {v1 : Int32} {v2 : Int32} {v3 : Int32} {v4 : Int32} {v5 : Int32} {m : Mem} (h_this : kd this = 11) {r : Option AV} {m' : Mem} {x : (Int32 × Int32 × Mem) ⊕ (Int32 × Mem)} (h : PL_springs_l52 this v1 v2 v3 v4 v5 m = some x) (hp : (Sum.elim (fun s : Int32 × Int32 × Mem => V g Y_PL_springs 52 [some (vr this), some (vi v1), some (vi v2), some (vi v3), some (vi s.1), some (vi s.2.1)] [] s.2.2 (PM g Y_PL_springs r m')) (fun x : Int32 × Mem => r = some (vi x.1) ∧ m' = x.2)) x) : V g Y_PL_springs 52 [some (vr this), some (vi v1), some (vi v2), some (vi v3), some (vi v4), some (vi v5)] [] m (PM g Y_PL_springs r m') := by
  unfold PL_springs_l52 at h
  refine V_iload (i := 5) (pc := 52) dX10_springs_52 rfl ?_
  refine V_iload_n (i := 2) (pc := 54) dX10_springs_54 rfl rfl ?_
  refine V_icmp_ge (pc := 55) (tgt := 84) dX10_springs_55 rfl (fun q => ?_) (fun q => ?_)
  · have h := ite_t q h
    obtain ⟨y1, hu1, rfl⟩ := up_e h
    have h := hu1
    refine V_iload (i := 4) (pc := 84) dX10_springs_84 rfl ?_
    obtain rfl := Option.some.inj h
    exact E_i (pc := 86) dX10_springs_86 rfl hp
  · have h := ite_f q h
    refine V_aload_n (i := 0) (pc := 58) dX10_springs_58 rfl rfl ?_
    refine V_getR (b := (this + 202)) (pc := 59) dX10_springs_59 fl_PL_41 h_this rfl rfl ?_
    refine V_iload_n (i := 1) (pc := 62) dX10_springs_62 rfl rfl ?_
    refine V_i2l (pc := 63) dX10_springs_63 ?_
    refine V_iload (i := 5) (pc := 64) dX10_springs_64 rfl ?_
    refine V_i2l (pc := 66) dX10_springs_66 ?_
    refine V_ladd (pc := 67) dX10_springs_67 ?_
    refine V_iload_n (i := 3) (pc := 68) dX10_springs_68 rfl rfl ?_
    obtain ⟨r69, e69, h⟩ := bnd h
    refine V_invV1 (c := 4) (pc := 69) dX10_springs_69 (e_Ic_drawSpring (kf_10_5 h_this) e69) iv_PL_390 (rm_PL_springs_Ic_drawSpring _ _ _) rfl (kf_10_5 h_this) cf_4 rfl (Nat.le_of_ble_eq_true rfl) rfl ?_
    refine V_if_eq (pc := 72) (tgt := 78) dX10_springs_72 rfl (fun q => ?_) (fun q => ?_)
    · have h := ite_t q h
      exact k_PL_springs_b78 h_this h hp
    · have h := ite_f q h
      refine V_iinc (i := 4) (v := (v4 + 1)) (ls' := [some (vr this), some (vi v1), some (vi v2), some (vi v3), some (vi (v4 + 1)), some (vi v5)]) (pc := 75) dX10_springs_75 rfl rfl (Nat.le_of_ble_eq_true rfl) rfl ?_
      exact k_PL_springs_b78 h_this h hp
theorem k_PL_springs {g : GE} {this : Nat} {v1 : Int32} {v2 : Int32} {v3 : Int32} {m : Mem} (h_this : kd this = 11) {r : Option AV} {m' : Mem} {x : Int32 × Mem} (h : PL_springs this v1 v2 v3 m = some x) (hp : (fun x : Int32 × Mem => r = some (vi x.1) ∧ m' = x.2) x) : V g Y_PL_springs 0 [some (vr this), some (vi v1), some (vi v2), some (vi v3), none, none] [] m (PM g Y_PL_springs r m') := by
  unfold PL_springs at h
  refine V_aload_n (i := 0) (pc := 0) dX10_springs_0 rfl rfl ?_
  refine V_getR (b := (this + 27)) (pc := 1) dX10_springs_1 fl_PL_19 h_this rfl rfl ?_
  refine V_getR (b := (this + 28)) (pc := 4) dX10_springs_4 fl_PL_102 (kf_10_1 h_this) rfl rfl ?_
  obtain ⟨r7, e7, h⟩ := bnd h
  refine V_invV1 (c := 2) (pc := 7) dX10_springs_7 (e_Fl_isThere (kf_0_0 (kf_10_1 h_this)) e7) iv_PL_222 (rm_PL_springs_Fl_isThere _ _ _) rfl (kf_0_0 (kf_10_1 h_this)) cf_2 rfl (Nat.le_of_ble_eq_true rfl) rfl ?_
  refine V_if_eq (pc := 10) (tgt := 32) dX10_springs_10 rfl (fun q => ?_) (fun q => ?_)
  · have h := ite_t q h
    refine V_bipush (v := (-2)) (pc := 32) dX10_springs_32 rfl ?_
    obtain rfl := Option.some.inj h
    exact E_i (pc := 34) dX10_springs_34 rfl hp
  · have h := ite_f q h
    refine V_iload_n (i := 1) (pc := 13) dX10_springs_13 rfl rfl ?_
    refine V_iload_n (i := 3) (pc := 14) dX10_springs_14 rfl rfl ?_
    obtain ⟨r15, e15, h⟩ := bnd h
    refine V_invS1 (pc := 15) dX10_springs_15 (e_PL_isSpring  e15) is_PL_387 (rm_PL_springs_PL_isSpring _ _ _) rfl (Nat.le_of_ble_eq_true rfl) rfl ?_
    refine V_if_eq (pc := 18) (tgt := 32) dX10_springs_18 rfl (fun q => ?_) (fun q => ?_)
    · have h := ite_t q h
      refine V_bipush (v := (-2)) (pc := 32) dX10_springs_32 rfl ?_
      obtain rfl := Option.some.inj h
      exact E_i (pc := 34) dX10_springs_34 rfl hp
    · have h := ite_f q h
      refine V_iload_n (i := 2) (pc := 21) dX10_springs_21 rfl rfl ?_
      refine V_iconst (v := 1) (pc := 22) dX10_springs_22 rfl ?_
      refine V_icmp_lt (pc := 23) (tgt := 32) dX10_springs_23 rfl (fun q => ?_) (fun q => ?_)
      · have h := ite_t q h
        refine V_bipush (v := (-2)) (pc := 32) dX10_springs_32 rfl ?_
        obtain rfl := Option.some.inj h
        exact E_i (pc := 34) dX10_springs_34 rfl hp
      · have h := ite_f q h
        refine V_iload_n (i := 2) (pc := 26) dX10_springs_26 rfl rfl ?_
        refine V_bipush (v := 60) (pc := 27) dX10_springs_27 rfl ?_
        refine V_icmp_le (pc := 29) (tgt := 35) dX10_springs_29 rfl (fun q => ?_) (fun q => ?_)
        · have h := ite_t q h
          refine V_aload_n (i := 0) (pc := 35) dX10_springs_35 rfl rfl ?_
          refine V_getR (b := (this + 202)) (pc := 36) dX10_springs_36 fl_PL_41 h_this rfl rfl ?_
          refine V_aload_n (i := 0) (pc := 39) dX10_springs_39 rfl rfl ?_
          refine V_getR (b := (this + 27)) (pc := 40) dX10_springs_40 fl_PL_19 h_this rfl rfl ?_
          obtain ⟨m43, e43, h⟩ := bnd h
          refine V_invV0 (c := 4) (pc := 43) dX10_springs_43 (e_Ic_look (kf_10_5 h_this) (kf_10_1 h_this) e43) iv_PL_211 (rm_PL_springs_Ic_look _ _ _) rfl (kf_10_5 h_this) cf_4 rfl (Nat.le_of_ble_eq_true rfl) rfl ?_
          refine V_iconst (v := 0) (pc := 46) dX10_springs_46 rfl ?_
          refine V_istore (i := 4) (ls' := [some (vr this), some (vi v1), some (vi v2), some (vi v3), some (vi 0), none]) (pc := 47) dX10_springs_47 (Nat.le_of_ble_eq_true rfl) rfl ?_
          refine V_iconst (v := 0) (pc := 49) dX10_springs_49 rfl ?_
          refine V_istore (i := 5) (ls' := [some (vr this), some (vi v1), some (vi v2), some (vi v3), some (vi 0), some (vi 0)]) (pc := 50) dX10_springs_50 (Nat.le_of_ble_eq_true rfl) rfl ?_
          exact loop_V (A := fun s : Int32 × Int32 × Mem => V g Y_PL_springs 52 [some (vr this), some (vi v1), some (vi v2), some (vi v3), some (vi s.1), some (vi s.2.1)] [] s.2.2 (PM g Y_PL_springs r m')) (fun s x h hp => k_PL_springs_l52 h_this h hp) (0, 0, m43) _ h hp
        · have h := ite_f q h
          refine V_bipush (v := (-2)) (pc := 32) dX10_springs_32 rfl ?_
          obtain rfl := Option.some.inj h
          exact E_i (pc := 34) dX10_springs_34 rfl hp
theorem e_PL_springs {g : GE} {this : Nat} {v1 : Int32} {v2 : Int32} {v3 : Int32} {m : Mem} (h_this : kd this = 11) {x : Int32 × Mem} (h : PL_springs this v1 v2 v3 m = some x) : Ev g Y_PL_springs [vr this, vi v1, vi v2, vi v3] m (some (vi x.1)) x.2 :=
  Ev_of 2 (by decide +kernel) rfl (Nat.le_of_ble_eq_true rfl) rfl (k_PL_springs h_this h ⟨rfl, rfl⟩)
theorem k_PL_rowsThere_b29 {g : GE} {this : Nat} {v1 : Int32} {v2 : Int32}  {m : Mem} (h_this : kd this = 11) {r : Option AV} {m' : Mem} {x : (Int32 × Int32) ⊕ (Int32)} (h : PL_rowsThere_b29 this v1 v2 m = some x) (hp : (Sum.elim (fun s : Int32 × Int32 => V g Y_PL_rowsThere 4 [some (vr this), some (vi s.1), some (vi s.2), none] [] m (PM g Y_PL_rowsThere r m')) (fun x : Int32 => r = some (vi x) ∧ m' = m)) x) : V g Y_PL_rowsThere 29 [some (vr this), some (vi v1), some (vi v2), none] [] m (PM g Y_PL_rowsThere r m') := by
  unfold PL_rowsThere_b29 at h
  refine V_iinc (i := 2) (v := (v2 + 1)) (ls' := [some (vr this), some (vi v1), some (vi (v2 + 1)), none]) (pc := 29) dX10_rowsThere_29 rfl rfl (Nat.le_of_ble_eq_true rfl) rfl ?_
  refine V_goto (tgt := 4) (pc := 32) dX10_rowsThere_32 rfl ?_
  obtain rfl := Option.some.inj h
  exact hp
theorem k_PL_rowsThere_l4 {g : GE} {this : Nat}  {v1 : Int32} {v2 : Int32} {m : Mem} (h_this : kd this = 11) {r : Option AV} {m' : Mem} {x : (Int32 × Int32) ⊕ (Int32)} (h : PL_rowsThere_l4 this v1 v2 m = some x) (hp : (Sum.elim (fun s : Int32 × Int32 => V g Y_PL_rowsThere 4 [some (vr this), some (vi s.1), some (vi s.2), none] [] m (PM g Y_PL_rowsThere r m')) (fun x : Int32 => r = some (vi x) ∧ m' = m)) x) : V g Y_PL_rowsThere 4 [some (vr this), some (vi v1), some (vi v2), none] [] m (PM g Y_PL_rowsThere r m') := by
  unfold PL_rowsThere_l4 at h
  refine V_iload_n (i := 2) (pc := 4) dX10_rowsThere_4 rfl rfl ?_
  refine V_iconst (v := 4) (pc := 5) dX10_rowsThere_5 rfl ?_
  refine V_icmp_ge (pc := 6) (tgt := 35) dX10_rowsThere_6 rfl (fun q => ?_) (fun q => ?_)
  · have h := ite_t q h
    obtain ⟨y1, hu1, rfl⟩ := up_e h
    have h := hu1
    refine V_iload_n (i := 1) (pc := 35) dX10_rowsThere_35 rfl rfl ?_
    obtain rfl := Option.some.inj h
    exact E_i (pc := 36) dX10_rowsThere_36 rfl hp
  · have h := ite_f q h
    refine V_aload_n (i := 0) (pc := 9) dX10_rowsThere_9 rfl rfl ?_
    refine V_iload_n (i := 2) (pc := 10) dX10_rowsThere_10 rfl rfl ?_
    obtain ⟨r11, e11, h⟩ := bnd h
    refine V_invV1 (c := 10) (pc := 11) dX10_rowsThere_11 (e_PL_slotAt h_this e11) iv_PL_251 (rm_PL_rowsThere_PL_slotAt _ _ _) rfl h_this cf_10 rfl (Nat.le_of_ble_eq_true rfl) rfl ?_
    refine V_astore_n (i := 3) (ls' := [some (vr this), some (vi v1), some (vi v2), some (vr r11)]) (pc := 14) dX10_rowsThere_14 rfl (Nat.le_of_ble_eq_true rfl) rfl ?_
    refine V_aload_n (i := 3) (pc := 15) dX10_rowsThere_15 rfl rfl ?_
    refine V_ifnull (pc := 16) (tgt := 29) dX10_rowsThere_16 rfl (fun q => ?_) (fun q => ?_)
    · have h := ite_t q h
      refine V_sub (ls' := [some (vr this), some (vi v1), some (vi v2), none]) (And.intro rfl (And.intro rfl (And.intro rfl trivial))) ?_
      exact k_PL_rowsThere_b29 h_this h hp
    · have h := ite_f q h
      obtain ⟨hk16, h⟩ := gd_e h
      refine V_aload_n (i := 3) (pc := 19) dX10_rowsThere_19 rfl rfl ?_
      refine V_getI (pc := 20) dX10_rowsThere_20 fl_PL_255 hk16 rfl ?_
      refine V_if_eq (pc := 23) (tgt := 29) dX10_rowsThere_23 rfl (fun q => ?_) (fun q => ?_)
      · have h := ite_t q h
        refine V_sub (ls' := [some (vr this), some (vi v1), some (vi v2), none]) (And.intro rfl (And.intro rfl (And.intro rfl trivial))) ?_
        exact k_PL_rowsThere_b29 h_this h hp
      · have h := ite_f q h
        refine V_iinc (i := 1) (v := (v1 + 1)) (ls' := [some (vr this), some (vi (v1 + 1)), some (vi v2), some (vr r11)]) (pc := 26) dX10_rowsThere_26 rfl rfl (Nat.le_of_ble_eq_true rfl) rfl ?_
        refine V_sub (ls' := [some (vr this), some (vi (v1 + 1)), some (vi v2), none]) (And.intro rfl (And.intro rfl (And.intro rfl trivial))) ?_
        exact k_PL_rowsThere_b29 h_this h hp
theorem k_PL_rowsThere {g : GE} {this : Nat} {m : Mem} (h_this : kd this = 11) {r : Option AV} {m' : Mem} {x : Int32} (h : PL_rowsThere this m = some x) (hp : (fun x : Int32 => r = some (vi x) ∧ m' = m) x) : V g Y_PL_rowsThere 0 [some (vr this), none, none, none] [] m (PM g Y_PL_rowsThere r m') := by
  unfold PL_rowsThere at h
  refine V_iconst (v := 0) (pc := 0) dX10_rowsThere_0 rfl ?_
  refine V_istore_n (i := 1) (ls' := [some (vr this), some (vi 0), none, none]) (pc := 1) dX10_rowsThere_1 rfl (Nat.le_of_ble_eq_true rfl) rfl ?_
  refine V_iconst (v := 0) (pc := 2) dX10_rowsThere_2 rfl ?_
  refine V_istore_n (i := 2) (ls' := [some (vr this), some (vi 0), some (vi 0), none]) (pc := 3) dX10_rowsThere_3 rfl (Nat.le_of_ble_eq_true rfl) rfl ?_
  exact loop_V (A := fun s : Int32 × Int32 => V g Y_PL_rowsThere 4 [some (vr this), some (vi s.1), some (vi s.2), none] [] m (PM g Y_PL_rowsThere r m')) (fun s x h hp => k_PL_rowsThere_l4 h_this h hp) (0, 0) _ h hp
theorem e_PL_rowsThere {g : GE} {this : Nat} {m : Mem} (h_this : kd this = 11) {x : Int32} (h : PL_rowsThere this m = some x) : Ev g Y_PL_rowsThere [vr this] m (some (vi x)) m :=
  Ev_of 3 (by decide +kernel) rfl (Nat.le_of_ble_eq_true rfl) rfl (k_PL_rowsThere h_this h ⟨rfl, rfl⟩)
theorem k_PL_count {g : GE} {this : Nat} {v1 : Int32} {m : Mem} (h_this : kd this = 11) {r : Option AV} {m' : Mem} {x : Int32} (h : PL_count this v1 m = some x) (hp : (fun x : Int32 => r = some (vi x) ∧ m' = m) x) : V g Y_PL_count 0 [some (vr this), some (vi v1)] [] m (PM g Y_PL_count r m') := by
  unfold PL_count at h
  refine V_iload_n (i := 1) (pc := 0) dX10_count_0 rfl rfl ?_
  by_cases q : v1 = 0
  · have h := ite_t q h
    refine V_tableIn (tgt := 72) (pc := 1) dX10_count_1 (by rw [q]; decide) (by rw [q]; decide) (by rw [q]; rfl) rfl ?_
    refine V_aload_n (i := 0) (pc := 72) dX10_count_72 rfl rfl ?_
    refine V_getR (b := (this + 27)) (pc := 73) dX10_count_73 fl_PL_19 h_this rfl rfl ?_
    refine V_getR (b := (this + 28)) (pc := 76) dX10_count_76 fl_PL_102 (kf_10_1 h_this) rfl rfl ?_
    refine V_getI (pc := 79) dX10_count_79 fl_PL_397 (kf_0_0 (kf_10_1 h_this)) rfl ?_
    obtain rfl := Option.some.inj h
    exact E_i (pc := 82) dX10_count_82 rfl hp
  · have q0 := q
    have h := ite_f q h
    by_cases q : v1 = 1
    · have h := ite_t q h
      refine V_tableIn (tgt := 83) (pc := 1) dX10_count_1 (by rw [q]; decide) (by rw [q]; decide) (by rw [q]; rfl) rfl ?_
      refine V_aload_n (i := 0) (pc := 83) dX10_count_83 rfl rfl ?_
      refine V_getR (b := (this + 27)) (pc := 84) dX10_count_84 fl_PL_19 h_this rfl rfl ?_
      refine V_getR (b := (this + 28)) (pc := 87) dX10_count_87 fl_PL_102 (kf_10_1 h_this) rfl rfl ?_
      refine V_getI (pc := 90) dX10_count_90 fl_PL_400 (kf_0_0 (kf_10_1 h_this)) rfl ?_
      obtain rfl := Option.some.inj h
      exact E_i (pc := 93) dX10_count_93 rfl hp
    · have q1 := q
      have h := ite_f q h
      by_cases q : v1 = 2
      · have h := ite_t q h
        refine V_tableIn (tgt := 94) (pc := 1) dX10_count_1 (by rw [q]; decide) (by rw [q]; decide) (by rw [q]; rfl) rfl ?_
        refine V_aload_n (i := 0) (pc := 94) dX10_count_94 rfl rfl ?_
        refine V_getR (b := (this + 27)) (pc := 95) dX10_count_95 fl_PL_19 h_this rfl rfl ?_
        refine V_getR (b := (this + 28)) (pc := 98) dX10_count_98 fl_PL_102 (kf_10_1 h_this) rfl rfl ?_
        refine V_getI (pc := 101) dX10_count_101 fl_PL_161 (kf_0_0 (kf_10_1 h_this)) rfl ?_
        obtain rfl := Option.some.inj h
        exact E_i (pc := 104) dX10_count_104 rfl hp
      · have q2 := q
        have h := ite_f q h
        by_cases q : v1 = 3
        · have h := ite_t q h
          refine V_tableIn (tgt := 105) (pc := 1) dX10_count_1 (by rw [q]; decide) (by rw [q]; decide) (by rw [q]; rfl) rfl ?_
          refine V_aload_n (i := 0) (pc := 105) dX10_count_105 rfl rfl ?_
          refine V_getR (b := (this + 27)) (pc := 106) dX10_count_106 fl_PL_19 h_this rfl rfl ?_
          refine V_getR (b := (this + 28)) (pc := 109) dX10_count_109 fl_PL_102 (kf_10_1 h_this) rfl rfl ?_
          refine V_getI (pc := 112) dX10_count_112 fl_PL_403 (kf_0_0 (kf_10_1 h_this)) rfl ?_
          obtain rfl := Option.some.inj h
          exact E_i (pc := 115) dX10_count_115 rfl hp
        · have q3 := q
          have h := ite_f q h
          by_cases q : v1 = 4
          · have h := ite_t q h
            refine V_tableIn (tgt := 116) (pc := 1) dX10_count_1 (by rw [q]; decide) (by rw [q]; decide) (by rw [q]; rfl) rfl ?_
            refine V_aload_n (i := 0) (pc := 116) dX10_count_116 rfl rfl ?_
            refine V_getR (b := (this + 27)) (pc := 117) dX10_count_117 fl_PL_19 h_this rfl rfl ?_
            refine V_getR (b := (this + 28)) (pc := 120) dX10_count_120 fl_PL_102 (kf_10_1 h_this) rfl rfl ?_
            refine V_getR (b := (this + 29)) (pc := 123) dX10_count_123 fl_PL_186 (kf_0_0 (kf_10_1 h_this)) rfl rfl ?_
            refine V_getI (pc := 126) dX10_count_126 fl_PL_226 (kf_2_15 (kf_0_0 (kf_10_1 h_this))) rfl ?_
            obtain rfl := Option.some.inj h
            exact E_i (pc := 129) dX10_count_129 rfl hp
          · have q4 := q
            have h := ite_f q h
            by_cases q : v1 = 5
            · have h := ite_t q h
              refine V_tableIn (tgt := 130) (pc := 1) dX10_count_1 (by rw [q]; decide) (by rw [q]; decide) (by rw [q]; rfl) rfl ?_
              refine V_aload_n (i := 0) (pc := 130) dX10_count_130 rfl rfl ?_
              refine V_getR (b := (this + 27)) (pc := 131) dX10_count_131 fl_PL_19 h_this rfl rfl ?_
              refine V_getR (b := (this + 28)) (pc := 134) dX10_count_134 fl_PL_102 (kf_10_1 h_this) rfl rfl ?_
              refine V_getR (b := (this + 38)) (pc := 137) dX10_count_137 fl_PL_130 (kf_0_0 (kf_10_1 h_this)) rfl rfl ?_
              refine V_getI (pc := 140) dX10_count_140 fl_PL_226 (kf_2_16 (kf_0_0 (kf_10_1 h_this))) rfl ?_
              obtain rfl := Option.some.inj h
              exact E_i (pc := 143) dX10_count_143 rfl hp
            · have q5 := q
              have h := ite_f q h
              by_cases q : v1 = 6
              · have h := ite_t q h
                refine V_tableIn (tgt := 144) (pc := 1) dX10_count_1 (by rw [q]; decide) (by rw [q]; decide) (by rw [q]; rfl) rfl ?_
                refine V_aload_n (i := 0) (pc := 144) dX10_count_144 rfl rfl ?_
                refine V_getR (b := (this + 27)) (pc := 145) dX10_count_145 fl_PL_19 h_this rfl rfl ?_
                refine V_getR (b := (this + 28)) (pc := 148) dX10_count_148 fl_PL_102 (kf_10_1 h_this) rfl rfl ?_
                refine V_getR (b := (this + 46)) (pc := 151) dX10_count_151 fl_PL_406 (kf_0_0 (kf_10_1 h_this)) rfl rfl ?_
                refine V_getI (pc := 154) dX10_count_154 fl_PL_226 (kf_2_17 (kf_0_0 (kf_10_1 h_this))) rfl ?_
                obtain rfl := Option.some.inj h
                exact E_i (pc := 157) dX10_count_157 rfl hp
              · have q6 := q
                have h := ite_f q h
                by_cases q : v1 = 7
                · have h := ite_t q h
                  refine V_tableIn (tgt := 158) (pc := 1) dX10_count_1 (by rw [q]; decide) (by rw [q]; decide) (by rw [q]; rfl) rfl ?_
                  refine V_aload_n (i := 0) (pc := 158) dX10_count_158 rfl rfl ?_
                  refine V_getR (b := (this + 27)) (pc := 159) dX10_count_159 fl_PL_19 h_this rfl rfl ?_
                  obtain ⟨r162, e162, h⟩ := bnd h
                  refine V_invV1 (c := 0) (pc := 162) dX10_count_162 (e_Ca_heapsThere (kf_10_1 h_this) e162) iv_PL_409 (rm_PL_count_Ca_heapsThere _ _ _) rfl (kf_10_1 h_this) cf_0 rfl (Nat.le_of_ble_eq_true rfl) rfl ?_
                  obtain rfl := Option.some.inj h
                  exact E_i (pc := 165) dX10_count_165 rfl hp
                · have q7 := q
                  have h := ite_f q h
                  by_cases q : v1 = 8
                  · have h := ite_t q h
                    refine V_tableIn (tgt := 166) (pc := 1) dX10_count_1 (by rw [q]; decide) (by rw [q]; decide) (by rw [q]; rfl) rfl ?_
                    refine V_aload_n (i := 0) (pc := 166) dX10_count_166 rfl rfl ?_
                    refine V_getR (b := (this + 27)) (pc := 167) dX10_count_167 fl_PL_19 h_this rfl rfl ?_
                    refine V_getI (pc := 170) dX10_count_170 fl_PL_170 (kf_10_1 h_this) rfl ?_
                    obtain rfl := Option.some.inj h
                    exact E_i (pc := 173) dX10_count_173 rfl hp
                  · have q8 := q
                    have h := ite_f q h
                    by_cases q : v1 = 9
                    · have h := ite_t q h
                      refine V_tableIn (tgt := 174) (pc := 1) dX10_count_1 (by rw [q]; decide) (by rw [q]; decide) (by rw [q]; rfl) rfl ?_
                      refine V_aload_n (i := 0) (pc := 174) dX10_count_174 rfl rfl ?_
                      refine V_getR (b := (this + 27)) (pc := 175) dX10_count_175 fl_PL_19 h_this rfl rfl ?_
                      refine V_getR (b := (this + 28)) (pc := 178) dX10_count_178 fl_PL_102 (kf_10_1 h_this) rfl rfl ?_
                      refine V_getI (pc := 181) dX10_count_181 fl_PL_105 (kf_0_0 (kf_10_1 h_this)) rfl ?_
                      obtain rfl := Option.some.inj h
                      exact E_i (pc := 184) dX10_count_184 rfl hp
                    · have q9 := q
                      have h := ite_f q h
                      by_cases q : v1 = 10
                      · have h := ite_t q h
                        refine V_tableIn (tgt := 185) (pc := 1) dX10_count_1 (by rw [q]; decide) (by rw [q]; decide) (by rw [q]; rfl) rfl ?_
                        refine V_aload_n (i := 0) (pc := 185) dX10_count_185 rfl rfl ?_
                        refine V_getR (b := (this + 1)) (pc := 186) dX10_count_186 fl_PL_10 h_this rfl rfl ?_
                        refine V_getI (pc := 189) dX10_count_189 fl_PL_81 (kf_10_0 h_this) rfl ?_
                        obtain rfl := Option.some.inj h
                        exact E_i (pc := 192) dX10_count_192 rfl hp
                      · have q10 := q
                        have h := ite_f q h
                        by_cases q : v1 = 11
                        · have h := ite_t q h
                          refine V_tableIn (tgt := 193) (pc := 1) dX10_count_1 (by rw [q]; decide) (by rw [q]; decide) (by rw [q]; rfl) rfl ?_
                          refine V_aload_n (i := 0) (pc := 193) dX10_count_193 rfl rfl ?_
                          refine V_getR (b := (this + 27)) (pc := 194) dX10_count_194 fl_PL_19 h_this rfl rfl ?_
                          refine V_getI (pc := 197) dX10_count_197 fl_PL_379 (kf_10_1 h_this) rfl ?_
                          obtain rfl := Option.some.inj h
                          exact E_i (pc := 200) dX10_count_200 rfl hp
                        · have q11 := q
                          have h := ite_f q h
                          by_cases q : v1 = 12
                          · have h := ite_t q h
                            refine V_tableIn (tgt := 201) (pc := 1) dX10_count_1 (by rw [q]; decide) (by rw [q]; decide) (by rw [q]; rfl) rfl ?_
                            refine V_aload_n (i := 0) (pc := 201) dX10_count_201 rfl rfl ?_
                            refine V_getR (b := (this + 27)) (pc := 202) dX10_count_202 fl_PL_19 h_this rfl rfl ?_
                            obtain ⟨r205, e205, h⟩ := bnd h
                            refine V_invV1 (c := 0) (pc := 205) dX10_count_205 (e_Ca_sleepers (kf_10_1 h_this) e205) iv_PL_153 (rm_PL_count_Ca_sleepers _ _ _) rfl (kf_10_1 h_this) cf_0 rfl (Nat.le_of_ble_eq_true rfl) rfl ?_
                            obtain rfl := Option.some.inj h
                            exact E_i (pc := 208) dX10_count_208 rfl hp
                          · have q12 := q
                            have h := ite_f q h
                            by_cases q : v1 = 13
                            · have h := ite_t q h
                              refine V_tableIn (tgt := 209) (pc := 1) dX10_count_1 (by rw [q]; decide) (by rw [q]; decide) (by rw [q]; rfl) rfl ?_
                              refine V_aload_n (i := 0) (pc := 209) dX10_count_209 rfl rfl ?_
                              obtain ⟨r210, e210, h⟩ := bnd h
                              refine V_invV1 (c := 10) (pc := 210) dX10_count_210 (e_PL_rowsThere h_this e210) iv_PL_412 (rm_PL_count_PL_rowsThere _ _ _) rfl h_this cf_10 rfl (Nat.le_of_ble_eq_true rfl) rfl ?_
                              obtain rfl := Option.some.inj h
                              exact E_i (pc := 213) dX10_count_213 rfl hp
                            · have q13 := q
                              have h := ite_f q h
                              refine V_tableOut (tgt := 214) (pc := 1) dX10_count_1 (ts_out_0_13 q0 q1 q2 q3 q4 q5 q6 q7 q8 q9 q10 q11 q12 q13) rfl ?_
                              refine V_iconst (v := (-1)) (pc := 214) dX10_count_214 rfl ?_
                              obtain rfl := Option.some.inj h
                              exact E_i (pc := 215) dX10_count_215 rfl hp
theorem e_PL_count {g : GE} {this : Nat} {v1 : Int32} {m : Mem} (h_this : kd this = 11) {x : Int32} (h : PL_count this v1 m = some x) : Ev g Y_PL_count [vr this, vi v1] m (some (vi x)) m :=
  Ev_of 0 (by decide +kernel) rfl (Nat.le_of_ble_eq_true rfl) rfl (k_PL_count h_this h ⟨rfl, rfl⟩)
theorem k_PL_imageAt {g : GE} {this : Nat} {v1 : Int32} {m : Mem} (h_this : kd this = 11) {r : Option AV} {m' : Mem} {x : Nat} (h : PL_imageAt this v1 m = some x) (hp : (fun x : Nat => r = some (vr x) ∧ m' = m) x) : V g Y_PL_imageAt 0 [some (vr this), some (vi v1)] [] m (PM g Y_PL_imageAt r m') := by
  unfold PL_imageAt at h
  refine V_iload_n (i := 1) (pc := 0) dX10_imageAt_0 rfl rfl ?_
  refine V_if_lt (pc := 1) (tgt := 18) dX10_imageAt_1 rfl (fun q => ?_) (fun q => ?_)
  · have h := ite_t q h
    refine V_null (pc := 18) dX10_imageAt_18 ?_
    obtain rfl := Option.some.inj h
    exact E_a (pc := 19) dX10_imageAt_19 rfl hp
  · have h := ite_f q h
    refine V_iload_n (i := 1) (pc := 4) dX10_imageAt_4 rfl rfl ?_
    refine V_iconst (v := 3) (pc := 5) dX10_imageAt_5 rfl ?_
    refine V_icmp_ge (pc := 6) (tgt := 18) dX10_imageAt_6 rfl (fun q => ?_) (fun q => ?_)
    · have h := ite_t q h
      refine V_null (pc := 18) dX10_imageAt_18 ?_
      obtain rfl := Option.some.inj h
      exact E_a (pc := 19) dX10_imageAt_19 rfl hp
    · have h := ite_f q h
      refine V_aload_n (i := 0) (pc := 9) dX10_imageAt_9 rfl rfl ?_
      refine V_getR (b := (this + 68)) (pc := 10) dX10_imageAt_10 fl_PL_23 h_this rfl rfl ?_
      refine V_iload_n (i := 1) (pc := 13) dX10_imageAt_13 rfl rfl ?_
      obtain ⟨hg14, h⟩ := gd_e h
      refine V_aald (b := ((this + 68) + (1 + 41 * ix v1))) (k := 6) (pc := 14) dX10_imageAt_14 (kf_10_2 h_this) (by decide) (af_10_2 h_this) hg14 rfl ?_
      refine V_goto (tgt := 19) (pc := 15) dX10_imageAt_15 rfl ?_
      obtain rfl := Option.some.inj h
      exact E_a (pc := 19) dX10_imageAt_19 rfl hp
theorem e_PL_imageAt {g : GE} {this : Nat} {v1 : Int32} {m : Mem} (h_this : kd this = 11) {x : Nat} (h : PL_imageAt this v1 m = some x) : Ev g Y_PL_imageAt [vr this, vi v1] m (some (vr x)) m :=
  Ev_of 0 (by decide +kernel) rfl (Nat.le_of_ble_eq_true rfl) rfl (k_PL_imageAt h_this h ⟨rfl, rfl⟩)
theorem k_PL_keep {g : GE} {this : Nat} {v1 : Int32} {m : Mem} (h_this : kd this = 11) {r : Option AV} {m' : Mem} {x : Int32 × Mem} (h : PL_keep this v1 m = some x) (hp : (fun x : Int32 × Mem => r = some (vi x.1) ∧ m' = x.2) x) : V g Y_PL_keep 0 [some (vr this), some (vi v1), none] [] m (PM g Y_PL_keep r m') := by
  unfold PL_keep at h
  refine V_aload_n (i := 0) (pc := 0) dX10_keep_0 rfl rfl ?_
  refine V_iload_n (i := 1) (pc := 1) dX10_keep_1 rfl rfl ?_
  obtain ⟨r2, e2, h⟩ := bnd h
  refine V_invV1 (c := 10) (pc := 2) dX10_keep_2 (e_PL_imageAt h_this e2) iv_PL_415 (rm_PL_keep_PL_imageAt _ _ _) rfl h_this cf_10 rfl (Nat.le_of_ble_eq_true rfl) rfl ?_
  refine V_astore_n (i := 2) (ls' := [some (vr this), some (vi v1), some (vr r2)]) (pc := 5) dX10_keep_5 rfl (Nat.le_of_ble_eq_true rfl) rfl ?_
  refine V_aload_n (i := 2) (pc := 6) dX10_keep_6 rfl rfl ?_
  refine V_ifnonnull (pc := 7) (tgt := 13) dX10_keep_7 rfl (fun q => ?_) (fun q => ?_)
  · have h := ite_f q h
    obtain ⟨hk7, h⟩ := gd_e h
    refine V_aload_n (i := 2) (pc := 13) dX10_keep_13 rfl rfl ?_
    refine V_aload_n (i := 0) (pc := 14) dX10_keep_14 rfl rfl ?_
    refine V_getR (b := (this + 27)) (pc := 15) dX10_keep_15 fl_PL_19 h_this rfl rfl ?_
    obtain ⟨m18, e18, h⟩ := bnd h
    refine V_invV0 (c := 0) (pc := 18) dX10_keep_18 (e_Ca_copyFrom hk7 (kf_10_1 h_this) e18) iv_PL_288 (rm_PL_keep_Ca_copyFrom _ _ _) rfl hk7 cf_0 rfl (Nat.le_of_ble_eq_true rfl) rfl ?_
    refine V_aload_n (i := 0) (pc := 21) dX10_keep_21 rfl rfl ?_
    refine V_getR (b := (this + 192)) (pc := 22) dX10_keep_22 fl_PL_27 h_this rfl rfl ?_
    refine V_iload_n (i := 1) (pc := 25) dX10_keep_25 rfl rfl ?_
    refine V_iconst (v := 1) (pc := 26) dX10_keep_26 rfl ?_
    obtain ⟨hg27, h⟩ := gd_e h
    refine V_zast_lt (pc := 27) dX10_keep_27 (kf_10_3 h_this) (af_10_3 h_this) hg27 h (fun m27 h => ?_)
    refine V_iconst (v := 0) (pc := 28) dX10_keep_28 rfl ?_
    obtain rfl := Option.some.inj h
    exact E_i (pc := 29) dX10_keep_29 rfl hp
  · have h := ite_t q h
    refine V_bipush (v := (-2)) (pc := 10) dX10_keep_10 rfl ?_
    obtain rfl := Option.some.inj h
    exact E_i (pc := 12) dX10_keep_12 rfl hp
theorem e_PL_keep {g : GE} {this : Nat} {v1 : Int32} {m : Mem} (h_this : kd this = 11) {x : Int32 × Mem} (h : PL_keep this v1 m = some x) : Ev g Y_PL_keep [vr this, vi v1] m (some (vi x.1)) x.2 :=
  Ev_of 1 (by decide +kernel) rfl (Nat.le_of_ble_eq_true rfl) rfl (k_PL_keep h_this h ⟨rfl, rfl⟩)
theorem k_PL_back {g : GE} {this : Nat} {v1 : Int32} {m : Mem} (h_this : kd this = 11) {r : Option AV} {m' : Mem} {x : Int32 × Mem} (h : PL_back this v1 m = some x) (hp : (fun x : Int32 × Mem => r = some (vi x.1) ∧ m' = x.2) x) : V g Y_PL_back 0 [some (vr this), some (vi v1), none] [] m (PM g Y_PL_back r m') := by
  unfold PL_back at h
  refine V_aload_n (i := 0) (pc := 0) dX10_back_0 rfl rfl ?_
  refine V_iload_n (i := 1) (pc := 1) dX10_back_1 rfl rfl ?_
  obtain ⟨r2, e2, h⟩ := bnd h
  refine V_invV1 (c := 10) (pc := 2) dX10_back_2 (e_PL_imageAt h_this e2) iv_PL_415 (rm_PL_back_PL_imageAt _ _ _) rfl h_this cf_10 rfl (Nat.le_of_ble_eq_true rfl) rfl ?_
  refine V_astore_n (i := 2) (ls' := [some (vr this), some (vi v1), some (vr r2)]) (pc := 5) dX10_back_5 rfl (Nat.le_of_ble_eq_true rfl) rfl ?_
  refine V_aload_n (i := 2) (pc := 6) dX10_back_6 rfl rfl ?_
  refine V_ifnonnull (pc := 7) (tgt := 13) dX10_back_7 rfl (fun q => ?_) (fun q => ?_)
  · have h := ite_f q h
    obtain ⟨hk7, h⟩ := gd_e h
    refine V_aload_n (i := 0) (pc := 13) dX10_back_13 rfl rfl ?_
    refine V_getR (b := (this + 192)) (pc := 14) dX10_back_14 fl_PL_27 h_this rfl rfl ?_
    refine V_iload_n (i := 1) (pc := 17) dX10_back_17 rfl rfl ?_
    obtain ⟨hg18, h⟩ := gd_e h
    refine V_zald (pc := 18) dX10_back_18 (kf_10_3 h_this) (af_10_3 h_this) hg18 ?_
    refine V_if_ne (pc := 19) (tgt := 25) dX10_back_19 rfl (fun q => ?_) (fun q => ?_)
    · have h := ite_f q h
      refine V_aload_n (i := 0) (pc := 25) dX10_back_25 rfl rfl ?_
      refine V_getR (b := (this + 27)) (pc := 26) dX10_back_26 fl_PL_19 h_this rfl rfl ?_
      refine V_aload_n (i := 2) (pc := 29) dX10_back_29 rfl rfl ?_
      obtain ⟨m30, e30, h⟩ := bnd h
      refine V_invV0 (c := 0) (pc := 30) dX10_back_30 (e_Ca_copyFrom (kf_10_1 h_this) hk7 e30) iv_PL_288 (rm_PL_back_Ca_copyFrom _ _ _) rfl (kf_10_1 h_this) cf_0 rfl (Nat.le_of_ble_eq_true rfl) rfl ?_
      refine V_iconst (v := 0) (pc := 33) dX10_back_33 rfl ?_
      obtain rfl := Option.some.inj h
      exact E_i (pc := 34) dX10_back_34 rfl hp
    · have h := ite_t q h
      refine V_bipush (v := (-6)) (pc := 22) dX10_back_22 rfl ?_
      obtain rfl := Option.some.inj h
      exact E_i (pc := 24) dX10_back_24 rfl hp
  · have h := ite_t q h
    refine V_bipush (v := (-2)) (pc := 10) dX10_back_10 rfl ?_
    obtain rfl := Option.some.inj h
    exact E_i (pc := 12) dX10_back_12 rfl hp
theorem e_PL_back {g : GE} {this : Nat} {v1 : Int32} {m : Mem} (h_this : kd this = 11) {x : Int32 × Mem} (h : PL_back this v1 m = some x) : Ev g Y_PL_back [vr this, vi v1] m (some (vi x.1)) x.2 :=
  Ev_of 1 (by decide +kernel) rfl (Nat.le_of_ble_eq_true rfl) rfl (k_PL_back h_this h ⟨rfl, rfl⟩)
theorem k_Ro_begin_l26 {g : GE} {this : Nat}  {v3 : Int32} {m : Mem} (h_this : kd this = 7) {r : Option AV} {m' : Mem} {x : (Int32 × Mem) ⊕ (Mem)} (h : Ro_begin_l26 this v3 m = some x) (hp : (Sum.elim (fun s : Int32 × Mem => V g Y_Ro_begin 26 [some (vr this), none, none, some (vi s.1)] [] s.2 (PM g Y_Ro_begin r m')) (fun x : Mem => r = none ∧ m' = x)) x) : V g Y_Ro_begin 26 [some (vr this), none, none, some (vi v3)] [] m (PM g Y_Ro_begin r m') := by
  unfold Ro_begin_l26 at h
  refine V_iload_n (i := 3) (pc := 26) dX6_begin_26 rfl rfl ?_
  refine V_bipush (v := 60) (pc := 27) dX6_begin_27 rfl ?_
  refine V_icmp_ge (pc := 29) (tgt := 45) dX6_begin_29 rfl (fun q => ?_) (fun q => ?_)
  · have h := ite_t q h
    obtain ⟨y1, hu1, rfl⟩ := up_e h
    have h := hu1
    obtain rfl := Option.some.inj h
    exact E_v (pc := 45) dX6_begin_45 rfl hp
  · have h := ite_f q h
    refine V_aload_n (i := 0) (pc := 32) dX6_begin_32 rfl rfl ?_
    refine V_getR (b := (this + 1)) (pc := 33) dX6_begin_33 fl_Ro_9 h_this rfl rfl ?_
    refine V_iload_n (i := 3) (pc := 36) dX6_begin_36 rfl rfl ?_
    refine V_lconst (v := 0) (pc := 37) dX6_begin_37 rfl ?_
    obtain ⟨hg38, h⟩ := gd_e h
    refine V_last_lt (pc := 38) dX6_begin_38 (kf_6_0 h_this) (af_6_0 h_this) hg38 h (fun m38 h => ?_)
    refine V_iinc (i := 3) (v := (v3 + 1)) (ls' := [some (vr this), none, none, some (vi (v3 + 1))]) (pc := 39) dX6_begin_39 rfl rfl (Nat.le_of_ble_eq_true rfl) rfl ?_
    refine V_goto (tgt := 26) (pc := 42) dX6_begin_42 rfl ?_
    obtain rfl := Option.some.inj h
    exact hp
theorem k_Ro_begin {g : GE} {this : Nat} {v1 : Int32} {v2 : Int32} {m : Mem} (h_this : kd this = 7) {r : Option AV} {m' : Mem} {x : Mem} (h : Ro_begin this v1 v2 m = some x) (hp : (fun x : Mem => r = none ∧ m' = x) x) : V g Y_Ro_begin 0 [some (vr this), some (vi v1), some (vi v2), none] [] m (PM g Y_Ro_begin r m') := by
  unfold Ro_begin at h
  refine V_aload_n (i := 0) (pc := 0) dX6_begin_0 rfl rfl ?_
  refine V_iconst (v := 1) (pc := 1) dX6_begin_1 rfl ?_
  refine V_putI_lt (pc := 2) dX6_begin_2 fp_Ro_15 h_this rfl rfl rfl h (fun m2 h => ?_)
  refine V_aload_n (i := 0) (pc := 5) dX6_begin_5 rfl rfl ?_
  refine V_iload_n (i := 1) (pc := 6) dX6_begin_6 rfl rfl ?_
  refine V_putI_lt (pc := 7) dX6_begin_7 fp_Ro_19 h_this rfl rfl rfl h (fun m7 h => ?_)
  refine V_aload_n (i := 0) (pc := 10) dX6_begin_10 rfl rfl ?_
  refine V_iconst (v := 0) (pc := 11) dX6_begin_11 rfl ?_
  refine V_iload_n (i := 2) (pc := 12) dX6_begin_12 rfl rfl ?_
  refine V_bipush (v := 60) (pc := 13) dX6_begin_13 rfl ?_
  refine V_mmin (pc := 15) dX6_begin_15 ma_Ro_23 (rmM_Ro_begin _ _ _) (Nat.le_of_ble_eq_true rfl) ?_
  refine V_mmax (pc := 18) dX6_begin_18 ma_Ro_29 (rmM_Ro_begin _ _ _) (Nat.le_of_ble_eq_true rfl) ?_
  refine V_putI_lt (pc := 21) dX6_begin_21 fp_Ro_32 h_this rfl rfl rfl h (fun m21 h => ?_)
  refine V_iconst (v := 0) (pc := 24) dX6_begin_24 rfl ?_
  refine V_istore_n (i := 3) (ls' := [some (vr this), some (vi v1), some (vi v2), some (vi 0)]) (pc := 25) dX6_begin_25 rfl (Nat.le_of_ble_eq_true rfl) rfl ?_
  refine V_sub (ls' := [some (vr this), none, none, some (vi 0)]) (And.intro rfl (And.intro rfl trivial)) ?_
  exact loop_V (A := fun s : Int32 × Mem => V g Y_Ro_begin 26 [some (vr this), none, none, some (vi s.1)] [] s.2 (PM g Y_Ro_begin r m')) (fun s x h hp => k_Ro_begin_l26 h_this h hp) (0, m21) _ h hp
theorem e_Ro_begin {g : GE} {this : Nat} {v1 : Int32} {v2 : Int32} {m : Mem} (h_this : kd this = 7) {x : Mem} (h : Ro_begin this v1 v2 m = some x) : Ev g Y_Ro_begin [vr this, vi v1, vi v2] m (none) x :=
  Ev_of 1 (by decide +kernel) rfl (Nat.le_of_ble_eq_true rfl) rfl (k_Ro_begin h_this h ⟨rfl, rfl⟩)
theorem k_PL_row {g : GE} {this : Nat} {v1 : Int32} {v2 : Int32} {v3 : Int32} {m : Mem} (h_this : kd this = 11) {r : Option AV} {m' : Mem} {x : Int32 × Mem} (h : PL_row this v1 v2 v3 m = some x) (hp : (fun x : Int32 × Mem => r = some (vi x.1) ∧ m' = x.2) x) : V g Y_PL_row 0 [some (vr this), some (vi v1), some (vi v2), some (vi v3), none] [] m (PM g Y_PL_row r m') := by
  unfold PL_row at h
  refine V_aload_n (i := 0) (pc := 0) dX10_row_0 rfl rfl ?_
  refine V_iload_n (i := 1) (pc := 1) dX10_row_1 rfl rfl ?_
  obtain ⟨r2, e2, h⟩ := bnd h
  refine V_invV1 (c := 10) (pc := 2) dX10_row_2 (e_PL_slotAt h_this e2) iv_PL_251 (rm_PL_row_PL_slotAt _ _ _) rfl h_this cf_10 rfl (Nat.le_of_ble_eq_true rfl) rfl ?_
  refine V_astore (i := 4) (ls' := [some (vr this), some (vi v1), some (vi v2), some (vi v3), some (vr r2)]) (pc := 5) dX10_row_5 (Nat.le_of_ble_eq_true rfl) rfl ?_
  refine V_aload (i := 4) (pc := 7) dX10_row_7 rfl ?_
  refine V_ifnull (pc := 9) (tgt := 27) dX10_row_9 rfl (fun q => ?_) (fun q => ?_)
  · have h := ite_t q h
    refine V_bipush (v := (-2)) (pc := 27) dX10_row_27 rfl ?_
    obtain rfl := Option.some.inj h
    exact E_i (pc := 29) dX10_row_29 rfl hp
  · have h := ite_f q h
    obtain ⟨hk9, h⟩ := gd_e h
    refine V_iload_n (i := 2) (pc := 12) dX10_row_12 rfl rfl ?_
    refine V_if_lt (pc := 13) (tgt := 27) dX10_row_13 rfl (fun q => ?_) (fun q => ?_)
    · have h := ite_t q h
      refine V_bipush (v := (-2)) (pc := 27) dX10_row_27 rfl ?_
      obtain rfl := Option.some.inj h
      exact E_i (pc := 29) dX10_row_29 rfl hp
    · have h := ite_f q h
      refine V_iload_n (i := 2) (pc := 16) dX10_row_16 rfl rfl ?_
      refine V_iconst (v := 4) (pc := 17) dX10_row_17 rfl ?_
      refine V_icmp_ge (pc := 18) (tgt := 27) dX10_row_18 rfl (fun q => ?_) (fun q => ?_)
      · have h := ite_t q h
        refine V_bipush (v := (-2)) (pc := 27) dX10_row_27 rfl ?_
        obtain rfl := Option.some.inj h
        exact E_i (pc := 29) dX10_row_29 rfl hp
      · have h := ite_f q h
        refine V_iload_n (i := 3) (pc := 21) dX10_row_21 rfl rfl ?_
        refine V_bipush (v := 60) (pc := 22) dX10_row_22 rfl ?_
        refine V_icmp_le (pc := 24) (tgt := 30) dX10_row_24 rfl (fun q => ?_) (fun q => ?_)
        · have h := ite_t q h
          refine V_iload_n (i := 3) (pc := 30) dX10_row_30 rfl rfl ?_
          refine V_if_ge (pc := 31) (tgt := 37) dX10_row_31 rfl (fun q => ?_) (fun q => ?_)
          · have h := ite_t q h
            refine V_aload (i := 4) (pc := 37) dX10_row_37 rfl ?_
            refine V_iload_n (i := 2) (pc := 39) dX10_row_39 rfl rfl ?_
            refine V_iload_n (i := 3) (pc := 40) dX10_row_40 rfl rfl ?_
            obtain ⟨m41, e41, h⟩ := bnd h
            refine V_invV0 (c := 6) (pc := 41) dX10_row_41 (e_Ro_begin hk9 e41) iv_PL_419 (rm_PL_row_Ro_begin _ _ _) rfl hk9 cf_6 rfl (Nat.le_of_ble_eq_true rfl) rfl ?_
            refine V_iconst (v := 0) (pc := 44) dX10_row_44 rfl ?_
            obtain rfl := Option.some.inj h
            exact E_i (pc := 45) dX10_row_45 rfl hp
          · have h := ite_f q h
            refine V_bipush (v := (-3)) (pc := 34) dX10_row_34 rfl ?_
            obtain rfl := Option.some.inj h
            exact E_i (pc := 36) dX10_row_36 rfl hp
        · have h := ite_f q h
          refine V_bipush (v := (-2)) (pc := 27) dX10_row_27 rfl ?_
          obtain rfl := Option.some.inj h
          exact E_i (pc := 29) dX10_row_29 rfl hp
theorem e_PL_row {g : GE} {this : Nat} {v1 : Int32} {v2 : Int32} {v3 : Int32} {m : Mem} (h_this : kd this = 11) {x : Int32 × Mem} (h : PL_row this v1 v2 v3 m = some x) : Ev g Y_PL_row [vr this, vi v1, vi v2, vi v3] m (some (vi x.1)) x.2 :=
  Ev_of 1 (by decide +kernel) rfl (Nat.le_of_ble_eq_true rfl) rfl (k_PL_row h_this h ⟨rfl, rfl⟩)
theorem k_Ro_cut {g : GE} {this : Nat} {v1 : Int64} {m : Mem} (h_this : kd this = 7) {r : Option AV} {m' : Mem} {x : Int64} (h : Ro_cut this v1 m = some x) (hp : (fun x : Int64 => r = some (vl x) ∧ m' = m) x) : V g Y_Ro_cut 0 [some (vr this), some (vl v1), none] [] m (PM g Y_Ro_cut r m') := by
  unfold Ro_cut at h
  refine V_aload_n (i := 0) (pc := 0) dX6_cut_0 rfl rfl ?_
  refine V_getI (pc := 1) dX6_cut_1 fl_Ro_19 h_this rfl ?_
  by_cases q : (rI m this 2) = 0
  · have h := ite_t q h
    refine V_tableIn (tgt := 32) (pc := 4) dX6_cut_4 (by rw [q]; decide) (by rw [q]; decide) (by rw [q]; rfl) rfl ?_
    refine V_lload_n (i := 1) (pc := 32) dX6_cut_32 rfl rfl ?_
    refine V_l2i (pc := 33) dX6_cut_33 ?_
    refine V_i2b (pc := 34) dX6_cut_34 ?_
    refine V_i2l (pc := 35) dX6_cut_35 ?_
    obtain rfl := Option.some.inj h
    exact E_l (pc := 36) dX6_cut_36 rfl hp
  · have q0 := q
    have h := ite_f q h
    by_cases q : (rI m this 2) = 1
    · have h := ite_t q h
      refine V_tableIn (tgt := 37) (pc := 4) dX6_cut_4 (by rw [q]; decide) (by rw [q]; decide) (by rw [q]; rfl) rfl ?_
      refine V_lload_n (i := 1) (pc := 37) dX6_cut_37 rfl rfl ?_
      refine V_l2i (pc := 38) dX6_cut_38 ?_
      refine V_i2s (pc := 39) dX6_cut_39 ?_
      refine V_i2l (pc := 40) dX6_cut_40 ?_
      obtain rfl := Option.some.inj h
      exact E_l (pc := 41) dX6_cut_41 rfl hp
    · have q1 := q
      have h := ite_f q h
      by_cases q : (rI m this 2) = 2
      · have h := ite_t q h
        refine V_tableIn (tgt := 42) (pc := 4) dX6_cut_4 (by rw [q]; decide) (by rw [q]; decide) (by rw [q]; rfl) rfl ?_
        refine V_lload_n (i := 1) (pc := 42) dX6_cut_42 rfl rfl ?_
        refine V_l2i (pc := 43) dX6_cut_43 ?_
        refine V_i2l (pc := 44) dX6_cut_44 ?_
        obtain rfl := Option.some.inj h
        exact E_l (pc := 45) dX6_cut_45 rfl hp
      · have q2 := q
        have h := ite_f q h
        refine V_tableOut (tgt := 46) (pc := 4) dX6_cut_4 (ts_out_0_2 q0 q1 q2) rfl ?_
        refine V_lload_n (i := 1) (pc := 46) dX6_cut_46 rfl rfl ?_
        obtain rfl := Option.some.inj h
        exact E_l (pc := 47) dX6_cut_47 rfl hp
theorem e_Ro_cut {g : GE} {this : Nat} {v1 : Int64} {m : Mem} (h_this : kd this = 7) {x : Int64} (h : Ro_cut this v1 m = some x) : Ev g Y_Ro_cut [vr this, vl v1] m (some (vl x)) m :=
  Ev_of 0 (by decide +kernel) rfl (Nat.le_of_ble_eq_true rfl) rfl (k_Ro_cut h_this h ⟨rfl, rfl⟩)
theorem k_Ro_putNumber {g : GE} {this : Nat} {v1 : Int32} {v2 : Int64} {m : Mem} (h_this : kd this = 7) {r : Option AV} {m' : Mem} {x : Mem} (h : Ro_putNumber this v1 v2 m = some x) (hp : (fun x : Mem => r = none ∧ m' = x) x) : V g Y_Ro_putNumber 0 [some (vr this), some (vi v1), some (vl v2), none] [] m (PM g Y_Ro_putNumber r m') := by
  unfold Ro_putNumber at h
  refine V_aload_n (i := 0) (pc := 0) dX6_putNumber_0 rfl rfl ?_
  refine V_iload_n (i := 1) (pc := 1) dX6_putNumber_1 rfl rfl ?_
  refine V_iconst (v := 1) (pc := 2) dX6_putNumber_2 rfl ?_
  obtain ⟨r3, e3, h⟩ := bnd h
  refine V_invV1 (c := 6) (pc := 3) dX6_putNumber_3 (e_Ro_hasNumbers h_this e3) iv_Ro_35 (rm_Ro_putNumber_Ro_hasNumbers _ _ _) rfl h_this cf_6 rfl (Nat.le_of_ble_eq_true rfl) rfl ?_
  refine V_if_eq (pc := 6) (tgt := 20) dX6_putNumber_6 rfl (fun q => ?_) (fun q => ?_)
  · have h := ite_t q h
    obtain rfl := Option.some.inj h
    exact E_v (pc := 20) dX6_putNumber_20 rfl hp
  · have h := ite_f q h
    refine V_aload_n (i := 0) (pc := 9) dX6_putNumber_9 rfl rfl ?_
    refine V_getR (b := (this + 1)) (pc := 10) dX6_putNumber_10 fl_Ro_9 h_this rfl rfl ?_
    refine V_iload_n (i := 1) (pc := 13) dX6_putNumber_13 rfl rfl ?_
    refine V_aload_n (i := 0) (pc := 14) dX6_putNumber_14 rfl rfl ?_
    refine V_lload_n (i := 2) (pc := 15) dX6_putNumber_15 rfl rfl ?_
    obtain ⟨r16, e16, h⟩ := bnd h
    refine V_invV1 (c := 6) (pc := 16) dX6_putNumber_16 (e_Ro_cut h_this e16) iv_Ro_39 (rm_Ro_putNumber_Ro_cut _ _ _) rfl h_this cf_6 rfl (Nat.le_of_ble_eq_true rfl) rfl ?_
    obtain ⟨hg19, h⟩ := gd_e h
    refine V_last_lt (pc := 19) dX6_putNumber_19 (kf_6_0 h_this) (af_6_0 h_this) hg19 h (fun m19 h => ?_)
    obtain rfl := Option.some.inj h
    exact E_v (pc := 20) dX6_putNumber_20 rfl hp
theorem e_Ro_putNumber {g : GE} {this : Nat} {v1 : Int32} {v2 : Int64} {m : Mem} (h_this : kd this = 7) {x : Mem} (h : Ro_putNumber this v1 v2 m = some x) : Ev g Y_Ro_putNumber [vr this, vi v1, vl v2] m (none) x :=
  Ev_of 0 (by decide +kernel) rfl (Nat.le_of_ble_eq_true rfl) rfl (k_Ro_putNumber h_this h ⟨rfl, rfl⟩)
theorem k_PL_write {g : GE} {this : Nat} {v1 : Int32} {v2 : Int32} {v3 : Int64} {m : Mem} (h_this : kd this = 11) {r : Option AV} {m' : Mem} {x : Int32 × Mem} (h : PL_write this v1 v2 v3 m = some x) (hp : (fun x : Int32 × Mem => r = some (vi x.1) ∧ m' = x.2) x) : V g Y_PL_write 0 [some (vr this), some (vi v1), some (vi v2), some (vl v3), none, none] [] m (PM g Y_PL_write r m') := by
  unfold PL_write at h
  refine V_aload_n (i := 0) (pc := 0) dX10_write_0 rfl rfl ?_
  refine V_iload_n (i := 1) (pc := 1) dX10_write_1 rfl rfl ?_
  obtain ⟨r2, e2, h⟩ := bnd h
  refine V_invV1 (c := 10) (pc := 2) dX10_write_2 (e_PL_slotAt h_this e2) iv_PL_251 (rm_PL_write_PL_slotAt _ _ _) rfl h_this cf_10 rfl (Nat.le_of_ble_eq_true rfl) rfl ?_
  refine V_astore (i := 5) (ls' := [some (vr this), some (vi v1), some (vi v2), some (vl v3), none, some (vr r2)]) (pc := 5) dX10_write_5 (Nat.le_of_ble_eq_true rfl) rfl ?_
  refine V_aload (i := 5) (pc := 7) dX10_write_7 rfl ?_
  refine V_ifnonnull (pc := 9) (tgt := 15) dX10_write_9 rfl (fun q => ?_) (fun q => ?_)
  · have h := ite_f q h
    obtain ⟨hk9, h⟩ := gd_e h
    refine V_aload (i := 5) (pc := 15) dX10_write_15 rfl ?_
    refine V_getI (pc := 17) dX10_write_17 fl_PL_255 hk9 rfl ?_
    refine V_if_ne (pc := 20) (tgt := 26) dX10_write_20 rfl (fun q => ?_) (fun q => ?_)
    · have h := ite_f q h
      refine V_aload (i := 5) (pc := 26) dX10_write_26 rfl ?_
      refine V_iload_n (i := 2) (pc := 28) dX10_write_28 rfl rfl ?_
      refine V_iconst (v := 1) (pc := 29) dX10_write_29 rfl ?_
      obtain ⟨r30, e30, h⟩ := bnd h
      refine V_invV1 (c := 6) (pc := 30) dX10_write_30 (e_Ro_hasNumbers hk9 e30) iv_PL_421 (rm_PL_write_Ro_hasNumbers _ _ _) rfl hk9 cf_6 rfl (Nat.le_of_ble_eq_true rfl) rfl ?_
      refine V_if_ne (pc := 33) (tgt := 39) dX10_write_33 rfl (fun q => ?_) (fun q => ?_)
      · have h := ite_f q h
        refine V_aload (i := 5) (pc := 39) dX10_write_39 rfl ?_
        refine V_iload_n (i := 2) (pc := 41) dX10_write_41 rfl rfl ?_
        refine V_lload_n (i := 3) (pc := 42) dX10_write_42 rfl rfl ?_
        obtain ⟨m43, e43, h⟩ := bnd h
        refine V_invV0 (c := 6) (pc := 43) dX10_write_43 (e_Ro_putNumber hk9 e43) iv_PL_424 (rm_PL_write_Ro_putNumber _ _ _) rfl hk9 cf_6 rfl (Nat.le_of_ble_eq_true rfl) rfl ?_
        refine V_iconst (v := 0) (pc := 46) dX10_write_46 rfl ?_
        obtain rfl := Option.some.inj h
        exact E_i (pc := 47) dX10_write_47 rfl hp
      · have h := ite_t q h
        refine V_bipush (v := (-7)) (pc := 36) dX10_write_36 rfl ?_
        obtain rfl := Option.some.inj h
        exact E_i (pc := 38) dX10_write_38 rfl hp
    · have h := ite_t q h
      refine V_bipush (v := (-6)) (pc := 23) dX10_write_23 rfl ?_
      obtain rfl := Option.some.inj h
      exact E_i (pc := 25) dX10_write_25 rfl hp
  · have h := ite_t q h
    refine V_bipush (v := (-2)) (pc := 12) dX10_write_12 rfl ?_
    obtain rfl := Option.some.inj h
    exact E_i (pc := 14) dX10_write_14 rfl hp
theorem e_PL_write {g : GE} {this : Nat} {v1 : Int32} {v2 : Int32} {v3 : Int64} {m : Mem} (h_this : kd this = 11) {x : Int32 × Mem} (h : PL_write this v1 v2 v3 m = some x) : Ev g Y_PL_write [vr this, vi v1, vi v2, vl v3] m (some (vi x.1)) x.2 :=
  Ev_of 1 (by decide +kernel) rfl (Nat.le_of_ble_eq_true rfl) rfl (k_PL_write h_this h ⟨rfl, rfl⟩)
theorem k_PL_paste {g : GE} {this : Nat} {v1 : Int32} {v2 : Int32} {v3 : Int32} {v4 : Int32} {v5 : Int32} {m : Mem} (h_this : kd this = 11) {r : Option AV} {m' : Mem} {x : Int32 × Mem} (h : PL_paste this v1 v2 v3 v4 v5 m = some x) (hp : (fun x : Int32 × Mem => r = some (vi x.1) ∧ m' = x.2) x) : V g Y_PL_paste 0 [some (vr this), some (vi v1), some (vi v2), some (vi v3), some (vi v4), some (vi v5), none, none] [] m (PM g Y_PL_paste r m') := by
  unfold PL_paste at h
  refine V_aload_n (i := 0) (pc := 0) dX10_paste_0 rfl rfl ?_
  refine V_iload_n (i := 1) (pc := 1) dX10_paste_1 rfl rfl ?_
  obtain ⟨r2, e2, h⟩ := bnd h
  refine V_invV1 (c := 10) (pc := 2) dX10_paste_2 (e_PL_slotAt h_this e2) iv_PL_251 (rm_PL_paste_PL_slotAt _ _ _) rfl h_this cf_10 rfl (Nat.le_of_ble_eq_true rfl) rfl ?_
  refine V_astore (i := 6) (ls' := [some (vr this), some (vi v1), some (vi v2), some (vi v3), some (vi v4), some (vi v5), some (vr r2), none]) (pc := 5) dX10_paste_5 (Nat.le_of_ble_eq_true rfl) rfl ?_
  refine V_aload_n (i := 0) (pc := 7) dX10_paste_7 rfl rfl ?_
  refine V_iload_n (i := 3) (pc := 8) dX10_paste_8 rfl rfl ?_
  obtain ⟨r9, e9, h⟩ := bnd h
  refine V_invV1 (c := 10) (pc := 9) dX10_paste_9 (e_PL_slotAt h_this e9) iv_PL_251 (rm_PL_paste_PL_slotAt _ _ _) rfl h_this cf_10 rfl (Nat.le_of_ble_eq_true rfl) rfl ?_
  refine V_astore (i := 7) (ls' := [some (vr this), some (vi v1), some (vi v2), some (vi v3), some (vi v4), some (vi v5), some (vr r2), some (vr r9)]) (pc := 12) dX10_paste_12 (Nat.le_of_ble_eq_true rfl) rfl ?_
  refine V_aload (i := 6) (pc := 14) dX10_paste_14 rfl ?_
  refine V_ifnull (pc := 16) (tgt := 24) dX10_paste_16 rfl (fun q => ?_) (fun q => ?_)
  · have h := ite_t q h
    refine V_bipush (v := (-2)) (pc := 24) dX10_paste_24 rfl ?_
    obtain rfl := Option.some.inj h
    exact E_i (pc := 26) dX10_paste_26 rfl hp
  · have h := ite_f q h
    obtain ⟨hk16, h⟩ := gd_e h
    refine V_aload (i := 7) (pc := 19) dX10_paste_19 rfl ?_
    refine V_ifnonnull (pc := 21) (tgt := 27) dX10_paste_21 rfl (fun q => ?_) (fun q => ?_)
    · have h := ite_f q h
      obtain ⟨hk21, h⟩ := gd_e h
      refine V_aload (i := 6) (pc := 27) dX10_paste_27 rfl ?_
      refine V_getI (pc := 29) dX10_paste_29 fl_PL_255 hk16 rfl ?_
      refine V_if_eq (pc := 32) (tgt := 43) dX10_paste_32 rfl (fun q => ?_) (fun q => ?_)
      · have h := ite_t q h
        refine V_bipush (v := (-6)) (pc := 43) dX10_paste_43 rfl ?_
        obtain rfl := Option.some.inj h
        exact E_i (pc := 45) dX10_paste_45 rfl hp
      · have h := ite_f q h
        refine V_aload (i := 7) (pc := 35) dX10_paste_35 rfl ?_
        refine V_getI (pc := 37) dX10_paste_37 fl_PL_255 hk21 rfl ?_
        refine V_if_ne (pc := 40) (tgt := 46) dX10_paste_40 rfl (fun q => ?_) (fun q => ?_)
        · have h := ite_f q h
          refine V_aload (i := 6) (pc := 46) dX10_paste_46 rfl ?_
          refine V_getI (pc := 48) dX10_paste_48 fl_PL_428 hk16 rfl ?_
          refine V_aload (i := 7) (pc := 51) dX10_paste_51 rfl ?_
          refine V_getI (pc := 53) dX10_paste_53 fl_PL_428 hk21 rfl ?_
          refine V_icmp_eq (pc := 56) (tgt := 62) dX10_paste_56 rfl (fun q => ?_) (fun q => ?_)
          · have h := ite_t q h
            refine V_aload (i := 6) (pc := 62) dX10_paste_62 rfl ?_
            refine V_iload_n (i := 2) (pc := 64) dX10_paste_64 rfl rfl ?_
            refine V_iload (i := 5) (pc := 65) dX10_paste_65 rfl ?_
            obtain ⟨r67, e67, h⟩ := bnd h
            refine V_invV1 (c := 6) (pc := 67) dX10_paste_67 (e_Ro_hasNumbers hk16 e67) iv_PL_421 (rm_PL_paste_Ro_hasNumbers _ _ _) rfl hk16 cf_6 rfl (Nat.le_of_ble_eq_true rfl) rfl ?_
            refine V_if_eq (pc := 70) (tgt := 85) dX10_paste_70 rfl (fun q => ?_) (fun q => ?_)
            · have h := ite_t q h
              refine V_bipush (v := (-7)) (pc := 85) dX10_paste_85 rfl ?_
              obtain rfl := Option.some.inj h
              exact E_i (pc := 87) dX10_paste_87 rfl hp
            · have h := ite_f q h
              refine V_aload (i := 7) (pc := 73) dX10_paste_73 rfl ?_
              refine V_iload (i := 4) (pc := 75) dX10_paste_75 rfl ?_
              refine V_iload (i := 5) (pc := 77) dX10_paste_77 rfl ?_
              obtain ⟨r79, e79, h⟩ := bnd h
              refine V_invV1 (c := 6) (pc := 79) dX10_paste_79 (e_Ro_hasNumbers hk21 e79) iv_PL_421 (rm_PL_paste_Ro_hasNumbers _ _ _) rfl hk21 cf_6 rfl (Nat.le_of_ble_eq_true rfl) rfl ?_
              refine V_if_ne (pc := 82) (tgt := 88) dX10_paste_82 rfl (fun q => ?_) (fun q => ?_)
              · have h := ite_f q h
                refine V_aload (i := 6) (pc := 88) dX10_paste_88 rfl ?_
                refine V_getR (b := (r2 + 1)) (pc := 90) dX10_paste_90 fl_PL_431 hk16 rfl rfl ?_
                refine V_iload_n (i := 2) (pc := 93) dX10_paste_93 rfl rfl ?_
                refine V_aload (i := 7) (pc := 94) dX10_paste_94 rfl ?_
                refine V_getR (b := (r9 + 1)) (pc := 96) dX10_paste_96 fl_PL_431 hk21 rfl rfl ?_
                refine V_iload (i := 4) (pc := 99) dX10_paste_99 rfl ?_
                refine V_iload (i := 5) (pc := 101) dX10_paste_101 rfl ?_
                obtain ⟨⟨c1, c2, c3, c4, c5⟩, h⟩ := gd_e h
                refine V_copyl_lt (pc := 103) dX10_paste_103 (by decide +kernel) (by decide +kernel) (by decide +kernel) (by decide +kernel) (kf_6_0 hk16) (kf_6_0 hk21) (af_6_0 hk16) (af_6_0 hk21) c1 c2 c3 c4 c5 (Nat.le_of_ble_eq_true rfl) (Nat.le_of_ble_eq_true rfl) h (fun m103 h => ?_)
                refine V_iconst (v := 0) (pc := 106) dX10_paste_106 rfl ?_
                obtain rfl := Option.some.inj h
                exact E_i (pc := 107) dX10_paste_107 rfl hp
              · have h := ite_t q h
                refine V_bipush (v := (-7)) (pc := 85) dX10_paste_85 rfl ?_
                obtain rfl := Option.some.inj h
                exact E_i (pc := 87) dX10_paste_87 rfl hp
          · have h := ite_f q h
            refine V_bipush (v := (-8)) (pc := 59) dX10_paste_59 rfl ?_
            obtain rfl := Option.some.inj h
            exact E_i (pc := 61) dX10_paste_61 rfl hp
        · have h := ite_t q h
          refine V_bipush (v := (-6)) (pc := 43) dX10_paste_43 rfl ?_
          obtain rfl := Option.some.inj h
          exact E_i (pc := 45) dX10_paste_45 rfl hp
    · have h := ite_t q h
      refine V_bipush (v := (-2)) (pc := 24) dX10_paste_24 rfl ?_
      obtain rfl := Option.some.inj h
      exact E_i (pc := 26) dX10_paste_26 rfl hp
theorem e_PL_paste {g : GE} {this : Nat} {v1 : Int32} {v2 : Int32} {v3 : Int32} {v4 : Int32} {v5 : Int32} {m : Mem} (h_this : kd this = 11) {x : Int32 × Mem} (h : PL_paste this v1 v2 v3 v4 v5 m = some x) : Ev g Y_PL_paste [vr this, vi v1, vi v2, vi v3, vi v4, vi v5] m (some (vi x.1)) x.2 :=
  Ev_of 2 (by decide +kernel) rfl (Nat.le_of_ble_eq_true rfl) rfl (k_PL_paste h_this h ⟨rfl, rfl⟩)
