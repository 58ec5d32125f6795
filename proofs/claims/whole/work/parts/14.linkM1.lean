theorem k_Mo_safe_l31 {g : GE} {this : Nat} {v1 : Int32} {v2 : Int64} {v4 : Int32} {m : Mem} (h_this : kd this = 12) {r : Option AV} {m' : Mem} {x : (Int64 × Int32 × Mem) ⊕ (Int32 × Mem)} (h : Mo_safe_l31 this v1 v2 v4 m = some x) (hp : (Sum.elim (fun s : Int64 × Int32 × Mem => V g Y_Mo_safe 31 [some (vr this), some (vi v1), some (vl s.1), none, some (vi s.2.1)] [] s.2.2 (PM g Y_Mo_safe r m')) (fun x : Int32 × Mem => r = some (vi x.1) ∧ m' = x.2)) x) : V g Y_Mo_safe 31 [some (vr this), some (vi v1), some (vl v2), none, some (vi v4)] [] m (PM g Y_Mo_safe r m') := by
  unfold Mo_safe_l31 at h
  refine V_iload (i := 4) (pc := 31) dX11_safe_31 rfl ?_
  refine V_bipush (v := 48) (pc := 33) dX11_safe_33 rfl ?_
  refine V_icmp_gt (pc := 35) (tgt := 67) dX11_safe_35 rfl (fun q => ?_) (fun q => ?_)
  · have h := ite_t q h
    obtain ⟨y1, hu1, rfl⟩ := up_e h
    have h := hu1
    refine V_bipush (v := 48) (pc := 67) dX11_safe_67 rfl ?_
    obtain rfl := Option.some.inj h
    exact E_i (pc := 69) dX11_safe_69 rfl hp
  · have h := ite_f q h
    refine V_lload_n (i := 2) (pc := 38) dX11_safe_38 rfl rfl ?_
    refine V_aload_n (i := 0) (pc := 39) dX11_safe_39 rfl rfl ?_
    obtain ⟨r40, e40, h⟩ := bnd h
    refine V_invV1 (c := 11) (pc := 40) dX11_safe_40 (e_Mo_loses h_this e40) iv_Mo_380 (rm_Mo_safe_Mo_loses _ _ _) rfl h_this cf_11 rfl (Nat.le_of_ble_eq_true rfl) rfl ?_
    refine V_ladd (pc := 43) dX11_safe_43 ?_
    refine V_lstore_n (i := 2) (ls' := [some (vr this), some (vi v1), some (vl (v2 + r40.1)), none, some (vi v4)]) (pc := 44) dX11_safe_44 rfl (Nat.le_of_ble_eq_true rfl) rfl ?_
    refine V_lload_n (i := 2) (pc := 45) dX11_safe_45 rfl rfl ?_
    refine V_iload_n (i := 1) (pc := 46) dX11_safe_46 rfl rfl ?_
    refine V_i2l (pc := 47) dX11_safe_47 ?_
    refine V_ldc2 (v := 1000000000) (pc := 48) dX11_safe_48 con_Mo_390 ?_
    refine V_lmul (pc := 51) dX11_safe_51 ?_
    refine V_lif_le (pc := 52) (tgt := 61) dX11_safe_52 dX11_safe_53 rfl (fun q => ?_) (fun q => ?_)
    · have h := ite_t q h
      refine V_iinc (i := 4) (v := (v4 + 1)) (ls' := [some (vr this), some (vi v1), some (vl (v2 + r40.1)), none, some (vi (v4 + 1))]) (pc := 61) dX11_safe_61 rfl rfl (Nat.le_of_ble_eq_true rfl) rfl ?_
      refine V_goto (tgt := 31) (pc := 64) dX11_safe_64 rfl ?_
      obtain rfl := Option.some.inj h
      exact hp
    · have h := ite_f q h
      obtain ⟨y2, hu2, rfl⟩ := up_e h
      have h := hu2
      refine V_iload (i := 4) (pc := 56) dX11_safe_56 rfl ?_
      refine V_iconst (v := 1) (pc := 58) dX11_safe_58 rfl ?_
      refine V_isub (pc := 59) dX11_safe_59 ?_
      obtain rfl := Option.some.inj h
      exact E_i (pc := 60) dX11_safe_60 rfl hp
theorem k_Mo_safe {g : GE} {this : Nat} {v1 : Int32} {m : Mem} (h_this : kd this = 12) {r : Option AV} {m' : Mem} {x : Int32 × Mem} (h : Mo_safe this v1 m = some x) (hp : (fun x : Int32 × Mem => r = some (vi x.1) ∧ m' = x.2) x) : V g Y_Mo_safe 0 [some (vr this), some (vi v1), none, none, none] [] m (PM g Y_Mo_safe r m') := by
  unfold Mo_safe at h
  refine V_aload_n (i := 0) (pc := 0) dX11_safe_0 rfl rfl ?_
  obtain ⟨r1, e1, h⟩ := bnd h
  refine V_invV1 (c := 11) (pc := 1) dX11_safe_1 (e_Mo_isFloe h_this e1) iv_Mo_271 (rm_Mo_safe_Mo_isFloe _ _ _) rfl h_this cf_11 rfl (Nat.le_of_ble_eq_true rfl) rfl ?_
  refine V_if_eq (pc := 4) (tgt := 19) dX11_safe_4 rfl (fun q => ?_) (fun q => ?_)
  · have h := ite_t q h
    refine V_bipush (v := (-2)) (pc := 19) dX11_safe_19 rfl ?_
    obtain rfl := Option.some.inj h
    exact E_i (pc := 21) dX11_safe_21 rfl hp
  · have h := ite_f q h
    refine V_iload_n (i := 1) (pc := 7) dX11_safe_7 rfl rfl ?_
    refine V_i2l (pc := 8) dX11_safe_8 ?_
    refine V_lconst (v := 0) (pc := 9) dX11_safe_9 rfl ?_
    refine V_ldc2 (v := 1000) (pc := 10) dX11_safe_10 con_Mo_388 ?_
    obtain ⟨r13, e13, h⟩ := bnd h
    refine V_invS1 (pc := 13) dX11_safe_13 (e_Mo_in  e13) is_Mo_84 (rm_Mo_safe_Mo_in _ _ _) rfl (Nat.le_of_ble_eq_true rfl) rfl ?_
    refine V_if_ne (pc := 16) (tgt := 22) dX11_safe_16 rfl (fun q => ?_) (fun q => ?_)
    · have h := ite_f q h
      refine V_aload_n (i := 0) (pc := 22) dX11_safe_22 rfl rfl ?_
      obtain ⟨m23, e23, h⟩ := bnd h
      refine V_invV0 (c := 11) (pc := 23) dX11_safe_23 (e_Mo_beginParts h_this e23) iv_Mo_344 (rm_Mo_safe_Mo_beginParts _ _ _) rfl h_this cf_11 rfl (Nat.le_of_ble_eq_true rfl) rfl ?_
      refine V_lconst (v := 0) (pc := 26) dX11_safe_26 rfl ?_
      refine V_lstore_n (i := 2) (ls' := [some (vr this), some (vi v1), some (vl 0), none, none]) (pc := 27) dX11_safe_27 rfl (Nat.le_of_ble_eq_true rfl) rfl ?_
      refine V_iconst (v := 1) (pc := 28) dX11_safe_28 rfl ?_
      refine V_istore (i := 4) (ls' := [some (vr this), some (vi v1), some (vl 0), none, some (vi 1)]) (pc := 29) dX11_safe_29 (Nat.le_of_ble_eq_true rfl) rfl ?_
      exact loop_V (A := fun s : Int64 × Int32 × Mem => V g Y_Mo_safe 31 [some (vr this), some (vi v1), some (vl s.1), none, some (vi s.2.1)] [] s.2.2 (PM g Y_Mo_safe r m')) (fun s x h hp => k_Mo_safe_l31 h_this h hp) (0, 1, m23) _ h hp
    · have h := ite_t q h
      refine V_bipush (v := (-2)) (pc := 19) dX11_safe_19 rfl ?_
      obtain rfl := Option.some.inj h
      exact E_i (pc := 21) dX11_safe_21 rfl hp
theorem e_Mo_safe {g : GE} {this : Nat} {v1 : Int32} {m : Mem} (h_this : kd this = 12) {x : Int32 × Mem} (h : Mo_safe this v1 m = some x) : Ev g Y_Mo_safe [vr this, vi v1] m (some (vi x.1)) x.2 :=
  Ev_of 3 (by decide +kernel) rfl (Nat.le_of_ble_eq_true rfl) rfl (k_Mo_safe h_this h ⟨rfl, rfl⟩)
theorem k_Mo_isSlot {g : GE} {v0 : Int32} {m : Mem} {r : Option AV} {m' : Mem} {x : Int32} (h : Mo_isSlot v0 m = some x) (hp : (fun x : Int32 => r = some (vi x) ∧ m' = m) x) : V g Y_Mo_isSlot 0 [some (vi v0)] [] m (PM g Y_Mo_isSlot r m') := by
  unfold Mo_isSlot at h
  refine V_iload_n (i := 0) (pc := 0) dX11_isSlot_0 rfl rfl ?_
  refine V_i2l (pc := 1) dX11_isSlot_1 ?_
  refine V_lconst (v := 0) (pc := 2) dX11_isSlot_2 rfl ?_
  refine V_ldc2 (v := 3) (pc := 3) dX11_isSlot_3 con_Mo_269 ?_
  obtain ⟨r6, e6, h⟩ := bnd h
  refine V_invS1 (pc := 6) dX11_isSlot_6 (e_Mo_in  e6) is_Mo_84 (rm_Mo_isSlot_Mo_in _ _ _) rfl (Nat.le_of_ble_eq_true rfl) rfl ?_
  obtain ⟨hz, h⟩ := gd_e h
  obtain rfl := Option.some.inj h
  exact E_z (pc := 9) dX11_isSlot_9 rfl (nar_z hz) hp
theorem e_Mo_isSlot {g : GE} {v0 : Int32} {m : Mem} {x : Int32} (h : Mo_isSlot v0 m = some x) : Ev g Y_Mo_isSlot [vi v0] m (some (vi x)) m :=
  Ev_of 0 (by decide +kernel) rfl (Nat.le_of_ble_eq_true rfl) rfl (k_Mo_isSlot  h ⟨rfl, rfl⟩)
theorem k_Mo_judge_l32 {g : GE} {this : Nat} {v1 : Int32} {v2 : Int32} {m : Mem} (h_this : kd this = 12) {r : Option AV} {m' : Mem} {x : (Int32) ⊕ (Int32)} (h : Mo_judge_l32 this v1 v2 m = some x) (hp : (Sum.elim (fun s : Int32 => V g Y_Mo_judge 32 [some (vr this), some (vi v1), some (vi s)] [] m (PM g Y_Mo_judge r m')) (fun x : Int32 => r = some (vi x) ∧ m' = m)) x) : V g Y_Mo_judge 32 [some (vr this), some (vi v1), some (vi v2)] [] m (PM g Y_Mo_judge r m') := by
  unfold Mo_judge_l32 at h
  refine V_iload_n (i := 2) (pc := 32) dX11_judge_32 rfl rfl ?_
  refine V_aload_n (i := 0) (pc := 33) dX11_judge_33 rfl rfl ?_
  refine V_getR (b := (this + 16)) (pc := 34) dX11_judge_34 fl_Mo_66 h_this rfl rfl ?_
  refine V_iload_n (i := 1) (pc := 37) dX11_judge_37 rfl rfl ?_
  obtain ⟨hg38, h⟩ := gd_e h
  refine V_iald (pc := 38) dX11_judge_38 (kf_11_27 h_this) (af_11_27 h_this) hg38 ?_
  refine V_icmp_ge (pc := 39) (tgt := 92) dX11_judge_39 rfl (fun q => ?_) (fun q => ?_)
  · have h := ite_t q h
    obtain ⟨y1, hu1, rfl⟩ := up_e h
    have h := hu1
    refine V_iload_n (i := 2) (pc := 92) dX11_judge_92 rfl rfl ?_
    obtain rfl := Option.some.inj h
    exact E_i (pc := 93) dX11_judge_93 rfl hp
  · have h := ite_f q h
    refine V_aload_n (i := 0) (pc := 42) dX11_judge_42 rfl rfl ?_
    refine V_getR (b := (this + 18)) (pc := 43) dX11_judge_43 fl_Mo_72 h_this rfl rfl ?_
    refine V_bipush (v := 60) (pc := 46) dX11_judge_46 rfl ?_
    refine V_iload_n (i := 1) (pc := 48) dX11_judge_48 rfl rfl ?_
    refine V_imul (pc := 49) dX11_judge_49 ?_
    refine V_iload_n (i := 2) (pc := 50) dX11_judge_50 rfl rfl ?_
    refine V_iadd (pc := 51) dX11_judge_51 ?_
    obtain ⟨hg52, h⟩ := gd_e h
    refine V_lald (pc := 52) dX11_judge_52 (kf_11_29 h_this) (af_11_29 h_this) hg52 ?_
    refine V_lconst (v := 0) (pc := 53) dX11_judge_53 rfl ?_
    refine V_aload_n (i := 0) (pc := 54) dX11_judge_54 rfl rfl ?_
    obtain ⟨r55, e55, h⟩ := bnd h
    refine V_invV1 (c := 11) (pc := 55) dX11_judge_55 (e_Mo_sets h_this e55) iv_Mo_274 (rm_Mo_judge_Mo_sets _ _ _) rfl h_this cf_11 rfl (Nat.le_of_ble_eq_true rfl) rfl ?_
    refine V_iconst (v := 1) (pc := 58) dX11_judge_58 rfl ?_
    refine V_isub (pc := 59) dX11_judge_59 ?_
    refine V_i2l (pc := 60) dX11_judge_60 ?_
    obtain ⟨r61, e61, h⟩ := bnd h
    refine V_invS1 (pc := 61) dX11_judge_61 (e_Mo_in  e61) is_Mo_84 (rm_Mo_judge_Mo_in _ _ _) rfl (Nat.le_of_ble_eq_true rfl) rfl ?_
    refine V_if_eq (pc := 64) (tgt := 92) dX11_judge_64 rfl (fun q => ?_) (fun q => ?_)
    · have h := ite_t q h
      obtain ⟨y2, hu2, rfl⟩ := up_e h
      have h := hu2
      refine V_iload_n (i := 2) (pc := 92) dX11_judge_92 rfl rfl ?_
      obtain rfl := Option.some.inj h
      exact E_i (pc := 93) dX11_judge_93 rfl hp
    · have h := ite_f q h
      refine V_aload_n (i := 0) (pc := 67) dX11_judge_67 rfl rfl ?_
      refine V_aload_n (i := 0) (pc := 68) dX11_judge_68 rfl rfl ?_
      refine V_getR (b := (this + 18)) (pc := 69) dX11_judge_69 fl_Mo_72 h_this rfl rfl ?_
      refine V_bipush (v := 60) (pc := 72) dX11_judge_72 rfl ?_
      refine V_iload_n (i := 1) (pc := 74) dX11_judge_74 rfl rfl ?_
      refine V_imul (pc := 75) dX11_judge_75 ?_
      refine V_iload_n (i := 2) (pc := 76) dX11_judge_76 rfl rfl ?_
      refine V_iadd (pc := 77) dX11_judge_77 ?_
      obtain ⟨hg78, h⟩ := gd_e h
      refine V_lald (pc := 78) dX11_judge_78 (kf_11_29 h_this) (af_11_29 h_this) hg78 ?_
      refine V_l2i (pc := 79) dX11_judge_79 ?_
      obtain ⟨r80, e80, h⟩ := bnd h
      refine V_invV1 (c := 11) (pc := 80) dX11_judge_80 (e_Mo_isEnough h_this e80) iv_Mo_353 (rm_Mo_judge_Mo_isEnough _ _ _) rfl h_this cf_11 rfl (Nat.le_of_ble_eq_true rfl) rfl ?_
      refine V_if_eq (pc := 83) (tgt := 92) dX11_judge_83 rfl (fun q => ?_) (fun q => ?_)
      · have h := ite_t q h
        obtain ⟨y3, hu3, rfl⟩ := up_e h
        have h := hu3
        refine V_iload_n (i := 2) (pc := 92) dX11_judge_92 rfl rfl ?_
        obtain rfl := Option.some.inj h
        exact E_i (pc := 93) dX11_judge_93 rfl hp
      · have h := ite_f q h
        refine V_iinc (i := 2) (v := (v2 + 1)) (ls' := [some (vr this), some (vi v1), some (vi (v2 + 1))]) (pc := 86) dX11_judge_86 rfl rfl (Nat.le_of_ble_eq_true rfl) rfl ?_
        refine V_goto (tgt := 32) (pc := 89) dX11_judge_89 rfl ?_
        obtain rfl := Option.some.inj h
        exact hp
theorem k_Mo_judge {g : GE} {this : Nat} {v1 : Int32} {m : Mem} (h_this : kd this = 12) {r : Option AV} {m' : Mem} {x : Int32} (h : Mo_judge this v1 m = some x) (hp : (fun x : Int32 => r = some (vi x) ∧ m' = m) x) : V g Y_Mo_judge 0 [some (vr this), some (vi v1), none] [] m (PM g Y_Mo_judge r m') := by
  unfold Mo_judge at h
  refine V_iload_n (i := 1) (pc := 0) dX11_judge_0 rfl rfl ?_
  obtain ⟨r1, e1, h⟩ := bnd h
  refine V_invS1 (pc := 1) dX11_judge_1 (e_Mo_isSlot  e1) is_Mo_392 (rm_Mo_judge_Mo_isSlot _ _ _) rfl (Nat.le_of_ble_eq_true rfl) rfl ?_
  refine V_if_eq (pc := 4) (tgt := 14) dX11_judge_4 rfl (fun q => ?_) (fun q => ?_)
  · have h := ite_t q h
    refine V_bipush (v := (-2)) (pc := 14) dX11_judge_14 rfl ?_
    obtain rfl := Option.some.inj h
    exact E_i (pc := 16) dX11_judge_16 rfl hp
  · have h := ite_f q h
    refine V_aload_n (i := 0) (pc := 7) dX11_judge_7 rfl rfl ?_
    obtain ⟨r8, e8, h⟩ := bnd h
    refine V_invV1 (c := 11) (pc := 8) dX11_judge_8 (e_Mo_isFloe h_this e8) iv_Mo_271 (rm_Mo_judge_Mo_isFloe _ _ _) rfl h_this cf_11 rfl (Nat.le_of_ble_eq_true rfl) rfl ?_
    refine V_if_ne (pc := 11) (tgt := 17) dX11_judge_11 rfl (fun q => ?_) (fun q => ?_)
    · have h := ite_f q h
      refine V_aload_n (i := 0) (pc := 17) dX11_judge_17 rfl rfl ?_
      refine V_getR (b := (this + 16)) (pc := 18) dX11_judge_18 fl_Mo_66 h_this rfl rfl ?_
      refine V_iload_n (i := 1) (pc := 21) dX11_judge_21 rfl rfl ?_
      obtain ⟨hg22, h⟩ := gd_e h
      refine V_iald (pc := 22) dX11_judge_22 (kf_11_27 h_this) (af_11_27 h_this) hg22 ?_
      refine V_iconst (v := (-1)) (pc := 23) dX11_judge_23 rfl ?_
      refine V_icmp_ne (pc := 24) (tgt := 30) dX11_judge_24 rfl (fun q => ?_) (fun q => ?_)
      · have h := ite_f q h
        refine V_iconst (v := 0) (pc := 30) dX11_judge_30 rfl ?_
        refine V_istore_n (i := 2) (ls' := [some (vr this), some (vi v1), some (vi 0)]) (pc := 31) dX11_judge_31 rfl (Nat.le_of_ble_eq_true rfl) rfl ?_
        exact loop_V (A := fun s : Int32 => V g Y_Mo_judge 32 [some (vr this), some (vi v1), some (vi s)] [] m (PM g Y_Mo_judge r m')) (fun s x h hp => k_Mo_judge_l32 h_this h hp) (0) _ h hp
      · have h := ite_t q h
        refine V_bipush (v := (-6)) (pc := 27) dX11_judge_27 rfl ?_
        obtain rfl := Option.some.inj h
        exact E_i (pc := 29) dX11_judge_29 rfl hp
    · have h := ite_t q h
      refine V_bipush (v := (-2)) (pc := 14) dX11_judge_14 rfl ?_
      obtain rfl := Option.some.inj h
      exact E_i (pc := 16) dX11_judge_16 rfl hp
theorem e_Mo_judge {g : GE} {this : Nat} {v1 : Int32} {m : Mem} (h_this : kd this = 12) {x : Int32} (h : Mo_judge this v1 m = some x) : Ev g Y_Mo_judge [vr this, vi v1] m (some (vi x)) m :=
  Ev_of 1 (by decide +kernel) rfl (Nat.le_of_ble_eq_true rfl) rfl (k_Mo_judge h_this h ⟨rfl, rfl⟩)
theorem k_Mo_heapMany_b24 {g : GE} {this : Nat} {v2 : Int32} {k0 : Int32} {k1 : Int32}  {m : Mem} (h_this : kd this = 12) {r : Option AV} {m' : Mem} {x : (Int32 × Int32) ⊕ (Int32)} (h : Mo_heapMany_b24 this v2 k0 k1 m = some x) (hp : (Sum.elim (fun s : Int32 × Int32 => V g Y_Mo_heapMany 4 [some (vr this), some (vi s.1), some (vi s.2)] [] m (PM g Y_Mo_heapMany r m')) (fun x : Int32 => r = some (vi x) ∧ m' = m)) x) : V g Y_Mo_heapMany 24 [some (vr this), none, some (vi v2)] [vi k1, vi k0] m (PM g Y_Mo_heapMany r m') := by
  unfold Mo_heapMany_b24 at h
  refine V_iadd (pc := 24) dX11_heapMany_24 ?_
  refine V_istore_n (i := 1) (ls' := [some (vr this), some (vi (k0 + k1)), some (vi v2)]) (pc := 25) dX11_heapMany_25 rfl (Nat.le_of_ble_eq_true rfl) rfl ?_
  refine V_iinc (i := 2) (v := (v2 + 1)) (ls' := [some (vr this), some (vi (k0 + k1)), some (vi (v2 + 1))]) (pc := 26) dX11_heapMany_26 rfl rfl (Nat.le_of_ble_eq_true rfl) rfl ?_
  refine V_goto (tgt := 4) (pc := 29) dX11_heapMany_29 rfl ?_
  obtain rfl := Option.some.inj h
  exact hp
theorem k_Mo_heapMany_l4 {g : GE} {this : Nat}  {v1 : Int32} {v2 : Int32} {m : Mem} (h_this : kd this = 12) {r : Option AV} {m' : Mem} {x : (Int32 × Int32) ⊕ (Int32)} (h : Mo_heapMany_l4 this v1 v2 m = some x) (hp : (Sum.elim (fun s : Int32 × Int32 => V g Y_Mo_heapMany 4 [some (vr this), some (vi s.1), some (vi s.2)] [] m (PM g Y_Mo_heapMany r m')) (fun x : Int32 => r = some (vi x) ∧ m' = m)) x) : V g Y_Mo_heapMany 4 [some (vr this), some (vi v1), some (vi v2)] [] m (PM g Y_Mo_heapMany r m') := by
  unfold Mo_heapMany_l4 at h
  refine V_iload_n (i := 2) (pc := 4) dX11_heapMany_4 rfl rfl ?_
  refine V_bipush (v := 8) (pc := 5) dX11_heapMany_5 rfl ?_
  refine V_icmp_ge (pc := 7) (tgt := 32) dX11_heapMany_7 rfl (fun q => ?_) (fun q => ?_)
  · have h := ite_t q h
    obtain ⟨y1, hu1, rfl⟩ := up_e h
    have h := hu1
    refine V_iload_n (i := 1) (pc := 32) dX11_heapMany_32 rfl rfl ?_
    obtain rfl := Option.some.inj h
    exact E_i (pc := 33) dX11_heapMany_33 rfl hp
  · have h := ite_f q h
    refine V_iload_n (i := 1) (pc := 10) dX11_heapMany_10 rfl rfl ?_
    refine V_aload_n (i := 0) (pc := 11) dX11_heapMany_11 rfl rfl ?_
    refine V_iload_n (i := 2) (pc := 12) dX11_heapMany_12 rfl rfl ?_
    obtain ⟨r13, e13, h⟩ := bnd h
    refine V_invV1 (c := 11) (pc := 13) dX11_heapMany_13 (e_Mo_isThere h_this e13) iv_Mo_288 (rm_Mo_heapMany_Mo_isThere _ _ _) rfl h_this cf_11 rfl (Nat.le_of_ble_eq_true rfl) rfl ?_
    refine V_if_eq (pc := 16) (tgt := 23) dX11_heapMany_16 rfl (fun q => ?_) (fun q => ?_)
    · have h := ite_t q h
      refine V_iconst (v := 0) (pc := 23) dX11_heapMany_23 rfl ?_
      refine V_sub (ls' := [some (vr this), none, some (vi v2)]) (And.intro rfl (And.intro rfl trivial)) ?_
      exact k_Mo_heapMany_b24 h_this h hp
    · have h := ite_f q h
      refine V_iconst (v := 1) (pc := 19) dX11_heapMany_19 rfl ?_
      refine V_goto (tgt := 24) (pc := 20) dX11_heapMany_20 rfl ?_
      refine V_sub (ls' := [some (vr this), none, some (vi v2)]) (And.intro rfl (And.intro rfl trivial)) ?_
      exact k_Mo_heapMany_b24 h_this h hp
theorem k_Mo_heapMany {g : GE} {this : Nat} {m : Mem} (h_this : kd this = 12) {r : Option AV} {m' : Mem} {x : Int32} (h : Mo_heapMany this m = some x) (hp : (fun x : Int32 => r = some (vi x) ∧ m' = m) x) : V g Y_Mo_heapMany 0 [some (vr this), none, none] [] m (PM g Y_Mo_heapMany r m') := by
  unfold Mo_heapMany at h
  refine V_iconst (v := 0) (pc := 0) dX11_heapMany_0 rfl ?_
  refine V_istore_n (i := 1) (ls' := [some (vr this), some (vi 0), none]) (pc := 1) dX11_heapMany_1 rfl (Nat.le_of_ble_eq_true rfl) rfl ?_
  refine V_iconst (v := 0) (pc := 2) dX11_heapMany_2 rfl ?_
  refine V_istore_n (i := 2) (ls' := [some (vr this), some (vi 0), some (vi 0)]) (pc := 3) dX11_heapMany_3 rfl (Nat.le_of_ble_eq_true rfl) rfl ?_
  exact loop_V (A := fun s : Int32 × Int32 => V g Y_Mo_heapMany 4 [some (vr this), some (vi s.1), some (vi s.2)] [] m (PM g Y_Mo_heapMany r m')) (fun s x h hp => k_Mo_heapMany_l4 h_this h hp) (0, 0) _ h hp
theorem e_Mo_heapMany {g : GE} {this : Nat} {m : Mem} (h_this : kd this = 12) {x : Int32} (h : Mo_heapMany this m = some x) : Ev g Y_Mo_heapMany [vr this] m (some (vi x)) m :=
  Ev_of 2 (by decide +kernel) rfl (Nat.le_of_ble_eq_true rfl) rfl (k_Mo_heapMany h_this h ⟨rfl, rfl⟩)
theorem k_Mo_round_l7 {g : GE}  {v0 : Int32} {v2 : Int32} {m : Mem} {r : Option AV} {m' : Mem} {x : (Int32) ⊕ (Int32)} (h : Mo_round_l7 v0 v2 m = some x) (hp : (Sum.elim (fun s : Int32 => V g Y_Mo_round 7 [some (vi v0), none, some (vi s)] [] m (PM g Y_Mo_round r m')) (fun x : Int32 => r = some (vi x) ∧ m' = m)) x) : V g Y_Mo_round 7 [some (vi v0), none, some (vi v2)] [] m (PM g Y_Mo_round r m') := by
  unfold Mo_round_l7 at h
  refine V_iload_n (i := 0) (pc := 7) dX11_round_7 rfl rfl ?_
  refine V_iload_n (i := 2) (pc := 8) dX11_round_8 rfl rfl ?_
  obtain ⟨r9, e9, h⟩ := bnd h
  refine V_invS1 (pc := 9) dX11_round_9 (e_Mo_holds  e9) is_Mo_239 (rm_Mo_round_Mo_holds _ _ _) rfl (Nat.le_of_ble_eq_true rfl) rfl ?_
  refine V_if_ne (pc := 12) (tgt := 25) dX11_round_12 rfl (fun q => ?_) (fun q => ?_)
  · have h := ite_f q h
    obtain ⟨y1, hu1, rfl⟩ := up_e h
    have h := hu1
    refine V_iload_n (i := 2) (pc := 25) dX11_round_25 rfl rfl ?_
    obtain rfl := Option.some.inj h
    exact E_i (pc := 26) dX11_round_26 rfl hp
  · have h := ite_t q h
    refine V_iload_n (i := 2) (pc := 15) dX11_round_15 rfl rfl ?_
    refine V_iconst (v := 1) (pc := 16) dX11_round_16 rfl ?_
    refine V_iadd (pc := 17) dX11_round_17 ?_
    refine V_bipush (v := 8) (pc := 18) dX11_round_18 rfl ?_
    refine V_irem (pc := 20) dX11_round_20 (by decide) ?_
    refine V_istore_n (i := 2) (ls' := [some (vi v0), none, some (vi ((v2 + 1) - (v2 + 1) / 8 * 8))]) (pc := 21) dX11_round_21 rfl (Nat.le_of_ble_eq_true rfl) rfl ?_
    refine V_goto (tgt := 7) (pc := 22) dX11_round_22 rfl ?_
    obtain rfl := Option.some.inj h
    exact hp
theorem k_Mo_round {g : GE} {v0 : Int32} {v1 : Int32} {m : Mem} {r : Option AV} {m' : Mem} {x : Int32} (h : Mo_round v0 v1 m = some x) (hp : (fun x : Int32 => r = some (vi x) ∧ m' = m) x) : V g Y_Mo_round 0 [some (vi v0), some (vi v1), none] [] m (PM g Y_Mo_round r m') := by
  unfold Mo_round at h
  refine V_iload_n (i := 1) (pc := 0) dX11_round_0 rfl rfl ?_
  refine V_iconst (v := 1) (pc := 1) dX11_round_1 rfl ?_
  refine V_iadd (pc := 2) dX11_round_2 ?_
  refine V_bipush (v := 8) (pc := 3) dX11_round_3 rfl ?_
  refine V_irem (pc := 5) dX11_round_5 (by decide) ?_
  refine V_istore_n (i := 2) (ls' := [some (vi v0), some (vi v1), some (vi ((v1 + 1) - (v1 + 1) / 8 * 8))]) (pc := 6) dX11_round_6 rfl (Nat.le_of_ble_eq_true rfl) rfl ?_
  refine V_sub (ls' := [some (vi v0), none, some (vi ((v1 + 1) - (v1 + 1) / 8 * 8))]) (And.intro rfl (And.intro rfl trivial)) ?_
  exact loop_V (A := fun s : Int32 => V g Y_Mo_round 7 [some (vi v0), none, some (vi s)] [] m (PM g Y_Mo_round r m')) (fun s x h hp => k_Mo_round_l7  h hp) (((v1 + 1) - (v1 + 1) / 8 * 8)) _ h hp
theorem e_Mo_round {g : GE} {v0 : Int32} {v1 : Int32} {m : Mem} {x : Int32} (h : Mo_round v0 v1 m = some x) : Ev g Y_Mo_round [vi v0, vi v1] m (some (vi x)) m :=
  Ev_of 1 (by decide +kernel) rfl (Nat.le_of_ble_eq_true rfl) rfl (k_Mo_round  h ⟨rfl, rfl⟩)
theorem k_Mo_firstOf {g : GE} {v0 : Int32} {m : Mem} {r : Option AV} {m' : Mem} {x : Int32} (h : Mo_firstOf v0 m = some x) (hp : (fun x : Int32 => r = some (vi x) ∧ m' = m) x) : V g Y_Mo_firstOf 0 [some (vi v0)] [] m (PM g Y_Mo_firstOf r m') := by
  unfold Mo_firstOf at h
  refine V_iload_n (i := 0) (pc := 0) dX11_firstOf_0 rfl rfl ?_
  refine V_bipush (v := 7) (pc := 1) dX11_firstOf_1 rfl ?_
  obtain ⟨r3, e3, h⟩ := bnd h
  refine V_invS1 (pc := 3) dX11_firstOf_3 (e_Mo_round  e3) is_Mo_395 (rm_Mo_firstOf_Mo_round _ _ _) rfl (Nat.le_of_ble_eq_true rfl) rfl ?_
  obtain rfl := Option.some.inj h
  exact E_i (pc := 6) dX11_firstOf_6 rfl hp
theorem e_Mo_firstOf {g : GE} {v0 : Int32} {m : Mem} {x : Int32} (h : Mo_firstOf v0 m = some x) : Ev g Y_Mo_firstOf [vi v0] m (some (vi x)) m :=
  Ev_of 0 (by decide +kernel) rfl (Nat.le_of_ble_eq_true rfl) rfl (k_Mo_firstOf  h ⟨rfl, rfl⟩)
theorem k_Mo_thereSet_b26 {g : GE} {this : Nat} {v2 : Int32} {k0 : Int32} {k1 : Int32}  {m : Mem} (h_this : kd this = 12) {r : Option AV} {m' : Mem} {x : (Int32 × Int32) ⊕ (Int32)} (h : Mo_thereSet_b26 this v2 k0 k1 m = some x) (hp : (Sum.elim (fun s : Int32 × Int32 => V g Y_Mo_thereSet 4 [some (vr this), some (vi s.1), some (vi s.2)] [] m (PM g Y_Mo_thereSet r m')) (fun x : Int32 => r = some (vi x) ∧ m' = m)) x) : V g Y_Mo_thereSet 26 [some (vr this), none, some (vi v2)] [vi k1, vi k0] m (PM g Y_Mo_thereSet r m') := by
  unfold Mo_thereSet_b26 at h
  refine V_ior (pc := 26) dX11_thereSet_26 ?_
  refine V_istore_n (i := 1) (ls' := [some (vr this), some (vi (k0 ||| k1)), some (vi v2)]) (pc := 27) dX11_thereSet_27 rfl (Nat.le_of_ble_eq_true rfl) rfl ?_
  refine V_iinc (i := 2) (v := (v2 + 1)) (ls' := [some (vr this), some (vi (k0 ||| k1)), some (vi (v2 + 1))]) (pc := 28) dX11_thereSet_28 rfl rfl (Nat.le_of_ble_eq_true rfl) rfl ?_
  refine V_goto (tgt := 4) (pc := 31) dX11_thereSet_31 rfl ?_
  obtain rfl := Option.some.inj h
  exact hp
theorem k_Mo_thereSet_l4 {g : GE} {this : Nat}  {v1 : Int32} {v2 : Int32} {m : Mem} (h_this : kd this = 12) {r : Option AV} {m' : Mem} {x : (Int32 × Int32) ⊕ (Int32)} (h : Mo_thereSet_l4 this v1 v2 m = some x) (hp : (Sum.elim (fun s : Int32 × Int32 => V g Y_Mo_thereSet 4 [some (vr this), some (vi s.1), some (vi s.2)] [] m (PM g Y_Mo_thereSet r m')) (fun x : Int32 => r = some (vi x) ∧ m' = m)) x) : V g Y_Mo_thereSet 4 [some (vr this), some (vi v1), some (vi v2)] [] m (PM g Y_Mo_thereSet r m') := by
  unfold Mo_thereSet_l4 at h
  refine V_iload_n (i := 2) (pc := 4) dX11_thereSet_4 rfl rfl ?_
  refine V_bipush (v := 8) (pc := 5) dX11_thereSet_5 rfl ?_
  refine V_icmp_ge (pc := 7) (tgt := 34) dX11_thereSet_7 rfl (fun q => ?_) (fun q => ?_)
  · have h := ite_t q h
    obtain ⟨y1, hu1, rfl⟩ := up_e h
    have h := hu1
    refine V_iload_n (i := 1) (pc := 34) dX11_thereSet_34 rfl rfl ?_
    obtain rfl := Option.some.inj h
    exact E_i (pc := 35) dX11_thereSet_35 rfl hp
  · have h := ite_f q h
    refine V_iload_n (i := 1) (pc := 10) dX11_thereSet_10 rfl rfl ?_
    refine V_aload_n (i := 0) (pc := 11) dX11_thereSet_11 rfl rfl ?_
    refine V_iload_n (i := 2) (pc := 12) dX11_thereSet_12 rfl rfl ?_
    obtain ⟨r13, e13, h⟩ := bnd h
    refine V_invV1 (c := 11) (pc := 13) dX11_thereSet_13 (e_Mo_isThere h_this e13) iv_Mo_288 (rm_Mo_thereSet_Mo_isThere _ _ _) rfl h_this cf_11 rfl (Nat.le_of_ble_eq_true rfl) rfl ?_
    refine V_if_eq (pc := 16) (tgt := 25) dX11_thereSet_16 rfl (fun q => ?_) (fun q => ?_)
    · have h := ite_t q h
      refine V_iconst (v := 0) (pc := 25) dX11_thereSet_25 rfl ?_
      refine V_sub (ls' := [some (vr this), none, some (vi v2)]) (And.intro rfl (And.intro rfl trivial)) ?_
      exact k_Mo_thereSet_b26 h_this h hp
    · have h := ite_f q h
      refine V_iconst (v := 1) (pc := 19) dX11_thereSet_19 rfl ?_
      refine V_iload_n (i := 2) (pc := 20) dX11_thereSet_20 rfl rfl ?_
      refine V_ishl (pc := 21) dX11_thereSet_21 ?_
      refine V_goto (tgt := 26) (pc := 22) dX11_thereSet_22 rfl ?_
      refine V_sub (ls' := [some (vr this), none, some (vi v2)]) (And.intro rfl (And.intro rfl trivial)) ?_
      exact k_Mo_thereSet_b26 h_this h hp
theorem k_Mo_thereSet {g : GE} {this : Nat} {m : Mem} (h_this : kd this = 12) {r : Option AV} {m' : Mem} {x : Int32} (h : Mo_thereSet this m = some x) (hp : (fun x : Int32 => r = some (vi x) ∧ m' = m) x) : V g Y_Mo_thereSet 0 [some (vr this), none, none] [] m (PM g Y_Mo_thereSet r m') := by
  unfold Mo_thereSet at h
  refine V_iconst (v := 0) (pc := 0) dX11_thereSet_0 rfl ?_
  refine V_istore_n (i := 1) (ls' := [some (vr this), some (vi 0), none]) (pc := 1) dX11_thereSet_1 rfl (Nat.le_of_ble_eq_true rfl) rfl ?_
  refine V_iconst (v := 0) (pc := 2) dX11_thereSet_2 rfl ?_
  refine V_istore_n (i := 2) (ls' := [some (vr this), some (vi 0), some (vi 0)]) (pc := 3) dX11_thereSet_3 rfl (Nat.le_of_ble_eq_true rfl) rfl ?_
  exact loop_V (A := fun s : Int32 × Int32 => V g Y_Mo_thereSet 4 [some (vr this), some (vi s.1), some (vi s.2)] [] m (PM g Y_Mo_thereSet r m')) (fun s x h hp => k_Mo_thereSet_l4 h_this h hp) (0, 0) _ h hp
theorem e_Mo_thereSet {g : GE} {this : Nat} {m : Mem} (h_this : kd this = 12) {x : Int32} (h : Mo_thereSet this m = some x) : Ev g Y_Mo_thereSet [vr this] m (some (vi x)) m :=
  Ev_of 2 (by decide +kernel) rfl (Nat.le_of_ble_eq_true rfl) rfl (k_Mo_thereSet h_this h ⟨rfl, rfl⟩)
theorem k_Mo_goesRound_l6 {g : GE} {this : Nat} {v1 : Int32} {v2 : Int32} {v4 : Int32} {v5 : Int32} {m : Mem} (h_this : kd this = 12) {r : Option AV} {m' : Mem} {x : (Int32 × Int32 × Mem) ⊕ (Int32 × Mem)} (h : Mo_goesRound_l6 this v1 v2 v4 v5 m = some x) (hp : (Sum.elim (fun s : Int32 × Int32 × Mem => V g Y_Mo_goesRound 6 [some (vr this), some (vi v1), some (vi v2), none, some (vi s.1), some (vi s.2.1)] [] s.2.2 (PM g Y_Mo_goesRound r m')) (fun x : Int32 × Mem => r = some (vi x.1) ∧ m' = x.2)) x) : V g Y_Mo_goesRound 6 [some (vr this), some (vi v1), some (vi v2), none, some (vi v4), some (vi v5)] [] m (PM g Y_Mo_goesRound r m') := by
  unfold Mo_goesRound_l6 at h
  refine V_iload (i := 5) (pc := 6) dX11_goesRound_6 rfl ?_
  refine V_aload_n (i := 0) (pc := 8) dX11_goesRound_8 rfl rfl ?_
  refine V_iload_n (i := 1) (pc := 9) dX11_goesRound_9 rfl rfl ?_
  refine V_iconst (v := 3) (pc := 10) dX11_goesRound_10 rfl ?_
  obtain ⟨r11, e11, h⟩ := bnd h
  refine V_invV1 (c := 11) (pc := 11) dX11_goesRound_11 (e_Mo_ofSort h_this e11) iv_Mo_297 (rm_Mo_goesRound_Mo_ofSort _ _ _) rfl h_this cf_11 rfl (Nat.le_of_ble_eq_true rfl) rfl ?_
  refine V_icmp_ge (pc := 14) (tgt := 51) dX11_goesRound_14 rfl (fun q => ?_) (fun q => ?_)
  · have h := ite_t q h
    obtain ⟨y1, hu1, rfl⟩ := up_e h
    have h := hu1
    refine V_iload (i := 4) (pc := 51) dX11_goesRound_51 rfl ?_
    obtain rfl := Option.some.inj h
    exact E_i (pc := 53) dX11_goesRound_53 rfl hp
  · have h := ite_f q h
    refine V_aload_n (i := 0) (pc := 17) dX11_goesRound_17 rfl rfl ?_
    refine V_iload (i := 4) (pc := 18) dX11_goesRound_18 rfl ?_
    refine V_iconst (v := 3) (pc := 20) dX11_goesRound_20 rfl ?_
    refine V_iload_n (i := 1) (pc := 21) dX11_goesRound_21 rfl rfl ?_
    refine V_iadd (pc := 22) dX11_goesRound_22 ?_
    refine V_aload_n (i := 0) (pc := 23) dX11_goesRound_23 rfl rfl ?_
    refine V_iload (i := 4) (pc := 24) dX11_goesRound_24 rfl ?_
    refine V_iconst (v := 3) (pc := 26) dX11_goesRound_26 rfl ?_
    refine V_iload_n (i := 1) (pc := 27) dX11_goesRound_27 rfl rfl ?_
    refine V_iadd (pc := 28) dX11_goesRound_28 ?_
    obtain ⟨r29, e29, h⟩ := bnd h
    refine V_invV1 (c := 11) (pc := 29) dX11_goesRound_29 (e_Mo_ofHeap h_this e29) iv_Mo_88 (rm_Mo_goesRound_Mo_ofHeap _ _ _) rfl h_this cf_11 rfl (Nat.le_of_ble_eq_true rfl) rfl ?_
    refine V_iconst (v := 1) (pc := 32) dX11_goesRound_32 rfl ?_
    refine V_iadd (pc := 33) dX11_goesRound_33 ?_
    obtain ⟨m34, e34, h⟩ := bnd h
    refine V_invV0 (c := 11) (pc := 34) dX11_goesRound_34 (e_Mo_setHeap h_this e34) iv_Mo_284 (rm_Mo_goesRound_Mo_setHeap _ _ _) rfl h_this cf_11 rfl (Nat.le_of_ble_eq_true rfl) rfl ?_
    refine V_iload_n (i := 2) (pc := 37) dX11_goesRound_37 rfl rfl ?_
    refine V_iload (i := 4) (pc := 38) dX11_goesRound_38 rfl ?_
    obtain ⟨r40, e40, h⟩ := bnd h
    refine V_invS1 (pc := 40) dX11_goesRound_40 (e_Mo_round  e40) is_Mo_395 (rm_Mo_goesRound_Mo_round _ _ _) rfl (Nat.le_of_ble_eq_true rfl) rfl ?_
    refine V_istore (i := 4) (ls' := [some (vr this), some (vi v1), some (vi v2), none, some (vi r40), some (vi v5)]) (pc := 43) dX11_goesRound_43 (Nat.le_of_ble_eq_true rfl) rfl ?_
    refine V_iinc (i := 5) (v := (v5 + 1)) (ls' := [some (vr this), some (vi v1), some (vi v2), none, some (vi r40), some (vi (v5 + 1))]) (pc := 45) dX11_goesRound_45 rfl rfl (Nat.le_of_ble_eq_true rfl) rfl ?_
    refine V_goto (tgt := 6) (pc := 48) dX11_goesRound_48 rfl ?_
    obtain rfl := Option.some.inj h
    exact hp
theorem k_Mo_goesRound {g : GE} {this : Nat} {v1 : Int32} {v2 : Int32} {v3 : Int32} {m : Mem} (h_this : kd this = 12) {r : Option AV} {m' : Mem} {x : Int32 × Mem} (h : Mo_goesRound this v1 v2 v3 m = some x) (hp : (fun x : Int32 × Mem => r = some (vi x.1) ∧ m' = x.2) x) : V g Y_Mo_goesRound 0 [some (vr this), some (vi v1), some (vi v2), some (vi v3), none, none] [] m (PM g Y_Mo_goesRound r m') := by
  unfold Mo_goesRound at h
  refine V_iload_n (i := 3) (pc := 0) dX11_goesRound_0 rfl rfl ?_
  refine V_istore (i := 4) (ls' := [some (vr this), some (vi v1), some (vi v2), some (vi v3), some (vi v3), none]) (pc := 1) dX11_goesRound_1 (Nat.le_of_ble_eq_true rfl) rfl ?_
  refine V_iconst (v := 0) (pc := 3) dX11_goesRound_3 rfl ?_
  refine V_istore (i := 5) (ls' := [some (vr this), some (vi v1), some (vi v2), some (vi v3), some (vi v3), some (vi 0)]) (pc := 4) dX11_goesRound_4 (Nat.le_of_ble_eq_true rfl) rfl ?_
  refine V_sub (ls' := [some (vr this), some (vi v1), some (vi v2), none, some (vi v3), some (vi 0)]) (And.intro rfl (And.intro rfl (And.intro rfl (And.intro rfl (And.intro rfl trivial))))) ?_
  exact loop_V (A := fun s : Int32 × Int32 × Mem => V g Y_Mo_goesRound 6 [some (vr this), some (vi v1), some (vi v2), none, some (vi s.1), some (vi s.2.1)] [] s.2.2 (PM g Y_Mo_goesRound r m')) (fun s x h hp => k_Mo_goesRound_l6 h_this h hp) (v3, 0, m) _ h hp
theorem e_Mo_goesRound {g : GE} {this : Nat} {v1 : Int32} {v2 : Int32} {v3 : Int32} {m : Mem} (h_this : kd this = 12) {x : Int32 × Mem} (h : Mo_goesRound this v1 v2 v3 m = some x) : Ev g Y_Mo_goesRound [vr this, vi v1, vi v2, vi v3] m (some (vi x.1)) x.2 :=
  Ev_of 2 (by decide +kernel) rfl (Nat.le_of_ble_eq_true rfl) rfl (k_Mo_goesRound h_this h ⟨rfl, rfl⟩)
theorem k_Mo_takeUp_l10 {g : GE} {this : Nat} {v1 : Int32} {v2 : Int32} {m : Mem} (h_this : kd this = 12) {r : Option AV} {m' : Mem} {x : (Int32 × Mem) ⊕ ((Int32 × Mem) ⊕ (Mem))} (h : Mo_takeUp_l10 this v1 v2 m = some x) (hp : (Sum.elim (fun s : Int32 × Mem => V g Y_Mo_takeUp 10 [some (vr this), some (vi v1), some (vi s.1)] [] s.2 (PM g Y_Mo_takeUp r m')) (Sum.elim (fun s : Int32 × Mem => V g Y_Mo_takeUp 2 [some (vr this), some (vi s.1), none] [] s.2 (PM g Y_Mo_takeUp r m')) (fun x : Mem => r = none ∧ m' = x))) x) : V g Y_Mo_takeUp 10 [some (vr this), some (vi v1), some (vi v2)] [] m (PM g Y_Mo_takeUp r m') := by
  unfold Mo_takeUp_l10 at h
  refine V_iload_n (i := 2) (pc := 10) dX11_takeUp_10 rfl rfl ?_
  refine V_bipush (v := 6) (pc := 11) dX11_takeUp_11 rfl ?_
  refine V_icmp_ge (pc := 13) (tgt := 31) dX11_takeUp_13 rfl (fun q => ?_) (fun q => ?_)
  · have h := ite_t q h
    obtain ⟨y2, hu2, rfl⟩ := up_e h
    have h := hu2
    refine V_iinc (i := 1) (v := (v1 + 1)) (ls' := [some (vr this), some (vi (v1 + 1)), some (vi v2)]) (pc := 31) dX11_takeUp_31 rfl rfl (Nat.le_of_ble_eq_true rfl) rfl ?_
    refine V_goto (tgt := 2) (pc := 34) dX11_takeUp_34 rfl ?_
    refine V_sub (ls' := [some (vr this), some (vi (v1 + 1)), none]) (And.intro rfl (And.intro rfl trivial)) ?_
    obtain rfl := Option.some.inj h
    exact hp
  · have h := ite_f q h
    refine V_aload_n (i := 0) (pc := 16) dX11_takeUp_16 rfl rfl ?_
    refine V_iload_n (i := 1) (pc := 17) dX11_takeUp_17 rfl rfl ?_
    refine V_iconst (v := 3) (pc := 18) dX11_takeUp_18 rfl ?_
    refine V_iload_n (i := 2) (pc := 19) dX11_takeUp_19 rfl rfl ?_
    refine V_iadd (pc := 20) dX11_takeUp_20 ?_
    refine V_iconst (v := 0) (pc := 21) dX11_takeUp_21 rfl ?_
    obtain ⟨m22, e22, h⟩ := bnd h
    refine V_invV0 (c := 11) (pc := 22) dX11_takeUp_22 (e_Mo_setHeap h_this e22) iv_Mo_284 (rm_Mo_takeUp_Mo_setHeap _ _ _) rfl h_this cf_11 rfl (Nat.le_of_ble_eq_true rfl) rfl ?_
    refine V_iinc (i := 2) (v := (v2 + 1)) (ls' := [some (vr this), some (vi v1), some (vi (v2 + 1))]) (pc := 25) dX11_takeUp_25 rfl rfl (Nat.le_of_ble_eq_true rfl) rfl ?_
    refine V_goto (tgt := 10) (pc := 28) dX11_takeUp_28 rfl ?_
    obtain rfl := Option.some.inj h
    exact hp
theorem k_Mo_takeUp_l2 {g : GE} {this : Nat}  {v1 : Int32} {m : Mem} (h_this : kd this = 12) {r : Option AV} {m' : Mem} {x : (Int32 × Mem) ⊕ (Mem)} (h : Mo_takeUp_l2 this v1 m = some x) (hp : (Sum.elim (fun s : Int32 × Mem => V g Y_Mo_takeUp 2 [some (vr this), some (vi s.1), none] [] s.2 (PM g Y_Mo_takeUp r m')) (fun x : Mem => r = none ∧ m' = x)) x) : V g Y_Mo_takeUp 2 [some (vr this), some (vi v1), none] [] m (PM g Y_Mo_takeUp r m') := by
  unfold Mo_takeUp_l2 at h
  refine V_iload_n (i := 1) (pc := 2) dX11_takeUp_2 rfl rfl ?_
  refine V_bipush (v := 8) (pc := 3) dX11_takeUp_3 rfl ?_
  refine V_icmp_ge (pc := 5) (tgt := 37) dX11_takeUp_5 rfl (fun q => ?_) (fun q => ?_)
  · have h := ite_t q h
    obtain ⟨y1, hu1, rfl⟩ := up_e h
    have h := hu1
    obtain rfl := Option.some.inj h
    exact E_v (pc := 37) dX11_takeUp_37 rfl hp
  · have h := ite_f q h
    refine V_iconst (v := 0) (pc := 8) dX11_takeUp_8 rfl ?_
    refine V_istore_n (i := 2) (ls' := [some (vr this), some (vi v1), some (vi 0)]) (pc := 9) dX11_takeUp_9 rfl (Nat.le_of_ble_eq_true rfl) rfl ?_
    exact loop_V (A := fun s : Int32 × Mem => V g Y_Mo_takeUp 10 [some (vr this), some (vi v1), some (vi s.1)] [] s.2 (PM g Y_Mo_takeUp r m')) (fun s x h hp => k_Mo_takeUp_l10 h_this h hp) (0, m) _ h hp
theorem k_Mo_takeUp {g : GE} {this : Nat} {m : Mem} (h_this : kd this = 12) {r : Option AV} {m' : Mem} {x : Mem} (h : Mo_takeUp this m = some x) (hp : (fun x : Mem => r = none ∧ m' = x) x) : V g Y_Mo_takeUp 0 [some (vr this), none, none] [] m (PM g Y_Mo_takeUp r m') := by
  unfold Mo_takeUp at h
  refine V_iconst (v := 0) (pc := 0) dX11_takeUp_0 rfl ?_
  refine V_istore_n (i := 1) (ls' := [some (vr this), some (vi 0), none]) (pc := 1) dX11_takeUp_1 rfl (Nat.le_of_ble_eq_true rfl) rfl ?_
  exact loop_V (A := fun s : Int32 × Mem => V g Y_Mo_takeUp 2 [some (vr this), some (vi s.1), none] [] s.2 (PM g Y_Mo_takeUp r m')) (fun s x h hp => k_Mo_takeUp_l2 h_this h hp) (0, m) _ h hp
theorem e_Mo_takeUp {g : GE} {this : Nat} {m : Mem} (h_this : kd this = 12) {x : Mem} (h : Mo_takeUp this m = some x) : Ev g Y_Mo_takeUp [vr this] m (none) x :=
  Ev_of 2 (by decide +kernel) rfl (Nat.le_of_ble_eq_true rfl) rfl (k_Mo_takeUp h_this h ⟨rfl, rfl⟩)
theorem k_Mo_seatHeaps_b52 {g : GE} {this : Nat} {v2 : Int32} {v3 : Int32} {k0 : Int32} {k1 : Int32}  {m : Mem} (h_this : kd this = 12) {r : Option AV} {m' : Mem} {x : (Int32 × Int32) ⊕ ((Int32 × Int32) ⊕ (Int32))} (h : Mo_seatHeaps_b52 this v2 v3 k0 k1 m = some x) (hp : (Sum.elim (fun s : Int32 × Int32 => V g Y_Mo_seatHeaps 12 [some (vr this), some (vi s.1), some (vi v2), some (vi s.2)] [] m (PM g Y_Mo_seatHeaps r m')) (Sum.elim (fun s : Int32 × Int32 => V g Y_Mo_seatHeaps 4 [some (vr this), some (vi s.1), some (vi s.2), none] [] m (PM g Y_Mo_seatHeaps r m')) (fun x : Int32 => r = some (vi x) ∧ m' = m))) x) : V g Y_Mo_seatHeaps 52 [some (vr this), none, some (vi v2), some (vi v3)] [vi k1, vi k0] m (PM g Y_Mo_seatHeaps r m') := by
  unfold Mo_seatHeaps_b52 at h
  refine V_ior (pc := 52) dX11_seatHeaps_52 ?_
  refine V_istore_n (i := 1) (ls' := [some (vr this), some (vi (k0 ||| k1)), some (vi v2), some (vi v3)]) (pc := 53) dX11_seatHeaps_53 rfl (Nat.le_of_ble_eq_true rfl) rfl ?_
  refine V_iinc (i := 3) (v := (v3 + 1)) (ls' := [some (vr this), some (vi (k0 ||| k1)), some (vi v2), some (vi (v3 + 1))]) (pc := 54) dX11_seatHeaps_54 rfl rfl (Nat.le_of_ble_eq_true rfl) rfl ?_
  refine V_goto (tgt := 12) (pc := 57) dX11_seatHeaps_57 rfl ?_
  obtain rfl := Option.some.inj h
  exact hp
theorem k_Mo_seatHeaps_b51 {g : GE} {this : Nat} {v2 : Int32} {v3 : Int32} {k0 : Int32}  {m : Mem} (h_this : kd this = 12) {r : Option AV} {m' : Mem} {x : (Int32 × Int32) ⊕ ((Int32 × Int32) ⊕ (Int32))} (h : Mo_seatHeaps_b51 this v2 v3 k0 m = some x) (hp : (Sum.elim (fun s : Int32 × Int32 => V g Y_Mo_seatHeaps 12 [some (vr this), some (vi s.1), some (vi v2), some (vi s.2)] [] m (PM g Y_Mo_seatHeaps r m')) (Sum.elim (fun s : Int32 × Int32 => V g Y_Mo_seatHeaps 4 [some (vr this), some (vi s.1), some (vi s.2), none] [] m (PM g Y_Mo_seatHeaps r m')) (fun x : Int32 => r = some (vi x) ∧ m' = m))) x) : V g Y_Mo_seatHeaps 51 [some (vr this), none, some (vi v2), some (vi v3)] [vi k0] m (PM g Y_Mo_seatHeaps r m') := by
  unfold Mo_seatHeaps_b51 at h
  refine V_iconst (v := 0) (pc := 51) dX11_seatHeaps_51 rfl ?_
  exact k_Mo_seatHeaps_b52 h_this h hp
theorem k_Mo_seatHeaps_l12 {g : GE} {this : Nat} {v2 : Int32} {v1 : Int32} {v3 : Int32} {m : Mem} (h_this : kd this = 12) {r : Option AV} {m' : Mem} {x : (Int32 × Int32) ⊕ ((Int32 × Int32) ⊕ (Int32))} (h : Mo_seatHeaps_l12 this v2 v1 v3 m = some x) (hp : (Sum.elim (fun s : Int32 × Int32 => V g Y_Mo_seatHeaps 12 [some (vr this), some (vi s.1), some (vi v2), some (vi s.2)] [] m (PM g Y_Mo_seatHeaps r m')) (Sum.elim (fun s : Int32 × Int32 => V g Y_Mo_seatHeaps 4 [some (vr this), some (vi s.1), some (vi s.2), none] [] m (PM g Y_Mo_seatHeaps r m')) (fun x : Int32 => r = some (vi x) ∧ m' = m))) x) : V g Y_Mo_seatHeaps 12 [some (vr this), some (vi v1), some (vi v2), some (vi v3)] [] m (PM g Y_Mo_seatHeaps r m') := by
  unfold Mo_seatHeaps_l12 at h
  refine V_iload_n (i := 3) (pc := 12) dX11_seatHeaps_12 rfl rfl ?_
  refine V_aload_n (i := 0) (pc := 13) dX11_seatHeaps_13 rfl rfl ?_
  refine V_getR (b := (this + 1)) (pc := 14) dX11_seatHeaps_14 fl_Mo_13 h_this rfl rfl ?_
  refine V_bipush (v := 6) (pc := 17) dX11_seatHeaps_17 rfl ?_
  obtain ⟨hg19, h⟩ := gd_e h
  refine V_iald (pc := 19) dX11_seatHeaps_19 (kf_11_1 h_this) (af_11_1 h_this) hg19 ?_
  refine V_icmp_ge (pc := 20) (tgt := 60) dX11_seatHeaps_20 rfl (fun q => ?_) (fun q => ?_)
  · have h := ite_t q h
    obtain ⟨y2, hu2, rfl⟩ := up_e h
    have h := hu2
    refine V_iinc (i := 2) (v := (v2 + 1)) (ls' := [some (vr this), some (vi v1), some (vi (v2 + 1)), some (vi v3)]) (pc := 60) dX11_seatHeaps_60 rfl rfl (Nat.le_of_ble_eq_true rfl) rfl ?_
    refine V_goto (tgt := 4) (pc := 63) dX11_seatHeaps_63 rfl ?_
    refine V_sub (ls' := [some (vr this), some (vi v1), some (vi (v2 + 1)), none]) (And.intro rfl (And.intro rfl (And.intro rfl trivial))) ?_
    obtain rfl := Option.some.inj h
    exact hp
  · have h := ite_f q h
    refine V_iload_n (i := 1) (pc := 23) dX11_seatHeaps_23 rfl rfl ?_
    refine V_aload_n (i := 0) (pc := 24) dX11_seatHeaps_24 rfl rfl ?_
    refine V_iload_n (i := 3) (pc := 25) dX11_seatHeaps_25 rfl rfl ?_
    refine V_iconst (v := 0) (pc := 26) dX11_seatHeaps_26 rfl ?_
    obtain ⟨r27, e27, h⟩ := bnd h
    refine V_invV1 (c := 11) (pc := 27) dX11_seatHeaps_27 (e_Mo_ofSort h_this e27) iv_Mo_297 (rm_Mo_seatHeaps_Mo_ofSort _ _ _) rfl h_this cf_11 rfl (Nat.le_of_ble_eq_true rfl) rfl ?_
    refine V_iconst (v := 2) (pc := 30) dX11_seatHeaps_30 rfl ?_
    refine V_icmp_ne (pc := 31) (tgt := 51) dX11_seatHeaps_31 rfl (fun q => ?_) (fun q => ?_)
    · have h := ite_f q h
      refine V_sub (ls' := [some (vr this), none, some (vi v2), some (vi v3)]) (And.intro rfl (And.intro rfl (And.intro rfl trivial))) ?_
      exact k_Mo_seatHeaps_b51 h_this h hp
    · have h := ite_t q h
      refine V_aload_n (i := 0) (pc := 34) dX11_seatHeaps_34 rfl rfl ?_
      refine V_iload_n (i := 2) (pc := 35) dX11_seatHeaps_35 rfl rfl ?_
      refine V_iconst (v := 3) (pc := 36) dX11_seatHeaps_36 rfl ?_
      refine V_iload_n (i := 3) (pc := 37) dX11_seatHeaps_37 rfl rfl ?_
      refine V_iadd (pc := 38) dX11_seatHeaps_38 ?_
      obtain ⟨r39, e39, h⟩ := bnd h
      refine V_invV1 (c := 11) (pc := 39) dX11_seatHeaps_39 (e_Mo_ofHeap h_this e39) iv_Mo_88 (rm_Mo_seatHeaps_Mo_ofHeap _ _ _) rfl h_this cf_11 rfl (Nat.le_of_ble_eq_true rfl) rfl ?_
      refine V_if_le (pc := 42) (tgt := 51) dX11_seatHeaps_42 rfl (fun q => ?_) (fun q => ?_)
      · have h := ite_t q h
        refine V_sub (ls' := [some (vr this), none, some (vi v2), some (vi v3)]) (And.intro rfl (And.intro rfl (And.intro rfl trivial))) ?_
        exact k_Mo_seatHeaps_b51 h_this h hp
      · have h := ite_f q h
        refine V_iconst (v := 1) (pc := 45) dX11_seatHeaps_45 rfl ?_
        refine V_iload_n (i := 2) (pc := 46) dX11_seatHeaps_46 rfl rfl ?_
        refine V_ishl (pc := 47) dX11_seatHeaps_47 ?_
        refine V_goto (tgt := 52) (pc := 48) dX11_seatHeaps_48 rfl ?_
        refine V_sub (ls' := [some (vr this), none, some (vi v2), some (vi v3)]) (And.intro rfl (And.intro rfl (And.intro rfl trivial))) ?_
        exact k_Mo_seatHeaps_b52 h_this h hp
theorem k_Mo_seatHeaps_l4 {g : GE} {this : Nat}  {v1 : Int32} {v2 : Int32} {m : Mem} (h_this : kd this = 12) {r : Option AV} {m' : Mem} {x : (Int32 × Int32) ⊕ (Int32)} (h : Mo_seatHeaps_l4 this v1 v2 m = some x) (hp : (Sum.elim (fun s : Int32 × Int32 => V g Y_Mo_seatHeaps 4 [some (vr this), some (vi s.1), some (vi s.2), none] [] m (PM g Y_Mo_seatHeaps r m')) (fun x : Int32 => r = some (vi x) ∧ m' = m)) x) : V g Y_Mo_seatHeaps 4 [some (vr this), some (vi v1), some (vi v2), none] [] m (PM g Y_Mo_seatHeaps r m') := by
  unfold Mo_seatHeaps_l4 at h
  refine V_iload_n (i := 2) (pc := 4) dX11_seatHeaps_4 rfl rfl ?_
  refine V_bipush (v := 8) (pc := 5) dX11_seatHeaps_5 rfl ?_
  refine V_icmp_ge (pc := 7) (tgt := 66) dX11_seatHeaps_7 rfl (fun q => ?_) (fun q => ?_)
  · have h := ite_t q h
    obtain ⟨y1, hu1, rfl⟩ := up_e h
    have h := hu1
    refine V_iload_n (i := 1) (pc := 66) dX11_seatHeaps_66 rfl rfl ?_
    refine V_if_ne (pc := 67) (tgt := 77) dX11_seatHeaps_67 rfl (fun q => ?_) (fun q => ?_)
    · have h := ite_f q h
      refine V_iload_n (i := 1) (pc := 77) dX11_seatHeaps_77 rfl rfl ?_
      obtain rfl := Option.some.inj h
      exact E_i (pc := 78) dX11_seatHeaps_78 rfl hp
    · have h := ite_t q h
      refine V_aload_n (i := 0) (pc := 70) dX11_seatHeaps_70 rfl rfl ?_
      obtain ⟨r71, e71, h⟩ := bnd h
      refine V_invV1 (c := 11) (pc := 71) dX11_seatHeaps_71 (e_Mo_thereSet h_this e71) iv_Mo_398 (rm_Mo_seatHeaps_Mo_thereSet _ _ _) rfl h_this cf_11 rfl (Nat.le_of_ble_eq_true rfl) rfl ?_
      refine V_goto (tgt := 78) (pc := 74) dX11_seatHeaps_74 rfl ?_
      obtain rfl := Option.some.inj h
      exact E_i (pc := 78) dX11_seatHeaps_78 rfl hp
  · have h := ite_f q h
    refine V_iconst (v := 0) (pc := 10) dX11_seatHeaps_10 rfl ?_
    refine V_istore_n (i := 3) (ls' := [some (vr this), some (vi v1), some (vi v2), some (vi 0)]) (pc := 11) dX11_seatHeaps_11 rfl (Nat.le_of_ble_eq_true rfl) rfl ?_
    exact loop_V (A := fun s : Int32 × Int32 => V g Y_Mo_seatHeaps 12 [some (vr this), some (vi s.1), some (vi v2), some (vi s.2)] [] m (PM g Y_Mo_seatHeaps r m')) (fun s x h hp => k_Mo_seatHeaps_l12 h_this h hp) (v1, 0) _ h hp
theorem k_Mo_seatHeaps {g : GE} {this : Nat} {m : Mem} (h_this : kd this = 12) {r : Option AV} {m' : Mem} {x : Int32} (h : Mo_seatHeaps this m = some x) (hp : (fun x : Int32 => r = some (vi x) ∧ m' = m) x) : V g Y_Mo_seatHeaps 0 [some (vr this), none, none, none] [] m (PM g Y_Mo_seatHeaps r m') := by
  unfold Mo_seatHeaps at h
  refine V_iconst (v := 0) (pc := 0) dX11_seatHeaps_0 rfl ?_
  refine V_istore_n (i := 1) (ls' := [some (vr this), some (vi 0), none, none]) (pc := 1) dX11_seatHeaps_1 rfl (Nat.le_of_ble_eq_true rfl) rfl ?_
  refine V_iconst (v := 0) (pc := 2) dX11_seatHeaps_2 rfl ?_
  refine V_istore_n (i := 2) (ls' := [some (vr this), some (vi 0), some (vi 0), none]) (pc := 3) dX11_seatHeaps_3 rfl (Nat.le_of_ble_eq_true rfl) rfl ?_
  exact loop_V (A := fun s : Int32 × Int32 => V g Y_Mo_seatHeaps 4 [some (vr this), some (vi s.1), some (vi s.2), none] [] m (PM g Y_Mo_seatHeaps r m')) (fun s x h hp => k_Mo_seatHeaps_l4 h_this h hp) (0, 0) _ h hp
theorem e_Mo_seatHeaps {g : GE} {this : Nat} {m : Mem} (h_this : kd this = 12) {x : Int32} (h : Mo_seatHeaps this m = some x) : Ev g Y_Mo_seatHeaps [vr this] m (some (vi x)) m :=
  Ev_of 3 (by decide +kernel) rfl (Nat.le_of_ble_eq_true rfl) rfl (k_Mo_seatHeaps h_this h ⟨rfl, rfl⟩)
theorem k_Mo_lays_b135 {g : GE} {this : Nat} {v3 : Int32} {v4 : Int32} {v5 : Int32}  {m : Mem} (h_this : kd this = 12) {r : Option AV} {m' : Mem} {x : (Int32 × Int32 × Mem) ⊕ (Mem)} (h : Mo_lays_b135 this v3 v4 v5 m = some x) (hp : (Sum.elim (fun s : Int32 × Int32 × Mem => V g Y_Mo_lays 102 [some (vr this), none, none, some (vi s.1), some (vi v4), some (vi s.2.1)] [] s.2.2 (PM g Y_Mo_lays r m')) (fun x : Mem => r = none ∧ m' = x)) x) : V g Y_Mo_lays 135 [some (vr this), none, none, some (vi v3), some (vi v4), some (vi v5)] [] m (PM g Y_Mo_lays r m') := by
  unfold Mo_lays_b135 at h
  refine V_iinc (i := 5) (v := (v5 + 1)) (ls' := [some (vr this), none, none, some (vi v3), some (vi v4), some (vi (v5 + 1))]) (pc := 135) dX11_lays_135 rfl rfl (Nat.le_of_ble_eq_true rfl) rfl ?_
  refine V_goto (tgt := 102) (pc := 138) dX11_lays_138 rfl ?_
  obtain rfl := Option.some.inj h
  exact hp
theorem k_Mo_lays_l102 {g : GE} {this : Nat} {v4 : Int32} {v3 : Int32} {v5 : Int32} {m : Mem} (h_this : kd this = 12) {r : Option AV} {m' : Mem} {x : (Int32 × Int32 × Mem) ⊕ (Mem)} (h : Mo_lays_l102 this v4 v3 v5 m = some x) (hp : (Sum.elim (fun s : Int32 × Int32 × Mem => V g Y_Mo_lays 102 [some (vr this), none, none, some (vi s.1), some (vi v4), some (vi s.2.1)] [] s.2.2 (PM g Y_Mo_lays r m')) (fun x : Mem => r = none ∧ m' = x)) x) : V g Y_Mo_lays 102 [some (vr this), none, none, some (vi v3), some (vi v4), some (vi v5)] [] m (PM g Y_Mo_lays r m') := by
  unfold Mo_lays_l102 at h
  refine V_iload (i := 5) (pc := 102) dX11_lays_102 rfl ?_
  refine V_aload_n (i := 0) (pc := 104) dX11_lays_104 rfl rfl ?_
  refine V_getR (b := (this + 1)) (pc := 105) dX11_lays_105 fl_Mo_13 h_this rfl rfl ?_
  refine V_bipush (v := 6) (pc := 108) dX11_lays_108 rfl ?_
  obtain ⟨hg110, h⟩ := gd_e h
  refine V_iald (pc := 110) dX11_lays_110 (kf_11_1 h_this) (af_11_1 h_this) hg110 ?_
  refine V_icmp_ge (pc := 111) (tgt := 141) dX11_lays_111 rfl (fun q => ?_) (fun q => ?_)
  · have h := ite_t q h
    obtain ⟨y2, hu2, rfl⟩ := up_e h
    have h := hu2
    obtain rfl := Option.some.inj h
    exact E_v (pc := 141) dX11_lays_141 rfl hp
  · have h := ite_f q h
    refine V_aload_n (i := 0) (pc := 114) dX11_lays_114 rfl rfl ?_
    refine V_iload (i := 5) (pc := 115) dX11_lays_115 rfl ?_
    refine V_iconst (v := 0) (pc := 117) dX11_lays_117 rfl ?_
    obtain ⟨r118, e118, h⟩ := bnd h
    refine V_invV1 (c := 11) (pc := 118) dX11_lays_118 (e_Mo_ofSort h_this e118) iv_Mo_297 (rm_Mo_lays_Mo_ofSort _ _ _) rfl h_this cf_11 rfl (Nat.le_of_ble_eq_true rfl) rfl ?_
    refine V_iconst (v := 2) (pc := 121) dX11_lays_121 rfl ?_
    refine V_icmp_eq (pc := 122) (tgt := 135) dX11_lays_122 rfl (fun q => ?_) (fun q => ?_)
    · have h := ite_t q h
      exact k_Mo_lays_b135 h_this h hp
    · have h := ite_f q h
      refine V_aload_n (i := 0) (pc := 125) dX11_lays_125 rfl rfl ?_
      refine V_iload (i := 5) (pc := 126) dX11_lays_126 rfl ?_
      refine V_iload (i := 4) (pc := 128) dX11_lays_128 rfl ?_
      refine V_iload_n (i := 3) (pc := 130) dX11_lays_130 rfl rfl ?_
      obtain ⟨r131, e131, h⟩ := bnd h
      refine V_invV1 (c := 11) (pc := 131) dX11_lays_131 (e_Mo_goesRound h_this e131) iv_Mo_407 (rm_Mo_lays_Mo_goesRound _ _ _) rfl h_this cf_11 rfl (Nat.le_of_ble_eq_true rfl) rfl ?_
      refine V_istore_n (i := 3) (ls' := [some (vr this), none, none, some (vi r131.1), some (vi v4), some (vi v5)]) (pc := 134) dX11_lays_134 rfl (Nat.le_of_ble_eq_true rfl) rfl ?_
      exact k_Mo_lays_b135 h_this h hp
theorem k_Mo_lays_b75 {g : GE} {this : Nat} {v1 : Int32} {v2 : Int32} {v3 : Int32} {v4 : Int32}  {m : Mem} (h_this : kd this = 12) {r : Option AV} {m' : Mem} {x : (Int32 × Int32 × Mem) ⊕ (Mem)} (h : Mo_lays_b75 this v1 v2 v3 v4 m = some x) (hp : (Sum.elim (fun s : Int32 × Int32 × Mem => V g Y_Mo_lays 12 [some (vr this), some (vi v1), some (vi v2), some (vi s.1), some (vi s.2.1), none] [] s.2.2 (PM g Y_Mo_lays r m')) (fun x : Mem => r = none ∧ m' = x)) x) : V g Y_Mo_lays 75 [some (vr this), some (vi v1), some (vi v2), some (vi v3), some (vi v4), none] [] m (PM g Y_Mo_lays r m') := by
  unfold Mo_lays_b75 at h
  refine V_iinc (i := 4) (v := (v4 + 1)) (ls' := [some (vr this), some (vi v1), some (vi v2), some (vi v3), some (vi (v4 + 1)), none]) (pc := 75) dX11_lays_75 rfl rfl (Nat.le_of_ble_eq_true rfl) rfl ?_
  refine V_goto (tgt := 12) (pc := 78) dX11_lays_78 rfl ?_
  obtain rfl := Option.some.inj h
  exact hp
theorem k_Mo_lays_b70 {g : GE} {this : Nat} {v1 : Int32} {v2 : Int32} {v3 : Int32} {v4 : Int32} {k1 : Int32} {k2 : Int32}  {m : Mem} (h_this : kd this = 12) {r : Option AV} {m' : Mem} {x : (Int32 × Int32 × Mem) ⊕ (Mem)} (h : Mo_lays_b70 this v1 v2 v3 v4 k1 k2 m = some x) (hp : (Sum.elim (fun s : Int32 × Int32 × Mem => V g Y_Mo_lays 12 [some (vr this), some (vi v1), some (vi v2), some (vi s.1), some (vi s.2.1), none] [] s.2.2 (PM g Y_Mo_lays r m')) (fun x : Mem => r = none ∧ m' = x)) x) : V g Y_Mo_lays 70 [some (vr this), some (vi v1), some (vi v2), some (vi v3), some (vi v4), none] [vi k2, vi k1, vr this] m (PM g Y_Mo_lays r m') := by
  unfold Mo_lays_b70 at h
  refine V_iload_n (i := 3) (pc := 70) dX11_lays_70 rfl rfl ?_
  obtain ⟨r71, e71, h⟩ := bnd h
  refine V_invV1 (c := 11) (pc := 71) dX11_lays_71 (e_Mo_goesRound h_this e71) iv_Mo_407 (rm_Mo_lays_Mo_goesRound _ _ _) rfl h_this cf_11 rfl (Nat.le_of_ble_eq_true rfl) rfl ?_
  refine V_istore_n (i := 3) (ls' := [some (vr this), some (vi v1), some (vi v2), some (vi r71.1), some (vi v4), none]) (pc := 74) dX11_lays_74 rfl (Nat.le_of_ble_eq_true rfl) rfl ?_
  exact k_Mo_lays_b75 h_this h hp
theorem k_Mo_lays_b53 {g : GE} {this : Nat} {v1 : Int32} {v2 : Int32} {v3 : Int32} {v4 : Int32}  {m : Mem} (h_this : kd this = 12) {r : Option AV} {m' : Mem} {x : (Int32 × Int32 × Mem) ⊕ (Mem)} (h : Mo_lays_b53 this v1 v2 v3 v4 m = some x) (hp : (Sum.elim (fun s : Int32 × Int32 × Mem => V g Y_Mo_lays 12 [some (vr this), some (vi v1), some (vi v2), some (vi s.1), some (vi s.2.1), none] [] s.2.2 (PM g Y_Mo_lays r m')) (fun x : Mem => r = none ∧ m' = x)) x) : V g Y_Mo_lays 53 [some (vr this), some (vi v1), some (vi v2), some (vi v3), some (vi v4), none] [] m (PM g Y_Mo_lays r m') := by
  unfold Mo_lays_b53 at h
  refine V_aload_n (i := 0) (pc := 53) dX11_lays_53 rfl rfl ?_
  refine V_iload (i := 4) (pc := 54) dX11_lays_54 rfl ?_
  refine V_iload_n (i := 1) (pc := 56) dX11_lays_56 rfl rfl ?_
  refine V_if_ne (pc := 57) (tgt := 69) dX11_lays_57 rfl (fun q => ?_) (fun q => ?_)
  · have h := ite_f q h
    refine V_iload_n (i := 2) (pc := 69) dX11_lays_69 rfl rfl ?_
    exact k_Mo_lays_b70 h_this h hp
  · have h := ite_t q h
    refine V_iconst (v := 1) (pc := 60) dX11_lays_60 rfl ?_
    refine V_iload_n (i := 2) (pc := 61) dX11_lays_61 rfl rfl ?_
    obtain ⟨r62, e62, h⟩ := bnd h
    refine V_invS1 (pc := 62) dX11_lays_62 (e_Mo_firstOf  e62) is_Mo_404 (rm_Mo_lays_Mo_firstOf _ _ _) rfl (Nat.le_of_ble_eq_true rfl) rfl ?_
    refine V_ishl (pc := 65) dX11_lays_65 ?_
    refine V_goto (tgt := 70) (pc := 66) dX11_lays_66 rfl ?_
    exact k_Mo_lays_b70 h_this h hp
theorem k_Mo_lays_b43 {g : GE} {this : Nat} {v1 : Int32} {v2 : Int32} {v3 : Int32} {v4 : Int32}  {m : Mem} (h_this : kd this = 12) {r : Option AV} {m' : Mem} {x : (Int32 × Int32 × Mem) ⊕ (Mem)} (h : Mo_lays_b43 this v1 v2 v3 v4 m = some x) (hp : (Sum.elim (fun s : Int32 × Int32 × Mem => V g Y_Mo_lays 12 [some (vr this), some (vi v1), some (vi v2), some (vi s.1), some (vi s.2.1), none] [] s.2.2 (PM g Y_Mo_lays r m')) (fun x : Mem => r = none ∧ m' = x)) x) : V g Y_Mo_lays 43 [some (vr this), some (vi v1), some (vi v2), some (vi v3), some (vi v4), none] [] m (PM g Y_Mo_lays r m') := by
  unfold Mo_lays_b43 at h
  refine V_iload_n (i := 1) (pc := 43) dX11_lays_43 rfl rfl ?_
  refine V_iconst (v := 2) (pc := 44) dX11_lays_44 rfl ?_
  refine V_icmp_ne (pc := 45) (tgt := 53) dX11_lays_45 rfl (fun q => ?_) (fun q => ?_)
  · have h := ite_f q h
    exact k_Mo_lays_b53 h_this h hp
  · have h := ite_t q h
    refine V_iload_n (i := 2) (pc := 48) dX11_lays_48 rfl rfl ?_
    obtain ⟨r49, e49, h⟩ := bnd h
    refine V_invS1 (pc := 49) dX11_lays_49 (e_Mo_firstOf  e49) is_Mo_404 (rm_Mo_lays_Mo_firstOf _ _ _) rfl (Nat.le_of_ble_eq_true rfl) rfl ?_
    refine V_istore_n (i := 3) (ls' := [some (vr this), some (vi v1), some (vi v2), some (vi r49), some (vi v4), none]) (pc := 52) dX11_lays_52 rfl (Nat.le_of_ble_eq_true rfl) rfl ?_
    exact k_Mo_lays_b53 h_this h hp
theorem k_Mo_lays_l12 {g : GE} {this : Nat} {v1 : Int32} {v2 : Int32} {v3 : Int32} {v4 : Int32} {m : Mem} (h_this : kd this = 12) {r : Option AV} {m' : Mem} {x : (Int32 × Int32 × Mem) ⊕ (Mem)} (h : Mo_lays_l12 this v1 v2 v3 v4 m = some x) (hp : (Sum.elim (fun s : Int32 × Int32 × Mem => V g Y_Mo_lays 12 [some (vr this), some (vi v1), some (vi v2), some (vi s.1), some (vi s.2.1), none] [] s.2.2 (PM g Y_Mo_lays r m')) (fun x : Mem => r = none ∧ m' = x)) x) : V g Y_Mo_lays 12 [some (vr this), some (vi v1), some (vi v2), some (vi v3), some (vi v4), none] [] m (PM g Y_Mo_lays r m') := by
  unfold Mo_lays_l12 at h
  refine V_iload (i := 4) (pc := 12) dX11_lays_12 rfl ?_
  refine V_aload_n (i := 0) (pc := 14) dX11_lays_14 rfl rfl ?_
  refine V_getR (b := (this + 1)) (pc := 15) dX11_lays_15 fl_Mo_13 h_this rfl rfl ?_
  refine V_bipush (v := 6) (pc := 18) dX11_lays_18 rfl ?_
  obtain ⟨hg20, h⟩ := gd_e h
  refine V_iald (pc := 20) dX11_lays_20 (kf_11_1 h_this) (af_11_1 h_this) hg20 ?_
  refine V_icmp_ge (pc := 21) (tgt := 81) dX11_lays_21 rfl (fun q => ?_) (fun q => ?_)
  · have h := ite_t q h
    obtain ⟨y1, hu1, rfl⟩ := up_e h
    have h := hu1
    refine V_iload_n (i := 1) (pc := 81) dX11_lays_81 rfl rfl ?_
    refine V_iconst (v := 3) (pc := 82) dX11_lays_82 rfl ?_
    refine V_icmp_eq (pc := 83) (tgt := 87) dX11_lays_83 rfl (fun q => ?_) (fun q => ?_)
    · have h := ite_t q h
      refine V_aload_n (i := 0) (pc := 87) dX11_lays_87 rfl rfl ?_
      obtain ⟨r88, e88, h⟩ := bnd h
      refine V_invV1 (c := 11) (pc := 88) dX11_lays_88 (e_Mo_seatHeaps h_this e88) iv_Mo_410 (rm_Mo_lays_Mo_seatHeaps _ _ _) rfl h_this cf_11 rfl (Nat.le_of_ble_eq_true rfl) rfl ?_
      refine V_istore (i := 4) (ls' := [some (vr this), some (vi v1), some (vi v2), some (vi v3), some (vi r88), none]) (pc := 91) dX11_lays_91 (Nat.le_of_ble_eq_true rfl) rfl ?_
      refine V_iload (i := 4) (pc := 93) dX11_lays_93 rfl ?_
      obtain ⟨r95, e95, h⟩ := bnd h
      refine V_invS1 (pc := 95) dX11_lays_95 (e_Mo_firstOf  e95) is_Mo_404 (rm_Mo_lays_Mo_firstOf _ _ _) rfl (Nat.le_of_ble_eq_true rfl) rfl ?_
      refine V_istore_n (i := 3) (ls' := [some (vr this), some (vi v1), some (vi v2), some (vi r95), some (vi r88), none]) (pc := 98) dX11_lays_98 rfl (Nat.le_of_ble_eq_true rfl) rfl ?_
      refine V_iconst (v := 0) (pc := 99) dX11_lays_99 rfl ?_
      refine V_istore (i := 5) (ls' := [some (vr this), some (vi v1), some (vi v2), some (vi r95), some (vi r88), some (vi 0)]) (pc := 100) dX11_lays_100 (Nat.le_of_ble_eq_true rfl) rfl ?_
      refine V_sub (ls' := [some (vr this), none, none, some (vi r95), some (vi r88), some (vi 0)]) (And.intro rfl (And.intro rfl (And.intro rfl (And.intro rfl trivial)))) ?_
      exact loop_V (A := fun s : Int32 × Int32 × Mem => V g Y_Mo_lays 102 [some (vr this), none, none, some (vi s.1), some (vi r88), some (vi s.2.1)] [] s.2.2 (PM g Y_Mo_lays r m')) (fun s x h hp => k_Mo_lays_l102 h_this h hp) (r95, 0, m) _ h hp
    · have h := ite_f q h
      obtain rfl := Option.some.inj h
      exact E_v (pc := 86) dX11_lays_86 rfl hp
  · have h := ite_f q h
    refine V_iload_n (i := 1) (pc := 24) dX11_lays_24 rfl rfl ?_
    refine V_iconst (v := 3) (pc := 25) dX11_lays_25 rfl ?_
    refine V_icmp_ne (pc := 26) (tgt := 43) dX11_lays_26 rfl (fun q => ?_) (fun q => ?_)
    · have h := ite_f q h
      exact k_Mo_lays_b43 h_this h hp
    · have h := ite_t q h
      refine V_aload_n (i := 0) (pc := 29) dX11_lays_29 rfl rfl ?_
      refine V_iload (i := 4) (pc := 30) dX11_lays_30 rfl ?_
      refine V_iconst (v := 0) (pc := 32) dX11_lays_32 rfl ?_
      obtain ⟨r33, e33, h⟩ := bnd h
      refine V_invV1 (c := 11) (pc := 33) dX11_lays_33 (e_Mo_ofSort h_this e33) iv_Mo_297 (rm_Mo_lays_Mo_ofSort _ _ _) rfl h_this cf_11 rfl (Nat.le_of_ble_eq_true rfl) rfl ?_
      refine V_iconst (v := 2) (pc := 36) dX11_lays_36 rfl ?_
      refine V_icmp_eq (pc := 37) (tgt := 43) dX11_lays_37 rfl (fun q => ?_) (fun q => ?_)
      · have h := ite_t q h
        exact k_Mo_lays_b43 h_this h hp
      · have h := ite_f q h
        refine V_goto (tgt := 75) (pc := 40) dX11_lays_40 rfl ?_
        exact k_Mo_lays_b75 h_this h hp
theorem k_Mo_lays {g : GE} {this : Nat} {v1 : Int32} {v2 : Int32} {m : Mem} (h_this : kd this = 12) {r : Option AV} {m' : Mem} {x : Mem} (h : Mo_lays this v1 v2 m = some x) (hp : (fun x : Mem => r = none ∧ m' = x) x) : V g Y_Mo_lays 0 [some (vr this), some (vi v1), some (vi v2), none, none, none] [] m (PM g Y_Mo_lays r m') := by
  unfold Mo_lays at h
  refine V_aload_n (i := 0) (pc := 0) dX11_lays_0 rfl rfl ?_
  obtain ⟨m1, e1, h⟩ := bnd h
  refine V_invV0 (c := 11) (pc := 1) dX11_lays_1 (e_Mo_takeUp h_this e1) iv_Mo_401 (rm_Mo_lays_Mo_takeUp _ _ _) rfl h_this cf_11 rfl (Nat.le_of_ble_eq_true rfl) rfl ?_
  refine V_iload_n (i := 2) (pc := 4) dX11_lays_4 rfl rfl ?_
  obtain ⟨r5, e5, h⟩ := bnd h
  refine V_invS1 (pc := 5) dX11_lays_5 (e_Mo_firstOf  e5) is_Mo_404 (rm_Mo_lays_Mo_firstOf _ _ _) rfl (Nat.le_of_ble_eq_true rfl) rfl ?_
  refine V_istore_n (i := 3) (ls' := [some (vr this), some (vi v1), some (vi v2), some (vi r5), none, none]) (pc := 8) dX11_lays_8 rfl (Nat.le_of_ble_eq_true rfl) rfl ?_
  refine V_iconst (v := 0) (pc := 9) dX11_lays_9 rfl ?_
  refine V_istore (i := 4) (ls' := [some (vr this), some (vi v1), some (vi v2), some (vi r5), some (vi 0), none]) (pc := 10) dX11_lays_10 (Nat.le_of_ble_eq_true rfl) rfl ?_
  exact loop_V (A := fun s : Int32 × Int32 × Mem => V g Y_Mo_lays 12 [some (vr this), some (vi v1), some (vi v2), some (vi s.1), some (vi s.2.1), none] [] s.2.2 (PM g Y_Mo_lays r m')) (fun s x h hp => k_Mo_lays_l12 h_this h hp) (r5, 0, m1) _ h hp
theorem e_Mo_lays {g : GE} {this : Nat} {v1 : Int32} {v2 : Int32} {m : Mem} (h_this : kd this = 12) {x : Mem} (h : Mo_lays this v1 v2 m = some x) : Ev g Y_Mo_lays [vr this, vi v1, vi v2] m (none) x :=
  Ev_of 3 (by decide +kernel) rfl (Nat.le_of_ble_eq_true rfl) rfl (k_Mo_lays h_this h ⟨rfl, rfl⟩)
theorem k_Mo_lay_b95 {g : GE} {this : Nat} {v3 : Int32} {k0 : Int32} {k1 : Int32}  {m : Mem} (h_this : kd this = 12) {r : Option AV} {m' : Mem} {x : (Int32 × Int32) ⊕ (Int32 × Mem)} (h : Mo_lay_b95 this v3 k0 k1 m = some x) (hp : (Sum.elim (fun s : Int32 × Int32 => V g Y_Mo_lay 45 [some (vr this), none, some (vi s.1), some (vi s.2), none, none] [] m (PM g Y_Mo_lay r m')) (fun x : Int32 × Mem => r = some (vi x.1) ∧ m' = x.2)) x) : V g Y_Mo_lay 95 [some (vr this), none, none, some (vi v3), none, none] [vi k1, vi k0] m (PM g Y_Mo_lay r m') := by
  unfold Mo_lay_b95 at h
  refine V_iadd (pc := 95) dX11_lay_95 ?_
  refine V_istore_n (i := 2) (ls' := [some (vr this), none, some (vi (k0 + k1)), some (vi v3), none, none]) (pc := 96) dX11_lay_96 rfl (Nat.le_of_ble_eq_true rfl) rfl ?_
  refine V_iinc (i := 3) (v := (v3 + 1)) (ls' := [some (vr this), none, some (vi (k0 + k1)), some (vi (v3 + 1)), none, none]) (pc := 97) dX11_lay_97 rfl rfl (Nat.le_of_ble_eq_true rfl) rfl ?_
  refine V_goto (tgt := 45) (pc := 100) dX11_lay_100 rfl ?_
  obtain rfl := Option.some.inj h
  exact hp
theorem k_Mo_lay_l57 {g : GE} {this : Nat} {v2 : Int32} {v3 : Int32} {v4 : Int32} {v5 : Int32} {m : Mem} (h_this : kd this = 12) {r : Option AV} {m' : Mem} {x : (Int32 × Int32) ⊕ ((Int32 × Int32) ⊕ (Int32 × Mem))} (h : Mo_lay_l57 this v2 v3 v4 v5 m = some x) (hp : (Sum.elim (fun s : Int32 × Int32 => V g Y_Mo_lay 57 [some (vr this), none, some (vi v2), some (vi v3), some (vi s.1), some (vi s.2)] [] m (PM g Y_Mo_lay r m')) (Sum.elim (fun s : Int32 × Int32 => V g Y_Mo_lay 45 [some (vr this), none, some (vi s.1), some (vi s.2), none, none] [] m (PM g Y_Mo_lay r m')) (fun x : Int32 × Mem => r = some (vi x.1) ∧ m' = x.2))) x) : V g Y_Mo_lay 57 [some (vr this), none, some (vi v2), some (vi v3), some (vi v4), some (vi v5)] [] m (PM g Y_Mo_lay r m') := by
  unfold Mo_lay_l57 at h
  refine V_iload (i := 5) (pc := 57) dX11_lay_57 rfl ?_
  refine V_bipush (v := 6) (pc := 59) dX11_lay_59 rfl ?_
  refine V_icmp_ge (pc := 61) (tgt := 84) dX11_lay_61 rfl (fun q => ?_) (fun q => ?_)
  · have h := ite_t q h
    obtain ⟨y2, hu2, rfl⟩ := up_e h
    have h := hu2
    refine V_iload_n (i := 2) (pc := 84) dX11_lay_84 rfl rfl ?_
    refine V_iload (i := 4) (pc := 85) dX11_lay_85 rfl ?_
    refine V_if_le (pc := 87) (tgt := 94) dX11_lay_87 rfl (fun q => ?_) (fun q => ?_)
    · have h := ite_t q h
      refine V_iconst (v := 0) (pc := 94) dX11_lay_94 rfl ?_
      refine V_sub (ls' := [some (vr this), none, none, some (vi v3), none, none]) (And.intro rfl (And.intro rfl trivial)) ?_
      exact k_Mo_lay_b95 h_this h hp
    · have h := ite_f q h
      refine V_iconst (v := 1) (pc := 90) dX11_lay_90 rfl ?_
      refine V_goto (tgt := 95) (pc := 91) dX11_lay_91 rfl ?_
      refine V_sub (ls' := [some (vr this), none, none, some (vi v3), none, none]) (And.intro rfl (And.intro rfl trivial)) ?_
      exact k_Mo_lay_b95 h_this h hp
  · have h := ite_f q h
    refine V_iload (i := 4) (pc := 64) dX11_lay_64 rfl ?_
    refine V_aload_n (i := 0) (pc := 66) dX11_lay_66 rfl rfl ?_
    refine V_iload_n (i := 3) (pc := 67) dX11_lay_67 rfl rfl ?_
    refine V_iconst (v := 3) (pc := 68) dX11_lay_68 rfl ?_
    refine V_iload (i := 5) (pc := 69) dX11_lay_69 rfl ?_
    refine V_iadd (pc := 71) dX11_lay_71 ?_
    obtain ⟨r72, e72, h⟩ := bnd h
    refine V_invV1 (c := 11) (pc := 72) dX11_lay_72 (e_Mo_ofHeap h_this e72) iv_Mo_88 (rm_Mo_lay_Mo_ofHeap _ _ _) rfl h_this cf_11 rfl (Nat.le_of_ble_eq_true rfl) rfl ?_
    refine V_iadd (pc := 75) dX11_lay_75 ?_
    refine V_istore (i := 4) (ls' := [some (vr this), none, some (vi v2), some (vi v3), some (vi (v4 + r72)), some (vi v5)]) (pc := 76) dX11_lay_76 (Nat.le_of_ble_eq_true rfl) rfl ?_
    refine V_iinc (i := 5) (v := (v5 + 1)) (ls' := [some (vr this), none, some (vi v2), some (vi v3), some (vi (v4 + r72)), some (vi (v5 + 1))]) (pc := 78) dX11_lay_78 rfl rfl (Nat.le_of_ble_eq_true rfl) rfl ?_
    refine V_goto (tgt := 57) (pc := 81) dX11_lay_81 rfl ?_
    obtain rfl := Option.some.inj h
    exact hp
theorem k_Mo_lay_l45 {g : GE} {this : Nat}  {v2 : Int32} {v3 : Int32} {m : Mem} (h_this : kd this = 12) {r : Option AV} {m' : Mem} {x : (Int32 × Int32) ⊕ (Int32 × Mem)} (h : Mo_lay_l45 this v2 v3 m = some x) (hp : (Sum.elim (fun s : Int32 × Int32 => V g Y_Mo_lay 45 [some (vr this), none, some (vi s.1), some (vi s.2), none, none] [] m (PM g Y_Mo_lay r m')) (fun x : Int32 × Mem => r = some (vi x.1) ∧ m' = x.2)) x) : V g Y_Mo_lay 45 [some (vr this), none, some (vi v2), some (vi v3), none, none] [] m (PM g Y_Mo_lay r m') := by
  unfold Mo_lay_l45 at h
  refine V_iload_n (i := 3) (pc := 45) dX11_lay_45 rfl rfl ?_
  refine V_bipush (v := 8) (pc := 46) dX11_lay_46 rfl ?_
  refine V_icmp_ge (pc := 48) (tgt := 103) dX11_lay_48 rfl (fun q => ?_) (fun q => ?_)
  · have h := ite_t q h
    obtain ⟨y1, hu1, rfl⟩ := up_e h
    have h := hu1
    refine V_iload_n (i := 2) (pc := 103) dX11_lay_103 rfl rfl ?_
    obtain rfl := Option.some.inj h
    exact E_i (pc := 104) dX11_lay_104 rfl hp
  · have h := ite_f q h
    refine V_iconst (v := 0) (pc := 51) dX11_lay_51 rfl ?_
    refine V_istore (i := 4) (ls' := [some (vr this), none, some (vi v2), some (vi v3), some (vi 0), none]) (pc := 52) dX11_lay_52 (Nat.le_of_ble_eq_true rfl) rfl ?_
    refine V_iconst (v := 0) (pc := 54) dX11_lay_54 rfl ?_
    refine V_istore (i := 5) (ls' := [some (vr this), none, some (vi v2), some (vi v3), some (vi 0), some (vi 0)]) (pc := 55) dX11_lay_55 (Nat.le_of_ble_eq_true rfl) rfl ?_
    exact loop_V (A := fun s : Int32 × Int32 => V g Y_Mo_lay 57 [some (vr this), none, some (vi v2), some (vi v3), some (vi s.1), some (vi s.2)] [] m (PM g Y_Mo_lay r m')) (fun s x h hp => k_Mo_lay_l57 h_this h hp) (0, 0) _ h hp
theorem k_Mo_lay {g : GE} {this : Nat} {v1 : Int32} {m : Mem} (h_this : kd this = 12) {r : Option AV} {m' : Mem} {x : Int32 × Mem} (h : Mo_lay this v1 m = some x) (hp : (fun x : Int32 × Mem => r = some (vi x.1) ∧ m' = x.2) x) : V g Y_Mo_lay 0 [some (vr this), some (vi v1), none, none, none, none] [] m (PM g Y_Mo_lay r m') := by
  unfold Mo_lay at h
  refine V_aload_n (i := 0) (pc := 0) dX11_lay_0 rfl rfl ?_
  obtain ⟨r1, e1, h⟩ := bnd h
  refine V_invV1 (c := 11) (pc := 1) dX11_lay_1 (e_Mo_isFloe h_this e1) iv_Mo_271 (rm_Mo_lay_Mo_isFloe _ _ _) rfl h_this cf_11 rfl (Nat.le_of_ble_eq_true rfl) rfl ?_
  refine V_if_eq (pc := 4) (tgt := 19) dX11_lay_4 rfl (fun q => ?_) (fun q => ?_)
  · have h := ite_t q h
    refine V_bipush (v := (-2)) (pc := 19) dX11_lay_19 rfl ?_
    obtain rfl := Option.some.inj h
    exact E_i (pc := 21) dX11_lay_21 rfl hp
  · have h := ite_f q h
    refine V_iload_n (i := 1) (pc := 7) dX11_lay_7 rfl rfl ?_
    refine V_i2l (pc := 8) dX11_lay_8 ?_
    refine V_lconst (v := 0) (pc := 9) dX11_lay_9 rfl ?_
    refine V_ldc2 (v := 3) (pc := 10) dX11_lay_10 con_Mo_269 ?_
    obtain ⟨r13, e13, h⟩ := bnd h
    refine V_invS1 (pc := 13) dX11_lay_13 (e_Mo_in  e13) is_Mo_84 (rm_Mo_lay_Mo_in _ _ _) rfl (Nat.le_of_ble_eq_true rfl) rfl ?_
    refine V_if_ne (pc := 16) (tgt := 22) dX11_lay_16 rfl (fun q => ?_) (fun q => ?_)
    · have h := ite_f q h
      refine V_aload_n (i := 0) (pc := 22) dX11_lay_22 rfl rfl ?_
      obtain ⟨r23, e23, h⟩ := bnd h
      refine V_invV1 (c := 11) (pc := 23) dX11_lay_23 (e_Mo_heapMany h_this e23) iv_Mo_413 (rm_Mo_lay_Mo_heapMany _ _ _) rfl h_this cf_11 rfl (Nat.le_of_ble_eq_true rfl) rfl ?_
      refine V_if_ne (pc := 26) (tgt := 32) dX11_lay_26 rfl (fun q => ?_) (fun q => ?_)
      · have h := ite_f q h
        refine V_aload_n (i := 0) (pc := 32) dX11_lay_32 rfl rfl ?_
        refine V_iload_n (i := 1) (pc := 33) dX11_lay_33 rfl rfl ?_
        refine V_aload_n (i := 0) (pc := 34) dX11_lay_34 rfl rfl ?_
        obtain ⟨r35, e35, h⟩ := bnd h
        refine V_invV1 (c := 11) (pc := 35) dX11_lay_35 (e_Mo_thereSet h_this e35) iv_Mo_398 (rm_Mo_lay_Mo_thereSet _ _ _) rfl h_this cf_11 rfl (Nat.le_of_ble_eq_true rfl) rfl ?_
        obtain ⟨m38, e38, h⟩ := bnd h
        refine V_invV0 (c := 11) (pc := 38) dX11_lay_38 (e_Mo_lays h_this e38) iv_Mo_416 (rm_Mo_lay_Mo_lays _ _ _) rfl h_this cf_11 rfl (Nat.le_of_ble_eq_true rfl) rfl ?_
        refine V_iconst (v := 0) (pc := 41) dX11_lay_41 rfl ?_
        refine V_istore_n (i := 2) (ls' := [some (vr this), some (vi v1), some (vi 0), none, none, none]) (pc := 42) dX11_lay_42 rfl (Nat.le_of_ble_eq_true rfl) rfl ?_
        refine V_iconst (v := 0) (pc := 43) dX11_lay_43 rfl ?_
        refine V_istore_n (i := 3) (ls' := [some (vr this), some (vi v1), some (vi 0), some (vi 0), none, none]) (pc := 44) dX11_lay_44 rfl (Nat.le_of_ble_eq_true rfl) rfl ?_
        refine V_sub (ls' := [some (vr this), none, some (vi 0), some (vi 0), none, none]) (And.intro rfl (And.intro rfl (And.intro rfl trivial))) ?_
        exact loop_V (A := fun s : Int32 × Int32 => V g Y_Mo_lay 45 [some (vr this), none, some (vi s.1), some (vi s.2), none, none] [] m38 (PM g Y_Mo_lay r m')) (fun s x h hp => k_Mo_lay_l45 h_this h hp) (0, 0) _ h hp
      · have h := ite_t q h
        refine V_bipush (v := (-5)) (pc := 29) dX11_lay_29 rfl ?_
        obtain rfl := Option.some.inj h
        exact E_i (pc := 31) dX11_lay_31 rfl hp
    · have h := ite_t q h
      refine V_bipush (v := (-2)) (pc := 19) dX11_lay_19 rfl ?_
      obtain rfl := Option.some.inj h
      exact E_i (pc := 21) dX11_lay_21 rfl hp
theorem e_Mo_lay {g : GE} {this : Nat} {v1 : Int32} {m : Mem} (h_this : kd this = 12) {x : Int32 × Mem} (h : Mo_lay this v1 m = some x) : Ev g Y_Mo_lay [vr this, vi v1] m (some (vi x.1)) x.2 :=
  Ev_of 4 (by decide +kernel) rfl (Nat.le_of_ble_eq_true rfl) rfl (k_Mo_lay h_this h ⟨rfl, rfl⟩)
theorem k_Mo_keepsHeaps_l2 {g : GE} {this : Nat}  {v1 : Int32} {m : Mem} (h_this : kd this = 12) {r : Option AV} {m' : Mem} {x : (Int32 × Mem) ⊕ (Mem)} (h : Mo_keepsHeaps_l2 this v1 m = some x) (hp : (Sum.elim (fun s : Int32 × Mem => V g Y_Mo_keepsHeaps 2 [some (vr this), some (vi s.1)] [] s.2 (PM g Y_Mo_keepsHeaps r m')) (fun x : Mem => r = none ∧ m' = x)) x) : V g Y_Mo_keepsHeaps 2 [some (vr this), some (vi v1)] [] m (PM g Y_Mo_keepsHeaps r m') := by
  unfold Mo_keepsHeaps_l2 at h
  refine V_iload_n (i := 1) (pc := 2) dX11_keepsHeaps_2 rfl rfl ?_
  refine V_bipush (v := 72) (pc := 3) dX11_keepsHeaps_3 rfl ?_
  refine V_icmp_ge (pc := 5) (tgt := 29) dX11_keepsHeaps_5 rfl (fun q => ?_) (fun q => ?_)
  · have h := ite_t q h
    obtain ⟨y1, hu1, rfl⟩ := up_e h
    have h := hu1
    obtain rfl := Option.some.inj h
    exact E_v (pc := 29) dX11_keepsHeaps_29 rfl hp
  · have h := ite_f q h
    refine V_aload_n (i := 0) (pc := 8) dX11_keepsHeaps_8 rfl rfl ?_
    refine V_getR (b := (this + 9)) (pc := 9) dX11_keepsHeaps_9 fl_Mo_44 h_this rfl rfl ?_
    refine V_iload_n (i := 1) (pc := 12) dX11_keepsHeaps_12 rfl rfl ?_
    refine V_aload_n (i := 0) (pc := 13) dX11_keepsHeaps_13 rfl rfl ?_
    refine V_getR (b := (this + 1)) (pc := 14) dX11_keepsHeaps_14 fl_Mo_13 h_this rfl rfl ?_
    refine V_bipush (v := 116) (pc := 17) dX11_keepsHeaps_17 rfl ?_
    refine V_iload_n (i := 1) (pc := 19) dX11_keepsHeaps_19 rfl rfl ?_
    refine V_iadd (pc := 20) dX11_keepsHeaps_20 ?_
    obtain ⟨hg21, h⟩ := gd_e h
    refine V_iald (pc := 21) dX11_keepsHeaps_21 (kf_11_1 h_this) (af_11_1 h_this) hg21 ?_
    obtain ⟨hg22, h⟩ := gd_e h
    refine V_iast_lt (pc := 22) dX11_keepsHeaps_22 (kf_11_17 h_this) (af_11_17 h_this) hg22 h (fun m22 h => ?_)
    refine V_iinc (i := 1) (v := (v1 + 1)) (ls' := [some (vr this), some (vi (v1 + 1))]) (pc := 23) dX11_keepsHeaps_23 rfl rfl (Nat.le_of_ble_eq_true rfl) rfl ?_
    refine V_goto (tgt := 2) (pc := 26) dX11_keepsHeaps_26 rfl ?_
    obtain rfl := Option.some.inj h
    exact hp
theorem k_Mo_keepsHeaps {g : GE} {this : Nat} {m : Mem} (h_this : kd this = 12) {r : Option AV} {m' : Mem} {x : Mem} (h : Mo_keepsHeaps this m = some x) (hp : (fun x : Mem => r = none ∧ m' = x) x) : V g Y_Mo_keepsHeaps 0 [some (vr this), none] [] m (PM g Y_Mo_keepsHeaps r m') := by
  unfold Mo_keepsHeaps at h
  refine V_iconst (v := 0) (pc := 0) dX11_keepsHeaps_0 rfl ?_
  refine V_istore_n (i := 1) (ls' := [some (vr this), some (vi 0)]) (pc := 1) dX11_keepsHeaps_1 rfl (Nat.le_of_ble_eq_true rfl) rfl ?_
  exact loop_V (A := fun s : Int32 × Mem => V g Y_Mo_keepsHeaps 2 [some (vr this), some (vi s.1)] [] s.2 (PM g Y_Mo_keepsHeaps r m')) (fun s x h hp => k_Mo_keepsHeaps_l2 h_this h hp) (0, m) _ h hp
theorem e_Mo_keepsHeaps {g : GE} {this : Nat} {m : Mem} (h_this : kd this = 12) {x : Mem} (h : Mo_keepsHeaps this m = some x) : Ev g Y_Mo_keepsHeaps [vr this] m (none) x :=
  Ev_of 1 (by decide +kernel) rfl (Nat.le_of_ble_eq_true rfl) rfl (k_Mo_keepsHeaps h_this h ⟨rfl, rfl⟩)
theorem k_Mo_givesBack_l2 {g : GE} {this : Nat}  {v1 : Int32} {m : Mem} (h_this : kd this = 12) {r : Option AV} {m' : Mem} {x : (Int32 × Mem) ⊕ (Mem)} (h : Mo_givesBack_l2 this v1 m = some x) (hp : (Sum.elim (fun s : Int32 × Mem => V g Y_Mo_givesBack 2 [some (vr this), some (vi s.1)] [] s.2 (PM g Y_Mo_givesBack r m')) (fun x : Mem => r = none ∧ m' = x)) x) : V g Y_Mo_givesBack 2 [some (vr this), some (vi v1)] [] m (PM g Y_Mo_givesBack r m') := by
  unfold Mo_givesBack_l2 at h
  refine V_iload_n (i := 1) (pc := 2) dX11_givesBack_2 rfl rfl ?_
  refine V_bipush (v := 72) (pc := 3) dX11_givesBack_3 rfl ?_
  refine V_icmp_ge (pc := 5) (tgt := 29) dX11_givesBack_5 rfl (fun q => ?_) (fun q => ?_)
  · have h := ite_t q h
    obtain ⟨y1, hu1, rfl⟩ := up_e h
    have h := hu1
    obtain rfl := Option.some.inj h
    exact E_v (pc := 29) dX11_givesBack_29 rfl hp
  · have h := ite_f q h
    refine V_aload_n (i := 0) (pc := 8) dX11_givesBack_8 rfl rfl ?_
    refine V_getR (b := (this + 1)) (pc := 9) dX11_givesBack_9 fl_Mo_13 h_this rfl rfl ?_
    refine V_bipush (v := 116) (pc := 12) dX11_givesBack_12 rfl ?_
    refine V_iload_n (i := 1) (pc := 14) dX11_givesBack_14 rfl rfl ?_
    refine V_iadd (pc := 15) dX11_givesBack_15 ?_
    refine V_aload_n (i := 0) (pc := 16) dX11_givesBack_16 rfl rfl ?_
    refine V_getR (b := (this + 9)) (pc := 17) dX11_givesBack_17 fl_Mo_44 h_this rfl rfl ?_
    refine V_iload_n (i := 1) (pc := 20) dX11_givesBack_20 rfl rfl ?_
    obtain ⟨hg21, h⟩ := gd_e h
    refine V_iald (pc := 21) dX11_givesBack_21 (kf_11_17 h_this) (af_11_17 h_this) hg21 ?_
    obtain ⟨hg22, h⟩ := gd_e h
    refine V_iast_lt (pc := 22) dX11_givesBack_22 (kf_11_1 h_this) (af_11_1 h_this) hg22 h (fun m22 h => ?_)
    refine V_iinc (i := 1) (v := (v1 + 1)) (ls' := [some (vr this), some (vi (v1 + 1))]) (pc := 23) dX11_givesBack_23 rfl rfl (Nat.le_of_ble_eq_true rfl) rfl ?_
    refine V_goto (tgt := 2) (pc := 26) dX11_givesBack_26 rfl ?_
    obtain rfl := Option.some.inj h
    exact hp
theorem k_Mo_givesBack {g : GE} {this : Nat} {m : Mem} (h_this : kd this = 12) {r : Option AV} {m' : Mem} {x : Mem} (h : Mo_givesBack this m = some x) (hp : (fun x : Mem => r = none ∧ m' = x) x) : V g Y_Mo_givesBack 0 [some (vr this), none] [] m (PM g Y_Mo_givesBack r m') := by
  unfold Mo_givesBack at h
  refine V_iconst (v := 0) (pc := 0) dX11_givesBack_0 rfl ?_
  refine V_istore_n (i := 1) (ls' := [some (vr this), some (vi 0)]) (pc := 1) dX11_givesBack_1 rfl (Nat.le_of_ble_eq_true rfl) rfl ?_
  exact loop_V (A := fun s : Int32 × Mem => V g Y_Mo_givesBack 2 [some (vr this), some (vi s.1)] [] s.2 (PM g Y_Mo_givesBack r m')) (fun s x h hp => k_Mo_givesBack_l2 h_this h hp) (0, m) _ h hp
theorem e_Mo_givesBack {g : GE} {this : Nat} {m : Mem} (h_this : kd this = 12) {x : Mem} (h : Mo_givesBack this m = some x) : Ev g Y_Mo_givesBack [vr this] m (none) x :=
  Ev_of 1 (by decide +kernel) rfl (Nat.le_of_ble_eq_true rfl) rfl (k_Mo_givesBack h_this h ⟨rfl, rfl⟩)
theorem k_Mo_trialOf {g : GE} {this : Nat} {v1 : Int32} {v2 : Int32} {m : Mem} (h_this : kd this = 12) {r : Option AV} {m' : Mem} {x : Int64 × Mem} (h : Mo_trialOf this v1 v2 m = some x) (hp : (fun x : Int64 × Mem => r = some (vl x.1) ∧ m' = x.2) x) : V g Y_Mo_trialOf 0 [some (vr this), some (vi v1), some (vi v2), none, none] [] m (PM g Y_Mo_trialOf r m') := by
  unfold Mo_trialOf at h
  refine V_aload_n (i := 0) (pc := 0) dX11_trialOf_0 rfl rfl ?_
  obtain ⟨m1, e1, h⟩ := bnd h
  refine V_invV0 (c := 11) (pc := 1) dX11_trialOf_1 (e_Mo_keepsHeaps h_this e1) iv_Mo_420 (rm_Mo_trialOf_Mo_keepsHeaps _ _ _) rfl h_this cf_11 rfl (Nat.le_of_ble_eq_true rfl) rfl ?_
  refine V_aload_n (i := 0) (pc := 4) dX11_trialOf_4 rfl rfl ?_
  refine V_iload_n (i := 1) (pc := 5) dX11_trialOf_5 rfl rfl ?_
  refine V_iload_n (i := 2) (pc := 6) dX11_trialOf_6 rfl rfl ?_
  obtain ⟨m7, e7, h⟩ := bnd h
  refine V_invV0 (c := 11) (pc := 7) dX11_trialOf_7 (e_Mo_lays h_this e7) iv_Mo_416 (rm_Mo_trialOf_Mo_lays _ _ _) rfl h_this cf_11 rfl (Nat.le_of_ble_eq_true rfl) rfl ?_
  refine V_aload_n (i := 0) (pc := 10) dX11_trialOf_10 rfl rfl ?_
  refine V_iconst (v := 1) (pc := 11) dX11_trialOf_11 rfl ?_
  obtain ⟨r12, e12, h⟩ := bnd h
  refine V_invV1 (c := 11) (pc := 12) dX11_trialOf_12 (e_Mo_lostIn h_this e12) iv_Mo_384 (rm_Mo_trialOf_Mo_lostIn _ _ _) rfl h_this cf_11 rfl (Nat.le_of_ble_eq_true rfl) rfl ?_
  refine V_lstore_n (i := 3) (ls' := [some (vr this), some (vi v1), some (vi v2), some (vl r12.1), none]) (pc := 15) dX11_trialOf_15 rfl (Nat.le_of_ble_eq_true rfl) rfl ?_
  refine V_aload_n (i := 0) (pc := 16) dX11_trialOf_16 rfl rfl ?_
  obtain ⟨m17, e17, h⟩ := bnd h
  refine V_invV0 (c := 11) (pc := 17) dX11_trialOf_17 (e_Mo_givesBack h_this e17) iv_Mo_423 (rm_Mo_trialOf_Mo_givesBack _ _ _) rfl h_this cf_11 rfl (Nat.le_of_ble_eq_true rfl) rfl ?_
  refine V_lload_n (i := 3) (pc := 20) dX11_trialOf_20 rfl rfl ?_
  obtain rfl := Option.some.inj h
  exact E_l (pc := 21) dX11_trialOf_21 rfl hp
theorem e_Mo_trialOf {g : GE} {this : Nat} {v1 : Int32} {v2 : Int32} {m : Mem} (h_this : kd this = 12) {x : Int64 × Mem} (h : Mo_trialOf this v1 v2 m = some x) : Ev g Y_Mo_trialOf [vr this, vi v1, vi v2] m (some (vl x.1)) x.2 :=
  Ev_of 2 (by decide +kernel) rfl (Nat.le_of_ble_eq_true rfl) rfl (k_Mo_trialOf h_this h ⟨rfl, rfl⟩)
theorem k_Mo_trial {g : GE} {this : Nat} {v1 : Int32} {m : Mem} (h_this : kd this = 12) {r : Option AV} {m' : Mem} {x : Int64 × Mem} (h : Mo_trial this v1 m = some x) (hp : (fun x : Int64 × Mem => r = some (vl x.1) ∧ m' = x.2) x) : V g Y_Mo_trial 0 [some (vr this), some (vi v1)] [] m (PM g Y_Mo_trial r m') := by
  unfold Mo_trial at h
  refine V_aload_n (i := 0) (pc := 0) dX11_trial_0 rfl rfl ?_
  obtain ⟨r1, e1, h⟩ := bnd h
  refine V_invV1 (c := 11) (pc := 1) dX11_trial_1 (e_Mo_isFloe h_this e1) iv_Mo_271 (rm_Mo_trial_Mo_isFloe _ _ _) rfl h_this cf_11 rfl (Nat.le_of_ble_eq_true rfl) rfl ?_
  refine V_if_eq (pc := 4) (tgt := 19) dX11_trial_4 rfl (fun q => ?_) (fun q => ?_)
  · have h := ite_t q h
    refine V_ldc2 (v := (-2)) (pc := 19) dX11_trial_19 con_Mo_342 ?_
    obtain rfl := Option.some.inj h
    exact E_l (pc := 22) dX11_trial_22 rfl hp
  · have h := ite_f q h
    refine V_iload_n (i := 1) (pc := 7) dX11_trial_7 rfl rfl ?_
    refine V_i2l (pc := 8) dX11_trial_8 ?_
    refine V_lconst (v := 0) (pc := 9) dX11_trial_9 rfl ?_
    refine V_ldc2 (v := 3) (pc := 10) dX11_trial_10 con_Mo_269 ?_
    obtain ⟨r13, e13, h⟩ := bnd h
    refine V_invS1 (pc := 13) dX11_trial_13 (e_Mo_in  e13) is_Mo_84 (rm_Mo_trial_Mo_in _ _ _) rfl (Nat.le_of_ble_eq_true rfl) rfl ?_
    refine V_if_ne (pc := 16) (tgt := 23) dX11_trial_16 rfl (fun q => ?_) (fun q => ?_)
    · have h := ite_f q h
      refine V_aload_n (i := 0) (pc := 23) dX11_trial_23 rfl rfl ?_
      obtain ⟨r24, e24, h⟩ := bnd h
      refine V_invV1 (c := 11) (pc := 24) dX11_trial_24 (e_Mo_heapMany h_this e24) iv_Mo_413 (rm_Mo_trial_Mo_heapMany _ _ _) rfl h_this cf_11 rfl (Nat.le_of_ble_eq_true rfl) rfl ?_
      refine V_if_ne (pc := 27) (tgt := 36) dX11_trial_27 rfl (fun q => ?_) (fun q => ?_)
      · have h := ite_f q h
        refine V_aload_n (i := 0) (pc := 36) dX11_trial_36 rfl rfl ?_
        refine V_iload_n (i := 1) (pc := 37) dX11_trial_37 rfl rfl ?_
        refine V_aload_n (i := 0) (pc := 38) dX11_trial_38 rfl rfl ?_
        obtain ⟨r39, e39, h⟩ := bnd h
        refine V_invV1 (c := 11) (pc := 39) dX11_trial_39 (e_Mo_thereSet h_this e39) iv_Mo_398 (rm_Mo_trial_Mo_thereSet _ _ _) rfl h_this cf_11 rfl (Nat.le_of_ble_eq_true rfl) rfl ?_
        obtain ⟨r42, e42, h⟩ := bnd h
        refine V_invV1 (c := 11) (pc := 42) dX11_trial_42 (e_Mo_trialOf h_this e42) iv_Mo_428 (rm_Mo_trial_Mo_trialOf _ _ _) rfl h_this cf_11 rfl (Nat.le_of_ble_eq_true rfl) rfl ?_
        obtain rfl := Option.some.inj h
        exact E_l (pc := 45) dX11_trial_45 rfl hp
      · have h := ite_t q h
        refine V_ldc2 (v := (-5)) (pc := 30) dX11_trial_30 con_Mo_426 ?_
        refine V_goto (tgt := 45) (pc := 33) dX11_trial_33 rfl ?_
        obtain rfl := Option.some.inj h
        exact E_l (pc := 45) dX11_trial_45 rfl hp
    · have h := ite_t q h
      refine V_ldc2 (v := (-2)) (pc := 19) dX11_trial_19 con_Mo_342 ?_
      obtain rfl := Option.some.inj h
      exact E_l (pc := 22) dX11_trial_22 rfl hp
theorem e_Mo_trial {g : GE} {this : Nat} {v1 : Int32} {m : Mem} (h_this : kd this = 12) {x : Int64 × Mem} (h : Mo_trial this v1 m = some x) : Ev g Y_Mo_trial [vr this, vi v1] m (some (vl x.1)) x.2 :=
  Ev_of 0 (by decide +kernel) rfl (Nat.le_of_ble_eq_true rfl) rfl (k_Mo_trial h_this h ⟨rfl, rfl⟩)
theorem k_Mo_best_b69 {g : GE} {this : Nat} {v1 : Int32} {v2 : Int64} {v4 : Int32}  {m : Mem} (h_this : kd this = 12) {r : Option AV} {m' : Mem} {x : (Int32 × Int64 × Int32 × Mem) ⊕ (Int32 × Mem)} (h : Mo_best_b69 this v1 v2 v4 m = some x) (hp : (Sum.elim (fun s : Int32 × Int64 × Int32 × Mem => V g Y_Mo_best 35 [some (vr this), some (vi s.1), some (vl s.2.1), none, some (vi s.2.2.1), none, none] [] s.2.2.2 (PM g Y_Mo_best r m')) (fun x : Int32 × Mem => r = some (vi x.1) ∧ m' = x.2)) x) : V g Y_Mo_best 69 [some (vr this), some (vi v1), some (vl v2), none, some (vi v4), none, none] [] m (PM g Y_Mo_best r m') := by
  unfold Mo_best_b69 at h
  refine V_iinc (i := 4) (v := (v4 + 1)) (ls' := [some (vr this), some (vi v1), some (vl v2), none, some (vi (v4 + 1)), none, none]) (pc := 69) dX11_best_69 rfl rfl (Nat.le_of_ble_eq_true rfl) rfl ?_
  refine V_goto (tgt := 35) (pc := 72) dX11_best_72 rfl ?_
  obtain rfl := Option.some.inj h
  exact hp
theorem k_Mo_best_l35 {g : GE} {this : Nat}  {v1 : Int32} {v2 : Int64} {v4 : Int32} {m : Mem} (h_this : kd this = 12) {r : Option AV} {m' : Mem} {x : (Int32 × Int64 × Int32 × Mem) ⊕ (Int32 × Mem)} (h : Mo_best_l35 this v1 v2 v4 m = some x) (hp : (Sum.elim (fun s : Int32 × Int64 × Int32 × Mem => V g Y_Mo_best 35 [some (vr this), some (vi s.1), some (vl s.2.1), none, some (vi s.2.2.1), none, none] [] s.2.2.2 (PM g Y_Mo_best r m')) (fun x : Int32 × Mem => r = some (vi x.1) ∧ m' = x.2)) x) : V g Y_Mo_best 35 [some (vr this), some (vi v1), some (vl v2), none, some (vi v4), none, none] [] m (PM g Y_Mo_best r m') := by
  unfold Mo_best_l35 at h
  refine V_iload (i := 4) (pc := 35) dX11_best_35 rfl ?_
  refine V_iconst (v := 4) (pc := 37) dX11_best_37 rfl ?_
  refine V_icmp_ge (pc := 38) (tgt := 75) dX11_best_38 rfl (fun q => ?_) (fun q => ?_)
  · have h := ite_t q h
    obtain ⟨y1, hu1, rfl⟩ := up_e h
    have h := hu1
    refine V_iload_n (i := 1) (pc := 75) dX11_best_75 rfl rfl ?_
    obtain rfl := Option.some.inj h
    exact E_i (pc := 76) dX11_best_76 rfl hp
  · have h := ite_f q h
    refine V_aload_n (i := 0) (pc := 41) dX11_best_41 rfl rfl ?_
    refine V_iload (i := 4) (pc := 42) dX11_best_42 rfl ?_
    refine V_aload_n (i := 0) (pc := 44) dX11_best_44 rfl rfl ?_
    obtain ⟨r45, e45, h⟩ := bnd h
    refine V_invV1 (c := 11) (pc := 45) dX11_best_45 (e_Mo_thereSet h_this e45) iv_Mo_398 (rm_Mo_best_Mo_thereSet _ _ _) rfl h_this cf_11 rfl (Nat.le_of_ble_eq_true rfl) rfl ?_
    obtain ⟨r48, e48, h⟩ := bnd h
    refine V_invV1 (c := 11) (pc := 48) dX11_best_48 (e_Mo_trialOf h_this e48) iv_Mo_428 (rm_Mo_best_Mo_trialOf _ _ _) rfl h_this cf_11 rfl (Nat.le_of_ble_eq_true rfl) rfl ?_
    refine V_lstore (i := 5) (ls' := [some (vr this), some (vi v1), some (vl v2), none, some (vi v4), some (vl r48.1), none]) (pc := 51) dX11_best_51 (Nat.le_of_ble_eq_true rfl) rfl ?_
    refine V_lload (i := 5) (pc := 53) dX11_best_53 rfl ?_
    refine V_lload_n (i := 2) (pc := 55) dX11_best_55 rfl rfl ?_
    refine V_lif_lt (pc := 56) (tgt := 63) dX11_best_56 dX11_best_57 rfl (fun q => ?_) (fun q => ?_)
    · have h := ite_t q h
      refine V_iload (i := 4) (pc := 63) dX11_best_63 rfl ?_
      refine V_istore_n (i := 1) (ls' := [some (vr this), some (vi v4), some (vl v2), none, some (vi v4), some (vl r48.1), none]) (pc := 65) dX11_best_65 rfl (Nat.le_of_ble_eq_true rfl) rfl ?_
      refine V_lload (i := 5) (pc := 66) dX11_best_66 rfl ?_
      refine V_lstore_n (i := 2) (ls' := [some (vr this), some (vi v4), some (vl r48.1), none, some (vi v4), some (vl r48.1), none]) (pc := 68) dX11_best_68 rfl (Nat.le_of_ble_eq_true rfl) rfl ?_
      refine V_sub (ls' := [some (vr this), some (vi v4), some (vl r48.1), none, some (vi v4), none, none]) (And.intro rfl (And.intro rfl (And.intro rfl (And.intro rfl trivial)))) ?_
      exact k_Mo_best_b69 h_this h hp
    · have h := ite_f q h
      refine V_goto (tgt := 69) (pc := 60) dX11_best_60 rfl ?_
      refine V_sub (ls' := [some (vr this), some (vi v1), some (vl v2), none, some (vi v4), none, none]) (And.intro rfl (And.intro rfl (And.intro rfl (And.intro rfl trivial)))) ?_
      exact k_Mo_best_b69 h_this h hp
theorem k_Mo_best {g : GE} {this : Nat} {m : Mem} (h_this : kd this = 12) {r : Option AV} {m' : Mem} {x : Int32 × Mem} (h : Mo_best this m = some x) (hp : (fun x : Int32 × Mem => r = some (vi x.1) ∧ m' = x.2) x) : V g Y_Mo_best 0 [some (vr this), none, none, none, none, none, none] [] m (PM g Y_Mo_best r m') := by
  unfold Mo_best at h
  refine V_aload_n (i := 0) (pc := 0) dX11_best_0 rfl rfl ?_
  obtain ⟨r1, e1, h⟩ := bnd h
  refine V_invV1 (c := 11) (pc := 1) dX11_best_1 (e_Mo_isFloe h_this e1) iv_Mo_271 (rm_Mo_best_Mo_isFloe _ _ _) rfl h_this cf_11 rfl (Nat.le_of_ble_eq_true rfl) rfl ?_
  refine V_if_ne (pc := 4) (tgt := 10) dX11_best_4 rfl (fun q => ?_) (fun q => ?_)
  · have h := ite_f q h
    refine V_aload_n (i := 0) (pc := 10) dX11_best_10 rfl rfl ?_
    obtain ⟨r11, e11, h⟩ := bnd h
    refine V_invV1 (c := 11) (pc := 11) dX11_best_11 (e_Mo_heapMany h_this e11) iv_Mo_413 (rm_Mo_best_Mo_heapMany _ _ _) rfl h_this cf_11 rfl (Nat.le_of_ble_eq_true rfl) rfl ?_
    refine V_if_ne (pc := 14) (tgt := 20) dX11_best_14 rfl (fun q => ?_) (fun q => ?_)
    · have h := ite_f q h
      refine V_iconst (v := 0) (pc := 20) dX11_best_20 rfl ?_
      refine V_istore_n (i := 1) (ls' := [some (vr this), some (vi 0), none, none, none, none, none]) (pc := 21) dX11_best_21 rfl (Nat.le_of_ble_eq_true rfl) rfl ?_
      refine V_aload_n (i := 0) (pc := 22) dX11_best_22 rfl rfl ?_
      refine V_iconst (v := 0) (pc := 23) dX11_best_23 rfl ?_
      refine V_aload_n (i := 0) (pc := 24) dX11_best_24 rfl rfl ?_
      obtain ⟨r25, e25, h⟩ := bnd h
      refine V_invV1 (c := 11) (pc := 25) dX11_best_25 (e_Mo_thereSet h_this e25) iv_Mo_398 (rm_Mo_best_Mo_thereSet _ _ _) rfl h_this cf_11 rfl (Nat.le_of_ble_eq_true rfl) rfl ?_
      obtain ⟨r28, e28, h⟩ := bnd h
      refine V_invV1 (c := 11) (pc := 28) dX11_best_28 (e_Mo_trialOf h_this e28) iv_Mo_428 (rm_Mo_best_Mo_trialOf _ _ _) rfl h_this cf_11 rfl (Nat.le_of_ble_eq_true rfl) rfl ?_
      refine V_lstore_n (i := 2) (ls' := [some (vr this), some (vi 0), some (vl r28.1), none, none, none, none]) (pc := 31) dX11_best_31 rfl (Nat.le_of_ble_eq_true rfl) rfl ?_
      refine V_iconst (v := 1) (pc := 32) dX11_best_32 rfl ?_
      refine V_istore (i := 4) (ls' := [some (vr this), some (vi 0), some (vl r28.1), none, some (vi 1), none, none]) (pc := 33) dX11_best_33 (Nat.le_of_ble_eq_true rfl) rfl ?_
      exact loop_V (A := fun s : Int32 × Int64 × Int32 × Mem => V g Y_Mo_best 35 [some (vr this), some (vi s.1), some (vl s.2.1), none, some (vi s.2.2.1), none, none] [] s.2.2.2 (PM g Y_Mo_best r m')) (fun s x h hp => k_Mo_best_l35 h_this h hp) (0, r28.1, 1, r28.2) _ h hp
    · have h := ite_t q h
      refine V_bipush (v := (-5)) (pc := 17) dX11_best_17 rfl ?_
      obtain rfl := Option.some.inj h
      exact E_i (pc := 19) dX11_best_19 rfl hp
  · have h := ite_t q h
    refine V_bipush (v := (-2)) (pc := 7) dX11_best_7 rfl ?_
    obtain rfl := Option.some.inj h
    exact E_i (pc := 9) dX11_best_9 rfl hp
theorem e_Mo_best {g : GE} {this : Nat} {m : Mem} (h_this : kd this = 12) {x : Int32 × Mem} (h : Mo_best this m = some x) : Ev g Y_Mo_best [vr this] m (some (vi x.1)) x.2 :=
  Ev_of 6 (by decide +kernel) rfl (Nat.le_of_ble_eq_true rfl) rfl (k_Mo_best h_this h ⟨rfl, rfl⟩)
theorem k_Mo_isBettered_b161 {g : GE} {this : Nat} {v1 : Int64} {v3 : Int32} {v4 : Int32} {v5 : Int32} {v6 : Int32}  {m : Mem} (h_this : kd this = 12) {r : Option AV} {m' : Mem} {x : (Int64 × Int32 × Int32 × Int32 × Int32 × Mem) ⊕ (Int32 × Mem)} (h : Mo_isBettered_b161 this v1 v3 v4 v5 v6 m = some x) (hp : (Sum.elim (fun s : Int64 × Int32 × Int32 × Int32 × Int32 × Mem => V g Y_Mo_isBettered 17 [some (vr this), some (vl s.1), none, some (vi s.2.1), some (vi s.2.2.1), some (vi s.2.2.2.1), some (vi s.2.2.2.2.1), none, none, none, none, none, none] [] s.2.2.2.2.2 (PM g Y_Mo_isBettered r m')) (fun x : Int32 × Mem => r = some (vi x.1) ∧ m' = x.2)) x) : V g Y_Mo_isBettered 161 [some (vr this), some (vl v1), none, some (vi v3), some (vi v4), some (vi v5), some (vi v6), none, none, none, none, none, none] [] m (PM g Y_Mo_isBettered r m') := by
  unfold Mo_isBettered_b161 at h
  refine V_iinc (i := 6) (v := (v6 + 1)) (ls' := [some (vr this), some (vl v1), none, some (vi v3), some (vi v4), some (vi v5), some (vi (v6 + 1)), none, none, none, none, none, none]) (pc := 161) dX11_isBettered_161 rfl rfl (Nat.le_of_ble_eq_true rfl) rfl ?_
  refine V_goto (tgt := 17) (pc := 164) dX11_isBettered_164 rfl ?_
  obtain rfl := Option.some.inj h
  exact hp
theorem k_Mo_isBettered_b131 {g : GE} {this : Nat} {v1 : Int64} {v3 : Int32} {v4 : Int32} {v5 : Int32} {v6 : Int32} {v7 : Int32} {v8 : Int32} {v9 : Int32} {v10 : Int32}  {m : Mem} (h_this : kd this = 12) {r : Option AV} {m' : Mem} {x : (Int64 × Int32 × Int32 × Int32 × Int32 × Mem) ⊕ ((Int64 × Int32 × Int32 × Int32 × Int32 × Mem) ⊕ ((Int64 × Int32 × Int32 × Int32 × Int32 × Mem) ⊕ (Int32 × Mem)))} (h : Mo_isBettered_b131 this v1 v3 v4 v5 v6 v7 v8 v9 v10 m = some x) (hp : (Sum.elim (fun s : Int64 × Int32 × Int32 × Int32 × Int32 × Mem => V g Y_Mo_isBettered 71 [some (vr this), some (vl s.1), none, some (vi s.2.1), some (vi s.2.2.1), some (vi s.2.2.2.1), some (vi v6), some (vi v7), some (vi v8), some (vi v9), some (vi s.2.2.2.2.1), none, none] [] s.2.2.2.2.2 (PM g Y_Mo_isBettered r m')) (Sum.elim (fun s : Int64 × Int32 × Int32 × Int32 × Int32 × Mem => V g Y_Mo_isBettered 57 [some (vr this), some (vl s.1), none, some (vi s.2.1), some (vi s.2.2.1), some (vi s.2.2.2.1), some (vi v6), some (vi v7), some (vi v8), some (vi s.2.2.2.2.1), none, none, none] [] s.2.2.2.2.2 (PM g Y_Mo_isBettered r m')) (Sum.elim (fun s : Int64 × Int32 × Int32 × Int32 × Int32 × Mem => V g Y_Mo_isBettered 17 [some (vr this), some (vl s.1), none, some (vi s.2.1), some (vi s.2.2.1), some (vi s.2.2.2.1), some (vi s.2.2.2.2.1), none, none, none, none, none, none] [] s.2.2.2.2.2 (PM g Y_Mo_isBettered r m')) (fun x : Int32 × Mem => r = some (vi x.1) ∧ m' = x.2)))) x) : V g Y_Mo_isBettered 131 [some (vr this), some (vl v1), none, some (vi v3), some (vi v4), some (vi v5), some (vi v6), some (vi v7), some (vi v8), some (vi v9), some (vi v10), none, none] [] m (PM g Y_Mo_isBettered r m') := by
  unfold Mo_isBettered_b131 at h
  refine V_iinc (i := 10) (v := (v10 + 1)) (ls' := [some (vr this), some (vl v1), none, some (vi v3), some (vi v4), some (vi v5), some (vi v6), some (vi v7), some (vi v8), some (vi v9), some (vi (v10 + 1)), none, none]) (pc := 131) dX11_isBettered_131 rfl rfl (Nat.le_of_ble_eq_true rfl) rfl ?_
  refine V_goto (tgt := 71) (pc := 134) dX11_isBettered_134 rfl ?_
  obtain rfl := Option.some.inj h
  exact hp
theorem k_Mo_isBettered_l71 {g : GE} {this : Nat} {v6 : Int32} {v7 : Int32} {v8 : Int32} {v9 : Int32} {v1 : Int64} {v3 : Int32} {v4 : Int32} {v5 : Int32} {v10 : Int32} {m : Mem} (h_this : kd this = 12) {r : Option AV} {m' : Mem} {x : (Int64 × Int32 × Int32 × Int32 × Int32 × Mem) ⊕ ((Int64 × Int32 × Int32 × Int32 × Int32 × Mem) ⊕ ((Int64 × Int32 × Int32 × Int32 × Int32 × Mem) ⊕ (Int32 × Mem)))} (h : Mo_isBettered_l71 this v6 v7 v8 v9 v1 v3 v4 v5 v10 m = some x) (hp : (Sum.elim (fun s : Int64 × Int32 × Int32 × Int32 × Int32 × Mem => V g Y_Mo_isBettered 71 [some (vr this), some (vl s.1), none, some (vi s.2.1), some (vi s.2.2.1), some (vi s.2.2.2.1), some (vi v6), some (vi v7), some (vi v8), some (vi v9), some (vi s.2.2.2.2.1), none, none] [] s.2.2.2.2.2 (PM g Y_Mo_isBettered r m')) (Sum.elim (fun s : Int64 × Int32 × Int32 × Int32 × Int32 × Mem => V g Y_Mo_isBettered 57 [some (vr this), some (vl s.1), none, some (vi s.2.1), some (vi s.2.2.1), some (vi s.2.2.2.1), some (vi v6), some (vi v7), some (vi v8), some (vi s.2.2.2.2.1), none, none, none] [] s.2.2.2.2.2 (PM g Y_Mo_isBettered r m')) (Sum.elim (fun s : Int64 × Int32 × Int32 × Int32 × Int32 × Mem => V g Y_Mo_isBettered 17 [some (vr this), some (vl s.1), none, some (vi s.2.1), some (vi s.2.2.1), some (vi s.2.2.2.1), some (vi s.2.2.2.2.1), none, none, none, none, none, none] [] s.2.2.2.2.2 (PM g Y_Mo_isBettered r m')) (fun x : Int32 × Mem => r = some (vi x.1) ∧ m' = x.2)))) x) : V g Y_Mo_isBettered 71 [some (vr this), some (vl v1), none, some (vi v3), some (vi v4), some (vi v5), some (vi v6), some (vi v7), some (vi v8), some (vi v9), some (vi v10), none, none] [] m (PM g Y_Mo_isBettered r m') := by
  unfold Mo_isBettered_l71 at h
  refine V_iload (i := 10) (pc := 71) dX11_isBettered_71 rfl ?_
  refine V_aload_n (i := 0) (pc := 73) dX11_isBettered_73 rfl rfl ?_
  refine V_getR (b := (this + 1)) (pc := 74) dX11_isBettered_74 fl_Mo_13 h_this rfl rfl ?_
  refine V_iconst (v := 1) (pc := 77) dX11_isBettered_77 rfl ?_
  obtain ⟨hg78, h⟩ := gd_e h
  refine V_iald (pc := 78) dX11_isBettered_78 (kf_11_1 h_this) (af_11_1 h_this) hg78 ?_
  refine V_icmp_ge (pc := 79) (tgt := 137) dX11_isBettered_79 rfl (fun q => ?_) (fun q => ?_)
  · have h := ite_t q h
    obtain ⟨y3, hu3, rfl⟩ := up_e h
    have h := hu3
    refine V_iinc (i := 9) (v := (v9 + 1)) (ls' := [some (vr this), some (vl v1), none, some (vi v3), some (vi v4), some (vi v5), some (vi v6), some (vi v7), some (vi v8), some (vi (v9 + 1)), some (vi v10), none, none]) (pc := 137) dX11_isBettered_137 rfl rfl (Nat.le_of_ble_eq_true rfl) rfl ?_
    refine V_goto (tgt := 57) (pc := 140) dX11_isBettered_140 rfl ?_
    refine V_sub (ls' := [some (vr this), some (vl v1), none, some (vi v3), some (vi v4), some (vi v5), some (vi v6), some (vi v7), some (vi v8), some (vi (v9 + 1)), none, none, none]) (And.intro rfl (And.intro rfl (And.intro rfl (And.intro rfl (And.intro rfl (And.intro rfl (And.intro rfl (And.intro rfl (And.intro rfl trivial))))))))) ?_
    obtain rfl := Option.some.inj h
    exact hp
  · have h := ite_f q h
    refine V_aload_n (i := 0) (pc := 82) dX11_isBettered_82 rfl rfl ?_
    refine V_iload (i := 6) (pc := 83) dX11_isBettered_83 rfl ?_
    refine V_iconst (v := 1) (pc := 85) dX11_isBettered_85 rfl ?_
    refine V_iload (i := 10) (pc := 86) dX11_isBettered_86 rfl ?_
    obtain ⟨m88, e88, h⟩ := bnd h
    refine V_invV0 (c := 11) (pc := 88) dX11_isBettered_88 (e_Mo_setHeap h_this e88) iv_Mo_284 (rm_Mo_isBettered_Mo_setHeap _ _ _) rfl h_this cf_11 rfl (Nat.le_of_ble_eq_true rfl) rfl ?_
    refine V_aload_n (i := 0) (pc := 91) dX11_isBettered_91 rfl rfl ?_
    refine V_iload (i := 6) (pc := 92) dX11_isBettered_92 rfl ?_
    refine V_iconst (v := 2) (pc := 94) dX11_isBettered_94 rfl ?_
    refine V_iload (i := 9) (pc := 95) dX11_isBettered_95 rfl ?_
    obtain ⟨m97, e97, h⟩ := bnd h
    refine V_invV0 (c := 11) (pc := 97) dX11_isBettered_97 (e_Mo_setHeap h_this e97) iv_Mo_284 (rm_Mo_isBettered_Mo_setHeap _ _ _) rfl h_this cf_11 rfl (Nat.le_of_ble_eq_true rfl) rfl ?_
    refine V_aload_n (i := 0) (pc := 100) dX11_isBettered_100 rfl rfl ?_
    refine V_iconst (v := 1) (pc := 101) dX11_isBettered_101 rfl ?_
    obtain ⟨r102, e102, h⟩ := bnd h
    refine V_invV1 (c := 11) (pc := 102) dX11_isBettered_102 (e_Mo_lostIn h_this e102) iv_Mo_384 (rm_Mo_isBettered_Mo_lostIn _ _ _) rfl h_this cf_11 rfl (Nat.le_of_ble_eq_true rfl) rfl ?_
    refine V_lstore (i := 11) (ls' := [some (vr this), some (vl v1), none, some (vi v3), some (vi v4), some (vi v5), some (vi v6), some (vi v7), some (vi v8), some (vi v9), some (vi v10), some (vl r102.1), none]) (pc := 105) dX11_isBettered_105 (Nat.le_of_ble_eq_true rfl) rfl ?_
    refine V_lload (i := 11) (pc := 107) dX11_isBettered_107 rfl ?_
    refine V_lload_n (i := 1) (pc := 109) dX11_isBettered_109 rfl rfl ?_
    refine V_lif_lt (pc := 110) (tgt := 117) dX11_isBettered_110 dX11_isBettered_111 rfl (fun q => ?_) (fun q => ?_)
    · have h := ite_t q h
      refine V_lload (i := 11) (pc := 117) dX11_isBettered_117 rfl ?_
      refine V_lstore_n (i := 1) (ls' := [some (vr this), some (vl r102.1), none, some (vi v3), some (vi v4), some (vi v5), some (vi v6), some (vi v7), some (vi v8), some (vi v9), some (vi v10), some (vl r102.1), none]) (pc := 119) dX11_isBettered_119 rfl (Nat.le_of_ble_eq_true rfl) rfl ?_
      refine V_iload (i := 6) (pc := 120) dX11_isBettered_120 rfl ?_
      refine V_istore_n (i := 3) (ls' := [some (vr this), some (vl r102.1), none, some (vi v6), some (vi v4), some (vi v5), some (vi v6), some (vi v7), some (vi v8), some (vi v9), some (vi v10), some (vl r102.1), none]) (pc := 122) dX11_isBettered_122 rfl (Nat.le_of_ble_eq_true rfl) rfl ?_
      refine V_iload (i := 10) (pc := 123) dX11_isBettered_123 rfl ?_
      refine V_istore (i := 4) (ls' := [some (vr this), some (vl r102.1), none, some (vi v6), some (vi v10), some (vi v5), some (vi v6), some (vi v7), some (vi v8), some (vi v9), some (vi v10), some (vl r102.1), none]) (pc := 125) dX11_isBettered_125 (Nat.le_of_ble_eq_true rfl) rfl ?_
      refine V_iload (i := 9) (pc := 127) dX11_isBettered_127 rfl ?_
      refine V_istore (i := 5) (ls' := [some (vr this), some (vl r102.1), none, some (vi v6), some (vi v10), some (vi v9), some (vi v6), some (vi v7), some (vi v8), some (vi v9), some (vi v10), some (vl r102.1), none]) (pc := 129) dX11_isBettered_129 (Nat.le_of_ble_eq_true rfl) rfl ?_
      refine V_sub (ls' := [some (vr this), some (vl r102.1), none, some (vi v6), some (vi v10), some (vi v9), some (vi v6), some (vi v7), some (vi v8), some (vi v9), some (vi v10), none, none]) (And.intro rfl (And.intro rfl (And.intro rfl (And.intro rfl (And.intro rfl (And.intro rfl (And.intro rfl (And.intro rfl (And.intro rfl (And.intro rfl trivial)))))))))) ?_
      exact k_Mo_isBettered_b131 h_this h hp
    · have h := ite_f q h
      refine V_goto (tgt := 131) (pc := 114) dX11_isBettered_114 rfl ?_
      refine V_sub (ls' := [some (vr this), some (vl v1), none, some (vi v3), some (vi v4), some (vi v5), some (vi v6), some (vi v7), some (vi v8), some (vi v9), some (vi v10), none, none]) (And.intro rfl (And.intro rfl (And.intro rfl (And.intro rfl (And.intro rfl (And.intro rfl (And.intro rfl (And.intro rfl (And.intro rfl (And.intro rfl trivial)))))))))) ?_
      exact k_Mo_isBettered_b131 h_this h hp
theorem k_Mo_isBettered_l57 {g : GE} {this : Nat} {v6 : Int32} {v7 : Int32} {v8 : Int32} {v1 : Int64} {v3 : Int32} {v4 : Int32} {v5 : Int32} {v9 : Int32} {m : Mem} (h_this : kd this = 12) {r : Option AV} {m' : Mem} {x : (Int64 × Int32 × Int32 × Int32 × Int32 × Mem) ⊕ ((Int64 × Int32 × Int32 × Int32 × Int32 × Mem) ⊕ (Int32 × Mem))} (h : Mo_isBettered_l57 this v6 v7 v8 v1 v3 v4 v5 v9 m = some x) (hp : (Sum.elim (fun s : Int64 × Int32 × Int32 × Int32 × Int32 × Mem => V g Y_Mo_isBettered 57 [some (vr this), some (vl s.1), none, some (vi s.2.1), some (vi s.2.2.1), some (vi s.2.2.2.1), some (vi v6), some (vi v7), some (vi v8), some (vi s.2.2.2.2.1), none, none, none] [] s.2.2.2.2.2 (PM g Y_Mo_isBettered r m')) (Sum.elim (fun s : Int64 × Int32 × Int32 × Int32 × Int32 × Mem => V g Y_Mo_isBettered 17 [some (vr this), some (vl s.1), none, some (vi s.2.1), some (vi s.2.2.1), some (vi s.2.2.2.1), some (vi s.2.2.2.2.1), none, none, none, none, none, none] [] s.2.2.2.2.2 (PM g Y_Mo_isBettered r m')) (fun x : Int32 × Mem => r = some (vi x.1) ∧ m' = x.2))) x) : V g Y_Mo_isBettered 57 [some (vr this), some (vl v1), none, some (vi v3), some (vi v4), some (vi v5), some (vi v6), some (vi v7), some (vi v8), some (vi v9), none, none, none] [] m (PM g Y_Mo_isBettered r m') := by
  unfold Mo_isBettered_l57 at h
  refine V_iload (i := 9) (pc := 57) dX11_isBettered_57 rfl ?_
  refine V_aload_n (i := 0) (pc := 59) dX11_isBettered_59 rfl rfl ?_
  refine V_getR (b := (this + 1)) (pc := 60) dX11_isBettered_60 fl_Mo_13 h_this rfl rfl ?_
  refine V_iconst (v := 2) (pc := 63) dX11_isBettered_63 rfl ?_
  obtain ⟨hg64, h⟩ := gd_e h
  refine V_iald (pc := 64) dX11_isBettered_64 (kf_11_1 h_this) (af_11_1 h_this) hg64 ?_
  refine V_icmp_ge (pc := 65) (tgt := 143) dX11_isBettered_65 rfl (fun q => ?_) (fun q => ?_)
  · have h := ite_t q h
    obtain ⟨y2, hu2, rfl⟩ := up_e h
    have h := hu2
    refine V_aload_n (i := 0) (pc := 143) dX11_isBettered_143 rfl rfl ?_
    refine V_iload (i := 6) (pc := 144) dX11_isBettered_144 rfl ?_
    refine V_iconst (v := 1) (pc := 146) dX11_isBettered_146 rfl ?_
    refine V_iload (i := 7) (pc := 147) dX11_isBettered_147 rfl ?_
    obtain ⟨m149, e149, h⟩ := bnd h
    refine V_invV0 (c := 11) (pc := 149) dX11_isBettered_149 (e_Mo_setHeap h_this e149) iv_Mo_284 (rm_Mo_isBettered_Mo_setHeap _ _ _) rfl h_this cf_11 rfl (Nat.le_of_ble_eq_true rfl) rfl ?_
    refine V_aload_n (i := 0) (pc := 152) dX11_isBettered_152 rfl rfl ?_
    refine V_iload (i := 6) (pc := 153) dX11_isBettered_153 rfl ?_
    refine V_iconst (v := 2) (pc := 155) dX11_isBettered_155 rfl ?_
    refine V_iload (i := 8) (pc := 156) dX11_isBettered_156 rfl ?_
    obtain ⟨m158, e158, h⟩ := bnd h
    refine V_invV0 (c := 11) (pc := 158) dX11_isBettered_158 (e_Mo_setHeap h_this e158) iv_Mo_284 (rm_Mo_isBettered_Mo_setHeap _ _ _) rfl h_this cf_11 rfl (Nat.le_of_ble_eq_true rfl) rfl ?_
    refine V_sub (ls' := [some (vr this), some (vl v1), none, some (vi v3), some (vi v4), some (vi v5), some (vi v6), none, none, none, none, none, none]) (And.intro rfl (And.intro rfl (And.intro rfl (And.intro rfl (And.intro rfl (And.intro rfl trivial)))))) ?_
    exact k_Mo_isBettered_b161 h_this h hp
  · have h := ite_f q h
    refine V_iconst (v := 0) (pc := 68) dX11_isBettered_68 rfl ?_
    refine V_istore (i := 10) (ls' := [some (vr this), some (vl v1), none, some (vi v3), some (vi v4), some (vi v5), some (vi v6), some (vi v7), some (vi v8), some (vi v9), some (vi 0), none, none]) (pc := 69) dX11_isBettered_69 (Nat.le_of_ble_eq_true rfl) rfl ?_
    exact loop_V (A := fun s : Int64 × Int32 × Int32 × Int32 × Int32 × Mem => V g Y_Mo_isBettered 71 [some (vr this), some (vl s.1), none, some (vi s.2.1), some (vi s.2.2.1), some (vi s.2.2.2.1), some (vi v6), some (vi v7), some (vi v8), some (vi v9), some (vi s.2.2.2.2.1), none, none] [] s.2.2.2.2.2 (PM g Y_Mo_isBettered r m')) (fun s x h hp => k_Mo_isBettered_l71 h_this h hp) (v1, v3, v4, v5, 0, m) _ h hp
theorem k_Mo_isBettered_l17 {g : GE} {this : Nat}  {v1 : Int64} {v3 : Int32} {v4 : Int32} {v5 : Int32} {v6 : Int32} {m : Mem} (h_this : kd this = 12) {r : Option AV} {m' : Mem} {x : (Int64 × Int32 × Int32 × Int32 × Int32 × Mem) ⊕ (Int32 × Mem)} (h : Mo_isBettered_l17 this v1 v3 v4 v5 v6 m = some x) (hp : (Sum.elim (fun s : Int64 × Int32 × Int32 × Int32 × Int32 × Mem => V g Y_Mo_isBettered 17 [some (vr this), some (vl s.1), none, some (vi s.2.1), some (vi s.2.2.1), some (vi s.2.2.2.1), some (vi s.2.2.2.2.1), none, none, none, none, none, none] [] s.2.2.2.2.2 (PM g Y_Mo_isBettered r m')) (fun x : Int32 × Mem => r = some (vi x.1) ∧ m' = x.2)) x) : V g Y_Mo_isBettered 17 [some (vr this), some (vl v1), none, some (vi v3), some (vi v4), some (vi v5), some (vi v6), none, none, none, none, none, none] [] m (PM g Y_Mo_isBettered r m') := by
  unfold Mo_isBettered_l17 at h
  refine V_iload (i := 6) (pc := 17) dX11_isBettered_17 rfl ?_
  refine V_bipush (v := 8) (pc := 19) dX11_isBettered_19 rfl ?_
  refine V_icmp_ge (pc := 21) (tgt := 167) dX11_isBettered_21 rfl (fun q => ?_) (fun q => ?_)
  · have h := ite_t q h
    obtain ⟨y1, hu1, rfl⟩ := up_e h
    have h := hu1
    refine V_iload_n (i := 3) (pc := 167) dX11_isBettered_167 rfl rfl ?_
    refine V_iconst (v := (-1)) (pc := 168) dX11_isBettered_168 rfl ?_
    refine V_icmp_ne (pc := 169) (tgt := 174) dX11_isBettered_169 rfl (fun q => ?_) (fun q => ?_)
    · have h := ite_f q h
      refine V_aload_n (i := 0) (pc := 174) dX11_isBettered_174 rfl rfl ?_
      refine V_iload_n (i := 3) (pc := 175) dX11_isBettered_175 rfl rfl ?_
      refine V_iconst (v := 1) (pc := 176) dX11_isBettered_176 rfl ?_
      refine V_iload (i := 4) (pc := 177) dX11_isBettered_177 rfl ?_
      obtain ⟨m179, e179, h⟩ := bnd h
      refine V_invV0 (c := 11) (pc := 179) dX11_isBettered_179 (e_Mo_setHeap h_this e179) iv_Mo_284 (rm_Mo_isBettered_Mo_setHeap _ _ _) rfl h_this cf_11 rfl (Nat.le_of_ble_eq_true rfl) rfl ?_
      refine V_aload_n (i := 0) (pc := 182) dX11_isBettered_182 rfl rfl ?_
      refine V_iload_n (i := 3) (pc := 183) dX11_isBettered_183 rfl rfl ?_
      refine V_iconst (v := 2) (pc := 184) dX11_isBettered_184 rfl ?_
      refine V_iload (i := 5) (pc := 185) dX11_isBettered_185 rfl ?_
      obtain ⟨m187, e187, h⟩ := bnd h
      refine V_invV0 (c := 11) (pc := 187) dX11_isBettered_187 (e_Mo_setHeap h_this e187) iv_Mo_284 (rm_Mo_isBettered_Mo_setHeap _ _ _) rfl h_this cf_11 rfl (Nat.le_of_ble_eq_true rfl) rfl ?_
      refine V_iconst (v := 1) (pc := 190) dX11_isBettered_190 rfl ?_
      obtain rfl := Option.some.inj h
      exact E_z (pc := 191) dX11_isBettered_191 rfl rfl hp
    · have h := ite_t q h
      refine V_iconst (v := 0) (pc := 172) dX11_isBettered_172 rfl ?_
      obtain rfl := Option.some.inj h
      exact E_z (pc := 173) dX11_isBettered_173 rfl rfl hp
  · have h := ite_f q h
    refine V_aload_n (i := 0) (pc := 24) dX11_isBettered_24 rfl rfl ?_
    refine V_iload (i := 6) (pc := 25) dX11_isBettered_25 rfl ?_
    obtain ⟨r27, e27, h⟩ := bnd h
    refine V_invV1 (c := 11) (pc := 27) dX11_isBettered_27 (e_Mo_isThere h_this e27) iv_Mo_288 (rm_Mo_isBettered_Mo_isThere _ _ _) rfl h_this cf_11 rfl (Nat.le_of_ble_eq_true rfl) rfl ?_
    refine V_if_ne (pc := 30) (tgt := 36) dX11_isBettered_30 rfl (fun q => ?_) (fun q => ?_)
    · have h := ite_f q h
      refine V_aload_n (i := 0) (pc := 36) dX11_isBettered_36 rfl rfl ?_
      refine V_iload (i := 6) (pc := 37) dX11_isBettered_37 rfl ?_
      refine V_iconst (v := 1) (pc := 39) dX11_isBettered_39 rfl ?_
      obtain ⟨r40, e40, h⟩ := bnd h
      refine V_invV1 (c := 11) (pc := 40) dX11_isBettered_40 (e_Mo_ofHeap h_this e40) iv_Mo_88 (rm_Mo_isBettered_Mo_ofHeap _ _ _) rfl h_this cf_11 rfl (Nat.le_of_ble_eq_true rfl) rfl ?_
      refine V_istore (i := 7) (ls' := [some (vr this), some (vl v1), none, some (vi v3), some (vi v4), some (vi v5), some (vi v6), some (vi r40), none, none, none, none, none]) (pc := 43) dX11_isBettered_43 (Nat.le_of_ble_eq_true rfl) rfl ?_
      refine V_aload_n (i := 0) (pc := 45) dX11_isBettered_45 rfl rfl ?_
      refine V_iload (i := 6) (pc := 46) dX11_isBettered_46 rfl ?_
      refine V_iconst (v := 2) (pc := 48) dX11_isBettered_48 rfl ?_
      obtain ⟨r49, e49, h⟩ := bnd h
      refine V_invV1 (c := 11) (pc := 49) dX11_isBettered_49 (e_Mo_ofHeap h_this e49) iv_Mo_88 (rm_Mo_isBettered_Mo_ofHeap _ _ _) rfl h_this cf_11 rfl (Nat.le_of_ble_eq_true rfl) rfl ?_
      refine V_istore (i := 8) (ls' := [some (vr this), some (vl v1), none, some (vi v3), some (vi v4), some (vi v5), some (vi v6), some (vi r40), some (vi r49), none, none, none, none]) (pc := 52) dX11_isBettered_52 (Nat.le_of_ble_eq_true rfl) rfl ?_
      refine V_iconst (v := 0) (pc := 54) dX11_isBettered_54 rfl ?_
      refine V_istore (i := 9) (ls' := [some (vr this), some (vl v1), none, some (vi v3), some (vi v4), some (vi v5), some (vi v6), some (vi r40), some (vi r49), some (vi 0), none, none, none]) (pc := 55) dX11_isBettered_55 (Nat.le_of_ble_eq_true rfl) rfl ?_
      exact loop_V (A := fun s : Int64 × Int32 × Int32 × Int32 × Int32 × Mem => V g Y_Mo_isBettered 57 [some (vr this), some (vl s.1), none, some (vi s.2.1), some (vi s.2.2.1), some (vi s.2.2.2.1), some (vi v6), some (vi r40), some (vi r49), some (vi s.2.2.2.2.1), none, none, none] [] s.2.2.2.2.2 (PM g Y_Mo_isBettered r m')) (fun s x h hp => k_Mo_isBettered_l57 h_this h hp) (v1, v3, v4, v5, 0, m) _ h hp
    · have h := ite_t q h
      refine V_goto (tgt := 161) (pc := 33) dX11_isBettered_33 rfl ?_
      exact k_Mo_isBettered_b161 h_this h hp
theorem k_Mo_isBettered {g : GE} {this : Nat} {m : Mem} (h_this : kd this = 12) {r : Option AV} {m' : Mem} {x : Int32 × Mem} (h : Mo_isBettered this m = some x) (hp : (fun x : Int32 × Mem => r = some (vi x.1) ∧ m' = x.2) x) : V g Y_Mo_isBettered 0 [some (vr this), none, none, none, none, none, none, none, none, none, none, none, none] [] m (PM g Y_Mo_isBettered r m') := by
  unfold Mo_isBettered at h
  refine V_aload_n (i := 0) (pc := 0) dX11_isBettered_0 rfl rfl ?_
  refine V_iconst (v := 1) (pc := 1) dX11_isBettered_1 rfl ?_
  obtain ⟨r2, e2, h⟩ := bnd h
  refine V_invV1 (c := 11) (pc := 2) dX11_isBettered_2 (e_Mo_lostIn h_this e2) iv_Mo_384 (rm_Mo_isBettered_Mo_lostIn _ _ _) rfl h_this cf_11 rfl (Nat.le_of_ble_eq_true rfl) rfl ?_
  refine V_lstore_n (i := 1) (ls' := [some (vr this), some (vl r2.1), none, none, none, none, none, none, none, none, none, none, none]) (pc := 5) dX11_isBettered_5 rfl (Nat.le_of_ble_eq_true rfl) rfl ?_
  refine V_iconst (v := (-1)) (pc := 6) dX11_isBettered_6 rfl ?_
  refine V_istore_n (i := 3) (ls' := [some (vr this), some (vl r2.1), none, some (vi (-1)), none, none, none, none, none, none, none, none, none]) (pc := 7) dX11_isBettered_7 rfl (Nat.le_of_ble_eq_true rfl) rfl ?_
  refine V_iconst (v := 0) (pc := 8) dX11_isBettered_8 rfl ?_
  refine V_istore (i := 4) (ls' := [some (vr this), some (vl r2.1), none, some (vi (-1)), some (vi 0), none, none, none, none, none, none, none, none]) (pc := 9) dX11_isBettered_9 (Nat.le_of_ble_eq_true rfl) rfl ?_
  refine V_iconst (v := 0) (pc := 11) dX11_isBettered_11 rfl ?_
  refine V_istore (i := 5) (ls' := [some (vr this), some (vl r2.1), none, some (vi (-1)), some (vi 0), some (vi 0), none, none, none, none, none, none, none]) (pc := 12) dX11_isBettered_12 (Nat.le_of_ble_eq_true rfl) rfl ?_
  refine V_iconst (v := 0) (pc := 14) dX11_isBettered_14 rfl ?_
  refine V_istore (i := 6) (ls' := [some (vr this), some (vl r2.1), none, some (vi (-1)), some (vi 0), some (vi 0), some (vi 0), none, none, none, none, none, none]) (pc := 15) dX11_isBettered_15 (Nat.le_of_ble_eq_true rfl) rfl ?_
  exact loop_V (A := fun s : Int64 × Int32 × Int32 × Int32 × Int32 × Mem => V g Y_Mo_isBettered 17 [some (vr this), some (vl s.1), none, some (vi s.2.1), some (vi s.2.2.1), some (vi s.2.2.2.1), some (vi s.2.2.2.2.1), none, none, none, none, none, none] [] s.2.2.2.2.2 (PM g Y_Mo_isBettered r m')) (fun s x h hp => k_Mo_isBettered_l17 h_this h hp) (r2.1, (-1), 0, 0, 0, r2.2) _ h hp
theorem e_Mo_isBettered {g : GE} {this : Nat} {m : Mem} (h_this : kd this = 12) {x : Int32 × Mem} (h : Mo_isBettered this m = some x) : Ev g Y_Mo_isBettered [vr this] m (some (vi x.1)) x.2 :=
  Ev_of 12 (by decide +kernel) rfl (Nat.le_of_ble_eq_true rfl) rfl (k_Mo_isBettered h_this h ⟨rfl, rfl⟩)
theorem k_Mo_bettersBy_l2 {g : GE} {this : Nat} {v1 : Int32} {v2 : Int32} {m : Mem} (h_this : kd this = 12) {r : Option AV} {m' : Mem} {x : (Int32 × Mem) ⊕ (Int32 × Mem)} (h : Mo_bettersBy_l2 this v1 v2 m = some x) (hp : (Sum.elim (fun s : Int32 × Mem => V g Y_Mo_bettersBy 2 [some (vr this), some (vi v1), some (vi s.1)] [] s.2 (PM g Y_Mo_bettersBy r m')) (fun x : Int32 × Mem => r = some (vi x.1) ∧ m' = x.2)) x) : V g Y_Mo_bettersBy 2 [some (vr this), some (vi v1), some (vi v2)] [] m (PM g Y_Mo_bettersBy r m') := by
  unfold Mo_bettersBy_l2 at h
  refine V_iload_n (i := 2) (pc := 2) dX11_bettersBy_2 rfl rfl ?_
  refine V_iload_n (i := 1) (pc := 3) dX11_bettersBy_3 rfl rfl ?_
  refine V_icmp_ge (pc := 4) (tgt := 20) dX11_bettersBy_4 rfl (fun q => ?_) (fun q => ?_)
  · have h := ite_t q h
    obtain ⟨y1, hu1, rfl⟩ := up_e h
    have h := hu1
    refine V_iload_n (i := 2) (pc := 20) dX11_bettersBy_20 rfl rfl ?_
    obtain rfl := Option.some.inj h
    exact E_i (pc := 21) dX11_bettersBy_21 rfl hp
  · have h := ite_f q h
    refine V_aload_n (i := 0) (pc := 7) dX11_bettersBy_7 rfl rfl ?_
    obtain ⟨r8, e8, h⟩ := bnd h
    refine V_invV1 (c := 11) (pc := 8) dX11_bettersBy_8 (e_Mo_isBettered h_this e8) iv_Mo_432 (rm_Mo_bettersBy_Mo_isBettered _ _ _) rfl h_this cf_11 rfl (Nat.le_of_ble_eq_true rfl) rfl ?_
    refine V_if_eq (pc := 11) (tgt := 20) dX11_bettersBy_11 rfl (fun q => ?_) (fun q => ?_)
    · have h := ite_t q h
      obtain ⟨y2, hu2, rfl⟩ := up_e h
      have h := hu2
      refine V_iload_n (i := 2) (pc := 20) dX11_bettersBy_20 rfl rfl ?_
      obtain rfl := Option.some.inj h
      exact E_i (pc := 21) dX11_bettersBy_21 rfl hp
    · have h := ite_f q h
      refine V_iinc (i := 2) (v := (v2 + 1)) (ls' := [some (vr this), some (vi v1), some (vi (v2 + 1))]) (pc := 14) dX11_bettersBy_14 rfl rfl (Nat.le_of_ble_eq_true rfl) rfl ?_
      refine V_goto (tgt := 2) (pc := 17) dX11_bettersBy_17 rfl ?_
      obtain rfl := Option.some.inj h
      exact hp
theorem k_Mo_bettersBy {g : GE} {this : Nat} {v1 : Int32} {m : Mem} (h_this : kd this = 12) {r : Option AV} {m' : Mem} {x : Int32 × Mem} (h : Mo_bettersBy this v1 m = some x) (hp : (fun x : Int32 × Mem => r = some (vi x.1) ∧ m' = x.2) x) : V g Y_Mo_bettersBy 0 [some (vr this), some (vi v1), none] [] m (PM g Y_Mo_bettersBy r m') := by
  unfold Mo_bettersBy at h
  refine V_iconst (v := 0) (pc := 0) dX11_bettersBy_0 rfl ?_
  refine V_istore_n (i := 2) (ls' := [some (vr this), some (vi v1), some (vi 0)]) (pc := 1) dX11_bettersBy_1 rfl (Nat.le_of_ble_eq_true rfl) rfl ?_
  exact loop_V (A := fun s : Int32 × Mem => V g Y_Mo_bettersBy 2 [some (vr this), some (vi v1), some (vi s.1)] [] s.2 (PM g Y_Mo_bettersBy r m')) (fun s x h hp => k_Mo_bettersBy_l2 h_this h hp) (0, m) _ h hp
theorem e_Mo_bettersBy {g : GE} {this : Nat} {v1 : Int32} {m : Mem} (h_this : kd this = 12) {x : Int32 × Mem} (h : Mo_bettersBy this v1 m = some x) : Ev g Y_Mo_bettersBy [vr this, vi v1] m (some (vi x.1)) x.2 :=
  Ev_of 1 (by decide +kernel) rfl (Nat.le_of_ble_eq_true rfl) rfl (k_Mo_bettersBy h_this h ⟨rfl, rfl⟩)
theorem k_Mo_betters {g : GE} {this : Nat} {v1 : Int32} {m : Mem} (h_this : kd this = 12) {r : Option AV} {m' : Mem} {x : Int32 × Mem} (h : Mo_betters this v1 m = some x) (hp : (fun x : Int32 × Mem => r = some (vi x.1) ∧ m' = x.2) x) : V g Y_Mo_betters 0 [some (vr this), some (vi v1)] [] m (PM g Y_Mo_betters r m') := by
  unfold Mo_betters at h
  refine V_aload_n (i := 0) (pc := 0) dX11_betters_0 rfl rfl ?_
  obtain ⟨r1, e1, h⟩ := bnd h
  refine V_invV1 (c := 11) (pc := 1) dX11_betters_1 (e_Mo_isFloe h_this e1) iv_Mo_271 (rm_Mo_betters_Mo_isFloe _ _ _) rfl h_this cf_11 rfl (Nat.le_of_ble_eq_true rfl) rfl ?_
  refine V_if_eq (pc := 4) (tgt := 27) dX11_betters_4 rfl (fun q => ?_) (fun q => ?_)
  · have h := ite_t q h
    refine V_bipush (v := (-2)) (pc := 27) dX11_betters_27 rfl ?_
    obtain rfl := Option.some.inj h
    exact E_i (pc := 29) dX11_betters_29 rfl hp
  · have h := ite_f q h
    refine V_iload_n (i := 1) (pc := 7) dX11_betters_7 rfl rfl ?_
    refine V_i2l (pc := 8) dX11_betters_8 ?_
    refine V_lconst (v := 0) (pc := 9) dX11_betters_9 rfl ?_
    refine V_ldc2 (v := 5) (pc := 10) dX11_betters_10 con_Mo_435 ?_
    obtain ⟨r13, e13, h⟩ := bnd h
    refine V_invS1 (pc := 13) dX11_betters_13 (e_Mo_in  e13) is_Mo_84 (rm_Mo_betters_Mo_in _ _ _) rfl (Nat.le_of_ble_eq_true rfl) rfl ?_
    refine V_if_eq (pc := 16) (tgt := 27) dX11_betters_16 rfl (fun q => ?_) (fun q => ?_)
    · have h := ite_t q h
      refine V_bipush (v := (-2)) (pc := 27) dX11_betters_27 rfl ?_
      obtain rfl := Option.some.inj h
      exact E_i (pc := 29) dX11_betters_29 rfl hp
    · have h := ite_f q h
      refine V_aload_n (i := 0) (pc := 19) dX11_betters_19 rfl rfl ?_
      refine V_iload_n (i := 1) (pc := 20) dX11_betters_20 rfl rfl ?_
      obtain ⟨r21, e21, h⟩ := bnd h
      refine V_invV1 (c := 11) (pc := 21) dX11_betters_21 (e_Mo_bettersBy h_this e21) iv_Mo_437 (rm_Mo_betters_Mo_bettersBy _ _ _) rfl h_this cf_11 rfl (Nat.le_of_ble_eq_true rfl) rfl ?_
      refine V_goto (tgt := 29) (pc := 24) dX11_betters_24 rfl ?_
      obtain rfl := Option.some.inj h
      exact E_i (pc := 29) dX11_betters_29 rfl hp
theorem e_Mo_betters {g : GE} {this : Nat} {v1 : Int32} {m : Mem} (h_this : kd this = 12) {x : Int32 × Mem} (h : Mo_betters this v1 m = some x) : Ev g Y_Mo_betters [vr this, vi v1] m (some (vi x.1)) x.2 :=
  Ev_of 0 (by decide +kernel) rfl (Nat.le_of_ble_eq_true rfl) rfl (k_Mo_betters h_this h ⟨rfl, rfl⟩)
theorem k_Mo_gap {g : GE} {this : Nat} {m : Mem} (h_this : kd this = 12) {r : Option AV} {m' : Mem} {x : Int64 × Mem} (h : Mo_gap this m = some x) (hp : (fun x : Int64 × Mem => r = some (vl x.1) ∧ m' = x.2) x) : V g Y_Mo_gap 0 [some (vr this), none, none, none, none] [] m (PM g Y_Mo_gap r m') := by
  unfold Mo_gap at h
  refine V_aload_n (i := 0) (pc := 0) dX11_gap_0 rfl rfl ?_
  obtain ⟨r1, e1, h⟩ := bnd h
  refine V_invV1 (c := 11) (pc := 1) dX11_gap_1 (e_Mo_isFloe h_this e1) iv_Mo_271 (rm_Mo_gap_Mo_isFloe _ _ _) rfl h_this cf_11 rfl (Nat.le_of_ble_eq_true rfl) rfl ?_
  refine V_if_ne (pc := 4) (tgt := 11) dX11_gap_4 rfl (fun q => ?_) (fun q => ?_)
  · have h := ite_f q h
    refine V_aload_n (i := 0) (pc := 11) dX11_gap_11 rfl rfl ?_
    refine V_iconst (v := 1) (pc := 12) dX11_gap_12 rfl ?_
    obtain ⟨r13, e13, h⟩ := bnd h
    refine V_invV1 (c := 11) (pc := 13) dX11_gap_13 (e_Mo_lostIn h_this e13) iv_Mo_384 (rm_Mo_gap_Mo_lostIn _ _ _) rfl h_this cf_11 rfl (Nat.le_of_ble_eq_true rfl) rfl ?_
    refine V_lstore_n (i := 1) (ls' := [some (vr this), some (vl r13.1), none, none, none]) (pc := 16) dX11_gap_16 rfl (Nat.le_of_ble_eq_true rfl) rfl ?_
    refine V_aload_n (i := 0) (pc := 17) dX11_gap_17 rfl rfl ?_
    obtain ⟨m18, e18, h⟩ := bnd h
    refine V_invV0 (c := 11) (pc := 18) dX11_gap_18 (e_Mo_keepsHeaps h_this e18) iv_Mo_420 (rm_Mo_gap_Mo_keepsHeaps _ _ _) rfl h_this cf_11 rfl (Nat.le_of_ble_eq_true rfl) rfl ?_
    refine V_aload_n (i := 0) (pc := 21) dX11_gap_21 rfl rfl ?_
    refine V_iconst (v := 5) (pc := 22) dX11_gap_22 rfl ?_
    obtain ⟨r23, e23, h⟩ := bnd h
    refine V_invV1 (c := 11) (pc := 23) dX11_gap_23 (e_Mo_bettersBy h_this e23) iv_Mo_437 (rm_Mo_gap_Mo_bettersBy _ _ _) rfl h_this cf_11 rfl (Nat.le_of_ble_eq_true rfl) rfl ?_
    refine V_popi (pc := 26) dX11_gap_26 ?_
    refine V_aload_n (i := 0) (pc := 27) dX11_gap_27 rfl rfl ?_
    refine V_iconst (v := 1) (pc := 28) dX11_gap_28 rfl ?_
    obtain ⟨r29, e29, h⟩ := bnd h
    refine V_invV1 (c := 11) (pc := 29) dX11_gap_29 (e_Mo_lostIn h_this e29) iv_Mo_384 (rm_Mo_gap_Mo_lostIn _ _ _) rfl h_this cf_11 rfl (Nat.le_of_ble_eq_true rfl) rfl ?_
    refine V_lstore_n (i := 3) (ls' := [some (vr this), some (vl r13.1), none, some (vl r29.1), none]) (pc := 32) dX11_gap_32 rfl (Nat.le_of_ble_eq_true rfl) rfl ?_
    refine V_aload_n (i := 0) (pc := 33) dX11_gap_33 rfl rfl ?_
    obtain ⟨m34, e34, h⟩ := bnd h
    refine V_invV0 (c := 11) (pc := 34) dX11_gap_34 (e_Mo_givesBack h_this e34) iv_Mo_423 (rm_Mo_gap_Mo_givesBack _ _ _) rfl h_this cf_11 rfl (Nat.le_of_ble_eq_true rfl) rfl ?_
    refine V_lload_n (i := 1) (pc := 37) dX11_gap_37 rfl rfl ?_
    refine V_lload_n (i := 3) (pc := 38) dX11_gap_38 rfl rfl ?_
    refine V_lsub (pc := 39) dX11_gap_39 ?_
    obtain rfl := Option.some.inj h
    exact E_l (pc := 40) dX11_gap_40 rfl hp
  · have h := ite_t q h
    refine V_ldc2 (v := (-2)) (pc := 7) dX11_gap_7 con_Mo_342 ?_
    obtain rfl := Option.some.inj h
    exact E_l (pc := 10) dX11_gap_10 rfl hp
theorem e_Mo_gap {g : GE} {this : Nat} {m : Mem} (h_this : kd this = 12) {x : Int64 × Mem} (h : Mo_gap this m = some x) : Ev g Y_Mo_gap [vr this] m (some (vl x.1)) x.2 :=
  Ev_of 4 (by decide +kernel) rfl (Nat.le_of_ble_eq_true rfl) rfl (k_Mo_gap h_this h ⟨rfl, rfl⟩)
theorem k_Mo_heaps_b92 {g : GE} {this : Nat} {v1 : Int32} {v2 : Int64} {v4 : Int32} {v5 : Int32} {v6 : Int32}  {m : Mem} (h_this : kd this = 12) {r : Option AV} {m' : Mem} {x : (Int32 × Int64 × Int32 × Int32 × Int32 × Mem) ⊕ (Int32 × Mem)} (h : Mo_heaps_b92 this v1 v2 v4 v5 v6 m = some x) (hp : (Sum.elim (fun s : Int32 × Int64 × Int32 × Int32 × Int32 × Mem => V g Y_Mo_heaps 34 [some (vr this), some (vi s.1), some (vl s.2.1), none, some (vi s.2.2.1), some (vi s.2.2.2.1), some (vi s.2.2.2.2.1), none, none] [] s.2.2.2.2.2 (PM g Y_Mo_heaps r m')) (fun x : Int32 × Mem => r = some (vi x.1) ∧ m' = x.2)) x) : V g Y_Mo_heaps 92 [some (vr this), some (vi v1), some (vl v2), none, some (vi v4), some (vi v5), some (vi v6), none, none] [] m (PM g Y_Mo_heaps r m') := by
  unfold Mo_heaps_b92 at h
  refine V_iinc (i := 6) (v := (v6 + 1)) (ls' := [some (vr this), some (vi v1), some (vl v2), none, some (vi v4), some (vi v5), some (vi (v6 + 1)), none, none]) (pc := 92) dX11_heaps_92 rfl rfl (Nat.le_of_ble_eq_true rfl) rfl ?_
  refine V_goto (tgt := 34) (pc := 95) dX11_heaps_95 rfl ?_
  obtain rfl := Option.some.inj h
  exact hp
theorem k_Mo_heaps_b86 {g : GE} {this : Nat} {v4 : Int32} {v5 : Int32} {v6 : Int32} {v7 : Int64}  {m : Mem} (h_this : kd this = 12) {r : Option AV} {m' : Mem} {x : (Int32 × Int64 × Int32 × Int32 × Int32 × Mem) ⊕ (Int32 × Mem)} (h : Mo_heaps_b86 this v4 v5 v6 v7 m = some x) (hp : (Sum.elim (fun s : Int32 × Int64 × Int32 × Int32 × Int32 × Mem => V g Y_Mo_heaps 34 [some (vr this), some (vi s.1), some (vl s.2.1), none, some (vi s.2.2.1), some (vi s.2.2.2.1), some (vi s.2.2.2.2.1), none, none] [] s.2.2.2.2.2 (PM g Y_Mo_heaps r m')) (fun x : Int32 × Mem => r = some (vi x.1) ∧ m' = x.2)) x) : V g Y_Mo_heaps 86 [some (vr this), none, none, none, some (vi v4), some (vi v5), some (vi v6), some (vl v7), none] [] m (PM g Y_Mo_heaps r m') := by
  unfold Mo_heaps_b86 at h
  refine V_iload (i := 6) (pc := 86) dX11_heaps_86 rfl ?_
  refine V_istore_n (i := 1) (ls' := [some (vr this), some (vi v6), none, none, some (vi v4), some (vi v5), some (vi v6), some (vl v7), none]) (pc := 88) dX11_heaps_88 rfl (Nat.le_of_ble_eq_true rfl) rfl ?_
  refine V_lload (i := 7) (pc := 89) dX11_heaps_89 rfl ?_
  refine V_lstore_n (i := 2) (ls' := [some (vr this), some (vi v6), some (vl v7), none, some (vi v4), some (vi v5), some (vi v6), some (vl v7), none]) (pc := 91) dX11_heaps_91 rfl (Nat.le_of_ble_eq_true rfl) rfl ?_
  refine V_sub (ls' := [some (vr this), some (vi v6), some (vl v7), none, some (vi v4), some (vi v5), some (vi v6), none, none]) (And.intro rfl (And.intro rfl (And.intro rfl (And.intro rfl (And.intro rfl (And.intro rfl trivial)))))) ?_
  exact k_Mo_heaps_b92 h_this h hp
theorem k_Mo_heaps_l34 {g : GE} {this : Nat}  {v1 : Int32} {v2 : Int64} {v4 : Int32} {v5 : Int32} {v6 : Int32} {m : Mem} (h_this : kd this = 12) {r : Option AV} {m' : Mem} {x : (Int32 × Int64 × Int32 × Int32 × Int32 × Mem) ⊕ (Int32 × Mem)} (h : Mo_heaps_l34 this v1 v2 v4 v5 v6 m = some x) (hp : (Sum.elim (fun s : Int32 × Int64 × Int32 × Int32 × Int32 × Mem => V g Y_Mo_heaps 34 [some (vr this), some (vi s.1), some (vl s.2.1), none, some (vi s.2.2.1), some (vi s.2.2.2.1), some (vi s.2.2.2.2.1), none, none] [] s.2.2.2.2.2 (PM g Y_Mo_heaps r m')) (fun x : Int32 × Mem => r = some (vi x.1) ∧ m' = x.2)) x) : V g Y_Mo_heaps 34 [some (vr this), some (vi v1), some (vl v2), none, some (vi v4), some (vi v5), some (vi v6), none, none] [] m (PM g Y_Mo_heaps r m') := by
  unfold Mo_heaps_l34 at h
  refine V_iload (i := 6) (pc := 34) dX11_heaps_34 rfl ?_
  refine V_aload_n (i := 0) (pc := 36) dX11_heaps_36 rfl rfl ?_
  obtain ⟨r37, e37, h⟩ := bnd h
  refine V_invV1 (c := 11) (pc := 37) dX11_heaps_37 (e_Mo_heapMany h_this e37) iv_Mo_413 (rm_Mo_heaps_Mo_heapMany _ _ _) rfl h_this cf_11 rfl (Nat.le_of_ble_eq_true rfl) rfl ?_
  refine V_icmp_gt (pc := 40) (tgt := 98) dX11_heaps_40 rfl (fun q => ?_) (fun q => ?_)
  · have h := ite_t q h
    obtain ⟨y1, hu1, rfl⟩ := up_e h
    have h := hu1
    refine V_iload_n (i := 1) (pc := 98) dX11_heaps_98 rfl rfl ?_
    obtain rfl := Option.some.inj h
    exact E_i (pc := 99) dX11_heaps_99 rfl hp
  · have h := ite_f q h
    refine V_aload_n (i := 0) (pc := 43) dX11_heaps_43 rfl rfl ?_
    obtain ⟨r44, e44, h⟩ := bnd h
    refine V_invV1 (c := 11) (pc := 44) dX11_heaps_44 (e_Mo_thereSet h_this e44) iv_Mo_398 (rm_Mo_heaps_Mo_thereSet _ _ _) rfl h_this cf_11 rfl (Nat.le_of_ble_eq_true rfl) rfl ?_
    refine V_iload (i := 5) (pc := 47) dX11_heaps_47 rfl ?_
    obtain ⟨r49, e49, h⟩ := bnd h
    refine V_invS1 (pc := 49) dX11_heaps_49 (e_Mo_round  e49) is_Mo_395 (rm_Mo_heaps_Mo_round _ _ _) rfl (Nat.le_of_ble_eq_true rfl) rfl ?_
    refine V_istore (i := 5) (ls' := [some (vr this), some (vi v1), some (vl v2), none, some (vi v4), some (vi r49), some (vi v6), none, none]) (pc := 52) dX11_heaps_52 (Nat.le_of_ble_eq_true rfl) rfl ?_
    refine V_iload (i := 4) (pc := 54) dX11_heaps_54 rfl ?_
    refine V_iconst (v := 1) (pc := 56) dX11_heaps_56 rfl ?_
    refine V_iload (i := 5) (pc := 57) dX11_heaps_57 rfl ?_
    refine V_ishl (pc := 59) dX11_heaps_59 ?_
    refine V_ior (pc := 60) dX11_heaps_60 ?_
    refine V_istore (i := 4) (ls' := [some (vr this), some (vi v1), some (vl v2), none, some (vi (v4 ||| ((1 : Int32) <<< (r49 &&& 31)))), some (vi r49), some (vi v6), none, none]) (pc := 61) dX11_heaps_61 (Nat.le_of_ble_eq_true rfl) rfl ?_
    refine V_aload_n (i := 0) (pc := 63) dX11_heaps_63 rfl rfl ?_
    refine V_iconst (v := 1) (pc := 64) dX11_heaps_64 rfl ?_
    refine V_iload (i := 4) (pc := 65) dX11_heaps_65 rfl ?_
    obtain ⟨r67, e67, h⟩ := bnd h
    refine V_invV1 (c := 11) (pc := 67) dX11_heaps_67 (e_Mo_trialOf h_this e67) iv_Mo_428 (rm_Mo_heaps_Mo_trialOf _ _ _) rfl h_this cf_11 rfl (Nat.le_of_ble_eq_true rfl) rfl ?_
    refine V_lstore (i := 7) (ls' := [some (vr this), some (vi v1), some (vl v2), none, some (vi (v4 ||| ((1 : Int32) <<< (r49 &&& 31)))), some (vi r49), some (vi v6), some (vl r67.1), none]) (pc := 70) dX11_heaps_70 (Nat.le_of_ble_eq_true rfl) rfl ?_
    refine V_iload_n (i := 1) (pc := 72) dX11_heaps_72 rfl rfl ?_
    refine V_if_le (pc := 73) (tgt := 86) dX11_heaps_73 rfl (fun q => ?_) (fun q => ?_)
    · have h := ite_t q h
      refine V_sub (ls' := [some (vr this), none, none, none, some (vi (v4 ||| ((1 : Int32) <<< (r49 &&& 31)))), some (vi r49), some (vi v6), some (vl r67.1), none]) (And.intro rfl (And.intro rfl (And.intro rfl (And.intro rfl (And.intro rfl trivial))))) ?_
      exact k_Mo_heaps_b86 h_this h hp
    · have h := ite_f q h
      refine V_lload (i := 7) (pc := 76) dX11_heaps_76 rfl ?_
      refine V_lload_n (i := 2) (pc := 78) dX11_heaps_78 rfl rfl ?_
      refine V_lif_lt (pc := 79) (tgt := 86) dX11_heaps_79 dX11_heaps_80 rfl (fun q => ?_) (fun q => ?_)
      · have h := ite_t q h
        refine V_sub (ls' := [some (vr this), none, none, none, some (vi (v4 ||| ((1 : Int32) <<< (r49 &&& 31)))), some (vi r49), some (vi v6), some (vl r67.1), none]) (And.intro rfl (And.intro rfl (And.intro rfl (And.intro rfl (And.intro rfl trivial))))) ?_
        exact k_Mo_heaps_b86 h_this h hp
      · have h := ite_f q h
        refine V_goto (tgt := 92) (pc := 83) dX11_heaps_83 rfl ?_
        refine V_sub (ls' := [some (vr this), some (vi v1), some (vl v2), none, some (vi (v4 ||| ((1 : Int32) <<< (r49 &&& 31)))), some (vi r49), some (vi v6), none, none]) (And.intro rfl (And.intro rfl (And.intro rfl (And.intro rfl (And.intro rfl (And.intro rfl trivial)))))) ?_
        exact k_Mo_heaps_b92 h_this h hp
theorem k_Mo_heaps {g : GE} {this : Nat} {m : Mem} (h_this : kd this = 12) {r : Option AV} {m' : Mem} {x : Int32 × Mem} (h : Mo_heaps this m = some x) (hp : (fun x : Int32 × Mem => r = some (vi x.1) ∧ m' = x.2) x) : V g Y_Mo_heaps 0 [some (vr this), none, none, none, none, none, none, none, none] [] m (PM g Y_Mo_heaps r m') := by
  unfold Mo_heaps at h
  refine V_aload_n (i := 0) (pc := 0) dX11_heaps_0 rfl rfl ?_
  obtain ⟨r1, e1, h⟩ := bnd h
  refine V_invV1 (c := 11) (pc := 1) dX11_heaps_1 (e_Mo_isFloe h_this e1) iv_Mo_271 (rm_Mo_heaps_Mo_isFloe _ _ _) rfl h_this cf_11 rfl (Nat.le_of_ble_eq_true rfl) rfl ?_
  refine V_if_ne (pc := 4) (tgt := 10) dX11_heaps_4 rfl (fun q => ?_) (fun q => ?_)
  · have h := ite_f q h
    refine V_aload_n (i := 0) (pc := 10) dX11_heaps_10 rfl rfl ?_
    obtain ⟨r11, e11, h⟩ := bnd h
    refine V_invV1 (c := 11) (pc := 11) dX11_heaps_11 (e_Mo_heapMany h_this e11) iv_Mo_413 (rm_Mo_heaps_Mo_heapMany _ _ _) rfl h_this cf_11 rfl (Nat.le_of_ble_eq_true rfl) rfl ?_
    refine V_if_ne (pc := 14) (tgt := 20) dX11_heaps_14 rfl (fun q => ?_) (fun q => ?_)
    · have h := ite_f q h
      refine V_iconst (v := 0) (pc := 20) dX11_heaps_20 rfl ?_
      refine V_istore_n (i := 1) (ls' := [some (vr this), some (vi 0), none, none, none, none, none, none, none]) (pc := 21) dX11_heaps_21 rfl (Nat.le_of_ble_eq_true rfl) rfl ?_
      refine V_lconst (v := 0) (pc := 22) dX11_heaps_22 rfl ?_
      refine V_lstore_n (i := 2) (ls' := [some (vr this), some (vi 0), some (vl 0), none, none, none, none, none, none]) (pc := 23) dX11_heaps_23 rfl (Nat.le_of_ble_eq_true rfl) rfl ?_
      refine V_iconst (v := 0) (pc := 24) dX11_heaps_24 rfl ?_
      refine V_istore (i := 4) (ls' := [some (vr this), some (vi 0), some (vl 0), none, some (vi 0), none, none, none, none]) (pc := 25) dX11_heaps_25 (Nat.le_of_ble_eq_true rfl) rfl ?_
      refine V_bipush (v := 7) (pc := 27) dX11_heaps_27 rfl ?_
      refine V_istore (i := 5) (ls' := [some (vr this), some (vi 0), some (vl 0), none, some (vi 0), some (vi 7), none, none, none]) (pc := 29) dX11_heaps_29 (Nat.le_of_ble_eq_true rfl) rfl ?_
      refine V_iconst (v := 1) (pc := 31) dX11_heaps_31 rfl ?_
      refine V_istore (i := 6) (ls' := [some (vr this), some (vi 0), some (vl 0), none, some (vi 0), some (vi 7), some (vi 1), none, none]) (pc := 32) dX11_heaps_32 (Nat.le_of_ble_eq_true rfl) rfl ?_
      exact loop_V (A := fun s : Int32 × Int64 × Int32 × Int32 × Int32 × Mem => V g Y_Mo_heaps 34 [some (vr this), some (vi s.1), some (vl s.2.1), none, some (vi s.2.2.1), some (vi s.2.2.2.1), some (vi s.2.2.2.2.1), none, none] [] s.2.2.2.2.2 (PM g Y_Mo_heaps r m')) (fun s x h hp => k_Mo_heaps_l34 h_this h hp) (0, 0, 0, 7, 1, m) _ h hp
    · have h := ite_t q h
      refine V_bipush (v := (-5)) (pc := 17) dX11_heaps_17 rfl ?_
      obtain rfl := Option.some.inj h
      exact E_i (pc := 19) dX11_heaps_19 rfl hp
  · have h := ite_t q h
    refine V_bipush (v := (-2)) (pc := 7) dX11_heaps_7 rfl ?_
    obtain rfl := Option.some.inj h
    exact E_i (pc := 9) dX11_heaps_9 rfl hp
theorem e_Mo_heaps {g : GE} {this : Nat} {m : Mem} (h_this : kd this = 12) {x : Int32 × Mem} (h : Mo_heaps this m = some x) : Ev g Y_Mo_heaps [vr this] m (some (vi x.1)) x.2 :=
  Ev_of 8 (by decide +kernel) rfl (Nat.le_of_ble_eq_true rfl) rfl (k_Mo_heaps h_this h ⟨rfl, rfl⟩)
theorem k_Mo_where_b133 {g : GE} {this : Nat} {v1 : Int32} {v2 : Int32} {v3 : Int32} {v4 : Int32} {v5 : Int64} {v7 : Int32} {v8 : Int32}  {m : Mem} (h_this : kd this = 12) {r : Option AV} {m' : Mem} {x : (Int32 × Int64 × Int32 × Mem) ⊕ ((Int32 × Int64 × Int32 × Mem) ⊕ (Int32 × Mem))} (h : Mo_where_b133 this v1 v2 v3 v4 v5 v7 v8 m = some x) (hp : (Sum.elim (fun s : Int32 × Int64 × Int32 × Mem => V g Y_Mo_where 54 [some (vr this), some (vi v1), some (vi v2), some (vi v3), some (vi s.1), some (vl s.2.1), none, some (vi v7), some (vi s.2.2.1), none, none] [] s.2.2.2 (PM g Y_Mo_where r m')) (Sum.elim (fun s : Int32 × Int64 × Int32 × Mem => V g Y_Mo_where 40 [some (vr this), some (vi v1), some (vi v2), some (vi v3), some (vi s.1), some (vl s.2.1), none, some (vi s.2.2.1), none, none, none] [] s.2.2.2 (PM g Y_Mo_where r m')) (fun x : Int32 × Mem => r = some (vi x.1) ∧ m' = x.2))) x) : V g Y_Mo_where 133 [some (vr this), some (vi v1), some (vi v2), some (vi v3), some (vi v4), some (vl v5), none, some (vi v7), some (vi v8), none, none] [] m (PM g Y_Mo_where r m') := by
  unfold Mo_where_b133 at h
  refine V_iinc (i := 8) (v := (v8 + 1)) (ls' := [some (vr this), some (vi v1), some (vi v2), some (vi v3), some (vi v4), some (vl v5), none, some (vi v7), some (vi (v8 + 1)), none, none]) (pc := 133) dX11_where_133 rfl rfl (Nat.le_of_ble_eq_true rfl) rfl ?_
  refine V_goto (tgt := 54) (pc := 136) dX11_where_136 rfl ?_
  obtain rfl := Option.some.inj h
  exact hp
theorem k_Mo_where_b119 {g : GE} {this : Nat} {v1 : Int32} {v2 : Int32} {v3 : Int32} {v7 : Int32} {v8 : Int32} {v9 : Int64}  {m : Mem} (h_this : kd this = 12) {r : Option AV} {m' : Mem} {x : (Int32 × Int64 × Int32 × Mem) ⊕ ((Int32 × Int64 × Int32 × Mem) ⊕ (Int32 × Mem))} (h : Mo_where_b119 this v1 v2 v3 v7 v8 v9 m = some x) (hp : (Sum.elim (fun s : Int32 × Int64 × Int32 × Mem => V g Y_Mo_where 54 [some (vr this), some (vi v1), some (vi v2), some (vi v3), some (vi s.1), some (vl s.2.1), none, some (vi v7), some (vi s.2.2.1), none, none] [] s.2.2.2 (PM g Y_Mo_where r m')) (Sum.elim (fun s : Int32 × Int64 × Int32 × Mem => V g Y_Mo_where 40 [some (vr this), some (vi v1), some (vi v2), some (vi v3), some (vi s.1), some (vl s.2.1), none, some (vi s.2.2.1), none, none, none] [] s.2.2.2 (PM g Y_Mo_where r m')) (fun x : Int32 × Mem => r = some (vi x.1) ∧ m' = x.2))) x) : V g Y_Mo_where 119 [some (vr this), some (vi v1), some (vi v2), some (vi v3), none, none, none, some (vi v7), some (vi v8), some (vl v9), none] [] m (PM g Y_Mo_where r m') := by
  unfold Mo_where_b119 at h
  refine V_iload (i := 8) (pc := 119) dX11_where_119 rfl ?_
  refine V_bipush (v := 12) (pc := 121) dX11_where_121 rfl ?_
  refine V_iload (i := 7) (pc := 123) dX11_where_123 rfl ?_
  refine V_imul (pc := 125) dX11_where_125 ?_
  refine V_iadd (pc := 126) dX11_where_126 ?_
  refine V_istore (i := 4) (ls' := [some (vr this), some (vi v1), some (vi v2), some (vi v3), some (vi (v8 + (12 * v7))), none, none, some (vi v7), some (vi v8), some (vl v9), none]) (pc := 127) dX11_where_127 (Nat.le_of_ble_eq_true rfl) rfl ?_
  refine V_lload (i := 9) (pc := 129) dX11_where_129 rfl ?_
  refine V_lstore (i := 5) (ls' := [some (vr this), some (vi v1), some (vi v2), some (vi v3), some (vi (v8 + (12 * v7))), some (vl v9), none, some (vi v7), some (vi v8), some (vl v9), none]) (pc := 131) dX11_where_131 (Nat.le_of_ble_eq_true rfl) rfl ?_
  refine V_sub (ls' := [some (vr this), some (vi v1), some (vi v2), some (vi v3), some (vi (v8 + (12 * v7))), some (vl v9), none, some (vi v7), some (vi v8), none, none]) (And.intro rfl (And.intro rfl (And.intro rfl (And.intro rfl (And.intro rfl (And.intro rfl (And.intro rfl (And.intro rfl trivial)))))))) ?_
  exact k_Mo_where_b133 h_this h hp
theorem k_Mo_where_l54 {g : GE} {this : Nat} {v1 : Int32} {v2 : Int32} {v3 : Int32} {v7 : Int32} {v4 : Int32} {v5 : Int64} {v8 : Int32} {m : Mem} (h_this : kd this = 12) {r : Option AV} {m' : Mem} {x : (Int32 × Int64 × Int32 × Mem) ⊕ ((Int32 × Int64 × Int32 × Mem) ⊕ (Int32 × Mem))} (h : Mo_where_l54 this v1 v2 v3 v7 v4 v5 v8 m = some x) (hp : (Sum.elim (fun s : Int32 × Int64 × Int32 × Mem => V g Y_Mo_where 54 [some (vr this), some (vi v1), some (vi v2), some (vi v3), some (vi s.1), some (vl s.2.1), none, some (vi v7), some (vi s.2.2.1), none, none] [] s.2.2.2 (PM g Y_Mo_where r m')) (Sum.elim (fun s : Int32 × Int64 × Int32 × Mem => V g Y_Mo_where 40 [some (vr this), some (vi v1), some (vi v2), some (vi v3), some (vi s.1), some (vl s.2.1), none, some (vi s.2.2.1), none, none, none] [] s.2.2.2 (PM g Y_Mo_where r m')) (fun x : Int32 × Mem => r = some (vi x.1) ∧ m' = x.2))) x) : V g Y_Mo_where 54 [some (vr this), some (vi v1), some (vi v2), some (vi v3), some (vi v4), some (vl v5), none, some (vi v7), some (vi v8), none, none] [] m (PM g Y_Mo_where r m') := by
  unfold Mo_where_l54 at h
  refine V_iload (i := 8) (pc := 54) dX11_where_54 rfl ?_
  refine V_aload_n (i := 0) (pc := 56) dX11_where_56 rfl rfl ?_
  refine V_getR (b := (this + 1)) (pc := 57) dX11_where_57 fl_Mo_13 h_this rfl rfl ?_
  refine V_iconst (v := 1) (pc := 60) dX11_where_60 rfl ?_
  obtain ⟨hg61, h⟩ := gd_e h
  refine V_iald (pc := 61) dX11_where_61 (kf_11_1 h_this) (af_11_1 h_this) hg61 ?_
  refine V_icmp_ge (pc := 62) (tgt := 139) dX11_where_62 rfl (fun q => ?_) (fun q => ?_)
  · have h := ite_t q h
    obtain ⟨y2, hu2, rfl⟩ := up_e h
    have h := hu2
    refine V_iinc (i := 7) (v := (v7 + 1)) (ls' := [some (vr this), some (vi v1), some (vi v2), some (vi v3), some (vi v4), some (vl v5), none, some (vi (v7 + 1)), some (vi v8), none, none]) (pc := 139) dX11_where_139 rfl rfl (Nat.le_of_ble_eq_true rfl) rfl ?_
    refine V_goto (tgt := 40) (pc := 142) dX11_where_142 rfl ?_
    refine V_sub (ls' := [some (vr this), some (vi v1), some (vi v2), some (vi v3), some (vi v4), some (vl v5), none, some (vi (v7 + 1)), none, none, none]) (And.intro rfl (And.intro rfl (And.intro rfl (And.intro rfl (And.intro rfl (And.intro rfl (And.intro rfl trivial))))))) ?_
    obtain rfl := Option.some.inj h
    exact hp
  · have h := ite_f q h
    refine V_aload_n (i := 0) (pc := 65) dX11_where_65 rfl rfl ?_
    refine V_getR (b := (this + 1)) (pc := 66) dX11_where_66 fl_Mo_13 h_this rfl rfl ?_
    refine V_sipush (v := 188) (pc := 69) dX11_where_69 rfl ?_
    refine V_iconst (v := 3) (pc := 72) dX11_where_72 rfl ?_
    refine V_iload_n (i := 1) (pc := 73) dX11_where_73 rfl rfl ?_
    refine V_imul (pc := 74) dX11_where_74 ?_
    refine V_iadd (pc := 75) dX11_where_75 ?_
    refine V_iload (i := 8) (pc := 76) dX11_where_76 rfl ?_
    obtain ⟨hg78, h⟩ := gd_e h
    refine V_iast_lt (pc := 78) dX11_where_78 (kf_11_1 h_this) (af_11_1 h_this) hg78 h (fun m78 h => ?_)
    refine V_aload_n (i := 0) (pc := 79) dX11_where_79 rfl rfl ?_
    refine V_getR (b := (this + 1)) (pc := 80) dX11_where_80 fl_Mo_13 h_this rfl rfl ?_
    refine V_sipush (v := 188) (pc := 83) dX11_where_83 rfl ?_
    refine V_iconst (v := 3) (pc := 86) dX11_where_86 rfl ?_
    refine V_iload_n (i := 1) (pc := 87) dX11_where_87 rfl rfl ?_
    refine V_imul (pc := 88) dX11_where_88 ?_
    refine V_iadd (pc := 89) dX11_where_89 ?_
    refine V_iconst (v := 1) (pc := 90) dX11_where_90 rfl ?_
    refine V_iadd (pc := 91) dX11_where_91 ?_
    refine V_iload (i := 7) (pc := 92) dX11_where_92 rfl ?_
    obtain ⟨hg94, h⟩ := gd_e h
    refine V_iast_lt (pc := 94) dX11_where_94 (kf_11_1 h_this) (af_11_1 h_this) hg94 h (fun m94 h => ?_)
    refine V_aload_n (i := 0) (pc := 95) dX11_where_95 rfl rfl ?_
    refine V_iconst (v := 1) (pc := 96) dX11_where_96 rfl ?_
    obtain ⟨r97, e97, h⟩ := bnd h
    refine V_invV1 (c := 11) (pc := 97) dX11_where_97 (e_Mo_lostIn h_this e97) iv_Mo_384 (rm_Mo_where_Mo_lostIn _ _ _) rfl h_this cf_11 rfl (Nat.le_of_ble_eq_true rfl) rfl ?_
    refine V_lstore (i := 9) (ls' := [some (vr this), some (vi v1), some (vi v2), some (vi v3), some (vi v4), some (vl v5), none, some (vi v7), some (vi v8), some (vl r97.1), none]) (pc := 100) dX11_where_100 (Nat.le_of_ble_eq_true rfl) rfl ?_
    refine V_iload (i := 4) (pc := 102) dX11_where_102 rfl ?_
    refine V_iconst (v := (-1)) (pc := 104) dX11_where_104 rfl ?_
    refine V_icmp_eq (pc := 105) (tgt := 119) dX11_where_105 rfl (fun q => ?_) (fun q => ?_)
    · have h := ite_t q h
      refine V_sub (ls' := [some (vr this), some (vi v1), some (vi v2), some (vi v3), none, none, none, some (vi v7), some (vi v8), some (vl r97.1), none]) (And.intro rfl (And.intro rfl (And.intro rfl (And.intro rfl (And.intro rfl (And.intro rfl (And.intro rfl trivial))))))) ?_
      exact k_Mo_where_b119 h_this h hp
    · have h := ite_f q h
      refine V_lload (i := 9) (pc := 108) dX11_where_108 rfl ?_
      refine V_lload (i := 5) (pc := 110) dX11_where_110 rfl ?_
      refine V_lif_lt (pc := 112) (tgt := 119) dX11_where_112 dX11_where_113 rfl (fun q => ?_) (fun q => ?_)
      · have h := ite_t q h
        refine V_sub (ls' := [some (vr this), some (vi v1), some (vi v2), some (vi v3), none, none, none, some (vi v7), some (vi v8), some (vl r97.1), none]) (And.intro rfl (And.intro rfl (And.intro rfl (And.intro rfl (And.intro rfl (And.intro rfl (And.intro rfl trivial))))))) ?_
        exact k_Mo_where_b119 h_this h hp
      · have h := ite_f q h
        refine V_goto (tgt := 133) (pc := 116) dX11_where_116 rfl ?_
        refine V_sub (ls' := [some (vr this), some (vi v1), some (vi v2), some (vi v3), some (vi v4), some (vl v5), none, some (vi v7), some (vi v8), none, none]) (And.intro rfl (And.intro rfl (And.intro rfl (And.intro rfl (And.intro rfl (And.intro rfl (And.intro rfl (And.intro rfl trivial)))))))) ?_
        exact k_Mo_where_b133 h_this h hp
theorem k_Mo_where_l40 {g : GE} {this : Nat} {v1 : Int32} {v2 : Int32} {v3 : Int32} {v4 : Int32} {v5 : Int64} {v7 : Int32} {m : Mem} (h_this : kd this = 12) {r : Option AV} {m' : Mem} {x : (Int32 × Int64 × Int32 × Mem) ⊕ (Int32 × Mem)} (h : Mo_where_l40 this v1 v2 v3 v4 v5 v7 m = some x) (hp : (Sum.elim (fun s : Int32 × Int64 × Int32 × Mem => V g Y_Mo_where 40 [some (vr this), some (vi v1), some (vi v2), some (vi v3), some (vi s.1), some (vl s.2.1), none, some (vi s.2.2.1), none, none, none] [] s.2.2.2 (PM g Y_Mo_where r m')) (fun x : Int32 × Mem => r = some (vi x.1) ∧ m' = x.2)) x) : V g Y_Mo_where 40 [some (vr this), some (vi v1), some (vi v2), some (vi v3), some (vi v4), some (vl v5), none, some (vi v7), none, none, none] [] m (PM g Y_Mo_where r m') := by
  unfold Mo_where_l40 at h
  refine V_iload (i := 7) (pc := 40) dX11_where_40 rfl ?_
  refine V_aload_n (i := 0) (pc := 42) dX11_where_42 rfl rfl ?_
  refine V_getR (b := (this + 1)) (pc := 43) dX11_where_43 fl_Mo_13 h_this rfl rfl ?_
  refine V_iconst (v := 2) (pc := 46) dX11_where_46 rfl ?_
  obtain ⟨hg47, h⟩ := gd_e h
  refine V_iald (pc := 47) dX11_where_47 (kf_11_1 h_this) (af_11_1 h_this) hg47 ?_
  refine V_icmp_ge (pc := 48) (tgt := 145) dX11_where_48 rfl (fun q => ?_) (fun q => ?_)
  · have h := ite_t q h
    obtain ⟨y1, hu1, rfl⟩ := up_e h
    have h := hu1
    refine V_aload_n (i := 0) (pc := 145) dX11_where_145 rfl rfl ?_
    refine V_getR (b := (this + 1)) (pc := 146) dX11_where_146 fl_Mo_13 h_this rfl rfl ?_
    refine V_sipush (v := 188) (pc := 149) dX11_where_149 rfl ?_
    refine V_iconst (v := 3) (pc := 152) dX11_where_152 rfl ?_
    refine V_iload_n (i := 1) (pc := 153) dX11_where_153 rfl rfl ?_
    refine V_imul (pc := 154) dX11_where_154 ?_
    refine V_iadd (pc := 155) dX11_where_155 ?_
    refine V_iload_n (i := 2) (pc := 156) dX11_where_156 rfl rfl ?_
    obtain ⟨hg157, h⟩ := gd_e h
    refine V_iast_lt (pc := 157) dX11_where_157 (kf_11_1 h_this) (af_11_1 h_this) hg157 h (fun m157 h => ?_)
    refine V_aload_n (i := 0) (pc := 158) dX11_where_158 rfl rfl ?_
    refine V_getR (b := (this + 1)) (pc := 159) dX11_where_159 fl_Mo_13 h_this rfl rfl ?_
    refine V_sipush (v := 188) (pc := 162) dX11_where_162 rfl ?_
    refine V_iconst (v := 3) (pc := 165) dX11_where_165 rfl ?_
    refine V_iload_n (i := 1) (pc := 166) dX11_where_166 rfl rfl ?_
    refine V_imul (pc := 167) dX11_where_167 ?_
    refine V_iadd (pc := 168) dX11_where_168 ?_
    refine V_iconst (v := 1) (pc := 169) dX11_where_169 rfl ?_
    refine V_iadd (pc := 170) dX11_where_170 ?_
    refine V_iload_n (i := 3) (pc := 171) dX11_where_171 rfl rfl ?_
    obtain ⟨hg172, h⟩ := gd_e h
    refine V_iast_lt (pc := 172) dX11_where_172 (kf_11_1 h_this) (af_11_1 h_this) hg172 h (fun m172 h => ?_)
    refine V_iload (i := 4) (pc := 173) dX11_where_173 rfl ?_
    obtain rfl := Option.some.inj h
    exact E_i (pc := 175) dX11_where_175 rfl hp
  · have h := ite_f q h
    refine V_iconst (v := 0) (pc := 51) dX11_where_51 rfl ?_
    refine V_istore (i := 8) (ls' := [some (vr this), some (vi v1), some (vi v2), some (vi v3), some (vi v4), some (vl v5), none, some (vi v7), some (vi 0), none, none]) (pc := 52) dX11_where_52 (Nat.le_of_ble_eq_true rfl) rfl ?_
    exact loop_V (A := fun s : Int32 × Int64 × Int32 × Mem => V g Y_Mo_where 54 [some (vr this), some (vi v1), some (vi v2), some (vi v3), some (vi s.1), some (vl s.2.1), none, some (vi v7), some (vi s.2.2.1), none, none] [] s.2.2.2 (PM g Y_Mo_where r m')) (fun s x h hp => k_Mo_where_l54 h_this h hp) (v4, v5, 0, m) _ h hp
theorem k_Mo_where {g : GE} {this : Nat} {v1 : Int32} {m : Mem} (h_this : kd this = 12) {r : Option AV} {m' : Mem} {x : Int32 × Mem} (h : Mo_where this v1 m = some x) (hp : (fun x : Int32 × Mem => r = some (vi x.1) ∧ m' = x.2) x) : V g Y_Mo_where 0 [some (vr this), some (vi v1), none, none, none, none, none, none, none, none, none] [] m (PM g Y_Mo_where r m') := by
  unfold Mo_where at h
  refine V_iload_n (i := 1) (pc := 0) dX11_where_0 rfl rfl ?_
  obtain ⟨r1, e1, h⟩ := bnd h
  refine V_invS1 (pc := 1) dX11_where_1 (e_Mo_isGroup  e1) is_Mo_303 (rm_Mo_where_Mo_isGroup _ _ _) rfl (Nat.le_of_ble_eq_true rfl) rfl ?_
  refine V_if_eq (pc := 4) (tgt := 14) dX11_where_4 rfl (fun q => ?_) (fun q => ?_)
  · have h := ite_t q h
    refine V_bipush (v := (-2)) (pc := 14) dX11_where_14 rfl ?_
    obtain rfl := Option.some.inj h
    exact E_i (pc := 16) dX11_where_16 rfl hp
  · have h := ite_f q h
    refine V_aload_n (i := 0) (pc := 7) dX11_where_7 rfl rfl ?_
    obtain ⟨r8, e8, h⟩ := bnd h
    refine V_invV1 (c := 11) (pc := 8) dX11_where_8 (e_Mo_isFloe h_this e8) iv_Mo_271 (rm_Mo_where_Mo_isFloe _ _ _) rfl h_this cf_11 rfl (Nat.le_of_ble_eq_true rfl) rfl ?_
    refine V_if_ne (pc := 11) (tgt := 17) dX11_where_11 rfl (fun q => ?_) (fun q => ?_)
    · have h := ite_f q h
      refine V_aload_n (i := 0) (pc := 17) dX11_where_17 rfl rfl ?_
      refine V_iload_n (i := 1) (pc := 18) dX11_where_18 rfl rfl ?_
      refine V_iconst (v := 0) (pc := 19) dX11_where_19 rfl ?_
      obtain ⟨r20, e20, h⟩ := bnd h
      refine V_invV1 (c := 11) (pc := 20) dX11_where_20 (e_Mo_ofGroup h_this e20) iv_Mo_300 (rm_Mo_where_Mo_ofGroup _ _ _) rfl h_this cf_11 rfl (Nat.le_of_ble_eq_true rfl) rfl ?_
      refine V_istore_n (i := 2) (ls' := [some (vr this), some (vi v1), some (vi r20), none, none, none, none, none, none, none, none]) (pc := 23) dX11_where_23 rfl (Nat.le_of_ble_eq_true rfl) rfl ?_
      refine V_aload_n (i := 0) (pc := 24) dX11_where_24 rfl rfl ?_
      refine V_iload_n (i := 1) (pc := 25) dX11_where_25 rfl rfl ?_
      refine V_iconst (v := 1) (pc := 26) dX11_where_26 rfl ?_
      obtain ⟨r27, e27, h⟩ := bnd h
      refine V_invV1 (c := 11) (pc := 27) dX11_where_27 (e_Mo_ofGroup h_this e27) iv_Mo_300 (rm_Mo_where_Mo_ofGroup _ _ _) rfl h_this cf_11 rfl (Nat.le_of_ble_eq_true rfl) rfl ?_
      refine V_istore_n (i := 3) (ls' := [some (vr this), some (vi v1), some (vi r20), some (vi r27), none, none, none, none, none, none, none]) (pc := 30) dX11_where_30 rfl (Nat.le_of_ble_eq_true rfl) rfl ?_
      refine V_iconst (v := (-1)) (pc := 31) dX11_where_31 rfl ?_
      refine V_istore (i := 4) (ls' := [some (vr this), some (vi v1), some (vi r20), some (vi r27), some (vi (-1)), none, none, none, none, none, none]) (pc := 32) dX11_where_32 (Nat.le_of_ble_eq_true rfl) rfl ?_
      refine V_lconst (v := 0) (pc := 34) dX11_where_34 rfl ?_
      refine V_lstore (i := 5) (ls' := [some (vr this), some (vi v1), some (vi r20), some (vi r27), some (vi (-1)), some (vl 0), none, none, none, none, none]) (pc := 35) dX11_where_35 (Nat.le_of_ble_eq_true rfl) rfl ?_
      refine V_iconst (v := 0) (pc := 37) dX11_where_37 rfl ?_
      refine V_istore (i := 7) (ls' := [some (vr this), some (vi v1), some (vi r20), some (vi r27), some (vi (-1)), some (vl 0), none, some (vi 0), none, none, none]) (pc := 38) dX11_where_38 (Nat.le_of_ble_eq_true rfl) rfl ?_
      exact loop_V (A := fun s : Int32 × Int64 × Int32 × Mem => V g Y_Mo_where 40 [some (vr this), some (vi v1), some (vi r20), some (vi r27), some (vi s.1), some (vl s.2.1), none, some (vi s.2.2.1), none, none, none] [] s.2.2.2 (PM g Y_Mo_where r m')) (fun s x h hp => k_Mo_where_l40 h_this h hp) ((-1), 0, 0, m) _ h hp
    · have h := ite_t q h
      refine V_bipush (v := (-2)) (pc := 14) dX11_where_14 rfl ?_
      obtain rfl := Option.some.inj h
      exact E_i (pc := 16) dX11_where_16 rfl hp
theorem e_Mo_where {g : GE} {this : Nat} {v1 : Int32} {m : Mem} (h_this : kd this = 12) {x : Int32 × Mem} (h : Mo_where this v1 m = some x) : Ev g Y_Mo_where [vr this, vi v1] m (some (vi x.1)) x.2 :=
  Ev_of 9 (by decide +kernel) rfl (Nat.le_of_ble_eq_true rfl) rfl (k_Mo_where h_this h ⟨rfl, rfl⟩)
theorem k_Mo_watchOf_l7 {g : GE} {this : Nat} {v1 : Int32} {v2 : Int64} {v4 : Int32} {m : Mem} (h_this : kd this = 12) {r : Option AV} {m' : Mem} {x : (Int64 × Int32) ⊕ (Int64)} (h : Mo_watchOf_l7 this v1 v2 v4 m = some x) (hp : (Sum.elim (fun s : Int64 × Int32 => V g Y_Mo_watchOf 7 [some (vr this), some (vi v1), some (vl s.1), none, some (vi s.2)] [] m (PM g Y_Mo_watchOf r m')) (fun x : Int64 => r = some (vl x) ∧ m' = m)) x) : V g Y_Mo_watchOf 7 [some (vr this), some (vi v1), some (vl v2), none, some (vi v4)] [] m (PM g Y_Mo_watchOf r m') := by
  unfold Mo_watchOf_l7 at h
  refine V_iload (i := 4) (pc := 7) dX11_watchOf_7 rfl ?_
  refine V_iload_n (i := 1) (pc := 9) dX11_watchOf_9 rfl rfl ?_
  refine V_icmp_ge (pc := 10) (tgt := 37) dX11_watchOf_10 rfl (fun q => ?_) (fun q => ?_)
  · have h := ite_t q h
    obtain ⟨y1, hu1, rfl⟩ := up_e h
    have h := hu1
    refine V_lload_n (i := 2) (pc := 37) dX11_watchOf_37 rfl rfl ?_
    obtain rfl := Option.some.inj h
    exact E_l (pc := 38) dX11_watchOf_38 rfl hp
  · have h := ite_f q h
    refine V_lload_n (i := 2) (pc := 13) dX11_watchOf_13 rfl rfl ?_
    refine V_bipush (v := 100) (pc := 14) dX11_watchOf_14 rfl ?_
    refine V_aload_n (i := 0) (pc := 16) dX11_watchOf_16 rfl rfl ?_
    refine V_getR (b := (this + 1)) (pc := 17) dX11_watchOf_17 fl_Mo_13 h_this rfl rfl ?_
    refine V_bipush (v := 13) (pc := 20) dX11_watchOf_20 rfl ?_
    obtain ⟨hg22, h⟩ := gd_e h
    refine V_iald (pc := 22) dX11_watchOf_22 (kf_11_1 h_this) (af_11_1 h_this) hg22 ?_
    refine V_isub (pc := 23) dX11_watchOf_23 ?_
    refine V_i2l (pc := 24) dX11_watchOf_24 ?_
    refine V_lmul (pc := 25) dX11_watchOf_25 ?_
    refine V_ldc2 (v := 100) (pc := 26) dX11_watchOf_26 con_Mo_340 ?_
    refine V_ldiv (pc := 29) dX11_watchOf_29 (by decide) ?_
    refine V_lstore_n (i := 2) (ls' := [some (vr this), some (vi v1), some (vl ((v2 * ((100 - (rI m (this + 1) (ix 13))).toInt64)) / 100)), none, some (vi v4)]) (pc := 30) dX11_watchOf_30 rfl (Nat.le_of_ble_eq_true rfl) rfl ?_
    refine V_iinc (i := 4) (v := (v4 + 1)) (ls' := [some (vr this), some (vi v1), some (vl ((v2 * ((100 - (rI m (this + 1) (ix 13))).toInt64)) / 100)), none, some (vi (v4 + 1))]) (pc := 31) dX11_watchOf_31 rfl rfl (Nat.le_of_ble_eq_true rfl) rfl ?_
    refine V_goto (tgt := 7) (pc := 34) dX11_watchOf_34 rfl ?_
    obtain rfl := Option.some.inj h
    exact hp
theorem k_Mo_watchOf {g : GE} {this : Nat} {v1 : Int32} {m : Mem} (h_this : kd this = 12) {r : Option AV} {m' : Mem} {x : Int64} (h : Mo_watchOf this v1 m = some x) (hp : (fun x : Int64 => r = some (vl x) ∧ m' = m) x) : V g Y_Mo_watchOf 0 [some (vr this), some (vi v1), none, none, none] [] m (PM g Y_Mo_watchOf r m') := by
  unfold Mo_watchOf at h
  refine V_ldc2 (v := 1000000000000) (pc := 0) dX11_watchOf_0 con_Mo_336 ?_
  refine V_lstore_n (i := 2) (ls' := [some (vr this), some (vi v1), some (vl 1000000000000), none, none]) (pc := 3) dX11_watchOf_3 rfl (Nat.le_of_ble_eq_true rfl) rfl ?_
  refine V_iconst (v := 0) (pc := 4) dX11_watchOf_4 rfl ?_
  refine V_istore (i := 4) (ls' := [some (vr this), some (vi v1), some (vl 1000000000000), none, some (vi 0)]) (pc := 5) dX11_watchOf_5 (Nat.le_of_ble_eq_true rfl) rfl ?_
  exact loop_V (A := fun s : Int64 × Int32 => V g Y_Mo_watchOf 7 [some (vr this), some (vi v1), some (vl s.1), none, some (vi s.2)] [] m (PM g Y_Mo_watchOf r m')) (fun s x h hp => k_Mo_watchOf_l7 h_this h hp) (1000000000000, 0) _ h hp
theorem e_Mo_watchOf {g : GE} {this : Nat} {v1 : Int32} {m : Mem} (h_this : kd this = 12) {x : Int64} (h : Mo_watchOf this v1 m = some x) : Ev g Y_Mo_watchOf [vr this, vi v1] m (some (vl x)) m :=
  Ev_of 3 (by decide +kernel) rfl (Nat.le_of_ble_eq_true rfl) rfl (k_Mo_watchOf h_this h ⟨rfl, rfl⟩)
theorem k_Mo_watch {g : GE} {this : Nat} {v1 : Int32} {m : Mem} (h_this : kd this = 12) {r : Option AV} {m' : Mem} {x : Int64} (h : Mo_watch this v1 m = some x) (hp : (fun x : Int64 => r = some (vl x) ∧ m' = m) x) : V g Y_Mo_watch 0 [some (vr this), some (vi v1)] [] m (PM g Y_Mo_watch r m') := by
  unfold Mo_watch at h
  refine V_iload_n (i := 1) (pc := 0) dX11_watch_0 rfl rfl ?_
  refine V_i2l (pc := 1) dX11_watch_1 ?_
  refine V_lconst (v := 0) (pc := 2) dX11_watch_2 rfl ?_
  refine V_ldc2 (v := 28) (pc := 3) dX11_watch_3 con_Mo_306 ?_
  obtain ⟨r6, e6, h⟩ := bnd h
  refine V_invS1 (pc := 6) dX11_watch_6 (e_Mo_in  e6) is_Mo_84 (rm_Mo_watch_Mo_in _ _ _) rfl (Nat.le_of_ble_eq_true rfl) rfl ?_
  refine V_if_eq (pc := 9) (tgt := 20) dX11_watch_9 rfl (fun q => ?_) (fun q => ?_)
  · have h := ite_t q h
    refine V_ldc2 (v := (-2)) (pc := 20) dX11_watch_20 con_Mo_342 ?_
    obtain rfl := Option.some.inj h
    exact E_l (pc := 23) dX11_watch_23 rfl hp
  · have h := ite_f q h
    refine V_aload_n (i := 0) (pc := 12) dX11_watch_12 rfl rfl ?_
    refine V_iload_n (i := 1) (pc := 13) dX11_watch_13 rfl rfl ?_
    obtain ⟨r14, e14, h⟩ := bnd h
    refine V_invV1 (c := 11) (pc := 14) dX11_watch_14 (e_Mo_watchOf h_this e14) iv_Mo_440 (rm_Mo_watch_Mo_watchOf _ _ _) rfl h_this cf_11 rfl (Nat.le_of_ble_eq_true rfl) rfl ?_
    refine V_goto (tgt := 23) (pc := 17) dX11_watch_17 rfl ?_
    obtain rfl := Option.some.inj h
    exact E_l (pc := 23) dX11_watch_23 rfl hp
theorem e_Mo_watch {g : GE} {this : Nat} {v1 : Int32} {m : Mem} (h_this : kd this = 12) {x : Int64} (h : Mo_watch this v1 m = some x) : Ev g Y_Mo_watch [vr this, vi v1] m (some (vl x)) m :=
  Ev_of 0 (by decide +kernel) rfl (Nat.le_of_ble_eq_true rfl) rfl (k_Mo_watch h_this h ⟨rfl, rfl⟩)
theorem k_Mo_watches_l17 {g : GE} {this : Nat} {v1 : Int32} {v2 : Int32} {m : Mem} (h_this : kd this = 12) {r : Option AV} {m' : Mem} {x : (Int32) ⊕ (Int32)} (h : Mo_watches_l17 this v1 v2 m = some x) (hp : (Sum.elim (fun s : Int32 => V g Y_Mo_watches 17 [some (vr this), some (vi v1), some (vi s)] [] m (PM g Y_Mo_watches r m')) (fun x : Int32 => r = some (vi x) ∧ m' = m)) x) : V g Y_Mo_watches 17 [some (vr this), some (vi v1), some (vi v2)] [] m (PM g Y_Mo_watches r m') := by
  unfold Mo_watches_l17 at h
  refine V_iload_n (i := 2) (pc := 17) dX11_watches_17 rfl rfl ?_
  refine V_bipush (v := 28) (pc := 18) dX11_watches_18 rfl ?_
  refine V_icmp_gt (pc := 20) (tgt := 46) dX11_watches_20 rfl (fun q => ?_) (fun q => ?_)
  · have h := ite_t q h
    obtain ⟨y1, hu1, rfl⟩ := up_e h
    have h := hu1
    refine V_iconst (v := (-1)) (pc := 46) dX11_watches_46 rfl ?_
    obtain rfl := Option.some.inj h
    exact E_i (pc := 47) dX11_watches_47 rfl hp
  · have h := ite_f q h
    refine V_aload_n (i := 0) (pc := 23) dX11_watches_23 rfl rfl ?_
    refine V_iload_n (i := 2) (pc := 24) dX11_watches_24 rfl rfl ?_
    obtain ⟨r25, e25, h⟩ := bnd h
    refine V_invV1 (c := 11) (pc := 25) dX11_watches_25 (e_Mo_watchOf h_this e25) iv_Mo_440 (rm_Mo_watches_Mo_watchOf _ _ _) rfl h_this cf_11 rfl (Nat.le_of_ble_eq_true rfl) rfl ?_
    refine V_iload_n (i := 1) (pc := 28) dX11_watches_28 rfl rfl ?_
    refine V_i2l (pc := 29) dX11_watches_29 ?_
    refine V_ldc2 (v := 1000000000) (pc := 30) dX11_watches_30 con_Mo_390 ?_
    refine V_lmul (pc := 33) dX11_watches_33 ?_
    refine V_lif_gt (pc := 34) (tgt := 40) dX11_watches_34 dX11_watches_35 rfl (fun q => ?_) (fun q => ?_)
    · have h := ite_t q h
      refine V_iinc (i := 2) (v := (v2 + 1)) (ls' := [some (vr this), some (vi v1), some (vi (v2 + 1))]) (pc := 40) dX11_watches_40 rfl rfl (Nat.le_of_ble_eq_true rfl) rfl ?_
      refine V_goto (tgt := 17) (pc := 43) dX11_watches_43 rfl ?_
      obtain rfl := Option.some.inj h
      exact hp
    · have h := ite_f q h
      obtain ⟨y2, hu2, rfl⟩ := up_e h
      have h := hu2
      refine V_iload_n (i := 2) (pc := 38) dX11_watches_38 rfl rfl ?_
      obtain rfl := Option.some.inj h
      exact E_i (pc := 39) dX11_watches_39 rfl hp
theorem k_Mo_watches {g : GE} {this : Nat} {v1 : Int32} {m : Mem} (h_this : kd this = 12) {r : Option AV} {m' : Mem} {x : Int32} (h : Mo_watches this v1 m = some x) (hp : (fun x : Int32 => r = some (vi x) ∧ m' = m) x) : V g Y_Mo_watches 0 [some (vr this), some (vi v1), none] [] m (PM g Y_Mo_watches r m') := by
  unfold Mo_watches at h
  refine V_iload_n (i := 1) (pc := 0) dX11_watches_0 rfl rfl ?_
  refine V_i2l (pc := 1) dX11_watches_1 ?_
  refine V_lconst (v := 0) (pc := 2) dX11_watches_2 rfl ?_
  refine V_ldc2 (v := 1000) (pc := 3) dX11_watches_3 con_Mo_388 ?_
  obtain ⟨r6, e6, h⟩ := bnd h
  refine V_invS1 (pc := 6) dX11_watches_6 (e_Mo_in  e6) is_Mo_84 (rm_Mo_watches_Mo_in _ _ _) rfl (Nat.le_of_ble_eq_true rfl) rfl ?_
  refine V_if_ne (pc := 9) (tgt := 15) dX11_watches_9 rfl (fun q => ?_) (fun q => ?_)
  · have h := ite_f q h
    refine V_iconst (v := 0) (pc := 15) dX11_watches_15 rfl ?_
    refine V_istore_n (i := 2) (ls' := [some (vr this), some (vi v1), some (vi 0)]) (pc := 16) dX11_watches_16 rfl (Nat.le_of_ble_eq_true rfl) rfl ?_
    exact loop_V (A := fun s : Int32 => V g Y_Mo_watches 17 [some (vr this), some (vi v1), some (vi s)] [] m (PM g Y_Mo_watches r m')) (fun s x h hp => k_Mo_watches_l17 h_this h hp) (0) _ h hp
  · have h := ite_t q h
    refine V_bipush (v := (-2)) (pc := 12) dX11_watches_12 rfl ?_
    obtain rfl := Option.some.inj h
    exact E_i (pc := 14) dX11_watches_14 rfl hp
theorem e_Mo_watches {g : GE} {this : Nat} {v1 : Int32} {m : Mem} (h_this : kd this = 12) {x : Int32} (h : Mo_watches this v1 m = some x) : Ev g Y_Mo_watches [vr this, vi v1] m (some (vi x)) m :=
  Ev_of 1 (by decide +kernel) rfl (Nat.le_of_ble_eq_true rfl) rfl (k_Mo_watches h_this h ⟨rfl, rfl⟩)
theorem k_Mo_ofOther {g : GE} {this : Nat} {v1 : Int32} {v2 : Int32} {m : Mem} (h_this : kd this = 12) {r : Option AV} {m' : Mem} {x : Int32} (h : Mo_ofOther this v1 v2 m = some x) (hp : (fun x : Int32 => r = some (vi x) ∧ m' = m) x) : V g Y_Mo_ofOther 0 [some (vr this), some (vi v1), some (vi v2)] [] m (PM g Y_Mo_ofOther r m') := by
  unfold Mo_ofOther at h
  refine V_aload_n (i := 0) (pc := 0) dX11_ofOther_0 rfl rfl ?_
  refine V_getR (b := (this + 1)) (pc := 1) dX11_ofOther_1 fl_Mo_13 h_this rfl rfl ?_
  refine V_bipush (v := 104) (pc := 4) dX11_ofOther_4 rfl ?_
  refine V_iconst (v := 3) (pc := 6) dX11_ofOther_6 rfl ?_
  refine V_iload_n (i := 1) (pc := 7) dX11_ofOther_7 rfl rfl ?_
  refine V_imul (pc := 8) dX11_ofOther_8 ?_
  refine V_iadd (pc := 9) dX11_ofOther_9 ?_
  refine V_iload_n (i := 2) (pc := 10) dX11_ofOther_10 rfl rfl ?_
  refine V_iadd (pc := 11) dX11_ofOther_11 ?_
  obtain ⟨hg12, h⟩ := gd_e h
  refine V_iald (pc := 12) dX11_ofOther_12 (kf_11_1 h_this) (af_11_1 h_this) hg12 ?_
  obtain rfl := Option.some.inj h
  exact E_i (pc := 13) dX11_ofOther_13 rfl hp
theorem e_Mo_ofOther {g : GE} {this : Nat} {v1 : Int32} {v2 : Int32} {m : Mem} (h_this : kd this = 12) {x : Int32} (h : Mo_ofOther this v1 v2 m = some x) : Ev g Y_Mo_ofOther [vr this, vi v1, vi v2] m (some (vi x)) m :=
  Ev_of 0 (by decide +kernel) rfl (Nat.le_of_ble_eq_true rfl) rfl (k_Mo_ofOther h_this h ⟨rfl, rfl⟩)
theorem k_Mo_breaksOf {g : GE} {this : Nat} {v1 : Int32} {m : Mem} (h_this : kd this = 12) {r : Option AV} {m' : Mem} {x : Int32} (h : Mo_breaksOf this v1 m = some x) (hp : (fun x : Int32 => r = some (vi x) ∧ m' = m) x) : V g Y_Mo_breaksOf 0 [some (vr this), some (vi v1)] [] m (PM g Y_Mo_breaksOf r m') := by
  unfold Mo_breaksOf at h
  refine V_iload_n (i := 1) (pc := 0) dX11_breaksOf_0 rfl rfl ?_
  refine V_if_ne (pc := 1) (tgt := 14) dX11_breaksOf_1 rfl (fun q => ?_) (fun q => ?_)
  · have h := ite_f q h
    refine V_aload_n (i := 0) (pc := 14) dX11_breaksOf_14 rfl rfl ?_
    refine V_iload_n (i := 1) (pc := 15) dX11_breaksOf_15 rfl rfl ?_
    refine V_iconst (v := 1) (pc := 16) dX11_breaksOf_16 rfl ?_
    refine V_isub (pc := 17) dX11_breaksOf_17 ?_
    refine V_iconst (v := 2) (pc := 18) dX11_breaksOf_18 rfl ?_
    obtain ⟨r19, e19, h⟩ := bnd h
    refine V_invV1 (c := 11) (pc := 19) dX11_breaksOf_19 (e_Mo_ofOther h_this e19) iv_Mo_443 (rm_Mo_breaksOf_Mo_ofOther _ _ _) rfl h_this cf_11 rfl (Nat.le_of_ble_eq_true rfl) rfl ?_
    obtain rfl := Option.some.inj h
    exact E_i (pc := 22) dX11_breaksOf_22 rfl hp
  · have h := ite_t q h
    refine V_aload_n (i := 0) (pc := 4) dX11_breaksOf_4 rfl rfl ?_
    refine V_getR (b := (this + 1)) (pc := 5) dX11_breaksOf_5 fl_Mo_13 h_this rfl rfl ?_
    refine V_bipush (v := 16) (pc := 8) dX11_breaksOf_8 rfl ?_
    obtain ⟨hg10, h⟩ := gd_e h
    refine V_iald (pc := 10) dX11_breaksOf_10 (kf_11_1 h_this) (af_11_1 h_this) hg10 ?_
    refine V_goto (tgt := 22) (pc := 11) dX11_breaksOf_11 rfl ?_
    obtain rfl := Option.some.inj h
    exact E_i (pc := 22) dX11_breaksOf_22 rfl hp
theorem e_Mo_breaksOf {g : GE} {this : Nat} {v1 : Int32} {m : Mem} (h_this : kd this = 12) {x : Int32} (h : Mo_breaksOf this v1 m = some x) : Ev g Y_Mo_breaksOf [vr this, vi v1] m (some (vi x)) m :=
  Ev_of 0 (by decide +kernel) rfl (Nat.le_of_ble_eq_true rfl) rfl (k_Mo_breaksOf h_this h ⟨rfl, rfl⟩)
theorem k_Mo_spot {g : GE} {v0 : Int32} {v1 : Int32} {v2 : Int32} {m : Mem} {r : Option AV} {m' : Mem} {x : Int32} (h : Mo_spot v0 v1 v2 m = some x) (hp : (fun x : Int32 => r = some (vi x) ∧ m' = m) x) : V g Y_Mo_spot 0 [some (vi v0), some (vi v1), some (vi v2)] [] m (PM g Y_Mo_spot r m') := by
  unfold Mo_spot at h
  refine V_bipush (v := 80) (pc := 0) dX11_spot_0 rfl ?_
  refine V_iload_n (i := 0) (pc := 2) dX11_spot_2 rfl rfl ?_
  refine V_imul (pc := 3) dX11_spot_3 ?_
  refine V_bipush (v := 16) (pc := 4) dX11_spot_4 rfl ?_
  refine V_iload_n (i := 1) (pc := 6) dX11_spot_6 rfl rfl ?_
  refine V_imul (pc := 7) dX11_spot_7 ?_
  refine V_iadd (pc := 8) dX11_spot_8 ?_
  refine V_iload_n (i := 2) (pc := 9) dX11_spot_9 rfl rfl ?_
  refine V_iadd (pc := 10) dX11_spot_10 ?_
  obtain rfl := Option.some.inj h
  exact E_i (pc := 11) dX11_spot_11 rfl hp
theorem e_Mo_spot {g : GE} {v0 : Int32} {v1 : Int32} {v2 : Int32} {m : Mem} {x : Int32} (h : Mo_spot v0 v1 v2 m = some x) : Ev g Y_Mo_spot [vi v0, vi v1, vi v2] m (some (vi x)) m :=
  Ev_of 0 (by decide +kernel) rfl (Nat.le_of_ble_eq_true rfl) rfl (k_Mo_spot  h ⟨rfl, rfl⟩)
theorem k_Mo_staysOn {g : GE} {this : Nat} {v1 : Int32} {v2 : Int32} {v3 : Int32} {m : Mem} (h_this : kd this = 12) {r : Option AV} {m' : Mem} {x : Int64} (h : Mo_staysOn this v1 v2 v3 m = some x) (hp : (fun x : Int64 => r = some (vl x) ∧ m' = m) x) : V g Y_Mo_staysOn 0 [some (vr this), some (vi v1), some (vi v2), some (vi v3)] [] m (PM g Y_Mo_staysOn r m') := by
  unfold Mo_staysOn at h
  refine V_aload_n (i := 0) (pc := 0) dX11_staysOn_0 rfl rfl ?_
  refine V_getR (b := (this + 10)) (pc := 1) dX11_staysOn_1 fl_Mo_47 h_this rfl rfl ?_
  refine V_iload_n (i := 1) (pc := 4) dX11_staysOn_4 rfl rfl ?_
  refine V_iconst (v := 1) (pc := 5) dX11_staysOn_5 rfl ?_
  refine V_iadd (pc := 6) dX11_staysOn_6 ?_
  refine V_iload_n (i := 2) (pc := 7) dX11_staysOn_7 rfl rfl ?_
  refine V_iload_n (i := 3) (pc := 8) dX11_staysOn_8 rfl rfl ?_
  obtain ⟨r9, e9, h⟩ := bnd h
  refine V_invS1 (pc := 9) dX11_staysOn_9 (e_Mo_spot  e9) is_Mo_446 (rm_Mo_staysOn_Mo_spot _ _ _) rfl (Nat.le_of_ble_eq_true rfl) rfl ?_
  obtain ⟨hg12, h⟩ := gd_e h
  refine V_lald (pc := 12) dX11_staysOn_12 (kf_11_18 h_this) (af_11_18 h_this) hg12 ?_
  refine V_sipush (v := 10000) (pc := 13) dX11_staysOn_13 rfl ?_
  refine V_aload_n (i := 0) (pc := 16) dX11_staysOn_16 rfl rfl ?_
  refine V_iload_n (i := 2) (pc := 17) dX11_staysOn_17 rfl rfl ?_
  obtain ⟨r18, e18, h⟩ := bnd h
  refine V_invV1 (c := 11) (pc := 18) dX11_staysOn_18 (e_Mo_breaksOf h_this e18) iv_Mo_449 (rm_Mo_staysOn_Mo_breaksOf _ _ _) rfl h_this cf_11 rfl (Nat.le_of_ble_eq_true rfl) rfl ?_
  refine V_isub (pc := 21) dX11_staysOn_21 ?_
  refine V_i2l (pc := 22) dX11_staysOn_22 ?_
  refine V_lmul (pc := 23) dX11_staysOn_23 ?_
  refine V_ldc2 (v := 10000) (pc := 24) dX11_staysOn_24 con_Mo_338 ?_
  refine V_ldiv (pc := 27) dX11_staysOn_27 (by decide) ?_
  obtain rfl := Option.some.inj h
  exact E_l (pc := 28) dX11_staysOn_28 rfl hp
theorem e_Mo_staysOn {g : GE} {this : Nat} {v1 : Int32} {v2 : Int32} {v3 : Int32} {m : Mem} (h_this : kd this = 12) {x : Int64} (h : Mo_staysOn this v1 v2 v3 m = some x) : Ev g Y_Mo_staysOn [vr this, vi v1, vi v2, vi v3] m (some (vl x)) m :=
  Ev_of 0 (by decide +kernel) rfl (Nat.le_of_ble_eq_true rfl) rfl (k_Mo_staysOn h_this h ⟨rfl, rfl⟩)
theorem k_Mo_isNear_b14 {g : GE} {this : Nat}   {m : Mem} (h_this : kd this = 12) {r : Option AV} {m' : Mem} {x : Int32} (h : Mo_isNear_b14 this m = some x) (hp : (fun x : Int32 => r = some (vi x) ∧ m' = m) x) : V g Y_Mo_isNear 14 [none, none, none] [] m (PM g Y_Mo_isNear r m') := by
  unfold Mo_isNear_b14 at h
  refine V_iconst (v := 1) (pc := 14) dX11_isNear_14 rfl ?_
  refine V_goto (tgt := 19) (pc := 15) dX11_isNear_15 rfl ?_
  obtain rfl := Option.some.inj h
  exact E_z (pc := 19) dX11_isNear_19 rfl rfl hp
theorem k_Mo_isNear {g : GE} {this : Nat} {v1 : Int32} {v2 : Int32} {m : Mem} (h_this : kd this = 12) {r : Option AV} {m' : Mem} {x : Int32} (h : Mo_isNear this v1 v2 m = some x) (hp : (fun x : Int32 => r = some (vi x) ∧ m' = m) x) : V g Y_Mo_isNear 0 [some (vr this), some (vi v1), some (vi v2)] [] m (PM g Y_Mo_isNear r m') := by
  unfold Mo_isNear at h
  refine V_iload_n (i := 1) (pc := 0) dX11_isNear_0 rfl rfl ?_
  refine V_if_eq (pc := 1) (tgt := 14) dX11_isNear_1 rfl (fun q => ?_) (fun q => ?_)
  · have h := ite_t q h
    refine V_sub (ls' := [none, none, none]) trivial ?_
    exact k_Mo_isNear_b14 h_this h hp
  · have h := ite_f q h
    refine V_iload_n (i := 2) (pc := 4) dX11_isNear_4 rfl rfl ?_
    refine V_iload_n (i := 1) (pc := 5) dX11_isNear_5 rfl rfl ?_
    refine V_iconst (v := 1) (pc := 6) dX11_isNear_6 rfl ?_
    refine V_isub (pc := 7) dX11_isNear_7 ?_
    obtain ⟨r8, e8, h⟩ := bnd h
    refine V_invS1 (pc := 8) dX11_isNear_8 (e_Mo_holds  e8) is_Mo_239 (rm_Mo_isNear_Mo_holds _ _ _) rfl (Nat.le_of_ble_eq_true rfl) rfl ?_
    refine V_if_eq (pc := 11) (tgt := 18) dX11_isNear_11 rfl (fun q => ?_) (fun q => ?_)
    · have h := ite_t q h
      refine V_iconst (v := 0) (pc := 18) dX11_isNear_18 rfl ?_
      obtain rfl := Option.some.inj h
      exact E_z (pc := 19) dX11_isNear_19 rfl rfl hp
    · have h := ite_f q h
      refine V_sub (ls' := [none, none, none]) trivial ?_
      exact k_Mo_isNear_b14 h_this h hp
theorem e_Mo_isNear {g : GE} {this : Nat} {v1 : Int32} {v2 : Int32} {m : Mem} (h_this : kd this = 12) {x : Int32} (h : Mo_isNear this v1 v2 m = some x) : Ev g Y_Mo_isNear [vr this, vi v1, vi v2] m (some (vi x)) m :=
  Ev_of 0 (by decide +kernel) rfl (Nat.le_of_ble_eq_true rfl) rfl (k_Mo_isNear h_this h ⟨rfl, rfl⟩)
theorem k_Mo_goesTo_b92 {g : GE} {this : Nat} {v1 : Int32} {v2 : Int32} {v3 : Int32} {v4 : Int32} {v5 : Int64} {v7 : Int32}  {m : Mem} (h_this : kd this = 12) {r : Option AV} {m' : Mem} {x : (Int32 × Int64 × Int32) ⊕ (Int32)} (h : Mo_goesTo_b92 this v1 v2 v3 v4 v5 v7 m = some x) (hp : (Sum.elim (fun s : Int32 × Int64 × Int32 => V g Y_Mo_goesTo 15 [some (vr this), some (vi v1), some (vi v2), some (vi v3), some (vi s.1), some (vl s.2.1), none, some (vi s.2.2), none, none] [] m (PM g Y_Mo_goesTo r m')) (fun x : Int32 => r = some (vi x) ∧ m' = m)) x) : V g Y_Mo_goesTo 92 [some (vr this), some (vi v1), some (vi v2), some (vi v3), some (vi v4), some (vl v5), none, some (vi v7), none, none] [] m (PM g Y_Mo_goesTo r m') := by
  unfold Mo_goesTo_b92 at h
  refine V_iinc (i := 7) (v := (v7 + 1)) (ls' := [some (vr this), some (vi v1), some (vi v2), some (vi v3), some (vi v4), some (vl v5), none, some (vi (v7 + 1)), none, none]) (pc := 92) dX11_goesTo_92 rfl rfl (Nat.le_of_ble_eq_true rfl) rfl ?_
  refine V_goto (tgt := 15) (pc := 95) dX11_goesTo_95 rfl ?_
  obtain rfl := Option.some.inj h
  exact hp
theorem k_Mo_goesTo_l15 {g : GE} {this : Nat} {v1 : Int32} {v2 : Int32} {v3 : Int32} {v4 : Int32} {v5 : Int64} {v7 : Int32} {m : Mem} (h_this : kd this = 12) {r : Option AV} {m' : Mem} {x : (Int32 × Int64 × Int32) ⊕ (Int32)} (h : Mo_goesTo_l15 this v1 v2 v3 v4 v5 v7 m = some x) (hp : (Sum.elim (fun s : Int32 × Int64 × Int32 => V g Y_Mo_goesTo 15 [some (vr this), some (vi v1), some (vi v2), some (vi v3), some (vi s.1), some (vl s.2.1), none, some (vi s.2.2), none, none] [] m (PM g Y_Mo_goesTo r m')) (fun x : Int32 => r = some (vi x) ∧ m' = m)) x) : V g Y_Mo_goesTo 15 [some (vr this), some (vi v1), some (vi v2), some (vi v3), some (vi v4), some (vl v5), none, some (vi v7), none, none] [] m (PM g Y_Mo_goesTo r m') := by
  unfold Mo_goesTo_l15 at h
  refine V_iload (i := 7) (pc := 15) dX11_goesTo_15 rfl ?_
  refine V_aload_n (i := 0) (pc := 17) dX11_goesTo_17 rfl rfl ?_
  refine V_getR (b := (this + 1)) (pc := 18) dX11_goesTo_18 fl_Mo_13 h_this rfl rfl ?_
  refine V_bipush (v := 7) (pc := 21) dX11_goesTo_21 rfl ?_
  obtain ⟨hg23, h⟩ := gd_e h
  refine V_iald (pc := 23) dX11_goesTo_23 (kf_11_1 h_this) (af_11_1 h_this) hg23 ?_
  refine V_icmp_gt (pc := 24) (tgt := 98) dX11_goesTo_24 rfl (fun q => ?_) (fun q => ?_)
  · have h := ite_t q h
    obtain ⟨y1, hu1, rfl⟩ := up_e h
    have h := hu1
    refine V_iload (i := 4) (pc := 98) dX11_goesTo_98 rfl ?_
    obtain rfl := Option.some.inj h
    exact E_i (pc := 100) dX11_goesTo_100 rfl hp
  · have h := ite_f q h
    refine V_iload (i := 7) (pc := 27) dX11_goesTo_27 rfl ?_
    refine V_iload_n (i := 2) (pc := 29) dX11_goesTo_29 rfl rfl ?_
    refine V_icmp_eq (pc := 30) (tgt := 92) dX11_goesTo_30 rfl (fun q => ?_) (fun q => ?_)
    · have h := ite_t q h
      exact k_Mo_goesTo_b92 h_this h hp
    · have h := ite_f q h
      refine V_aload_n (i := 0) (pc := 33) dX11_goesTo_33 rfl rfl ?_
      refine V_iload (i := 7) (pc := 34) dX11_goesTo_34 rfl ?_
      refine V_iload_n (i := 3) (pc := 36) dX11_goesTo_36 rfl rfl ?_
      obtain ⟨r37, e37, h⟩ := bnd h
      refine V_invV1 (c := 11) (pc := 37) dX11_goesTo_37 (e_Mo_isNear h_this e37) iv_Mo_456 (rm_Mo_goesTo_Mo_isNear _ _ _) rfl h_this cf_11 rfl (Nat.le_of_ble_eq_true rfl) rfl ?_
      refine V_if_ne (pc := 40) (tgt := 46) dX11_goesTo_40 rfl (fun q => ?_) (fun q => ?_)
      · have h := ite_f q h
        refine V_aload_n (i := 0) (pc := 46) dX11_goesTo_46 rfl rfl ?_
        refine V_iload_n (i := 1) (pc := 47) dX11_goesTo_47 rfl rfl ?_
        refine V_iload (i := 7) (pc := 48) dX11_goesTo_48 rfl ?_
        refine V_iload_n (i := 3) (pc := 50) dX11_goesTo_50 rfl rfl ?_
        obtain ⟨r51, e51, h⟩ := bnd h
        refine V_invV1 (c := 11) (pc := 51) dX11_goesTo_51 (e_Mo_staysOn h_this e51) iv_Mo_452 (rm_Mo_goesTo_Mo_staysOn _ _ _) rfl h_this cf_11 rfl (Nat.le_of_ble_eq_true rfl) rfl ?_
        refine V_sipush (v := 10000) (pc := 54) dX11_goesTo_54 rfl ?_
        refine V_aload_n (i := 0) (pc := 57) dX11_goesTo_57 rfl rfl ?_
        refine V_getR (b := (this + 1)) (pc := 58) dX11_goesTo_58 fl_Mo_13 h_this rfl rfl ?_
        refine V_bipush (v := 17) (pc := 61) dX11_goesTo_61 rfl ?_
        obtain ⟨hg63, h⟩ := gd_e h
        refine V_iald (pc := 63) dX11_goesTo_63 (kf_11_1 h_this) (af_11_1 h_this) hg63 ?_
        refine V_isub (pc := 64) dX11_goesTo_64 ?_
        refine V_i2l (pc := 65) dX11_goesTo_65 ?_
        refine V_lmul (pc := 66) dX11_goesTo_66 ?_
        refine V_ldc2 (v := 10000) (pc := 67) dX11_goesTo_67 con_Mo_338 ?_
        refine V_ldiv (pc := 70) dX11_goesTo_70 (by decide) ?_
        refine V_lstore (i := 8) (ls' := [some (vr this), some (vi v1), some (vi v2), some (vi v3), some (vi v4), some (vl v5), none, some (vi v7), some (vl ((r51 * ((10000 - (rI m (this + 1) (ix 17))).toInt64)) / 10000)), none]) (pc := 71) dX11_goesTo_71 (Nat.le_of_ble_eq_true rfl) rfl ?_
        refine V_lload (i := 8) (pc := 73) dX11_goesTo_73 rfl ?_
        refine V_lload (i := 5) (pc := 75) dX11_goesTo_75 rfl ?_
        refine V_lif_gt (pc := 77) (tgt := 84) dX11_goesTo_77 dX11_goesTo_78 rfl (fun q => ?_) (fun q => ?_)
        · have h := ite_t q h
          refine V_iload (i := 7) (pc := 84) dX11_goesTo_84 rfl ?_
          refine V_istore (i := 4) (ls' := [some (vr this), some (vi v1), some (vi v2), some (vi v3), some (vi v7), some (vl v5), none, some (vi v7), some (vl ((r51 * ((10000 - (rI m (this + 1) (ix 17))).toInt64)) / 10000)), none]) (pc := 86) dX11_goesTo_86 (Nat.le_of_ble_eq_true rfl) rfl ?_
          refine V_lload (i := 8) (pc := 88) dX11_goesTo_88 rfl ?_
          refine V_lstore (i := 5) (ls' := [some (vr this), some (vi v1), some (vi v2), some (vi v3), some (vi v7), some (vl ((r51 * ((10000 - (rI m (this + 1) (ix 17))).toInt64)) / 10000)), none, some (vi v7), some (vl ((r51 * ((10000 - (rI m (this + 1) (ix 17))).toInt64)) / 10000)), none]) (pc := 90) dX11_goesTo_90 (Nat.le_of_ble_eq_true rfl) rfl ?_
          refine V_sub (ls' := [some (vr this), some (vi v1), some (vi v2), some (vi v3), some (vi v7), some (vl ((r51 * ((10000 - (rI m (this + 1) (ix 17))).toInt64)) / 10000)), none, some (vi v7), none, none]) (And.intro rfl (And.intro rfl (And.intro rfl (And.intro rfl (And.intro rfl (And.intro rfl (And.intro rfl trivial))))))) ?_
          exact k_Mo_goesTo_b92 h_this h hp
        · have h := ite_f q h
          refine V_goto (tgt := 92) (pc := 81) dX11_goesTo_81 rfl ?_
          refine V_sub (ls' := [some (vr this), some (vi v1), some (vi v2), some (vi v3), some (vi v4), some (vl v5), none, some (vi v7), none, none]) (And.intro rfl (And.intro rfl (And.intro rfl (And.intro rfl (And.intro rfl (And.intro rfl (And.intro rfl trivial))))))) ?_
          exact k_Mo_goesTo_b92 h_this h hp
      · have h := ite_t q h
        refine V_goto (tgt := 92) (pc := 43) dX11_goesTo_43 rfl ?_
        exact k_Mo_goesTo_b92 h_this h hp
theorem k_Mo_goesTo {g : GE} {this : Nat} {v1 : Int32} {v2 : Int32} {v3 : Int32} {m : Mem} (h_this : kd this = 12) {r : Option AV} {m' : Mem} {x : Int32} (h : Mo_goesTo this v1 v2 v3 m = some x) (hp : (fun x : Int32 => r = some (vi x) ∧ m' = m) x) : V g Y_Mo_goesTo 0 [some (vr this), some (vi v1), some (vi v2), some (vi v3), none, none, none, none, none, none] [] m (PM g Y_Mo_goesTo r m') := by
  unfold Mo_goesTo at h
  refine V_iload_n (i := 2) (pc := 0) dX11_goesTo_0 rfl rfl ?_
  refine V_istore (i := 4) (ls' := [some (vr this), some (vi v1), some (vi v2), some (vi v3), some (vi v2), none, none, none, none, none]) (pc := 1) dX11_goesTo_1 (Nat.le_of_ble_eq_true rfl) rfl ?_
  refine V_aload_n (i := 0) (pc := 3) dX11_goesTo_3 rfl rfl ?_
  refine V_iload_n (i := 1) (pc := 4) dX11_goesTo_4 rfl rfl ?_
  refine V_iload_n (i := 2) (pc := 5) dX11_goesTo_5 rfl rfl ?_
  refine V_iload_n (i := 3) (pc := 6) dX11_goesTo_6 rfl rfl ?_
  obtain ⟨r7, e7, h⟩ := bnd h
  refine V_invV1 (c := 11) (pc := 7) dX11_goesTo_7 (e_Mo_staysOn h_this e7) iv_Mo_452 (rm_Mo_goesTo_Mo_staysOn _ _ _) rfl h_this cf_11 rfl (Nat.le_of_ble_eq_true rfl) rfl ?_
  refine V_lstore (i := 5) (ls' := [some (vr this), some (vi v1), some (vi v2), some (vi v3), some (vi v2), some (vl r7), none, none, none, none]) (pc := 10) dX11_goesTo_10 (Nat.le_of_ble_eq_true rfl) rfl ?_
  refine V_iconst (v := 1) (pc := 12) dX11_goesTo_12 rfl ?_
  refine V_istore (i := 7) (ls' := [some (vr this), some (vi v1), some (vi v2), some (vi v3), some (vi v2), some (vl r7), none, some (vi 1), none, none]) (pc := 13) dX11_goesTo_13 (Nat.le_of_ble_eq_true rfl) rfl ?_
  exact loop_V (A := fun s : Int32 × Int64 × Int32 => V g Y_Mo_goesTo 15 [some (vr this), some (vi v1), some (vi v2), some (vi v3), some (vi s.1), some (vl s.2.1), none, some (vi s.2.2), none, none] [] m (PM g Y_Mo_goesTo r m')) (fun s x h hp => k_Mo_goesTo_l15 h_this h hp) (v2, r7, 1) _ h hp
theorem e_Mo_goesTo {g : GE} {this : Nat} {v1 : Int32} {v2 : Int32} {v3 : Int32} {m : Mem} (h_this : kd this = 12) {x : Int32} (h : Mo_goesTo this v1 v2 v3 m = some x) : Ev g Y_Mo_goesTo [vr this, vi v1, vi v2, vi v3] m (some (vi x)) m :=
  Ev_of 6 (by decide +kernel) rfl (Nat.le_of_ble_eq_true rfl) rfl (k_Mo_goesTo h_this h ⟨rfl, rfl⟩)
theorem k_Mo_endOf {g : GE} {this : Nat} {v1 : Int32} {v2 : Int32} {v3 : Int32} {m : Mem} (h_this : kd this = 12) {r : Option AV} {m' : Mem} {x : Int64} (h : Mo_endOf this v1 v2 v3 m = some x) (hp : (fun x : Int64 => r = some (vl x) ∧ m' = m) x) : V g Y_Mo_endOf 0 [some (vr this), some (vi v1), some (vi v2), some (vi v3), none] [] m (PM g Y_Mo_endOf r m') := by
  unfold Mo_endOf at h
  refine V_aload_n (i := 0) (pc := 0) dX11_endOf_0 rfl rfl ?_
  refine V_iload_n (i := 1) (pc := 1) dX11_endOf_1 rfl rfl ?_
  refine V_iload_n (i := 2) (pc := 2) dX11_endOf_2 rfl rfl ?_
  refine V_iload_n (i := 3) (pc := 3) dX11_endOf_3 rfl rfl ?_
  obtain ⟨r4, e4, h⟩ := bnd h
  refine V_invV1 (c := 11) (pc := 4) dX11_endOf_4 (e_Mo_goesTo h_this e4) iv_Mo_459 (rm_Mo_endOf_Mo_goesTo _ _ _) rfl h_this cf_11 rfl (Nat.le_of_ble_eq_true rfl) rfl ?_
  refine V_istore (i := 4) (ls' := [some (vr this), some (vi v1), some (vi v2), some (vi v3), some (vi r4)]) (pc := 7) dX11_endOf_7 (Nat.le_of_ble_eq_true rfl) rfl ?_
  refine V_iload (i := 4) (pc := 9) dX11_endOf_9 rfl ?_
  refine V_iload_n (i := 2) (pc := 11) dX11_endOf_11 rfl rfl ?_
  refine V_icmp_ne (pc := 12) (tgt := 25) dX11_endOf_12 rfl (fun q => ?_) (fun q => ?_)
  · have h := ite_f q h
    refine V_aload_n (i := 0) (pc := 25) dX11_endOf_25 rfl rfl ?_
    refine V_iload_n (i := 1) (pc := 26) dX11_endOf_26 rfl rfl ?_
    refine V_iload (i := 4) (pc := 27) dX11_endOf_27 rfl ?_
    refine V_iload_n (i := 3) (pc := 29) dX11_endOf_29 rfl rfl ?_
    obtain ⟨r30, e30, h⟩ := bnd h
    refine V_invV1 (c := 11) (pc := 30) dX11_endOf_30 (e_Mo_staysOn h_this e30) iv_Mo_452 (rm_Mo_endOf_Mo_staysOn _ _ _) rfl h_this cf_11 rfl (Nat.le_of_ble_eq_true rfl) rfl ?_
    refine V_sipush (v := 10000) (pc := 33) dX11_endOf_33 rfl ?_
    refine V_aload_n (i := 0) (pc := 36) dX11_endOf_36 rfl rfl ?_
    refine V_getR (b := (this + 1)) (pc := 37) dX11_endOf_37 fl_Mo_13 h_this rfl rfl ?_
    refine V_bipush (v := 17) (pc := 40) dX11_endOf_40 rfl ?_
    obtain ⟨hg42, h⟩ := gd_e h
    refine V_iald (pc := 42) dX11_endOf_42 (kf_11_1 h_this) (af_11_1 h_this) hg42 ?_
    refine V_isub (pc := 43) dX11_endOf_43 ?_
    refine V_i2l (pc := 44) dX11_endOf_44 ?_
    refine V_lmul (pc := 45) dX11_endOf_45 ?_
    refine V_ldc2 (v := 10000) (pc := 46) dX11_endOf_46 con_Mo_338 ?_
    refine V_ldiv (pc := 49) dX11_endOf_49 (by decide) ?_
    obtain rfl := Option.some.inj h
    exact E_l (pc := 50) dX11_endOf_50 rfl hp
  · have h := ite_t q h
    refine V_aload_n (i := 0) (pc := 15) dX11_endOf_15 rfl rfl ?_
    refine V_iload_n (i := 1) (pc := 16) dX11_endOf_16 rfl rfl ?_
    refine V_iload_n (i := 2) (pc := 17) dX11_endOf_17 rfl rfl ?_
    refine V_iload_n (i := 3) (pc := 18) dX11_endOf_18 rfl rfl ?_
    obtain ⟨r19, e19, h⟩ := bnd h
    refine V_invV1 (c := 11) (pc := 19) dX11_endOf_19 (e_Mo_staysOn h_this e19) iv_Mo_452 (rm_Mo_endOf_Mo_staysOn _ _ _) rfl h_this cf_11 rfl (Nat.le_of_ble_eq_true rfl) rfl ?_
    refine V_goto (tgt := 50) (pc := 22) dX11_endOf_22 rfl ?_
    obtain rfl := Option.some.inj h
    exact E_l (pc := 50) dX11_endOf_50 rfl hp
theorem e_Mo_endOf {g : GE} {this : Nat} {v1 : Int32} {v2 : Int32} {v3 : Int32} {m : Mem} (h_this : kd this = 12) {x : Int64} (h : Mo_endOf this v1 v2 v3 m = some x) : Ev g Y_Mo_endOf [vr this, vi v1, vi v2, vi v3] m (some (vl x)) m :=
  Ev_of 1 (by decide +kernel) rfl (Nat.le_of_ble_eq_true rfl) rfl (k_Mo_endOf h_this h ⟨rfl, rfl⟩)
theorem k_Mo_goesThrough_l230 {g : GE} {this : Nat} {v1 : Int32} {v2 : Int32} {v3 : Int32} {v4 : Int32} {m : Mem} (h_this : kd this = 12) {r : Option AV} {m' : Mem} {x : (Int32 × Mem) ⊕ ((Int32 × Mem) ⊕ ((Int32 × Mem) ⊕ (Mem)))} (h : Mo_goesThrough_l230 this v1 v2 v3 v4 m = some x) (hp : (Sum.elim (fun s : Int32 × Mem => V g Y_Mo_goesThrough 230 [some (vr this), some (vi v1), some (vi v2), some (vi v3), some (vi s.1), none] [] s.2 (PM g Y_Mo_goesThrough r m')) (Sum.elim (fun s : Int32 × Mem => V g Y_Mo_goesThrough 59 [some (vr this), some (vi v1), some (vi v2), some (vi s.1), none, none] [] s.2 (PM g Y_Mo_goesThrough r m')) (Sum.elim (fun s : Int32 × Mem => V g Y_Mo_goesThrough 52 [some (vr this), some (vi v1), some (vi s.1), none, none, none] [] s.2 (PM g Y_Mo_goesThrough r m')) (fun x : Mem => r = none ∧ m' = x)))) x) : V g Y_Mo_goesThrough 230 [some (vr this), some (vi v1), some (vi v2), some (vi v3), some (vi v4), none] [] m (PM g Y_Mo_goesThrough r m') := by
  unfold Mo_goesThrough_l230 at h
  refine V_iload (i := 4) (pc := 230) dX11_goesThrough_230 rfl ?_
  refine V_iload_n (i := 1) (pc := 232) dX11_goesThrough_232 rfl rfl ?_
  refine V_icmp_ge (pc := 233) (tgt := 261) dX11_goesThrough_233 rfl (fun q => ?_) (fun q => ?_)
  · have h := ite_t q h
    obtain ⟨y6, hu6, rfl⟩ := up_e h
    have h := hu6
    refine V_iinc (i := 3) (v := (v3 + 1)) (ls' := [some (vr this), some (vi v1), some (vi v2), some (vi (v3 + 1)), some (vi v4), none]) (pc := 261) dX11_goesThrough_261 rfl rfl (Nat.le_of_ble_eq_true rfl) rfl ?_
    refine V_goto (tgt := 59) (pc := 264) dX11_goesThrough_264 rfl ?_
    refine V_sub (ls' := [some (vr this), some (vi v1), some (vi v2), some (vi (v3 + 1)), none, none]) (And.intro rfl (And.intro rfl (And.intro rfl (And.intro rfl trivial)))) ?_
    obtain rfl := Option.some.inj h
    exact hp
  · have h := ite_f q h
    refine V_aload_n (i := 0) (pc := 236) dX11_goesThrough_236 rfl rfl ?_
    refine V_getR (b := (this + 10)) (pc := 237) dX11_goesThrough_237 fl_Mo_47 h_this rfl rfl ?_
    refine V_iload_n (i := 2) (pc := 240) dX11_goesThrough_240 rfl rfl ?_
    refine V_iload_n (i := 3) (pc := 241) dX11_goesThrough_241 rfl rfl ?_
    refine V_iload (i := 4) (pc := 242) dX11_goesThrough_242 rfl ?_
    obtain ⟨r244, e244, h⟩ := bnd h
    refine V_invS1 (pc := 244) dX11_goesThrough_244 (e_Mo_spot  e244) is_Mo_446 (rm_Mo_goesThrough_Mo_spot _ _ _) rfl (Nat.le_of_ble_eq_true rfl) rfl ?_
    refine V_aload_n (i := 0) (pc := 247) dX11_goesThrough_247 rfl rfl ?_
    refine V_getR (b := (this + 11)) (pc := 248) dX11_goesThrough_248 fl_Mo_50 h_this rfl rfl ?_
    refine V_iload (i := 4) (pc := 251) dX11_goesThrough_251 rfl ?_
    obtain ⟨hg253, h⟩ := gd_e h
    refine V_lald (pc := 253) dX11_goesThrough_253 (kf_11_19 h_this) (af_11_19 h_this) hg253 ?_
    obtain ⟨hg254, h⟩ := gd_e h
    refine V_last_lt (pc := 254) dX11_goesThrough_254 (kf_11_18 h_this) (af_11_18 h_this) hg254 h (fun m254 h => ?_)
    refine V_iinc (i := 4) (v := (v4 + 1)) (ls' := [some (vr this), some (vi v1), some (vi v2), some (vi v3), some (vi (v4 + 1)), none]) (pc := 255) dX11_goesThrough_255 rfl rfl (Nat.le_of_ble_eq_true rfl) rfl ?_
    refine V_goto (tgt := 230) (pc := 258) dX11_goesThrough_258 rfl ?_
    obtain rfl := Option.some.inj h
    exact hp
theorem k_Mo_goesThrough_b215 {g : GE} {this : Nat} {v1 : Int32} {v2 : Int32} {v3 : Int32} {v4 : Int32} {v5 : Int32}  {m : Mem} (h_this : kd this = 12) {r : Option AV} {m' : Mem} {x : (Int32 × Mem) ⊕ ((Int32 × Mem) ⊕ ((Int32 × Mem) ⊕ ((Int32 × Mem) ⊕ (Mem))))} (h : Mo_goesThrough_b215 this v1 v2 v3 v4 v5 m = some x) (hp : (Sum.elim (fun s : Int32 × Mem => V g Y_Mo_goesThrough 133 [some (vr this), some (vi v1), some (vi v2), some (vi v3), some (vi v4), some (vi s.1)] [] s.2 (PM g Y_Mo_goesThrough r m')) (Sum.elim (fun s : Int32 × Mem => V g Y_Mo_goesThrough 125 [some (vr this), some (vi v1), some (vi v2), some (vi v3), some (vi s.1), none] [] s.2 (PM g Y_Mo_goesThrough r m')) (Sum.elim (fun s : Int32 × Mem => V g Y_Mo_goesThrough 59 [some (vr this), some (vi v1), some (vi v2), some (vi s.1), none, none] [] s.2 (PM g Y_Mo_goesThrough r m')) (Sum.elim (fun s : Int32 × Mem => V g Y_Mo_goesThrough 52 [some (vr this), some (vi v1), some (vi s.1), none, none, none] [] s.2 (PM g Y_Mo_goesThrough r m')) (fun x : Mem => r = none ∧ m' = x))))) x) : V g Y_Mo_goesThrough 215 [some (vr this), some (vi v1), some (vi v2), some (vi v3), some (vi v4), some (vi v5)] [] m (PM g Y_Mo_goesThrough r m') := by
  unfold Mo_goesThrough_b215 at h
  refine V_iinc (i := 5) (v := (v5 + 1)) (ls' := [some (vr this), some (vi v1), some (vi v2), some (vi v3), some (vi v4), some (vi (v5 + 1))]) (pc := 215) dX11_goesThrough_215 rfl rfl (Nat.le_of_ble_eq_true rfl) rfl ?_
  refine V_goto (tgt := 133) (pc := 218) dX11_goesThrough_218 rfl ?_
  obtain rfl := Option.some.inj h
  exact hp
theorem k_Mo_goesThrough_l133 {g : GE} {this : Nat} {v1 : Int32} {v2 : Int32} {v3 : Int32} {v4 : Int32} {v5 : Int32} {m : Mem} (h_this : kd this = 12) {r : Option AV} {m' : Mem} {x : (Int32 × Mem) ⊕ ((Int32 × Mem) ⊕ ((Int32 × Mem) ⊕ ((Int32 × Mem) ⊕ (Mem))))} (h : Mo_goesThrough_l133 this v1 v2 v3 v4 v5 m = some x) (hp : (Sum.elim (fun s : Int32 × Mem => V g Y_Mo_goesThrough 133 [some (vr this), some (vi v1), some (vi v2), some (vi v3), some (vi v4), some (vi s.1)] [] s.2 (PM g Y_Mo_goesThrough r m')) (Sum.elim (fun s : Int32 × Mem => V g Y_Mo_goesThrough 125 [some (vr this), some (vi v1), some (vi v2), some (vi v3), some (vi s.1), none] [] s.2 (PM g Y_Mo_goesThrough r m')) (Sum.elim (fun s : Int32 × Mem => V g Y_Mo_goesThrough 59 [some (vr this), some (vi v1), some (vi v2), some (vi s.1), none, none] [] s.2 (PM g Y_Mo_goesThrough r m')) (Sum.elim (fun s : Int32 × Mem => V g Y_Mo_goesThrough 52 [some (vr this), some (vi v1), some (vi s.1), none, none, none] [] s.2 (PM g Y_Mo_goesThrough r m')) (fun x : Mem => r = none ∧ m' = x))))) x) : V g Y_Mo_goesThrough 133 [some (vr this), some (vi v1), some (vi v2), some (vi v3), some (vi v4), some (vi v5)] [] m (PM g Y_Mo_goesThrough r m') := by
  unfold Mo_goesThrough_l133 at h
  refine V_iload (i := 5) (pc := 133) dX11_goesThrough_133 rfl ?_
  refine V_iload_n (i := 1) (pc := 135) dX11_goesThrough_135 rfl rfl ?_
  refine V_icmp_ge (pc := 136) (tgt := 221) dX11_goesThrough_136 rfl (fun q => ?_) (fun q => ?_)
  · have h := ite_t q h
    obtain ⟨y7, hu7, rfl⟩ := up_e h
    have h := hu7
    refine V_iinc (i := 4) (v := (v4 + (-1))) (ls' := [some (vr this), some (vi v1), some (vi v2), some (vi v3), some (vi (v4 + (-1))), some (vi v5)]) (pc := 221) dX11_goesThrough_221 rfl rfl (Nat.le_of_ble_eq_true rfl) rfl ?_
    refine V_goto (tgt := 125) (pc := 224) dX11_goesThrough_224 rfl ?_
    refine V_sub (ls' := [some (vr this), some (vi v1), some (vi v2), some (vi v3), some (vi (v4 + (-1))), none]) (And.intro rfl (And.intro rfl (And.intro rfl (And.intro rfl (And.intro rfl trivial))))) ?_
    obtain rfl := Option.some.inj h
    exact hp
  · have h := ite_f q h
    refine V_iload (i := 5) (pc := 139) dX11_goesThrough_139 rfl ?_
    refine V_iload (i := 4) (pc := 141) dX11_goesThrough_141 rfl ?_
    obtain ⟨r143, e143, h⟩ := bnd h
    refine V_invS1 (pc := 143) dX11_goesThrough_143 (e_Mo_holds  e143) is_Mo_239 (rm_Mo_goesThrough_Mo_holds _ _ _) rfl (Nat.le_of_ble_eq_true rfl) rfl ?_
    refine V_if_ne (pc := 146) (tgt := 215) dX11_goesThrough_146 rfl (fun q => ?_) (fun q => ?_)
    · have h := ite_f q h
      exact k_Mo_goesThrough_b215 h_this h hp
    · have h := ite_t q h
      refine V_aload_n (i := 0) (pc := 149) dX11_goesThrough_149 rfl rfl ?_
      refine V_iload (i := 4) (pc := 150) dX11_goesThrough_150 rfl ?_
      refine V_iconst (v := 0) (pc := 152) dX11_goesThrough_152 rfl ?_
      obtain ⟨r153, e153, h⟩ := bnd h
      refine V_invV1 (c := 11) (pc := 153) dX11_goesThrough_153 (e_Mo_ofOther h_this e153) iv_Mo_443 (rm_Mo_goesThrough_Mo_ofOther _ _ _) rfl h_this cf_11 rfl (Nat.le_of_ble_eq_true rfl) rfl ?_
      refine V_iload_n (i := 2) (pc := 156) dX11_goesThrough_156 rfl rfl ?_
      refine V_icmp_le (pc := 157) (tgt := 163) dX11_goesThrough_157 rfl (fun q => ?_) (fun q => ?_)
      · have h := ite_t q h
        refine V_aload_n (i := 0) (pc := 163) dX11_goesThrough_163 rfl rfl ?_
        refine V_getR (b := (this + 11)) (pc := 164) dX11_goesThrough_164 fl_Mo_50 h_this rfl rfl ?_
        refine V_iload (i := 5) (pc := 167) dX11_goesThrough_167 rfl ?_
        refine V_aload_n (i := 0) (pc := 169) dX11_goesThrough_169 rfl rfl ?_
        refine V_iload (i := 4) (pc := 170) dX11_goesThrough_170 rfl ?_
        refine V_iconst (v := 1) (pc := 172) dX11_goesThrough_172 rfl ?_
        obtain ⟨r173, e173, h⟩ := bnd h
        refine V_invV1 (c := 11) (pc := 173) dX11_goesThrough_173 (e_Mo_ofOther h_this e173) iv_Mo_443 (rm_Mo_goesThrough_Mo_ofOther _ _ _) rfl h_this cf_11 rfl (Nat.le_of_ble_eq_true rfl) rfl ?_
        refine V_i2l (pc := 176) dX11_goesThrough_176 ?_
        refine V_aload_n (i := 0) (pc := 177) dX11_goesThrough_177 rfl rfl ?_
        refine V_getR (b := (this + 11)) (pc := 178) dX11_goesThrough_178 fl_Mo_50 h_this rfl rfl ?_
        refine V_iload (i := 5) (pc := 181) dX11_goesThrough_181 rfl ?_
        refine V_iconst (v := 1) (pc := 183) dX11_goesThrough_183 rfl ?_
        refine V_iload (i := 4) (pc := 184) dX11_goesThrough_184 rfl ?_
        refine V_ishl (pc := 186) dX11_goesThrough_186 ?_
        refine V_ior (pc := 187) dX11_goesThrough_187 ?_
        obtain ⟨hg188, h⟩ := gd_e h
        refine V_lald (pc := 188) dX11_goesThrough_188 (kf_11_19 h_this) (af_11_19 h_this) hg188 ?_
        refine V_lmul (pc := 189) dX11_goesThrough_189 ?_
        refine V_bipush (v := 100) (pc := 190) dX11_goesThrough_190 rfl ?_
        refine V_aload_n (i := 0) (pc := 192) dX11_goesThrough_192 rfl rfl ?_
        refine V_iload (i := 4) (pc := 193) dX11_goesThrough_193 rfl ?_
        refine V_iconst (v := 1) (pc := 195) dX11_goesThrough_195 rfl ?_
        obtain ⟨r196, e196, h⟩ := bnd h
        refine V_invV1 (c := 11) (pc := 196) dX11_goesThrough_196 (e_Mo_ofOther h_this e196) iv_Mo_443 (rm_Mo_goesThrough_Mo_ofOther _ _ _) rfl h_this cf_11 rfl (Nat.le_of_ble_eq_true rfl) rfl ?_
        refine V_isub (pc := 199) dX11_goesThrough_199 ?_
        refine V_i2l (pc := 200) dX11_goesThrough_200 ?_
        refine V_aload_n (i := 0) (pc := 201) dX11_goesThrough_201 rfl rfl ?_
        refine V_getR (b := (this + 11)) (pc := 202) dX11_goesThrough_202 fl_Mo_50 h_this rfl rfl ?_
        refine V_iload (i := 5) (pc := 205) dX11_goesThrough_205 rfl ?_
        obtain ⟨hg207, h⟩ := gd_e h
        refine V_lald (pc := 207) dX11_goesThrough_207 (kf_11_19 h_this) (af_11_19 h_this) hg207 ?_
        refine V_lmul (pc := 208) dX11_goesThrough_208 ?_
        refine V_ladd (pc := 209) dX11_goesThrough_209 ?_
        refine V_ldc2 (v := 100) (pc := 210) dX11_goesThrough_210 con_Mo_340 ?_
        refine V_ldiv (pc := 213) dX11_goesThrough_213 (by decide) ?_
        obtain ⟨hg214, h⟩ := gd_e h
        refine V_last_lt (pc := 214) dX11_goesThrough_214 (kf_11_19 h_this) (af_11_19 h_this) hg214 h (fun m214 h => ?_)
        exact k_Mo_goesThrough_b215 h_this h hp
      · have h := ite_f q h
        refine V_goto (tgt := 215) (pc := 160) dX11_goesThrough_160 rfl ?_
        exact k_Mo_goesThrough_b215 h_this h hp
theorem k_Mo_goesThrough_l125 {g : GE} {this : Nat} {v1 : Int32} {v2 : Int32} {v3 : Int32} {v4 : Int32} {m : Mem} (h_this : kd this = 12) {r : Option AV} {m' : Mem} {x : (Int32 × Mem) ⊕ ((Int32 × Mem) ⊕ ((Int32 × Mem) ⊕ (Mem)))} (h : Mo_goesThrough_l125 this v1 v2 v3 v4 m = some x) (hp : (Sum.elim (fun s : Int32 × Mem => V g Y_Mo_goesThrough 125 [some (vr this), some (vi v1), some (vi v2), some (vi v3), some (vi s.1), none] [] s.2 (PM g Y_Mo_goesThrough r m')) (Sum.elim (fun s : Int32 × Mem => V g Y_Mo_goesThrough 59 [some (vr this), some (vi v1), some (vi v2), some (vi s.1), none, none] [] s.2 (PM g Y_Mo_goesThrough r m')) (Sum.elim (fun s : Int32 × Mem => V g Y_Mo_goesThrough 52 [some (vr this), some (vi v1), some (vi s.1), none, none, none] [] s.2 (PM g Y_Mo_goesThrough r m')) (fun x : Mem => r = none ∧ m' = x)))) x) : V g Y_Mo_goesThrough 125 [some (vr this), some (vi v1), some (vi v2), some (vi v3), some (vi v4), none] [] m (PM g Y_Mo_goesThrough r m') := by
  unfold Mo_goesThrough_l125 at h
  refine V_iload (i := 4) (pc := 125) dX11_goesThrough_125 rfl ?_
  refine V_if_lt (pc := 127) (tgt := 227) dX11_goesThrough_127 rfl (fun q => ?_) (fun q => ?_)
  · have h := ite_t q h
    obtain ⟨y5, hu5, rfl⟩ := up_e h
    have h := hu5
    refine V_iconst (v := 0) (pc := 227) dX11_goesThrough_227 rfl ?_
    refine V_istore (i := 4) (ls' := [some (vr this), some (vi v1), some (vi v2), some (vi v3), some (vi 0), none]) (pc := 228) dX11_goesThrough_228 (Nat.le_of_ble_eq_true rfl) rfl ?_
    exact loop_V (A := fun s : Int32 × Mem => V g Y_Mo_goesThrough 230 [some (vr this), some (vi v1), some (vi v2), some (vi v3), some (vi s.1), none] [] s.2 (PM g Y_Mo_goesThrough r m')) (fun s x h hp => k_Mo_goesThrough_l230 h_this h hp) (0, m) _ h hp
  · have h := ite_f q h
    refine V_iconst (v := 0) (pc := 130) dX11_goesThrough_130 rfl ?_
    refine V_istore (i := 5) (ls' := [some (vr this), some (vi v1), some (vi v2), some (vi v3), some (vi v4), some (vi 0)]) (pc := 131) dX11_goesThrough_131 (Nat.le_of_ble_eq_true rfl) rfl ?_
    exact loop_V (A := fun s : Int32 × Mem => V g Y_Mo_goesThrough 133 [some (vr this), some (vi v1), some (vi v2), some (vi v3), some (vi v4), some (vi s.1)] [] s.2 (PM g Y_Mo_goesThrough r m')) (fun s x h hp => k_Mo_goesThrough_l133 h_this h hp) (0, m) _ h hp
theorem k_Mo_goesThrough_b107 {g : GE} {this : Nat} {v1 : Int32} {v2 : Int32} {v3 : Int32} {v4 : Int32} {k1 : Int32} {k2 : Int64}  {m : Mem} (h_this : kd this = 12) {r : Option AV} {m' : Mem} {x : (Int32 × Mem) ⊕ ((Int32 × Mem) ⊕ ((Int32 × Mem) ⊕ (Mem)))} (h : Mo_goesThrough_b107 this v1 v2 v3 v4 k1 k2 m = some x) (hp : (Sum.elim (fun s : Int32 × Mem => V g Y_Mo_goesThrough 73 [some (vr this), some (vi v1), some (vi v2), some (vi v3), some (vi s.1), none] [] s.2 (PM g Y_Mo_goesThrough r m')) (Sum.elim (fun s : Int32 × Mem => V g Y_Mo_goesThrough 59 [some (vr this), some (vi v1), some (vi v2), some (vi s.1), none, none] [] s.2 (PM g Y_Mo_goesThrough r m')) (Sum.elim (fun s : Int32 × Mem => V g Y_Mo_goesThrough 52 [some (vr this), some (vi v1), some (vi s.1), none, none, none] [] s.2 (PM g Y_Mo_goesThrough r m')) (fun x : Mem => r = none ∧ m' = x)))) x) : V g Y_Mo_goesThrough 107 [some (vr this), some (vi v1), some (vi v2), some (vi v3), some (vi v4), none] [vl k2, vi k1, vr (this + 11)] m (PM g Y_Mo_goesThrough r m') := by
  unfold Mo_goesThrough_b107 at h
  obtain ⟨hg107, h⟩ := gd_e h
  refine V_last_lt (pc := 107) dX11_goesThrough_107 (kf_11_19 h_this) (af_11_19 h_this) hg107 h (fun m107 h => ?_)
  refine V_iinc (i := 4) (v := (v4 + 1)) (ls' := [some (vr this), some (vi v1), some (vi v2), some (vi v3), some (vi (v4 + 1)), none]) (pc := 108) dX11_goesThrough_108 rfl rfl (Nat.le_of_ble_eq_true rfl) rfl ?_
  refine V_goto (tgt := 73) (pc := 111) dX11_goesThrough_111 rfl ?_
  obtain rfl := Option.some.inj h
  exact hp
theorem k_Mo_goesThrough_l73 {g : GE} {this : Nat} {v1 : Int32} {v2 : Int32} {v3 : Int32} {v4 : Int32} {m : Mem} (h_this : kd this = 12) {r : Option AV} {m' : Mem} {x : (Int32 × Mem) ⊕ ((Int32 × Mem) ⊕ ((Int32 × Mem) ⊕ (Mem)))} (h : Mo_goesThrough_l73 this v1 v2 v3 v4 m = some x) (hp : (Sum.elim (fun s : Int32 × Mem => V g Y_Mo_goesThrough 73 [some (vr this), some (vi v1), some (vi v2), some (vi v3), some (vi s.1), none] [] s.2 (PM g Y_Mo_goesThrough r m')) (Sum.elim (fun s : Int32 × Mem => V g Y_Mo_goesThrough 59 [some (vr this), some (vi v1), some (vi v2), some (vi s.1), none, none] [] s.2 (PM g Y_Mo_goesThrough r m')) (Sum.elim (fun s : Int32 × Mem => V g Y_Mo_goesThrough 52 [some (vr this), some (vi v1), some (vi s.1), none, none, none] [] s.2 (PM g Y_Mo_goesThrough r m')) (fun x : Mem => r = none ∧ m' = x)))) x) : V g Y_Mo_goesThrough 73 [some (vr this), some (vi v1), some (vi v2), some (vi v3), some (vi v4), none] [] m (PM g Y_Mo_goesThrough r m') := by
  unfold Mo_goesThrough_l73 at h
  refine V_iload (i := 4) (pc := 73) dX11_goesThrough_73 rfl ?_
  refine V_iload_n (i := 1) (pc := 75) dX11_goesThrough_75 rfl rfl ?_
  refine V_icmp_ge (pc := 76) (tgt := 114) dX11_goesThrough_76 rfl (fun q => ?_) (fun q => ?_)
  · have h := ite_t q h
    obtain ⟨y4, hu4, rfl⟩ := up_e h
    have h := hu4
    refine V_aload_n (i := 0) (pc := 114) dX11_goesThrough_114 rfl rfl ?_
    refine V_getR (b := (this + 1)) (pc := 115) dX11_goesThrough_115 fl_Mo_13 h_this rfl rfl ?_
    refine V_bipush (v := 7) (pc := 118) dX11_goesThrough_118 rfl ?_
    obtain ⟨hg120, h⟩ := gd_e h
    refine V_iald (pc := 120) dX11_goesThrough_120 (kf_11_1 h_this) (af_11_1 h_this) hg120 ?_
    refine V_iconst (v := 1) (pc := 121) dX11_goesThrough_121 rfl ?_
    refine V_isub (pc := 122) dX11_goesThrough_122 ?_
    refine V_istore (i := 4) (ls' := [some (vr this), some (vi v1), some (vi v2), some (vi v3), some (vi ((rI m (this + 1) (ix 7)) - 1)), none]) (pc := 123) dX11_goesThrough_123 (Nat.le_of_ble_eq_true rfl) rfl ?_
    exact loop_V (A := fun s : Int32 × Mem => V g Y_Mo_goesThrough 125 [some (vr this), some (vi v1), some (vi v2), some (vi v3), some (vi s.1), none] [] s.2 (PM g Y_Mo_goesThrough r m')) (fun s x h hp => k_Mo_goesThrough_l125 h_this h hp) (((rI m (this + 1) (ix 7)) - 1), m) _ h hp
  · have h := ite_f q h
    refine V_aload_n (i := 0) (pc := 79) dX11_goesThrough_79 rfl rfl ?_
    refine V_getR (b := (this + 11)) (pc := 80) dX11_goesThrough_80 fl_Mo_50 h_this rfl rfl ?_
    refine V_iload (i := 4) (pc := 83) dX11_goesThrough_83 rfl ?_
    refine V_aload_n (i := 0) (pc := 85) dX11_goesThrough_85 rfl rfl ?_
    refine V_iload_n (i := 3) (pc := 86) dX11_goesThrough_86 rfl rfl ?_
    refine V_iload (i := 4) (pc := 87) dX11_goesThrough_87 rfl ?_
    obtain ⟨r89, e89, h⟩ := bnd h
    refine V_invV1 (c := 11) (pc := 89) dX11_goesThrough_89 (e_Mo_isNear h_this e89) iv_Mo_456 (rm_Mo_goesThrough_Mo_isNear _ _ _) rfl h_this cf_11 rfl (Nat.le_of_ble_eq_true rfl) rfl ?_
    refine V_if_eq (pc := 92) (tgt := 106) dX11_goesThrough_92 rfl (fun q => ?_) (fun q => ?_)
    · have h := ite_t q h
      refine V_lconst (v := 0) (pc := 106) dX11_goesThrough_106 rfl ?_
      exact k_Mo_goesThrough_b107 h_this h hp
    · have h := ite_f q h
      refine V_aload_n (i := 0) (pc := 95) dX11_goesThrough_95 rfl rfl ?_
      refine V_iload_n (i := 2) (pc := 96) dX11_goesThrough_96 rfl rfl ?_
      refine V_iload_n (i := 3) (pc := 97) dX11_goesThrough_97 rfl rfl ?_
      refine V_iload (i := 4) (pc := 98) dX11_goesThrough_98 rfl ?_
      obtain ⟨r100, e100, h⟩ := bnd h
      refine V_invV1 (c := 11) (pc := 100) dX11_goesThrough_100 (e_Mo_endOf h_this e100) iv_Mo_462 (rm_Mo_goesThrough_Mo_endOf _ _ _) rfl h_this cf_11 rfl (Nat.le_of_ble_eq_true rfl) rfl ?_
      refine V_goto (tgt := 107) (pc := 103) dX11_goesThrough_103 rfl ?_
      exact k_Mo_goesThrough_b107 h_this h hp
theorem k_Mo_goesThrough_l59 {g : GE} {this : Nat} {v1 : Int32} {v2 : Int32} {v3 : Int32} {m : Mem} (h_this : kd this = 12) {r : Option AV} {m' : Mem} {x : (Int32 × Mem) ⊕ ((Int32 × Mem) ⊕ (Mem))} (h : Mo_goesThrough_l59 this v1 v2 v3 m = some x) (hp : (Sum.elim (fun s : Int32 × Mem => V g Y_Mo_goesThrough 59 [some (vr this), some (vi v1), some (vi v2), some (vi s.1), none, none] [] s.2 (PM g Y_Mo_goesThrough r m')) (Sum.elim (fun s : Int32 × Mem => V g Y_Mo_goesThrough 52 [some (vr this), some (vi v1), some (vi s.1), none, none, none] [] s.2 (PM g Y_Mo_goesThrough r m')) (fun x : Mem => r = none ∧ m' = x))) x) : V g Y_Mo_goesThrough 59 [some (vr this), some (vi v1), some (vi v2), some (vi v3), none, none] [] m (PM g Y_Mo_goesThrough r m') := by
  unfold Mo_goesThrough_l59 at h
  refine V_iload_n (i := 3) (pc := 59) dX11_goesThrough_59 rfl rfl ?_
  refine V_aload_n (i := 0) (pc := 60) dX11_goesThrough_60 rfl rfl ?_
  refine V_getR (b := (this + 1)) (pc := 61) dX11_goesThrough_61 fl_Mo_13 h_this rfl rfl ?_
  refine V_bipush (v := 7) (pc := 64) dX11_goesThrough_64 rfl ?_
  obtain ⟨hg66, h⟩ := gd_e h
  refine V_iald (pc := 66) dX11_goesThrough_66 (kf_11_1 h_this) (af_11_1 h_this) hg66 ?_
  refine V_icmp_gt (pc := 67) (tgt := 267) dX11_goesThrough_67 rfl (fun q => ?_) (fun q => ?_)
  · have h := ite_t q h
    obtain ⟨y3, hu3, rfl⟩ := up_e h
    have h := hu3
    refine V_iinc (i := 2) (v := (v2 + (-1))) (ls' := [some (vr this), some (vi v1), some (vi (v2 + (-1))), some (vi v3), none, none]) (pc := 267) dX11_goesThrough_267 rfl rfl (Nat.le_of_ble_eq_true rfl) rfl ?_
    refine V_goto (tgt := 52) (pc := 270) dX11_goesThrough_270 rfl ?_
    refine V_sub (ls' := [some (vr this), some (vi v1), some (vi (v2 + (-1))), none, none, none]) (And.intro rfl (And.intro rfl (And.intro rfl trivial))) ?_
    obtain rfl := Option.some.inj h
    exact hp
  · have h := ite_f q h
    refine V_iconst (v := 0) (pc := 70) dX11_goesThrough_70 rfl ?_
    refine V_istore (i := 4) (ls' := [some (vr this), some (vi v1), some (vi v2), some (vi v3), some (vi 0), none]) (pc := 71) dX11_goesThrough_71 (Nat.le_of_ble_eq_true rfl) rfl ?_
    exact loop_V (A := fun s : Int32 × Mem => V g Y_Mo_goesThrough 73 [some (vr this), some (vi v1), some (vi v2), some (vi v3), some (vi s.1), none] [] s.2 (PM g Y_Mo_goesThrough r m')) (fun s x h hp => k_Mo_goesThrough_l73 h_this h hp) (0, m) _ h hp
theorem k_Mo_goesThrough_l52 {g : GE} {this : Nat} {v1 : Int32} {v2 : Int32} {m : Mem} (h_this : kd this = 12) {r : Option AV} {m' : Mem} {x : (Int32 × Mem) ⊕ (Mem)} (h : Mo_goesThrough_l52 this v1 v2 m = some x) (hp : (Sum.elim (fun s : Int32 × Mem => V g Y_Mo_goesThrough 52 [some (vr this), some (vi v1), some (vi s.1), none, none, none] [] s.2 (PM g Y_Mo_goesThrough r m')) (fun x : Mem => r = none ∧ m' = x)) x) : V g Y_Mo_goesThrough 52 [some (vr this), some (vi v1), some (vi v2), none, none, none] [] m (PM g Y_Mo_goesThrough r m') := by
  unfold Mo_goesThrough_l52 at h
  refine V_iload_n (i := 2) (pc := 52) dX11_goesThrough_52 rfl rfl ?_
  refine V_iconst (v := 1) (pc := 53) dX11_goesThrough_53 rfl ?_
  refine V_icmp_lt (pc := 54) (tgt := 273) dX11_goesThrough_54 rfl (fun q => ?_) (fun q => ?_)
  · have h := ite_t q h
    obtain ⟨y2, hu2, rfl⟩ := up_e h
    have h := hu2
    obtain rfl := Option.some.inj h
    exact E_v (pc := 273) dX11_goesThrough_273 rfl hp
  · have h := ite_f q h
    refine V_iconst (v := 0) (pc := 57) dX11_goesThrough_57 rfl ?_
    refine V_istore_n (i := 3) (ls' := [some (vr this), some (vi v1), some (vi v2), some (vi 0), none, none]) (pc := 58) dX11_goesThrough_58 rfl (Nat.le_of_ble_eq_true rfl) rfl ?_
    exact loop_V (A := fun s : Int32 × Mem => V g Y_Mo_goesThrough 59 [some (vr this), some (vi v1), some (vi v2), some (vi s.1), none, none] [] s.2 (PM g Y_Mo_goesThrough r m')) (fun s x h hp => k_Mo_goesThrough_l59 h_this h hp) (0, m) _ h hp
theorem k_Mo_goesThrough_l12 {g : GE} {this : Nat} {v1 : Int32} {v2 : Int32} {m : Mem} (h_this : kd this = 12) {r : Option AV} {m' : Mem} {x : (Int32 × Mem) ⊕ (Mem)} (h : Mo_goesThrough_l12 this v1 v2 m = some x) (hp : (Sum.elim (fun s : Int32 × Mem => V g Y_Mo_goesThrough 12 [some (vr this), some (vi v1), some (vi s.1), none, none, none] [] s.2 (PM g Y_Mo_goesThrough r m')) (fun x : Mem => r = none ∧ m' = x)) x) : V g Y_Mo_goesThrough 12 [some (vr this), some (vi v1), some (vi v2), none, none, none] [] m (PM g Y_Mo_goesThrough r m') := by
  unfold Mo_goesThrough_l12 at h
  refine V_iload_n (i := 2) (pc := 12) dX11_goesThrough_12 rfl rfl ?_
  refine V_bipush (v := 80) (pc := 13) dX11_goesThrough_13 rfl ?_
  refine V_icmp_ge (pc := 15) (tgt := 45) dX11_goesThrough_15 rfl (fun q => ?_) (fun q => ?_)
  · have h := ite_t q h
    obtain ⟨y1, hu1, rfl⟩ := up_e h
    have h := hu1
    refine V_aload_n (i := 0) (pc := 45) dX11_goesThrough_45 rfl rfl ?_
    refine V_getR (b := (this + 1)) (pc := 46) dX11_goesThrough_46 fl_Mo_13 h_this rfl rfl ?_
    refine V_iconst (v := 4) (pc := 49) dX11_goesThrough_49 rfl ?_
    obtain ⟨hg50, h⟩ := gd_e h
    refine V_iald (pc := 50) dX11_goesThrough_50 (kf_11_1 h_this) (af_11_1 h_this) hg50 ?_
    refine V_istore_n (i := 2) (ls' := [some (vr this), some (vi v1), some (vi (rI m (this + 1) (ix 4))), none, none, none]) (pc := 51) dX11_goesThrough_51 rfl (Nat.le_of_ble_eq_true rfl) rfl ?_
    exact loop_V (A := fun s : Int32 × Mem => V g Y_Mo_goesThrough 52 [some (vr this), some (vi v1), some (vi s.1), none, none, none] [] s.2 (PM g Y_Mo_goesThrough r m')) (fun s x h hp => k_Mo_goesThrough_l52 h_this h hp) ((rI m (this + 1) (ix 4)), m) _ h hp
  · have h := ite_f q h
    refine V_aload_n (i := 0) (pc := 18) dX11_goesThrough_18 rfl rfl ?_
    refine V_getR (b := (this + 10)) (pc := 19) dX11_goesThrough_19 fl_Mo_47 h_this rfl rfl ?_
    refine V_bipush (v := 80) (pc := 22) dX11_goesThrough_22 rfl ?_
    refine V_aload_n (i := 0) (pc := 24) dX11_goesThrough_24 rfl rfl ?_
    refine V_getR (b := (this + 1)) (pc := 25) dX11_goesThrough_25 fl_Mo_13 h_this rfl rfl ?_
    refine V_iconst (v := 4) (pc := 28) dX11_goesThrough_28 rfl ?_
    obtain ⟨hg29, h⟩ := gd_e h
    refine V_iald (pc := 29) dX11_goesThrough_29 (kf_11_1 h_this) (af_11_1 h_this) hg29 ?_
    refine V_iconst (v := 1) (pc := 30) dX11_goesThrough_30 rfl ?_
    refine V_iadd (pc := 31) dX11_goesThrough_31 ?_
    refine V_imul (pc := 32) dX11_goesThrough_32 ?_
    refine V_iload_n (i := 2) (pc := 33) dX11_goesThrough_33 rfl rfl ?_
    refine V_iadd (pc := 34) dX11_goesThrough_34 ?_
    refine V_ldc2 (v := 1000000000000) (pc := 35) dX11_goesThrough_35 con_Mo_336 ?_
    obtain ⟨hg38, h⟩ := gd_e h
    refine V_last_lt (pc := 38) dX11_goesThrough_38 (kf_11_18 h_this) (af_11_18 h_this) hg38 h (fun m38 h => ?_)
    refine V_iinc (i := 2) (v := (v2 + 1)) (ls' := [some (vr this), some (vi v1), some (vi (v2 + 1)), none, none, none]) (pc := 39) dX11_goesThrough_39 rfl rfl (Nat.le_of_ble_eq_true rfl) rfl ?_
    refine V_goto (tgt := 12) (pc := 42) dX11_goesThrough_42 rfl ?_
    obtain rfl := Option.some.inj h
    exact hp
theorem k_Mo_goesThrough {g : GE} {this : Nat} {m : Mem} (h_this : kd this = 12) {r : Option AV} {m' : Mem} {x : Mem} (h : Mo_goesThrough this m = some x) (hp : (fun x : Mem => r = none ∧ m' = x) x) : V g Y_Mo_goesThrough 0 [some (vr this), none, none, none, none, none] [] m (PM g Y_Mo_goesThrough r m') := by
  unfold Mo_goesThrough at h
  refine V_iconst (v := 1) (pc := 0) dX11_goesThrough_0 rfl ?_
  refine V_aload_n (i := 0) (pc := 1) dX11_goesThrough_1 rfl rfl ?_
  refine V_getR (b := (this + 1)) (pc := 2) dX11_goesThrough_2 fl_Mo_13 h_this rfl rfl ?_
  refine V_bipush (v := 7) (pc := 5) dX11_goesThrough_5 rfl ?_
  obtain ⟨hg7, h⟩ := gd_e h
  refine V_iald (pc := 7) dX11_goesThrough_7 (kf_11_1 h_this) (af_11_1 h_this) hg7 ?_
  refine V_ishl (pc := 8) dX11_goesThrough_8 ?_
  refine V_istore_n (i := 1) (ls' := [some (vr this), some (vi ((1 : Int32) <<< ((rI m (this + 1) (ix 7)) &&& 31))), none, none, none, none]) (pc := 9) dX11_goesThrough_9 rfl (Nat.le_of_ble_eq_true rfl) rfl ?_
  refine V_iconst (v := 0) (pc := 10) dX11_goesThrough_10 rfl ?_
  refine V_istore_n (i := 2) (ls' := [some (vr this), some (vi ((1 : Int32) <<< ((rI m (this + 1) (ix 7)) &&& 31))), some (vi 0), none, none, none]) (pc := 11) dX11_goesThrough_11 rfl (Nat.le_of_ble_eq_true rfl) rfl ?_
  exact loop_V (A := fun s : Int32 × Mem => V g Y_Mo_goesThrough 12 [some (vr this), some (vi ((1 : Int32) <<< ((rI m (this + 1) (ix 7)) &&& 31))), some (vi s.1), none, none, none] [] s.2 (PM g Y_Mo_goesThrough r m')) (fun s x h hp => k_Mo_goesThrough_l12 h_this h hp) (0, m) _ h hp
theorem e_Mo_goesThrough {g : GE} {this : Nat} {m : Mem} (h_this : kd this = 12) {x : Mem} (h : Mo_goesThrough this m = some x) : Ev g Y_Mo_goesThrough [vr this] m (none) x :=
  Ev_of 5 (by decide +kernel) rfl (Nat.le_of_ble_eq_true rfl) rfl (k_Mo_goesThrough h_this h ⟨rfl, rfl⟩)
theorem k_Mo_isMorning {g : GE} {this : Nat} {v1 : Int32} {v2 : Int32} {v3 : Int32} {m : Mem} (h_this : kd this = 12) {r : Option AV} {m' : Mem} {x : Int32} (h : Mo_isMorning this v1 v2 v3 m = some x) (hp : (fun x : Int32 => r = some (vi x) ∧ m' = m) x) : V g Y_Mo_isMorning 0 [some (vr this), some (vi v1), some (vi v2), some (vi v3)] [] m (PM g Y_Mo_isMorning r m') := by
  unfold Mo_isMorning at h
  refine V_aload_n (i := 0) (pc := 0) dX11_isMorning_0 rfl rfl ?_
  obtain ⟨r1, e1, h⟩ := bnd h
  refine V_invV1 (c := 11) (pc := 1) dX11_isMorning_1 (e_Mo_isFloe h_this e1) iv_Mo_271 (rm_Mo_isMorning_Mo_isFloe _ _ _) rfl h_this cf_11 rfl (Nat.le_of_ble_eq_true rfl) rfl ?_
  refine V_if_eq (pc := 4) (tgt := 74) dX11_isMorning_4 rfl (fun q => ?_) (fun q => ?_)
  · have h := ite_t q h
    refine V_iconst (v := 0) (pc := 74) dX11_isMorning_74 rfl ?_
    obtain rfl := Option.some.inj h
    exact E_z (pc := 75) dX11_isMorning_75 rfl rfl hp
  · have h := ite_f q h
    refine V_iload_n (i := 1) (pc := 7) dX11_isMorning_7 rfl rfl ?_
    refine V_i2l (pc := 8) dX11_isMorning_8 ?_
    refine V_lconst (v := 1) (pc := 9) dX11_isMorning_9 rfl ?_
    refine V_aload_n (i := 0) (pc := 10) dX11_isMorning_10 rfl rfl ?_
    refine V_getR (b := (this + 1)) (pc := 11) dX11_isMorning_11 fl_Mo_13 h_this rfl rfl ?_
    refine V_iconst (v := 4) (pc := 14) dX11_isMorning_14 rfl ?_
    obtain ⟨hg15, h⟩ := gd_e h
    refine V_iald (pc := 15) dX11_isMorning_15 (kf_11_1 h_this) (af_11_1 h_this) hg15 ?_
    refine V_i2l (pc := 16) dX11_isMorning_16 ?_
    obtain ⟨r17, e17, h⟩ := bnd h
    refine V_invS1 (pc := 17) dX11_isMorning_17 (e_Mo_in  e17) is_Mo_84 (rm_Mo_isMorning_Mo_in _ _ _) rfl (Nat.le_of_ble_eq_true rfl) rfl ?_
    refine V_if_eq (pc := 20) (tgt := 74) dX11_isMorning_20 rfl (fun q => ?_) (fun q => ?_)
    · have h := ite_t q h
      refine V_iconst (v := 0) (pc := 74) dX11_isMorning_74 rfl ?_
      obtain rfl := Option.some.inj h
      exact E_z (pc := 75) dX11_isMorning_75 rfl rfl hp
    · have h := ite_f q h
      refine V_iload_n (i := 2) (pc := 23) dX11_isMorning_23 rfl rfl ?_
      refine V_i2l (pc := 24) dX11_isMorning_24 ?_
      refine V_lconst (v := 0) (pc := 25) dX11_isMorning_25 rfl ?_
      refine V_aload_n (i := 0) (pc := 26) dX11_isMorning_26 rfl rfl ?_
      refine V_getR (b := (this + 1)) (pc := 27) dX11_isMorning_27 fl_Mo_13 h_this rfl rfl ?_
      refine V_bipush (v := 7) (pc := 30) dX11_isMorning_30 rfl ?_
      obtain ⟨hg32, h⟩ := gd_e h
      refine V_iald (pc := 32) dX11_isMorning_32 (kf_11_1 h_this) (af_11_1 h_this) hg32 ?_
      refine V_i2l (pc := 33) dX11_isMorning_33 ?_
      obtain ⟨r34, e34, h⟩ := bnd h
      refine V_invS1 (pc := 34) dX11_isMorning_34 (e_Mo_in  e34) is_Mo_84 (rm_Mo_isMorning_Mo_in _ _ _) rfl (Nat.le_of_ble_eq_true rfl) rfl ?_
      refine V_if_eq (pc := 37) (tgt := 74) dX11_isMorning_37 rfl (fun q => ?_) (fun q => ?_)
      · have h := ite_t q h
        refine V_iconst (v := 0) (pc := 74) dX11_isMorning_74 rfl ?_
        obtain rfl := Option.some.inj h
        exact E_z (pc := 75) dX11_isMorning_75 rfl rfl hp
      · have h := ite_f q h
        refine V_iload_n (i := 3) (pc := 40) dX11_isMorning_40 rfl rfl ?_
        refine V_i2l (pc := 41) dX11_isMorning_41 ?_
        refine V_lconst (v := 0) (pc := 42) dX11_isMorning_42 rfl ?_
        refine V_iconst (v := 1) (pc := 43) dX11_isMorning_43 rfl ?_
        refine V_aload_n (i := 0) (pc := 44) dX11_isMorning_44 rfl rfl ?_
        refine V_getR (b := (this + 1)) (pc := 45) dX11_isMorning_45 fl_Mo_13 h_this rfl rfl ?_
        refine V_bipush (v := 7) (pc := 48) dX11_isMorning_48 rfl ?_
        obtain ⟨hg50, h⟩ := gd_e h
        refine V_iald (pc := 50) dX11_isMorning_50 (kf_11_1 h_this) (af_11_1 h_this) hg50 ?_
        refine V_ishl (pc := 51) dX11_isMorning_51 ?_
        refine V_iconst (v := 1) (pc := 52) dX11_isMorning_52 rfl ?_
        refine V_isub (pc := 53) dX11_isMorning_53 ?_
        refine V_i2l (pc := 54) dX11_isMorning_54 ?_
        obtain ⟨r55, e55, h⟩ := bnd h
        refine V_invS1 (pc := 55) dX11_isMorning_55 (e_Mo_in  e55) is_Mo_84 (rm_Mo_isMorning_Mo_in _ _ _) rfl (Nat.le_of_ble_eq_true rfl) rfl ?_
        refine V_if_eq (pc := 58) (tgt := 74) dX11_isMorning_58 rfl (fun q => ?_) (fun q => ?_)
        · have h := ite_t q h
          refine V_iconst (v := 0) (pc := 74) dX11_isMorning_74 rfl ?_
          obtain rfl := Option.some.inj h
          exact E_z (pc := 75) dX11_isMorning_75 rfl rfl hp
        · have h := ite_f q h
          refine V_aload_n (i := 0) (pc := 61) dX11_isMorning_61 rfl rfl ?_
          refine V_iload_n (i := 2) (pc := 62) dX11_isMorning_62 rfl rfl ?_
          refine V_iload_n (i := 3) (pc := 63) dX11_isMorning_63 rfl rfl ?_
          obtain ⟨r64, e64, h⟩ := bnd h
          refine V_invV1 (c := 11) (pc := 64) dX11_isMorning_64 (e_Mo_isNear h_this e64) iv_Mo_456 (rm_Mo_isMorning_Mo_isNear _ _ _) rfl h_this cf_11 rfl (Nat.le_of_ble_eq_true rfl) rfl ?_
          refine V_if_eq (pc := 67) (tgt := 74) dX11_isMorning_67 rfl (fun q => ?_) (fun q => ?_)
          · have h := ite_t q h
            refine V_iconst (v := 0) (pc := 74) dX11_isMorning_74 rfl ?_
            obtain rfl := Option.some.inj h
            exact E_z (pc := 75) dX11_isMorning_75 rfl rfl hp
          · have h := ite_f q h
            refine V_iconst (v := 1) (pc := 70) dX11_isMorning_70 rfl ?_
            refine V_goto (tgt := 75) (pc := 71) dX11_isMorning_71 rfl ?_
            obtain rfl := Option.some.inj h
            exact E_z (pc := 75) dX11_isMorning_75 rfl rfl hp
theorem e_Mo_isMorning {g : GE} {this : Nat} {v1 : Int32} {v2 : Int32} {v3 : Int32} {m : Mem} (h_this : kd this = 12) {x : Int32} (h : Mo_isMorning this v1 v2 v3 m = some x) : Ev g Y_Mo_isMorning [vr this, vi v1, vi v2, vi v3] m (some (vi x)) m :=
  Ev_of 0 (by decide +kernel) rfl (Nat.le_of_ble_eq_true rfl) rfl (k_Mo_isMorning h_this h ⟨rfl, rfl⟩)
theorem k_Mo_alive {g : GE} {this : Nat} {v1 : Int32} {v2 : Int32} {v3 : Int32} {m : Mem} (h_this : kd this = 12) {r : Option AV} {m' : Mem} {x : Int64 × Mem} (h : Mo_alive this v1 v2 v3 m = some x) (hp : (fun x : Int64 × Mem => r = some (vl x.1) ∧ m' = x.2) x) : V g Y_Mo_alive 0 [some (vr this), some (vi v1), some (vi v2), some (vi v3)] [] m (PM g Y_Mo_alive r m') := by
  unfold Mo_alive at h
  refine V_aload_n (i := 0) (pc := 0) dX11_alive_0 rfl rfl ?_
  refine V_iload_n (i := 1) (pc := 1) dX11_alive_1 rfl rfl ?_
  refine V_iload_n (i := 2) (pc := 2) dX11_alive_2 rfl rfl ?_
  refine V_iload_n (i := 3) (pc := 3) dX11_alive_3 rfl rfl ?_
  obtain ⟨r4, e4, h⟩ := bnd h
  refine V_invV1 (c := 11) (pc := 4) dX11_alive_4 (e_Mo_isMorning h_this e4) iv_Mo_465 (rm_Mo_alive_Mo_isMorning _ _ _) rfl h_this cf_11 rfl (Nat.le_of_ble_eq_true rfl) rfl ?_
  refine V_if_ne (pc := 7) (tgt := 14) dX11_alive_7 rfl (fun q => ?_) (fun q => ?_)
  · have h := ite_f q h
    refine V_aload_n (i := 0) (pc := 14) dX11_alive_14 rfl rfl ?_
    obtain ⟨m15, e15, h⟩ := bnd h
    refine V_invV0 (c := 11) (pc := 15) dX11_alive_15 (e_Mo_goesThrough h_this e15) iv_Mo_469 (rm_Mo_alive_Mo_goesThrough _ _ _) rfl h_this cf_11 rfl (Nat.le_of_ble_eq_true rfl) rfl ?_
    refine V_aload_n (i := 0) (pc := 18) dX11_alive_18 rfl rfl ?_
    refine V_getR (b := (this + 10)) (pc := 19) dX11_alive_19 fl_Mo_47 h_this rfl rfl ?_
    refine V_iload_n (i := 1) (pc := 22) dX11_alive_22 rfl rfl ?_
    refine V_iload_n (i := 2) (pc := 23) dX11_alive_23 rfl rfl ?_
    refine V_iload_n (i := 3) (pc := 24) dX11_alive_24 rfl rfl ?_
    obtain ⟨r25, e25, h⟩ := bnd h
    refine V_invS1 (pc := 25) dX11_alive_25 (e_Mo_spot  e25) is_Mo_446 (rm_Mo_alive_Mo_spot _ _ _) rfl (Nat.le_of_ble_eq_true rfl) rfl ?_
    obtain ⟨hg28, h⟩ := gd_e h
    refine V_lald (pc := 28) dX11_alive_28 (kf_11_18 h_this) (af_11_18 h_this) hg28 ?_
    obtain rfl := Option.some.inj h
    exact E_l (pc := 29) dX11_alive_29 rfl hp
  · have h := ite_t q h
    refine V_ldc2 (v := (-2)) (pc := 10) dX11_alive_10 con_Mo_342 ?_
    obtain rfl := Option.some.inj h
    exact E_l (pc := 13) dX11_alive_13 rfl hp
theorem e_Mo_alive {g : GE} {this : Nat} {v1 : Int32} {v2 : Int32} {v3 : Int32} {m : Mem} (h_this : kd this = 12) {x : Int64 × Mem} (h : Mo_alive this v1 v2 v3 m = some x) : Ev g Y_Mo_alive [vr this, vi v1, vi v2, vi v3] m (some (vl x.1)) x.2 :=
  Ev_of 0 (by decide +kernel) rfl (Nat.le_of_ble_eq_true rfl) rfl (k_Mo_alive h_this h ⟨rfl, rfl⟩)
theorem k_Mo_go {g : GE} {this : Nat} {v1 : Int32} {v2 : Int32} {v3 : Int32} {m : Mem} (h_this : kd this = 12) {r : Option AV} {m' : Mem} {x : Int32 × Mem} (h : Mo_go this v1 v2 v3 m = some x) (hp : (fun x : Int32 × Mem => r = some (vi x.1) ∧ m' = x.2) x) : V g Y_Mo_go 0 [some (vr this), some (vi v1), some (vi v2), some (vi v3)] [] m (PM g Y_Mo_go r m') := by
  unfold Mo_go at h
  refine V_aload_n (i := 0) (pc := 0) dX11_go_0 rfl rfl ?_
  refine V_iload_n (i := 1) (pc := 1) dX11_go_1 rfl rfl ?_
  refine V_iload_n (i := 2) (pc := 2) dX11_go_2 rfl rfl ?_
  refine V_iload_n (i := 3) (pc := 3) dX11_go_3 rfl rfl ?_
  obtain ⟨r4, e4, h⟩ := bnd h
  refine V_invV1 (c := 11) (pc := 4) dX11_go_4 (e_Mo_isMorning h_this e4) iv_Mo_465 (rm_Mo_go_Mo_isMorning _ _ _) rfl h_this cf_11 rfl (Nat.le_of_ble_eq_true rfl) rfl ?_
  refine V_if_ne (pc := 7) (tgt := 13) dX11_go_7 rfl (fun q => ?_) (fun q => ?_)
  · have h := ite_f q h
    refine V_aload_n (i := 0) (pc := 13) dX11_go_13 rfl rfl ?_
    obtain ⟨m14, e14, h⟩ := bnd h
    refine V_invV0 (c := 11) (pc := 14) dX11_go_14 (e_Mo_goesThrough h_this e14) iv_Mo_469 (rm_Mo_go_Mo_goesThrough _ _ _) rfl h_this cf_11 rfl (Nat.le_of_ble_eq_true rfl) rfl ?_
    refine V_aload_n (i := 0) (pc := 17) dX11_go_17 rfl rfl ?_
    refine V_iload_n (i := 1) (pc := 18) dX11_go_18 rfl rfl ?_
    refine V_iload_n (i := 2) (pc := 19) dX11_go_19 rfl rfl ?_
    refine V_iload_n (i := 3) (pc := 20) dX11_go_20 rfl rfl ?_
    obtain ⟨r21, e21, h⟩ := bnd h
    refine V_invV1 (c := 11) (pc := 21) dX11_go_21 (e_Mo_goesTo h_this e21) iv_Mo_459 (rm_Mo_go_Mo_goesTo _ _ _) rfl h_this cf_11 rfl (Nat.le_of_ble_eq_true rfl) rfl ?_
    obtain rfl := Option.some.inj h
    exact E_i (pc := 24) dX11_go_24 rfl hp
  · have h := ite_t q h
    refine V_bipush (v := (-2)) (pc := 10) dX11_go_10 rfl ?_
    obtain rfl := Option.some.inj h
    exact E_i (pc := 12) dX11_go_12 rfl hp
theorem e_Mo_go {g : GE} {this : Nat} {v1 : Int32} {v2 : Int32} {v3 : Int32} {m : Mem} (h_this : kd this = 12) {x : Int32 × Mem} (h : Mo_go this v1 v2 v3 m = some x) : Ev g Y_Mo_go [vr this, vi v1, vi v2, vi v3] m (some (vi x.1)) x.2 :=
  Ev_of 0 (by decide +kernel) rfl (Nat.le_of_ble_eq_true rfl) rfl (k_Mo_go h_this h ⟨rfl, rfl⟩)
theorem k_Mo_leave_b59 {g : GE} {this : Nat} {v1 : Int32} {v3 : Int32} {k0 : Int32} {k1 : Int32}  {m : Mem} (h_this : kd this = 12) {r : Option AV} {m' : Mem} {x : (Int32 × Int32) ⊕ ((Int32) ⊕ (Int32 × Mem))} (h : Mo_leave_b59 this v1 v3 k0 k1 m = some x) (hp : (Sum.elim (fun s : Int32 × Int32 => V g Y_Mo_leave 30 [some (vr this), some (vi v1), some (vi s.1), some (vi s.2)] [] m (PM g Y_Mo_leave r m')) (Sum.elim (fun s : Int32 => V g Y_Mo_leave 16 [some (vr this), some (vi s), none, none] [] m (PM g Y_Mo_leave r m')) (fun x : Int32 × Mem => r = some (vi x.1) ∧ m' = x.2))) x) : V g Y_Mo_leave 59 [some (vr this), some (vi v1), none, some (vi v3)] [vi k1, vi k0] m (PM g Y_Mo_leave r m') := by
  unfold Mo_leave_b59 at h
  refine V_ior (pc := 59) dX11_leave_59 ?_
  refine V_istore_n (i := 2) (ls' := [some (vr this), some (vi v1), some (vi (k0 ||| k1)), some (vi v3)]) (pc := 60) dX11_leave_60 rfl (Nat.le_of_ble_eq_true rfl) rfl ?_
  refine V_iinc (i := 3) (v := (v3 + 1)) (ls' := [some (vr this), some (vi v1), some (vi (k0 ||| k1)), some (vi (v3 + 1))]) (pc := 61) dX11_leave_61 rfl rfl (Nat.le_of_ble_eq_true rfl) rfl ?_
  refine V_goto (tgt := 30) (pc := 64) dX11_leave_64 rfl ?_
  obtain rfl := Option.some.inj h
  exact hp
theorem k_Mo_leave_l30 {g : GE} {this : Nat} {v1 : Int32} {v2 : Int32} {v3 : Int32} {m : Mem} (h_this : kd this = 12) {r : Option AV} {m' : Mem} {x : (Int32 × Int32) ⊕ ((Int32) ⊕ (Int32 × Mem))} (h : Mo_leave_l30 this v1 v2 v3 m = some x) (hp : (Sum.elim (fun s : Int32 × Int32 => V g Y_Mo_leave 30 [some (vr this), some (vi v1), some (vi s.1), some (vi s.2)] [] m (PM g Y_Mo_leave r m')) (Sum.elim (fun s : Int32 => V g Y_Mo_leave 16 [some (vr this), some (vi s), none, none] [] m (PM g Y_Mo_leave r m')) (fun x : Int32 × Mem => r = some (vi x.1) ∧ m' = x.2))) x) : V g Y_Mo_leave 30 [some (vr this), some (vi v1), some (vi v2), some (vi v3)] [] m (PM g Y_Mo_leave r m') := by
  unfold Mo_leave_l30 at h
  refine V_iload_n (i := 3) (pc := 30) dX11_leave_30 rfl rfl ?_
  refine V_aload_n (i := 0) (pc := 31) dX11_leave_31 rfl rfl ?_
  refine V_getR (b := (this + 1)) (pc := 32) dX11_leave_32 fl_Mo_13 h_this rfl rfl ?_
  refine V_bipush (v := 7) (pc := 35) dX11_leave_35 rfl ?_
  obtain ⟨hg37, h⟩ := gd_e h
  refine V_iald (pc := 37) dX11_leave_37 (kf_11_1 h_this) (af_11_1 h_this) hg37 ?_
  refine V_icmp_ge (pc := 38) (tgt := 67) dX11_leave_38 rfl (fun q => ?_) (fun q => ?_)
  · have h := ite_t q h
    obtain ⟨y2, hu2, rfl⟩ := up_e h
    have h := hu2
    refine V_aload_n (i := 0) (pc := 67) dX11_leave_67 rfl rfl ?_
    refine V_iload_n (i := 1) (pc := 68) dX11_leave_68 rfl rfl ?_
    refine V_iconst (v := 0) (pc := 69) dX11_leave_69 rfl ?_
    refine V_iload_n (i := 2) (pc := 70) dX11_leave_70 rfl rfl ?_
    obtain ⟨r71, e71, h⟩ := bnd h
    refine V_invV1 (c := 11) (pc := 71) dX11_leave_71 (e_Mo_goesTo h_this e71) iv_Mo_459 (rm_Mo_leave_Mo_goesTo _ _ _) rfl h_this cf_11 rfl (Nat.le_of_ble_eq_true rfl) rfl ?_
    refine V_if_eq (pc := 74) (tgt := 79) dX11_leave_74 rfl (fun q => ?_) (fun q => ?_)
    · have h := ite_t q h
      refine V_iinc (i := 1) (v := (v1 + 1)) (ls' := [some (vr this), some (vi (v1 + 1)), some (vi v2), some (vi v3)]) (pc := 79) dX11_leave_79 rfl rfl (Nat.le_of_ble_eq_true rfl) rfl ?_
      refine V_goto (tgt := 16) (pc := 82) dX11_leave_82 rfl ?_
      refine V_sub (ls' := [some (vr this), some (vi (v1 + 1)), none, none]) (And.intro rfl (And.intro rfl trivial)) ?_
      obtain rfl := Option.some.inj h
      exact hp
    · have h := ite_f q h
      obtain ⟨y3, hu3, rfl⟩ := up_e h
      have h := hu3
      refine V_iload_n (i := 1) (pc := 77) dX11_leave_77 rfl rfl ?_
      obtain rfl := Option.some.inj h
      exact E_i (pc := 78) dX11_leave_78 rfl hp
  · have h := ite_f q h
    refine V_iload_n (i := 2) (pc := 41) dX11_leave_41 rfl rfl ?_
    refine V_aload_n (i := 0) (pc := 42) dX11_leave_42 rfl rfl ?_
    refine V_iload_n (i := 3) (pc := 43) dX11_leave_43 rfl rfl ?_
    refine V_iconst (v := 0) (pc := 44) dX11_leave_44 rfl ?_
    obtain ⟨r45, e45, h⟩ := bnd h
    refine V_invV1 (c := 11) (pc := 45) dX11_leave_45 (e_Mo_ofOther h_this e45) iv_Mo_443 (rm_Mo_leave_Mo_ofOther _ _ _) rfl h_this cf_11 rfl (Nat.le_of_ble_eq_true rfl) rfl ?_
    refine V_iload_n (i := 1) (pc := 48) dX11_leave_48 rfl rfl ?_
    refine V_icmp_gt (pc := 49) (tgt := 58) dX11_leave_49 rfl (fun q => ?_) (fun q => ?_)
    · have h := ite_t q h
      refine V_iconst (v := 0) (pc := 58) dX11_leave_58 rfl ?_
      refine V_sub (ls' := [some (vr this), some (vi v1), none, some (vi v3)]) (And.intro rfl (And.intro rfl (And.intro rfl trivial))) ?_
      exact k_Mo_leave_b59 h_this h hp
    · have h := ite_f q h
      refine V_iconst (v := 1) (pc := 52) dX11_leave_52 rfl ?_
      refine V_iload_n (i := 3) (pc := 53) dX11_leave_53 rfl rfl ?_
      refine V_ishl (pc := 54) dX11_leave_54 ?_
      refine V_goto (tgt := 59) (pc := 55) dX11_leave_55 rfl ?_
      refine V_sub (ls' := [some (vr this), some (vi v1), none, some (vi v3)]) (And.intro rfl (And.intro rfl (And.intro rfl trivial))) ?_
      exact k_Mo_leave_b59 h_this h hp
theorem k_Mo_leave_l16 {g : GE} {this : Nat}  {v1 : Int32} {m : Mem} (h_this : kd this = 12) {r : Option AV} {m' : Mem} {x : (Int32) ⊕ (Int32 × Mem)} (h : Mo_leave_l16 this v1 m = some x) (hp : (Sum.elim (fun s : Int32 => V g Y_Mo_leave 16 [some (vr this), some (vi s), none, none] [] m (PM g Y_Mo_leave r m')) (fun x : Int32 × Mem => r = some (vi x.1) ∧ m' = x.2)) x) : V g Y_Mo_leave 16 [some (vr this), some (vi v1), none, none] [] m (PM g Y_Mo_leave r m') := by
  unfold Mo_leave_l16 at h
  refine V_iload_n (i := 1) (pc := 16) dX11_leave_16 rfl rfl ?_
  refine V_aload_n (i := 0) (pc := 17) dX11_leave_17 rfl rfl ?_
  refine V_getR (b := (this + 1)) (pc := 18) dX11_leave_18 fl_Mo_13 h_this rfl rfl ?_
  refine V_iconst (v := 4) (pc := 21) dX11_leave_21 rfl ?_
  obtain ⟨hg22, h⟩ := gd_e h
  refine V_iald (pc := 22) dX11_leave_22 (kf_11_1 h_this) (af_11_1 h_this) hg22 ?_
  refine V_icmp_gt (pc := 23) (tgt := 85) dX11_leave_23 rfl (fun q => ?_) (fun q => ?_)
  · have h := ite_t q h
    obtain ⟨y1, hu1, rfl⟩ := up_e h
    have h := hu1
    refine V_iconst (v := (-1)) (pc := 85) dX11_leave_85 rfl ?_
    obtain rfl := Option.some.inj h
    exact E_i (pc := 86) dX11_leave_86 rfl hp
  · have h := ite_f q h
    refine V_iconst (v := 0) (pc := 26) dX11_leave_26 rfl ?_
    refine V_istore_n (i := 2) (ls' := [some (vr this), some (vi v1), some (vi 0), none]) (pc := 27) dX11_leave_27 rfl (Nat.le_of_ble_eq_true rfl) rfl ?_
    refine V_iconst (v := 0) (pc := 28) dX11_leave_28 rfl ?_
    refine V_istore_n (i := 3) (ls' := [some (vr this), some (vi v1), some (vi 0), some (vi 0)]) (pc := 29) dX11_leave_29 rfl (Nat.le_of_ble_eq_true rfl) rfl ?_
    exact loop_V (A := fun s : Int32 × Int32 => V g Y_Mo_leave 30 [some (vr this), some (vi v1), some (vi s.1), some (vi s.2)] [] m (PM g Y_Mo_leave r m')) (fun s x h hp => k_Mo_leave_l30 h_this h hp) (0, 0) _ h hp
theorem k_Mo_leave {g : GE} {this : Nat} {m : Mem} (h_this : kd this = 12) {r : Option AV} {m' : Mem} {x : Int32 × Mem} (h : Mo_leave this m = some x) (hp : (fun x : Int32 × Mem => r = some (vi x.1) ∧ m' = x.2) x) : V g Y_Mo_leave 0 [some (vr this), none, none, none] [] m (PM g Y_Mo_leave r m') := by
  unfold Mo_leave at h
  refine V_aload_n (i := 0) (pc := 0) dX11_leave_0 rfl rfl ?_
  obtain ⟨r1, e1, h⟩ := bnd h
  refine V_invV1 (c := 11) (pc := 1) dX11_leave_1 (e_Mo_isFloe h_this e1) iv_Mo_271 (rm_Mo_leave_Mo_isFloe _ _ _) rfl h_this cf_11 rfl (Nat.le_of_ble_eq_true rfl) rfl ?_
  refine V_if_ne (pc := 4) (tgt := 10) dX11_leave_4 rfl (fun q => ?_) (fun q => ?_)
  · have h := ite_f q h
    refine V_aload_n (i := 0) (pc := 10) dX11_leave_10 rfl rfl ?_
    obtain ⟨m11, e11, h⟩ := bnd h
    refine V_invV0 (c := 11) (pc := 11) dX11_leave_11 (e_Mo_goesThrough h_this e11) iv_Mo_469 (rm_Mo_leave_Mo_goesThrough _ _ _) rfl h_this cf_11 rfl (Nat.le_of_ble_eq_true rfl) rfl ?_
    refine V_iconst (v := 1) (pc := 14) dX11_leave_14 rfl ?_
    refine V_istore_n (i := 1) (ls' := [some (vr this), some (vi 1), none, none]) (pc := 15) dX11_leave_15 rfl (Nat.le_of_ble_eq_true rfl) rfl ?_
    exact loop_V (A := fun s : Int32 => V g Y_Mo_leave 16 [some (vr this), some (vi s), none, none] [] m11 (PM g Y_Mo_leave r m')) (fun s x h hp => k_Mo_leave_l16 h_this h hp) (1) _ h hp
  · have h := ite_t q h
    refine V_bipush (v := (-2)) (pc := 7) dX11_leave_7 rfl ?_
    obtain rfl := Option.some.inj h
    exact E_i (pc := 9) dX11_leave_9 rfl hp
theorem e_Mo_leave {g : GE} {this : Nat} {m : Mem} (h_this : kd this = 12) {x : Int32 × Mem} (h : Mo_leave this m = some x) : Ev g Y_Mo_leave [vr this] m (some (vi x.1)) x.2 :=
  Ev_of 3 (by decide +kernel) rfl (Nat.le_of_ble_eq_true rfl) rfl (k_Mo_leave h_this h ⟨rfl, rfl⟩)
theorem k_Mo_loads_b166 {g : GE} {this : Nat} {v1 : Int32} {v2 : Int32} {v4 : Int32} {v5 : Int32} {v6 : Int32}  {m : Mem} (h_this : kd this = 12) {r : Option AV} {m' : Mem} {x : (Int32 × Mem) ⊕ ((Int32 × Mem) ⊕ (Mem))} (h : Mo_loads_b166 this v1 v2 v4 v5 v6 m = some x) (hp : (Sum.elim (fun s : Int32 × Mem => V g Y_Mo_loads 61 [some (vr this), some (vi v1), some (vi v2), none, some (vi v4), some (vi s.1), none, none] [] s.2 (PM g Y_Mo_loads r m')) (Sum.elim (fun s : Int32 × Mem => V g Y_Mo_loads 53 [some (vr this), some (vi v1), some (vi v2), none, some (vi s.1), none, none, none] [] s.2 (PM g Y_Mo_loads r m')) (fun x : Mem => r = none ∧ m' = x))) x) : V g Y_Mo_loads 166 [some (vr this), some (vi v1), some (vi v2), none, some (vi v4), some (vi v5), some (vi v6), none] [] m (PM g Y_Mo_loads r m') := by
  unfold Mo_loads_b166 at h
  refine V_aload_n (i := 0) (pc := 166) dX11_loads_166 rfl rfl ?_
  refine V_getR (b := (this + 12)) (pc := 167) dX11_loads_167 fl_Mo_53 h_this rfl rfl ?_
  refine V_sipush (v := 1681) (pc := 170) dX11_loads_170 rfl ?_
  refine V_iload (i := 4) (pc := 173) dX11_loads_173 rfl ?_
  refine V_imul (pc := 175) dX11_loads_175 ?_
  refine V_iload (i := 5) (pc := 176) dX11_loads_176 rfl ?_
  refine V_iadd (pc := 178) dX11_loads_178 ?_
  refine V_ldcw (v := 1000000000) (pc := 179) dX11_loads_179 con_Mo_472 ?_
  refine V_iload (i := 6) (pc := 182) dX11_loads_182 rfl ?_
  refine V_mmin (pc := 184) dX11_loads_184 ma_Mo_123 (rmM_Mo_loads _ _ _) (Nat.le_of_ble_eq_true rfl) ?_
  obtain ⟨hg187, h⟩ := gd_e h
  refine V_iast_lt (pc := 187) dX11_loads_187 (kf_11_20 h_this) (af_11_20 h_this) hg187 h (fun m187 h => ?_)
  refine V_iinc (i := 5) (v := (v5 + 1)) (ls' := [some (vr this), some (vi v1), some (vi v2), none, some (vi v4), some (vi (v5 + 1)), some (vi v6), none]) (pc := 188) dX11_loads_188 rfl rfl (Nat.le_of_ble_eq_true rfl) rfl ?_
  refine V_goto (tgt := 61) (pc := 191) dX11_loads_191 rfl ?_
  refine V_sub (ls' := [some (vr this), some (vi v1), some (vi v2), none, some (vi v4), some (vi (v5 + 1)), none, none]) (And.intro rfl (And.intro rfl (And.intro rfl (And.intro rfl (And.intro rfl trivial))))) ?_
  obtain rfl := Option.some.inj h
  exact hp
theorem k_Mo_loads_l88 {g : GE} {this : Nat} {v1 : Int32} {v2 : Int32} {v4 : Int32} {v5 : Int32} {v6 : Int32} {v7 : Int32} {m : Mem} (h_this : kd this = 12) {r : Option AV} {m' : Mem} {x : (Int32 × Int32) ⊕ ((Int32 × Mem) ⊕ ((Int32 × Mem) ⊕ (Mem)))} (h : Mo_loads_l88 this v1 v2 v4 v5 v6 v7 m = some x) (hp : (Sum.elim (fun s : Int32 × Int32 => V g Y_Mo_loads 88 [some (vr this), some (vi v1), some (vi v2), none, some (vi v4), some (vi v5), some (vi s.1), some (vi s.2)] [] m (PM g Y_Mo_loads r m')) (Sum.elim (fun s : Int32 × Mem => V g Y_Mo_loads 61 [some (vr this), some (vi v1), some (vi v2), none, some (vi v4), some (vi s.1), none, none] [] s.2 (PM g Y_Mo_loads r m')) (Sum.elim (fun s : Int32 × Mem => V g Y_Mo_loads 53 [some (vr this), some (vi v1), some (vi v2), none, some (vi s.1), none, none, none] [] s.2 (PM g Y_Mo_loads r m')) (fun x : Mem => r = none ∧ m' = x)))) x) : V g Y_Mo_loads 88 [some (vr this), some (vi v1), some (vi v2), none, some (vi v4), some (vi v5), some (vi v6), some (vi v7)] [] m (PM g Y_Mo_loads r m') := by
  unfold Mo_loads_l88 at h
  refine V_iload (i := 7) (pc := 88) dX11_loads_88 rfl ?_
  refine V_aload_n (i := 0) (pc := 90) dX11_loads_90 rfl rfl ?_
  refine V_iload (i := 4) (pc := 91) dX11_loads_91 rfl ?_
  refine V_iconst (v := 3) (pc := 93) dX11_loads_93 rfl ?_
  obtain ⟨r94, e94, h⟩ := bnd h
  refine V_invV1 (c := 11) (pc := 94) dX11_loads_94 (e_Mo_ofSort h_this e94) iv_Mo_297 (rm_Mo_loads_Mo_ofSort _ _ _) rfl h_this cf_11 rfl (Nat.le_of_ble_eq_true rfl) rfl ?_
  refine V_icmp_gt (pc := 97) (tgt := 166) dX11_loads_97 rfl (fun q => ?_) (fun q => ?_)
  · have h := ite_t q h
    obtain ⟨y4, hu4, rfl⟩ := up_e h
    have h := hu4
    refine V_sub (ls' := [some (vr this), some (vi v1), some (vi v2), none, some (vi v4), some (vi v5), some (vi v6), none]) (And.intro rfl (And.intro rfl (And.intro rfl (And.intro rfl (And.intro rfl (And.intro rfl trivial)))))) ?_
    exact k_Mo_loads_b166 h_this h hp
  · have h := ite_f q h
    refine V_aload_n (i := 0) (pc := 100) dX11_loads_100 rfl rfl ?_
    refine V_iload (i := 4) (pc := 101) dX11_loads_101 rfl ?_
    refine V_iconst (v := 0) (pc := 103) dX11_loads_103 rfl ?_
    obtain ⟨r104, e104, h⟩ := bnd h
    refine V_invV1 (c := 11) (pc := 104) dX11_loads_104 (e_Mo_ofSort h_this e104) iv_Mo_297 (rm_Mo_loads_Mo_ofSort _ _ _) rfl h_this cf_11 rfl (Nat.le_of_ble_eq_true rfl) rfl ?_
    refine V_iload_n (i := 1) (pc := 107) dX11_loads_107 rfl rfl ?_
    refine V_icmp_ne (pc := 108) (tgt := 166) dX11_loads_108 rfl (fun q => ?_) (fun q => ?_)
    · have h := ite_f q h
      obtain ⟨y5, hu5, rfl⟩ := up_e h
      have h := hu5
      refine V_sub (ls' := [some (vr this), some (vi v1), some (vi v2), none, some (vi v4), some (vi v5), some (vi v6), none]) (And.intro rfl (And.intro rfl (And.intro rfl (And.intro rfl (And.intro rfl (And.intro rfl trivial)))))) ?_
      exact k_Mo_loads_b166 h_this h hp
    · have h := ite_t q h
      refine V_iload (i := 6) (pc := 111) dX11_loads_111 rfl ?_
      refine V_iload (i := 7) (pc := 113) dX11_loads_113 rfl ?_
      refine V_aload_n (i := 0) (pc := 115) dX11_loads_115 rfl rfl ?_
      refine V_iload (i := 4) (pc := 116) dX11_loads_116 rfl ?_
      refine V_iconst (v := 2) (pc := 118) dX11_loads_118 rfl ?_
      obtain ⟨r119, e119, h⟩ := bnd h
      refine V_invV1 (c := 11) (pc := 119) dX11_loads_119 (e_Mo_ofSort h_this e119) iv_Mo_297 (rm_Mo_loads_Mo_ofSort _ _ _) rfl h_this cf_11 rfl (Nat.le_of_ble_eq_true rfl) rfl ?_
      refine V_imul (pc := 122) dX11_loads_122 ?_
      refine V_aload_n (i := 0) (pc := 123) dX11_loads_123 rfl rfl ?_
      refine V_getR (b := (this + 12)) (pc := 124) dX11_loads_124 fl_Mo_53 h_this rfl rfl ?_
      refine V_sipush (v := 1681) (pc := 127) dX11_loads_127 rfl ?_
      refine V_iload (i := 4) (pc := 130) dX11_loads_130 rfl ?_
      refine V_iconst (v := 1) (pc := 132) dX11_loads_132 rfl ?_
      refine V_iadd (pc := 133) dX11_loads_133 ?_
      refine V_imul (pc := 134) dX11_loads_134 ?_
      refine V_iconst (v := 0) (pc := 135) dX11_loads_135 rfl ?_
      refine V_iload (i := 5) (pc := 136) dX11_loads_136 rfl ?_
      refine V_iload (i := 7) (pc := 138) dX11_loads_138 rfl ?_
      refine V_aload_n (i := 0) (pc := 140) dX11_loads_140 rfl rfl ?_
      refine V_iload (i := 4) (pc := 141) dX11_loads_141 rfl ?_
      refine V_iconst (v := 1) (pc := 143) dX11_loads_143 rfl ?_
      obtain ⟨r144, e144, h⟩ := bnd h
      refine V_invV1 (c := 11) (pc := 144) dX11_loads_144 (e_Mo_ofSort h_this e144) iv_Mo_297 (rm_Mo_loads_Mo_ofSort _ _ _) rfl h_this cf_11 rfl (Nat.le_of_ble_eq_true rfl) rfl ?_
      refine V_imul (pc := 147) dX11_loads_147 ?_
      refine V_isub (pc := 148) dX11_loads_148 ?_
      refine V_mmax (pc := 149) dX11_loads_149 ma_Mo_368 (rmM_Mo_loads _ _ _) (Nat.le_of_ble_eq_true rfl) ?_
      refine V_iadd (pc := 152) dX11_loads_152 ?_
      obtain ⟨hg153, h⟩ := gd_e h
      refine V_iald (pc := 153) dX11_loads_153 (kf_11_20 h_this) (af_11_20 h_this) hg153 ?_
      refine V_iadd (pc := 154) dX11_loads_154 ?_
      refine V_mmin (pc := 155) dX11_loads_155 ma_Mo_123 (rmM_Mo_loads _ _ _) (Nat.le_of_ble_eq_true rfl) ?_
      refine V_istore (i := 6) (ls' := [some (vr this), some (vi v1), some (vi v2), none, some (vi v4), some (vi v5), some (vi (jmin v6 ((v7 * r119) + (rI m (this + 12) (ix ((1681 * (v4 + 1)) + (jmax 0 (v5 - (v7 * r144))))))))), some (vi v7)]) (pc := 158) dX11_loads_158 (Nat.le_of_ble_eq_true rfl) rfl ?_
      refine V_iinc (i := 7) (v := (v7 + 1)) (ls' := [some (vr this), some (vi v1), some (vi v2), none, some (vi v4), some (vi v5), some (vi (jmin v6 ((v7 * r119) + (rI m (this + 12) (ix ((1681 * (v4 + 1)) + (jmax 0 (v5 - (v7 * r144))))))))), some (vi (v7 + 1))]) (pc := 160) dX11_loads_160 rfl rfl (Nat.le_of_ble_eq_true rfl) rfl ?_
      refine V_goto (tgt := 88) (pc := 163) dX11_loads_163 rfl ?_
      obtain rfl := Option.some.inj h
      exact hp
theorem k_Mo_loads_l61 {g : GE} {this : Nat} {v1 : Int32} {v2 : Int32} {v4 : Int32} {v5 : Int32} {m : Mem} (h_this : kd this = 12) {r : Option AV} {m' : Mem} {x : (Int32 × Mem) ⊕ ((Int32 × Mem) ⊕ (Mem))} (h : Mo_loads_l61 this v1 v2 v4 v5 m = some x) (hp : (Sum.elim (fun s : Int32 × Mem => V g Y_Mo_loads 61 [some (vr this), some (vi v1), some (vi v2), none, some (vi v4), some (vi s.1), none, none] [] s.2 (PM g Y_Mo_loads r m')) (Sum.elim (fun s : Int32 × Mem => V g Y_Mo_loads 53 [some (vr this), some (vi v1), some (vi v2), none, some (vi s.1), none, none, none] [] s.2 (PM g Y_Mo_loads r m')) (fun x : Mem => r = none ∧ m' = x))) x) : V g Y_Mo_loads 61 [some (vr this), some (vi v1), some (vi v2), none, some (vi v4), some (vi v5), none, none] [] m (PM g Y_Mo_loads r m') := by
  unfold Mo_loads_l61 at h
  refine V_iload (i := 5) (pc := 61) dX11_loads_61 rfl ?_
  refine V_iload_n (i := 2) (pc := 63) dX11_loads_63 rfl rfl ?_
  refine V_icmp_gt (pc := 64) (tgt := 194) dX11_loads_64 rfl (fun q => ?_) (fun q => ?_)
  · have h := ite_t q h
    obtain ⟨y3, hu3, rfl⟩ := up_e h
    have h := hu3
    refine V_iinc (i := 4) (v := (v4 + (-1))) (ls' := [some (vr this), some (vi v1), some (vi v2), none, some (vi (v4 + (-1))), some (vi v5), none, none]) (pc := 194) dX11_loads_194 rfl rfl (Nat.le_of_ble_eq_true rfl) rfl ?_
    refine V_goto (tgt := 53) (pc := 197) dX11_loads_197 rfl ?_
    refine V_sub (ls' := [some (vr this), some (vi v1), some (vi v2), none, some (vi (v4 + (-1))), none, none, none]) (And.intro rfl (And.intro rfl (And.intro rfl (And.intro rfl trivial)))) ?_
    obtain rfl := Option.some.inj h
    exact hp
  · have h := ite_f q h
    refine V_aload_n (i := 0) (pc := 67) dX11_loads_67 rfl rfl ?_
    refine V_getR (b := (this + 12)) (pc := 68) dX11_loads_68 fl_Mo_53 h_this rfl rfl ?_
    refine V_sipush (v := 1681) (pc := 71) dX11_loads_71 rfl ?_
    refine V_iload (i := 4) (pc := 74) dX11_loads_74 rfl ?_
    refine V_iconst (v := 1) (pc := 76) dX11_loads_76 rfl ?_
    refine V_iadd (pc := 77) dX11_loads_77 ?_
    refine V_imul (pc := 78) dX11_loads_78 ?_
    refine V_iload (i := 5) (pc := 79) dX11_loads_79 rfl ?_
    refine V_iadd (pc := 81) dX11_loads_81 ?_
    obtain ⟨hg82, h⟩ := gd_e h
    refine V_iald (pc := 82) dX11_loads_82 (kf_11_20 h_this) (af_11_20 h_this) hg82 ?_
    refine V_istore (i := 6) (ls' := [some (vr this), some (vi v1), some (vi v2), none, some (vi v4), some (vi v5), some (vi (rI m (this + 12) (ix ((1681 * (v4 + 1)) + v5)))), none]) (pc := 83) dX11_loads_83 (Nat.le_of_ble_eq_true rfl) rfl ?_
    refine V_iconst (v := 1) (pc := 85) dX11_loads_85 rfl ?_
    refine V_istore (i := 7) (ls' := [some (vr this), some (vi v1), some (vi v2), none, some (vi v4), some (vi v5), some (vi (rI m (this + 12) (ix ((1681 * (v4 + 1)) + v5)))), some (vi 1)]) (pc := 86) dX11_loads_86 (Nat.le_of_ble_eq_true rfl) rfl ?_
    exact loop_V (A := fun s : Int32 × Int32 => V g Y_Mo_loads 88 [some (vr this), some (vi v1), some (vi v2), none, some (vi v4), some (vi v5), some (vi s.1), some (vi s.2)] [] m (PM g Y_Mo_loads r m')) (fun s x h hp => k_Mo_loads_l88 h_this h hp) ((rI m (this + 12) (ix ((1681 * (v4 + 1)) + v5))), 1) _ h hp
theorem k_Mo_loads_l53 {g : GE} {this : Nat} {v1 : Int32} {v2 : Int32} {v4 : Int32} {m : Mem} (h_this : kd this = 12) {r : Option AV} {m' : Mem} {x : (Int32 × Mem) ⊕ (Mem)} (h : Mo_loads_l53 this v1 v2 v4 m = some x) (hp : (Sum.elim (fun s : Int32 × Mem => V g Y_Mo_loads 53 [some (vr this), some (vi v1), some (vi v2), none, some (vi s.1), none, none, none] [] s.2 (PM g Y_Mo_loads r m')) (fun x : Mem => r = none ∧ m' = x)) x) : V g Y_Mo_loads 53 [some (vr this), some (vi v1), some (vi v2), none, some (vi v4), none, none, none] [] m (PM g Y_Mo_loads r m') := by
  unfold Mo_loads_l53 at h
  refine V_iload (i := 4) (pc := 53) dX11_loads_53 rfl ?_
  refine V_if_lt (pc := 55) (tgt := 200) dX11_loads_55 rfl (fun q => ?_) (fun q => ?_)
  · have h := ite_t q h
    obtain ⟨y2, hu2, rfl⟩ := up_e h
    have h := hu2
    obtain rfl := Option.some.inj h
    exact E_v (pc := 200) dX11_loads_200 rfl hp
  · have h := ite_f q h
    refine V_iconst (v := 0) (pc := 58) dX11_loads_58 rfl ?_
    refine V_istore (i := 5) (ls' := [some (vr this), some (vi v1), some (vi v2), none, some (vi v4), some (vi 0), none, none]) (pc := 59) dX11_loads_59 (Nat.le_of_ble_eq_true rfl) rfl ?_
    exact loop_V (A := fun s : Int32 × Mem => V g Y_Mo_loads 61 [some (vr this), some (vi v1), some (vi v2), none, some (vi v4), some (vi s.1), none, none] [] s.2 (PM g Y_Mo_loads r m')) (fun s x h hp => k_Mo_loads_l61 h_this h hp) (0, m) _ h hp
theorem k_Mo_loads_b41 {g : GE} {this : Nat} {v1 : Int32} {v2 : Int32} {v3 : Int32} {v4 : Int32} {k1 : Int32} {k2 : Int32}  {m : Mem} (h_this : kd this = 12) {r : Option AV} {m' : Mem} {x : (Int32 × Mem) ⊕ (Mem)} (h : Mo_loads_b41 this v1 v2 v3 v4 k1 k2 m = some x) (hp : (Sum.elim (fun s : Int32 × Mem => V g Y_Mo_loads 11 [some (vr this), some (vi v1), some (vi v2), some (vi v3), some (vi s.1), none, none, none] [] s.2 (PM g Y_Mo_loads r m')) (fun x : Mem => r = none ∧ m' = x)) x) : V g Y_Mo_loads 41 [some (vr this), some (vi v1), some (vi v2), some (vi v3), some (vi v4), none, none, none] [vi k2, vi k1, vr (this + 12)] m (PM g Y_Mo_loads r m') := by
  unfold Mo_loads_b41 at h
  obtain ⟨hg41, h⟩ := gd_e h
  refine V_iast_lt (pc := 41) dX11_loads_41 (kf_11_20 h_this) (af_11_20 h_this) hg41 h (fun m41 h => ?_)
  refine V_iinc (i := 4) (v := (v4 + 1)) (ls' := [some (vr this), some (vi v1), some (vi v2), some (vi v3), some (vi (v4 + 1)), none, none, none]) (pc := 42) dX11_loads_42 rfl rfl (Nat.le_of_ble_eq_true rfl) rfl ?_
  refine V_goto (tgt := 11) (pc := 45) dX11_loads_45 rfl ?_
  obtain rfl := Option.some.inj h
  exact hp
theorem k_Mo_loads_l11 {g : GE} {this : Nat} {v1 : Int32} {v2 : Int32} {v3 : Int32} {v4 : Int32} {m : Mem} (h_this : kd this = 12) {r : Option AV} {m' : Mem} {x : (Int32 × Mem) ⊕ (Mem)} (h : Mo_loads_l11 this v1 v2 v3 v4 m = some x) (hp : (Sum.elim (fun s : Int32 × Mem => V g Y_Mo_loads 11 [some (vr this), some (vi v1), some (vi v2), some (vi v3), some (vi s.1), none, none, none] [] s.2 (PM g Y_Mo_loads r m')) (fun x : Mem => r = none ∧ m' = x)) x) : V g Y_Mo_loads 11 [some (vr this), some (vi v1), some (vi v2), some (vi v3), some (vi v4), none, none, none] [] m (PM g Y_Mo_loads r m') := by
  unfold Mo_loads_l11 at h
  refine V_iload (i := 4) (pc := 11) dX11_loads_11 rfl ?_
  refine V_iload_n (i := 2) (pc := 13) dX11_loads_13 rfl rfl ?_
  refine V_icmp_gt (pc := 14) (tgt := 48) dX11_loads_14 rfl (fun q => ?_) (fun q => ?_)
  · have h := ite_t q h
    obtain ⟨y1, hu1, rfl⟩ := up_e h
    have h := hu1
    refine V_iload_n (i := 3) (pc := 48) dX11_loads_48 rfl rfl ?_
    refine V_iconst (v := 1) (pc := 49) dX11_loads_49 rfl ?_
    refine V_isub (pc := 50) dX11_loads_50 ?_
    refine V_istore (i := 4) (ls' := [some (vr this), some (vi v1), some (vi v2), some (vi v3), some (vi (v3 - 1)), none, none, none]) (pc := 51) dX11_loads_51 (Nat.le_of_ble_eq_true rfl) rfl ?_
    refine V_sub (ls' := [some (vr this), some (vi v1), some (vi v2), none, some (vi (v3 - 1)), none, none, none]) (And.intro rfl (And.intro rfl (And.intro rfl (And.intro rfl trivial)))) ?_
    exact loop_V (A := fun s : Int32 × Mem => V g Y_Mo_loads 53 [some (vr this), some (vi v1), some (vi v2), none, some (vi s.1), none, none, none] [] s.2 (PM g Y_Mo_loads r m')) (fun s x h hp => k_Mo_loads_l53 h_this h hp) ((v3 - 1), m) _ h hp
  · have h := ite_f q h
    refine V_aload_n (i := 0) (pc := 17) dX11_loads_17 rfl rfl ?_
    refine V_getR (b := (this + 12)) (pc := 18) dX11_loads_18 fl_Mo_53 h_this rfl rfl ?_
    refine V_sipush (v := 1681) (pc := 21) dX11_loads_21 rfl ?_
    refine V_iload_n (i := 3) (pc := 24) dX11_loads_24 rfl rfl ?_
    refine V_imul (pc := 25) dX11_loads_25 ?_
    refine V_iload (i := 4) (pc := 26) dX11_loads_26 rfl ?_
    refine V_iadd (pc := 28) dX11_loads_28 ?_
    refine V_iload (i := 4) (pc := 29) dX11_loads_29 rfl ?_
    refine V_if_ne (pc := 31) (tgt := 38) dX11_loads_31 rfl (fun q => ?_) (fun q => ?_)
    · have h := ite_f q h
      refine V_ldcw (v := 1000000000) (pc := 38) dX11_loads_38 con_Mo_472 ?_
      exact k_Mo_loads_b41 h_this h hp
    · have h := ite_t q h
      refine V_iconst (v := 0) (pc := 34) dX11_loads_34 rfl ?_
      refine V_goto (tgt := 41) (pc := 35) dX11_loads_35 rfl ?_
      exact k_Mo_loads_b41 h_this h hp
theorem k_Mo_loads {g : GE} {this : Nat} {v1 : Int32} {v2 : Int32} {m : Mem} (h_this : kd this = 12) {r : Option AV} {m' : Mem} {x : Mem} (h : Mo_loads this v1 v2 m = some x) (hp : (fun x : Mem => r = none ∧ m' = x) x) : V g Y_Mo_loads 0 [some (vr this), some (vi v1), some (vi v2), none, none, none, none, none] [] m (PM g Y_Mo_loads r m') := by
  unfold Mo_loads at h
  refine V_aload_n (i := 0) (pc := 0) dX11_loads_0 rfl rfl ?_
  refine V_getR (b := (this + 1)) (pc := 1) dX11_loads_1 fl_Mo_13 h_this rfl rfl ?_
  refine V_bipush (v := 6) (pc := 4) dX11_loads_4 rfl ?_
  obtain ⟨hg6, h⟩ := gd_e h
  refine V_iald (pc := 6) dX11_loads_6 (kf_11_1 h_this) (af_11_1 h_this) hg6 ?_
  refine V_istore_n (i := 3) (ls' := [some (vr this), some (vi v1), some (vi v2), some (vi (rI m (this + 1) (ix 6))), none, none, none, none]) (pc := 7) dX11_loads_7 rfl (Nat.le_of_ble_eq_true rfl) rfl ?_
  refine V_iconst (v := 0) (pc := 8) dX11_loads_8 rfl ?_
  refine V_istore (i := 4) (ls' := [some (vr this), some (vi v1), some (vi v2), some (vi (rI m (this + 1) (ix 6))), some (vi 0), none, none, none]) (pc := 9) dX11_loads_9 (Nat.le_of_ble_eq_true rfl) rfl ?_
  exact loop_V (A := fun s : Int32 × Mem => V g Y_Mo_loads 11 [some (vr this), some (vi v1), some (vi v2), some (vi (rI m (this + 1) (ix 6))), some (vi s.1), none, none, none] [] s.2 (PM g Y_Mo_loads r m')) (fun s x h hp => k_Mo_loads_l11 h_this h hp) (0, m) _ h hp
theorem e_Mo_loads {g : GE} {this : Nat} {v1 : Int32} {v2 : Int32} {m : Mem} (h_this : kd this = 12) {x : Mem} (h : Mo_loads this v1 v2 m = some x) : Ev g Y_Mo_loads [vr this, vi v1, vi v2] m (none) x :=
  Ev_of 5 (by decide +kernel) rfl (Nat.le_of_ble_eq_true rfl) rfl (k_Mo_loads h_this h ⟨rfl, rfl⟩)
theorem k_Mo_loadOf {g : GE} {this : Nat} {v1 : Int32} {v2 : Int32} {v3 : Int32} {m : Mem} (h_this : kd this = 12) {r : Option AV} {m' : Mem} {x : Int32 × Mem} (h : Mo_loadOf this v1 v2 v3 m = some x) (hp : (fun x : Int32 × Mem => r = some (vi x.1) ∧ m' = x.2) x) : V g Y_Mo_loadOf 0 [some (vr this), some (vi v1), some (vi v2), some (vi v3), none] [] m (PM g Y_Mo_loadOf r m') := by
  unfold Mo_loadOf at h
  refine V_aload_n (i := 0) (pc := 0) dX11_loadOf_0 rfl rfl ?_
  refine V_iload_n (i := 3) (pc := 1) dX11_loadOf_1 rfl rfl ?_
  obtain ⟨r2, e2, h⟩ := bnd h
  refine V_invV1 (c := 11) (pc := 2) dX11_loadOf_2 (e_Mo_isTold h_this e2) iv_Mo_371 (rm_Mo_loadOf_Mo_isTold _ _ _) rfl h_this cf_11 rfl (Nat.le_of_ble_eq_true rfl) rfl ?_
  refine V_if_ne (pc := 5) (tgt := 10) dX11_loadOf_5 rfl (fun q => ?_) (fun q => ?_)
  · have h := ite_f q h
    refine V_iload_n (i := 1) (pc := 10) dX11_loadOf_10 rfl rfl ?_
    refine V_iload_n (i := 2) (pc := 11) dX11_loadOf_11 rfl rfl ?_
    refine V_iload_n (i := 3) (pc := 12) dX11_loadOf_12 rfl rfl ?_
    obtain ⟨r13, e13, h⟩ := bnd h
    refine V_invS1 (pc := 13) dX11_loadOf_13 (e_Mo_needOf  e13) is_Mo_362 (rm_Mo_loadOf_Mo_needOf _ _ _) rfl (Nat.le_of_ble_eq_true rfl) rfl ?_
    refine V_istore (i := 4) (ls' := [some (vr this), some (vi v1), some (vi v2), some (vi v3), some (vi r13)]) (pc := 16) dX11_loadOf_16 (Nat.le_of_ble_eq_true rfl) rfl ?_
    refine V_aload_n (i := 0) (pc := 18) dX11_loadOf_18 rfl rfl ?_
    refine V_iload_n (i := 3) (pc := 19) dX11_loadOf_19 rfl rfl ?_
    refine V_iload (i := 4) (pc := 20) dX11_loadOf_20 rfl ?_
    obtain ⟨m22, e22, h⟩ := bnd h
    refine V_invV0 (c := 11) (pc := 22) dX11_loadOf_22 (e_Mo_loads h_this e22) iv_Mo_473 (rm_Mo_loadOf_Mo_loads _ _ _) rfl h_this cf_11 rfl (Nat.le_of_ble_eq_true rfl) rfl ?_
    refine V_aload_n (i := 0) (pc := 25) dX11_loadOf_25 rfl rfl ?_
    refine V_getR (b := (this + 12)) (pc := 26) dX11_loadOf_26 fl_Mo_53 h_this rfl rfl ?_
    refine V_iload (i := 4) (pc := 29) dX11_loadOf_29 rfl ?_
    obtain ⟨hg31, h⟩ := gd_e h
    refine V_iald (pc := 31) dX11_loadOf_31 (kf_11_20 h_this) (af_11_20 h_this) hg31 ?_
    refine V_ldcw (v := 1000000000) (pc := 32) dX11_loadOf_32 con_Mo_472 ?_
    refine V_icmp_lt (pc := 35) (tgt := 42) dX11_loadOf_35 rfl (fun q => ?_) (fun q => ?_)
    · have h := ite_t q h
      refine V_aload_n (i := 0) (pc := 42) dX11_loadOf_42 rfl rfl ?_
      refine V_getR (b := (this + 12)) (pc := 43) dX11_loadOf_43 fl_Mo_53 h_this rfl rfl ?_
      refine V_iload (i := 4) (pc := 46) dX11_loadOf_46 rfl ?_
      obtain ⟨hg48, h⟩ := gd_e h
      refine V_iald (pc := 48) dX11_loadOf_48 (kf_11_20 h_this) (af_11_20 h_this) hg48 ?_
      obtain rfl := Option.some.inj h
      exact E_i (pc := 49) dX11_loadOf_49 rfl hp
    · have h := ite_f q h
      refine V_iconst (v := (-1)) (pc := 38) dX11_loadOf_38 rfl ?_
      refine V_goto (tgt := 49) (pc := 39) dX11_loadOf_39 rfl ?_
      obtain rfl := Option.some.inj h
      exact E_i (pc := 49) dX11_loadOf_49 rfl hp
  · have h := ite_t q h
    refine V_iconst (v := 0) (pc := 8) dX11_loadOf_8 rfl ?_
    obtain rfl := Option.some.inj h
    exact E_i (pc := 9) dX11_loadOf_9 rfl hp
theorem e_Mo_loadOf {g : GE} {this : Nat} {v1 : Int32} {v2 : Int32} {v3 : Int32} {m : Mem} (h_this : kd this = 12) {x : Int32 × Mem} (h : Mo_loadOf this v1 v2 v3 m = some x) : Ev g Y_Mo_loadOf [vr this, vi v1, vi v2, vi v3] m (some (vi x.1)) x.2 :=
  Ev_of 1 (by decide +kernel) rfl (Nat.le_of_ble_eq_true rfl) rfl (k_Mo_loadOf h_this h ⟨rfl, rfl⟩)
theorem k_Mo_loadOfAll_l5 {g : GE} {this : Nat} {v1 : Int32} {v2 : Int32} {v3 : Int32} {v4 : Int32} {m : Mem} (h_this : kd this = 12) {r : Option AV} {m' : Mem} {x : (Int32 × Int32 × Mem) ⊕ (Int32 × Mem)} (h : Mo_loadOfAll_l5 this v1 v2 v3 v4 m = some x) (hp : (Sum.elim (fun s : Int32 × Int32 × Mem => V g Y_Mo_loadOfAll 5 [some (vr this), some (vi v1), some (vi v2), some (vi s.1), some (vi s.2.1), none] [] s.2.2 (PM g Y_Mo_loadOfAll r m')) (fun x : Int32 × Mem => r = some (vi x.1) ∧ m' = x.2)) x) : V g Y_Mo_loadOfAll 5 [some (vr this), some (vi v1), some (vi v2), some (vi v3), some (vi v4), none] [] m (PM g Y_Mo_loadOfAll r m') := by
  unfold Mo_loadOfAll_l5 at h
  refine V_iload (i := 4) (pc := 5) dX11_loadOfAll_5 rfl ?_
  refine V_iconst (v := 4) (pc := 7) dX11_loadOfAll_7 rfl ?_
  refine V_icmp_ge (pc := 8) (tgt := 40) dX11_loadOfAll_8 rfl (fun q => ?_) (fun q => ?_)
  · have h := ite_t q h
    obtain ⟨y1, hu1, rfl⟩ := up_e h
    have h := hu1
    refine V_iload_n (i := 3) (pc := 40) dX11_loadOfAll_40 rfl rfl ?_
    obtain rfl := Option.some.inj h
    exact E_i (pc := 41) dX11_loadOfAll_41 rfl hp
  · have h := ite_f q h
    refine V_aload_n (i := 0) (pc := 11) dX11_loadOfAll_11 rfl rfl ?_
    refine V_iload_n (i := 1) (pc := 12) dX11_loadOfAll_12 rfl rfl ?_
    refine V_iload_n (i := 2) (pc := 13) dX11_loadOfAll_13 rfl rfl ?_
    refine V_iload (i := 4) (pc := 14) dX11_loadOfAll_14 rfl ?_
    obtain ⟨r16, e16, h⟩ := bnd h
    refine V_invV1 (c := 11) (pc := 16) dX11_loadOfAll_16 (e_Mo_loadOf h_this e16) iv_Mo_476 (rm_Mo_loadOfAll_Mo_loadOf _ _ _) rfl h_this cf_11 rfl (Nat.le_of_ble_eq_true rfl) rfl ?_
    refine V_istore (i := 5) (ls' := [some (vr this), some (vi v1), some (vi v2), some (vi v3), some (vi v4), some (vi r16.1)]) (pc := 19) dX11_loadOfAll_19 (Nat.le_of_ble_eq_true rfl) rfl ?_
    refine V_iload (i := 5) (pc := 21) dX11_loadOfAll_21 rfl ?_
    refine V_iconst (v := (-1)) (pc := 23) dX11_loadOfAll_23 rfl ?_
    refine V_icmp_ne (pc := 24) (tgt := 29) dX11_loadOfAll_24 rfl (fun q => ?_) (fun q => ?_)
    · have h := ite_f q h
      refine V_iload_n (i := 3) (pc := 29) dX11_loadOfAll_29 rfl rfl ?_
      refine V_iload (i := 5) (pc := 30) dX11_loadOfAll_30 rfl ?_
      refine V_iadd (pc := 32) dX11_loadOfAll_32 ?_
      refine V_istore_n (i := 3) (ls' := [some (vr this), some (vi v1), some (vi v2), some (vi (v3 + r16.1)), some (vi v4), some (vi r16.1)]) (pc := 33) dX11_loadOfAll_33 rfl (Nat.le_of_ble_eq_true rfl) rfl ?_
      refine V_iinc (i := 4) (v := (v4 + 1)) (ls' := [some (vr this), some (vi v1), some (vi v2), some (vi (v3 + r16.1)), some (vi (v4 + 1)), some (vi r16.1)]) (pc := 34) dX11_loadOfAll_34 rfl rfl (Nat.le_of_ble_eq_true rfl) rfl ?_
      refine V_goto (tgt := 5) (pc := 37) dX11_loadOfAll_37 rfl ?_
      refine V_sub (ls' := [some (vr this), some (vi v1), some (vi v2), some (vi (v3 + r16.1)), some (vi (v4 + 1)), none]) (And.intro rfl (And.intro rfl (And.intro rfl (And.intro rfl (And.intro rfl trivial))))) ?_
      obtain rfl := Option.some.inj h
      exact hp
    · have h := ite_t q h
      obtain ⟨y2, hu2, rfl⟩ := up_e h
      have h := hu2
      refine V_iconst (v := (-1)) (pc := 27) dX11_loadOfAll_27 rfl ?_
      obtain rfl := Option.some.inj h
      exact E_i (pc := 28) dX11_loadOfAll_28 rfl hp
theorem k_Mo_loadOfAll {g : GE} {this : Nat} {v1 : Int32} {v2 : Int32} {m : Mem} (h_this : kd this = 12) {r : Option AV} {m' : Mem} {x : Int32 × Mem} (h : Mo_loadOfAll this v1 v2 m = some x) (hp : (fun x : Int32 × Mem => r = some (vi x.1) ∧ m' = x.2) x) : V g Y_Mo_loadOfAll 0 [some (vr this), some (vi v1), some (vi v2), none, none, none] [] m (PM g Y_Mo_loadOfAll r m') := by
  unfold Mo_loadOfAll at h
  refine V_iconst (v := 0) (pc := 0) dX11_loadOfAll_0 rfl ?_
  refine V_istore_n (i := 3) (ls' := [some (vr this), some (vi v1), some (vi v2), some (vi 0), none, none]) (pc := 1) dX11_loadOfAll_1 rfl (Nat.le_of_ble_eq_true rfl) rfl ?_
  refine V_iconst (v := 0) (pc := 2) dX11_loadOfAll_2 rfl ?_
  refine V_istore (i := 4) (ls' := [some (vr this), some (vi v1), some (vi v2), some (vi 0), some (vi 0), none]) (pc := 3) dX11_loadOfAll_3 (Nat.le_of_ble_eq_true rfl) rfl ?_
  exact loop_V (A := fun s : Int32 × Int32 × Mem => V g Y_Mo_loadOfAll 5 [some (vr this), some (vi v1), some (vi v2), some (vi s.1), some (vi s.2.1), none] [] s.2.2 (PM g Y_Mo_loadOfAll r m')) (fun s x h hp => k_Mo_loadOfAll_l5 h_this h hp) (0, 0, m) _ h hp
theorem e_Mo_loadOfAll {g : GE} {this : Nat} {v1 : Int32} {v2 : Int32} {m : Mem} (h_this : kd this = 12) {x : Int32 × Mem} (h : Mo_loadOfAll this v1 v2 m = some x) : Ev g Y_Mo_loadOfAll [vr this, vi v1, vi v2] m (some (vi x.1)) x.2 :=
  Ev_of 3 (by decide +kernel) rfl (Nat.le_of_ble_eq_true rfl) rfl (k_Mo_loadOfAll h_this h ⟨rfl, rfl⟩)
theorem k_Mo_isLoad {g : GE} {v0 : Int32} {v1 : Int32} {m : Mem} {r : Option AV} {m' : Mem} {x : Int32} (h : Mo_isLoad v0 v1 m = some x) (hp : (fun x : Int32 => r = some (vi x) ∧ m' = m) x) : V g Y_Mo_isLoad 0 [some (vi v0), some (vi v1)] [] m (PM g Y_Mo_isLoad r m') := by
  unfold Mo_isLoad at h
  refine V_iload_n (i := 0) (pc := 0) dX11_isLoad_0 rfl rfl ?_
  refine V_i2l (pc := 1) dX11_isLoad_1 ?_
  refine V_lconst (v := 0) (pc := 2) dX11_isLoad_2 rfl ?_
  refine V_ldc2 (v := 28) (pc := 3) dX11_isLoad_3 con_Mo_306 ?_
  obtain ⟨r6, e6, h⟩ := bnd h
  refine V_invS1 (pc := 6) dX11_isLoad_6 (e_Mo_in  e6) is_Mo_84 (rm_Mo_isLoad_Mo_in _ _ _) rfl (Nat.le_of_ble_eq_true rfl) rfl ?_
  refine V_if_eq (pc := 9) (tgt := 28) dX11_isLoad_9 rfl (fun q => ?_) (fun q => ?_)
  · have h := ite_t q h
    refine V_iconst (v := 0) (pc := 28) dX11_isLoad_28 rfl ?_
    obtain rfl := Option.some.inj h
    exact E_z (pc := 29) dX11_isLoad_29 rfl rfl hp
  · have h := ite_f q h
    refine V_iload_n (i := 1) (pc := 12) dX11_isLoad_12 rfl rfl ?_
    refine V_i2l (pc := 13) dX11_isLoad_13 ?_
    refine V_lconst (v := 0) (pc := 14) dX11_isLoad_14 rfl ?_
    refine V_ldc2 (v := 60) (pc := 15) dX11_isLoad_15 con_Mo_479 ?_
    obtain ⟨r18, e18, h⟩ := bnd h
    refine V_invS1 (pc := 18) dX11_isLoad_18 (e_Mo_in  e18) is_Mo_84 (rm_Mo_isLoad_Mo_in _ _ _) rfl (Nat.le_of_ble_eq_true rfl) rfl ?_
    refine V_if_eq (pc := 21) (tgt := 28) dX11_isLoad_21 rfl (fun q => ?_) (fun q => ?_)
    · have h := ite_t q h
      refine V_iconst (v := 0) (pc := 28) dX11_isLoad_28 rfl ?_
      obtain rfl := Option.some.inj h
      exact E_z (pc := 29) dX11_isLoad_29 rfl rfl hp
    · have h := ite_f q h
      refine V_iconst (v := 1) (pc := 24) dX11_isLoad_24 rfl ?_
      refine V_goto (tgt := 29) (pc := 25) dX11_isLoad_25 rfl ?_
      obtain rfl := Option.some.inj h
      exact E_z (pc := 29) dX11_isLoad_29 rfl rfl hp
theorem e_Mo_isLoad {g : GE} {v0 : Int32} {v1 : Int32} {m : Mem} {x : Int32} (h : Mo_isLoad v0 v1 m = some x) : Ev g Y_Mo_isLoad [vi v0, vi v1] m (some (vi x)) m :=
  Ev_of 0 (by decide +kernel) rfl (Nat.le_of_ble_eq_true rfl) rfl (k_Mo_isLoad  h ⟨rfl, rfl⟩)
theorem k_Mo_least {g : GE} {this : Nat} {v1 : Int32} {v2 : Int32} {v3 : Int32} {m : Mem} (h_this : kd this = 12) {r : Option AV} {m' : Mem} {x : Int32 × Mem} (h : Mo_least this v1 v2 v3 m = some x) (hp : (fun x : Int32 × Mem => r = some (vi x.1) ∧ m' = x.2) x) : V g Y_Mo_least 0 [some (vr this), some (vi v1), some (vi v2), some (vi v3)] [] m (PM g Y_Mo_least r m') := by
  unfold Mo_least at h
  refine V_iload_n (i := 1) (pc := 0) dX11_least_0 rfl rfl ?_
  refine V_iload_n (i := 2) (pc := 1) dX11_least_1 rfl rfl ?_
  obtain ⟨r2, e2, h⟩ := bnd h
  refine V_invS1 (pc := 2) dX11_least_2 (e_Mo_isLoad  e2) is_Mo_481 (rm_Mo_least_Mo_isLoad _ _ _) rfl (Nat.le_of_ble_eq_true rfl) rfl ?_
  refine V_if_eq (pc := 5) (tgt := 22) dX11_least_5 rfl (fun q => ?_) (fun q => ?_)
  · have h := ite_t q h
    refine V_bipush (v := (-2)) (pc := 22) dX11_least_22 rfl ?_
    obtain rfl := Option.some.inj h
    exact E_i (pc := 24) dX11_least_24 rfl hp
  · have h := ite_f q h
    refine V_iload_n (i := 3) (pc := 8) dX11_least_8 rfl rfl ?_
    refine V_i2l (pc := 9) dX11_least_9 ?_
    refine V_ldc2 (v := (-1)) (pc := 10) dX11_least_10 con_Mo_484 ?_
    refine V_ldc2 (v := 3) (pc := 13) dX11_least_13 con_Mo_269 ?_
    obtain ⟨r16, e16, h⟩ := bnd h
    refine V_invS1 (pc := 16) dX11_least_16 (e_Mo_in  e16) is_Mo_84 (rm_Mo_least_Mo_in _ _ _) rfl (Nat.le_of_ble_eq_true rfl) rfl ?_
    refine V_if_ne (pc := 19) (tgt := 25) dX11_least_19 rfl (fun q => ?_) (fun q => ?_)
    · have h := ite_f q h
      refine V_iload_n (i := 3) (pc := 25) dX11_least_25 rfl rfl ?_
      refine V_iconst (v := (-1)) (pc := 26) dX11_least_26 rfl ?_
      refine V_icmp_ne (pc := 27) (tgt := 39) dX11_least_27 rfl (fun q => ?_) (fun q => ?_)
      · have h := ite_f q h
        refine V_aload_n (i := 0) (pc := 39) dX11_least_39 rfl rfl ?_
        refine V_iload_n (i := 1) (pc := 40) dX11_least_40 rfl rfl ?_
        refine V_iload_n (i := 2) (pc := 41) dX11_least_41 rfl rfl ?_
        refine V_iload_n (i := 3) (pc := 42) dX11_least_42 rfl rfl ?_
        obtain ⟨r43, e43, h⟩ := bnd h
        refine V_invV1 (c := 11) (pc := 43) dX11_least_43 (e_Mo_loadOf h_this e43) iv_Mo_476 (rm_Mo_least_Mo_loadOf _ _ _) rfl h_this cf_11 rfl (Nat.le_of_ble_eq_true rfl) rfl ?_
        obtain rfl := Option.some.inj h
        exact E_i (pc := 46) dX11_least_46 rfl hp
      · have h := ite_t q h
        refine V_aload_n (i := 0) (pc := 30) dX11_least_30 rfl rfl ?_
        refine V_iload_n (i := 1) (pc := 31) dX11_least_31 rfl rfl ?_
        refine V_iload_n (i := 2) (pc := 32) dX11_least_32 rfl rfl ?_
        obtain ⟨r33, e33, h⟩ := bnd h
        refine V_invV1 (c := 11) (pc := 33) dX11_least_33 (e_Mo_loadOfAll h_this e33) iv_Mo_486 (rm_Mo_least_Mo_loadOfAll _ _ _) rfl h_this cf_11 rfl (Nat.le_of_ble_eq_true rfl) rfl ?_
        refine V_goto (tgt := 46) (pc := 36) dX11_least_36 rfl ?_
        obtain rfl := Option.some.inj h
        exact E_i (pc := 46) dX11_least_46 rfl hp
    · have h := ite_t q h
      refine V_bipush (v := (-2)) (pc := 22) dX11_least_22 rfl ?_
      obtain rfl := Option.some.inj h
      exact E_i (pc := 24) dX11_least_24 rfl hp
theorem e_Mo_least {g : GE} {this : Nat} {v1 : Int32} {v2 : Int32} {v3 : Int32} {m : Mem} (h_this : kd this = 12) {x : Int32 × Mem} (h : Mo_least this v1 v2 v3 m = some x) : Ev g Y_Mo_least [vr this, vi v1, vi v2, vi v3] m (some (vi x.1)) x.2 :=
  Ev_of 0 (by decide +kernel) rfl (Nat.le_of_ble_eq_true rfl) rfl (k_Mo_least h_this h ⟨rfl, rfl⟩)
theorem k_Mo_load_b170 {g : GE} {this : Nat} {v3 : Int32} {v4 : Int32} {v5 : Int32} {v6 : Int32}  {m : Mem} (h_this : kd this = 12) {r : Option AV} {m' : Mem} {x : (Int32 × Int32) ⊕ (Int32 × Mem)} (h : Mo_load_b170 this v3 v4 v5 v6 m = some x) (hp : (Sum.elim (fun s : Int32 × Int32 => V g Y_Mo_load 53 [some (vr this), none, none, some (vi v3), some (vi v4), some (vi s.1), some (vi s.2), none] [] m (PM g Y_Mo_load r m')) (fun x : Int32 × Mem => r = some (vi x.1) ∧ m' = x.2)) x) : V g Y_Mo_load 170 [some (vr this), none, none, some (vi v3), some (vi v4), some (vi v5), some (vi v6), none] [] m (PM g Y_Mo_load r m') := by
  unfold Mo_load_b170 at h
  refine V_iinc (i := 6) (v := (v6 + 1)) (ls' := [some (vr this), none, none, some (vi v3), some (vi v4), some (vi v5), some (vi (v6 + 1)), none]) (pc := 170) dX11_load_170 rfl rfl (Nat.le_of_ble_eq_true rfl) rfl ?_
  refine V_goto (tgt := 53) (pc := 173) dX11_load_173 rfl ?_
  obtain rfl := Option.some.inj h
  exact hp
theorem k_Mo_load_l77 {g : GE} {this : Nat} {v3 : Int32} {v4 : Int32} {v5 : Int32} {v6 : Int32} {v7 : Int32} {m : Mem} (h_this : kd this = 12) {r : Option AV} {m' : Mem} {x : (Int32) ⊕ ((Int32 × Int32) ⊕ (Int32 × Mem))} (h : Mo_load_l77 this v3 v4 v5 v6 v7 m = some x) (hp : (Sum.elim (fun s : Int32 => V g Y_Mo_load 77 [some (vr this), none, none, some (vi v3), some (vi v4), some (vi v5), some (vi v6), some (vi s)] [] m (PM g Y_Mo_load r m')) (Sum.elim (fun s : Int32 × Int32 => V g Y_Mo_load 53 [some (vr this), none, none, some (vi v3), some (vi v4), some (vi s.1), some (vi s.2), none] [] m (PM g Y_Mo_load r m')) (fun x : Int32 × Mem => r = some (vi x.1) ∧ m' = x.2))) x) : V g Y_Mo_load 77 [some (vr this), none, none, some (vi v3), some (vi v4), some (vi v5), some (vi v6), some (vi v7)] [] m (PM g Y_Mo_load r m') := by
  unfold Mo_load_l77 at h
  refine V_iload (i := 7) (pc := 77) dX11_load_77 rfl ?_
  refine V_aload_n (i := 0) (pc := 79) dX11_load_79 rfl rfl ?_
  refine V_iload (i := 6) (pc := 80) dX11_load_80 rfl ?_
  refine V_iconst (v := 2) (pc := 82) dX11_load_82 rfl ?_
  obtain ⟨r83, e83, h⟩ := bnd h
  refine V_invV1 (c := 11) (pc := 83) dX11_load_83 (e_Mo_ofSort h_this e83) iv_Mo_297 (rm_Mo_load_Mo_ofSort _ _ _) rfl h_this cf_11 rfl (Nat.le_of_ble_eq_true rfl) rfl ?_
  refine V_imul (pc := 86) dX11_load_86 ?_
  refine V_aload_n (i := 0) (pc := 87) dX11_load_87 rfl rfl ?_
  refine V_getR (b := (this + 12)) (pc := 88) dX11_load_88 fl_Mo_53 h_this rfl rfl ?_
  refine V_sipush (v := 1681) (pc := 91) dX11_load_91 rfl ?_
  refine V_iload (i := 6) (pc := 94) dX11_load_94 rfl ?_
  refine V_iconst (v := 1) (pc := 96) dX11_load_96 rfl ?_
  refine V_iadd (pc := 97) dX11_load_97 ?_
  refine V_imul (pc := 98) dX11_load_98 ?_
  refine V_iconst (v := 0) (pc := 99) dX11_load_99 rfl ?_
  refine V_iload (i := 5) (pc := 100) dX11_load_100 rfl ?_
  refine V_iload (i := 7) (pc := 102) dX11_load_102 rfl ?_
  refine V_aload_n (i := 0) (pc := 104) dX11_load_104 rfl rfl ?_
  refine V_iload (i := 6) (pc := 105) dX11_load_105 rfl ?_
  refine V_iconst (v := 1) (pc := 107) dX11_load_107 rfl ?_
  obtain ⟨r108, e108, h⟩ := bnd h
  refine V_invV1 (c := 11) (pc := 108) dX11_load_108 (e_Mo_ofSort h_this e108) iv_Mo_297 (rm_Mo_load_Mo_ofSort _ _ _) rfl h_this cf_11 rfl (Nat.le_of_ble_eq_true rfl) rfl ?_
  refine V_imul (pc := 111) dX11_load_111 ?_
  refine V_isub (pc := 112) dX11_load_112 ?_
  refine V_mmax (pc := 113) dX11_load_113 ma_Mo_368 (rmM_Mo_load _ _ _) (Nat.le_of_ble_eq_true rfl) ?_
  refine V_iadd (pc := 116) dX11_load_116 ?_
  obtain ⟨hg117, h⟩ := gd_e h
  refine V_iald (pc := 117) dX11_load_117 (kf_11_20 h_this) (af_11_20 h_this) hg117 ?_
  refine V_iadd (pc := 118) dX11_load_118 ?_
  refine V_aload_n (i := 0) (pc := 119) dX11_load_119 rfl rfl ?_
  refine V_getR (b := (this + 12)) (pc := 120) dX11_load_120 fl_Mo_53 h_this rfl rfl ?_
  refine V_sipush (v := 1681) (pc := 123) dX11_load_123 rfl ?_
  refine V_iload (i := 6) (pc := 126) dX11_load_126 rfl ?_
  refine V_imul (pc := 128) dX11_load_128 ?_
  refine V_iload (i := 5) (pc := 129) dX11_load_129 rfl ?_
  refine V_iadd (pc := 131) dX11_load_131 ?_
  obtain ⟨hg132, h⟩ := gd_e h
  refine V_iald (pc := 132) dX11_load_132 (kf_11_20 h_this) (af_11_20 h_this) hg132 ?_
  refine V_icmp_eq (pc := 133) (tgt := 142) dX11_load_133 rfl (fun q => ?_) (fun q => ?_)
  · have h := ite_t q h
    obtain ⟨y2, hu2, rfl⟩ := up_e h
    have h := hu2
    refine V_iload (i := 6) (pc := 142) dX11_load_142 rfl ?_
    refine V_iload_n (i := 3) (pc := 144) dX11_load_144 rfl rfl ?_
    refine V_icmp_ne (pc := 145) (tgt := 151) dX11_load_145 rfl (fun q => ?_) (fun q => ?_)
    · have h := ite_f q h
      refine V_iconst (v := 0) (pc := 151) dX11_load_151 rfl ?_
      refine V_iload (i := 5) (pc := 152) dX11_load_152 rfl ?_
      refine V_iload (i := 7) (pc := 154) dX11_load_154 rfl ?_
      refine V_aload_n (i := 0) (pc := 156) dX11_load_156 rfl rfl ?_
      refine V_iload (i := 6) (pc := 157) dX11_load_157 rfl ?_
      refine V_iconst (v := 1) (pc := 159) dX11_load_159 rfl ?_
      obtain ⟨r160, e160, h⟩ := bnd h
      refine V_invV1 (c := 11) (pc := 160) dX11_load_160 (e_Mo_ofSort h_this e160) iv_Mo_297 (rm_Mo_load_Mo_ofSort _ _ _) rfl h_this cf_11 rfl (Nat.le_of_ble_eq_true rfl) rfl ?_
      refine V_imul (pc := 163) dX11_load_163 ?_
      refine V_isub (pc := 164) dX11_load_164 ?_
      refine V_mmax (pc := 165) dX11_load_165 ma_Mo_368 (rmM_Mo_load _ _ _) (Nat.le_of_ble_eq_true rfl) ?_
      refine V_istore (i := 5) (ls' := [some (vr this), none, none, some (vi v3), some (vi v4), some (vi (jmax 0 (v5 - (v7 * r160)))), some (vi v6), some (vi v7)]) (pc := 168) dX11_load_168 (Nat.le_of_ble_eq_true rfl) rfl ?_
      refine V_sub (ls' := [some (vr this), none, none, some (vi v3), some (vi v4), some (vi (jmax 0 (v5 - (v7 * r160)))), some (vi v6), none]) (And.intro rfl (And.intro rfl (And.intro rfl (And.intro rfl (And.intro rfl trivial))))) ?_
      exact k_Mo_load_b170 h_this h hp
    · have h := ite_t q h
      obtain ⟨y3, hu3, rfl⟩ := up_e h
      have h := hu3
      refine V_iload (i := 7) (pc := 148) dX11_load_148 rfl ?_
      obtain rfl := Option.some.inj h
      exact E_i (pc := 150) dX11_load_150 rfl hp
  · have h := ite_f q h
    refine V_iinc (i := 7) (v := (v7 + 1)) (ls' := [some (vr this), none, none, some (vi v3), some (vi v4), some (vi v5), some (vi v6), some (vi (v7 + 1))]) (pc := 136) dX11_load_136 rfl rfl (Nat.le_of_ble_eq_true rfl) rfl ?_
    refine V_goto (tgt := 77) (pc := 139) dX11_load_139 rfl ?_
    obtain rfl := Option.some.inj h
    exact hp
theorem k_Mo_load_l53 {g : GE} {this : Nat} {v3 : Int32} {v4 : Int32} {v5 : Int32} {v6 : Int32} {m : Mem} (h_this : kd this = 12) {r : Option AV} {m' : Mem} {x : (Int32 × Int32) ⊕ (Int32 × Mem)} (h : Mo_load_l53 this v3 v4 v5 v6 m = some x) (hp : (Sum.elim (fun s : Int32 × Int32 => V g Y_Mo_load 53 [some (vr this), none, none, some (vi v3), some (vi v4), some (vi s.1), some (vi s.2), none] [] m (PM g Y_Mo_load r m')) (fun x : Int32 × Mem => r = some (vi x.1) ∧ m' = x.2)) x) : V g Y_Mo_load 53 [some (vr this), none, none, some (vi v3), some (vi v4), some (vi v5), some (vi v6), none] [] m (PM g Y_Mo_load r m') := by
  unfold Mo_load_l53 at h
  refine V_iload (i := 6) (pc := 53) dX11_load_53 rfl ?_
  refine V_iload_n (i := 3) (pc := 55) dX11_load_55 rfl rfl ?_
  refine V_icmp_gt (pc := 56) (tgt := 176) dX11_load_56 rfl (fun q => ?_) (fun q => ?_)
  · have h := ite_t q h
    obtain ⟨y1, hu1, rfl⟩ := up_e h
    have h := hu1
    refine V_iconst (v := 0) (pc := 176) dX11_load_176 rfl ?_
    obtain rfl := Option.some.inj h
    exact E_i (pc := 177) dX11_load_177 rfl hp
  · have h := ite_f q h
    refine V_aload_n (i := 0) (pc := 59) dX11_load_59 rfl rfl ?_
    refine V_iload (i := 6) (pc := 60) dX11_load_60 rfl ?_
    refine V_iconst (v := 0) (pc := 62) dX11_load_62 rfl ?_
    obtain ⟨r63, e63, h⟩ := bnd h
    refine V_invV1 (c := 11) (pc := 63) dX11_load_63 (e_Mo_ofSort h_this e63) iv_Mo_297 (rm_Mo_load_Mo_ofSort _ _ _) rfl h_this cf_11 rfl (Nat.le_of_ble_eq_true rfl) rfl ?_
    refine V_iload (i := 4) (pc := 66) dX11_load_66 rfl ?_
    refine V_icmp_eq (pc := 68) (tgt := 74) dX11_load_68 rfl (fun q => ?_) (fun q => ?_)
    · have h := ite_t q h
      refine V_iconst (v := 0) (pc := 74) dX11_load_74 rfl ?_
      refine V_istore (i := 7) (ls' := [some (vr this), none, none, some (vi v3), some (vi v4), some (vi v5), some (vi v6), some (vi 0)]) (pc := 75) dX11_load_75 (Nat.le_of_ble_eq_true rfl) rfl ?_
      exact loop_V (A := fun s : Int32 => V g Y_Mo_load 77 [some (vr this), none, none, some (vi v3), some (vi v4), some (vi v5), some (vi v6), some (vi s)] [] m (PM g Y_Mo_load r m')) (fun s x h hp => k_Mo_load_l77 h_this h hp) (0) _ h hp
    · have h := ite_f q h
      refine V_goto (tgt := 170) (pc := 71) dX11_load_71 rfl ?_
      exact k_Mo_load_b170 h_this h hp
theorem k_Mo_load {g : GE} {this : Nat} {v1 : Int32} {v2 : Int32} {v3 : Int32} {m : Mem} (h_this : kd this = 12) {r : Option AV} {m' : Mem} {x : Int32 × Mem} (h : Mo_load this v1 v2 v3 m = some x) (hp : (fun x : Int32 × Mem => r = some (vi x.1) ∧ m' = x.2) x) : V g Y_Mo_load 0 [some (vr this), some (vi v1), some (vi v2), some (vi v3), none, none, none, none] [] m (PM g Y_Mo_load r m') := by
  unfold Mo_load at h
  refine V_iload_n (i := 1) (pc := 0) dX11_load_0 rfl rfl ?_
  refine V_iload_n (i := 2) (pc := 1) dX11_load_1 rfl rfl ?_
  obtain ⟨r2, e2, h⟩ := bnd h
  refine V_invS1 (pc := 2) dX11_load_2 (e_Mo_isLoad  e2) is_Mo_481 (rm_Mo_load_Mo_isLoad _ _ _) rfl (Nat.le_of_ble_eq_true rfl) rfl ?_
  refine V_if_eq (pc := 5) (tgt := 16) dX11_load_5 rfl (fun q => ?_) (fun q => ?_)
  · have h := ite_t q h
    refine V_bipush (v := (-2)) (pc := 16) dX11_load_16 rfl ?_
    obtain rfl := Option.some.inj h
    exact E_i (pc := 18) dX11_load_18 rfl hp
  · have h := ite_f q h
    refine V_aload_n (i := 0) (pc := 8) dX11_load_8 rfl rfl ?_
    refine V_iload_n (i := 3) (pc := 9) dX11_load_9 rfl rfl ?_
    obtain ⟨r10, e10, h⟩ := bnd h
    refine V_invV1 (c := 11) (pc := 10) dX11_load_10 (e_Mo_isSort h_this e10) iv_Mo_291 (rm_Mo_load_Mo_isSort _ _ _) rfl h_this cf_11 rfl (Nat.le_of_ble_eq_true rfl) rfl ?_
    refine V_if_ne (pc := 13) (tgt := 19) dX11_load_13 rfl (fun q => ?_) (fun q => ?_)
    · have h := ite_f q h
      refine V_aload_n (i := 0) (pc := 19) dX11_load_19 rfl rfl ?_
      refine V_iload_n (i := 3) (pc := 20) dX11_load_20 rfl rfl ?_
      refine V_iconst (v := 0) (pc := 21) dX11_load_21 rfl ?_
      obtain ⟨r22, e22, h⟩ := bnd h
      refine V_invV1 (c := 11) (pc := 22) dX11_load_22 (e_Mo_ofSort h_this e22) iv_Mo_297 (rm_Mo_load_Mo_ofSort _ _ _) rfl h_this cf_11 rfl (Nat.le_of_ble_eq_true rfl) rfl ?_
      refine V_istore (i := 4) (ls' := [some (vr this), some (vi v1), some (vi v2), some (vi v3), some (vi r22), none, none, none]) (pc := 25) dX11_load_25 (Nat.le_of_ble_eq_true rfl) rfl ?_
      refine V_aload_n (i := 0) (pc := 27) dX11_load_27 rfl rfl ?_
      refine V_iload_n (i := 1) (pc := 28) dX11_load_28 rfl rfl ?_
      refine V_iload_n (i := 2) (pc := 29) dX11_load_29 rfl rfl ?_
      refine V_iload (i := 4) (pc := 30) dX11_load_30 rfl ?_
      obtain ⟨r32, e32, h⟩ := bnd h
      refine V_invV1 (c := 11) (pc := 32) dX11_load_32 (e_Mo_loadOf h_this e32) iv_Mo_476 (rm_Mo_load_Mo_loadOf _ _ _) rfl h_this cf_11 rfl (Nat.le_of_ble_eq_true rfl) rfl ?_
      refine V_iconst (v := (-1)) (pc := 35) dX11_load_35 rfl ?_
      refine V_icmp_ne (pc := 36) (tgt := 41) dX11_load_36 rfl (fun q => ?_) (fun q => ?_)
      · have h := ite_f q h
        refine V_iload_n (i := 1) (pc := 41) dX11_load_41 rfl rfl ?_
        refine V_iload_n (i := 2) (pc := 42) dX11_load_42 rfl rfl ?_
        refine V_iload (i := 4) (pc := 43) dX11_load_43 rfl ?_
        obtain ⟨r45, e45, h⟩ := bnd h
        refine V_invS1 (pc := 45) dX11_load_45 (e_Mo_needOf  e45) is_Mo_362 (rm_Mo_load_Mo_needOf _ _ _) rfl (Nat.le_of_ble_eq_true rfl) rfl ?_
        refine V_istore (i := 5) (ls' := [some (vr this), some (vi v1), some (vi v2), some (vi v3), some (vi r22), some (vi r45), none, none]) (pc := 48) dX11_load_48 (Nat.le_of_ble_eq_true rfl) rfl ?_
        refine V_iconst (v := 0) (pc := 50) dX11_load_50 rfl ?_
        refine V_istore (i := 6) (ls' := [some (vr this), some (vi v1), some (vi v2), some (vi v3), some (vi r22), some (vi r45), some (vi 0), none]) (pc := 51) dX11_load_51 (Nat.le_of_ble_eq_true rfl) rfl ?_
        refine V_sub (ls' := [some (vr this), none, none, some (vi v3), some (vi r22), some (vi r45), some (vi 0), none]) (And.intro rfl (And.intro rfl (And.intro rfl (And.intro rfl (And.intro rfl trivial))))) ?_
        exact loop_V (A := fun s : Int32 × Int32 => V g Y_Mo_load 53 [some (vr this), none, none, some (vi v3), some (vi r22), some (vi s.1), some (vi s.2), none] [] r32.2 (PM g Y_Mo_load r m')) (fun s x h hp => k_Mo_load_l53 h_this h hp) (r45, 0) _ h hp
      · have h := ite_t q h
        refine V_iconst (v := (-1)) (pc := 39) dX11_load_39 rfl ?_
        obtain rfl := Option.some.inj h
        exact E_i (pc := 40) dX11_load_40 rfl hp
    · have h := ite_t q h
      refine V_bipush (v := (-2)) (pc := 16) dX11_load_16 rfl ?_
      obtain rfl := Option.some.inj h
      exact E_i (pc := 18) dX11_load_18 rfl hp
theorem e_Mo_load {g : GE} {this : Nat} {v1 : Int32} {v2 : Int32} {v3 : Int32} {m : Mem} (h_this : kd this = 12) {x : Int32 × Mem} (h : Mo_load this v1 v2 v3 m = some x) : Ev g Y_Mo_load [vr this, vi v1, vi v2, vi v3] m (some (vi x.1)) x.2 :=
  Ev_of 4 (by decide +kernel) rfl (Nat.le_of_ble_eq_true rfl) rfl (k_Mo_load h_this h ⟨rfl, rfl⟩)
theorem k_Mo_lasts_b52 {g : GE} {this : Nat} {v1 : Int32} {v2 : Int32} {v3 : Int32}  {m : Mem} (h_this : kd this = 12) {r : Option AV} {m' : Mem} {x : (Int32 × Mem) ⊕ (Int32 × Mem)} (h : Mo_lasts_b52 this v1 v2 v3 m = some x) (hp : (Sum.elim (fun s : Int32 × Mem => V g Y_Mo_lasts 26 [some (vr this), some (vi v1), some (vi v2), some (vi s.1), none] [] s.2 (PM g Y_Mo_lasts r m')) (fun x : Int32 × Mem => r = some (vi x.1) ∧ m' = x.2)) x) : V g Y_Mo_lasts 52 [some (vr this), some (vi v1), some (vi v2), some (vi v3), none] [] m (PM g Y_Mo_lasts r m') := by
  unfold Mo_lasts_b52 at h
  refine V_iinc (i := 3) (v := (v3 + (-1))) (ls' := [some (vr this), some (vi v1), some (vi v2), some (vi (v3 + (-1))), none]) (pc := 52) dX11_lasts_52 rfl rfl (Nat.le_of_ble_eq_true rfl) rfl ?_
  refine V_goto (tgt := 26) (pc := 55) dX11_lasts_55 rfl ?_
  obtain rfl := Option.some.inj h
  exact hp
theorem k_Mo_lasts_l26 {g : GE} {this : Nat} {v1 : Int32} {v2 : Int32} {v3 : Int32} {m : Mem} (h_this : kd this = 12) {r : Option AV} {m' : Mem} {x : (Int32 × Mem) ⊕ (Int32 × Mem)} (h : Mo_lasts_l26 this v1 v2 v3 m = some x) (hp : (Sum.elim (fun s : Int32 × Mem => V g Y_Mo_lasts 26 [some (vr this), some (vi v1), some (vi v2), some (vi s.1), none] [] s.2 (PM g Y_Mo_lasts r m')) (fun x : Int32 × Mem => r = some (vi x.1) ∧ m' = x.2)) x) : V g Y_Mo_lasts 26 [some (vr this), some (vi v1), some (vi v2), some (vi v3), none] [] m (PM g Y_Mo_lasts r m') := by
  unfold Mo_lasts_l26 at h
  refine V_iload_n (i := 3) (pc := 26) dX11_lasts_26 rfl rfl ?_
  refine V_if_lt (pc := 27) (tgt := 58) dX11_lasts_27 rfl (fun q => ?_) (fun q => ?_)
  · have h := ite_t q h
    obtain ⟨y1, hu1, rfl⟩ := up_e h
    have h := hu1
    refine V_iconst (v := (-1)) (pc := 58) dX11_lasts_58 rfl ?_
    obtain rfl := Option.some.inj h
    exact E_i (pc := 59) dX11_lasts_59 rfl hp
  · have h := ite_f q h
    refine V_aload_n (i := 0) (pc := 30) dX11_lasts_30 rfl rfl ?_
    refine V_iload_n (i := 1) (pc := 31) dX11_lasts_31 rfl rfl ?_
    refine V_iload_n (i := 3) (pc := 32) dX11_lasts_32 rfl rfl ?_
    obtain ⟨r33, e33, h⟩ := bnd h
    refine V_invV1 (c := 11) (pc := 33) dX11_lasts_33 (e_Mo_loadOfAll h_this e33) iv_Mo_486 (rm_Mo_lasts_Mo_loadOfAll _ _ _) rfl h_this cf_11 rfl (Nat.le_of_ble_eq_true rfl) rfl ?_
    refine V_istore (i := 4) (ls' := [some (vr this), some (vi v1), some (vi v2), some (vi v3), some (vi r33.1)]) (pc := 36) dX11_lasts_36 (Nat.le_of_ble_eq_true rfl) rfl ?_
    refine V_iload (i := 4) (pc := 38) dX11_lasts_38 rfl ?_
    refine V_iconst (v := (-1)) (pc := 40) dX11_lasts_40 rfl ?_
    refine V_icmp_eq (pc := 41) (tgt := 52) dX11_lasts_41 rfl (fun q => ?_) (fun q => ?_)
    · have h := ite_t q h
      refine V_sub (ls' := [some (vr this), some (vi v1), some (vi v2), some (vi v3), none]) (And.intro rfl (And.intro rfl (And.intro rfl (And.intro rfl trivial)))) ?_
      exact k_Mo_lasts_b52 h_this h hp
    · have h := ite_f q h
      refine V_iload (i := 4) (pc := 44) dX11_lasts_44 rfl ?_
      refine V_iload_n (i := 2) (pc := 46) dX11_lasts_46 rfl rfl ?_
      refine V_icmp_gt (pc := 47) (tgt := 52) dX11_lasts_47 rfl (fun q => ?_) (fun q => ?_)
      · have h := ite_t q h
        refine V_sub (ls' := [some (vr this), some (vi v1), some (vi v2), some (vi v3), none]) (And.intro rfl (And.intro rfl (And.intro rfl (And.intro rfl trivial)))) ?_
        exact k_Mo_lasts_b52 h_this h hp
      · have h := ite_f q h
        obtain ⟨y2, hu2, rfl⟩ := up_e h
        have h := hu2
        refine V_iload_n (i := 3) (pc := 50) dX11_lasts_50 rfl rfl ?_
        obtain rfl := Option.some.inj h
        exact E_i (pc := 51) dX11_lasts_51 rfl hp
theorem k_Mo_lasts {g : GE} {this : Nat} {v1 : Int32} {v2 : Int32} {m : Mem} (h_this : kd this = 12) {r : Option AV} {m' : Mem} {x : Int32 × Mem} (h : Mo_lasts this v1 v2 m = some x) (hp : (fun x : Int32 × Mem => r = some (vi x.1) ∧ m' = x.2) x) : V g Y_Mo_lasts 0 [some (vr this), some (vi v1), some (vi v2), none, none] [] m (PM g Y_Mo_lasts r m') := by
  unfold Mo_lasts at h
  refine V_iload_n (i := 1) (pc := 0) dX11_lasts_0 rfl rfl ?_
  refine V_iconst (v := 0) (pc := 1) dX11_lasts_1 rfl ?_
  obtain ⟨r2, e2, h⟩ := bnd h
  refine V_invS1 (pc := 2) dX11_lasts_2 (e_Mo_isLoad  e2) is_Mo_481 (rm_Mo_lasts_Mo_isLoad _ _ _) rfl (Nat.le_of_ble_eq_true rfl) rfl ?_
  refine V_if_eq (pc := 5) (tgt := 20) dX11_lasts_5 rfl (fun q => ?_) (fun q => ?_)
  · have h := ite_t q h
    refine V_bipush (v := (-2)) (pc := 20) dX11_lasts_20 rfl ?_
    obtain rfl := Option.some.inj h
    exact E_i (pc := 22) dX11_lasts_22 rfl hp
  · have h := ite_f q h
    refine V_iload_n (i := 2) (pc := 8) dX11_lasts_8 rfl rfl ?_
    refine V_i2l (pc := 9) dX11_lasts_9 ?_
    refine V_lconst (v := 0) (pc := 10) dX11_lasts_10 rfl ?_
    refine V_ldc2 (v := 9999) (pc := 11) dX11_lasts_11 con_Mo_489 ?_
    obtain ⟨r14, e14, h⟩ := bnd h
    refine V_invS1 (pc := 14) dX11_lasts_14 (e_Mo_in  e14) is_Mo_84 (rm_Mo_lasts_Mo_in _ _ _) rfl (Nat.le_of_ble_eq_true rfl) rfl ?_
    refine V_if_ne (pc := 17) (tgt := 23) dX11_lasts_17 rfl (fun q => ?_) (fun q => ?_)
    · have h := ite_f q h
      refine V_bipush (v := 60) (pc := 23) dX11_lasts_23 rfl ?_
      refine V_istore_n (i := 3) (ls' := [some (vr this), some (vi v1), some (vi v2), some (vi 60), none]) (pc := 25) dX11_lasts_25 rfl (Nat.le_of_ble_eq_true rfl) rfl ?_
      exact loop_V (A := fun s : Int32 × Mem => V g Y_Mo_lasts 26 [some (vr this), some (vi v1), some (vi v2), some (vi s.1), none] [] s.2 (PM g Y_Mo_lasts r m')) (fun s x h hp => k_Mo_lasts_l26 h_this h hp) (60, m) _ h hp
    · have h := ite_t q h
      refine V_bipush (v := (-2)) (pc := 20) dX11_lasts_20 rfl ?_
      obtain rfl := Option.some.inj h
      exact E_i (pc := 22) dX11_lasts_22 rfl hp
theorem e_Mo_lasts {g : GE} {this : Nat} {v1 : Int32} {v2 : Int32} {m : Mem} (h_this : kd this = 12) {x : Int32 × Mem} (h : Mo_lasts this v1 v2 m = some x) : Ev g Y_Mo_lasts [vr this, vi v1, vi v2] m (some (vi x.1)) x.2 :=
  Ev_of 2 (by decide +kernel) rfl (Nat.le_of_ble_eq_true rfl) rfl (k_Mo_lasts h_this h ⟨rfl, rfl⟩)
theorem k_Mo_acrossOf_b104 {g : GE} {this : Nat} {v1 : Int32} {v2 : Int32} {v3 : Int32} {v5 : Int32} {k0 : Int32} {k1 : Int32}  {m : Mem} (h_this : kd this = 12) {r : Option AV} {m' : Mem} {x : (Int32 × Int32) ⊕ (Int32)} (h : Mo_acrossOf_b104 this v1 v2 v3 v5 k0 k1 m = some x) (hp : (Sum.elim (fun s : Int32 × Int32 => V g Y_Mo_acrossOf 6 [some (vr this), some (vi v1), some (vi v2), some (vi v3), some (vi s.1), some (vi s.2), none, none, none] [] m (PM g Y_Mo_acrossOf r m')) (fun x : Int32 => r = some (vi x) ∧ m' = m)) x) : V g Y_Mo_acrossOf 104 [some (vr this), some (vi v1), some (vi v2), some (vi v3), none, some (vi v5), none, none, none] [vi k1, vi k0] m (PM g Y_Mo_acrossOf r m') := by
  unfold Mo_acrossOf_b104 at h
  refine V_iadd (pc := 104) dX11_acrossOf_104 ?_
  refine V_istore (i := 4) (ls' := [some (vr this), some (vi v1), some (vi v2), some (vi v3), some (vi (k0 + k1)), some (vi v5), none, none, none]) (pc := 105) dX11_acrossOf_105 (Nat.le_of_ble_eq_true rfl) rfl ?_
  refine V_iinc (i := 5) (v := (v5 + 1)) (ls' := [some (vr this), some (vi v1), some (vi v2), some (vi v3), some (vi (k0 + k1)), some (vi (v5 + 1)), none, none, none]) (pc := 107) dX11_acrossOf_107 rfl rfl (Nat.le_of_ble_eq_true rfl) rfl ?_
  refine V_goto (tgt := 6) (pc := 110) dX11_acrossOf_110 rfl ?_
  obtain rfl := Option.some.inj h
  exact hp
theorem k_Mo_acrossOf_b103 {g : GE} {this : Nat} {v1 : Int32} {v2 : Int32} {v3 : Int32} {v5 : Int32} {k0 : Int32}  {m : Mem} (h_this : kd this = 12) {r : Option AV} {m' : Mem} {x : (Int32 × Int32) ⊕ (Int32)} (h : Mo_acrossOf_b103 this v1 v2 v3 v5 k0 m = some x) (hp : (Sum.elim (fun s : Int32 × Int32 => V g Y_Mo_acrossOf 6 [some (vr this), some (vi v1), some (vi v2), some (vi v3), some (vi s.1), some (vi s.2), none, none, none] [] m (PM g Y_Mo_acrossOf r m')) (fun x : Int32 => r = some (vi x) ∧ m' = m)) x) : V g Y_Mo_acrossOf 103 [some (vr this), some (vi v1), some (vi v2), some (vi v3), none, some (vi v5), none, none, none] [vi k0] m (PM g Y_Mo_acrossOf r m') := by
  unfold Mo_acrossOf_b103 at h
  refine V_iconst (v := 0) (pc := 103) dX11_acrossOf_103 rfl ?_
  exact k_Mo_acrossOf_b104 h_this h hp
theorem k_Mo_acrossOf_b32 {g : GE} {this : Nat} {v1 : Int32} {v2 : Int32} {v3 : Int32} {v4 : Int32} {v5 : Int32} {k0 : Int32}  {m : Mem} (h_this : kd this = 12) {r : Option AV} {m' : Mem} {x : (Int32 × Int32) ⊕ (Int32)} (h : Mo_acrossOf_b32 this v1 v2 v3 v4 v5 k0 m = some x) (hp : (Sum.elim (fun s : Int32 × Int32 => V g Y_Mo_acrossOf 6 [some (vr this), some (vi v1), some (vi v2), some (vi v3), some (vi s.1), some (vi s.2), none, none, none] [] m (PM g Y_Mo_acrossOf r m')) (fun x : Int32 => r = some (vi x) ∧ m' = m)) x) : V g Y_Mo_acrossOf 32 [some (vr this), some (vi v1), some (vi v2), some (vi v3), some (vi v4), some (vi v5), none, none, none] [vi k0] m (PM g Y_Mo_acrossOf r m') := by
  unfold Mo_acrossOf_b32 at h
  refine V_istore (i := 6) (ls' := [some (vr this), some (vi v1), some (vi v2), some (vi v3), some (vi v4), some (vi v5), some (vi k0), none, none]) (pc := 32) dX11_acrossOf_32 (Nat.le_of_ble_eq_true rfl) rfl ?_
  refine V_aload_n (i := 0) (pc := 34) dX11_acrossOf_34 rfl rfl ?_
  refine V_iload_n (i := 2) (pc := 35) dX11_acrossOf_35 rfl rfl ?_
  refine V_iconst (v := 1) (pc := 36) dX11_acrossOf_36 rfl ?_
  refine V_iload (i := 6) (pc := 37) dX11_acrossOf_37 rfl ?_
  refine V_iadd (pc := 39) dX11_acrossOf_39 ?_
  obtain ⟨r40, e40, h⟩ := bnd h
  refine V_invV1 (c := 11) (pc := 40) dX11_acrossOf_40 (e_Mo_ofHeap h_this e40) iv_Mo_88 (rm_Mo_acrossOf_Mo_ofHeap _ _ _) rfl h_this cf_11 rfl (Nat.le_of_ble_eq_true rfl) rfl ?_
  refine V_istore (i := 7) (ls' := [some (vr this), some (vi v1), some (vi v2), some (vi v3), some (vi v4), some (vi v5), some (vi k0), some (vi r40), none]) (pc := 43) dX11_acrossOf_43 (Nat.le_of_ble_eq_true rfl) rfl ?_
  refine V_aload_n (i := 0) (pc := 45) dX11_acrossOf_45 rfl rfl ?_
  refine V_iload_n (i := 3) (pc := 46) dX11_acrossOf_46 rfl rfl ?_
  refine V_iload (i := 6) (pc := 47) dX11_acrossOf_47 rfl ?_
  obtain ⟨r49, e49, h⟩ := bnd h
  refine V_invV1 (c := 11) (pc := 49) dX11_acrossOf_49 (e_Mo_ofGroup h_this e49) iv_Mo_300 (rm_Mo_acrossOf_Mo_ofGroup _ _ _) rfl h_this cf_11 rfl (Nat.le_of_ble_eq_true rfl) rfl ?_
  refine V_istore (i := 8) (ls' := [some (vr this), some (vi v1), some (vi v2), some (vi v3), some (vi v4), some (vi v5), some (vi k0), some (vi r40), some (vi r49)]) (pc := 52) dX11_acrossOf_52 (Nat.le_of_ble_eq_true rfl) rfl ?_
  refine V_iload (i := 4) (pc := 54) dX11_acrossOf_54 rfl ?_
  refine V_iload_n (i := 1) (pc := 56) dX11_acrossOf_56 rfl rfl ?_
  refine V_iload (i := 5) (pc := 57) dX11_acrossOf_57 rfl ?_
  obtain ⟨r59, e59, h⟩ := bnd h
  refine V_invS1 (pc := 59) dX11_acrossOf_59 (e_Mo_holds  e59) is_Mo_239 (rm_Mo_acrossOf_Mo_holds _ _ _) rfl (Nat.le_of_ble_eq_true rfl) rfl ?_
  refine V_if_eq (pc := 62) (tgt := 103) dX11_acrossOf_62 rfl (fun q => ?_) (fun q => ?_)
  · have h := ite_t q h
    refine V_sub (ls' := [some (vr this), some (vi v1), some (vi v2), some (vi v3), none, some (vi v5), none, none, none]) (And.intro rfl (And.intro rfl (And.intro rfl (And.intro rfl (And.intro rfl trivial))))) ?_
    exact k_Mo_acrossOf_b103 h_this h hp
  · have h := ite_f q h
    refine V_aload_n (i := 0) (pc := 65) dX11_acrossOf_65 rfl rfl ?_
    refine V_iload (i := 5) (pc := 66) dX11_acrossOf_66 rfl ?_
    refine V_iconst (v := 1) (pc := 68) dX11_acrossOf_68 rfl ?_
    obtain ⟨r69, e69, h⟩ := bnd h
    refine V_invV1 (c := 11) (pc := 69) dX11_acrossOf_69 (e_Mo_ofCrack h_this e69) iv_Mo_317 (rm_Mo_acrossOf_Mo_ofCrack _ _ _) rfl h_this cf_11 rfl (Nat.le_of_ble_eq_true rfl) rfl ?_
    refine V_iload (i := 7) (pc := 72) dX11_acrossOf_72 rfl ?_
    refine V_iload (i := 8) (pc := 74) dX11_acrossOf_74 rfl ?_
    refine V_mmin (pc := 76) dX11_acrossOf_76 ma_Mo_123 (rmM_Mo_acrossOf _ _ _) (Nat.le_of_ble_eq_true rfl) ?_
    refine V_icmp_le (pc := 79) (tgt := 103) dX11_acrossOf_79 rfl (fun q => ?_) (fun q => ?_)
    · have h := ite_t q h
      refine V_sub (ls' := [some (vr this), some (vi v1), some (vi v2), some (vi v3), none, some (vi v5), none, none, none]) (And.intro rfl (And.intro rfl (And.intro rfl (And.intro rfl (And.intro rfl trivial))))) ?_
      exact k_Mo_acrossOf_b103 h_this h hp
    · have h := ite_f q h
      refine V_aload_n (i := 0) (pc := 82) dX11_acrossOf_82 rfl rfl ?_
      refine V_iload (i := 5) (pc := 83) dX11_acrossOf_83 rfl ?_
      refine V_iconst (v := 1) (pc := 85) dX11_acrossOf_85 rfl ?_
      obtain ⟨r86, e86, h⟩ := bnd h
      refine V_invV1 (c := 11) (pc := 86) dX11_acrossOf_86 (e_Mo_ofCrack h_this e86) iv_Mo_317 (rm_Mo_acrossOf_Mo_ofCrack _ _ _) rfl h_this cf_11 rfl (Nat.le_of_ble_eq_true rfl) rfl ?_
      refine V_iload (i := 7) (pc := 89) dX11_acrossOf_89 rfl ?_
      refine V_iload (i := 8) (pc := 91) dX11_acrossOf_91 rfl ?_
      refine V_mmax (pc := 93) dX11_acrossOf_93 ma_Mo_368 (rmM_Mo_acrossOf _ _ _) (Nat.le_of_ble_eq_true rfl) ?_
      refine V_icmp_gt (pc := 96) (tgt := 103) dX11_acrossOf_96 rfl (fun q => ?_) (fun q => ?_)
      · have h := ite_t q h
        refine V_sub (ls' := [some (vr this), some (vi v1), some (vi v2), some (vi v3), none, some (vi v5), none, none, none]) (And.intro rfl (And.intro rfl (And.intro rfl (And.intro rfl (And.intro rfl trivial))))) ?_
        exact k_Mo_acrossOf_b103 h_this h hp
      · have h := ite_f q h
        refine V_iconst (v := 1) (pc := 99) dX11_acrossOf_99 rfl ?_
        refine V_goto (tgt := 104) (pc := 100) dX11_acrossOf_100 rfl ?_
        refine V_sub (ls' := [some (vr this), some (vi v1), some (vi v2), some (vi v3), none, some (vi v5), none, none, none]) (And.intro rfl (And.intro rfl (And.intro rfl (And.intro rfl (And.intro rfl trivial))))) ?_
        exact k_Mo_acrossOf_b104 h_this h hp
theorem k_Mo_acrossOf_l6 {g : GE} {this : Nat} {v1 : Int32} {v2 : Int32} {v3 : Int32} {v4 : Int32} {v5 : Int32} {m : Mem} (h_this : kd this = 12) {r : Option AV} {m' : Mem} {x : (Int32 × Int32) ⊕ (Int32)} (h : Mo_acrossOf_l6 this v1 v2 v3 v4 v5 m = some x) (hp : (Sum.elim (fun s : Int32 × Int32 => V g Y_Mo_acrossOf 6 [some (vr this), some (vi v1), some (vi v2), some (vi v3), some (vi s.1), some (vi s.2), none, none, none] [] m (PM g Y_Mo_acrossOf r m')) (fun x : Int32 => r = some (vi x) ∧ m' = m)) x) : V g Y_Mo_acrossOf 6 [some (vr this), some (vi v1), some (vi v2), some (vi v3), some (vi v4), some (vi v5), none, none, none] [] m (PM g Y_Mo_acrossOf r m') := by
  unfold Mo_acrossOf_l6 at h
  refine V_iload (i := 5) (pc := 6) dX11_acrossOf_6 rfl ?_
  refine V_aload_n (i := 0) (pc := 8) dX11_acrossOf_8 rfl rfl ?_
  refine V_getR (b := (this + 1)) (pc := 9) dX11_acrossOf_9 fl_Mo_13 h_this rfl rfl ?_
  refine V_iconst (v := 5) (pc := 12) dX11_acrossOf_12 rfl ?_
  obtain ⟨hg13, h⟩ := gd_e h
  refine V_iald (pc := 13) dX11_acrossOf_13 (kf_11_1 h_this) (af_11_1 h_this) hg13 ?_
  refine V_icmp_ge (pc := 14) (tgt := 113) dX11_acrossOf_14 rfl (fun q => ?_) (fun q => ?_)
  · have h := ite_t q h
    obtain ⟨y1, hu1, rfl⟩ := up_e h
    have h := hu1
    refine V_iload (i := 4) (pc := 113) dX11_acrossOf_113 rfl ?_
    obtain rfl := Option.some.inj h
    exact E_i (pc := 115) dX11_acrossOf_115 rfl hp
  · have h := ite_f q h
    refine V_aload_n (i := 0) (pc := 17) dX11_acrossOf_17 rfl rfl ?_
    refine V_iload (i := 5) (pc := 18) dX11_acrossOf_18 rfl ?_
    refine V_iconst (v := 0) (pc := 20) dX11_acrossOf_20 rfl ?_
    obtain ⟨r21, e21, h⟩ := bnd h
    refine V_invV1 (c := 11) (pc := 21) dX11_acrossOf_21 (e_Mo_ofCrack h_this e21) iv_Mo_317 (rm_Mo_acrossOf_Mo_ofCrack _ _ _) rfl h_this cf_11 rfl (Nat.le_of_ble_eq_true rfl) rfl ?_
    refine V_if_ne (pc := 24) (tgt := 31) dX11_acrossOf_24 rfl (fun q => ?_) (fun q => ?_)
    · have h := ite_f q h
      refine V_iconst (v := 1) (pc := 31) dX11_acrossOf_31 rfl ?_
      exact k_Mo_acrossOf_b32 h_this h hp
    · have h := ite_t q h
      refine V_iconst (v := 0) (pc := 27) dX11_acrossOf_27 rfl ?_
      refine V_goto (tgt := 32) (pc := 28) dX11_acrossOf_28 rfl ?_
      exact k_Mo_acrossOf_b32 h_this h hp
theorem k_Mo_acrossOf {g : GE} {this : Nat} {v1 : Int32} {v2 : Int32} {v3 : Int32} {m : Mem} (h_this : kd this = 12) {r : Option AV} {m' : Mem} {x : Int32} (h : Mo_acrossOf this v1 v2 v3 m = some x) (hp : (fun x : Int32 => r = some (vi x) ∧ m' = m) x) : V g Y_Mo_acrossOf 0 [some (vr this), some (vi v1), some (vi v2), some (vi v3), none, none, none, none, none] [] m (PM g Y_Mo_acrossOf r m') := by
  unfold Mo_acrossOf at h
  refine V_iconst (v := 0) (pc := 0) dX11_acrossOf_0 rfl ?_
  refine V_istore (i := 4) (ls' := [some (vr this), some (vi v1), some (vi v2), some (vi v3), some (vi 0), none, none, none, none]) (pc := 1) dX11_acrossOf_1 (Nat.le_of_ble_eq_true rfl) rfl ?_
  refine V_iconst (v := 0) (pc := 3) dX11_acrossOf_3 rfl ?_
  refine V_istore (i := 5) (ls' := [some (vr this), some (vi v1), some (vi v2), some (vi v3), some (vi 0), some (vi 0), none, none, none]) (pc := 4) dX11_acrossOf_4 (Nat.le_of_ble_eq_true rfl) rfl ?_
  exact loop_V (A := fun s : Int32 × Int32 => V g Y_Mo_acrossOf 6 [some (vr this), some (vi v1), some (vi v2), some (vi v3), some (vi s.1), some (vi s.2), none, none, none] [] m (PM g Y_Mo_acrossOf r m')) (fun s x h hp => k_Mo_acrossOf_l6 h_this h hp) (0, 0) _ h hp
theorem e_Mo_acrossOf {g : GE} {this : Nat} {v1 : Int32} {v2 : Int32} {v3 : Int32} {m : Mem} (h_this : kd this = 12) {x : Int32} (h : Mo_acrossOf this v1 v2 v3 m = some x) : Ev g Y_Mo_acrossOf [vr this, vi v1, vi v2, vi v3] m (some (vi x)) m :=
  Ev_of 5 (by decide +kernel) rfl (Nat.le_of_ble_eq_true rfl) rfl (k_Mo_acrossOf h_this h ⟨rfl, rfl⟩)
theorem k_Mo_minutesOf {g : GE} {this : Nat} {v1 : Int32} {v2 : Int32} {v3 : Int32} {v4 : Int32} {m : Mem} (h_this : kd this = 12) {r : Option AV} {m' : Mem} {x : Int32} (h : Mo_minutesOf this v1 v2 v3 v4 m = some x) (hp : (fun x : Int32 => r = some (vi x) ∧ m' = m) x) : V g Y_Mo_minutesOf 0 [some (vr this), some (vi v1), some (vi v2), some (vi v3), some (vi v4), none] [] m (PM g Y_Mo_minutesOf r m') := by
  unfold Mo_minutesOf at h
  refine V_aload_n (i := 0) (pc := 0) dX11_minutesOf_0 rfl rfl ?_
  refine V_iload_n (i := 2) (pc := 1) dX11_minutesOf_1 rfl rfl ?_
  refine V_iconst (v := 1) (pc := 2) dX11_minutesOf_2 rfl ?_
  obtain ⟨r3, e3, h⟩ := bnd h
  refine V_invV1 (c := 11) (pc := 3) dX11_minutesOf_3 (e_Mo_ofHeap h_this e3) iv_Mo_88 (rm_Mo_minutesOf_Mo_ofHeap _ _ _) rfl h_this cf_11 rfl (Nat.le_of_ble_eq_true rfl) rfl ?_
  refine V_aload_n (i := 0) (pc := 6) dX11_minutesOf_6 rfl rfl ?_
  refine V_iload (i := 4) (pc := 7) dX11_minutesOf_7 rfl ?_
  refine V_iconst (v := 0) (pc := 9) dX11_minutesOf_9 rfl ?_
  obtain ⟨r10, e10, h⟩ := bnd h
  refine V_invV1 (c := 11) (pc := 10) dX11_minutesOf_10 (e_Mo_ofGroup h_this e10) iv_Mo_300 (rm_Mo_minutesOf_Mo_ofGroup _ _ _) rfl h_this cf_11 rfl (Nat.le_of_ble_eq_true rfl) rfl ?_
  refine V_isub (pc := 13) dX11_minutesOf_13 ?_
  refine V_mabs (pc := 14) dX11_minutesOf_14 ma_Mo_491 (rmM_Mo_minutesOf _ _ _) (Nat.le_of_ble_eq_true rfl) ?_
  refine V_aload_n (i := 0) (pc := 17) dX11_minutesOf_17 rfl rfl ?_
  refine V_iload_n (i := 2) (pc := 18) dX11_minutesOf_18 rfl rfl ?_
  refine V_iconst (v := 2) (pc := 19) dX11_minutesOf_19 rfl ?_
  obtain ⟨r20, e20, h⟩ := bnd h
  refine V_invV1 (c := 11) (pc := 20) dX11_minutesOf_20 (e_Mo_ofHeap h_this e20) iv_Mo_88 (rm_Mo_minutesOf_Mo_ofHeap _ _ _) rfl h_this cf_11 rfl (Nat.le_of_ble_eq_true rfl) rfl ?_
  refine V_aload_n (i := 0) (pc := 23) dX11_minutesOf_23 rfl rfl ?_
  refine V_iload (i := 4) (pc := 24) dX11_minutesOf_24 rfl ?_
  refine V_iconst (v := 1) (pc := 26) dX11_minutesOf_26 rfl ?_
  obtain ⟨r27, e27, h⟩ := bnd h
  refine V_invV1 (c := 11) (pc := 27) dX11_minutesOf_27 (e_Mo_ofGroup h_this e27) iv_Mo_300 (rm_Mo_minutesOf_Mo_ofGroup _ _ _) rfl h_this cf_11 rfl (Nat.le_of_ble_eq_true rfl) rfl ?_
  refine V_isub (pc := 30) dX11_minutesOf_30 ?_
  refine V_mabs (pc := 31) dX11_minutesOf_31 ma_Mo_491 (rmM_Mo_minutesOf _ _ _) (Nat.le_of_ble_eq_true rfl) ?_
  refine V_iadd (pc := 34) dX11_minutesOf_34 ?_
  refine V_istore (i := 5) (ls' := [some (vr this), some (vi v1), some (vi v2), some (vi v3), some (vi v4), some (vi ((jabs (r3 - r10)) + (jabs (r20 - r27))))]) (pc := 35) dX11_minutesOf_35 (Nat.le_of_ble_eq_true rfl) rfl ?_
  refine V_aload_n (i := 0) (pc := 37) dX11_minutesOf_37 rfl rfl ?_
  refine V_iload_n (i := 3) (pc := 38) dX11_minutesOf_38 rfl rfl ?_
  refine V_iconst (v := 2) (pc := 39) dX11_minutesOf_39 rfl ?_
  obtain ⟨r40, e40, h⟩ := bnd h
  refine V_invV1 (c := 11) (pc := 40) dX11_minutesOf_40 (e_Mo_ofSort h_this e40) iv_Mo_297 (rm_Mo_minutesOf_Mo_ofSort _ _ _) rfl h_this cf_11 rfl (Nat.le_of_ble_eq_true rfl) rfl ?_
  refine V_iload (i := 5) (pc := 43) dX11_minutesOf_43 rfl ?_
  refine V_imul (pc := 45) dX11_minutesOf_45 ?_
  refine V_aload_n (i := 0) (pc := 46) dX11_minutesOf_46 rfl rfl ?_
  refine V_getR (b := (this + 1)) (pc := 47) dX11_minutesOf_47 fl_Mo_13 h_this rfl rfl ?_
  refine V_bipush (v := 11) (pc := 50) dX11_minutesOf_50 rfl ?_
  obtain ⟨hg52, h⟩ := gd_e h
  refine V_iald (pc := 52) dX11_minutesOf_52 (kf_11_1 h_this) (af_11_1 h_this) hg52 ?_
  refine V_imul (pc := 53) dX11_minutesOf_53 ?_
  refine V_aload_n (i := 0) (pc := 54) dX11_minutesOf_54 rfl rfl ?_
  refine V_getR (b := (this + 1)) (pc := 55) dX11_minutesOf_55 fl_Mo_13 h_this rfl rfl ?_
  refine V_bipush (v := 12) (pc := 58) dX11_minutesOf_58 rfl ?_
  obtain ⟨hg60, h⟩ := gd_e h
  refine V_iald (pc := 60) dX11_minutesOf_60 (kf_11_1 h_this) (af_11_1 h_this) hg60 ?_
  refine V_aload_n (i := 0) (pc := 61) dX11_minutesOf_61 rfl rfl ?_
  refine V_iload_n (i := 1) (pc := 62) dX11_minutesOf_62 rfl rfl ?_
  refine V_iload_n (i := 2) (pc := 63) dX11_minutesOf_63 rfl rfl ?_
  refine V_iload (i := 4) (pc := 64) dX11_minutesOf_64 rfl ?_
  obtain ⟨r66, e66, h⟩ := bnd h
  refine V_invV1 (c := 11) (pc := 66) dX11_minutesOf_66 (e_Mo_acrossOf h_this e66) iv_Mo_494 (rm_Mo_minutesOf_Mo_acrossOf _ _ _) rfl h_this cf_11 rfl (Nat.le_of_ble_eq_true rfl) rfl ?_
  refine V_imul (pc := 69) dX11_minutesOf_69 ?_
  refine V_iadd (pc := 70) dX11_minutesOf_70 ?_
  obtain rfl := Option.some.inj h
  exact E_i (pc := 71) dX11_minutesOf_71 rfl hp
theorem e_Mo_minutesOf {g : GE} {this : Nat} {v1 : Int32} {v2 : Int32} {v3 : Int32} {v4 : Int32} {m : Mem} (h_this : kd this = 12) {x : Int32} (h : Mo_minutesOf this v1 v2 v3 v4 m = some x) : Ev g Y_Mo_minutesOf [vr this, vi v1, vi v2, vi v3, vi v4] m (some (vi x)) m :=
  Ev_of 1 (by decide +kernel) rfl (Nat.le_of_ble_eq_true rfl) rfl (k_Mo_minutesOf h_this h ⟨rfl, rfl⟩)
theorem k_Mo_across {g : GE} {this : Nat} {v1 : Int32} {v2 : Int32} {v3 : Int32} {m : Mem} (h_this : kd this = 12) {r : Option AV} {m' : Mem} {x : Int32} (h : Mo_across this v1 v2 v3 m = some x) (hp : (fun x : Int32 => r = some (vi x) ∧ m' = m) x) : V g Y_Mo_across 0 [some (vr this), some (vi v1), some (vi v2), some (vi v3)] [] m (PM g Y_Mo_across r m') := by
  unfold Mo_across at h
  refine V_aload_n (i := 0) (pc := 0) dX11_across_0 rfl rfl ?_
  refine V_iload_n (i := 1) (pc := 1) dX11_across_1 rfl rfl ?_
  obtain ⟨r2, e2, h⟩ := bnd h
  refine V_invV1 (c := 11) (pc := 2) dX11_across_2 (e_Mo_isSet h_this e2) iv_Mo_311 (rm_Mo_across_Mo_isSet _ _ _) rfl h_this cf_11 rfl (Nat.le_of_ble_eq_true rfl) rfl ?_
  refine V_if_eq (pc := 5) (tgt := 22) dX11_across_5 rfl (fun q => ?_) (fun q => ?_)
  · have h := ite_t q h
    refine V_bipush (v := (-2)) (pc := 22) dX11_across_22 rfl ?_
    obtain rfl := Option.some.inj h
    exact E_i (pc := 24) dX11_across_24 rfl hp
  · have h := ite_f q h
    refine V_iload_n (i := 2) (pc := 8) dX11_across_8 rfl rfl ?_
    obtain ⟨r9, e9, h⟩ := bnd h
    refine V_invS1 (pc := 9) dX11_across_9 (e_Mo_isHeap  e9) is_Mo_277 (rm_Mo_across_Mo_isHeap _ _ _) rfl (Nat.le_of_ble_eq_true rfl) rfl ?_
    refine V_if_eq (pc := 12) (tgt := 22) dX11_across_12 rfl (fun q => ?_) (fun q => ?_)
    · have h := ite_t q h
      refine V_bipush (v := (-2)) (pc := 22) dX11_across_22 rfl ?_
      obtain rfl := Option.some.inj h
      exact E_i (pc := 24) dX11_across_24 rfl hp
    · have h := ite_f q h
      refine V_iload_n (i := 3) (pc := 15) dX11_across_15 rfl rfl ?_
      obtain ⟨r16, e16, h⟩ := bnd h
      refine V_invS1 (pc := 16) dX11_across_16 (e_Mo_isGroup  e16) is_Mo_303 (rm_Mo_across_Mo_isGroup _ _ _) rfl (Nat.le_of_ble_eq_true rfl) rfl ?_
      refine V_if_ne (pc := 19) (tgt := 25) dX11_across_19 rfl (fun q => ?_) (fun q => ?_)
      · have h := ite_f q h
        refine V_aload_n (i := 0) (pc := 25) dX11_across_25 rfl rfl ?_
        refine V_iload_n (i := 2) (pc := 26) dX11_across_26 rfl rfl ?_
        obtain ⟨r27, e27, h⟩ := bnd h
        refine V_invV1 (c := 11) (pc := 27) dX11_across_27 (e_Mo_isThere h_this e27) iv_Mo_288 (rm_Mo_across_Mo_isThere _ _ _) rfl h_this cf_11 rfl (Nat.le_of_ble_eq_true rfl) rfl ?_
        refine V_if_eq (pc := 30) (tgt := 43) dX11_across_30 rfl (fun q => ?_) (fun q => ?_)
        · have h := ite_t q h
          refine V_iconst (v := (-1)) (pc := 43) dX11_across_43 rfl ?_
          obtain rfl := Option.some.inj h
          exact E_i (pc := 44) dX11_across_44 rfl hp
        · have h := ite_f q h
          refine V_aload_n (i := 0) (pc := 33) dX11_across_33 rfl rfl ?_
          refine V_iload_n (i := 1) (pc := 34) dX11_across_34 rfl rfl ?_
          refine V_iload_n (i := 2) (pc := 35) dX11_across_35 rfl rfl ?_
          refine V_iload_n (i := 3) (pc := 36) dX11_across_36 rfl rfl ?_
          obtain ⟨r37, e37, h⟩ := bnd h
          refine V_invV1 (c := 11) (pc := 37) dX11_across_37 (e_Mo_acrossOf h_this e37) iv_Mo_494 (rm_Mo_across_Mo_acrossOf _ _ _) rfl h_this cf_11 rfl (Nat.le_of_ble_eq_true rfl) rfl ?_
          refine V_goto (tgt := 44) (pc := 40) dX11_across_40 rfl ?_
          obtain rfl := Option.some.inj h
          exact E_i (pc := 44) dX11_across_44 rfl hp
      · have h := ite_t q h
        refine V_bipush (v := (-2)) (pc := 22) dX11_across_22 rfl ?_
        obtain rfl := Option.some.inj h
        exact E_i (pc := 24) dX11_across_24 rfl hp
theorem e_Mo_across {g : GE} {this : Nat} {v1 : Int32} {v2 : Int32} {v3 : Int32} {m : Mem} (h_this : kd this = 12) {x : Int32} (h : Mo_across this v1 v2 v3 m = some x) : Ev g Y_Mo_across [vr this, vi v1, vi v2, vi v3] m (some (vi x)) m :=
  Ev_of 0 (by decide +kernel) rfl (Nat.le_of_ble_eq_true rfl) rfl (k_Mo_across h_this h ⟨rfl, rfl⟩)
theorem k_Mo_minutes {g : GE} {this : Nat} {v1 : Int32} {v2 : Int32} {v3 : Int32} {v4 : Int32} {m : Mem} (h_this : kd this = 12) {r : Option AV} {m' : Mem} {x : Int32} (h : Mo_minutes this v1 v2 v3 v4 m = some x) (hp : (fun x : Int32 => r = some (vi x) ∧ m' = m) x) : V g Y_Mo_minutes 0 [some (vr this), some (vi v1), some (vi v2), some (vi v3), some (vi v4)] [] m (PM g Y_Mo_minutes r m') := by
  unfold Mo_minutes at h
  refine V_aload_n (i := 0) (pc := 0) dX11_minutes_0 rfl rfl ?_
  refine V_iload_n (i := 1) (pc := 1) dX11_minutes_1 rfl rfl ?_
  obtain ⟨r2, e2, h⟩ := bnd h
  refine V_invV1 (c := 11) (pc := 2) dX11_minutes_2 (e_Mo_isSet h_this e2) iv_Mo_311 (rm_Mo_minutes_Mo_isSet _ _ _) rfl h_this cf_11 rfl (Nat.le_of_ble_eq_true rfl) rfl ?_
  refine V_if_eq (pc := 5) (tgt := 31) dX11_minutes_5 rfl (fun q => ?_) (fun q => ?_)
  · have h := ite_t q h
    refine V_bipush (v := (-2)) (pc := 31) dX11_minutes_31 rfl ?_
    obtain rfl := Option.some.inj h
    exact E_i (pc := 33) dX11_minutes_33 rfl hp
  · have h := ite_f q h
    refine V_iload_n (i := 2) (pc := 8) dX11_minutes_8 rfl rfl ?_
    obtain ⟨r9, e9, h⟩ := bnd h
    refine V_invS1 (pc := 9) dX11_minutes_9 (e_Mo_isHeap  e9) is_Mo_277 (rm_Mo_minutes_Mo_isHeap _ _ _) rfl (Nat.le_of_ble_eq_true rfl) rfl ?_
    refine V_if_eq (pc := 12) (tgt := 31) dX11_minutes_12 rfl (fun q => ?_) (fun q => ?_)
    · have h := ite_t q h
      refine V_bipush (v := (-2)) (pc := 31) dX11_minutes_31 rfl ?_
      obtain rfl := Option.some.inj h
      exact E_i (pc := 33) dX11_minutes_33 rfl hp
    · have h := ite_f q h
      refine V_aload_n (i := 0) (pc := 15) dX11_minutes_15 rfl rfl ?_
      refine V_iload_n (i := 3) (pc := 16) dX11_minutes_16 rfl rfl ?_
      obtain ⟨r17, e17, h⟩ := bnd h
      refine V_invV1 (c := 11) (pc := 17) dX11_minutes_17 (e_Mo_isSort h_this e17) iv_Mo_291 (rm_Mo_minutes_Mo_isSort _ _ _) rfl h_this cf_11 rfl (Nat.le_of_ble_eq_true rfl) rfl ?_
      refine V_if_eq (pc := 20) (tgt := 31) dX11_minutes_20 rfl (fun q => ?_) (fun q => ?_)
      · have h := ite_t q h
        refine V_bipush (v := (-2)) (pc := 31) dX11_minutes_31 rfl ?_
        obtain rfl := Option.some.inj h
        exact E_i (pc := 33) dX11_minutes_33 rfl hp
      · have h := ite_f q h
        refine V_iload (i := 4) (pc := 23) dX11_minutes_23 rfl ?_
        obtain ⟨r25, e25, h⟩ := bnd h
        refine V_invS1 (pc := 25) dX11_minutes_25 (e_Mo_isGroup  e25) is_Mo_303 (rm_Mo_minutes_Mo_isGroup _ _ _) rfl (Nat.le_of_ble_eq_true rfl) rfl ?_
        refine V_if_ne (pc := 28) (tgt := 34) dX11_minutes_28 rfl (fun q => ?_) (fun q => ?_)
        · have h := ite_f q h
          refine V_aload_n (i := 0) (pc := 34) dX11_minutes_34 rfl rfl ?_
          refine V_iload_n (i := 2) (pc := 35) dX11_minutes_35 rfl rfl ?_
          obtain ⟨r36, e36, h⟩ := bnd h
          refine V_invV1 (c := 11) (pc := 36) dX11_minutes_36 (e_Mo_isThere h_this e36) iv_Mo_288 (rm_Mo_minutes_Mo_isThere _ _ _) rfl h_this cf_11 rfl (Nat.le_of_ble_eq_true rfl) rfl ?_
          refine V_if_eq (pc := 39) (tgt := 54) dX11_minutes_39 rfl (fun q => ?_) (fun q => ?_)
          · have h := ite_t q h
            refine V_iconst (v := (-1)) (pc := 54) dX11_minutes_54 rfl ?_
            obtain rfl := Option.some.inj h
            exact E_i (pc := 55) dX11_minutes_55 rfl hp
          · have h := ite_f q h
            refine V_aload_n (i := 0) (pc := 42) dX11_minutes_42 rfl rfl ?_
            refine V_iload_n (i := 1) (pc := 43) dX11_minutes_43 rfl rfl ?_
            refine V_iload_n (i := 2) (pc := 44) dX11_minutes_44 rfl rfl ?_
            refine V_iload_n (i := 3) (pc := 45) dX11_minutes_45 rfl rfl ?_
            refine V_iload (i := 4) (pc := 46) dX11_minutes_46 rfl ?_
            obtain ⟨r48, e48, h⟩ := bnd h
            refine V_invV1 (c := 11) (pc := 48) dX11_minutes_48 (e_Mo_minutesOf h_this e48) iv_Mo_497 (rm_Mo_minutes_Mo_minutesOf _ _ _) rfl h_this cf_11 rfl (Nat.le_of_ble_eq_true rfl) rfl ?_
            refine V_goto (tgt := 55) (pc := 51) dX11_minutes_51 rfl ?_
            obtain rfl := Option.some.inj h
            exact E_i (pc := 55) dX11_minutes_55 rfl hp
        · have h := ite_t q h
          refine V_bipush (v := (-2)) (pc := 31) dX11_minutes_31 rfl ?_
          obtain rfl := Option.some.inj h
          exact E_i (pc := 33) dX11_minutes_33 rfl hp
theorem e_Mo_minutes {g : GE} {this : Nat} {v1 : Int32} {v2 : Int32} {v3 : Int32} {v4 : Int32} {m : Mem} (h_this : kd this = 12) {x : Int32} (h : Mo_minutes this v1 v2 v3 v4 m = some x) : Ev g Y_Mo_minutes [vr this, vi v1, vi v2, vi v3, vi v4] m (some (vi x)) m :=
  Ev_of 0 (by decide +kernel) rfl (Nat.le_of_ble_eq_true rfl) rfl (k_Mo_minutes h_this h ⟨rfl, rfl⟩)
theorem k_Mo_pieceOfGroup {g : GE} {this : Nat} {v1 : Int32} {v2 : Int32} {m : Mem} (h_this : kd this = 12) {r : Option AV} {m' : Mem} {x : Int32} (h : Mo_pieceOfGroup this v1 v2 m = some x) (hp : (fun x : Int32 => r = some (vi x) ∧ m' = m) x) : V g Y_Mo_pieceOfGroup 0 [some (vr this), some (vi v1), some (vi v2)] [] m (PM g Y_Mo_pieceOfGroup r m') := by
  unfold Mo_pieceOfGroup at h
  refine V_aload_n (i := 0) (pc := 0) dX11_pieceOfGroup_0 rfl rfl ?_
  refine V_iload_n (i := 1) (pc := 1) dX11_pieceOfGroup_1 rfl rfl ?_
  refine V_aload_n (i := 0) (pc := 2) dX11_pieceOfGroup_2 rfl rfl ?_
  refine V_iload_n (i := 2) (pc := 3) dX11_pieceOfGroup_3 rfl rfl ?_
  refine V_iconst (v := 0) (pc := 4) dX11_pieceOfGroup_4 rfl ?_
  obtain ⟨r5, e5, h⟩ := bnd h
  refine V_invV1 (c := 11) (pc := 5) dX11_pieceOfGroup_5 (e_Mo_ofGroup h_this e5) iv_Mo_300 (rm_Mo_pieceOfGroup_Mo_ofGroup _ _ _) rfl h_this cf_11 rfl (Nat.le_of_ble_eq_true rfl) rfl ?_
  refine V_aload_n (i := 0) (pc := 8) dX11_pieceOfGroup_8 rfl rfl ?_
  refine V_iload_n (i := 2) (pc := 9) dX11_pieceOfGroup_9 rfl rfl ?_
  refine V_iconst (v := 1) (pc := 10) dX11_pieceOfGroup_10 rfl ?_
  obtain ⟨r11, e11, h⟩ := bnd h
  refine V_invV1 (c := 11) (pc := 11) dX11_pieceOfGroup_11 (e_Mo_ofGroup h_this e11) iv_Mo_300 (rm_Mo_pieceOfGroup_Mo_ofGroup _ _ _) rfl h_this cf_11 rfl (Nat.le_of_ble_eq_true rfl) rfl ?_
  obtain ⟨r14, e14, h⟩ := bnd h
  refine V_invV1 (c := 11) (pc := 14) dX11_pieceOfGroup_14 (e_Mo_pieceOf h_this e14) iv_Mo_332 (rm_Mo_pieceOfGroup_Mo_pieceOf _ _ _) rfl h_this cf_11 rfl (Nat.le_of_ble_eq_true rfl) rfl ?_
  obtain rfl := Option.some.inj h
  exact E_i (pc := 17) dX11_pieceOfGroup_17 rfl hp
theorem e_Mo_pieceOfGroup {g : GE} {this : Nat} {v1 : Int32} {v2 : Int32} {m : Mem} (h_this : kd this = 12) {x : Int32} (h : Mo_pieceOfGroup this v1 v2 m = some x) : Ev g Y_Mo_pieceOfGroup [vr this, vi v1, vi v2] m (some (vi x)) m :=
  Ev_of 0 (by decide +kernel) rfl (Nat.le_of_ble_eq_true rfl) rfl (k_Mo_pieceOfGroup h_this h ⟨rfl, rfl⟩)
theorem k_Mo_fetchable_b75 {g : GE} {this : Nat} {v5 : Int32} {v6 : Int32} {k0 : Int32}  {m : Mem} (h_this : kd this = 12) {r : Option AV} {m' : Mem} {x : Int32} (h : Mo_fetchable_b75 this v5 v6 k0 m = some x) (hp : (fun x : Int32 => r = some (vi x) ∧ m' = m) x) : V g Y_Mo_fetchable 75 [some (vr this), none, none, none, none, some (vi v5), some (vi v6), none] [vi k0] m (PM g Y_Mo_fetchable r m') := by
  unfold Mo_fetchable_b75 at h
  refine V_istore (i := 7) (ls' := [some (vr this), none, none, none, none, some (vi v5), some (vi v6), some (vi k0)]) (pc := 75) dX11_fetchable_75 (Nat.le_of_ble_eq_true rfl) rfl ?_
  refine V_iload (i := 7) (pc := 77) dX11_fetchable_77 rfl ?_
  refine V_if_eq (pc := 79) (tgt := 95) dX11_fetchable_79 rfl (fun q => ?_) (fun q => ?_)
  · have h := ite_t q h
    refine V_iconst (v := 0) (pc := 95) dX11_fetchable_95 rfl ?_
    obtain rfl := Option.some.inj h
    exact E_i (pc := 96) dX11_fetchable_96 rfl hp
  · have h := ite_f q h
    refine V_aload_n (i := 0) (pc := 82) dX11_fetchable_82 rfl rfl ?_
    refine V_iload (i := 5) (pc := 83) dX11_fetchable_83 rfl ?_
    refine V_iconst (v := 3) (pc := 85) dX11_fetchable_85 rfl ?_
    refine V_iload (i := 6) (pc := 86) dX11_fetchable_86 rfl ?_
    refine V_iadd (pc := 88) dX11_fetchable_88 ?_
    obtain ⟨r89, e89, h⟩ := bnd h
    refine V_invV1 (c := 11) (pc := 89) dX11_fetchable_89 (e_Mo_ofHeap h_this e89) iv_Mo_88 (rm_Mo_fetchable_Mo_ofHeap _ _ _) rfl h_this cf_11 rfl (Nat.le_of_ble_eq_true rfl) rfl ?_
    refine V_goto (tgt := 96) (pc := 92) dX11_fetchable_92 rfl ?_
    obtain rfl := Option.some.inj h
    exact E_i (pc := 96) dX11_fetchable_96 rfl hp
theorem k_Mo_fetchable_b74 {g : GE} {this : Nat} {v5 : Int32} {v6 : Int32}  {m : Mem} (h_this : kd this = 12) {r : Option AV} {m' : Mem} {x : Int32} (h : Mo_fetchable_b74 this v5 v6 m = some x) (hp : (fun x : Int32 => r = some (vi x) ∧ m' = m) x) : V g Y_Mo_fetchable 74 [some (vr this), none, none, none, none, some (vi v5), some (vi v6), none] [] m (PM g Y_Mo_fetchable r m') := by
  unfold Mo_fetchable_b74 at h
  refine V_iconst (v := 0) (pc := 74) dX11_fetchable_74 rfl ?_
  exact k_Mo_fetchable_b75 h_this h hp
theorem k_Mo_fetchable {g : GE} {this : Nat} {v1 : Int32} {v2 : Int32} {v3 : Int32} {v4 : Int32} {m : Mem} (h_this : kd this = 12) {r : Option AV} {m' : Mem} {x : Int32} (h : Mo_fetchable this v1 v2 v3 v4 m = some x) (hp : (fun x : Int32 => r = some (vi x) ∧ m' = m) x) : V g Y_Mo_fetchable 0 [some (vr this), some (vi v1), some (vi v2), some (vi v3), some (vi v4), none, none, none] [] m (PM g Y_Mo_fetchable r m') := by
  unfold Mo_fetchable at h
  refine V_iload_n (i := 3) (pc := 0) dX11_fetchable_0 rfl rfl ?_
  refine V_bipush (v := 6) (pc := 1) dX11_fetchable_1 rfl ?_
  refine V_idiv (pc := 3) dX11_fetchable_3 (by decide) ?_
  refine V_istore (i := 5) (ls' := [some (vr this), some (vi v1), some (vi v2), some (vi v3), some (vi v4), some (vi (v3 / 6)), none, none]) (pc := 4) dX11_fetchable_4 (Nat.le_of_ble_eq_true rfl) rfl ?_
  refine V_iload_n (i := 3) (pc := 6) dX11_fetchable_6 rfl rfl ?_
  refine V_bipush (v := 6) (pc := 7) dX11_fetchable_7 rfl ?_
  refine V_irem (pc := 9) dX11_fetchable_9 (by decide) ?_
  refine V_istore (i := 6) (ls' := [some (vr this), some (vi v1), some (vi v2), some (vi v3), some (vi v4), some (vi (v3 / 6)), some (vi (v3 - v3 / 6 * 6)), none]) (pc := 10) dX11_fetchable_10 (Nat.le_of_ble_eq_true rfl) rfl ?_
  refine V_aload_n (i := 0) (pc := 12) dX11_fetchable_12 rfl rfl ?_
  refine V_iload (i := 6) (pc := 13) dX11_fetchable_13 rfl ?_
  obtain ⟨r15, e15, h⟩ := bnd h
  refine V_invV1 (c := 11) (pc := 15) dX11_fetchable_15 (e_Mo_isSort h_this e15) iv_Mo_291 (rm_Mo_fetchable_Mo_isSort _ _ _) rfl h_this cf_11 rfl (Nat.le_of_ble_eq_true rfl) rfl ?_
  refine V_if_eq (pc := 18) (tgt := 74) dX11_fetchable_18 rfl (fun q => ?_) (fun q => ?_)
  · have h := ite_t q h
    refine V_sub (ls' := [some (vr this), none, none, none, none, some (vi (v3 / 6)), some (vi (v3 - v3 / 6 * 6)), none]) (And.intro rfl (And.intro rfl (And.intro rfl trivial))) ?_
    exact k_Mo_fetchable_b74 h_this h hp
  · have h := ite_f q h
    refine V_aload_n (i := 0) (pc := 21) dX11_fetchable_21 rfl rfl ?_
    refine V_iload (i := 5) (pc := 22) dX11_fetchable_22 rfl ?_
    obtain ⟨r24, e24, h⟩ := bnd h
    refine V_invV1 (c := 11) (pc := 24) dX11_fetchable_24 (e_Mo_isThere h_this e24) iv_Mo_288 (rm_Mo_fetchable_Mo_isThere _ _ _) rfl h_this cf_11 rfl (Nat.le_of_ble_eq_true rfl) rfl ?_
    refine V_if_eq (pc := 27) (tgt := 74) dX11_fetchable_27 rfl (fun q => ?_) (fun q => ?_)
    · have h := ite_t q h
      refine V_sub (ls' := [some (vr this), none, none, none, none, some (vi (v3 / 6)), some (vi (v3 - v3 / 6 * 6)), none]) (And.intro rfl (And.intro rfl (And.intro rfl trivial))) ?_
      exact k_Mo_fetchable_b74 h_this h hp
    · have h := ite_f q h
      refine V_aload_n (i := 0) (pc := 30) dX11_fetchable_30 rfl rfl ?_
      refine V_iload (i := 6) (pc := 31) dX11_fetchable_31 rfl ?_
      refine V_iconst (v := 0) (pc := 33) dX11_fetchable_33 rfl ?_
      obtain ⟨r34, e34, h⟩ := bnd h
      refine V_invV1 (c := 11) (pc := 34) dX11_fetchable_34 (e_Mo_ofSort h_this e34) iv_Mo_297 (rm_Mo_fetchable_Mo_ofSort _ _ _) rfl h_this cf_11 rfl (Nat.le_of_ble_eq_true rfl) rfl ?_
      refine V_iload (i := 4) (pc := 37) dX11_fetchable_37 rfl ?_
      refine V_icmp_ne (pc := 39) (tgt := 74) dX11_fetchable_39 rfl (fun q => ?_) (fun q => ?_)
      · have h := ite_f q h
        refine V_sub (ls' := [some (vr this), none, none, none, none, some (vi (v3 / 6)), some (vi (v3 - v3 / 6 * 6)), none]) (And.intro rfl (And.intro rfl (And.intro rfl trivial))) ?_
        exact k_Mo_fetchable_b74 h_this h hp
      · have h := ite_t q h
        refine V_aload_n (i := 0) (pc := 42) dX11_fetchable_42 rfl rfl ?_
        refine V_iload_n (i := 1) (pc := 43) dX11_fetchable_43 rfl rfl ?_
        refine V_aload_n (i := 0) (pc := 44) dX11_fetchable_44 rfl rfl ?_
        refine V_iload (i := 5) (pc := 45) dX11_fetchable_45 rfl ?_
        refine V_iconst (v := 1) (pc := 47) dX11_fetchable_47 rfl ?_
        obtain ⟨r48, e48, h⟩ := bnd h
        refine V_invV1 (c := 11) (pc := 48) dX11_fetchable_48 (e_Mo_ofHeap h_this e48) iv_Mo_88 (rm_Mo_fetchable_Mo_ofHeap _ _ _) rfl h_this cf_11 rfl (Nat.le_of_ble_eq_true rfl) rfl ?_
        refine V_aload_n (i := 0) (pc := 51) dX11_fetchable_51 rfl rfl ?_
        refine V_iload (i := 5) (pc := 52) dX11_fetchable_52 rfl ?_
        refine V_iconst (v := 2) (pc := 54) dX11_fetchable_54 rfl ?_
        obtain ⟨r55, e55, h⟩ := bnd h
        refine V_invV1 (c := 11) (pc := 55) dX11_fetchable_55 (e_Mo_ofHeap h_this e55) iv_Mo_88 (rm_Mo_fetchable_Mo_ofHeap _ _ _) rfl h_this cf_11 rfl (Nat.le_of_ble_eq_true rfl) rfl ?_
        obtain ⟨r58, e58, h⟩ := bnd h
        refine V_invV1 (c := 11) (pc := 58) dX11_fetchable_58 (e_Mo_pieceOf h_this e58) iv_Mo_332 (rm_Mo_fetchable_Mo_pieceOf _ _ _) rfl h_this cf_11 rfl (Nat.le_of_ble_eq_true rfl) rfl ?_
        refine V_aload_n (i := 0) (pc := 61) dX11_fetchable_61 rfl rfl ?_
        refine V_iload_n (i := 1) (pc := 62) dX11_fetchable_62 rfl rfl ?_
        refine V_iload_n (i := 2) (pc := 63) dX11_fetchable_63 rfl rfl ?_
        obtain ⟨r64, e64, h⟩ := bnd h
        refine V_invV1 (c := 11) (pc := 64) dX11_fetchable_64 (e_Mo_pieceOfGroup h_this e64) iv_Mo_501 (rm_Mo_fetchable_Mo_pieceOfGroup _ _ _) rfl h_this cf_11 rfl (Nat.le_of_ble_eq_true rfl) rfl ?_
        refine V_icmp_eq (pc := 67) (tgt := 74) dX11_fetchable_67 rfl (fun q => ?_) (fun q => ?_)
        · have h := ite_t q h
          refine V_sub (ls' := [some (vr this), none, none, none, none, some (vi (v3 / 6)), some (vi (v3 - v3 / 6 * 6)), none]) (And.intro rfl (And.intro rfl (And.intro rfl trivial))) ?_
          exact k_Mo_fetchable_b74 h_this h hp
        · have h := ite_f q h
          refine V_iconst (v := 1) (pc := 70) dX11_fetchable_70 rfl ?_
          refine V_goto (tgt := 75) (pc := 71) dX11_fetchable_71 rfl ?_
          refine V_sub (ls' := [some (vr this), none, none, none, none, some (vi (v3 / 6)), some (vi (v3 - v3 / 6 * 6)), none]) (And.intro rfl (And.intro rfl (And.intro rfl trivial))) ?_
          exact k_Mo_fetchable_b75 h_this h hp
theorem e_Mo_fetchable {g : GE} {this : Nat} {v1 : Int32} {v2 : Int32} {v3 : Int32} {v4 : Int32} {m : Mem} (h_this : kd this = 12) {x : Int32} (h : Mo_fetchable this v1 v2 v3 v4 m = some x) : Ev g Y_Mo_fetchable [vr this, vi v1, vi v2, vi v3, vi v4] m (some (vi x)) m :=
  Ev_of 3 (by decide +kernel) rfl (Nat.le_of_ble_eq_true rfl) rfl (k_Mo_fetchable h_this h ⟨rfl, rfl⟩)
theorem k_Mo_needFor {g : GE} {this : Nat} {v1 : Int32} {v2 : Int32} {v3 : Int32} {m : Mem} (h_this : kd this = 12) {r : Option AV} {m' : Mem} {x : Int32} (h : Mo_needFor this v1 v2 v3 m = some x) (hp : (fun x : Int32 => r = some (vi x) ∧ m' = m) x) : V g Y_Mo_needFor 0 [some (vr this), some (vi v1), some (vi v2), some (vi v3), none, none] [] m (PM g Y_Mo_needFor r m') := by
  unfold Mo_needFor at h
  refine V_aload_n (i := 0) (pc := 0) dX11_needFor_0 rfl rfl ?_
  refine V_iload_n (i := 1) (pc := 1) dX11_needFor_1 rfl rfl ?_
  refine V_iload_n (i := 2) (pc := 2) dX11_needFor_2 rfl rfl ?_
  obtain ⟨r3, e3, h⟩ := bnd h
  refine V_invV1 (c := 11) (pc := 3) dX11_needFor_3 (e_Mo_pieceOfGroup h_this e3) iv_Mo_501 (rm_Mo_needFor_Mo_pieceOfGroup _ _ _) rfl h_this cf_11 rfl (Nat.le_of_ble_eq_true rfl) rfl ?_
  refine V_istore (i := 4) (ls' := [some (vr this), some (vi v1), some (vi v2), some (vi v3), some (vi r3), none]) (pc := 6) dX11_needFor_6 (Nat.le_of_ble_eq_true rfl) rfl ?_
  refine V_aload_n (i := 0) (pc := 8) dX11_needFor_8 rfl rfl ?_
  refine V_iload_n (i := 1) (pc := 9) dX11_needFor_9 rfl rfl ?_
  refine V_iload (i := 4) (pc := 10) dX11_needFor_10 rfl ?_
  obtain ⟨r12, e12, h⟩ := bnd h
  refine V_invV1 (c := 11) (pc := 12) dX11_needFor_12 (e_Mo_peopleOn h_this e12) iv_Mo_359 (rm_Mo_needFor_Mo_peopleOn _ _ _) rfl h_this cf_11 rfl (Nat.le_of_ble_eq_true rfl) rfl ?_
  refine V_istore (i := 5) (ls' := [some (vr this), some (vi v1), some (vi v2), some (vi v3), some (vi r3), some (vi r12)]) (pc := 15) dX11_needFor_15 (Nat.le_of_ble_eq_true rfl) rfl ?_
  refine V_iconst (v := 0) (pc := 17) dX11_needFor_17 rfl ?_
  refine V_iload (i := 5) (pc := 18) dX11_needFor_18 rfl ?_
  refine V_aload_n (i := 0) (pc := 20) dX11_needFor_20 rfl rfl ?_
  refine V_getR (b := (this + 1)) (pc := 21) dX11_needFor_21 fl_Mo_13 h_this rfl rfl ?_
  refine V_iconst (v := 4) (pc := 24) dX11_needFor_24 rfl ?_
  obtain ⟨hg25, h⟩ := gd_e h
  refine V_iald (pc := 25) dX11_needFor_25 (kf_11_1 h_this) (af_11_1 h_this) hg25 ?_
  refine V_iload_n (i := 3) (pc := 26) dX11_needFor_26 rfl rfl ?_
  obtain ⟨r27, e27, h⟩ := bnd h
  refine V_invS1 (pc := 27) dX11_needFor_27 (e_Mo_needOf  e27) is_Mo_362 (rm_Mo_needFor_Mo_needOf _ _ _) rfl (Nat.le_of_ble_eq_true rfl) rfl ?_
  refine V_aload_n (i := 0) (pc := 30) dX11_needFor_30 rfl rfl ?_
  refine V_iload_n (i := 1) (pc := 31) dX11_needFor_31 rfl rfl ?_
  refine V_iload (i := 4) (pc := 32) dX11_needFor_32 rfl ?_
  refine V_iload_n (i := 3) (pc := 34) dX11_needFor_34 rfl rfl ?_
  obtain ⟨r35, e35, h⟩ := bnd h
  refine V_invV1 (c := 11) (pc := 35) dX11_needFor_35 (e_Mo_givenOn h_this e35) iv_Mo_365 (rm_Mo_needFor_Mo_givenOn _ _ _) rfl h_this cf_11 rfl (Nat.le_of_ble_eq_true rfl) rfl ?_
  refine V_isub (pc := 38) dX11_needFor_38 ?_
  refine V_mmax (pc := 39) dX11_needFor_39 ma_Mo_368 (rmM_Mo_needFor _ _ _) (Nat.le_of_ble_eq_true rfl) ?_
  obtain rfl := Option.some.inj h
  exact E_i (pc := 42) dX11_needFor_42 rfl hp
theorem e_Mo_needFor {g : GE} {this : Nat} {v1 : Int32} {v2 : Int32} {v3 : Int32} {m : Mem} (h_this : kd this = 12) {x : Int32} (h : Mo_needFor this v1 v2 v3 m = some x) : Ev g Y_Mo_needFor [vr this, vi v1, vi v2, vi v3] m (some (vi x)) m :=
  Ev_of 2 (by decide +kernel) rfl (Nat.le_of_ble_eq_true rfl) rfl (k_Mo_needFor h_this h ⟨rfl, rfl⟩)
theorem k_Mo_fetches_l111 {g : GE} {this : Nat} {v1 : Int32} {v2 : Int32} {v3 : Int32} {v4 : Int32} {v5 : Int32} {v6 : Int32} {v7 : Int32} {v8 : Int32} {v9 : Int32} {m : Mem} (h_this : kd this = 12) {r : Option AV} {m' : Mem} {x : (Int32 × Int32) ⊕ ((Int32 × Mem) ⊕ ((Int32 × Mem) ⊕ (Int32 × Mem)))} (h : Mo_fetches_l111 this v1 v2 v3 v4 v5 v6 v7 v8 v9 m = some x) (hp : (Sum.elim (fun s : Int32 × Int32 => V g Y_Mo_fetches 111 [some (vr this), some (vi v1), some (vi v2), some (vi v3), some (vi v4), some (vi v5), some (vi v6), some (vi v7), some (vi s.1), some (vi s.2)] [] m (PM g Y_Mo_fetches r m')) (Sum.elim (fun s : Int32 × Mem => V g Y_Mo_fetches 83 [some (vr this), some (vi v1), some (vi v2), some (vi v3), some (vi v4), some (vi v5), some (vi v6), some (vi s.1), none, none] [] s.2 (PM g Y_Mo_fetches r m')) (Sum.elim (fun s : Int32 × Mem => V g Y_Mo_fetches 64 [some (vr this), some (vi v1), some (vi v2), some (vi v3), some (vi v4), some (vi s.1), none, none, none, none] [] s.2 (PM g Y_Mo_fetches r m')) (fun x : Int32 × Mem => r = some (vi x.1) ∧ m' = x.2)))) x) : V g Y_Mo_fetches 111 [some (vr this), some (vi v1), some (vi v2), some (vi v3), some (vi v4), some (vi v5), some (vi v6), some (vi v7), some (vi v8), some (vi v9)] [] m (PM g Y_Mo_fetches r m') := by
  unfold Mo_fetches_l111 at h
  refine V_iload (i := 9) (pc := 111) dX11_fetches_111 rfl ?_
  refine V_iload (i := 6) (pc := 113) dX11_fetches_113 rfl ?_
  refine V_icmp_gt (pc := 115) (tgt := 185) dX11_fetches_115 rfl (fun q => ?_) (fun q => ?_)
  · have h := ite_t q h
    obtain ⟨y4, hu4, rfl⟩ := up_e h
    have h := hu4
    refine V_aload_n (i := 0) (pc := 185) dX11_fetches_185 rfl rfl ?_
    refine V_getR (b := (this + 13)) (pc := 186) dX11_fetches_186 fl_Mo_57 h_this rfl rfl ?_
    refine V_sipush (v := 1681) (pc := 189) dX11_fetches_189 rfl ?_
    refine V_iload (i := 5) (pc := 192) dX11_fetches_192 rfl ?_
    refine V_imul (pc := 194) dX11_fetches_194 ?_
    refine V_iload (i := 7) (pc := 195) dX11_fetches_195 rfl ?_
    refine V_iadd (pc := 197) dX11_fetches_197 ?_
    refine V_ldcw (v := 1000000000) (pc := 198) dX11_fetches_198 con_Mo_472 ?_
    refine V_iload (i := 8) (pc := 201) dX11_fetches_201 rfl ?_
    refine V_mmin (pc := 203) dX11_fetches_203 ma_Mo_123 (rmM_Mo_fetches _ _ _) (Nat.le_of_ble_eq_true rfl) ?_
    obtain ⟨hg206, h⟩ := gd_e h
    refine V_iast_lt (pc := 206) dX11_fetches_206 (kf_11_21 h_this) (af_11_21 h_this) hg206 h (fun m206 h => ?_)
    refine V_iinc (i := 7) (v := (v7 + 1)) (ls' := [some (vr this), some (vi v1), some (vi v2), some (vi v3), some (vi v4), some (vi v5), some (vi v6), some (vi (v7 + 1)), some (vi v8), some (vi v9)]) (pc := 207) dX11_fetches_207 rfl rfl (Nat.le_of_ble_eq_true rfl) rfl ?_
    refine V_goto (tgt := 83) (pc := 210) dX11_fetches_210 rfl ?_
    refine V_sub (ls' := [some (vr this), some (vi v1), some (vi v2), some (vi v3), some (vi v4), some (vi v5), some (vi v6), some (vi (v7 + 1)), none, none]) (And.intro rfl (And.intro rfl (And.intro rfl (And.intro rfl (And.intro rfl (And.intro rfl (And.intro rfl (And.intro rfl trivial)))))))) ?_
    obtain rfl := Option.some.inj h
    exact hp
  · have h := ite_f q h
    refine V_iload (i := 8) (pc := 118) dX11_fetches_118 rfl ?_
    refine V_iload (i := 9) (pc := 120) dX11_fetches_120 rfl ?_
    refine V_aload_n (i := 0) (pc := 122) dX11_fetches_122 rfl rfl ?_
    refine V_iload_n (i := 1) (pc := 123) dX11_fetches_123 rfl rfl ?_
    refine V_iload (i := 5) (pc := 124) dX11_fetches_124 rfl ?_
    refine V_bipush (v := 6) (pc := 126) dX11_fetches_126 rfl ?_
    refine V_idiv (pc := 128) dX11_fetches_128 (by decide) ?_
    refine V_iload (i := 5) (pc := 129) dX11_fetches_129 rfl ?_
    refine V_bipush (v := 6) (pc := 131) dX11_fetches_131 rfl ?_
    refine V_irem (pc := 133) dX11_fetches_133 (by decide) ?_
    refine V_iload_n (i := 2) (pc := 134) dX11_fetches_134 rfl rfl ?_
    obtain ⟨r135, e135, h⟩ := bnd h
    refine V_invV1 (c := 11) (pc := 135) dX11_fetches_135 (e_Mo_minutesOf h_this e135) iv_Mo_497 (rm_Mo_fetches_Mo_minutesOf _ _ _) rfl h_this cf_11 rfl (Nat.le_of_ble_eq_true rfl) rfl ?_
    refine V_imul (pc := 138) dX11_fetches_138 ?_
    refine V_aload_n (i := 0) (pc := 139) dX11_fetches_139 rfl rfl ?_
    refine V_getR (b := (this + 13)) (pc := 140) dX11_fetches_140 fl_Mo_57 h_this rfl rfl ?_
    refine V_sipush (v := 1681) (pc := 143) dX11_fetches_143 rfl ?_
    refine V_iload (i := 5) (pc := 146) dX11_fetches_146 rfl ?_
    refine V_iconst (v := 1) (pc := 148) dX11_fetches_148 rfl ?_
    refine V_iadd (pc := 149) dX11_fetches_149 ?_
    refine V_imul (pc := 150) dX11_fetches_150 ?_
    refine V_iconst (v := 0) (pc := 151) dX11_fetches_151 rfl ?_
    refine V_iload (i := 7) (pc := 152) dX11_fetches_152 rfl ?_
    refine V_iload (i := 9) (pc := 154) dX11_fetches_154 rfl ?_
    refine V_aload_n (i := 0) (pc := 156) dX11_fetches_156 rfl rfl ?_
    refine V_iload (i := 5) (pc := 157) dX11_fetches_157 rfl ?_
    refine V_bipush (v := 6) (pc := 159) dX11_fetches_159 rfl ?_
    refine V_irem (pc := 161) dX11_fetches_161 (by decide) ?_
    refine V_iconst (v := 1) (pc := 162) dX11_fetches_162 rfl ?_
    obtain ⟨r163, e163, h⟩ := bnd h
    refine V_invV1 (c := 11) (pc := 163) dX11_fetches_163 (e_Mo_ofSort h_this e163) iv_Mo_297 (rm_Mo_fetches_Mo_ofSort _ _ _) rfl h_this cf_11 rfl (Nat.le_of_ble_eq_true rfl) rfl ?_
    refine V_imul (pc := 166) dX11_fetches_166 ?_
    refine V_isub (pc := 167) dX11_fetches_167 ?_
    refine V_mmax (pc := 168) dX11_fetches_168 ma_Mo_368 (rmM_Mo_fetches _ _ _) (Nat.le_of_ble_eq_true rfl) ?_
    refine V_iadd (pc := 171) dX11_fetches_171 ?_
    obtain ⟨hg172, h⟩ := gd_e h
    refine V_iald (pc := 172) dX11_fetches_172 (kf_11_21 h_this) (af_11_21 h_this) hg172 ?_
    refine V_iadd (pc := 173) dX11_fetches_173 ?_
    refine V_mmin (pc := 174) dX11_fetches_174 ma_Mo_123 (rmM_Mo_fetches _ _ _) (Nat.le_of_ble_eq_true rfl) ?_
    refine V_istore (i := 8) (ls' := [some (vr this), some (vi v1), some (vi v2), some (vi v3), some (vi v4), some (vi v5), some (vi v6), some (vi v7), some (vi (jmin v8 ((v9 * r135) + (rI m (this + 13) (ix ((1681 * (v5 + 1)) + (jmax 0 (v7 - (v9 * r163))))))))), some (vi v9)]) (pc := 177) dX11_fetches_177 (Nat.le_of_ble_eq_true rfl) rfl ?_
    refine V_iinc (i := 9) (v := (v9 + 1)) (ls' := [some (vr this), some (vi v1), some (vi v2), some (vi v3), some (vi v4), some (vi v5), some (vi v6), some (vi v7), some (vi (jmin v8 ((v9 * r135) + (rI m (this + 13) (ix ((1681 * (v5 + 1)) + (jmax 0 (v7 - (v9 * r163))))))))), some (vi (v9 + 1))]) (pc := 179) dX11_fetches_179 rfl rfl (Nat.le_of_ble_eq_true rfl) rfl ?_
    refine V_goto (tgt := 111) (pc := 182) dX11_fetches_182 rfl ?_
    obtain rfl := Option.some.inj h
    exact hp
theorem k_Mo_fetches_l83 {g : GE} {this : Nat} {v1 : Int32} {v2 : Int32} {v3 : Int32} {v4 : Int32} {v5 : Int32} {v6 : Int32} {v7 : Int32} {m : Mem} (h_this : kd this = 12) {r : Option AV} {m' : Mem} {x : (Int32 × Mem) ⊕ ((Int32 × Mem) ⊕ (Int32 × Mem))} (h : Mo_fetches_l83 this v1 v2 v3 v4 v5 v6 v7 m = some x) (hp : (Sum.elim (fun s : Int32 × Mem => V g Y_Mo_fetches 83 [some (vr this), some (vi v1), some (vi v2), some (vi v3), some (vi v4), some (vi v5), some (vi v6), some (vi s.1), none, none] [] s.2 (PM g Y_Mo_fetches r m')) (Sum.elim (fun s : Int32 × Mem => V g Y_Mo_fetches 64 [some (vr this), some (vi v1), some (vi v2), some (vi v3), some (vi v4), some (vi s.1), none, none, none, none] [] s.2 (PM g Y_Mo_fetches r m')) (fun x : Int32 × Mem => r = some (vi x.1) ∧ m' = x.2))) x) : V g Y_Mo_fetches 83 [some (vr this), some (vi v1), some (vi v2), some (vi v3), some (vi v4), some (vi v5), some (vi v6), some (vi v7), none, none] [] m (PM g Y_Mo_fetches r m') := by
  unfold Mo_fetches_l83 at h
  refine V_iload (i := 7) (pc := 83) dX11_fetches_83 rfl ?_
  refine V_iload (i := 4) (pc := 85) dX11_fetches_85 rfl ?_
  refine V_icmp_gt (pc := 87) (tgt := 213) dX11_fetches_87 rfl (fun q => ?_) (fun q => ?_)
  · have h := ite_t q h
    obtain ⟨y3, hu3, rfl⟩ := up_e h
    have h := hu3
    refine V_iinc (i := 5) (v := (v5 + (-1))) (ls' := [some (vr this), some (vi v1), some (vi v2), some (vi v3), some (vi v4), some (vi (v5 + (-1))), some (vi v6), some (vi v7), none, none]) (pc := 213) dX11_fetches_213 rfl rfl (Nat.le_of_ble_eq_true rfl) rfl ?_
    refine V_goto (tgt := 64) (pc := 216) dX11_fetches_216 rfl ?_
    refine V_sub (ls' := [some (vr this), some (vi v1), some (vi v2), some (vi v3), some (vi v4), some (vi (v5 + (-1))), none, none, none, none]) (And.intro rfl (And.intro rfl (And.intro rfl (And.intro rfl (And.intro rfl (And.intro rfl trivial)))))) ?_
    obtain rfl := Option.some.inj h
    exact hp
  · have h := ite_f q h
    refine V_aload_n (i := 0) (pc := 90) dX11_fetches_90 rfl rfl ?_
    refine V_getR (b := (this + 13)) (pc := 91) dX11_fetches_91 fl_Mo_57 h_this rfl rfl ?_
    refine V_sipush (v := 1681) (pc := 94) dX11_fetches_94 rfl ?_
    refine V_iload (i := 5) (pc := 97) dX11_fetches_97 rfl ?_
    refine V_iconst (v := 1) (pc := 99) dX11_fetches_99 rfl ?_
    refine V_iadd (pc := 100) dX11_fetches_100 ?_
    refine V_imul (pc := 101) dX11_fetches_101 ?_
    refine V_iload (i := 7) (pc := 102) dX11_fetches_102 rfl ?_
    refine V_iadd (pc := 104) dX11_fetches_104 ?_
    obtain ⟨hg105, h⟩ := gd_e h
    refine V_iald (pc := 105) dX11_fetches_105 (kf_11_21 h_this) (af_11_21 h_this) hg105 ?_
    refine V_istore (i := 8) (ls' := [some (vr this), some (vi v1), some (vi v2), some (vi v3), some (vi v4), some (vi v5), some (vi v6), some (vi v7), some (vi (rI m (this + 13) (ix ((1681 * (v5 + 1)) + v7)))), none]) (pc := 106) dX11_fetches_106 (Nat.le_of_ble_eq_true rfl) rfl ?_
    refine V_iconst (v := 1) (pc := 108) dX11_fetches_108 rfl ?_
    refine V_istore (i := 9) (ls' := [some (vr this), some (vi v1), some (vi v2), some (vi v3), some (vi v4), some (vi v5), some (vi v6), some (vi v7), some (vi (rI m (this + 13) (ix ((1681 * (v5 + 1)) + v7)))), some (vi 1)]) (pc := 109) dX11_fetches_109 (Nat.le_of_ble_eq_true rfl) rfl ?_
    exact loop_V (A := fun s : Int32 × Int32 => V g Y_Mo_fetches 111 [some (vr this), some (vi v1), some (vi v2), some (vi v3), some (vi v4), some (vi v5), some (vi v6), some (vi v7), some (vi s.1), some (vi s.2)] [] m (PM g Y_Mo_fetches r m')) (fun s x h hp => k_Mo_fetches_l111 h_this h hp) ((rI m (this + 13) (ix ((1681 * (v5 + 1)) + v7))), 1) _ h hp
theorem k_Mo_fetches_l64 {g : GE} {this : Nat} {v1 : Int32} {v2 : Int32} {v3 : Int32} {v4 : Int32} {v5 : Int32} {m : Mem} (h_this : kd this = 12) {r : Option AV} {m' : Mem} {x : (Int32 × Mem) ⊕ (Int32 × Mem)} (h : Mo_fetches_l64 this v1 v2 v3 v4 v5 m = some x) (hp : (Sum.elim (fun s : Int32 × Mem => V g Y_Mo_fetches 64 [some (vr this), some (vi v1), some (vi v2), some (vi v3), some (vi v4), some (vi s.1), none, none, none, none] [] s.2 (PM g Y_Mo_fetches r m')) (fun x : Int32 × Mem => r = some (vi x.1) ∧ m' = x.2)) x) : V g Y_Mo_fetches 64 [some (vr this), some (vi v1), some (vi v2), some (vi v3), some (vi v4), some (vi v5), none, none, none, none] [] m (PM g Y_Mo_fetches r m') := by
  unfold Mo_fetches_l64 at h
  refine V_iload (i := 5) (pc := 64) dX11_fetches_64 rfl ?_
  refine V_if_lt (pc := 66) (tgt := 219) dX11_fetches_66 rfl (fun q => ?_) (fun q => ?_)
  · have h := ite_t q h
    obtain ⟨y2, hu2, rfl⟩ := up_e h
    have h := hu2
    refine V_aload_n (i := 0) (pc := 219) dX11_fetches_219 rfl rfl ?_
    refine V_getR (b := (this + 13)) (pc := 220) dX11_fetches_220 fl_Mo_57 h_this rfl rfl ?_
    refine V_iload (i := 4) (pc := 223) dX11_fetches_223 rfl ?_
    obtain ⟨hg225, h⟩ := gd_e h
    refine V_iald (pc := 225) dX11_fetches_225 (kf_11_21 h_this) (af_11_21 h_this) hg225 ?_
    refine V_ldcw (v := 1000000000) (pc := 226) dX11_fetches_226 con_Mo_472 ?_
    refine V_icmp_lt (pc := 229) (tgt := 236) dX11_fetches_229 rfl (fun q => ?_) (fun q => ?_)
    · have h := ite_t q h
      refine V_aload_n (i := 0) (pc := 236) dX11_fetches_236 rfl rfl ?_
      refine V_getR (b := (this + 13)) (pc := 237) dX11_fetches_237 fl_Mo_57 h_this rfl rfl ?_
      refine V_iload (i := 4) (pc := 240) dX11_fetches_240 rfl ?_
      obtain ⟨hg242, h⟩ := gd_e h
      refine V_iald (pc := 242) dX11_fetches_242 (kf_11_21 h_this) (af_11_21 h_this) hg242 ?_
      obtain rfl := Option.some.inj h
      exact E_i (pc := 243) dX11_fetches_243 rfl hp
    · have h := ite_f q h
      refine V_iconst (v := (-1)) (pc := 232) dX11_fetches_232 rfl ?_
      refine V_goto (tgt := 243) (pc := 233) dX11_fetches_233 rfl ?_
      obtain rfl := Option.some.inj h
      exact E_i (pc := 243) dX11_fetches_243 rfl hp
  · have h := ite_f q h
    refine V_aload_n (i := 0) (pc := 69) dX11_fetches_69 rfl rfl ?_
    refine V_iload_n (i := 1) (pc := 70) dX11_fetches_70 rfl rfl ?_
    refine V_iload_n (i := 2) (pc := 71) dX11_fetches_71 rfl rfl ?_
    refine V_iload (i := 5) (pc := 72) dX11_fetches_72 rfl ?_
    refine V_iload_n (i := 3) (pc := 74) dX11_fetches_74 rfl rfl ?_
    obtain ⟨r75, e75, h⟩ := bnd h
    refine V_invV1 (c := 11) (pc := 75) dX11_fetches_75 (e_Mo_fetchable h_this e75) iv_Mo_508 (rm_Mo_fetches_Mo_fetchable _ _ _) rfl h_this cf_11 rfl (Nat.le_of_ble_eq_true rfl) rfl ?_
    refine V_istore (i := 6) (ls' := [some (vr this), some (vi v1), some (vi v2), some (vi v3), some (vi v4), some (vi v5), some (vi r75), none, none, none]) (pc := 78) dX11_fetches_78 (Nat.le_of_ble_eq_true rfl) rfl ?_
    refine V_iconst (v := 0) (pc := 80) dX11_fetches_80 rfl ?_
    refine V_istore (i := 7) (ls' := [some (vr this), some (vi v1), some (vi v2), some (vi v3), some (vi v4), some (vi v5), some (vi r75), some (vi 0), none, none]) (pc := 81) dX11_fetches_81 (Nat.le_of_ble_eq_true rfl) rfl ?_
    exact loop_V (A := fun s : Int32 × Mem => V g Y_Mo_fetches 83 [some (vr this), some (vi v1), some (vi v2), some (vi v3), some (vi v4), some (vi v5), some (vi r75), some (vi s.1), none, none] [] s.2 (PM g Y_Mo_fetches r m')) (fun s x h hp => k_Mo_fetches_l83 h_this h hp) (0, m) _ h hp
theorem k_Mo_fetches_b53 {g : GE} {this : Nat} {v1 : Int32} {v2 : Int32} {v3 : Int32} {v4 : Int32} {v5 : Int32} {k1 : Int32} {k2 : Int32}  {m : Mem} (h_this : kd this = 12) {r : Option AV} {m' : Mem} {x : (Int32 × Mem) ⊕ (Int32 × Mem)} (h : Mo_fetches_b53 this v1 v2 v3 v4 v5 k1 k2 m = some x) (hp : (Sum.elim (fun s : Int32 × Mem => V g Y_Mo_fetches 24 [some (vr this), some (vi v1), some (vi v2), some (vi v3), some (vi v4), some (vi s.1), none, none, none, none] [] s.2 (PM g Y_Mo_fetches r m')) (fun x : Int32 × Mem => r = some (vi x.1) ∧ m' = x.2)) x) : V g Y_Mo_fetches 53 [some (vr this), some (vi v1), some (vi v2), some (vi v3), some (vi v4), some (vi v5), none, none, none, none] [vi k2, vi k1, vr (this + 13)] m (PM g Y_Mo_fetches r m') := by
  unfold Mo_fetches_b53 at h
  obtain ⟨hg53, h⟩ := gd_e h
  refine V_iast_lt (pc := 53) dX11_fetches_53 (kf_11_21 h_this) (af_11_21 h_this) hg53 h (fun m53 h => ?_)
  refine V_iinc (i := 5) (v := (v5 + 1)) (ls' := [some (vr this), some (vi v1), some (vi v2), some (vi v3), some (vi v4), some (vi (v5 + 1)), none, none, none, none]) (pc := 54) dX11_fetches_54 rfl rfl (Nat.le_of_ble_eq_true rfl) rfl ?_
  refine V_goto (tgt := 24) (pc := 57) dX11_fetches_57 rfl ?_
  obtain rfl := Option.some.inj h
  exact hp
theorem k_Mo_fetches_l24 {g : GE} {this : Nat} {v1 : Int32} {v2 : Int32} {v3 : Int32} {v4 : Int32} {v5 : Int32} {m : Mem} (h_this : kd this = 12) {r : Option AV} {m' : Mem} {x : (Int32 × Mem) ⊕ (Int32 × Mem)} (h : Mo_fetches_l24 this v1 v2 v3 v4 v5 m = some x) (hp : (Sum.elim (fun s : Int32 × Mem => V g Y_Mo_fetches 24 [some (vr this), some (vi v1), some (vi v2), some (vi v3), some (vi v4), some (vi s.1), none, none, none, none] [] s.2 (PM g Y_Mo_fetches r m')) (fun x : Int32 × Mem => r = some (vi x.1) ∧ m' = x.2)) x) : V g Y_Mo_fetches 24 [some (vr this), some (vi v1), some (vi v2), some (vi v3), some (vi v4), some (vi v5), none, none, none, none] [] m (PM g Y_Mo_fetches r m') := by
  unfold Mo_fetches_l24 at h
  refine V_iload (i := 5) (pc := 24) dX11_fetches_24 rfl ?_
  refine V_iload (i := 4) (pc := 26) dX11_fetches_26 rfl ?_
  refine V_icmp_gt (pc := 28) (tgt := 60) dX11_fetches_28 rfl (fun q => ?_) (fun q => ?_)
  · have h := ite_t q h
    obtain ⟨y1, hu1, rfl⟩ := up_e h
    have h := hu1
    refine V_bipush (v := 47) (pc := 60) dX11_fetches_60 rfl ?_
    refine V_istore (i := 5) (ls' := [some (vr this), some (vi v1), some (vi v2), some (vi v3), some (vi v4), some (vi 47), none, none, none, none]) (pc := 62) dX11_fetches_62 (Nat.le_of_ble_eq_true rfl) rfl ?_
    exact loop_V (A := fun s : Int32 × Mem => V g Y_Mo_fetches 64 [some (vr this), some (vi v1), some (vi v2), some (vi v3), some (vi v4), some (vi s.1), none, none, none, none] [] s.2 (PM g Y_Mo_fetches r m')) (fun s x h hp => k_Mo_fetches_l64 h_this h hp) (47, m) _ h hp
  · have h := ite_f q h
    refine V_aload_n (i := 0) (pc := 31) dX11_fetches_31 rfl rfl ?_
    refine V_getR (b := (this + 13)) (pc := 32) dX11_fetches_32 fl_Mo_57 h_this rfl rfl ?_
    refine V_ldcw (v := 80688) (pc := 35) dX11_fetches_35 con_Mo_507 ?_
    refine V_iload (i := 5) (pc := 38) dX11_fetches_38 rfl ?_
    refine V_iadd (pc := 40) dX11_fetches_40 ?_
    refine V_iload (i := 5) (pc := 41) dX11_fetches_41 rfl ?_
    refine V_if_ne (pc := 43) (tgt := 50) dX11_fetches_43 rfl (fun q => ?_) (fun q => ?_)
    · have h := ite_f q h
      refine V_ldcw (v := 1000000000) (pc := 50) dX11_fetches_50 con_Mo_472 ?_
      exact k_Mo_fetches_b53 h_this h hp
    · have h := ite_t q h
      refine V_iconst (v := 0) (pc := 46) dX11_fetches_46 rfl ?_
      refine V_goto (tgt := 53) (pc := 47) dX11_fetches_47 rfl ?_
      exact k_Mo_fetches_b53 h_this h hp
theorem k_Mo_fetches_b19 {g : GE} {this : Nat} {v1 : Int32} {v2 : Int32} {v3 : Int32} {k0 : Int32}  {m : Mem} (h_this : kd this = 12) {r : Option AV} {m' : Mem} {x : Int32 × Mem} (h : Mo_fetches_b19 this v1 v2 v3 k0 m = some x) (hp : (fun x : Int32 × Mem => r = some (vi x.1) ∧ m' = x.2) x) : V g Y_Mo_fetches 19 [some (vr this), some (vi v1), some (vi v2), some (vi v3), none, none, none, none, none, none] [vi k0] m (PM g Y_Mo_fetches r m') := by
  unfold Mo_fetches_b19 at h
  refine V_istore (i := 4) (ls' := [some (vr this), some (vi v1), some (vi v2), some (vi v3), some (vi k0), none, none, none, none, none]) (pc := 19) dX11_fetches_19 (Nat.le_of_ble_eq_true rfl) rfl ?_
  refine V_iconst (v := 0) (pc := 21) dX11_fetches_21 rfl ?_
  refine V_istore (i := 5) (ls' := [some (vr this), some (vi v1), some (vi v2), some (vi v3), some (vi k0), some (vi 0), none, none, none, none]) (pc := 22) dX11_fetches_22 (Nat.le_of_ble_eq_true rfl) rfl ?_
  exact loop_V (A := fun s : Int32 × Mem => V g Y_Mo_fetches 24 [some (vr this), some (vi v1), some (vi v2), some (vi v3), some (vi k0), some (vi s.1), none, none, none, none] [] s.2 (PM g Y_Mo_fetches r m')) (fun s x h hp => k_Mo_fetches_l24 h_this h hp) (0, m) _ h hp
theorem k_Mo_fetches {g : GE} {this : Nat} {v1 : Int32} {v2 : Int32} {v3 : Int32} {m : Mem} (h_this : kd this = 12) {r : Option AV} {m' : Mem} {x : Int32 × Mem} (h : Mo_fetches this v1 v2 v3 m = some x) (hp : (fun x : Int32 × Mem => r = some (vi x.1) ∧ m' = x.2) x) : V g Y_Mo_fetches 0 [some (vr this), some (vi v1), some (vi v2), some (vi v3), none, none, none, none, none, none] [] m (PM g Y_Mo_fetches r m') := by
  unfold Mo_fetches at h
  refine V_aload_n (i := 0) (pc := 0) dX11_fetches_0 rfl rfl ?_
  refine V_iload_n (i := 3) (pc := 1) dX11_fetches_1 rfl rfl ?_
  obtain ⟨r2, e2, h⟩ := bnd h
  refine V_invV1 (c := 11) (pc := 2) dX11_fetches_2 (e_Mo_isTold h_this e2) iv_Mo_371 (rm_Mo_fetches_Mo_isTold _ _ _) rfl h_this cf_11 rfl (Nat.le_of_ble_eq_true rfl) rfl ?_
  refine V_if_eq (pc := 5) (tgt := 18) dX11_fetches_5 rfl (fun q => ?_) (fun q => ?_)
  · have h := ite_t q h
    refine V_iconst (v := 0) (pc := 18) dX11_fetches_18 rfl ?_
    exact k_Mo_fetches_b19 h_this h hp
  · have h := ite_f q h
    refine V_aload_n (i := 0) (pc := 8) dX11_fetches_8 rfl rfl ?_
    refine V_iload_n (i := 1) (pc := 9) dX11_fetches_9 rfl rfl ?_
    refine V_iload_n (i := 2) (pc := 10) dX11_fetches_10 rfl rfl ?_
    refine V_iload_n (i := 3) (pc := 11) dX11_fetches_11 rfl rfl ?_
    obtain ⟨r12, e12, h⟩ := bnd h
    refine V_invV1 (c := 11) (pc := 12) dX11_fetches_12 (e_Mo_needFor h_this e12) iv_Mo_504 (rm_Mo_fetches_Mo_needFor _ _ _) rfl h_this cf_11 rfl (Nat.le_of_ble_eq_true rfl) rfl ?_
    refine V_goto (tgt := 19) (pc := 15) dX11_fetches_15 rfl ?_
    exact k_Mo_fetches_b19 h_this h hp
theorem e_Mo_fetches {g : GE} {this : Nat} {v1 : Int32} {v2 : Int32} {v3 : Int32} {m : Mem} (h_this : kd this = 12) {x : Int32 × Mem} (h : Mo_fetches this v1 v2 v3 m = some x) : Ev g Y_Mo_fetches [vr this, vi v1, vi v2, vi v3] m (some (vi x.1)) x.2 :=
  Ev_of 6 (by decide +kernel) rfl (Nat.le_of_ble_eq_true rfl) rfl (k_Mo_fetches h_this h ⟨rfl, rfl⟩)
theorem k_Mo_fetch_l23 {g : GE} {this : Nat} {v1 : Int32} {v2 : Int32} {v3 : Int32} {v4 : Int32} {m : Mem} (h_this : kd this = 12) {r : Option AV} {m' : Mem} {x : (Int32 × Int32 × Mem) ⊕ (Int32 × Mem)} (h : Mo_fetch_l23 this v1 v2 v3 v4 m = some x) (hp : (Sum.elim (fun s : Int32 × Int32 × Mem => V g Y_Mo_fetch 23 [some (vr this), some (vi v1), some (vi v2), some (vi s.1), some (vi s.2.1), none] [] s.2.2 (PM g Y_Mo_fetch r m')) (fun x : Int32 × Mem => r = some (vi x.1) ∧ m' = x.2)) x) : V g Y_Mo_fetch 23 [some (vr this), some (vi v1), some (vi v2), some (vi v3), some (vi v4), none] [] m (PM g Y_Mo_fetch r m') := by
  unfold Mo_fetch_l23 at h
  refine V_iload (i := 4) (pc := 23) dX11_fetch_23 rfl ?_
  refine V_iconst (v := 4) (pc := 25) dX11_fetch_25 rfl ?_
  refine V_icmp_ge (pc := 26) (tgt := 58) dX11_fetch_26 rfl (fun q => ?_) (fun q => ?_)
  · have h := ite_t q h
    obtain ⟨y1, hu1, rfl⟩ := up_e h
    have h := hu1
    refine V_iload_n (i := 3) (pc := 58) dX11_fetch_58 rfl rfl ?_
    obtain rfl := Option.some.inj h
    exact E_i (pc := 59) dX11_fetch_59 rfl hp
  · have h := ite_f q h
    refine V_aload_n (i := 0) (pc := 29) dX11_fetch_29 rfl rfl ?_
    refine V_iload_n (i := 1) (pc := 30) dX11_fetch_30 rfl rfl ?_
    refine V_iload_n (i := 2) (pc := 31) dX11_fetch_31 rfl rfl ?_
    refine V_iload (i := 4) (pc := 32) dX11_fetch_32 rfl ?_
    obtain ⟨r34, e34, h⟩ := bnd h
    refine V_invV1 (c := 11) (pc := 34) dX11_fetch_34 (e_Mo_fetches h_this e34) iv_Mo_511 (rm_Mo_fetch_Mo_fetches _ _ _) rfl h_this cf_11 rfl (Nat.le_of_ble_eq_true rfl) rfl ?_
    refine V_istore (i := 5) (ls' := [some (vr this), some (vi v1), some (vi v2), some (vi v3), some (vi v4), some (vi r34.1)]) (pc := 37) dX11_fetch_37 (Nat.le_of_ble_eq_true rfl) rfl ?_
    refine V_iload (i := 5) (pc := 39) dX11_fetch_39 rfl ?_
    refine V_iconst (v := (-1)) (pc := 41) dX11_fetch_41 rfl ?_
    refine V_icmp_ne (pc := 42) (tgt := 47) dX11_fetch_42 rfl (fun q => ?_) (fun q => ?_)
    · have h := ite_f q h
      refine V_iload_n (i := 3) (pc := 47) dX11_fetch_47 rfl rfl ?_
      refine V_iload (i := 5) (pc := 48) dX11_fetch_48 rfl ?_
      refine V_iadd (pc := 50) dX11_fetch_50 ?_
      refine V_istore_n (i := 3) (ls' := [some (vr this), some (vi v1), some (vi v2), some (vi (v3 + r34.1)), some (vi v4), some (vi r34.1)]) (pc := 51) dX11_fetch_51 rfl (Nat.le_of_ble_eq_true rfl) rfl ?_
      refine V_iinc (i := 4) (v := (v4 + 1)) (ls' := [some (vr this), some (vi v1), some (vi v2), some (vi (v3 + r34.1)), some (vi (v4 + 1)), some (vi r34.1)]) (pc := 52) dX11_fetch_52 rfl rfl (Nat.le_of_ble_eq_true rfl) rfl ?_
      refine V_goto (tgt := 23) (pc := 55) dX11_fetch_55 rfl ?_
      refine V_sub (ls' := [some (vr this), some (vi v1), some (vi v2), some (vi (v3 + r34.1)), some (vi (v4 + 1)), none]) (And.intro rfl (And.intro rfl (And.intro rfl (And.intro rfl (And.intro rfl trivial))))) ?_
      obtain rfl := Option.some.inj h
      exact hp
    · have h := ite_t q h
      obtain ⟨y2, hu2, rfl⟩ := up_e h
      have h := hu2
      refine V_iconst (v := (-1)) (pc := 45) dX11_fetch_45 rfl ?_
      obtain rfl := Option.some.inj h
      exact E_i (pc := 46) dX11_fetch_46 rfl hp
theorem k_Mo_fetch {g : GE} {this : Nat} {v1 : Int32} {v2 : Int32} {m : Mem} (h_this : kd this = 12) {r : Option AV} {m' : Mem} {x : Int32 × Mem} (h : Mo_fetch this v1 v2 m = some x) (hp : (fun x : Int32 × Mem => r = some (vi x.1) ∧ m' = x.2) x) : V g Y_Mo_fetch 0 [some (vr this), some (vi v1), some (vi v2), none, none, none] [] m (PM g Y_Mo_fetch r m') := by
  unfold Mo_fetch at h
  refine V_aload_n (i := 0) (pc := 0) dX11_fetch_0 rfl rfl ?_
  refine V_iload_n (i := 1) (pc := 1) dX11_fetch_1 rfl rfl ?_
  obtain ⟨r2, e2, h⟩ := bnd h
  refine V_invV1 (c := 11) (pc := 2) dX11_fetch_2 (e_Mo_isSet h_this e2) iv_Mo_311 (rm_Mo_fetch_Mo_isSet _ _ _) rfl h_this cf_11 rfl (Nat.le_of_ble_eq_true rfl) rfl ?_
  refine V_if_eq (pc := 5) (tgt := 15) dX11_fetch_5 rfl (fun q => ?_) (fun q => ?_)
  · have h := ite_t q h
    refine V_bipush (v := (-2)) (pc := 15) dX11_fetch_15 rfl ?_
    obtain rfl := Option.some.inj h
    exact E_i (pc := 17) dX11_fetch_17 rfl hp
  · have h := ite_f q h
    refine V_iload_n (i := 2) (pc := 8) dX11_fetch_8 rfl rfl ?_
    obtain ⟨r9, e9, h⟩ := bnd h
    refine V_invS1 (pc := 9) dX11_fetch_9 (e_Mo_isGroup  e9) is_Mo_303 (rm_Mo_fetch_Mo_isGroup _ _ _) rfl (Nat.le_of_ble_eq_true rfl) rfl ?_
    refine V_if_ne (pc := 12) (tgt := 18) dX11_fetch_12 rfl (fun q => ?_) (fun q => ?_)
    · have h := ite_f q h
      refine V_iconst (v := 0) (pc := 18) dX11_fetch_18 rfl ?_
      refine V_istore_n (i := 3) (ls' := [some (vr this), some (vi v1), some (vi v2), some (vi 0), none, none]) (pc := 19) dX11_fetch_19 rfl (Nat.le_of_ble_eq_true rfl) rfl ?_
      refine V_iconst (v := 0) (pc := 20) dX11_fetch_20 rfl ?_
      refine V_istore (i := 4) (ls' := [some (vr this), some (vi v1), some (vi v2), some (vi 0), some (vi 0), none]) (pc := 21) dX11_fetch_21 (Nat.le_of_ble_eq_true rfl) rfl ?_
      exact loop_V (A := fun s : Int32 × Int32 × Mem => V g Y_Mo_fetch 23 [some (vr this), some (vi v1), some (vi v2), some (vi s.1), some (vi s.2.1), none] [] s.2.2 (PM g Y_Mo_fetch r m')) (fun s x h hp => k_Mo_fetch_l23 h_this h hp) (0, 0, m) _ h hp
    · have h := ite_t q h
      refine V_bipush (v := (-2)) (pc := 15) dX11_fetch_15 rfl ?_
      obtain rfl := Option.some.inj h
      exact E_i (pc := 17) dX11_fetch_17 rfl hp
theorem e_Mo_fetch {g : GE} {this : Nat} {v1 : Int32} {v2 : Int32} {m : Mem} (h_this : kd this = 12) {x : Int32 × Mem} (h : Mo_fetch this v1 v2 m = some x) : Ev g Y_Mo_fetch [vr this, vi v1, vi v2] m (some (vi x.1)) x.2 :=
  Ev_of 3 (by decide +kernel) rfl (Nat.le_of_ble_eq_true rfl) rfl (k_Mo_fetch h_this h ⟨rfl, rfl⟩)
