theorem k_Mo_fetched_b215 {g : GE} {this : Nat} {v1 : Int32} {v2 : Int32} {v3 : Int32} {v4 : Int32} {v5 : Int32} {v6 : Int32} {v7 : Int32}  {m : Mem} (h_this : kd this = 12) {r : Option AV} {m' : Mem} {x : (Int32 × Int32) ⊕ (Int32 × Mem)} (h : Mo_fetched_b215 this v1 v2 v3 v4 v5 v6 v7 m = some x) (hp : (Sum.elim (fun s : Int32 × Int32 => V g Y_Mo_fetched 70 [some (vr this), some (vi v1), some (vi v2), some (vi v3), some (vi v4), some (vi v5), some (vi s.1), some (vi s.2), none, none, none] [] m (PM g Y_Mo_fetched r m')) (fun x : Int32 × Mem => r = some (vi x.1) ∧ m' = x.2)) x) : V g Y_Mo_fetched 215 [some (vr this), some (vi v1), some (vi v2), some (vi v3), some (vi v4), some (vi v5), some (vi v6), some (vi v7), none, none, none] [] m (PM g Y_Mo_fetched r m') := by
  unfold Mo_fetched_b215 at h
  refine V_iinc (i := 7) (v := (v7 + 1)) (ls' := [some (vr this), some (vi v1), some (vi v2), some (vi v3), some (vi v4), some (vi v5), some (vi v6), some (vi (v7 + 1)), none, none, none]) (pc := 215) dX11_fetched_215 rfl rfl (Nat.le_of_ble_eq_true rfl) rfl ?_
  refine V_goto (tgt := 70) (pc := 218) dX11_fetched_218 rfl ?_
  obtain rfl := Option.some.inj h
  exact hp
theorem k_Mo_fetched_l117 {g : GE} {this : Nat} {v1 : Int32} {v2 : Int32} {v3 : Int32} {v4 : Int32} {v5 : Int32} {v6 : Int32} {v7 : Int32} {v9 : Int32} {v10 : Int32} {m : Mem} (h_this : kd this = 12) {r : Option AV} {m' : Mem} {x : (Int32) ⊕ ((Int32 × Int32) ⊕ (Int32 × Mem))} (h : Mo_fetched_l117 this v1 v2 v3 v4 v5 v6 v7 v9 v10 m = some x) (hp : (Sum.elim (fun s : Int32 => V g Y_Mo_fetched 117 [some (vr this), some (vi v1), some (vi v2), some (vi v3), some (vi v4), some (vi v5), some (vi v6), some (vi v7), none, some (vi v9), some (vi s)] [] m (PM g Y_Mo_fetched r m')) (Sum.elim (fun s : Int32 × Int32 => V g Y_Mo_fetched 70 [some (vr this), some (vi v1), some (vi v2), some (vi v3), some (vi v4), some (vi v5), some (vi s.1), some (vi s.2), none, none, none] [] m (PM g Y_Mo_fetched r m')) (fun x : Int32 × Mem => r = some (vi x.1) ∧ m' = x.2))) x) : V g Y_Mo_fetched 117 [some (vr this), some (vi v1), some (vi v2), some (vi v3), some (vi v4), some (vi v5), some (vi v6), some (vi v7), none, some (vi v9), some (vi v10)] [] m (PM g Y_Mo_fetched r m') := by
  unfold Mo_fetched_l117 at h
  refine V_iload (i := 10) (pc := 117) dX11_fetched_117 rfl ?_
  refine V_aload_n (i := 0) (pc := 119) dX11_fetched_119 rfl rfl ?_
  refine V_iload_n (i := 1) (pc := 120) dX11_fetched_120 rfl rfl ?_
  refine V_iload (i := 7) (pc := 121) dX11_fetched_121 rfl ?_
  refine V_bipush (v := 6) (pc := 123) dX11_fetched_123 rfl ?_
  refine V_idiv (pc := 125) dX11_fetched_125 (by decide) ?_
  refine V_iload (i := 7) (pc := 126) dX11_fetched_126 rfl ?_
  refine V_bipush (v := 6) (pc := 128) dX11_fetched_128 rfl ?_
  refine V_irem (pc := 130) dX11_fetched_130 (by decide) ?_
  refine V_iload_n (i := 2) (pc := 131) dX11_fetched_131 rfl rfl ?_
  obtain ⟨r132, e132, h⟩ := bnd h
  refine V_invV1 (c := 11) (pc := 132) dX11_fetched_132 (e_Mo_minutesOf h_this e132) iv_Mo_497 (rm_Mo_fetched_Mo_minutesOf _ _ _) rfl h_this cf_11 rfl (Nat.le_of_ble_eq_true rfl) rfl ?_
  refine V_imul (pc := 135) dX11_fetched_135 ?_
  refine V_aload_n (i := 0) (pc := 136) dX11_fetched_136 rfl rfl ?_
  refine V_getR (b := (this + 13)) (pc := 137) dX11_fetched_137 fl_Mo_57 h_this rfl rfl ?_
  refine V_sipush (v := 1681) (pc := 140) dX11_fetched_140 rfl ?_
  refine V_iload (i := 7) (pc := 143) dX11_fetched_143 rfl ?_
  refine V_iconst (v := 1) (pc := 145) dX11_fetched_145 rfl ?_
  refine V_iadd (pc := 146) dX11_fetched_146 ?_
  refine V_imul (pc := 147) dX11_fetched_147 ?_
  refine V_iconst (v := 0) (pc := 148) dX11_fetched_148 rfl ?_
  refine V_iload (i := 6) (pc := 149) dX11_fetched_149 rfl ?_
  refine V_iload (i := 10) (pc := 151) dX11_fetched_151 rfl ?_
  refine V_iload (i := 9) (pc := 153) dX11_fetched_153 rfl ?_
  refine V_imul (pc := 155) dX11_fetched_155 ?_
  refine V_isub (pc := 156) dX11_fetched_156 ?_
  refine V_mmax (pc := 157) dX11_fetched_157 ma_Mo_368 (rmM_Mo_fetched _ _ _) (Nat.le_of_ble_eq_true rfl) ?_
  refine V_iadd (pc := 160) dX11_fetched_160 ?_
  obtain ⟨hg161, h⟩ := gd_e h
  refine V_iald (pc := 161) dX11_fetched_161 (kf_11_21 h_this) (af_11_21 h_this) hg161 ?_
  refine V_iadd (pc := 162) dX11_fetched_162 ?_
  refine V_aload_n (i := 0) (pc := 163) dX11_fetched_163 rfl rfl ?_
  refine V_getR (b := (this + 13)) (pc := 164) dX11_fetched_164 fl_Mo_57 h_this rfl rfl ?_
  refine V_sipush (v := 1681) (pc := 167) dX11_fetched_167 rfl ?_
  refine V_iload (i := 7) (pc := 170) dX11_fetched_170 rfl ?_
  refine V_imul (pc := 172) dX11_fetched_172 ?_
  refine V_iload (i := 6) (pc := 173) dX11_fetched_173 rfl ?_
  refine V_iadd (pc := 175) dX11_fetched_175 ?_
  obtain ⟨hg176, h⟩ := gd_e h
  refine V_iald (pc := 176) dX11_fetched_176 (kf_11_21 h_this) (af_11_21 h_this) hg176 ?_
  refine V_icmp_eq (pc := 177) (tgt := 186) dX11_fetched_177 rfl (fun q => ?_) (fun q => ?_)
  · have h := ite_t q h
    obtain ⟨y2, hu2, rfl⟩ := up_e h
    have h := hu2
    refine V_iload (i := 7) (pc := 186) dX11_fetched_186 rfl ?_
    refine V_bipush (v := 6) (pc := 188) dX11_fetched_188 rfl ?_
    refine V_iload_n (i := 3) (pc := 190) dX11_fetched_190 rfl rfl ?_
    refine V_imul (pc := 191) dX11_fetched_191 ?_
    refine V_iload (i := 4) (pc := 192) dX11_fetched_192 rfl ?_
    refine V_iadd (pc := 194) dX11_fetched_194 ?_
    refine V_icmp_ne (pc := 195) (tgt := 201) dX11_fetched_195 rfl (fun q => ?_) (fun q => ?_)
    · have h := ite_f q h
      refine V_iconst (v := 0) (pc := 201) dX11_fetched_201 rfl ?_
      refine V_iload (i := 6) (pc := 202) dX11_fetched_202 rfl ?_
      refine V_iload (i := 10) (pc := 204) dX11_fetched_204 rfl ?_
      refine V_iload (i := 9) (pc := 206) dX11_fetched_206 rfl ?_
      refine V_imul (pc := 208) dX11_fetched_208 ?_
      refine V_isub (pc := 209) dX11_fetched_209 ?_
      refine V_mmax (pc := 210) dX11_fetched_210 ma_Mo_368 (rmM_Mo_fetched _ _ _) (Nat.le_of_ble_eq_true rfl) ?_
      refine V_istore (i := 6) (ls' := [some (vr this), some (vi v1), some (vi v2), some (vi v3), some (vi v4), some (vi v5), some (vi (jmax 0 (v6 - (v10 * v9)))), some (vi v7), none, some (vi v9), some (vi v10)]) (pc := 213) dX11_fetched_213 (Nat.le_of_ble_eq_true rfl) rfl ?_
      refine V_sub (ls' := [some (vr this), some (vi v1), some (vi v2), some (vi v3), some (vi v4), some (vi v5), some (vi (jmax 0 (v6 - (v10 * v9)))), some (vi v7), none, none, none]) (And.intro rfl (And.intro rfl (And.intro rfl (And.intro rfl (And.intro rfl (And.intro rfl (And.intro rfl (And.intro rfl trivial)))))))) ?_
      exact k_Mo_fetched_b215 h_this h hp
    · have h := ite_t q h
      obtain ⟨y3, hu3, rfl⟩ := up_e h
      have h := hu3
      refine V_iload (i := 10) (pc := 198) dX11_fetched_198 rfl ?_
      obtain rfl := Option.some.inj h
      exact E_i (pc := 200) dX11_fetched_200 rfl hp
  · have h := ite_f q h
    refine V_iinc (i := 10) (v := (v10 + 1)) (ls' := [some (vr this), some (vi v1), some (vi v2), some (vi v3), some (vi v4), some (vi v5), some (vi v6), some (vi v7), none, some (vi v9), some (vi (v10 + 1))]) (pc := 180) dX11_fetched_180 rfl rfl (Nat.le_of_ble_eq_true rfl) rfl ?_
    refine V_goto (tgt := 117) (pc := 183) dX11_fetched_183 rfl ?_
    obtain rfl := Option.some.inj h
    exact hp
theorem k_Mo_fetched_l70 {g : GE} {this : Nat} {v1 : Int32} {v2 : Int32} {v3 : Int32} {v4 : Int32} {v5 : Int32} {v6 : Int32} {v7 : Int32} {m : Mem} (h_this : kd this = 12) {r : Option AV} {m' : Mem} {x : (Int32 × Int32) ⊕ (Int32 × Mem)} (h : Mo_fetched_l70 this v1 v2 v3 v4 v5 v6 v7 m = some x) (hp : (Sum.elim (fun s : Int32 × Int32 => V g Y_Mo_fetched 70 [some (vr this), some (vi v1), some (vi v2), some (vi v3), some (vi v4), some (vi v5), some (vi s.1), some (vi s.2), none, none, none] [] m (PM g Y_Mo_fetched r m')) (fun x : Int32 × Mem => r = some (vi x.1) ∧ m' = x.2)) x) : V g Y_Mo_fetched 70 [some (vr this), some (vi v1), some (vi v2), some (vi v3), some (vi v4), some (vi v5), some (vi v6), some (vi v7), none, none, none] [] m (PM g Y_Mo_fetched r m') := by
  unfold Mo_fetched_l70 at h
  refine V_iload (i := 7) (pc := 70) dX11_fetched_70 rfl ?_
  refine V_bipush (v := 6) (pc := 72) dX11_fetched_72 rfl ?_
  refine V_iload_n (i := 3) (pc := 74) dX11_fetched_74 rfl rfl ?_
  refine V_imul (pc := 75) dX11_fetched_75 ?_
  refine V_iload (i := 4) (pc := 76) dX11_fetched_76 rfl ?_
  refine V_iadd (pc := 78) dX11_fetched_78 ?_
  refine V_icmp_gt (pc := 79) (tgt := 221) dX11_fetched_79 rfl (fun q => ?_) (fun q => ?_)
  · have h := ite_t q h
    obtain ⟨y1, hu1, rfl⟩ := up_e h
    have h := hu1
    refine V_iconst (v := 0) (pc := 221) dX11_fetched_221 rfl ?_
    obtain rfl := Option.some.inj h
    exact E_i (pc := 222) dX11_fetched_222 rfl hp
  · have h := ite_f q h
    refine V_aload_n (i := 0) (pc := 82) dX11_fetched_82 rfl rfl ?_
    refine V_iload_n (i := 1) (pc := 83) dX11_fetched_83 rfl rfl ?_
    refine V_iload_n (i := 2) (pc := 84) dX11_fetched_84 rfl rfl ?_
    refine V_iload (i := 7) (pc := 85) dX11_fetched_85 rfl ?_
    refine V_iload (i := 5) (pc := 87) dX11_fetched_87 rfl ?_
    obtain ⟨r89, e89, h⟩ := bnd h
    refine V_invV1 (c := 11) (pc := 89) dX11_fetched_89 (e_Mo_fetchable h_this e89) iv_Mo_508 (rm_Mo_fetched_Mo_fetchable _ _ _) rfl h_this cf_11 rfl (Nat.le_of_ble_eq_true rfl) rfl ?_
    refine V_istore (i := 8) (ls' := [some (vr this), some (vi v1), some (vi v2), some (vi v3), some (vi v4), some (vi v5), some (vi v6), some (vi v7), some (vi r89), none, none]) (pc := 92) dX11_fetched_92 (Nat.le_of_ble_eq_true rfl) rfl ?_
    refine V_iload (i := 8) (pc := 94) dX11_fetched_94 rfl ?_
    refine V_if_ne (pc := 96) (tgt := 102) dX11_fetched_96 rfl (fun q => ?_) (fun q => ?_)
    · have h := ite_f q h
      refine V_aload_n (i := 0) (pc := 102) dX11_fetched_102 rfl rfl ?_
      refine V_iload (i := 7) (pc := 103) dX11_fetched_103 rfl ?_
      refine V_bipush (v := 6) (pc := 105) dX11_fetched_105 rfl ?_
      refine V_irem (pc := 107) dX11_fetched_107 (by decide) ?_
      refine V_iconst (v := 1) (pc := 108) dX11_fetched_108 rfl ?_
      obtain ⟨r109, e109, h⟩ := bnd h
      refine V_invV1 (c := 11) (pc := 109) dX11_fetched_109 (e_Mo_ofSort h_this e109) iv_Mo_297 (rm_Mo_fetched_Mo_ofSort _ _ _) rfl h_this cf_11 rfl (Nat.le_of_ble_eq_true rfl) rfl ?_
      refine V_istore (i := 9) (ls' := [some (vr this), some (vi v1), some (vi v2), some (vi v3), some (vi v4), some (vi v5), some (vi v6), some (vi v7), some (vi r89), some (vi r109), none]) (pc := 112) dX11_fetched_112 (Nat.le_of_ble_eq_true rfl) rfl ?_
      refine V_iconst (v := 0) (pc := 114) dX11_fetched_114 rfl ?_
      refine V_istore (i := 10) (ls' := [some (vr this), some (vi v1), some (vi v2), some (vi v3), some (vi v4), some (vi v5), some (vi v6), some (vi v7), some (vi r89), some (vi r109), some (vi 0)]) (pc := 115) dX11_fetched_115 (Nat.le_of_ble_eq_true rfl) rfl ?_
      refine V_sub (ls' := [some (vr this), some (vi v1), some (vi v2), some (vi v3), some (vi v4), some (vi v5), some (vi v6), some (vi v7), none, some (vi r109), some (vi 0)]) (And.intro rfl (And.intro rfl (And.intro rfl (And.intro rfl (And.intro rfl (And.intro rfl (And.intro rfl (And.intro rfl (And.intro rfl (And.intro rfl trivial)))))))))) ?_
      exact loop_V (A := fun s : Int32 => V g Y_Mo_fetched 117 [some (vr this), some (vi v1), some (vi v2), some (vi v3), some (vi v4), some (vi v5), some (vi v6), some (vi v7), none, some (vi r109), some (vi s)] [] m (PM g Y_Mo_fetched r m')) (fun s x h hp => k_Mo_fetched_l117 h_this h hp) (0) _ h hp
    · have h := ite_t q h
      refine V_goto (tgt := 215) (pc := 99) dX11_fetched_99 rfl ?_
      refine V_sub (ls' := [some (vr this), some (vi v1), some (vi v2), some (vi v3), some (vi v4), some (vi v5), some (vi v6), some (vi v7), none, none, none]) (And.intro rfl (And.intro rfl (And.intro rfl (And.intro rfl (And.intro rfl (And.intro rfl (And.intro rfl (And.intro rfl trivial)))))))) ?_
      exact k_Mo_fetched_b215 h_this h hp
theorem k_Mo_fetched {g : GE} {this : Nat} {v1 : Int32} {v2 : Int32} {v3 : Int32} {v4 : Int32} {m : Mem} (h_this : kd this = 12) {r : Option AV} {m' : Mem} {x : Int32 × Mem} (h : Mo_fetched this v1 v2 v3 v4 m = some x) (hp : (fun x : Int32 × Mem => r = some (vi x.1) ∧ m' = x.2) x) : V g Y_Mo_fetched 0 [some (vr this), some (vi v1), some (vi v2), some (vi v3), some (vi v4), none, none, none, none, none, none] [] m (PM g Y_Mo_fetched r m') := by
  unfold Mo_fetched at h
  refine V_aload_n (i := 0) (pc := 0) dX11_fetched_0 rfl rfl ?_
  refine V_iload_n (i := 1) (pc := 1) dX11_fetched_1 rfl rfl ?_
  obtain ⟨r2, e2, h⟩ := bnd h
  refine V_invV1 (c := 11) (pc := 2) dX11_fetched_2 (e_Mo_isSet h_this e2) iv_Mo_311 (rm_Mo_fetched_Mo_isSet _ _ _) rfl h_this cf_11 rfl (Nat.le_of_ble_eq_true rfl) rfl ?_
  refine V_if_eq (pc := 5) (tgt := 31) dX11_fetched_5 rfl (fun q => ?_) (fun q => ?_)
  · have h := ite_t q h
    refine V_bipush (v := (-2)) (pc := 31) dX11_fetched_31 rfl ?_
    obtain rfl := Option.some.inj h
    exact E_i (pc := 33) dX11_fetched_33 rfl hp
  · have h := ite_f q h
    refine V_iload_n (i := 2) (pc := 8) dX11_fetched_8 rfl rfl ?_
    obtain ⟨r9, e9, h⟩ := bnd h
    refine V_invS1 (pc := 9) dX11_fetched_9 (e_Mo_isGroup  e9) is_Mo_303 (rm_Mo_fetched_Mo_isGroup _ _ _) rfl (Nat.le_of_ble_eq_true rfl) rfl ?_
    refine V_if_eq (pc := 12) (tgt := 31) dX11_fetched_12 rfl (fun q => ?_) (fun q => ?_)
    · have h := ite_t q h
      refine V_bipush (v := (-2)) (pc := 31) dX11_fetched_31 rfl ?_
      obtain rfl := Option.some.inj h
      exact E_i (pc := 33) dX11_fetched_33 rfl hp
    · have h := ite_f q h
      refine V_iload_n (i := 3) (pc := 15) dX11_fetched_15 rfl rfl ?_
      obtain ⟨r16, e16, h⟩ := bnd h
      refine V_invS1 (pc := 16) dX11_fetched_16 (e_Mo_isHeap  e16) is_Mo_277 (rm_Mo_fetched_Mo_isHeap _ _ _) rfl (Nat.le_of_ble_eq_true rfl) rfl ?_
      refine V_if_eq (pc := 19) (tgt := 31) dX11_fetched_19 rfl (fun q => ?_) (fun q => ?_)
      · have h := ite_t q h
        refine V_bipush (v := (-2)) (pc := 31) dX11_fetched_31 rfl ?_
        obtain rfl := Option.some.inj h
        exact E_i (pc := 33) dX11_fetched_33 rfl hp
      · have h := ite_f q h
        refine V_aload_n (i := 0) (pc := 22) dX11_fetched_22 rfl rfl ?_
        refine V_iload (i := 4) (pc := 23) dX11_fetched_23 rfl ?_
        obtain ⟨r25, e25, h⟩ := bnd h
        refine V_invV1 (c := 11) (pc := 25) dX11_fetched_25 (e_Mo_isSort h_this e25) iv_Mo_291 (rm_Mo_fetched_Mo_isSort _ _ _) rfl h_this cf_11 rfl (Nat.le_of_ble_eq_true rfl) rfl ?_
        refine V_if_ne (pc := 28) (tgt := 34) dX11_fetched_28 rfl (fun q => ?_) (fun q => ?_)
        · have h := ite_f q h
          refine V_aload_n (i := 0) (pc := 34) dX11_fetched_34 rfl rfl ?_
          refine V_iload (i := 4) (pc := 35) dX11_fetched_35 rfl ?_
          refine V_iconst (v := 0) (pc := 37) dX11_fetched_37 rfl ?_
          obtain ⟨r38, e38, h⟩ := bnd h
          refine V_invV1 (c := 11) (pc := 38) dX11_fetched_38 (e_Mo_ofSort h_this e38) iv_Mo_297 (rm_Mo_fetched_Mo_ofSort _ _ _) rfl h_this cf_11 rfl (Nat.le_of_ble_eq_true rfl) rfl ?_
          refine V_istore (i := 5) (ls' := [some (vr this), some (vi v1), some (vi v2), some (vi v3), some (vi v4), some (vi r38), none, none, none, none, none]) (pc := 41) dX11_fetched_41 (Nat.le_of_ble_eq_true rfl) rfl ?_
          refine V_aload_n (i := 0) (pc := 43) dX11_fetched_43 rfl rfl ?_
          refine V_iload_n (i := 1) (pc := 44) dX11_fetched_44 rfl rfl ?_
          refine V_iload_n (i := 2) (pc := 45) dX11_fetched_45 rfl rfl ?_
          refine V_iload (i := 5) (pc := 46) dX11_fetched_46 rfl ?_
          obtain ⟨r48, e48, h⟩ := bnd h
          refine V_invV1 (c := 11) (pc := 48) dX11_fetched_48 (e_Mo_fetches h_this e48) iv_Mo_511 (rm_Mo_fetched_Mo_fetches _ _ _) rfl h_this cf_11 rfl (Nat.le_of_ble_eq_true rfl) rfl ?_
          refine V_iconst (v := (-1)) (pc := 51) dX11_fetched_51 rfl ?_
          refine V_icmp_ne (pc := 52) (tgt := 57) dX11_fetched_52 rfl (fun q => ?_) (fun q => ?_)
          · have h := ite_f q h
            refine V_aload_n (i := 0) (pc := 57) dX11_fetched_57 rfl rfl ?_
            refine V_iload_n (i := 1) (pc := 58) dX11_fetched_58 rfl rfl ?_
            refine V_iload_n (i := 2) (pc := 59) dX11_fetched_59 rfl rfl ?_
            refine V_iload (i := 5) (pc := 60) dX11_fetched_60 rfl ?_
            obtain ⟨r62, e62, h⟩ := bnd h
            refine V_invV1 (c := 11) (pc := 62) dX11_fetched_62 (e_Mo_needFor h_this e62) iv_Mo_504 (rm_Mo_fetched_Mo_needFor _ _ _) rfl h_this cf_11 rfl (Nat.le_of_ble_eq_true rfl) rfl ?_
            refine V_istore (i := 6) (ls' := [some (vr this), some (vi v1), some (vi v2), some (vi v3), some (vi v4), some (vi r38), some (vi r62), none, none, none, none]) (pc := 65) dX11_fetched_65 (Nat.le_of_ble_eq_true rfl) rfl ?_
            refine V_iconst (v := 0) (pc := 67) dX11_fetched_67 rfl ?_
            refine V_istore (i := 7) (ls' := [some (vr this), some (vi v1), some (vi v2), some (vi v3), some (vi v4), some (vi r38), some (vi r62), some (vi 0), none, none, none]) (pc := 68) dX11_fetched_68 (Nat.le_of_ble_eq_true rfl) rfl ?_
            exact loop_V (A := fun s : Int32 × Int32 => V g Y_Mo_fetched 70 [some (vr this), some (vi v1), some (vi v2), some (vi v3), some (vi v4), some (vi r38), some (vi s.1), some (vi s.2), none, none, none] [] r48.2 (PM g Y_Mo_fetched r m')) (fun s x h hp => k_Mo_fetched_l70 h_this h hp) (r62, 0) _ h hp
          · have h := ite_t q h
            refine V_iconst (v := (-1)) (pc := 55) dX11_fetched_55 rfl ?_
            obtain rfl := Option.some.inj h
            exact E_i (pc := 56) dX11_fetched_56 rfl hp
        · have h := ite_t q h
          refine V_bipush (v := (-2)) (pc := 31) dX11_fetched_31 rfl ?_
          obtain rfl := Option.some.inj h
          exact E_i (pc := 33) dX11_fetched_33 rfl hp
theorem e_Mo_fetched {g : GE} {this : Nat} {v1 : Int32} {v2 : Int32} {v3 : Int32} {v4 : Int32} {m : Mem} (h_this : kd this = 12) {x : Int32 × Mem} (h : Mo_fetched this v1 v2 v3 v4 m = some x) : Ev g Y_Mo_fetched [vr this, vi v1, vi v2, vi v3, vi v4] m (some (vi x.1)) x.2 :=
  Ev_of 6 (by decide +kernel) rfl (Nat.le_of_ble_eq_true rfl) rfl (k_Mo_fetched h_this h ⟨rfl, rfl⟩)
theorem k_Mo_thin_l32 {g : GE} {this : Nat} {v1 : Int32} {v2 : Int32} {v3 : Int32} {v4 : Int32} {m : Mem} (h_this : kd this = 12) {r : Option AV} {m' : Mem} {x : (Int32) ⊕ (Int32)} (h : Mo_thin_l32 this v1 v2 v3 v4 m = some x) (hp : (Sum.elim (fun s : Int32 => V g Y_Mo_thin 32 [some (vr this), some (vi v1), some (vi v2), some (vi v3), some (vi s)] [] m (PM g Y_Mo_thin r m')) (fun x : Int32 => r = some (vi x) ∧ m' = m)) x) : V g Y_Mo_thin 32 [some (vr this), some (vi v1), some (vi v2), some (vi v3), some (vi v4)] [] m (PM g Y_Mo_thin r m') := by
  unfold Mo_thin_l32 at h
  refine V_iload (i := 4) (pc := 32) dX11_thin_32 rfl ?_
  refine V_iload_n (i := 3) (pc := 34) dX11_thin_34 rfl rfl ?_
  refine V_icmp_gt (pc := 35) (tgt := 60) dX11_thin_35 rfl (fun q => ?_) (fun q => ?_)
  · have h := ite_t q h
    obtain ⟨y1, hu1, rfl⟩ := up_e h
    have h := hu1
    refine V_iconst (v := (-1)) (pc := 60) dX11_thin_60 rfl ?_
    obtain rfl := Option.some.inj h
    exact E_i (pc := 61) dX11_thin_61 rfl hp
  · have h := ite_f q h
    refine V_aload_n (i := 0) (pc := 38) dX11_thin_38 rfl rfl ?_
    refine V_iload_n (i := 1) (pc := 39) dX11_thin_39 rfl rfl ?_
    refine V_iload_n (i := 3) (pc := 40) dX11_thin_40 rfl rfl ?_
    refine V_iload (i := 4) (pc := 41) dX11_thin_41 rfl ?_
    refine V_isub (pc := 43) dX11_thin_43 ?_
    obtain ⟨r44, e44, h⟩ := bnd h
    refine V_invV1 (c := 11) (pc := 44) dX11_thin_44 (e_Mo_oddsBy h_this e44) iv_Mo_323 (rm_Mo_thin_Mo_oddsBy _ _ _) rfl h_this cf_11 rfl (Nat.le_of_ble_eq_true rfl) rfl ?_
    refine V_iload_n (i := 2) (pc := 47) dX11_thin_47 rfl rfl ?_
    refine V_icmp_gt (pc := 48) (tgt := 54) dX11_thin_48 rfl (fun q => ?_) (fun q => ?_)
    · have h := ite_t q h
      refine V_iinc (i := 4) (v := (v4 + 1)) (ls' := [some (vr this), some (vi v1), some (vi v2), some (vi v3), some (vi (v4 + 1))]) (pc := 54) dX11_thin_54 rfl rfl (Nat.le_of_ble_eq_true rfl) rfl ?_
      refine V_goto (tgt := 32) (pc := 57) dX11_thin_57 rfl ?_
      obtain rfl := Option.some.inj h
      exact hp
    · have h := ite_f q h
      obtain ⟨y2, hu2, rfl⟩ := up_e h
      have h := hu2
      refine V_iload (i := 4) (pc := 51) dX11_thin_51 rfl ?_
      obtain rfl := Option.some.inj h
      exact E_i (pc := 53) dX11_thin_53 rfl hp
theorem k_Mo_thin {g : GE} {this : Nat} {v1 : Int32} {v2 : Int32} {m : Mem} (h_this : kd this = 12) {r : Option AV} {m' : Mem} {x : Int32} (h : Mo_thin this v1 v2 m = some x) (hp : (fun x : Int32 => r = some (vi x) ∧ m' = m) x) : V g Y_Mo_thin 0 [some (vr this), some (vi v1), some (vi v2), none, none] [] m (PM g Y_Mo_thin r m') := by
  unfold Mo_thin at h
  refine V_aload_n (i := 0) (pc := 0) dX11_thin_0 rfl rfl ?_
  refine V_iload_n (i := 1) (pc := 1) dX11_thin_1 rfl rfl ?_
  obtain ⟨r2, e2, h⟩ := bnd h
  refine V_invV1 (c := 11) (pc := 2) dX11_thin_2 (e_Mo_isCrack h_this e2) iv_Mo_326 (rm_Mo_thin_Mo_isCrack _ _ _) rfl h_this cf_11 rfl (Nat.le_of_ble_eq_true rfl) rfl ?_
  refine V_if_eq (pc := 5) (tgt := 20) dX11_thin_5 rfl (fun q => ?_) (fun q => ?_)
  · have h := ite_t q h
    refine V_bipush (v := (-2)) (pc := 20) dX11_thin_20 rfl ?_
    obtain rfl := Option.some.inj h
    exact E_i (pc := 22) dX11_thin_22 rfl hp
  · have h := ite_f q h
    refine V_iload_n (i := 2) (pc := 8) dX11_thin_8 rfl rfl ?_
    refine V_i2l (pc := 9) dX11_thin_9 ?_
    refine V_lconst (v := 0) (pc := 10) dX11_thin_10 rfl ?_
    refine V_ldc2 (v := 10000) (pc := 11) dX11_thin_11 con_Mo_338 ?_
    obtain ⟨r14, e14, h⟩ := bnd h
    refine V_invS1 (pc := 14) dX11_thin_14 (e_Mo_in  e14) is_Mo_84 (rm_Mo_thin_Mo_in _ _ _) rfl (Nat.le_of_ble_eq_true rfl) rfl ?_
    refine V_if_ne (pc := 17) (tgt := 23) dX11_thin_17 rfl (fun q => ?_) (fun q => ?_)
    · have h := ite_f q h
      refine V_aload_n (i := 0) (pc := 23) dX11_thin_23 rfl rfl ?_
      refine V_iload_n (i := 1) (pc := 24) dX11_thin_24 rfl rfl ?_
      obtain ⟨r25, e25, h⟩ := bnd h
      refine V_invV1 (c := 11) (pc := 25) dX11_thin_25 (e_Mo_nearOf h_this e25) iv_Mo_320 (rm_Mo_thin_Mo_nearOf _ _ _) rfl h_this cf_11 rfl (Nat.le_of_ble_eq_true rfl) rfl ?_
      refine V_istore_n (i := 3) (ls' := [some (vr this), some (vi v1), some (vi v2), some (vi r25), none]) (pc := 28) dX11_thin_28 rfl (Nat.le_of_ble_eq_true rfl) rfl ?_
      refine V_iconst (v := 0) (pc := 29) dX11_thin_29 rfl ?_
      refine V_istore (i := 4) (ls' := [some (vr this), some (vi v1), some (vi v2), some (vi r25), some (vi 0)]) (pc := 30) dX11_thin_30 (Nat.le_of_ble_eq_true rfl) rfl ?_
      exact loop_V (A := fun s : Int32 => V g Y_Mo_thin 32 [some (vr this), some (vi v1), some (vi v2), some (vi r25), some (vi s)] [] m (PM g Y_Mo_thin r m')) (fun s x h hp => k_Mo_thin_l32 h_this h hp) (0) _ h hp
    · have h := ite_t q h
      refine V_bipush (v := (-2)) (pc := 20) dX11_thin_20 rfl ?_
      obtain rfl := Option.some.inj h
      exact E_i (pc := 22) dX11_thin_22 rfl hp
theorem e_Mo_thin {g : GE} {this : Nat} {v1 : Int32} {v2 : Int32} {m : Mem} (h_this : kd this = 12) {x : Int32} (h : Mo_thin this v1 v2 m = some x) : Ev g Y_Mo_thin [vr this, vi v1, vi v2] m (some (vi x)) m :=
  Ev_of 2 (by decide +kernel) rfl (Nat.le_of_ble_eq_true rfl) rfl (k_Mo_thin h_this h ⟨rfl, rfl⟩)
theorem k_Mo_apart_b94 {g : GE} {this : Nat} {v1 : Int32} {v2 : Int32} {v4 : Int32} {k0 : Int32}  {m : Mem} (h_this : kd this = 12) {r : Option AV} {m' : Mem} {x : (Int32 × Int32) ⊕ (Int32)} (h : Mo_apart_b94 this v1 v2 v4 k0 m = some x) (hp : (Sum.elim (fun s : Int32 × Int32 => V g Y_Mo_apart 17 [some (vr this), some (vi v1), some (vi v2), some (vi s.1), some (vi s.2), none, none, none] [] m (PM g Y_Mo_apart r m')) (fun x : Int32 => r = some (vi x) ∧ m' = m)) x) : V g Y_Mo_apart 94 [some (vr this), some (vi v1), some (vi v2), none, some (vi v4), none, none, none] [vi k0] m (PM g Y_Mo_apart r m') := by
  unfold Mo_apart_b94 at h
  refine V_istore_n (i := 3) (ls' := [some (vr this), some (vi v1), some (vi v2), some (vi k0), some (vi v4), none, none, none]) (pc := 94) dX11_apart_94 rfl (Nat.le_of_ble_eq_true rfl) rfl ?_
  refine V_iinc (i := 4) (v := (v4 + 1)) (ls' := [some (vr this), some (vi v1), some (vi v2), some (vi k0), some (vi (v4 + 1)), none, none, none]) (pc := 95) dX11_apart_95 rfl rfl (Nat.le_of_ble_eq_true rfl) rfl ?_
  refine V_goto (tgt := 17) (pc := 98) dX11_apart_98 rfl ?_
  obtain rfl := Option.some.inj h
  exact hp
theorem k_Mo_apart_b76 {g : GE} {this : Nat} {v1 : Int32} {v2 : Int32} {v3 : Int32} {v4 : Int32} {k0 : Int32}  {m : Mem} (h_this : kd this = 12) {r : Option AV} {m' : Mem} {x : (Int32 × Int32) ⊕ (Int32)} (h : Mo_apart_b76 this v1 v2 v3 v4 k0 m = some x) (hp : (Sum.elim (fun s : Int32 × Int32 => V g Y_Mo_apart 17 [some (vr this), some (vi v1), some (vi v2), some (vi s.1), some (vi s.2), none, none, none] [] m (PM g Y_Mo_apart r m')) (fun x : Int32 => r = some (vi x) ∧ m' = m)) x) : V g Y_Mo_apart 76 [some (vr this), some (vi v1), some (vi v2), some (vi v3), some (vi v4), none, none, none] [vi k0] m (PM g Y_Mo_apart r m') := by
  unfold Mo_apart_b76 at h
  refine V_istore (i := 7) (ls' := [some (vr this), some (vi v1), some (vi v2), some (vi v3), some (vi v4), none, none, some (vi k0)]) (pc := 76) dX11_apart_76 (Nat.le_of_ble_eq_true rfl) rfl ?_
  refine V_iload_n (i := 3) (pc := 78) dX11_apart_78 rfl rfl ?_
  refine V_iconst (v := (-1)) (pc := 79) dX11_apart_79 rfl ?_
  refine V_icmp_ne (pc := 80) (tgt := 88) dX11_apart_80 rfl (fun q => ?_) (fun q => ?_)
  · have h := ite_f q h
    refine V_iload_n (i := 3) (pc := 88) dX11_apart_88 rfl rfl ?_
    refine V_iload (i := 7) (pc := 89) dX11_apart_89 rfl ?_
    refine V_mmin (pc := 91) dX11_apart_91 ma_Mo_123 (rmM_Mo_apart _ _ _) (Nat.le_of_ble_eq_true rfl) ?_
    refine V_sub (ls' := [some (vr this), some (vi v1), some (vi v2), none, some (vi v4), none, none, none]) (And.intro rfl (And.intro rfl (And.intro rfl (And.intro rfl trivial)))) ?_
    exact k_Mo_apart_b94 h_this h hp
  · have h := ite_t q h
    refine V_iload (i := 7) (pc := 83) dX11_apart_83 rfl ?_
    refine V_goto (tgt := 94) (pc := 85) dX11_apart_85 rfl ?_
    refine V_sub (ls' := [some (vr this), some (vi v1), some (vi v2), none, some (vi v4), none, none, none]) (And.intro rfl (And.intro rfl (And.intro rfl (And.intro rfl trivial)))) ?_
    exact k_Mo_apart_b94 h_this h hp
theorem k_Mo_apart_b43 {g : GE} {this : Nat} {v1 : Int32} {v2 : Int32} {v3 : Int32} {v4 : Int32} {k0 : Int32}  {m : Mem} (h_this : kd this = 12) {r : Option AV} {m' : Mem} {x : (Int32 × Int32) ⊕ (Int32)} (h : Mo_apart_b43 this v1 v2 v3 v4 k0 m = some x) (hp : (Sum.elim (fun s : Int32 × Int32 => V g Y_Mo_apart 17 [some (vr this), some (vi v1), some (vi v2), some (vi s.1), some (vi s.2), none, none, none] [] m (PM g Y_Mo_apart r m')) (fun x : Int32 => r = some (vi x) ∧ m' = m)) x) : V g Y_Mo_apart 43 [some (vr this), some (vi v1), some (vi v2), some (vi v3), some (vi v4), none, none, none] [vi k0] m (PM g Y_Mo_apart r m') := by
  unfold Mo_apart_b43 at h
  refine V_istore (i := 5) (ls' := [some (vr this), some (vi v1), some (vi v2), some (vi v3), some (vi v4), some (vi k0), none, none]) (pc := 43) dX11_apart_43 (Nat.le_of_ble_eq_true rfl) rfl ?_
  refine V_aload_n (i := 0) (pc := 45) dX11_apart_45 rfl rfl ?_
  refine V_iload (i := 4) (pc := 46) dX11_apart_46 rfl ?_
  refine V_iconst (v := 1) (pc := 48) dX11_apart_48 rfl ?_
  obtain ⟨r49, e49, h⟩ := bnd h
  refine V_invV1 (c := 11) (pc := 49) dX11_apart_49 (e_Mo_ofCrack h_this e49) iv_Mo_317 (rm_Mo_apart_Mo_ofCrack _ _ _) rfl h_this cf_11 rfl (Nat.le_of_ble_eq_true rfl) rfl ?_
  refine V_istore (i := 6) (ls' := [some (vr this), some (vi v1), some (vi v2), some (vi v3), some (vi v4), some (vi k0), some (vi r49), none]) (pc := 52) dX11_apart_52 (Nat.le_of_ble_eq_true rfl) rfl ?_
  refine V_iload (i := 5) (pc := 54) dX11_apart_54 rfl ?_
  refine V_iload (i := 6) (pc := 56) dX11_apart_56 rfl ?_
  refine V_icmp_lt (pc := 58) (tgt := 69) dX11_apart_58 rfl (fun q => ?_) (fun q => ?_)
  · have h := ite_t q h
    refine V_iload (i := 6) (pc := 69) dX11_apart_69 rfl ?_
    refine V_iconst (v := 1) (pc := 71) dX11_apart_71 rfl ?_
    refine V_isub (pc := 72) dX11_apart_72 ?_
    refine V_iload (i := 5) (pc := 73) dX11_apart_73 rfl ?_
    refine V_isub (pc := 75) dX11_apart_75 ?_
    refine V_sub (ls' := [some (vr this), some (vi v1), some (vi v2), some (vi v3), some (vi v4), none, none, none]) (And.intro rfl (And.intro rfl (And.intro rfl (And.intro rfl (And.intro rfl trivial))))) ?_
    exact k_Mo_apart_b76 h_this h hp
  · have h := ite_f q h
    refine V_iload (i := 5) (pc := 61) dX11_apart_61 rfl ?_
    refine V_iload (i := 6) (pc := 63) dX11_apart_63 rfl ?_
    refine V_isub (pc := 65) dX11_apart_65 ?_
    refine V_goto (tgt := 76) (pc := 66) dX11_apart_66 rfl ?_
    refine V_sub (ls' := [some (vr this), some (vi v1), some (vi v2), some (vi v3), some (vi v4), none, none, none]) (And.intro rfl (And.intro rfl (And.intro rfl (And.intro rfl (And.intro rfl trivial))))) ?_
    exact k_Mo_apart_b76 h_this h hp
theorem k_Mo_apart_l17 {g : GE} {this : Nat} {v1 : Int32} {v2 : Int32} {v3 : Int32} {v4 : Int32} {m : Mem} (h_this : kd this = 12) {r : Option AV} {m' : Mem} {x : (Int32 × Int32) ⊕ (Int32)} (h : Mo_apart_l17 this v1 v2 v3 v4 m = some x) (hp : (Sum.elim (fun s : Int32 × Int32 => V g Y_Mo_apart 17 [some (vr this), some (vi v1), some (vi v2), some (vi s.1), some (vi s.2), none, none, none] [] m (PM g Y_Mo_apart r m')) (fun x : Int32 => r = some (vi x) ∧ m' = m)) x) : V g Y_Mo_apart 17 [some (vr this), some (vi v1), some (vi v2), some (vi v3), some (vi v4), none, none, none] [] m (PM g Y_Mo_apart r m') := by
  unfold Mo_apart_l17 at h
  refine V_iload (i := 4) (pc := 17) dX11_apart_17 rfl ?_
  refine V_aload_n (i := 0) (pc := 19) dX11_apart_19 rfl rfl ?_
  refine V_getR (b := (this + 1)) (pc := 20) dX11_apart_20 fl_Mo_13 h_this rfl rfl ?_
  refine V_iconst (v := 5) (pc := 23) dX11_apart_23 rfl ?_
  obtain ⟨hg24, h⟩ := gd_e h
  refine V_iald (pc := 24) dX11_apart_24 (kf_11_1 h_this) (af_11_1 h_this) hg24 ?_
  refine V_icmp_ge (pc := 25) (tgt := 101) dX11_apart_25 rfl (fun q => ?_) (fun q => ?_)
  · have h := ite_t q h
    obtain ⟨y1, hu1, rfl⟩ := up_e h
    have h := hu1
    refine V_iload_n (i := 3) (pc := 101) dX11_apart_101 rfl rfl ?_
    obtain rfl := Option.some.inj h
    exact E_i (pc := 102) dX11_apart_102 rfl hp
  · have h := ite_f q h
    refine V_aload_n (i := 0) (pc := 28) dX11_apart_28 rfl rfl ?_
    refine V_iload (i := 4) (pc := 29) dX11_apart_29 rfl ?_
    refine V_iconst (v := 0) (pc := 31) dX11_apart_31 rfl ?_
    obtain ⟨r32, e32, h⟩ := bnd h
    refine V_invV1 (c := 11) (pc := 32) dX11_apart_32 (e_Mo_ofCrack h_this e32) iv_Mo_317 (rm_Mo_apart_Mo_ofCrack _ _ _) rfl h_this cf_11 rfl (Nat.le_of_ble_eq_true rfl) rfl ?_
    refine V_if_ne (pc := 35) (tgt := 42) dX11_apart_35 rfl (fun q => ?_) (fun q => ?_)
    · have h := ite_f q h
      refine V_iload_n (i := 2) (pc := 42) dX11_apart_42 rfl rfl ?_
      exact k_Mo_apart_b43 h_this h hp
    · have h := ite_t q h
      refine V_iload_n (i := 1) (pc := 38) dX11_apart_38 rfl rfl ?_
      refine V_goto (tgt := 43) (pc := 39) dX11_apart_39 rfl ?_
      exact k_Mo_apart_b43 h_this h hp
theorem k_Mo_apart {g : GE} {this : Nat} {v1 : Int32} {v2 : Int32} {m : Mem} (h_this : kd this = 12) {r : Option AV} {m' : Mem} {x : Int32} (h : Mo_apart this v1 v2 m = some x) (hp : (fun x : Int32 => r = some (vi x) ∧ m' = m) x) : V g Y_Mo_apart 0 [some (vr this), some (vi v1), some (vi v2), none, none, none, none, none] [] m (PM g Y_Mo_apart r m') := by
  unfold Mo_apart at h
  refine V_aload_n (i := 0) (pc := 0) dX11_apart_0 rfl rfl ?_
  refine V_iload_n (i := 1) (pc := 1) dX11_apart_1 rfl rfl ?_
  refine V_iload_n (i := 2) (pc := 2) dX11_apart_2 rfl rfl ?_
  obtain ⟨r3, e3, h⟩ := bnd h
  refine V_invV1 (c := 11) (pc := 3) dX11_apart_3 (e_Mo_isCell h_this e3) iv_Mo_281 (rm_Mo_apart_Mo_isCell _ _ _) rfl h_this cf_11 rfl (Nat.le_of_ble_eq_true rfl) rfl ?_
  refine V_if_ne (pc := 6) (tgt := 12) dX11_apart_6 rfl (fun q => ?_) (fun q => ?_)
  · have h := ite_f q h
    refine V_iconst (v := (-1)) (pc := 12) dX11_apart_12 rfl ?_
    refine V_istore_n (i := 3) (ls' := [some (vr this), some (vi v1), some (vi v2), some (vi (-1)), none, none, none, none]) (pc := 13) dX11_apart_13 rfl (Nat.le_of_ble_eq_true rfl) rfl ?_
    refine V_iconst (v := 0) (pc := 14) dX11_apart_14 rfl ?_
    refine V_istore (i := 4) (ls' := [some (vr this), some (vi v1), some (vi v2), some (vi (-1)), some (vi 0), none, none, none]) (pc := 15) dX11_apart_15 (Nat.le_of_ble_eq_true rfl) rfl ?_
    exact loop_V (A := fun s : Int32 × Int32 => V g Y_Mo_apart 17 [some (vr this), some (vi v1), some (vi v2), some (vi s.1), some (vi s.2), none, none, none] [] m (PM g Y_Mo_apart r m')) (fun s x h hp => k_Mo_apart_l17 h_this h hp) ((-1), 0) _ h hp
  · have h := ite_t q h
    refine V_bipush (v := (-2)) (pc := 9) dX11_apart_9 rfl ?_
    obtain rfl := Option.some.inj h
    exact E_i (pc := 11) dX11_apart_11 rfl hp
theorem e_Mo_apart {g : GE} {this : Nat} {v1 : Int32} {v2 : Int32} {m : Mem} (h_this : kd this = 12) {x : Int32} (h : Mo_apart this v1 v2 m = some x) : Ev g Y_Mo_apart [vr this, vi v1, vi v2] m (some (vi x)) m :=
  Ev_of 5 (by decide +kernel) rfl (Nat.le_of_ble_eq_true rfl) rfl (k_Mo_apart h_this h ⟨rfl, rfl⟩)
theorem k_Mo_drifts_l109 {g : GE} {this : Nat}  {v1 : Int32} {m : Mem} (h_this : kd this = 12) {r : Option AV} {m' : Mem} {x : (Int32 × Mem) ⊕ (Mem)} (h : Mo_drifts_l109 this v1 m = some x) (hp : (Sum.elim (fun s : Int32 × Mem => V g Y_Mo_drifts 109 [some (vr this), some (vi s.1), none, none] [] s.2 (PM g Y_Mo_drifts r m')) (fun x : Mem => r = none ∧ m' = x)) x) : V g Y_Mo_drifts 109 [some (vr this), some (vi v1), none, none] [] m (PM g Y_Mo_drifts r m') := by
  unfold Mo_drifts_l109 at h
  refine V_iload_n (i := 1) (pc := 109) dX11_drifts_109 rfl rfl ?_
  refine V_bipush (v := 100) (pc := 110) dX11_drifts_110 rfl ?_
  refine V_icmp_ge (pc := 112) (tgt := 133) dX11_drifts_112 rfl (fun q => ?_) (fun q => ?_)
  · have h := ite_t q h
    obtain ⟨y3, hu3, rfl⟩ := up_e h
    have h := hu3
    obtain rfl := Option.some.inj h
    exact E_v (pc := 133) dX11_drifts_133 rfl hp
  · have h := ite_f q h
    refine V_aload_n (i := 0) (pc := 115) dX11_drifts_115 rfl rfl ?_
    refine V_getR (b := (this + 14)) (pc := 116) dX11_drifts_116 fl_Mo_60 h_this rfl rfl ?_
    refine V_iload_n (i := 1) (pc := 119) dX11_drifts_119 rfl rfl ?_
    refine V_aload_n (i := 0) (pc := 120) dX11_drifts_120 rfl rfl ?_
    refine V_getR (b := (this + 15)) (pc := 121) dX11_drifts_121 fl_Mo_63 h_this rfl rfl ?_
    refine V_iload_n (i := 1) (pc := 124) dX11_drifts_124 rfl rfl ?_
    obtain ⟨hg125, h⟩ := gd_e h
    refine V_lald (pc := 125) dX11_drifts_125 (kf_11_23 h_this) (af_11_23 h_this) hg125 ?_
    obtain ⟨hg126, h⟩ := gd_e h
    refine V_last_lt (pc := 126) dX11_drifts_126 (kf_11_22 h_this) (af_11_22 h_this) hg126 h (fun m126 h => ?_)
    refine V_iinc (i := 1) (v := (v1 + 1)) (ls' := [some (vr this), some (vi (v1 + 1)), none, none]) (pc := 127) dX11_drifts_127 rfl rfl (Nat.le_of_ble_eq_true rfl) rfl ?_
    refine V_goto (tgt := 109) (pc := 130) dX11_drifts_130 rfl ?_
    obtain rfl := Option.some.inj h
    exact hp
theorem k_Mo_drifts_l35 {g : GE} {this : Nat}  {v1 : Int32} {m : Mem} (h_this : kd this = 12) {r : Option AV} {m' : Mem} {x : (Int32 × Mem) ⊕ (Mem)} (h : Mo_drifts_l35 this v1 m = some x) (hp : (Sum.elim (fun s : Int32 × Mem => V g Y_Mo_drifts 35 [some (vr this), some (vi s.1), none, none] [] s.2 (PM g Y_Mo_drifts r m')) (fun x : Mem => r = none ∧ m' = x)) x) : V g Y_Mo_drifts 35 [some (vr this), some (vi v1), none, none] [] m (PM g Y_Mo_drifts r m') := by
  unfold Mo_drifts_l35 at h
  refine V_iload_n (i := 1) (pc := 35) dX11_drifts_35 rfl rfl ?_
  refine V_bipush (v := 100) (pc := 36) dX11_drifts_36 rfl ?_
  refine V_icmp_ge (pc := 38) (tgt := 107) dX11_drifts_38 rfl (fun q => ?_) (fun q => ?_)
  · have h := ite_t q h
    obtain ⟨y2, hu2, rfl⟩ := up_e h
    have h := hu2
    refine V_iconst (v := 0) (pc := 107) dX11_drifts_107 rfl ?_
    refine V_istore_n (i := 1) (ls' := [some (vr this), some (vi 0), none, none]) (pc := 108) dX11_drifts_108 rfl (Nat.le_of_ble_eq_true rfl) rfl ?_
    exact loop_V (A := fun s : Int32 × Mem => V g Y_Mo_drifts 109 [some (vr this), some (vi s.1), none, none] [] s.2 (PM g Y_Mo_drifts r m')) (fun s x h hp => k_Mo_drifts_l109 h_this h hp) (0, m) _ h hp
  · have h := ite_f q h
    refine V_aload_n (i := 0) (pc := 41) dX11_drifts_41 rfl rfl ?_
    refine V_getR (b := (this + 14)) (pc := 42) dX11_drifts_42 fl_Mo_60 h_this rfl rfl ?_
    refine V_iload_n (i := 1) (pc := 45) dX11_drifts_45 rfl rfl ?_
    obtain ⟨hg46, h⟩ := gd_e h
    refine V_lald (pc := 46) dX11_drifts_46 (kf_11_22 h_this) (af_11_22 h_this) hg46 ?_
    refine V_aload_n (i := 0) (pc := 47) dX11_drifts_47 rfl rfl ?_
    refine V_getR (b := (this + 1)) (pc := 48) dX11_drifts_48 fl_Mo_13 h_this rfl rfl ?_
    refine V_bipush (v := 14) (pc := 51) dX11_drifts_51 rfl ?_
    obtain ⟨hg53, h⟩ := gd_e h
    refine V_iald (pc := 53) dX11_drifts_53 (kf_11_1 h_this) (af_11_1 h_this) hg53 ?_
    refine V_i2l (pc := 54) dX11_drifts_54 ?_
    refine V_lmul (pc := 55) dX11_drifts_55 ?_
    refine V_ldc2 (v := 100) (pc := 56) dX11_drifts_56 con_Mo_340 ?_
    refine V_ldiv (pc := 59) dX11_drifts_59 (by decide) ?_
    refine V_lstore_n (i := 2) (ls' := [some (vr this), some (vi v1), some (vl (((rL m (this + 14) (ix v1)) * ((rI m (this + 1) (ix 14)).toInt64)) / 100)), none]) (pc := 60) dX11_drifts_60 rfl (Nat.le_of_ble_eq_true rfl) rfl ?_
    refine V_aload_n (i := 0) (pc := 61) dX11_drifts_61 rfl rfl ?_
    refine V_getR (b := (this + 15)) (pc := 62) dX11_drifts_62 fl_Mo_63 h_this rfl rfl ?_
    refine V_iconst (v := 0) (pc := 65) dX11_drifts_65 rfl ?_
    refine V_iload_n (i := 1) (pc := 66) dX11_drifts_66 rfl rfl ?_
    refine V_iconst (v := 2) (pc := 67) dX11_drifts_67 rfl ?_
    refine V_isub (pc := 68) dX11_drifts_68 ?_
    refine V_mmax (pc := 69) dX11_drifts_69 ma_Mo_368 (rmM_Mo_drifts _ _ _) (Nat.le_of_ble_eq_true rfl) ?_
    refine V_dup2 (pc := 72) dX11_drifts_72 ?_
    obtain ⟨hg73, h⟩ := gd_e h
    refine V_lald (pc := 73) dX11_drifts_73 (kf_11_23 h_this) (af_11_23 h_this) hg73 ?_
    refine V_lload_n (i := 2) (pc := 74) dX11_drifts_74 rfl rfl ?_
    refine V_ladd (pc := 75) dX11_drifts_75 ?_
    obtain ⟨hg76, h⟩ := gd_e h
    refine V_last_lt (pc := 76) dX11_drifts_76 (kf_11_23 h_this) (af_11_23 h_this) hg76 h (fun m76 h => ?_)
    refine V_aload_n (i := 0) (pc := 77) dX11_drifts_77 rfl rfl ?_
    refine V_getR (b := (this + 15)) (pc := 78) dX11_drifts_78 fl_Mo_63 h_this rfl rfl ?_
    refine V_bipush (v := 99) (pc := 81) dX11_drifts_81 rfl ?_
    refine V_iload_n (i := 1) (pc := 83) dX11_drifts_83 rfl rfl ?_
    refine V_iconst (v := 1) (pc := 84) dX11_drifts_84 rfl ?_
    refine V_iadd (pc := 85) dX11_drifts_85 ?_
    refine V_mmin (pc := 86) dX11_drifts_86 ma_Mo_123 (rmM_Mo_drifts _ _ _) (Nat.le_of_ble_eq_true rfl) ?_
    refine V_dup2 (pc := 89) dX11_drifts_89 ?_
    obtain ⟨hg90, h⟩ := gd_e h
    refine V_lald (pc := 90) dX11_drifts_90 (kf_11_23 h_this) (af_11_23 h_this) hg90 ?_
    refine V_aload_n (i := 0) (pc := 91) dX11_drifts_91 rfl rfl ?_
    refine V_getR (b := (this + 14)) (pc := 92) dX11_drifts_92 fl_Mo_60 h_this rfl rfl ?_
    refine V_iload_n (i := 1) (pc := 95) dX11_drifts_95 rfl rfl ?_
    obtain ⟨hg96, h⟩ := gd_e h
    refine V_lald (pc := 96) dX11_drifts_96 (kf_11_22 h_this) (af_11_22 h_this) hg96 ?_
    refine V_lload_n (i := 2) (pc := 97) dX11_drifts_97 rfl rfl ?_
    refine V_lsub (pc := 98) dX11_drifts_98 ?_
    refine V_ladd (pc := 99) dX11_drifts_99 ?_
    obtain ⟨hg100, h⟩ := gd_e h
    refine V_last_lt (pc := 100) dX11_drifts_100 (kf_11_23 h_this) (af_11_23 h_this) hg100 h (fun m100 h => ?_)
    refine V_iinc (i := 1) (v := (v1 + 1)) (ls' := [some (vr this), some (vi (v1 + 1)), some (vl (((rL m (this + 14) (ix v1)) * ((rI m (this + 1) (ix 14)).toInt64)) / 100)), none]) (pc := 101) dX11_drifts_101 rfl rfl (Nat.le_of_ble_eq_true rfl) rfl ?_
    refine V_goto (tgt := 35) (pc := 104) dX11_drifts_104 rfl ?_
    refine V_sub (ls' := [some (vr this), some (vi (v1 + 1)), none, none]) (And.intro rfl (And.intro rfl trivial)) ?_
    obtain rfl := Option.some.inj h
    exact hp
theorem k_Mo_drifts_l2 {g : GE} {this : Nat}  {v1 : Int32} {m : Mem} (h_this : kd this = 12) {r : Option AV} {m' : Mem} {x : (Int32 × Mem) ⊕ (Mem)} (h : Mo_drifts_l2 this v1 m = some x) (hp : (Sum.elim (fun s : Int32 × Mem => V g Y_Mo_drifts 2 [some (vr this), some (vi s.1), none, none] [] s.2 (PM g Y_Mo_drifts r m')) (fun x : Mem => r = none ∧ m' = x)) x) : V g Y_Mo_drifts 2 [some (vr this), some (vi v1), none, none] [] m (PM g Y_Mo_drifts r m') := by
  unfold Mo_drifts_l2 at h
  refine V_iload_n (i := 1) (pc := 2) dX11_drifts_2 rfl rfl ?_
  refine V_bipush (v := 100) (pc := 3) dX11_drifts_3 rfl ?_
  refine V_icmp_ge (pc := 5) (tgt := 21) dX11_drifts_5 rfl (fun q => ?_) (fun q => ?_)
  · have h := ite_t q h
    obtain ⟨y1, hu1, rfl⟩ := up_e h
    have h := hu1
    refine V_aload_n (i := 0) (pc := 21) dX11_drifts_21 rfl rfl ?_
    refine V_getR (b := (this + 15)) (pc := 22) dX11_drifts_22 fl_Mo_63 h_this rfl rfl ?_
    refine V_iconst (v := 0) (pc := 25) dX11_drifts_25 rfl ?_
    refine V_aload_n (i := 0) (pc := 26) dX11_drifts_26 rfl rfl ?_
    refine V_getR (b := (this + 14)) (pc := 27) dX11_drifts_27 fl_Mo_60 h_this rfl rfl ?_
    refine V_iconst (v := 0) (pc := 30) dX11_drifts_30 rfl ?_
    obtain ⟨hg31, h⟩ := gd_e h
    refine V_lald (pc := 31) dX11_drifts_31 (kf_11_22 h_this) (af_11_22 h_this) hg31 ?_
    obtain ⟨hg32, h⟩ := gd_e h
    refine V_last_lt (pc := 32) dX11_drifts_32 (kf_11_23 h_this) (af_11_23 h_this) hg32 h (fun m32 h => ?_)
    refine V_iconst (v := 1) (pc := 33) dX11_drifts_33 rfl ?_
    refine V_istore_n (i := 1) (ls' := [some (vr this), some (vi 1), none, none]) (pc := 34) dX11_drifts_34 rfl (Nat.le_of_ble_eq_true rfl) rfl ?_
    exact loop_V (A := fun s : Int32 × Mem => V g Y_Mo_drifts 35 [some (vr this), some (vi s.1), none, none] [] s.2 (PM g Y_Mo_drifts r m')) (fun s x h hp => k_Mo_drifts_l35 h_this h hp) (1, m32) _ h hp
  · have h := ite_f q h
    refine V_aload_n (i := 0) (pc := 8) dX11_drifts_8 rfl rfl ?_
    refine V_getR (b := (this + 15)) (pc := 9) dX11_drifts_9 fl_Mo_63 h_this rfl rfl ?_
    refine V_iload_n (i := 1) (pc := 12) dX11_drifts_12 rfl rfl ?_
    refine V_lconst (v := 0) (pc := 13) dX11_drifts_13 rfl ?_
    obtain ⟨hg14, h⟩ := gd_e h
    refine V_last_lt (pc := 14) dX11_drifts_14 (kf_11_23 h_this) (af_11_23 h_this) hg14 h (fun m14 h => ?_)
    refine V_iinc (i := 1) (v := (v1 + 1)) (ls' := [some (vr this), some (vi (v1 + 1)), none, none]) (pc := 15) dX11_drifts_15 rfl rfl (Nat.le_of_ble_eq_true rfl) rfl ?_
    refine V_goto (tgt := 2) (pc := 18) dX11_drifts_18 rfl ?_
    obtain rfl := Option.some.inj h
    exact hp
theorem k_Mo_drifts {g : GE} {this : Nat} {m : Mem} (h_this : kd this = 12) {r : Option AV} {m' : Mem} {x : Mem} (h : Mo_drifts this m = some x) (hp : (fun x : Mem => r = none ∧ m' = x) x) : V g Y_Mo_drifts 0 [some (vr this), none, none, none] [] m (PM g Y_Mo_drifts r m') := by
  unfold Mo_drifts at h
  refine V_iconst (v := 0) (pc := 0) dX11_drifts_0 rfl ?_
  refine V_istore_n (i := 1) (ls' := [some (vr this), some (vi 0), none, none]) (pc := 1) dX11_drifts_1 rfl (Nat.le_of_ble_eq_true rfl) rfl ?_
  exact loop_V (A := fun s : Int32 × Mem => V g Y_Mo_drifts 2 [some (vr this), some (vi s.1), none, none] [] s.2 (PM g Y_Mo_drifts r m')) (fun s x h hp => k_Mo_drifts_l2 h_this h hp) (0, m) _ h hp
theorem e_Mo_drifts {g : GE} {this : Nat} {m : Mem} (h_this : kd this = 12) {x : Mem} (h : Mo_drifts this m = some x) : Ev g Y_Mo_drifts [vr this] m (none) x :=
  Ev_of 3 (by decide +kernel) rfl (Nat.le_of_ble_eq_true rfl) rfl (k_Mo_drifts h_this h ⟨rfl, rfl⟩)
theorem k_Mo_beginMiles_b31 {g : GE} {this : Nat} {v1 : Int32} {k1 : Int32} {k2 : Int64}  {m : Mem} (h_this : kd this = 12) {r : Option AV} {m' : Mem} {x : (Int32 × Mem) ⊕ (Mem)} (h : Mo_beginMiles_b31 this v1 k1 k2 m = some x) (hp : (Sum.elim (fun s : Int32 × Mem => V g Y_Mo_beginMiles 2 [some (vr this), some (vi s.1)] [] s.2 (PM g Y_Mo_beginMiles r m')) (fun x : Mem => r = none ∧ m' = x)) x) : V g Y_Mo_beginMiles 31 [some (vr this), some (vi v1)] [vl k2, vi k1, vr (this + 14)] m (PM g Y_Mo_beginMiles r m') := by
  unfold Mo_beginMiles_b31 at h
  obtain ⟨hg31, h⟩ := gd_e h
  refine V_last_lt (pc := 31) dX11_beginMiles_31 (kf_11_22 h_this) (af_11_22 h_this) hg31 h (fun m31 h => ?_)
  refine V_iinc (i := 1) (v := (v1 + 1)) (ls' := [some (vr this), some (vi (v1 + 1))]) (pc := 32) dX11_beginMiles_32 rfl rfl (Nat.le_of_ble_eq_true rfl) rfl ?_
  refine V_goto (tgt := 2) (pc := 35) dX11_beginMiles_35 rfl ?_
  obtain rfl := Option.some.inj h
  exact hp
theorem k_Mo_beginMiles_l2 {g : GE} {this : Nat}  {v1 : Int32} {m : Mem} (h_this : kd this = 12) {r : Option AV} {m' : Mem} {x : (Int32 × Mem) ⊕ (Mem)} (h : Mo_beginMiles_l2 this v1 m = some x) (hp : (Sum.elim (fun s : Int32 × Mem => V g Y_Mo_beginMiles 2 [some (vr this), some (vi s.1)] [] s.2 (PM g Y_Mo_beginMiles r m')) (fun x : Mem => r = none ∧ m' = x)) x) : V g Y_Mo_beginMiles 2 [some (vr this), some (vi v1)] [] m (PM g Y_Mo_beginMiles r m') := by
  unfold Mo_beginMiles_l2 at h
  refine V_iload_n (i := 1) (pc := 2) dX11_beginMiles_2 rfl rfl ?_
  refine V_bipush (v := 100) (pc := 3) dX11_beginMiles_3 rfl ?_
  refine V_icmp_ge (pc := 5) (tgt := 38) dX11_beginMiles_5 rfl (fun q => ?_) (fun q => ?_)
  · have h := ite_t q h
    obtain ⟨y1, hu1, rfl⟩ := up_e h
    have h := hu1
    obtain rfl := Option.some.inj h
    exact E_v (pc := 38) dX11_beginMiles_38 rfl hp
  · have h := ite_f q h
    refine V_aload_n (i := 0) (pc := 8) dX11_beginMiles_8 rfl rfl ?_
    refine V_getR (b := (this + 14)) (pc := 9) dX11_beginMiles_9 fl_Mo_60 h_this rfl rfl ?_
    refine V_iload_n (i := 1) (pc := 12) dX11_beginMiles_12 rfl rfl ?_
    refine V_iload_n (i := 1) (pc := 13) dX11_beginMiles_13 rfl rfl ?_
    refine V_aload_n (i := 0) (pc := 14) dX11_beginMiles_14 rfl rfl ?_
    refine V_getR (b := (this + 1)) (pc := 15) dX11_beginMiles_15 fl_Mo_13 h_this rfl rfl ?_
    refine V_bipush (v := 15) (pc := 18) dX11_beginMiles_18 rfl ?_
    obtain ⟨hg20, h⟩ := gd_e h
    refine V_iald (pc := 20) dX11_beginMiles_20 (kf_11_1 h_this) (af_11_1 h_this) hg20 ?_
    refine V_icmp_ne (pc := 21) (tgt := 30) dX11_beginMiles_21 rfl (fun q => ?_) (fun q => ?_)
    · have h := ite_f q h
      refine V_lconst (v := 0) (pc := 30) dX11_beginMiles_30 rfl ?_
      exact k_Mo_beginMiles_b31 h_this h hp
    · have h := ite_t q h
      refine V_ldc2 (v := 1000000000000) (pc := 24) dX11_beginMiles_24 con_Mo_336 ?_
      refine V_goto (tgt := 31) (pc := 27) dX11_beginMiles_27 rfl ?_
      exact k_Mo_beginMiles_b31 h_this h hp
theorem k_Mo_beginMiles {g : GE} {this : Nat} {m : Mem} (h_this : kd this = 12) {r : Option AV} {m' : Mem} {x : Mem} (h : Mo_beginMiles this m = some x) (hp : (fun x : Mem => r = none ∧ m' = x) x) : V g Y_Mo_beginMiles 0 [some (vr this), none] [] m (PM g Y_Mo_beginMiles r m') := by
  unfold Mo_beginMiles at h
  refine V_iconst (v := 0) (pc := 0) dX11_beginMiles_0 rfl ?_
  refine V_istore_n (i := 1) (ls' := [some (vr this), some (vi 0)]) (pc := 1) dX11_beginMiles_1 rfl (Nat.le_of_ble_eq_true rfl) rfl ?_
  exact loop_V (A := fun s : Int32 × Mem => V g Y_Mo_beginMiles 2 [some (vr this), some (vi s.1)] [] s.2 (PM g Y_Mo_beginMiles r m')) (fun s x h hp => k_Mo_beginMiles_l2 h_this h hp) (0, m) _ h hp
theorem e_Mo_beginMiles {g : GE} {this : Nat} {m : Mem} (h_this : kd this = 12) {x : Mem} (h : Mo_beginMiles this m = some x) : Ev g Y_Mo_beginMiles [vr this] m (none) x :=
  Ev_of 1 (by decide +kernel) rfl (Nat.le_of_ble_eq_true rfl) rfl (k_Mo_beginMiles h_this h ⟨rfl, rfl⟩)
theorem k_Mo_miles_l41 {g : GE} {this : Nat} {v1 : Int32} {v2 : Int32} {v3 : Int32} {m : Mem} (h_this : kd this = 12) {r : Option AV} {m' : Mem} {x : (Int32 × Mem) ⊕ (Int64 × Mem)} (h : Mo_miles_l41 this v1 v2 v3 m = some x) (hp : (Sum.elim (fun s : Int32 × Mem => V g Y_Mo_miles 41 [some (vr this), some (vi v1), some (vi v2), some (vi s.1)] [] s.2 (PM g Y_Mo_miles r m')) (fun x : Int64 × Mem => r = some (vl x.1) ∧ m' = x.2)) x) : V g Y_Mo_miles 41 [some (vr this), some (vi v1), some (vi v2), some (vi v3)] [] m (PM g Y_Mo_miles r m') := by
  unfold Mo_miles_l41 at h
  refine V_iload_n (i := 3) (pc := 41) dX11_miles_41 rfl rfl ?_
  refine V_iload_n (i := 1) (pc := 42) dX11_miles_42 rfl rfl ?_
  refine V_icmp_ge (pc := 43) (tgt := 56) dX11_miles_43 rfl (fun q => ?_) (fun q => ?_)
  · have h := ite_t q h
    obtain ⟨y1, hu1, rfl⟩ := up_e h
    have h := hu1
    refine V_aload_n (i := 0) (pc := 56) dX11_miles_56 rfl rfl ?_
    refine V_getR (b := (this + 14)) (pc := 57) dX11_miles_57 fl_Mo_60 h_this rfl rfl ?_
    refine V_iload_n (i := 2) (pc := 60) dX11_miles_60 rfl rfl ?_
    obtain ⟨hg61, h⟩ := gd_e h
    refine V_lald (pc := 61) dX11_miles_61 (kf_11_22 h_this) (af_11_22 h_this) hg61 ?_
    obtain rfl := Option.some.inj h
    exact E_l (pc := 62) dX11_miles_62 rfl hp
  · have h := ite_f q h
    refine V_aload_n (i := 0) (pc := 46) dX11_miles_46 rfl rfl ?_
    obtain ⟨m47, e47, h⟩ := bnd h
    refine V_invV0 (c := 11) (pc := 47) dX11_miles_47 (e_Mo_drifts h_this e47) iv_Mo_519 (rm_Mo_miles_Mo_drifts _ _ _) rfl h_this cf_11 rfl (Nat.le_of_ble_eq_true rfl) rfl ?_
    refine V_iinc (i := 3) (v := (v3 + 1)) (ls' := [some (vr this), some (vi v1), some (vi v2), some (vi (v3 + 1))]) (pc := 50) dX11_miles_50 rfl rfl (Nat.le_of_ble_eq_true rfl) rfl ?_
    refine V_goto (tgt := 41) (pc := 53) dX11_miles_53 rfl ?_
    obtain rfl := Option.some.inj h
    exact hp
theorem k_Mo_miles {g : GE} {this : Nat} {v1 : Int32} {v2 : Int32} {m : Mem} (h_this : kd this = 12) {r : Option AV} {m' : Mem} {x : Int64 × Mem} (h : Mo_miles this v1 v2 m = some x) (hp : (fun x : Int64 × Mem => r = some (vl x.1) ∧ m' = x.2) x) : V g Y_Mo_miles 0 [some (vr this), some (vi v1), some (vi v2), none] [] m (PM g Y_Mo_miles r m') := by
  unfold Mo_miles at h
  refine V_aload_n (i := 0) (pc := 0) dX11_miles_0 rfl rfl ?_
  obtain ⟨r1, e1, h⟩ := bnd h
  refine V_invV1 (c := 11) (pc := 1) dX11_miles_1 (e_Mo_isFloe h_this e1) iv_Mo_271 (rm_Mo_miles_Mo_isFloe _ _ _) rfl h_this cf_11 rfl (Nat.le_of_ble_eq_true rfl) rfl ?_
  refine V_if_eq (pc := 4) (tgt := 31) dX11_miles_4 rfl (fun q => ?_) (fun q => ?_)
  · have h := ite_t q h
    refine V_ldc2 (v := (-2)) (pc := 31) dX11_miles_31 con_Mo_342 ?_
    obtain rfl := Option.some.inj h
    exact E_l (pc := 34) dX11_miles_34 rfl hp
  · have h := ite_f q h
    refine V_iload_n (i := 1) (pc := 7) dX11_miles_7 rfl rfl ?_
    refine V_i2l (pc := 8) dX11_miles_8 ?_
    refine V_lconst (v := 0) (pc := 9) dX11_miles_9 rfl ?_
    refine V_ldc2 (v := 60) (pc := 10) dX11_miles_10 con_Mo_479 ?_
    obtain ⟨r13, e13, h⟩ := bnd h
    refine V_invS1 (pc := 13) dX11_miles_13 (e_Mo_in  e13) is_Mo_84 (rm_Mo_miles_Mo_in _ _ _) rfl (Nat.le_of_ble_eq_true rfl) rfl ?_
    refine V_if_eq (pc := 16) (tgt := 31) dX11_miles_16 rfl (fun q => ?_) (fun q => ?_)
    · have h := ite_t q h
      refine V_ldc2 (v := (-2)) (pc := 31) dX11_miles_31 con_Mo_342 ?_
      obtain rfl := Option.some.inj h
      exact E_l (pc := 34) dX11_miles_34 rfl hp
    · have h := ite_f q h
      refine V_iload_n (i := 2) (pc := 19) dX11_miles_19 rfl rfl ?_
      refine V_i2l (pc := 20) dX11_miles_20 ?_
      refine V_lconst (v := 0) (pc := 21) dX11_miles_21 rfl ?_
      refine V_ldc2 (v := 99) (pc := 22) dX11_miles_22 con_Mo_514 ?_
      obtain ⟨r25, e25, h⟩ := bnd h
      refine V_invS1 (pc := 25) dX11_miles_25 (e_Mo_in  e25) is_Mo_84 (rm_Mo_miles_Mo_in _ _ _) rfl (Nat.le_of_ble_eq_true rfl) rfl ?_
      refine V_if_ne (pc := 28) (tgt := 35) dX11_miles_28 rfl (fun q => ?_) (fun q => ?_)
      · have h := ite_f q h
        refine V_aload_n (i := 0) (pc := 35) dX11_miles_35 rfl rfl ?_
        obtain ⟨m36, e36, h⟩ := bnd h
        refine V_invV0 (c := 11) (pc := 36) dX11_miles_36 (e_Mo_beginMiles h_this e36) iv_Mo_516 (rm_Mo_miles_Mo_beginMiles _ _ _) rfl h_this cf_11 rfl (Nat.le_of_ble_eq_true rfl) rfl ?_
        refine V_iconst (v := 0) (pc := 39) dX11_miles_39 rfl ?_
        refine V_istore_n (i := 3) (ls' := [some (vr this), some (vi v1), some (vi v2), some (vi 0)]) (pc := 40) dX11_miles_40 rfl (Nat.le_of_ble_eq_true rfl) rfl ?_
        exact loop_V (A := fun s : Int32 × Mem => V g Y_Mo_miles 41 [some (vr this), some (vi v1), some (vi v2), some (vi s.1)] [] s.2 (PM g Y_Mo_miles r m')) (fun s x h hp => k_Mo_miles_l41 h_this h hp) (0, m36) _ h hp
      · have h := ite_t q h
        refine V_ldc2 (v := (-2)) (pc := 31) dX11_miles_31 con_Mo_342 ?_
        obtain rfl := Option.some.inj h
        exact E_l (pc := 34) dX11_miles_34 rfl hp
theorem e_Mo_miles {g : GE} {this : Nat} {v1 : Int32} {v2 : Int32} {m : Mem} (h_this : kd this = 12) {x : Int64 × Mem} (h : Mo_miles this v1 v2 m = some x) : Ev g Y_Mo_miles [vr this, vi v1, vi v2] m (some (vl x.1)) x.2 :=
  Ev_of 1 (by decide +kernel) rfl (Nat.le_of_ble_eq_true rfl) rfl (k_Mo_miles h_this h ⟨rfl, rfl⟩)
theorem k_Mo_boats_l52 {g : GE} {this : Nat} {v1 : Int32} {v2 : Int32} {v3 : Int32} {v4 : Int64} {v6 : Int32} {m : Mem} (h_this : kd this = 12) {r : Option AV} {m' : Mem} {x : (Int64 × Int32) ⊕ ((Int32 × Mem) ⊕ (Int32 × Mem))} (h : Mo_boats_l52 this v1 v2 v3 v4 v6 m = some x) (hp : (Sum.elim (fun s : Int64 × Int32 => V g Y_Mo_boats 52 [some (vr this), some (vi v1), some (vi v2), some (vi v3), some (vl s.1), none, some (vi s.2)] [] m (PM g Y_Mo_boats r m')) (Sum.elim (fun s : Int32 × Mem => V g Y_Mo_boats 40 [some (vr this), some (vi v1), some (vi v2), some (vi s.1), none, none, none] [] s.2 (PM g Y_Mo_boats r m')) (fun x : Int32 × Mem => r = some (vi x.1) ∧ m' = x.2))) x) : V g Y_Mo_boats 52 [some (vr this), some (vi v1), some (vi v2), some (vi v3), some (vl v4), none, some (vi v6)] [] m (PM g Y_Mo_boats r m') := by
  unfold Mo_boats_l52 at h
  refine V_iload (i := 6) (pc := 52) dX11_boats_52 rfl ?_
  refine V_iload_n (i := 1) (pc := 54) dX11_boats_54 rfl rfl ?_
  refine V_icmp_gt (pc := 55) (tgt := 76) dX11_boats_55 rfl (fun q => ?_) (fun q => ?_)
  · have h := ite_t q h
    obtain ⟨y2, hu2, rfl⟩ := up_e h
    have h := hu2
    refine V_lload (i := 4) (pc := 76) dX11_boats_76 rfl ?_
    refine V_iload_n (i := 2) (pc := 78) dX11_boats_78 rfl rfl ?_
    refine V_i2l (pc := 79) dX11_boats_79 ?_
    refine V_ldc2 (v := 1000000000) (pc := 80) dX11_boats_80 con_Mo_390 ?_
    refine V_lmul (pc := 83) dX11_boats_83 ?_
    refine V_lif_lt (pc := 84) (tgt := 90) dX11_boats_84 dX11_boats_85 rfl (fun q => ?_) (fun q => ?_)
    · have h := ite_t q h
      refine V_aload_n (i := 0) (pc := 90) dX11_boats_90 rfl rfl ?_
      obtain ⟨m91, e91, h⟩ := bnd h
      refine V_invV0 (c := 11) (pc := 91) dX11_boats_91 (e_Mo_drifts h_this e91) iv_Mo_519 (rm_Mo_boats_Mo_drifts _ _ _) rfl h_this cf_11 rfl (Nat.le_of_ble_eq_true rfl) rfl ?_
      refine V_iinc (i := 3) (v := (v3 + 1)) (ls' := [some (vr this), some (vi v1), some (vi v2), some (vi (v3 + 1)), some (vl v4), none, some (vi v6)]) (pc := 94) dX11_boats_94 rfl rfl (Nat.le_of_ble_eq_true rfl) rfl ?_
      refine V_goto (tgt := 40) (pc := 97) dX11_boats_97 rfl ?_
      refine V_sub (ls' := [some (vr this), some (vi v1), some (vi v2), some (vi (v3 + 1)), none, none, none]) (And.intro rfl (And.intro rfl (And.intro rfl (And.intro rfl trivial)))) ?_
      obtain rfl := Option.some.inj h
      exact hp
    · have h := ite_f q h
      obtain ⟨y3, hu3, rfl⟩ := up_e h
      have h := hu3
      refine V_iload_n (i := 3) (pc := 88) dX11_boats_88 rfl rfl ?_
      obtain rfl := Option.some.inj h
      exact E_i (pc := 89) dX11_boats_89 rfl hp
  · have h := ite_f q h
    refine V_lload (i := 4) (pc := 58) dX11_boats_58 rfl ?_
    refine V_aload_n (i := 0) (pc := 60) dX11_boats_60 rfl rfl ?_
    refine V_getR (b := (this + 14)) (pc := 61) dX11_boats_61 fl_Mo_60 h_this rfl rfl ?_
    refine V_iload (i := 6) (pc := 64) dX11_boats_64 rfl ?_
    obtain ⟨hg66, h⟩ := gd_e h
    refine V_lald (pc := 66) dX11_boats_66 (kf_11_22 h_this) (af_11_22 h_this) hg66 ?_
    refine V_ladd (pc := 67) dX11_boats_67 ?_
    refine V_lstore (i := 4) (ls' := [some (vr this), some (vi v1), some (vi v2), some (vi v3), some (vl (v4 + (rL m (this + 14) (ix v6)))), none, some (vi v6)]) (pc := 68) dX11_boats_68 (Nat.le_of_ble_eq_true rfl) rfl ?_
    refine V_iinc (i := 6) (v := (v6 + 1)) (ls' := [some (vr this), some (vi v1), some (vi v2), some (vi v3), some (vl (v4 + (rL m (this + 14) (ix v6)))), none, some (vi (v6 + 1))]) (pc := 70) dX11_boats_70 rfl rfl (Nat.le_of_ble_eq_true rfl) rfl ?_
    refine V_goto (tgt := 52) (pc := 73) dX11_boats_73 rfl ?_
    obtain rfl := Option.some.inj h
    exact hp
theorem k_Mo_boats_l40 {g : GE} {this : Nat} {v1 : Int32} {v2 : Int32} {v3 : Int32} {m : Mem} (h_this : kd this = 12) {r : Option AV} {m' : Mem} {x : (Int32 × Mem) ⊕ (Int32 × Mem)} (h : Mo_boats_l40 this v1 v2 v3 m = some x) (hp : (Sum.elim (fun s : Int32 × Mem => V g Y_Mo_boats 40 [some (vr this), some (vi v1), some (vi v2), some (vi s.1), none, none, none] [] s.2 (PM g Y_Mo_boats r m')) (fun x : Int32 × Mem => r = some (vi x.1) ∧ m' = x.2)) x) : V g Y_Mo_boats 40 [some (vr this), some (vi v1), some (vi v2), some (vi v3), none, none, none] [] m (PM g Y_Mo_boats r m') := by
  unfold Mo_boats_l40 at h
  refine V_iload_n (i := 3) (pc := 40) dX11_boats_40 rfl rfl ?_
  refine V_bipush (v := 60) (pc := 41) dX11_boats_41 rfl ?_
  refine V_icmp_gt (pc := 43) (tgt := 100) dX11_boats_43 rfl (fun q => ?_) (fun q => ?_)
  · have h := ite_t q h
    obtain ⟨y1, hu1, rfl⟩ := up_e h
    have h := hu1
    refine V_iconst (v := (-1)) (pc := 100) dX11_boats_100 rfl ?_
    obtain rfl := Option.some.inj h
    exact E_i (pc := 101) dX11_boats_101 rfl hp
  · have h := ite_f q h
    refine V_lconst (v := 0) (pc := 46) dX11_boats_46 rfl ?_
    refine V_lstore (i := 4) (ls' := [some (vr this), some (vi v1), some (vi v2), some (vi v3), some (vl 0), none, none]) (pc := 47) dX11_boats_47 (Nat.le_of_ble_eq_true rfl) rfl ?_
    refine V_iconst (v := 0) (pc := 49) dX11_boats_49 rfl ?_
    refine V_istore (i := 6) (ls' := [some (vr this), some (vi v1), some (vi v2), some (vi v3), some (vl 0), none, some (vi 0)]) (pc := 50) dX11_boats_50 (Nat.le_of_ble_eq_true rfl) rfl ?_
    exact loop_V (A := fun s : Int64 × Int32 => V g Y_Mo_boats 52 [some (vr this), some (vi v1), some (vi v2), some (vi v3), some (vl s.1), none, some (vi s.2)] [] m (PM g Y_Mo_boats r m')) (fun s x h hp => k_Mo_boats_l52 h_this h hp) (0, 0) _ h hp
theorem k_Mo_boats {g : GE} {this : Nat} {v1 : Int32} {v2 : Int32} {m : Mem} (h_this : kd this = 12) {r : Option AV} {m' : Mem} {x : Int32 × Mem} (h : Mo_boats this v1 v2 m = some x) (hp : (fun x : Int32 × Mem => r = some (vi x.1) ∧ m' = x.2) x) : V g Y_Mo_boats 0 [some (vr this), some (vi v1), some (vi v2), none, none, none, none] [] m (PM g Y_Mo_boats r m') := by
  unfold Mo_boats at h
  refine V_aload_n (i := 0) (pc := 0) dX11_boats_0 rfl rfl ?_
  obtain ⟨r1, e1, h⟩ := bnd h
  refine V_invV1 (c := 11) (pc := 1) dX11_boats_1 (e_Mo_isFloe h_this e1) iv_Mo_271 (rm_Mo_boats_Mo_isFloe _ _ _) rfl h_this cf_11 rfl (Nat.le_of_ble_eq_true rfl) rfl ?_
  refine V_if_eq (pc := 4) (tgt := 31) dX11_boats_4 rfl (fun q => ?_) (fun q => ?_)
  · have h := ite_t q h
    refine V_bipush (v := (-2)) (pc := 31) dX11_boats_31 rfl ?_
    obtain rfl := Option.some.inj h
    exact E_i (pc := 33) dX11_boats_33 rfl hp
  · have h := ite_f q h
    refine V_iload_n (i := 1) (pc := 7) dX11_boats_7 rfl rfl ?_
    refine V_i2l (pc := 8) dX11_boats_8 ?_
    refine V_lconst (v := 0) (pc := 9) dX11_boats_9 rfl ?_
    refine V_ldc2 (v := 99) (pc := 10) dX11_boats_10 con_Mo_514 ?_
    obtain ⟨r13, e13, h⟩ := bnd h
    refine V_invS1 (pc := 13) dX11_boats_13 (e_Mo_in  e13) is_Mo_84 (rm_Mo_boats_Mo_in _ _ _) rfl (Nat.le_of_ble_eq_true rfl) rfl ?_
    refine V_if_eq (pc := 16) (tgt := 31) dX11_boats_16 rfl (fun q => ?_) (fun q => ?_)
    · have h := ite_t q h
      refine V_bipush (v := (-2)) (pc := 31) dX11_boats_31 rfl ?_
      obtain rfl := Option.some.inj h
      exact E_i (pc := 33) dX11_boats_33 rfl hp
    · have h := ite_f q h
      refine V_iload_n (i := 2) (pc := 19) dX11_boats_19 rfl rfl ?_
      refine V_i2l (pc := 20) dX11_boats_20 ?_
      refine V_lconst (v := 1) (pc := 21) dX11_boats_21 rfl ?_
      refine V_ldc2 (v := 1000) (pc := 22) dX11_boats_22 con_Mo_388 ?_
      obtain ⟨r25, e25, h⟩ := bnd h
      refine V_invS1 (pc := 25) dX11_boats_25 (e_Mo_in  e25) is_Mo_84 (rm_Mo_boats_Mo_in _ _ _) rfl (Nat.le_of_ble_eq_true rfl) rfl ?_
      refine V_if_ne (pc := 28) (tgt := 34) dX11_boats_28 rfl (fun q => ?_) (fun q => ?_)
      · have h := ite_f q h
        refine V_aload_n (i := 0) (pc := 34) dX11_boats_34 rfl rfl ?_
        obtain ⟨m35, e35, h⟩ := bnd h
        refine V_invV0 (c := 11) (pc := 35) dX11_boats_35 (e_Mo_beginMiles h_this e35) iv_Mo_516 (rm_Mo_boats_Mo_beginMiles _ _ _) rfl h_this cf_11 rfl (Nat.le_of_ble_eq_true rfl) rfl ?_
        refine V_iconst (v := 0) (pc := 38) dX11_boats_38 rfl ?_
        refine V_istore_n (i := 3) (ls' := [some (vr this), some (vi v1), some (vi v2), some (vi 0), none, none, none]) (pc := 39) dX11_boats_39 rfl (Nat.le_of_ble_eq_true rfl) rfl ?_
        exact loop_V (A := fun s : Int32 × Mem => V g Y_Mo_boats 40 [some (vr this), some (vi v1), some (vi v2), some (vi s.1), none, none, none] [] s.2 (PM g Y_Mo_boats r m')) (fun s x h hp => k_Mo_boats_l40 h_this h hp) (0, m35) _ h hp
      · have h := ite_t q h
        refine V_bipush (v := (-2)) (pc := 31) dX11_boats_31 rfl ?_
        obtain rfl := Option.some.inj h
        exact E_i (pc := 33) dX11_boats_33 rfl hp
theorem e_Mo_boats {g : GE} {this : Nat} {v1 : Int32} {v2 : Int32} {m : Mem} (h_this : kd this = 12) {x : Int32 × Mem} (h : Mo_boats this v1 v2 m = some x) : Ev g Y_Mo_boats [vr this, vi v1, vi v2] m (some (vi x.1)) x.2 :=
  Ev_of 4 (by decide +kernel) rfl (Nat.le_of_ble_eq_true rfl) rfl (k_Mo_boats h_this h ⟨rfl, rfl⟩)
theorem k_Mo_saw {g : GE} {this : Nat} {v1 : Int32} {m : Mem} (h_this : kd this = 12) {r : Option AV} {m' : Mem} {x : Int32 × Mem} (h : Mo_saw this v1 m = some x) (hp : (fun x : Int32 × Mem => r = some (vi x.1) ∧ m' = x.2) x) : V g Y_Mo_saw 0 [some (vr this), some (vi v1)] [] m (PM g Y_Mo_saw r m') := by
  unfold Mo_saw at h
  refine V_aload_n (i := 0) (pc := 0) dX11_saw_0 rfl rfl ?_
  refine V_iload_n (i := 1) (pc := 1) dX11_saw_1 rfl rfl ?_
  obtain ⟨r2, e2, h⟩ := bnd h
  refine V_invV1 (c := 11) (pc := 2) dX11_saw_2 (e_Mo_isCrack h_this e2) iv_Mo_326 (rm_Mo_saw_Mo_isCrack _ _ _) rfl h_this cf_11 rfl (Nat.le_of_ble_eq_true rfl) rfl ?_
  refine V_if_ne (pc := 5) (tgt := 11) dX11_saw_5 rfl (fun q => ?_) (fun q => ?_)
  · have h := ite_f q h
    refine V_aload_n (i := 0) (pc := 11) dX11_saw_11 rfl rfl ?_
    refine V_iload_n (i := 1) (pc := 12) dX11_saw_12 rfl rfl ?_
    refine V_bipush (v := 7) (pc := 13) dX11_saw_13 rfl ?_
    obtain ⟨r15, e15, h⟩ := bnd h
    refine V_invV1 (c := 11) (pc := 15) dX11_saw_15 (e_Mo_ofCrack h_this e15) iv_Mo_317 (rm_Mo_saw_Mo_ofCrack _ _ _) rfl h_this cf_11 rfl (Nat.le_of_ble_eq_true rfl) rfl ?_
    refine V_bipush (v := 99) (pc := 18) dX11_saw_18 rfl ?_
    refine V_icmp_ne (pc := 20) (tgt := 26) dX11_saw_20 rfl (fun q => ?_) (fun q => ?_)
    · have h := ite_f q h
      refine V_aload_n (i := 0) (pc := 26) dX11_saw_26 rfl rfl ?_
      refine V_getR (b := (this + 1)) (pc := 27) dX11_saw_27 fl_Mo_13 h_this rfl rfl ?_
      refine V_bipush (v := 24) (pc := 30) dX11_saw_30 rfl ?_
      refine V_bipush (v := 8) (pc := 32) dX11_saw_32 rfl ?_
      refine V_iload_n (i := 1) (pc := 34) dX11_saw_34 rfl rfl ?_
      refine V_imul (pc := 35) dX11_saw_35 ?_
      refine V_iadd (pc := 36) dX11_saw_36 ?_
      refine V_bipush (v := 7) (pc := 37) dX11_saw_37 rfl ?_
      refine V_iadd (pc := 39) dX11_saw_39 ?_
      refine V_dup2 (pc := 40) dX11_saw_40 ?_
      obtain ⟨hg41, h⟩ := gd_e h
      refine V_iald (pc := 41) dX11_saw_41 (kf_11_1 h_this) (af_11_1 h_this) hg41 ?_
      refine V_iconst (v := 1) (pc := 42) dX11_saw_42 rfl ?_
      refine V_iadd (pc := 43) dX11_saw_43 ?_
      obtain ⟨hg44, h⟩ := gd_e h
      refine V_iast_lt (pc := 44) dX11_saw_44 (kf_11_1 h_this) (af_11_1 h_this) hg44 h (fun m44 h => ?_)
      refine V_aload_n (i := 0) (pc := 45) dX11_saw_45 rfl rfl ?_
      refine V_iload_n (i := 1) (pc := 46) dX11_saw_46 rfl rfl ?_
      refine V_bipush (v := 7) (pc := 47) dX11_saw_47 rfl ?_
      obtain ⟨r49, e49, h⟩ := bnd h
      refine V_invV1 (c := 11) (pc := 49) dX11_saw_49 (e_Mo_ofCrack h_this e49) iv_Mo_317 (rm_Mo_saw_Mo_ofCrack _ _ _) rfl h_this cf_11 rfl (Nat.le_of_ble_eq_true rfl) rfl ?_
      obtain rfl := Option.some.inj h
      exact E_i (pc := 52) dX11_saw_52 rfl hp
    · have h := ite_t q h
      refine V_bipush (v := (-3)) (pc := 23) dX11_saw_23 rfl ?_
      obtain rfl := Option.some.inj h
      exact E_i (pc := 25) dX11_saw_25 rfl hp
  · have h := ite_t q h
    refine V_bipush (v := (-2)) (pc := 8) dX11_saw_8 rfl ?_
    obtain rfl := Option.some.inj h
    exact E_i (pc := 10) dX11_saw_10 rfl hp
theorem e_Mo_saw {g : GE} {this : Nat} {v1 : Int32} {m : Mem} (h_this : kd this = 12) {x : Int32 × Mem} (h : Mo_saw this v1 m = some x) : Ev g Y_Mo_saw [vr this, vi v1] m (some (vi x.1)) x.2 :=
  Ev_of 0 (by decide +kernel) rfl (Nat.le_of_ble_eq_true rfl) rfl (k_Mo_saw h_this h ⟨rfl, rfl⟩)
theorem k_Mo_pass {g : GE} {this : Nat} {v1 : Int32} {m : Mem} (h_this : kd this = 12) {r : Option AV} {m' : Mem} {x : Int32 × Mem} (h : Mo_pass this v1 m = some x) (hp : (fun x : Int32 × Mem => r = some (vi x.1) ∧ m' = x.2) x) : V g Y_Mo_pass 0 [some (vr this), some (vi v1)] [] m (PM g Y_Mo_pass r m') := by
  unfold Mo_pass at h
  refine V_aload_n (i := 0) (pc := 0) dX11_pass_0 rfl rfl ?_
  obtain ⟨r1, e1, h⟩ := bnd h
  refine V_invV1 (c := 11) (pc := 1) dX11_pass_1 (e_Mo_isFloe h_this e1) iv_Mo_271 (rm_Mo_pass_Mo_isFloe _ _ _) rfl h_this cf_11 rfl (Nat.le_of_ble_eq_true rfl) rfl ?_
  refine V_if_eq (pc := 4) (tgt := 34) dX11_pass_4 rfl (fun q => ?_) (fun q => ?_)
  · have h := ite_t q h
    refine V_bipush (v := (-2)) (pc := 34) dX11_pass_34 rfl ?_
    obtain rfl := Option.some.inj h
    exact E_i (pc := 36) dX11_pass_36 rfl hp
  · have h := ite_f q h
    refine V_iload_n (i := 1) (pc := 7) dX11_pass_7 rfl rfl ?_
    refine V_i2l (pc := 8) dX11_pass_8 ?_
    refine V_lconst (v := 0) (pc := 9) dX11_pass_9 rfl ?_
    refine V_ldc2 (v := 99) (pc := 10) dX11_pass_10 con_Mo_514 ?_
    obtain ⟨r13, e13, h⟩ := bnd h
    refine V_invS1 (pc := 13) dX11_pass_13 (e_Mo_in  e13) is_Mo_84 (rm_Mo_pass_Mo_in _ _ _) rfl (Nat.le_of_ble_eq_true rfl) rfl ?_
    refine V_if_eq (pc := 16) (tgt := 34) dX11_pass_16 rfl (fun q => ?_) (fun q => ?_)
    · have h := ite_t q h
      refine V_bipush (v := (-2)) (pc := 34) dX11_pass_34 rfl ?_
      obtain rfl := Option.some.inj h
      exact E_i (pc := 36) dX11_pass_36 rfl hp
    · have h := ite_f q h
      refine V_aload_n (i := 0) (pc := 19) dX11_pass_19 rfl rfl ?_
      refine V_getR (b := (this + 1)) (pc := 20) dX11_pass_20 fl_Mo_13 h_this rfl rfl ?_
      refine V_bipush (v := 19) (pc := 23) dX11_pass_23 rfl ?_
      obtain ⟨hg25, h⟩ := gd_e h
      refine V_iald (pc := 25) dX11_pass_25 (kf_11_1 h_this) (af_11_1 h_this) hg25 ?_
      refine V_iload_n (i := 1) (pc := 26) dX11_pass_26 rfl rfl ?_
      refine V_iadd (pc := 27) dX11_pass_27 ?_
      refine V_sipush (v := 9999) (pc := 28) dX11_pass_28 rfl ?_
      refine V_icmp_le (pc := 31) (tgt := 37) dX11_pass_31 rfl (fun q => ?_) (fun q => ?_)
      · have h := ite_t q h
        refine V_aload_n (i := 0) (pc := 37) dX11_pass_37 rfl rfl ?_
        refine V_getR (b := (this + 1)) (pc := 38) dX11_pass_38 fl_Mo_13 h_this rfl rfl ?_
        refine V_bipush (v := 19) (pc := 41) dX11_pass_41 rfl ?_
        refine V_dup2 (pc := 43) dX11_pass_43 ?_
        obtain ⟨hg44, h⟩ := gd_e h
        refine V_iald (pc := 44) dX11_pass_44 (kf_11_1 h_this) (af_11_1 h_this) hg44 ?_
        refine V_iload_n (i := 1) (pc := 45) dX11_pass_45 rfl rfl ?_
        refine V_iadd (pc := 46) dX11_pass_46 ?_
        obtain ⟨hg47, h⟩ := gd_e h
        refine V_iast_lt (pc := 47) dX11_pass_47 (kf_11_1 h_this) (af_11_1 h_this) hg47 h (fun m47 h => ?_)
        refine V_aload_n (i := 0) (pc := 48) dX11_pass_48 rfl rfl ?_
        refine V_getR (b := (this + 1)) (pc := 49) dX11_pass_49 fl_Mo_13 h_this rfl rfl ?_
        refine V_bipush (v := 19) (pc := 52) dX11_pass_52 rfl ?_
        obtain ⟨hg54, h⟩ := gd_e h
        refine V_iald (pc := 54) dX11_pass_54 (kf_11_1 h_this) (af_11_1 h_this) hg54 ?_
        obtain rfl := Option.some.inj h
        exact E_i (pc := 55) dX11_pass_55 rfl hp
      · have h := ite_f q h
        refine V_bipush (v := (-2)) (pc := 34) dX11_pass_34 rfl ?_
        obtain rfl := Option.some.inj h
        exact E_i (pc := 36) dX11_pass_36 rfl hp
theorem e_Mo_pass {g : GE} {this : Nat} {v1 : Int32} {m : Mem} (h_this : kd this = 12) {x : Int32 × Mem} (h : Mo_pass this v1 m = some x) : Ev g Y_Mo_pass [vr this, vi v1] m (some (vi x.1)) x.2 :=
  Ev_of 0 (by decide +kernel) rfl (Nat.le_of_ble_eq_true rfl) rfl (k_Mo_pass h_this h ⟨rfl, rfl⟩)
theorem k_Mo_seam {g : GE} {this : Nat} {v1 : Int32} {m : Mem} (h_this : kd this = 12) {r : Option AV} {m' : Mem} {x : Int32} (h : Mo_seam this v1 m = some x) (hp : (fun x : Int32 => r = some (vi x) ∧ m' = m) x) : V g Y_Mo_seam 0 [some (vr this), some (vi v1)] [] m (PM g Y_Mo_seam r m') := by
  unfold Mo_seam at h
  refine V_aload_n (i := 0) (pc := 0) dX11_seam_0 rfl rfl ?_
  refine V_iload_n (i := 1) (pc := 1) dX11_seam_1 rfl rfl ?_
  obtain ⟨r2, e2, h⟩ := bnd h
  refine V_invV1 (c := 11) (pc := 2) dX11_seam_2 (e_Mo_isCrack h_this e2) iv_Mo_326 (rm_Mo_seam_Mo_isCrack _ _ _) rfl h_this cf_11 rfl (Nat.le_of_ble_eq_true rfl) rfl ?_
  refine V_if_eq (pc := 5) (tgt := 42) dX11_seam_5 rfl (fun q => ?_) (fun q => ?_)
  · have h := ite_t q h
    refine V_bipush (v := (-2)) (pc := 42) dX11_seam_42 rfl ?_
    obtain rfl := Option.some.inj h
    exact E_i (pc := 44) dX11_seam_44 rfl hp
  · have h := ite_f q h
    refine V_bipush (v := 100) (pc := 8) dX11_seam_8 rfl ?_
    refine V_aload_n (i := 0) (pc := 10) dX11_seam_10 rfl rfl ?_
    refine V_iload_n (i := 1) (pc := 11) dX11_seam_11 rfl rfl ?_
    obtain ⟨r12, e12, h⟩ := bnd h
    refine V_invV1 (c := 11) (pc := 12) dX11_seam_12 (e_Mo_oddsOf h_this e12) iv_Mo_329 (rm_Mo_seam_Mo_oddsOf _ _ _) rfl h_this cf_11 rfl (Nat.le_of_ble_eq_true rfl) rfl ?_
    refine V_imul (pc := 15) dX11_seam_15 ?_
    refine V_sipush (v := 10000) (pc := 16) dX11_seam_16 rfl ?_
    refine V_aload_n (i := 0) (pc := 19) dX11_seam_19 rfl rfl ?_
    refine V_iload_n (i := 1) (pc := 20) dX11_seam_20 rfl rfl ?_
    refine V_bipush (v := 7) (pc := 21) dX11_seam_21 rfl ?_
    obtain ⟨r23, e23, h⟩ := bnd h
    refine V_invV1 (c := 11) (pc := 23) dX11_seam_23 (e_Mo_ofCrack h_this e23) iv_Mo_317 (rm_Mo_seam_Mo_ofCrack _ _ _) rfl h_this cf_11 rfl (Nat.le_of_ble_eq_true rfl) rfl ?_
    refine V_imul (pc := 26) dX11_seam_26 ?_
    refine V_iadd (pc := 27) dX11_seam_27 ?_
    refine V_bipush (v := 100) (pc := 28) dX11_seam_28 rfl ?_
    refine V_aload_n (i := 0) (pc := 30) dX11_seam_30 rfl rfl ?_
    refine V_getR (b := (this + 1)) (pc := 31) dX11_seam_31 fl_Mo_13 h_this rfl rfl ?_
    refine V_bipush (v := 19) (pc := 34) dX11_seam_34 rfl ?_
    obtain ⟨hg36, h⟩ := gd_e h
    refine V_iald (pc := 36) dX11_seam_36 (kf_11_1 h_this) (af_11_1 h_this) hg36 ?_
    refine V_iadd (pc := 37) dX11_seam_37 ?_
    obtain ⟨hg38, h⟩ := gd_e h
    refine V_idiv (pc := 38) dX11_seam_38 hg38 ?_
    refine V_goto (tgt := 44) (pc := 39) dX11_seam_39 rfl ?_
    obtain rfl := Option.some.inj h
    exact E_i (pc := 44) dX11_seam_44 rfl hp
theorem e_Mo_seam {g : GE} {this : Nat} {v1 : Int32} {m : Mem} (h_this : kd this = 12) {x : Int32} (h : Mo_seam this v1 m = some x) : Ev g Y_Mo_seam [vr this, vi v1] m (some (vi x)) m :=
  Ev_of 0 (by decide +kernel) rfl (Nat.le_of_ble_eq_true rfl) rfl (k_Mo_seam h_this h ⟨rfl, rfl⟩)
theorem k_Mo_draw {g : GE} {this : Nat} {m : Mem} (h_this : kd this = 12) {r : Option AV} {m' : Mem} {x : Int32 × Mem} (h : Mo_draw this m = some x) (hp : (fun x : Int32 × Mem => r = some (vi x.1) ∧ m' = x.2) x) : V g Y_Mo_draw 0 [some (vr this)] [] m (PM g Y_Mo_draw r m') := by
  unfold Mo_draw at h
  refine V_aload_n (i := 0) (pc := 0) dX11_draw_0 rfl rfl ?_
  refine V_ldc2 (v := 1103515245) (pc := 1) dX11_draw_1 con_Mo_522 ?_
  refine V_aload_n (i := 0) (pc := 4) dX11_draw_4 rfl rfl ?_
  refine V_getL (pc := 5) dX11_draw_5 fl_Mo_524 h_this rfl ?_
  refine V_lmul (pc := 8) dX11_draw_8 ?_
  refine V_ldc2 (v := 12345) (pc := 9) dX11_draw_9 con_Mo_528 ?_
  refine V_ladd (pc := 12) dX11_draw_12 ?_
  refine V_ldc2 (v := 2147483648) (pc := 13) dX11_draw_13 con_Mo_530 ?_
  refine V_lrem (pc := 16) dX11_draw_16 (by decide) ?_
  refine V_putL_lt (pc := 17) dX11_draw_17 fp_Mo_524 h_this rfl h (fun m17 h => ?_)
  refine V_aload_n (i := 0) (pc := 20) dX11_draw_20 rfl rfl ?_
  refine V_getL (pc := 21) dX11_draw_21 fl_Mo_524 h_this rfl ?_
  refine V_ldc2 (v := 65536) (pc := 24) dX11_draw_24 con_Mo_532 ?_
  refine V_ldiv (pc := 27) dX11_draw_27 (by decide) ?_
  refine V_ldc2 (v := 10000) (pc := 28) dX11_draw_28 con_Mo_338 ?_
  refine V_lrem (pc := 31) dX11_draw_31 (by decide) ?_
  refine V_l2i (pc := 32) dX11_draw_32 ?_
  obtain rfl := Option.some.inj h
  exact E_i (pc := 33) dX11_draw_33 rfl hp
theorem e_Mo_draw {g : GE} {this : Nat} {m : Mem} (h_this : kd this = 12) {x : Int32 × Mem} (h : Mo_draw this m = some x) : Ev g Y_Mo_draw [vr this] m (some (vi x.1)) x.2 :=
  Ev_of 0 (by decide +kernel) rfl (Nat.le_of_ble_eq_true rfl) rfl (k_Mo_draw h_this h ⟨rfl, rfl⟩)
theorem k_Mo_springsOut_b152 {g : GE} {this : Nat} {v3 : Int32} {v4 : Int32} {v5 : Int32}  {m : Mem} (h_this : kd this = 12) {r : Option AV} {m' : Mem} {x : (Int32 × Int32 × Mem) ⊕ (Int32 × Mem)} (h : Mo_springsOut_b152 this v3 v4 v5 m = some x) (hp : (Sum.elim (fun s : Int32 × Int32 × Mem => V g Y_Mo_springsOut 22 [some (vr this), none, none, some (vi v3), some (vi s.1), some (vi s.2.1), none, none, none] [] s.2.2 (PM g Y_Mo_springsOut r m')) (fun x : Int32 × Mem => r = some (vi x.1) ∧ m' = x.2)) x) : V g Y_Mo_springsOut 152 [some (vr this), none, none, some (vi v3), some (vi v4), some (vi v5), none, none, none] [] m (PM g Y_Mo_springsOut r m') := by
  unfold Mo_springsOut_b152 at h
  refine V_iinc (i := 5) (v := (v5 + 1)) (ls' := [some (vr this), none, none, some (vi v3), some (vi v4), some (vi (v5 + 1)), none, none, none]) (pc := 152) dX11_springsOut_152 rfl rfl (Nat.le_of_ble_eq_true rfl) rfl ?_
  refine V_goto (tgt := 22) (pc := 155) dX11_springsOut_155 rfl ?_
  obtain rfl := Option.some.inj h
  exact hp
theorem k_Mo_springsOut_b123 {g : GE} {this : Nat} {v3 : Int32} {v4 : Int32} {v5 : Int32} {v6 : Int32} {k1 : Int32}  {m : Mem} (h_this : kd this = 12) {r : Option AV} {m' : Mem} {x : (Int32 × Mem) ⊕ ((Int32 × Int32 × Mem) ⊕ (Int32 × Mem))} (h : Mo_springsOut_b123 this v3 v4 v5 v6 k1 m = some x) (hp : (Sum.elim (fun s : Int32 × Mem => V g Y_Mo_springsOut 31 [some (vr this), none, none, some (vi v3), some (vi v4), some (vi v5), some (vi s.1), none, none] [] s.2 (PM g Y_Mo_springsOut r m')) (Sum.elim (fun s : Int32 × Int32 × Mem => V g Y_Mo_springsOut 22 [some (vr this), none, none, some (vi v3), some (vi s.1), some (vi s.2.1), none, none, none] [] s.2.2 (PM g Y_Mo_springsOut r m')) (fun x : Int32 × Mem => r = some (vi x.1) ∧ m' = x.2))) x) : V g Y_Mo_springsOut 123 [some (vr this), none, none, some (vi v3), some (vi v4), some (vi v5), some (vi v6), none, none] [vi k1, vr this] m (PM g Y_Mo_springsOut r m') := by
  unfold Mo_springsOut_b123 at h
  refine V_putI_lt (pc := 123) dX11_springsOut_123 fp_Mo_534 h_this rfl rfl rfl h (fun m123 h => ?_)
  refine V_iinc (i := 6) (v := (v6 + 1)) (ls' := [some (vr this), none, none, some (vi v3), some (vi v4), some (vi v5), some (vi (v6 + 1)), none, none]) (pc := 126) dX11_springsOut_126 rfl rfl (Nat.le_of_ble_eq_true rfl) rfl ?_
  refine V_goto (tgt := 31) (pc := 129) dX11_springsOut_129 rfl ?_
  obtain rfl := Option.some.inj h
  exact hp
theorem k_Mo_springsOut_b99 {g : GE} {this : Nat} {v3 : Int32} {v4 : Int32} {v5 : Int32} {v6 : Int32} {k0 : Int32}  {m : Mem} (h_this : kd this = 12) {r : Option AV} {m' : Mem} {x : (Int32 × Mem) ⊕ ((Int32 × Int32 × Mem) ⊕ (Int32 × Mem))} (h : Mo_springsOut_b99 this v3 v4 v5 v6 k0 m = some x) (hp : (Sum.elim (fun s : Int32 × Mem => V g Y_Mo_springsOut 31 [some (vr this), none, none, some (vi v3), some (vi v4), some (vi v5), some (vi s.1), none, none] [] s.2 (PM g Y_Mo_springsOut r m')) (Sum.elim (fun s : Int32 × Int32 × Mem => V g Y_Mo_springsOut 22 [some (vr this), none, none, some (vi v3), some (vi s.1), some (vi s.2.1), none, none, none] [] s.2.2 (PM g Y_Mo_springsOut r m')) (fun x : Int32 × Mem => r = some (vi x.1) ∧ m' = x.2))) x) : V g Y_Mo_springsOut 99 [some (vr this), none, none, some (vi v3), some (vi v4), some (vi v5), some (vi v6), none, none] [vi k0] m (PM g Y_Mo_springsOut r m') := by
  unfold Mo_springsOut_b99 at h
  refine V_istore (i := 8) (ls' := [some (vr this), none, none, some (vi v3), some (vi v4), some (vi v5), some (vi v6), none, some (vi k0)]) (pc := 99) dX11_springsOut_99 (Nat.le_of_ble_eq_true rfl) rfl ?_
  refine V_aload_n (i := 0) (pc := 101) dX11_springsOut_101 rfl rfl ?_
  refine V_iload (i := 8) (pc := 102) dX11_springsOut_102 rfl ?_
  refine V_if_eq (pc := 104) (tgt := 119) dX11_springsOut_104 rfl (fun q => ?_) (fun q => ?_)
  · have h := ite_t q h
    refine V_aload_n (i := 0) (pc := 119) dX11_springsOut_119 rfl rfl ?_
    refine V_getI (pc := 120) dX11_springsOut_120 fl_Mo_534 h_this rfl ?_
    refine V_sub (ls' := [some (vr this), none, none, some (vi v3), some (vi v4), some (vi v5), some (vi v6), none, none]) (And.intro rfl (And.intro rfl (And.intro rfl (And.intro rfl (And.intro rfl trivial))))) ?_
    exact k_Mo_springsOut_b123 h_this h hp
  · have h := ite_f q h
    refine V_aload_n (i := 0) (pc := 107) dX11_springsOut_107 rfl rfl ?_
    refine V_getI (pc := 108) dX11_springsOut_108 fl_Mo_534 h_this rfl ?_
    refine V_iconst (v := 1) (pc := 111) dX11_springsOut_111 rfl ?_
    refine V_iload (i := 6) (pc := 112) dX11_springsOut_112 rfl ?_
    refine V_ishl (pc := 114) dX11_springsOut_114 ?_
    refine V_ixor (pc := 115) dX11_springsOut_115 ?_
    refine V_goto (tgt := 123) (pc := 116) dX11_springsOut_116 rfl ?_
    refine V_sub (ls' := [some (vr this), none, none, some (vi v3), some (vi v4), some (vi v5), some (vi v6), none, none]) (And.intro rfl (And.intro rfl (And.intro rfl (And.intro rfl (And.intro rfl trivial))))) ?_
    exact k_Mo_springsOut_b123 h_this h hp
theorem k_Mo_springsOut_l31 {g : GE} {this : Nat} {v3 : Int32} {v4 : Int32} {v5 : Int32} {v6 : Int32} {m : Mem} (h_this : kd this = 12) {r : Option AV} {m' : Mem} {x : (Int32 × Mem) ⊕ ((Int32 × Int32 × Mem) ⊕ (Int32 × Mem))} (h : Mo_springsOut_l31 this v3 v4 v5 v6 m = some x) (hp : (Sum.elim (fun s : Int32 × Mem => V g Y_Mo_springsOut 31 [some (vr this), none, none, some (vi v3), some (vi v4), some (vi v5), some (vi s.1), none, none] [] s.2 (PM g Y_Mo_springsOut r m')) (Sum.elim (fun s : Int32 × Int32 × Mem => V g Y_Mo_springsOut 22 [some (vr this), none, none, some (vi v3), some (vi s.1), some (vi s.2.1), none, none, none] [] s.2.2 (PM g Y_Mo_springsOut r m')) (fun x : Int32 × Mem => r = some (vi x.1) ∧ m' = x.2))) x) : V g Y_Mo_springsOut 31 [some (vr this), none, none, some (vi v3), some (vi v4), some (vi v5), some (vi v6), none, none] [] m (PM g Y_Mo_springsOut r m') := by
  unfold Mo_springsOut_l31 at h
  refine V_iload (i := 6) (pc := 31) dX11_springsOut_31 rfl ?_
  refine V_aload_n (i := 0) (pc := 33) dX11_springsOut_33 rfl rfl ?_
  refine V_getR (b := (this + 1)) (pc := 34) dX11_springsOut_34 fl_Mo_13 h_this rfl rfl ?_
  refine V_iconst (v := 5) (pc := 37) dX11_springsOut_37 rfl ?_
  obtain ⟨hg38, h⟩ := gd_e h
  refine V_iald (pc := 38) dX11_springsOut_38 (kf_11_1 h_this) (af_11_1 h_this) hg38 ?_
  refine V_icmp_ge (pc := 39) (tgt := 132) dX11_springsOut_39 rfl (fun q => ?_) (fun q => ?_)
  · have h := ite_t q h
    obtain ⟨y2, hu2, rfl⟩ := up_e h
    have h := hu2
    refine V_iload (i := 4) (pc := 132) dX11_springsOut_132 rfl ?_
    refine V_if_ne (pc := 134) (tgt := 152) dX11_springsOut_134 rfl (fun q => ?_) (fun q => ?_)
    · have h := ite_f q h
      refine V_sub (ls' := [some (vr this), none, none, some (vi v3), some (vi v4), some (vi v5), none, none, none]) (And.intro rfl (And.intro rfl (And.intro rfl (And.intro rfl trivial)))) ?_
      exact k_Mo_springsOut_b152 h_this h hp
    · have h := ite_t q h
      refine V_aload_n (i := 0) (pc := 137) dX11_springsOut_137 rfl rfl ?_
      refine V_aload_n (i := 0) (pc := 138) dX11_springsOut_138 rfl rfl ?_
      refine V_getI (pc := 139) dX11_springsOut_139 fl_Mo_534 h_this rfl ?_
      obtain ⟨r142, e142, h⟩ := bnd h
      refine V_invV1 (c := 11) (pc := 142) dX11_springsOut_142 (e_Mo_isEnough h_this e142) iv_Mo_353 (rm_Mo_springsOut_Mo_isEnough _ _ _) rfl h_this cf_11 rfl (Nat.le_of_ble_eq_true rfl) rfl ?_
      refine V_if_ne (pc := 145) (tgt := 152) dX11_springsOut_145 rfl (fun q => ?_) (fun q => ?_)
      · have h := ite_f q h
        refine V_sub (ls' := [some (vr this), none, none, some (vi v3), some (vi v4), some (vi v5), none, none, none]) (And.intro rfl (And.intro rfl (And.intro rfl (And.intro rfl trivial)))) ?_
        exact k_Mo_springsOut_b152 h_this h hp
      · have h := ite_t q h
        refine V_iload (i := 5) (pc := 148) dX11_springsOut_148 rfl ?_
        refine V_istore (i := 4) (ls' := [some (vr this), none, none, some (vi v3), some (vi v5), some (vi v5), some (vi v6), none, none]) (pc := 150) dX11_springsOut_150 (Nat.le_of_ble_eq_true rfl) rfl ?_
        refine V_sub (ls' := [some (vr this), none, none, some (vi v3), some (vi v5), some (vi v5), none, none, none]) (And.intro rfl (And.intro rfl (And.intro rfl (And.intro rfl trivial)))) ?_
        exact k_Mo_springsOut_b152 h_this h hp
  · have h := ite_f q h
    refine V_aload_n (i := 0) (pc := 42) dX11_springsOut_42 rfl rfl ?_
    obtain ⟨r43, e43, h⟩ := bnd h
    refine V_invV1 (c := 11) (pc := 43) dX11_springsOut_43 (e_Mo_draw h_this e43) iv_Mo_537 (rm_Mo_springsOut_Mo_draw _ _ _) rfl h_this cf_11 rfl (Nat.le_of_ble_eq_true rfl) rfl ?_
    refine V_istore (i := 7) (ls' := [some (vr this), none, none, some (vi v3), some (vi v4), some (vi v5), some (vi v6), some (vi r43.1), none]) (pc := 46) dX11_springsOut_46 (Nat.le_of_ble_eq_true rfl) rfl ?_
    refine V_aload_n (i := 0) (pc := 48) dX11_springsOut_48 rfl rfl ?_
    refine V_getI (pc := 49) dX11_springsOut_49 fl_Mo_534 h_this rfl ?_
    refine V_iload (i := 6) (pc := 52) dX11_springsOut_52 rfl ?_
    obtain ⟨r54, e54, h⟩ := bnd h
    refine V_invS1 (pc := 54) dX11_springsOut_54 (e_Mo_holds  e54) is_Mo_239 (rm_Mo_springsOut_Mo_holds _ _ _) rfl (Nat.le_of_ble_eq_true rfl) rfl ?_
    refine V_if_eq (pc := 57) (tgt := 83) dX11_springsOut_57 rfl (fun q => ?_) (fun q => ?_)
    · have h := ite_t q h
      refine V_iload (i := 7) (pc := 83) dX11_springsOut_83 rfl ?_
      refine V_aload_n (i := 0) (pc := 85) dX11_springsOut_85 rfl rfl ?_
      refine V_iload (i := 6) (pc := 86) dX11_springsOut_86 rfl ?_
      obtain ⟨r88, e88, h⟩ := bnd h
      refine V_invV1 (c := 11) (pc := 88) dX11_springsOut_88 (e_Mo_oddsOf h_this e88) iv_Mo_329 (rm_Mo_springsOut_Mo_oddsOf _ _ _) rfl h_this cf_11 rfl (Nat.le_of_ble_eq_true rfl) rfl ?_
      refine V_icmp_ge (pc := 91) (tgt := 98) dX11_springsOut_91 rfl (fun q => ?_) (fun q => ?_)
      · have h := ite_t q h
        refine V_iconst (v := 0) (pc := 98) dX11_springsOut_98 rfl ?_
        refine V_sub (ls' := [some (vr this), none, none, some (vi v3), some (vi v4), some (vi v5), some (vi v6), none, none]) (And.intro rfl (And.intro rfl (And.intro rfl (And.intro rfl (And.intro rfl trivial))))) ?_
        exact k_Mo_springsOut_b99 h_this h hp
      · have h := ite_f q h
        refine V_iconst (v := 1) (pc := 94) dX11_springsOut_94 rfl ?_
        refine V_goto (tgt := 99) (pc := 95) dX11_springsOut_95 rfl ?_
        refine V_sub (ls' := [some (vr this), none, none, some (vi v3), some (vi v4), some (vi v5), some (vi v6), none, none]) (And.intro rfl (And.intro rfl (And.intro rfl (And.intro rfl (And.intro rfl trivial))))) ?_
        exact k_Mo_springsOut_b99 h_this h hp
    · have h := ite_f q h
      refine V_iload (i := 7) (pc := 60) dX11_springsOut_60 rfl ?_
      refine V_bipush (v := 100) (pc := 62) dX11_springsOut_62 rfl ?_
      refine V_aload_n (i := 0) (pc := 64) dX11_springsOut_64 rfl rfl ?_
      refine V_getR (b := (this + 1)) (pc := 65) dX11_springsOut_65 fl_Mo_13 h_this rfl rfl ?_
      refine V_bipush (v := 10) (pc := 68) dX11_springsOut_68 rfl ?_
      obtain ⟨hg70, h⟩ := gd_e h
      refine V_iald (pc := 70) dX11_springsOut_70 (kf_11_1 h_this) (af_11_1 h_this) hg70 ?_
      refine V_imul (pc := 71) dX11_springsOut_71 ?_
      refine V_icmp_ge (pc := 72) (tgt := 79) dX11_springsOut_72 rfl (fun q => ?_) (fun q => ?_)
      · have h := ite_t q h
        refine V_iconst (v := 0) (pc := 79) dX11_springsOut_79 rfl ?_
        refine V_goto (tgt := 99) (pc := 80) dX11_springsOut_80 rfl ?_
        refine V_sub (ls' := [some (vr this), none, none, some (vi v3), some (vi v4), some (vi v5), some (vi v6), none, none]) (And.intro rfl (And.intro rfl (And.intro rfl (And.intro rfl (And.intro rfl trivial))))) ?_
        exact k_Mo_springsOut_b99 h_this h hp
      · have h := ite_f q h
        refine V_iconst (v := 1) (pc := 75) dX11_springsOut_75 rfl ?_
        refine V_goto (tgt := 99) (pc := 76) dX11_springsOut_76 rfl ?_
        refine V_sub (ls' := [some (vr this), none, none, some (vi v3), some (vi v4), some (vi v5), some (vi v6), none, none]) (And.intro rfl (And.intro rfl (And.intro rfl (And.intro rfl (And.intro rfl trivial))))) ?_
        exact k_Mo_springsOut_b99 h_this h hp
theorem k_Mo_springsOut_l22 {g : GE} {this : Nat} {v3 : Int32} {v4 : Int32} {v5 : Int32} {m : Mem} (h_this : kd this = 12) {r : Option AV} {m' : Mem} {x : (Int32 × Int32 × Mem) ⊕ (Int32 × Mem)} (h : Mo_springsOut_l22 this v3 v4 v5 m = some x) (hp : (Sum.elim (fun s : Int32 × Int32 × Mem => V g Y_Mo_springsOut 22 [some (vr this), none, none, some (vi v3), some (vi s.1), some (vi s.2.1), none, none, none] [] s.2.2 (PM g Y_Mo_springsOut r m')) (fun x : Int32 × Mem => r = some (vi x.1) ∧ m' = x.2)) x) : V g Y_Mo_springsOut 22 [some (vr this), none, none, some (vi v3), some (vi v4), some (vi v5), none, none, none] [] m (PM g Y_Mo_springsOut r m') := by
  unfold Mo_springsOut_l22 at h
  refine V_iload (i := 5) (pc := 22) dX11_springsOut_22 rfl ?_
  refine V_iload_n (i := 3) (pc := 24) dX11_springsOut_24 rfl rfl ?_
  refine V_icmp_gt (pc := 25) (tgt := 158) dX11_springsOut_25 rfl (fun q => ?_) (fun q => ?_)
  · have h := ite_t q h
    obtain ⟨y1, hu1, rfl⟩ := up_e h
    have h := hu1
    refine V_iload (i := 4) (pc := 158) dX11_springsOut_158 rfl ?_
    obtain rfl := Option.some.inj h
    exact E_i (pc := 160) dX11_springsOut_160 rfl hp
  · have h := ite_f q h
    refine V_iconst (v := 0) (pc := 28) dX11_springsOut_28 rfl ?_
    refine V_istore (i := 6) (ls' := [some (vr this), none, none, some (vi v3), some (vi v4), some (vi v5), some (vi 0), none, none]) (pc := 29) dX11_springsOut_29 (Nat.le_of_ble_eq_true rfl) rfl ?_
    exact loop_V (A := fun s : Int32 × Mem => V g Y_Mo_springsOut 31 [some (vr this), none, none, some (vi v3), some (vi v4), some (vi v5), some (vi s.1), none, none] [] s.2 (PM g Y_Mo_springsOut r m')) (fun s x h hp => k_Mo_springsOut_l31 h_this h hp) (0, m) _ h hp
theorem k_Mo_springsOut {g : GE} {this : Nat} {v1 : Int64} {v3 : Int32} {m : Mem} (h_this : kd this = 12) {r : Option AV} {m' : Mem} {x : Int32 × Mem} (h : Mo_springsOut this v1 v3 m = some x) (hp : (fun x : Int32 × Mem => r = some (vi x.1) ∧ m' = x.2) x) : V g Y_Mo_springsOut 0 [some (vr this), some (vl v1), none, some (vi v3), none, none, none, none, none] [] m (PM g Y_Mo_springsOut r m') := by
  unfold Mo_springsOut at h
  refine V_aload_n (i := 0) (pc := 0) dX11_springsOut_0 rfl rfl ?_
  refine V_lload_n (i := 1) (pc := 1) dX11_springsOut_1 rfl rfl ?_
  refine V_putL_lt (pc := 2) dX11_springsOut_2 fp_Mo_524 h_this rfl h (fun m2 h => ?_)
  refine V_aload_n (i := 0) (pc := 5) dX11_springsOut_5 rfl rfl ?_
  refine V_aload_n (i := 0) (pc := 6) dX11_springsOut_6 rfl rfl ?_
  refine V_getR (b := (this + 1)) (pc := 7) dX11_springsOut_7 fl_Mo_13 h_this rfl rfl ?_
  refine V_bipush (v := 18) (pc := 10) dX11_springsOut_10 rfl ?_
  obtain ⟨hg12, h⟩ := gd_e h
  refine V_iald (pc := 12) dX11_springsOut_12 (kf_11_1 h_this) (af_11_1 h_this) hg12 ?_
  refine V_putI_lt (pc := 13) dX11_springsOut_13 fp_Mo_534 h_this rfl rfl rfl h (fun m13 h => ?_)
  refine V_iconst (v := 0) (pc := 16) dX11_springsOut_16 rfl ?_
  refine V_istore (i := 4) (ls' := [some (vr this), some (vl v1), none, some (vi v3), some (vi 0), none, none, none, none]) (pc := 17) dX11_springsOut_17 (Nat.le_of_ble_eq_true rfl) rfl ?_
  refine V_iconst (v := 1) (pc := 19) dX11_springsOut_19 rfl ?_
  refine V_istore (i := 5) (ls' := [some (vr this), some (vl v1), none, some (vi v3), some (vi 0), some (vi 1), none, none, none]) (pc := 20) dX11_springsOut_20 (Nat.le_of_ble_eq_true rfl) rfl ?_
  refine V_sub (ls' := [some (vr this), none, none, some (vi v3), some (vi 0), some (vi 1), none, none, none]) (And.intro rfl (And.intro rfl (And.intro rfl (And.intro rfl trivial)))) ?_
  exact loop_V (A := fun s : Int32 × Int32 × Mem => V g Y_Mo_springsOut 22 [some (vr this), none, none, some (vi v3), some (vi s.1), some (vi s.2.1), none, none, none] [] s.2.2 (PM g Y_Mo_springsOut r m')) (fun s x h hp => k_Mo_springsOut_l22 h_this h hp) (0, 1, m13) _ h hp
theorem e_Mo_springsOut {g : GE} {this : Nat} {v1 : Int64} {v3 : Int32} {m : Mem} (h_this : kd this = 12) {x : Int32 × Mem} (h : Mo_springsOut this v1 v3 m = some x) : Ev g Y_Mo_springsOut [vr this, vl v1, vi v3] m (some (vi x.1)) x.2 :=
  Ev_of 5 (by decide +kernel) rfl (Nat.le_of_ble_eq_true rfl) rfl (k_Mo_springsOut h_this h ⟨rfl, rfl⟩)
theorem k_Mo_isSeed {g : GE} {v0 : Int32} {m : Mem} {r : Option AV} {m' : Mem} {x : Int32} (h : Mo_isSeed v0 m = some x) (hp : (fun x : Int32 => r = some (vi x) ∧ m' = m) x) : V g Y_Mo_isSeed 0 [some (vi v0)] [] m (PM g Y_Mo_isSeed r m') := by
  unfold Mo_isSeed at h
  refine V_iload_n (i := 0) (pc := 0) dX11_isSeed_0 rfl rfl ?_
  refine V_i2l (pc := 1) dX11_isSeed_1 ?_
  refine V_lconst (v := 0) (pc := 2) dX11_isSeed_2 rfl ?_
  refine V_ldc2 (v := 2000000000) (pc := 3) dX11_isSeed_3 con_Mo_540 ?_
  obtain ⟨r6, e6, h⟩ := bnd h
  refine V_invS1 (pc := 6) dX11_isSeed_6 (e_Mo_in  e6) is_Mo_84 (rm_Mo_isSeed_Mo_in _ _ _) rfl (Nat.le_of_ble_eq_true rfl) rfl ?_
  obtain ⟨hz, h⟩ := gd_e h
  obtain rfl := Option.some.inj h
  exact E_z (pc := 9) dX11_isSeed_9 rfl (nar_z hz) hp
theorem e_Mo_isSeed {g : GE} {v0 : Int32} {m : Mem} {x : Int32} (h : Mo_isSeed v0 m = some x) : Ev g Y_Mo_isSeed [vi v0] m (some (vi x)) m :=
  Ev_of 0 (by decide +kernel) rfl (Nat.le_of_ble_eq_true rfl) rfl (k_Mo_isSeed  h ⟨rfl, rfl⟩)
theorem k_Mo_run {g : GE} {this : Nat} {v1 : Int32} {v2 : Int32} {m : Mem} (h_this : kd this = 12) {r : Option AV} {m' : Mem} {x : Int32 × Mem} (h : Mo_run this v1 v2 m = some x) (hp : (fun x : Int32 × Mem => r = some (vi x.1) ∧ m' = x.2) x) : V g Y_Mo_run 0 [some (vr this), some (vi v1), some (vi v2)] [] m (PM g Y_Mo_run r m') := by
  unfold Mo_run at h
  refine V_iload_n (i := 1) (pc := 0) dX11_run_0 rfl rfl ?_
  obtain ⟨r1, e1, h⟩ := bnd h
  refine V_invS1 (pc := 1) dX11_run_1 (e_Mo_isSeed  e1) is_Mo_542 (rm_Mo_run_Mo_isSeed _ _ _) rfl (Nat.le_of_ble_eq_true rfl) rfl ?_
  refine V_if_eq (pc := 4) (tgt := 26) dX11_run_4 rfl (fun q => ?_) (fun q => ?_)
  · have h := ite_t q h
    refine V_bipush (v := (-2)) (pc := 26) dX11_run_26 rfl ?_
    obtain rfl := Option.some.inj h
    exact E_i (pc := 28) dX11_run_28 rfl hp
  · have h := ite_f q h
    refine V_iload_n (i := 2) (pc := 7) dX11_run_7 rfl rfl ?_
    refine V_i2l (pc := 8) dX11_run_8 ?_
    refine V_lconst (v := 0) (pc := 9) dX11_run_9 rfl ?_
    refine V_ldc2 (v := 99) (pc := 10) dX11_run_10 con_Mo_514 ?_
    obtain ⟨r13, e13, h⟩ := bnd h
    refine V_invS1 (pc := 13) dX11_run_13 (e_Mo_in  e13) is_Mo_84 (rm_Mo_run_Mo_in _ _ _) rfl (Nat.le_of_ble_eq_true rfl) rfl ?_
    refine V_if_eq (pc := 16) (tgt := 26) dX11_run_16 rfl (fun q => ?_) (fun q => ?_)
    · have h := ite_t q h
      refine V_bipush (v := (-2)) (pc := 26) dX11_run_26 rfl ?_
      obtain rfl := Option.some.inj h
      exact E_i (pc := 28) dX11_run_28 rfl hp
    · have h := ite_f q h
      refine V_aload_n (i := 0) (pc := 19) dX11_run_19 rfl rfl ?_
      obtain ⟨r20, e20, h⟩ := bnd h
      refine V_invV1 (c := 11) (pc := 20) dX11_run_20 (e_Mo_isFloe h_this e20) iv_Mo_271 (rm_Mo_run_Mo_isFloe _ _ _) rfl h_this cf_11 rfl (Nat.le_of_ble_eq_true rfl) rfl ?_
      refine V_if_ne (pc := 23) (tgt := 29) dX11_run_23 rfl (fun q => ?_) (fun q => ?_)
      · have h := ite_f q h
        refine V_aload_n (i := 0) (pc := 29) dX11_run_29 rfl rfl ?_
        refine V_aload_n (i := 0) (pc := 30) dX11_run_30 rfl rfl ?_
        refine V_iload_n (i := 1) (pc := 31) dX11_run_31 rfl rfl ?_
        refine V_i2l (pc := 32) dX11_run_32 ?_
        refine V_iload_n (i := 2) (pc := 33) dX11_run_33 rfl rfl ?_
        obtain ⟨r34, e34, h⟩ := bnd h
        refine V_invV1 (c := 11) (pc := 34) dX11_run_34 (e_Mo_springsOut h_this e34) iv_Mo_545 (rm_Mo_run_Mo_springsOut _ _ _) rfl h_this cf_11 rfl (Nat.le_of_ble_eq_true rfl) rfl ?_
        refine V_putI_lt (pc := 37) dX11_run_37 fp_Mo_264 h_this rfl rfl rfl h (fun m37 h => ?_)
        refine V_aload_n (i := 0) (pc := 40) dX11_run_40 rfl rfl ?_
        refine V_getR (b := (this + 1)) (pc := 41) dX11_run_41 fl_Mo_13 h_this rfl rfl ?_
        refine V_bipush (v := 18) (pc := 44) dX11_run_44 rfl ?_
        refine V_aload_n (i := 0) (pc := 46) dX11_run_46 rfl rfl ?_
        refine V_getI (pc := 47) dX11_run_47 fl_Mo_534 h_this rfl ?_
        obtain ⟨hg50, h⟩ := gd_e h
        refine V_iast_lt (pc := 50) dX11_run_50 (kf_11_1 h_this) (af_11_1 h_this) hg50 h (fun m50 h => ?_)
        refine V_aload_n (i := 0) (pc := 51) dX11_run_51 rfl rfl ?_
        refine V_getI (pc := 52) dX11_run_52 fl_Mo_534 h_this rfl ?_
        obtain rfl := Option.some.inj h
        exact E_i (pc := 55) dX11_run_55 rfl hp
      · have h := ite_t q h
        refine V_bipush (v := (-2)) (pc := 26) dX11_run_26 rfl ?_
        obtain rfl := Option.some.inj h
        exact E_i (pc := 28) dX11_run_28 rfl hp
theorem e_Mo_run {g : GE} {this : Nat} {v1 : Int32} {v2 : Int32} {m : Mem} (h_this : kd this = 12) {x : Int32 × Mem} (h : Mo_run this v1 v2 m = some x) : Ev g Y_Mo_run [vr this, vi v1, vi v2] m (some (vi x.1)) x.2 :=
  Ev_of 0 (by decide +kernel) rfl (Nat.le_of_ble_eq_true rfl) rfl (k_Mo_run h_this h ⟨rfl, rfl⟩)
theorem k_Mo_struck {g : GE} {this : Nat} {m : Mem} (h_this : kd this = 12) {r : Option AV} {m' : Mem} {x : Int32} (h : Mo_struck this m = some x) (hp : (fun x : Int32 => r = some (vi x) ∧ m' = m) x) : V g Y_Mo_struck 0 [some (vr this)] [] m (PM g Y_Mo_struck r m') := by
  unfold Mo_struck at h
  refine V_aload_n (i := 0) (pc := 0) dX11_struck_0 rfl rfl ?_
  refine V_getI (pc := 1) dX11_struck_1 fl_Mo_264 h_this rfl ?_
  obtain rfl := Option.some.inj h
  exact E_i (pc := 4) dX11_struck_4 rfl hp
theorem e_Mo_struck {g : GE} {this : Nat} {m : Mem} (h_this : kd this = 12) {x : Int32} (h : Mo_struck this m = some x) : Ev g Y_Mo_struck [vr this] m (some (vi x)) m :=
  Ev_of 0 (by decide +kernel) rfl (Nat.le_of_ble_eq_true rfl) rfl (k_Mo_struck h_this h ⟨rfl, rfl⟩)
theorem k_Mo_springs_b74 {g : GE} {this : Nat} {v1 : Int32} {v2 : Int32} {v3 : Int32} {v5 : Int32} {k0 : Int32} {k1 : Int32}  {m : Mem} (h_this : kd this = 12) {r : Option AV} {m' : Mem} {x : (Int32 × Int32 × Mem) ⊕ (Int32 × Mem)} (h : Mo_springs_b74 this v1 v2 v3 v5 k0 k1 m = some x) (hp : (Sum.elim (fun s : Int32 × Int32 × Mem => V g Y_Mo_springs 47 [some (vr this), some (vi v1), some (vi v2), some (vi v3), some (vi s.1), some (vi s.2.1)] [] s.2.2 (PM g Y_Mo_springs r m')) (fun x : Int32 × Mem => r = some (vi x.1) ∧ m' = x.2)) x) : V g Y_Mo_springs 74 [some (vr this), some (vi v1), some (vi v2), some (vi v3), none, some (vi v5)] [vi k1, vi k0] m (PM g Y_Mo_springs r m') := by
  unfold Mo_springs_b74 at h
  refine V_iadd (pc := 74) dX11_springs_74 ?_
  refine V_istore (i := 4) (ls' := [some (vr this), some (vi v1), some (vi v2), some (vi v3), some (vi (k0 + k1)), some (vi v5)]) (pc := 75) dX11_springs_75 (Nat.le_of_ble_eq_true rfl) rfl ?_
  refine V_iinc (i := 5) (v := (v5 + 1)) (ls' := [some (vr this), some (vi v1), some (vi v2), some (vi v3), some (vi (k0 + k1)), some (vi (v5 + 1))]) (pc := 77) dX11_springs_77 rfl rfl (Nat.le_of_ble_eq_true rfl) rfl ?_
  refine V_goto (tgt := 47) (pc := 80) dX11_springs_80 rfl ?_
  obtain rfl := Option.some.inj h
  exact hp
theorem k_Mo_springs_l47 {g : GE} {this : Nat} {v1 : Int32} {v2 : Int32} {v3 : Int32} {v4 : Int32} {v5 : Int32} {m : Mem} (h_this : kd this = 12) {r : Option AV} {m' : Mem} {x : (Int32 × Int32 × Mem) ⊕ (Int32 × Mem)} (h : Mo_springs_l47 this v1 v2 v3 v4 v5 m = some x) (hp : (Sum.elim (fun s : Int32 × Int32 × Mem => V g Y_Mo_springs 47 [some (vr this), some (vi v1), some (vi v2), some (vi v3), some (vi s.1), some (vi s.2.1)] [] s.2.2 (PM g Y_Mo_springs r m')) (fun x : Int32 × Mem => r = some (vi x.1) ∧ m' = x.2)) x) : V g Y_Mo_springs 47 [some (vr this), some (vi v1), some (vi v2), some (vi v3), some (vi v4), some (vi v5)] [] m (PM g Y_Mo_springs r m') := by
  unfold Mo_springs_l47 at h
  refine V_iload (i := 5) (pc := 47) dX11_springs_47 rfl ?_
  refine V_iload_n (i := 2) (pc := 49) dX11_springs_49 rfl rfl ?_
  refine V_icmp_ge (pc := 50) (tgt := 83) dX11_springs_50 rfl (fun q => ?_) (fun q => ?_)
  · have h := ite_t q h
    obtain ⟨y1, hu1, rfl⟩ := up_e h
    have h := hu1
    refine V_iload (i := 4) (pc := 83) dX11_springs_83 rfl ?_
    obtain rfl := Option.some.inj h
    exact E_i (pc := 85) dX11_springs_85 rfl hp
  · have h := ite_f q h
    refine V_iload (i := 4) (pc := 53) dX11_springs_53 rfl ?_
    refine V_aload_n (i := 0) (pc := 55) dX11_springs_55 rfl rfl ?_
    refine V_iload_n (i := 1) (pc := 56) dX11_springs_56 rfl rfl ?_
    refine V_i2l (pc := 57) dX11_springs_57 ?_
    refine V_iload (i := 5) (pc := 58) dX11_springs_58 rfl ?_
    refine V_i2l (pc := 60) dX11_springs_60 ?_
    refine V_ladd (pc := 61) dX11_springs_61 ?_
    refine V_iload_n (i := 3) (pc := 62) dX11_springs_62 rfl rfl ?_
    obtain ⟨r63, e63, h⟩ := bnd h
    refine V_invV1 (c := 11) (pc := 63) dX11_springs_63 (e_Mo_springsOut h_this e63) iv_Mo_545 (rm_Mo_springs_Mo_springsOut _ _ _) rfl h_this cf_11 rfl (Nat.le_of_ble_eq_true rfl) rfl ?_
    refine V_if_le (pc := 66) (tgt := 73) dX11_springs_66 rfl (fun q => ?_) (fun q => ?_)
    · have h := ite_t q h
      refine V_iconst (v := 0) (pc := 73) dX11_springs_73 rfl ?_
      refine V_sub (ls' := [some (vr this), some (vi v1), some (vi v2), some (vi v3), none, some (vi v5)]) (And.intro rfl (And.intro rfl (And.intro rfl (And.intro rfl (And.intro rfl trivial))))) ?_
      exact k_Mo_springs_b74 h_this h hp
    · have h := ite_f q h
      refine V_iconst (v := 1) (pc := 69) dX11_springs_69 rfl ?_
      refine V_goto (tgt := 74) (pc := 70) dX11_springs_70 rfl ?_
      refine V_sub (ls' := [some (vr this), some (vi v1), some (vi v2), some (vi v3), none, some (vi v5)]) (And.intro rfl (And.intro rfl (And.intro rfl (And.intro rfl (And.intro rfl trivial))))) ?_
      exact k_Mo_springs_b74 h_this h hp
theorem k_Mo_springs {g : GE} {this : Nat} {v1 : Int32} {v2 : Int32} {v3 : Int32} {m : Mem} (h_this : kd this = 12) {r : Option AV} {m' : Mem} {x : Int32 × Mem} (h : Mo_springs this v1 v2 v3 m = some x) (hp : (fun x : Int32 × Mem => r = some (vi x.1) ∧ m' = x.2) x) : V g Y_Mo_springs 0 [some (vr this), some (vi v1), some (vi v2), some (vi v3), none, none] [] m (PM g Y_Mo_springs r m') := by
  unfold Mo_springs at h
  refine V_iload_n (i := 1) (pc := 0) dX11_springs_0 rfl rfl ?_
  obtain ⟨r1, e1, h⟩ := bnd h
  refine V_invS1 (pc := 1) dX11_springs_1 (e_Mo_isSeed  e1) is_Mo_542 (rm_Mo_springs_Mo_isSeed _ _ _) rfl (Nat.le_of_ble_eq_true rfl) rfl ?_
  refine V_if_eq (pc := 4) (tgt := 38) dX11_springs_4 rfl (fun q => ?_) (fun q => ?_)
  · have h := ite_t q h
    refine V_bipush (v := (-2)) (pc := 38) dX11_springs_38 rfl ?_
    obtain rfl := Option.some.inj h
    exact E_i (pc := 40) dX11_springs_40 rfl hp
  · have h := ite_f q h
    refine V_iload_n (i := 2) (pc := 7) dX11_springs_7 rfl rfl ?_
    refine V_i2l (pc := 8) dX11_springs_8 ?_
    refine V_lconst (v := 1) (pc := 9) dX11_springs_9 rfl ?_
    refine V_ldc2 (v := 60) (pc := 10) dX11_springs_10 con_Mo_479 ?_
    obtain ⟨r13, e13, h⟩ := bnd h
    refine V_invS1 (pc := 13) dX11_springs_13 (e_Mo_in  e13) is_Mo_84 (rm_Mo_springs_Mo_in _ _ _) rfl (Nat.le_of_ble_eq_true rfl) rfl ?_
    refine V_if_eq (pc := 16) (tgt := 38) dX11_springs_16 rfl (fun q => ?_) (fun q => ?_)
    · have h := ite_t q h
      refine V_bipush (v := (-2)) (pc := 38) dX11_springs_38 rfl ?_
      obtain rfl := Option.some.inj h
      exact E_i (pc := 40) dX11_springs_40 rfl hp
    · have h := ite_f q h
      refine V_iload_n (i := 3) (pc := 19) dX11_springs_19 rfl rfl ?_
      refine V_i2l (pc := 20) dX11_springs_20 ?_
      refine V_lconst (v := 0) (pc := 21) dX11_springs_21 rfl ?_
      refine V_ldc2 (v := 99) (pc := 22) dX11_springs_22 con_Mo_514 ?_
      obtain ⟨r25, e25, h⟩ := bnd h
      refine V_invS1 (pc := 25) dX11_springs_25 (e_Mo_in  e25) is_Mo_84 (rm_Mo_springs_Mo_in _ _ _) rfl (Nat.le_of_ble_eq_true rfl) rfl ?_
      refine V_if_eq (pc := 28) (tgt := 38) dX11_springs_28 rfl (fun q => ?_) (fun q => ?_)
      · have h := ite_t q h
        refine V_bipush (v := (-2)) (pc := 38) dX11_springs_38 rfl ?_
        obtain rfl := Option.some.inj h
        exact E_i (pc := 40) dX11_springs_40 rfl hp
      · have h := ite_f q h
        refine V_aload_n (i := 0) (pc := 31) dX11_springs_31 rfl rfl ?_
        obtain ⟨r32, e32, h⟩ := bnd h
        refine V_invV1 (c := 11) (pc := 32) dX11_springs_32 (e_Mo_isFloe h_this e32) iv_Mo_271 (rm_Mo_springs_Mo_isFloe _ _ _) rfl h_this cf_11 rfl (Nat.le_of_ble_eq_true rfl) rfl ?_
        refine V_if_ne (pc := 35) (tgt := 41) dX11_springs_35 rfl (fun q => ?_) (fun q => ?_)
        · have h := ite_f q h
          refine V_iconst (v := 0) (pc := 41) dX11_springs_41 rfl ?_
          refine V_istore (i := 4) (ls' := [some (vr this), some (vi v1), some (vi v2), some (vi v3), some (vi 0), none]) (pc := 42) dX11_springs_42 (Nat.le_of_ble_eq_true rfl) rfl ?_
          refine V_iconst (v := 0) (pc := 44) dX11_springs_44 rfl ?_
          refine V_istore (i := 5) (ls' := [some (vr this), some (vi v1), some (vi v2), some (vi v3), some (vi 0), some (vi 0)]) (pc := 45) dX11_springs_45 (Nat.le_of_ble_eq_true rfl) rfl ?_
          exact loop_V (A := fun s : Int32 × Int32 × Mem => V g Y_Mo_springs 47 [some (vr this), some (vi v1), some (vi v2), some (vi v3), some (vi s.1), some (vi s.2.1)] [] s.2.2 (PM g Y_Mo_springs r m')) (fun s x h hp => k_Mo_springs_l47 h_this h hp) (0, 0, m) _ h hp
        · have h := ite_t q h
          refine V_bipush (v := (-2)) (pc := 38) dX11_springs_38 rfl ?_
          obtain rfl := Option.some.inj h
          exact E_i (pc := 40) dX11_springs_40 rfl hp
theorem e_Mo_springs {g : GE} {this : Nat} {v1 : Int32} {v2 : Int32} {v3 : Int32} {m : Mem} (h_this : kd this = 12) {x : Int32 × Mem} (h : Mo_springs this v1 v2 v3 m = some x) : Ev g Y_Mo_springs [vr this, vi v1, vi v2, vi v3] m (some (vi x.1)) x.2 :=
  Ev_of 2 (by decide +kernel) rfl (Nat.le_of_ble_eq_true rfl) rfl (k_Mo_springs h_this h ⟨rfl, rfl⟩)
theorem k_Mo_count_b184 {g : GE} {this : Nat} {v3 : Int32} {k0 : Int32} {k1 : Int32}  {m : Mem} (h_this : kd this = 12) {r : Option AV} {m' : Mem} {x : (Int32 × Int32) ⊕ (Int32)} (h : Mo_count_b184 this v3 k0 k1 m = some x) (hp : (Sum.elim (fun s : Int32 × Int32 => V g Y_Mo_count 163 [some (vr this), none, some (vi s.1), some (vi s.2)] [] m (PM g Y_Mo_count r m')) (fun x : Int32 => r = some (vi x) ∧ m' = m)) x) : V g Y_Mo_count 184 [some (vr this), none, none, some (vi v3)] [vi k1, vi k0] m (PM g Y_Mo_count r m') := by
  unfold Mo_count_b184 at h
  refine V_iadd (pc := 184) dX11_count_184 ?_
  refine V_istore_n (i := 2) (ls' := [some (vr this), none, some (vi (k0 + k1)), some (vi v3)]) (pc := 185) dX11_count_185 rfl (Nat.le_of_ble_eq_true rfl) rfl ?_
  refine V_iinc (i := 3) (v := (v3 + 1)) (ls' := [some (vr this), none, some (vi (k0 + k1)), some (vi (v3 + 1))]) (pc := 186) dX11_count_186 rfl rfl (Nat.le_of_ble_eq_true rfl) rfl ?_
  refine V_goto (tgt := 163) (pc := 189) dX11_count_189 rfl ?_
  obtain rfl := Option.some.inj h
  exact hp
theorem k_Mo_count_l163 {g : GE} {this : Nat}  {v2 : Int32} {v3 : Int32} {m : Mem} (h_this : kd this = 12) {r : Option AV} {m' : Mem} {x : (Int32 × Int32) ⊕ (Int32)} (h : Mo_count_l163 this v2 v3 m = some x) (hp : (Sum.elim (fun s : Int32 × Int32 => V g Y_Mo_count 163 [some (vr this), none, some (vi s.1), some (vi s.2)] [] m (PM g Y_Mo_count r m')) (fun x : Int32 => r = some (vi x) ∧ m' = m)) x) : V g Y_Mo_count 163 [some (vr this), none, some (vi v2), some (vi v3)] [] m (PM g Y_Mo_count r m') := by
  unfold Mo_count_l163 at h
  refine V_iload_n (i := 3) (pc := 163) dX11_count_163 rfl rfl ?_
  refine V_iconst (v := 4) (pc := 164) dX11_count_164 rfl ?_
  refine V_icmp_ge (pc := 165) (tgt := 192) dX11_count_165 rfl (fun q => ?_) (fun q => ?_)
  · have h := ite_t q h
    obtain ⟨y1, hu1, rfl⟩ := up_e h
    have h := hu1
    refine V_iload_n (i := 2) (pc := 192) dX11_count_192 rfl rfl ?_
    obtain rfl := Option.some.inj h
    exact E_i (pc := 193) dX11_count_193 rfl hp
  · have h := ite_f q h
    refine V_iload_n (i := 2) (pc := 168) dX11_count_168 rfl rfl ?_
    refine V_aload_n (i := 0) (pc := 169) dX11_count_169 rfl rfl ?_
    refine V_getR (b := (this + 16)) (pc := 170) dX11_count_170 fl_Mo_66 h_this rfl rfl ?_
    refine V_iload_n (i := 3) (pc := 173) dX11_count_173 rfl rfl ?_
    obtain ⟨hg174, h⟩ := gd_e h
    refine V_iald (pc := 174) dX11_count_174 (kf_11_27 h_this) (af_11_27 h_this) hg174 ?_
    refine V_iconst (v := (-1)) (pc := 175) dX11_count_175 rfl ?_
    refine V_icmp_ne (pc := 176) (tgt := 183) dX11_count_176 rfl (fun q => ?_) (fun q => ?_)
    · have h := ite_f q h
      refine V_iconst (v := 1) (pc := 183) dX11_count_183 rfl ?_
      refine V_sub (ls' := [some (vr this), none, none, some (vi v3)]) (And.intro rfl (And.intro rfl trivial)) ?_
      exact k_Mo_count_b184 h_this h hp
    · have h := ite_t q h
      refine V_iconst (v := 0) (pc := 179) dX11_count_179 rfl ?_
      refine V_goto (tgt := 184) (pc := 180) dX11_count_180 rfl ?_
      refine V_sub (ls' := [some (vr this), none, none, some (vi v3)]) (And.intro rfl (And.intro rfl trivial)) ?_
      exact k_Mo_count_b184 h_this h hp
theorem k_Mo_count {g : GE} {this : Nat} {v1 : Int32} {m : Mem} (h_this : kd this = 12) {r : Option AV} {m' : Mem} {x : Int32} (h : Mo_count this v1 m = some x) (hp : (fun x : Int32 => r = some (vi x) ∧ m' = m) x) : V g Y_Mo_count 0 [some (vr this), some (vi v1), none, none] [] m (PM g Y_Mo_count r m') := by
  unfold Mo_count at h
  refine V_iconst (v := 0) (pc := 0) dX11_count_0 rfl ?_
  refine V_istore_n (i := 2) (ls' := [some (vr this), some (vi v1), some (vi 0), none]) (pc := 1) dX11_count_1 rfl (Nat.le_of_ble_eq_true rfl) rfl ?_
  refine V_iload_n (i := 1) (pc := 2) dX11_count_2 rfl rfl ?_
  by_cases q : v1 = 0
  · have h := ite_t q h
    refine V_tableIn (tgt := 72) (pc := 3) dX11_count_3 (by rw [q]; decide) (by rw [q]; decide) (by rw [q]; rfl) rfl ?_
    refine V_aload_n (i := 0) (pc := 72) dX11_count_72 rfl rfl ?_
    refine V_getR (b := (this + 1)) (pc := 73) dX11_count_73 fl_Mo_13 h_this rfl rfl ?_
    refine V_iconst (v := 1) (pc := 76) dX11_count_76 rfl ?_
    obtain ⟨hg77, h⟩ := gd_e h
    refine V_iald (pc := 77) dX11_count_77 (kf_11_1 h_this) (af_11_1 h_this) hg77 ?_
    obtain rfl := Option.some.inj h
    exact E_i (pc := 78) dX11_count_78 rfl hp
  · have q0 := q
    have h := ite_f q h
    by_cases q : v1 = 1
    · have h := ite_t q h
      refine V_tableIn (tgt := 79) (pc := 3) dX11_count_3 (by rw [q]; decide) (by rw [q]; decide) (by rw [q]; rfl) rfl ?_
      refine V_aload_n (i := 0) (pc := 79) dX11_count_79 rfl rfl ?_
      refine V_getR (b := (this + 1)) (pc := 80) dX11_count_80 fl_Mo_13 h_this rfl rfl ?_
      refine V_iconst (v := 2) (pc := 83) dX11_count_83 rfl ?_
      obtain ⟨hg84, h⟩ := gd_e h
      refine V_iald (pc := 84) dX11_count_84 (kf_11_1 h_this) (af_11_1 h_this) hg84 ?_
      obtain rfl := Option.some.inj h
      exact E_i (pc := 85) dX11_count_85 rfl hp
    · have q1 := q
      have h := ite_f q h
      by_cases q : v1 = 2
      · have h := ite_t q h
        refine V_tableIn (tgt := 86) (pc := 3) dX11_count_3 (by rw [q]; decide) (by rw [q]; decide) (by rw [q]; rfl) rfl ?_
        refine V_aload_n (i := 0) (pc := 86) dX11_count_86 rfl rfl ?_
        refine V_getR (b := (this + 1)) (pc := 87) dX11_count_87 fl_Mo_13 h_this rfl rfl ?_
        refine V_iconst (v := 3) (pc := 90) dX11_count_90 rfl ?_
        obtain ⟨hg91, h⟩ := gd_e h
        refine V_iald (pc := 91) dX11_count_91 (kf_11_1 h_this) (af_11_1 h_this) hg91 ?_
        obtain rfl := Option.some.inj h
        exact E_i (pc := 92) dX11_count_92 rfl hp
      · have q2 := q
        have h := ite_f q h
        by_cases q : v1 = 3
        · have h := ite_t q h
          refine V_tableIn (tgt := 93) (pc := 3) dX11_count_3 (by rw [q]; decide) (by rw [q]; decide) (by rw [q]; rfl) rfl ?_
          refine V_aload_n (i := 0) (pc := 93) dX11_count_93 rfl rfl ?_
          refine V_getR (b := (this + 1)) (pc := 94) dX11_count_94 fl_Mo_13 h_this rfl rfl ?_
          refine V_iconst (v := 4) (pc := 97) dX11_count_97 rfl ?_
          obtain ⟨hg98, h⟩ := gd_e h
          refine V_iald (pc := 98) dX11_count_98 (kf_11_1 h_this) (af_11_1 h_this) hg98 ?_
          obtain rfl := Option.some.inj h
          exact E_i (pc := 99) dX11_count_99 rfl hp
        · have q3 := q
          have h := ite_f q h
          by_cases q : v1 = 4
          · have h := ite_t q h
            refine V_tableIn (tgt := 100) (pc := 3) dX11_count_3 (by rw [q]; decide) (by rw [q]; decide) (by rw [q]; rfl) rfl ?_
            refine V_aload_n (i := 0) (pc := 100) dX11_count_100 rfl rfl ?_
            refine V_getR (b := (this + 1)) (pc := 101) dX11_count_101 fl_Mo_13 h_this rfl rfl ?_
            refine V_iconst (v := 5) (pc := 104) dX11_count_104 rfl ?_
            obtain ⟨hg105, h⟩ := gd_e h
            refine V_iald (pc := 105) dX11_count_105 (kf_11_1 h_this) (af_11_1 h_this) hg105 ?_
            obtain rfl := Option.some.inj h
            exact E_i (pc := 106) dX11_count_106 rfl hp
          · have q4 := q
            have h := ite_f q h
            by_cases q : v1 = 5
            · have h := ite_t q h
              refine V_tableIn (tgt := 107) (pc := 3) dX11_count_3 (by rw [q]; decide) (by rw [q]; decide) (by rw [q]; rfl) rfl ?_
              refine V_aload_n (i := 0) (pc := 107) dX11_count_107 rfl rfl ?_
              refine V_getR (b := (this + 1)) (pc := 108) dX11_count_108 fl_Mo_13 h_this rfl rfl ?_
              refine V_bipush (v := 6) (pc := 111) dX11_count_111 rfl ?_
              obtain ⟨hg113, h⟩ := gd_e h
              refine V_iald (pc := 113) dX11_count_113 (kf_11_1 h_this) (af_11_1 h_this) hg113 ?_
              obtain rfl := Option.some.inj h
              exact E_i (pc := 114) dX11_count_114 rfl hp
            · have q5 := q
              have h := ite_f q h
              by_cases q : v1 = 6
              · have h := ite_t q h
                refine V_tableIn (tgt := 115) (pc := 3) dX11_count_3 (by rw [q]; decide) (by rw [q]; decide) (by rw [q]; rfl) rfl ?_
                refine V_aload_n (i := 0) (pc := 115) dX11_count_115 rfl rfl ?_
                refine V_getR (b := (this + 1)) (pc := 116) dX11_count_116 fl_Mo_13 h_this rfl rfl ?_
                refine V_bipush (v := 7) (pc := 119) dX11_count_119 rfl ?_
                obtain ⟨hg121, h⟩ := gd_e h
                refine V_iald (pc := 121) dX11_count_121 (kf_11_1 h_this) (af_11_1 h_this) hg121 ?_
                obtain rfl := Option.some.inj h
                exact E_i (pc := 122) dX11_count_122 rfl hp
              · have q6 := q
                have h := ite_f q h
                by_cases q : v1 = 7
                · have h := ite_t q h
                  refine V_tableIn (tgt := 123) (pc := 3) dX11_count_3 (by rw [q]; decide) (by rw [q]; decide) (by rw [q]; rfl) rfl ?_
                  refine V_aload_n (i := 0) (pc := 123) dX11_count_123 rfl rfl ?_
                  obtain ⟨r124, e124, h⟩ := bnd h
                  refine V_invV1 (c := 11) (pc := 124) dX11_count_124 (e_Mo_heapMany h_this e124) iv_Mo_413 (rm_Mo_count_Mo_heapMany _ _ _) rfl h_this cf_11 rfl (Nat.le_of_ble_eq_true rfl) rfl ?_
                  obtain rfl := Option.some.inj h
                  exact E_i (pc := 127) dX11_count_127 rfl hp
                · have q7 := q
                  have h := ite_f q h
                  by_cases q : v1 = 8
                  · have h := ite_t q h
                    refine V_tableIn (tgt := 128) (pc := 3) dX11_count_3 (by rw [q]; decide) (by rw [q]; decide) (by rw [q]; rfl) rfl ?_
                    refine V_aload_n (i := 0) (pc := 128) dX11_count_128 rfl rfl ?_
                    refine V_getR (b := (this + 1)) (pc := 129) dX11_count_129 fl_Mo_13 h_this rfl rfl ?_
                    refine V_bipush (v := 18) (pc := 132) dX11_count_132 rfl ?_
                    obtain ⟨hg134, h⟩ := gd_e h
                    refine V_iald (pc := 134) dX11_count_134 (kf_11_1 h_this) (af_11_1 h_this) hg134 ?_
                    obtain rfl := Option.some.inj h
                    exact E_i (pc := 135) dX11_count_135 rfl hp
                  · have q8 := q
                    have h := ite_f q h
                    by_cases q : v1 = 9
                    · have h := ite_t q h
                      refine V_tableIn (tgt := 136) (pc := 3) dX11_count_3 (by rw [q]; decide) (by rw [q]; decide) (by rw [q]; rfl) rfl ?_
                      refine V_aload_n (i := 0) (pc := 136) dX11_count_136 rfl rfl ?_
                      refine V_getR (b := (this + 1)) (pc := 137) dX11_count_137 fl_Mo_13 h_this rfl rfl ?_
                      refine V_iconst (v := 0) (pc := 140) dX11_count_140 rfl ?_
                      obtain ⟨hg141, h⟩ := gd_e h
                      refine V_iald (pc := 141) dX11_count_141 (kf_11_1 h_this) (af_11_1 h_this) hg141 ?_
                      obtain rfl := Option.some.inj h
                      exact E_i (pc := 142) dX11_count_142 rfl hp
                    · have q9 := q
                      have h := ite_f q h
                      by_cases q : v1 = 10
                      · have h := ite_t q h
                        refine V_tableIn (tgt := 143) (pc := 3) dX11_count_3 (by rw [q]; decide) (by rw [q]; decide) (by rw [q]; rfl) rfl ?_
                        refine V_aload_n (i := 0) (pc := 143) dX11_count_143 rfl rfl ?_
                        refine V_getI (pc := 144) dX11_count_144 fl_Mo_92 h_this rfl ?_
                        obtain rfl := Option.some.inj h
                        exact E_i (pc := 147) dX11_count_147 rfl hp
                      · have q10 := q
                        have h := ite_f q h
                        by_cases q : v1 = 11
                        · have h := ite_t q h
                          refine V_tableIn (tgt := 148) (pc := 3) dX11_count_3 (by rw [q]; decide) (by rw [q]; decide) (by rw [q]; rfl) rfl ?_
                          refine V_aload_n (i := 0) (pc := 148) dX11_count_148 rfl rfl ?_
                          refine V_getR (b := (this + 1)) (pc := 149) dX11_count_149 fl_Mo_13 h_this rfl rfl ?_
                          refine V_bipush (v := 19) (pc := 152) dX11_count_152 rfl ?_
                          obtain ⟨hg154, h⟩ := gd_e h
                          refine V_iald (pc := 154) dX11_count_154 (kf_11_1 h_this) (af_11_1 h_this) hg154 ?_
                          obtain rfl := Option.some.inj h
                          exact E_i (pc := 155) dX11_count_155 rfl hp
                        · have q11 := q
                          have h := ite_f q h
                          by_cases q : v1 = 12
                          · have h := ite_t q h
                            refine V_tableIn (tgt := 156) (pc := 3) dX11_count_3 (by rw [q]; decide) (by rw [q]; decide) (by rw [q]; rfl) rfl ?_
                            refine V_aload_n (i := 0) (pc := 156) dX11_count_156 rfl rfl ?_
                            obtain ⟨r157, e157, h⟩ := bnd h
                            refine V_invV1 (c := 11) (pc := 157) dX11_count_157 (e_Mo_sleepers h_this e157) iv_Mo_308 (rm_Mo_count_Mo_sleepers _ _ _) rfl h_this cf_11 rfl (Nat.le_of_ble_eq_true rfl) rfl ?_
                            obtain rfl := Option.some.inj h
                            exact E_i (pc := 160) dX11_count_160 rfl hp
                          · have q12 := q
                            have h := ite_f q h
                            by_cases q : v1 = 13
                            · have h := ite_t q h
                              refine V_tableIn (tgt := 161) (pc := 3) dX11_count_3 (by rw [q]; decide) (by rw [q]; decide) (by rw [q]; rfl) rfl ?_
                              refine V_iconst (v := 0) (pc := 161) dX11_count_161 rfl ?_
                              refine V_istore_n (i := 3) (ls' := [some (vr this), some (vi v1), some (vi 0), some (vi 0)]) (pc := 162) dX11_count_162 rfl (Nat.le_of_ble_eq_true rfl) rfl ?_
                              refine V_sub (ls' := [some (vr this), none, some (vi 0), some (vi 0)]) (And.intro rfl (And.intro rfl (And.intro rfl trivial))) ?_
                              exact loop_V (A := fun s : Int32 × Int32 => V g Y_Mo_count 163 [some (vr this), none, some (vi s.1), some (vi s.2)] [] m (PM g Y_Mo_count r m')) (fun s x h hp => k_Mo_count_l163 h_this h hp) (0, 0) _ h hp
                            · have q13 := q
                              have h := ite_f q h
                              refine V_tableOut (tgt := 194) (pc := 3) dX11_count_3 (ts_out_0_13 q0 q1 q2 q3 q4 q5 q6 q7 q8 q9 q10 q11 q12 q13) rfl ?_
                              refine V_iconst (v := (-1)) (pc := 194) dX11_count_194 rfl ?_
                              obtain rfl := Option.some.inj h
                              exact E_i (pc := 195) dX11_count_195 rfl hp
theorem e_Mo_count {g : GE} {this : Nat} {v1 : Int32} {m : Mem} (h_this : kd this = 12) {x : Int32} (h : Mo_count this v1 m = some x) : Ev g Y_Mo_count [vr this, vi v1] m (some (vi x)) m :=
  Ev_of 2 (by decide +kernel) rfl (Nat.le_of_ble_eq_true rfl) rfl (k_Mo_count h_this h ⟨rfl, rfl⟩)
theorem k_Mo_cut {g : GE} {v0 : Int64} {v2 : Int32} {m : Mem} {r : Option AV} {m' : Mem} {x : Int64} (h : Mo_cut v0 v2 m = some x) (hp : (fun x : Int64 => r = some (vl x) ∧ m' = m) x) : V g Y_Mo_cut 0 [some (vl v0), none, some (vi v2), none] [] m (PM g Y_Mo_cut r m') := by
  unfold Mo_cut at h
  refine V_bipush (v := 64) (pc := 0) dX11_cut_0 rfl ?_
  refine V_bipush (v := 8) (pc := 2) dX11_cut_2 rfl ?_
  refine V_iload_n (i := 2) (pc := 4) dX11_cut_4 rfl rfl ?_
  refine V_ishl (pc := 5) dX11_cut_5 ?_
  refine V_isub (pc := 6) dX11_cut_6 ?_
  refine V_istore_n (i := 3) (ls' := [some (vl v0), none, some (vi v2), some (vi (64 - ((8 : Int32) <<< (v2 &&& 31))))]) (pc := 7) dX11_cut_7 rfl (Nat.le_of_ble_eq_true rfl) rfl ?_
  refine V_lload_n (i := 0) (pc := 8) dX11_cut_8 rfl rfl ?_
  refine V_iload_n (i := 3) (pc := 9) dX11_cut_9 rfl rfl ?_
  refine V_lshl (pc := 10) dX11_cut_10 ?_
  refine V_iload_n (i := 3) (pc := 11) dX11_cut_11 rfl rfl ?_
  refine V_lshr (pc := 12) dX11_cut_12 ?_
  obtain rfl := Option.some.inj h
  exact E_l (pc := 13) dX11_cut_13 rfl hp
theorem e_Mo_cut {g : GE} {v0 : Int64} {v2 : Int32} {m : Mem} {x : Int64} (h : Mo_cut v0 v2 m = some x) : Ev g Y_Mo_cut [vl v0, vi v2] m (some (vl x)) m :=
  Ev_of 1 (by decide +kernel) rfl (Nat.le_of_ble_eq_true rfl) rfl (k_Mo_cut  h ⟨rfl, rfl⟩)
theorem k_Mo_row_l52 {g : GE} {this : Nat} {v1 : Int32} {v4 : Int32} {m : Mem} (h_this : kd this = 12) {r : Option AV} {m' : Mem} {x : (Int32 × Mem) ⊕ (Int32 × Mem)} (h : Mo_row_l52 this v1 v4 m = some x) (hp : (Sum.elim (fun s : Int32 × Mem => V g Y_Mo_row 52 [some (vr this), some (vi v1), none, none, some (vi s.1)] [] s.2 (PM g Y_Mo_row r m')) (fun x : Int32 × Mem => r = some (vi x.1) ∧ m' = x.2)) x) : V g Y_Mo_row 52 [some (vr this), some (vi v1), none, none, some (vi v4)] [] m (PM g Y_Mo_row r m') := by
  unfold Mo_row_l52 at h
  refine V_iload (i := 4) (pc := 52) dX11_row_52 rfl ?_
  refine V_bipush (v := 60) (pc := 54) dX11_row_54 rfl ?_
  refine V_icmp_ge (pc := 56) (tgt := 78) dX11_row_56 rfl (fun q => ?_) (fun q => ?_)
  · have h := ite_t q h
    obtain ⟨y1, hu1, rfl⟩ := up_e h
    have h := hu1
    refine V_iconst (v := 0) (pc := 78) dX11_row_78 rfl ?_
    obtain rfl := Option.some.inj h
    exact E_i (pc := 79) dX11_row_79 rfl hp
  · have h := ite_f q h
    refine V_aload_n (i := 0) (pc := 59) dX11_row_59 rfl rfl ?_
    refine V_getR (b := (this + 18)) (pc := 60) dX11_row_60 fl_Mo_72 h_this rfl rfl ?_
    refine V_bipush (v := 60) (pc := 63) dX11_row_63 rfl ?_
    refine V_iload_n (i := 1) (pc := 65) dX11_row_65 rfl rfl ?_
    refine V_imul (pc := 66) dX11_row_66 ?_
    refine V_iload (i := 4) (pc := 67) dX11_row_67 rfl ?_
    refine V_iadd (pc := 69) dX11_row_69 ?_
    refine V_lconst (v := 0) (pc := 70) dX11_row_70 rfl ?_
    obtain ⟨hg71, h⟩ := gd_e h
    refine V_last_lt (pc := 71) dX11_row_71 (kf_11_29 h_this) (af_11_29 h_this) hg71 h (fun m71 h => ?_)
    refine V_iinc (i := 4) (v := (v4 + 1)) (ls' := [some (vr this), some (vi v1), none, none, some (vi (v4 + 1))]) (pc := 72) dX11_row_72 rfl rfl (Nat.le_of_ble_eq_true rfl) rfl ?_
    refine V_goto (tgt := 52) (pc := 75) dX11_row_75 rfl ?_
    obtain rfl := Option.some.inj h
    exact hp
theorem k_Mo_row {g : GE} {this : Nat} {v1 : Int32} {v2 : Int32} {v3 : Int32} {m : Mem} (h_this : kd this = 12) {r : Option AV} {m' : Mem} {x : Int32 × Mem} (h : Mo_row this v1 v2 v3 m = some x) (hp : (fun x : Int32 × Mem => r = some (vi x.1) ∧ m' = x.2) x) : V g Y_Mo_row 0 [some (vr this), some (vi v1), some (vi v2), some (vi v3), none] [] m (PM g Y_Mo_row r m') := by
  unfold Mo_row at h
  refine V_iload_n (i := 1) (pc := 0) dX11_row_0 rfl rfl ?_
  obtain ⟨r1, e1, h⟩ := bnd h
  refine V_invS1 (pc := 1) dX11_row_1 (e_Mo_isSlot  e1) is_Mo_392 (rm_Mo_row_Mo_isSlot _ _ _) rfl (Nat.le_of_ble_eq_true rfl) rfl ?_
  refine V_if_eq (pc := 4) (tgt := 25) dX11_row_4 rfl (fun q => ?_) (fun q => ?_)
  · have h := ite_t q h
    refine V_bipush (v := (-2)) (pc := 25) dX11_row_25 rfl ?_
    obtain rfl := Option.some.inj h
    exact E_i (pc := 27) dX11_row_27 rfl hp
  · have h := ite_f q h
    refine V_iload_n (i := 2) (pc := 7) dX11_row_7 rfl rfl ?_
    refine V_i2l (pc := 8) dX11_row_8 ?_
    refine V_lconst (v := 0) (pc := 9) dX11_row_9 rfl ?_
    refine V_ldc2 (v := 3) (pc := 10) dX11_row_10 con_Mo_269 ?_
    obtain ⟨r13, e13, h⟩ := bnd h
    refine V_invS1 (pc := 13) dX11_row_13 (e_Mo_in  e13) is_Mo_84 (rm_Mo_row_Mo_in _ _ _) rfl (Nat.le_of_ble_eq_true rfl) rfl ?_
    refine V_if_eq (pc := 16) (tgt := 25) dX11_row_16 rfl (fun q => ?_) (fun q => ?_)
    · have h := ite_t q h
      refine V_bipush (v := (-2)) (pc := 25) dX11_row_25 rfl ?_
      obtain rfl := Option.some.inj h
      exact E_i (pc := 27) dX11_row_27 rfl hp
    · have h := ite_f q h
      refine V_iload_n (i := 3) (pc := 19) dX11_row_19 rfl rfl ?_
      refine V_bipush (v := 60) (pc := 20) dX11_row_20 rfl ?_
      refine V_icmp_le (pc := 22) (tgt := 28) dX11_row_22 rfl (fun q => ?_) (fun q => ?_)
      · have h := ite_t q h
        refine V_iload_n (i := 3) (pc := 28) dX11_row_28 rfl rfl ?_
        refine V_if_ge (pc := 29) (tgt := 35) dX11_row_29 rfl (fun q => ?_) (fun q => ?_)
        · have h := ite_t q h
          refine V_aload_n (i := 0) (pc := 35) dX11_row_35 rfl rfl ?_
          refine V_getR (b := (this + 16)) (pc := 36) dX11_row_36 fl_Mo_66 h_this rfl rfl ?_
          refine V_iload_n (i := 1) (pc := 39) dX11_row_39 rfl rfl ?_
          refine V_iload_n (i := 3) (pc := 40) dX11_row_40 rfl rfl ?_
          obtain ⟨hg41, h⟩ := gd_e h
          refine V_iast_lt (pc := 41) dX11_row_41 (kf_11_27 h_this) (af_11_27 h_this) hg41 h (fun m41 h => ?_)
          refine V_aload_n (i := 0) (pc := 42) dX11_row_42 rfl rfl ?_
          refine V_getR (b := (this + 17)) (pc := 43) dX11_row_43 fl_Mo_69 h_this rfl rfl ?_
          refine V_iload_n (i := 1) (pc := 46) dX11_row_46 rfl rfl ?_
          refine V_iload_n (i := 2) (pc := 47) dX11_row_47 rfl rfl ?_
          obtain ⟨hg48, h⟩ := gd_e h
          refine V_iast_lt (pc := 48) dX11_row_48 (kf_11_28 h_this) (af_11_28 h_this) hg48 h (fun m48 h => ?_)
          refine V_iconst (v := 0) (pc := 49) dX11_row_49 rfl ?_
          refine V_istore (i := 4) (ls' := [some (vr this), some (vi v1), some (vi v2), some (vi v3), some (vi 0)]) (pc := 50) dX11_row_50 (Nat.le_of_ble_eq_true rfl) rfl ?_
          refine V_sub (ls' := [some (vr this), some (vi v1), none, none, some (vi 0)]) (And.intro rfl (And.intro rfl (And.intro rfl trivial))) ?_
          exact loop_V (A := fun s : Int32 × Mem => V g Y_Mo_row 52 [some (vr this), some (vi v1), none, none, some (vi s.1)] [] s.2 (PM g Y_Mo_row r m')) (fun s x h hp => k_Mo_row_l52 h_this h hp) (0, m48) _ h hp
        · have h := ite_f q h
          refine V_bipush (v := (-3)) (pc := 32) dX11_row_32 rfl ?_
          obtain rfl := Option.some.inj h
          exact E_i (pc := 34) dX11_row_34 rfl hp
      · have h := ite_f q h
        refine V_bipush (v := (-2)) (pc := 25) dX11_row_25 rfl ?_
        obtain rfl := Option.some.inj h
        exact E_i (pc := 27) dX11_row_27 rfl hp
theorem e_Mo_row {g : GE} {this : Nat} {v1 : Int32} {v2 : Int32} {v3 : Int32} {m : Mem} (h_this : kd this = 12) {x : Int32 × Mem} (h : Mo_row this v1 v2 v3 m = some x) : Ev g Y_Mo_row [vr this, vi v1, vi v2, vi v3] m (some (vi x.1)) x.2 :=
  Ev_of 1 (by decide +kernel) rfl (Nat.le_of_ble_eq_true rfl) rfl (k_Mo_row h_this h ⟨rfl, rfl⟩)
theorem k_Mo_write {g : GE} {this : Nat} {v1 : Int32} {v2 : Int32} {v3 : Int64} {m : Mem} (h_this : kd this = 12) {r : Option AV} {m' : Mem} {x : Int32 × Mem} (h : Mo_write this v1 v2 v3 m = some x) (hp : (fun x : Int32 × Mem => r = some (vi x.1) ∧ m' = x.2) x) : V g Y_Mo_write 0 [some (vr this), some (vi v1), some (vi v2), some (vl v3), none] [] m (PM g Y_Mo_write r m') := by
  unfold Mo_write at h
  refine V_iload_n (i := 1) (pc := 0) dX11_write_0 rfl rfl ?_
  obtain ⟨r1, e1, h⟩ := bnd h
  refine V_invS1 (pc := 1) dX11_write_1 (e_Mo_isSlot  e1) is_Mo_392 (rm_Mo_write_Mo_isSlot _ _ _) rfl (Nat.le_of_ble_eq_true rfl) rfl ?_
  refine V_if_ne (pc := 4) (tgt := 10) dX11_write_4 rfl (fun q => ?_) (fun q => ?_)
  · have h := ite_f q h
    refine V_aload_n (i := 0) (pc := 10) dX11_write_10 rfl rfl ?_
    refine V_getR (b := (this + 16)) (pc := 11) dX11_write_11 fl_Mo_66 h_this rfl rfl ?_
    refine V_iload_n (i := 1) (pc := 14) dX11_write_14 rfl rfl ?_
    obtain ⟨hg15, h⟩ := gd_e h
    refine V_iald (pc := 15) dX11_write_15 (kf_11_27 h_this) (af_11_27 h_this) hg15 ?_
    refine V_iconst (v := (-1)) (pc := 16) dX11_write_16 rfl ?_
    refine V_icmp_ne (pc := 17) (tgt := 23) dX11_write_17 rfl (fun q => ?_) (fun q => ?_)
    · have h := ite_f q h
      refine V_iload_n (i := 2) (pc := 23) dX11_write_23 rfl rfl ?_
      refine V_i2l (pc := 24) dX11_write_24 ?_
      refine V_lconst (v := 0) (pc := 25) dX11_write_25 rfl ?_
      refine V_aload_n (i := 0) (pc := 26) dX11_write_26 rfl rfl ?_
      refine V_getR (b := (this + 16)) (pc := 27) dX11_write_27 fl_Mo_66 h_this rfl rfl ?_
      refine V_iload_n (i := 1) (pc := 30) dX11_write_30 rfl rfl ?_
      obtain ⟨hg31, h⟩ := gd_e h
      refine V_iald (pc := 31) dX11_write_31 (kf_11_27 h_this) (af_11_27 h_this) hg31 ?_
      refine V_iconst (v := 1) (pc := 32) dX11_write_32 rfl ?_
      refine V_isub (pc := 33) dX11_write_33 ?_
      refine V_i2l (pc := 34) dX11_write_34 ?_
      obtain ⟨r35, e35, h⟩ := bnd h
      refine V_invS1 (pc := 35) dX11_write_35 (e_Mo_in  e35) is_Mo_84 (rm_Mo_write_Mo_in _ _ _) rfl (Nat.le_of_ble_eq_true rfl) rfl ?_
      refine V_if_ne (pc := 38) (tgt := 44) dX11_write_38 rfl (fun q => ?_) (fun q => ?_)
      · have h := ite_f q h
        refine V_aload_n (i := 0) (pc := 44) dX11_write_44 rfl rfl ?_
        refine V_getR (b := (this + 18)) (pc := 45) dX11_write_45 fl_Mo_72 h_this rfl rfl ?_
        refine V_bipush (v := 60) (pc := 48) dX11_write_48 rfl ?_
        refine V_iload_n (i := 1) (pc := 50) dX11_write_50 rfl rfl ?_
        refine V_imul (pc := 51) dX11_write_51 ?_
        refine V_iload_n (i := 2) (pc := 52) dX11_write_52 rfl rfl ?_
        refine V_iadd (pc := 53) dX11_write_53 ?_
        refine V_lload_n (i := 3) (pc := 54) dX11_write_54 rfl rfl ?_
        refine V_aload_n (i := 0) (pc := 55) dX11_write_55 rfl rfl ?_
        refine V_getR (b := (this + 17)) (pc := 56) dX11_write_56 fl_Mo_69 h_this rfl rfl ?_
        refine V_iload_n (i := 1) (pc := 59) dX11_write_59 rfl rfl ?_
        obtain ⟨hg60, h⟩ := gd_e h
        refine V_iald (pc := 60) dX11_write_60 (kf_11_28 h_this) (af_11_28 h_this) hg60 ?_
        obtain ⟨r61, e61, h⟩ := bnd h
        refine V_invS1 (pc := 61) dX11_write_61 (e_Mo_cut  e61) is_Mo_549 (rm_Mo_write_Mo_cut _ _ _) rfl (Nat.le_of_ble_eq_true rfl) rfl ?_
        obtain ⟨hg64, h⟩ := gd_e h
        refine V_last_lt (pc := 64) dX11_write_64 (kf_11_29 h_this) (af_11_29 h_this) hg64 h (fun m64 h => ?_)
        refine V_iconst (v := 0) (pc := 65) dX11_write_65 rfl ?_
        obtain rfl := Option.some.inj h
        exact E_i (pc := 66) dX11_write_66 rfl hp
      · have h := ite_t q h
        refine V_bipush (v := (-7)) (pc := 41) dX11_write_41 rfl ?_
        obtain rfl := Option.some.inj h
        exact E_i (pc := 43) dX11_write_43 rfl hp
    · have h := ite_t q h
      refine V_bipush (v := (-6)) (pc := 20) dX11_write_20 rfl ?_
      obtain rfl := Option.some.inj h
      exact E_i (pc := 22) dX11_write_22 rfl hp
  · have h := ite_t q h
    refine V_bipush (v := (-2)) (pc := 7) dX11_write_7 rfl ?_
    obtain rfl := Option.some.inj h
    exact E_i (pc := 9) dX11_write_9 rfl hp
theorem e_Mo_write {g : GE} {this : Nat} {v1 : Int32} {v2 : Int32} {v3 : Int64} {m : Mem} (h_this : kd this = 12) {x : Int32 × Mem} (h : Mo_write this v1 v2 v3 m = some x) : Ev g Y_Mo_write [vr this, vi v1, vi v2, vl v3] m (some (vi x.1)) x.2 :=
  Ev_of 0 (by decide +kernel) rfl (Nat.le_of_ble_eq_true rfl) rfl (k_Mo_write h_this h ⟨rfl, rfl⟩)
theorem k_Mo_paste_l150 {g : GE} {this : Nat} {v3 : Int32} {v4 : Int32} {v5 : Int32} {v6 : Int32} {m : Mem} (h_this : kd this = 12) {r : Option AV} {m' : Mem} {x : (Int32 × Mem) ⊕ (Int32 × Mem)} (h : Mo_paste_l150 this v3 v4 v5 v6 m = some x) (hp : (Sum.elim (fun s : Int32 × Mem => V g Y_Mo_paste 150 [some (vr this), none, none, some (vi v3), some (vi v4), some (vi v5), some (vi s.1)] [] s.2 (PM g Y_Mo_paste r m')) (fun x : Int32 × Mem => r = some (vi x.1) ∧ m' = x.2)) x) : V g Y_Mo_paste 150 [some (vr this), none, none, some (vi v3), some (vi v4), some (vi v5), some (vi v6)] [] m (PM g Y_Mo_paste r m') := by
  unfold Mo_paste_l150 at h
  refine V_iload (i := 6) (pc := 150) dX11_paste_150 rfl ?_
  refine V_iload (i := 5) (pc := 152) dX11_paste_152 rfl ?_
  refine V_icmp_ge (pc := 154) (tgt := 185) dX11_paste_154 rfl (fun q => ?_) (fun q => ?_)
  · have h := ite_t q h
    obtain ⟨y2, hu2, rfl⟩ := up_e h
    have h := hu2
    refine V_iconst (v := 0) (pc := 185) dX11_paste_185 rfl ?_
    obtain rfl := Option.some.inj h
    exact E_i (pc := 186) dX11_paste_186 rfl hp
  · have h := ite_f q h
    refine V_aload_n (i := 0) (pc := 157) dX11_paste_157 rfl rfl ?_
    refine V_getR (b := (this + 18)) (pc := 158) dX11_paste_158 fl_Mo_72 h_this rfl rfl ?_
    refine V_bipush (v := 60) (pc := 161) dX11_paste_161 rfl ?_
    refine V_iload_n (i := 3) (pc := 163) dX11_paste_163 rfl rfl ?_
    refine V_imul (pc := 164) dX11_paste_164 ?_
    refine V_iload (i := 4) (pc := 165) dX11_paste_165 rfl ?_
    refine V_iadd (pc := 167) dX11_paste_167 ?_
    refine V_iload (i := 6) (pc := 168) dX11_paste_168 rfl ?_
    refine V_iadd (pc := 170) dX11_paste_170 ?_
    refine V_aload_n (i := 0) (pc := 171) dX11_paste_171 rfl rfl ?_
    refine V_getR (b := (this + 19)) (pc := 172) dX11_paste_172 fl_Mo_75 h_this rfl rfl ?_
    refine V_iload (i := 6) (pc := 175) dX11_paste_175 rfl ?_
    obtain ⟨hg177, h⟩ := gd_e h
    refine V_lald (pc := 177) dX11_paste_177 (kf_11_30 h_this) (af_11_30 h_this) hg177 ?_
    obtain ⟨hg178, h⟩ := gd_e h
    refine V_last_lt (pc := 178) dX11_paste_178 (kf_11_29 h_this) (af_11_29 h_this) hg178 h (fun m178 h => ?_)
    refine V_iinc (i := 6) (v := (v6 + 1)) (ls' := [some (vr this), none, none, some (vi v3), some (vi v4), some (vi v5), some (vi (v6 + 1))]) (pc := 179) dX11_paste_179 rfl rfl (Nat.le_of_ble_eq_true rfl) rfl ?_
    refine V_goto (tgt := 150) (pc := 182) dX11_paste_182 rfl ?_
    obtain rfl := Option.some.inj h
    exact hp
theorem k_Mo_paste_l113 {g : GE} {this : Nat} {v1 : Int32} {v2 : Int32} {v3 : Int32} {v4 : Int32} {v5 : Int32} {v6 : Int32} {m : Mem} (h_this : kd this = 12) {r : Option AV} {m' : Mem} {x : (Int32 × Mem) ⊕ (Int32 × Mem)} (h : Mo_paste_l113 this v1 v2 v3 v4 v5 v6 m = some x) (hp : (Sum.elim (fun s : Int32 × Mem => V g Y_Mo_paste 113 [some (vr this), some (vi v1), some (vi v2), some (vi v3), some (vi v4), some (vi v5), some (vi s.1)] [] s.2 (PM g Y_Mo_paste r m')) (fun x : Int32 × Mem => r = some (vi x.1) ∧ m' = x.2)) x) : V g Y_Mo_paste 113 [some (vr this), some (vi v1), some (vi v2), some (vi v3), some (vi v4), some (vi v5), some (vi v6)] [] m (PM g Y_Mo_paste r m') := by
  unfold Mo_paste_l113 at h
  refine V_iload (i := 6) (pc := 113) dX11_paste_113 rfl ?_
  refine V_iload (i := 5) (pc := 115) dX11_paste_115 rfl ?_
  refine V_icmp_ge (pc := 117) (tgt := 147) dX11_paste_117 rfl (fun q => ?_) (fun q => ?_)
  · have h := ite_t q h
    obtain ⟨y1, hu1, rfl⟩ := up_e h
    have h := hu1
    refine V_iconst (v := 0) (pc := 147) dX11_paste_147 rfl ?_
    refine V_istore (i := 6) (ls' := [some (vr this), some (vi v1), some (vi v2), some (vi v3), some (vi v4), some (vi v5), some (vi 0)]) (pc := 148) dX11_paste_148 (Nat.le_of_ble_eq_true rfl) rfl ?_
    refine V_sub (ls' := [some (vr this), none, none, some (vi v3), some (vi v4), some (vi v5), some (vi 0)]) (And.intro rfl (And.intro rfl (And.intro rfl (And.intro rfl (And.intro rfl trivial))))) ?_
    exact loop_V (A := fun s : Int32 × Mem => V g Y_Mo_paste 150 [some (vr this), none, none, some (vi v3), some (vi v4), some (vi v5), some (vi s.1)] [] s.2 (PM g Y_Mo_paste r m')) (fun s x h hp => k_Mo_paste_l150 h_this h hp) (0, m) _ h hp
  · have h := ite_f q h
    refine V_aload_n (i := 0) (pc := 120) dX11_paste_120 rfl rfl ?_
    refine V_getR (b := (this + 19)) (pc := 121) dX11_paste_121 fl_Mo_75 h_this rfl rfl ?_
    refine V_iload (i := 6) (pc := 124) dX11_paste_124 rfl ?_
    refine V_aload_n (i := 0) (pc := 126) dX11_paste_126 rfl rfl ?_
    refine V_getR (b := (this + 18)) (pc := 127) dX11_paste_127 fl_Mo_72 h_this rfl rfl ?_
    refine V_bipush (v := 60) (pc := 130) dX11_paste_130 rfl ?_
    refine V_iload_n (i := 1) (pc := 132) dX11_paste_132 rfl rfl ?_
    refine V_imul (pc := 133) dX11_paste_133 ?_
    refine V_iload_n (i := 2) (pc := 134) dX11_paste_134 rfl rfl ?_
    refine V_iadd (pc := 135) dX11_paste_135 ?_
    refine V_iload (i := 6) (pc := 136) dX11_paste_136 rfl ?_
    refine V_iadd (pc := 138) dX11_paste_138 ?_
    obtain ⟨hg139, h⟩ := gd_e h
    refine V_lald (pc := 139) dX11_paste_139 (kf_11_29 h_this) (af_11_29 h_this) hg139 ?_
    obtain ⟨hg140, h⟩ := gd_e h
    refine V_last_lt (pc := 140) dX11_paste_140 (kf_11_30 h_this) (af_11_30 h_this) hg140 h (fun m140 h => ?_)
    refine V_iinc (i := 6) (v := (v6 + 1)) (ls' := [some (vr this), some (vi v1), some (vi v2), some (vi v3), some (vi v4), some (vi v5), some (vi (v6 + 1))]) (pc := 141) dX11_paste_141 rfl rfl (Nat.le_of_ble_eq_true rfl) rfl ?_
    refine V_goto (tgt := 113) (pc := 144) dX11_paste_144 rfl ?_
    obtain rfl := Option.some.inj h
    exact hp
theorem k_Mo_paste {g : GE} {this : Nat} {v1 : Int32} {v2 : Int32} {v3 : Int32} {v4 : Int32} {v5 : Int32} {m : Mem} (h_this : kd this = 12) {r : Option AV} {m' : Mem} {x : Int32 × Mem} (h : Mo_paste this v1 v2 v3 v4 v5 m = some x) (hp : (fun x : Int32 × Mem => r = some (vi x.1) ∧ m' = x.2) x) : V g Y_Mo_paste 0 [some (vr this), some (vi v1), some (vi v2), some (vi v3), some (vi v4), some (vi v5), none] [] m (PM g Y_Mo_paste r m') := by
  unfold Mo_paste at h
  refine V_iload_n (i := 1) (pc := 0) dX11_paste_0 rfl rfl ?_
  obtain ⟨r1, e1, h⟩ := bnd h
  refine V_invS1 (pc := 1) dX11_paste_1 (e_Mo_isSlot  e1) is_Mo_392 (rm_Mo_paste_Mo_isSlot _ _ _) rfl (Nat.le_of_ble_eq_true rfl) rfl ?_
  refine V_if_eq (pc := 4) (tgt := 14) dX11_paste_4 rfl (fun q => ?_) (fun q => ?_)
  · have h := ite_t q h
    refine V_bipush (v := (-2)) (pc := 14) dX11_paste_14 rfl ?_
    obtain rfl := Option.some.inj h
    exact E_i (pc := 16) dX11_paste_16 rfl hp
  · have h := ite_f q h
    refine V_iload_n (i := 3) (pc := 7) dX11_paste_7 rfl rfl ?_
    obtain ⟨r8, e8, h⟩ := bnd h
    refine V_invS1 (pc := 8) dX11_paste_8 (e_Mo_isSlot  e8) is_Mo_392 (rm_Mo_paste_Mo_isSlot _ _ _) rfl (Nat.le_of_ble_eq_true rfl) rfl ?_
    refine V_if_ne (pc := 11) (tgt := 17) dX11_paste_11 rfl (fun q => ?_) (fun q => ?_)
    · have h := ite_f q h
      refine V_aload_n (i := 0) (pc := 17) dX11_paste_17 rfl rfl ?_
      refine V_getR (b := (this + 16)) (pc := 18) dX11_paste_18 fl_Mo_66 h_this rfl rfl ?_
      refine V_iload_n (i := 1) (pc := 21) dX11_paste_21 rfl rfl ?_
      obtain ⟨hg22, h⟩ := gd_e h
      refine V_iald (pc := 22) dX11_paste_22 (kf_11_27 h_this) (af_11_27 h_this) hg22 ?_
      refine V_iconst (v := (-1)) (pc := 23) dX11_paste_23 rfl ?_
      refine V_icmp_eq (pc := 24) (tgt := 37) dX11_paste_24 rfl (fun q => ?_) (fun q => ?_)
      · have h := ite_t q h
        refine V_bipush (v := (-6)) (pc := 37) dX11_paste_37 rfl ?_
        obtain rfl := Option.some.inj h
        exact E_i (pc := 39) dX11_paste_39 rfl hp
      · have h := ite_f q h
        refine V_aload_n (i := 0) (pc := 27) dX11_paste_27 rfl rfl ?_
        refine V_getR (b := (this + 16)) (pc := 28) dX11_paste_28 fl_Mo_66 h_this rfl rfl ?_
        refine V_iload_n (i := 3) (pc := 31) dX11_paste_31 rfl rfl ?_
        obtain ⟨hg32, h⟩ := gd_e h
        refine V_iald (pc := 32) dX11_paste_32 (kf_11_27 h_this) (af_11_27 h_this) hg32 ?_
        refine V_iconst (v := (-1)) (pc := 33) dX11_paste_33 rfl ?_
        refine V_icmp_ne (pc := 34) (tgt := 40) dX11_paste_34 rfl (fun q => ?_) (fun q => ?_)
        · have h := ite_f q h
          refine V_aload_n (i := 0) (pc := 40) dX11_paste_40 rfl rfl ?_
          refine V_getR (b := (this + 17)) (pc := 41) dX11_paste_41 fl_Mo_69 h_this rfl rfl ?_
          refine V_iload_n (i := 1) (pc := 44) dX11_paste_44 rfl rfl ?_
          obtain ⟨hg45, h⟩ := gd_e h
          refine V_iald (pc := 45) dX11_paste_45 (kf_11_28 h_this) (af_11_28 h_this) hg45 ?_
          refine V_aload_n (i := 0) (pc := 46) dX11_paste_46 rfl rfl ?_
          refine V_getR (b := (this + 17)) (pc := 47) dX11_paste_47 fl_Mo_69 h_this rfl rfl ?_
          refine V_iload_n (i := 3) (pc := 50) dX11_paste_50 rfl rfl ?_
          obtain ⟨hg51, h⟩ := gd_e h
          refine V_iald (pc := 51) dX11_paste_51 (kf_11_28 h_this) (af_11_28 h_this) hg51 ?_
          refine V_icmp_eq (pc := 52) (tgt := 58) dX11_paste_52 rfl (fun q => ?_) (fun q => ?_)
          · have h := ite_t q h
            refine V_iload_n (i := 2) (pc := 58) dX11_paste_58 rfl rfl ?_
            refine V_if_lt (pc := 59) (tgt := 107) dX11_paste_59 rfl (fun q => ?_) (fun q => ?_)
            · have h := ite_t q h
              refine V_bipush (v := (-7)) (pc := 107) dX11_paste_107 rfl ?_
              obtain rfl := Option.some.inj h
              exact E_i (pc := 109) dX11_paste_109 rfl hp
            · have h := ite_f q h
              refine V_iload (i := 4) (pc := 62) dX11_paste_62 rfl ?_
              refine V_if_lt (pc := 64) (tgt := 107) dX11_paste_64 rfl (fun q => ?_) (fun q => ?_)
              · have h := ite_t q h
                refine V_bipush (v := (-7)) (pc := 107) dX11_paste_107 rfl ?_
                obtain rfl := Option.some.inj h
                exact E_i (pc := 109) dX11_paste_109 rfl hp
              · have h := ite_f q h
                refine V_iload (i := 5) (pc := 67) dX11_paste_67 rfl ?_
                refine V_if_lt (pc := 69) (tgt := 107) dX11_paste_69 rfl (fun q => ?_) (fun q => ?_)
                · have h := ite_t q h
                  refine V_bipush (v := (-7)) (pc := 107) dX11_paste_107 rfl ?_
                  obtain rfl := Option.some.inj h
                  exact E_i (pc := 109) dX11_paste_109 rfl hp
                · have h := ite_f q h
                  refine V_iload_n (i := 2) (pc := 72) dX11_paste_72 rfl rfl ?_
                  refine V_i2l (pc := 73) dX11_paste_73 ?_
                  refine V_iload (i := 5) (pc := 74) dX11_paste_74 rfl ?_
                  refine V_i2l (pc := 76) dX11_paste_76 ?_
                  refine V_ladd (pc := 77) dX11_paste_77 ?_
                  refine V_aload_n (i := 0) (pc := 78) dX11_paste_78 rfl rfl ?_
                  refine V_getR (b := (this + 16)) (pc := 79) dX11_paste_79 fl_Mo_66 h_this rfl rfl ?_
                  refine V_iload_n (i := 1) (pc := 82) dX11_paste_82 rfl rfl ?_
                  obtain ⟨hg83, h⟩ := gd_e h
                  refine V_iald (pc := 83) dX11_paste_83 (kf_11_27 h_this) (af_11_27 h_this) hg83 ?_
                  refine V_i2l (pc := 84) dX11_paste_84 ?_
                  refine V_lif_gt (pc := 85) (tgt := 107) dX11_paste_85 dX11_paste_86 rfl (fun q => ?_) (fun q => ?_)
                  · have h := ite_t q h
                    refine V_bipush (v := (-7)) (pc := 107) dX11_paste_107 rfl ?_
                    obtain rfl := Option.some.inj h
                    exact E_i (pc := 109) dX11_paste_109 rfl hp
                  · have h := ite_f q h
                    refine V_iload (i := 4) (pc := 89) dX11_paste_89 rfl ?_
                    refine V_i2l (pc := 91) dX11_paste_91 ?_
                    refine V_iload (i := 5) (pc := 92) dX11_paste_92 rfl ?_
                    refine V_i2l (pc := 94) dX11_paste_94 ?_
                    refine V_ladd (pc := 95) dX11_paste_95 ?_
                    refine V_aload_n (i := 0) (pc := 96) dX11_paste_96 rfl rfl ?_
                    refine V_getR (b := (this + 16)) (pc := 97) dX11_paste_97 fl_Mo_66 h_this rfl rfl ?_
                    refine V_iload_n (i := 3) (pc := 100) dX11_paste_100 rfl rfl ?_
                    obtain ⟨hg101, h⟩ := gd_e h
                    refine V_iald (pc := 101) dX11_paste_101 (kf_11_27 h_this) (af_11_27 h_this) hg101 ?_
                    refine V_i2l (pc := 102) dX11_paste_102 ?_
                    refine V_lif_le (pc := 103) (tgt := 110) dX11_paste_103 dX11_paste_104 rfl (fun q => ?_) (fun q => ?_)
                    · have h := ite_t q h
                      refine V_iconst (v := 0) (pc := 110) dX11_paste_110 rfl ?_
                      refine V_istore (i := 6) (ls' := [some (vr this), some (vi v1), some (vi v2), some (vi v3), some (vi v4), some (vi v5), some (vi 0)]) (pc := 111) dX11_paste_111 (Nat.le_of_ble_eq_true rfl) rfl ?_
                      exact loop_V (A := fun s : Int32 × Mem => V g Y_Mo_paste 113 [some (vr this), some (vi v1), some (vi v2), some (vi v3), some (vi v4), some (vi v5), some (vi s.1)] [] s.2 (PM g Y_Mo_paste r m')) (fun s x h hp => k_Mo_paste_l113 h_this h hp) (0, m) _ h hp
                    · have h := ite_f q h
                      refine V_bipush (v := (-7)) (pc := 107) dX11_paste_107 rfl ?_
                      obtain rfl := Option.some.inj h
                      exact E_i (pc := 109) dX11_paste_109 rfl hp
          · have h := ite_f q h
            refine V_bipush (v := (-8)) (pc := 55) dX11_paste_55 rfl ?_
            obtain rfl := Option.some.inj h
            exact E_i (pc := 57) dX11_paste_57 rfl hp
        · have h := ite_t q h
          refine V_bipush (v := (-6)) (pc := 37) dX11_paste_37 rfl ?_
          obtain rfl := Option.some.inj h
          exact E_i (pc := 39) dX11_paste_39 rfl hp
    · have h := ite_t q h
      refine V_bipush (v := (-2)) (pc := 14) dX11_paste_14 rfl ?_
      obtain rfl := Option.some.inj h
      exact E_i (pc := 16) dX11_paste_16 rfl hp
theorem e_Mo_paste {g : GE} {this : Nat} {v1 : Int32} {v2 : Int32} {v3 : Int32} {v4 : Int32} {v5 : Int32} {m : Mem} (h_this : kd this = 12) {x : Int32 × Mem} (h : Mo_paste this v1 v2 v3 v4 v5 m = some x) : Ev g Y_Mo_paste [vr this, vi v1, vi v2, vi v3, vi v4, vi v5] m (some (vi x.1)) x.2 :=
  Ev_of 1 (by decide +kernel) rfl (Nat.le_of_ble_eq_true rfl) rfl (k_Mo_paste h_this h ⟨rfl, rfl⟩)
