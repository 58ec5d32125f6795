noncomputable def Re_hasRoom (this : Nat) (v1 : Int32) (m : Mem) : Option (Int32) :=
  if 1600 < ((rI m this 1) + v1) then some 0 else some 1
noncomputable def Re_addNumber_b49 (this : Nat) (v1 : Int32) (v2 : Int32) (m : Mem) : Option ((Int32 × Mem) ⊕ (Mem)) :=
  some (Sum.inl ((v2 + (-8)), m))
noncomputable def Re_addNumber_l3 (this : Nat) (v1 : Int32) (v2 : Int32) (m : Mem) : Option ((Int32 × Mem) ⊕ (Mem)) :=
  if v2 < 0 then up (some m) else if (rI m this 1) < 0 then Re_addNumber_b49 this v1 v2 m else if (Int32.ofNat 1600) ≤ (rI m this 1) then Re_addNumber_b49 this v1 v2 m else gd (inb (rI m this 1) 1600) (lt (wI m (this + 1) (ix (rI m this 1)) (vp_nar .byte ((v1 >>> (v2 &&& 31)).toInt8.toInt32))) (fun m38 => lt (wI m38 this 1 ((rI m38 this 1) + 1)) (fun m46 => Re_addNumber_b49 this v1 v2 m46)))
noncomputable def Re_addNumber (this : Nat) (v1 : Int32) (m : Mem) : Option (Mem) :=
  loop (fun s : Int32 × Mem => Re_addNumber_l3 this v1 s.1 s.2) (24, m)
noncomputable def PL_feed (this : Nat) (v1 : Int32) (v2 : Int32) (v3 : Int32) (v4 : Int32) (v5 : Int32) (m : Mem) : Option (Int32 × Mem) :=
  (Re_hasRoom (this + 1) 20 m).bind (fun r6 => if r6 = 0 then some ((-1), m) else (Re_addNumber (this + 1) v1 m).bind (fun m19 => (Re_addNumber (this + 1) v2 m19).bind (fun m27 => (Re_addNumber (this + 1) v3 m27).bind (fun m35 => (Re_addNumber (this + 1) v4 m35).bind (fun m44 => (Re_addNumber (this + 1) v5 m44).bind (fun m53 => some ((rI m53 (this + 1) 1), m53)))))))
noncomputable def PL_end (this : Nat) (v1 : Int32) (m : Mem) : Option (Int32 × Mem) :=
  if v1 < 0 then some ((-1), m) else if v1 ≤ (rI m (this + 1) 1) then lt (wI m (this + 1) 1 v1) (fun m22 => some (v1, m22)) else some ((-1), m)
noncomputable def Fl_clear (this : Nat) (m : Mem) : Option (Mem) :=
  lt (wI m this 0 0) (fun m2 => lt (wI m2 this 1 0) (fun m7 => lt (wI m7 this 2 0) (fun m12 => lt (wI m12 this 3 0) (fun m17 => lt (wI m17 this 4 0) (fun m22 => lt (wI m22 this 5 0) (fun m27 => lt (wI m27 this 6 0) (fun m32 => lt (wI m32 this 7 0) (fun m37 => lt (wI m37 this 8 1) (fun m42 => lt (wI m42 this 9 5) (fun m47 => lt (wI m47 this 10 50) (fun m53 => lt (wI m53 this 11 50) (fun m59 => lt (wI m59 this 12 20) (fun m65 => lt (wI m65 this 13 0) (fun m70 => lt (wI m70 this 14 0) (fun m75 => lt (wI m75 (this + 1) 1 0) (fun m83 => lt (wI m83 (this + 10) 1 0) (fun m91 => lt (wI m91 (this + 18) 1 0) (fun m99 => some m99))))))))))))))))))
noncomputable def Re_byteAt (this : Nat) (v1 : Int32) (m : Mem) : Option (Int32) :=
  if v1 < 0 then some (-1) else if (rI m this 1) ≤ v1 then some (-1) else if (Int32.ofNat 1600) ≤ v1 then some (-1) else gd (inb v1 1600) (some ((rI m (this + 1) (ix v1)) &&& 255))
noncomputable def Re_tokenOf_b35 (v0 : Int32) (m : Mem) : Option (Int32) :=
  if v0 = 59 then some 3 else some 4
noncomputable def Re_tokenOf_b21 (v0 : Int32) (m : Mem) : Option (Int32) :=
  if v0 < 48 then Re_tokenOf_b35 v0 m else if 57 < v0 then Re_tokenOf_b35 v0 m else some 2
noncomputable def Re_tokenOf (v0 : Int32) (m : Mem) : Option (Int32) :=
  if v0 = (-1) then some 0 else if v0 < 97 then Re_tokenOf_b21 v0 m else if 122 < v0 then Re_tokenOf_b21 v0 m else some 1
noncomputable def Re_next_b151 (this : Nat) (m : Mem) : Option ((Mem) ⊕ (Mem)) :=
  lt (wI m this 5 ((rI m this 5) + 1)) (fun m158 => if (rI m158 this 7) = 1 then some (Sum.inl (m158)) else if (rI m158 this 7) = 2 then some (Sum.inl (m158)) else up (some m158))
noncomputable def Re_next_l86 (this : Nat) (m : Mem) : Option ((Mem) ⊕ (Mem)) :=
  if (rI m this 1) ≤ (rI m this 5) then up (some m) else (Re_byteAt this (rI m this 5) m).bind (fun r102 => (Re_tokenOf r102 m).bind (fun r105 => if r105 = (rI m this 7) then if (rI m this 7) = 2 then (Re_byteAt this (rI m this 5) m).bind (fun r138 => lt (wI m this 8 (jmin 1000000 (((10 * (rI m this 8)) + r138) - 48))) (fun m148 => Re_next_b151 this m148)) else Re_next_b151 this m else up (some m)))
noncomputable def Re_next_b58 (this : Nat) (m : Mem) : Option (Mem) :=
  lt (wI m this 5 (rI m this 6)) (fun m63 => (Re_byteAt this (rI m63 this 6) m63).bind (fun r72 => (Re_tokenOf r72 m63).bind (fun r75 => lt (wI m63 this 7 r75) (fun m78 => lt (wI m78 this 8 0) (fun m83 => loop (fun s : Mem => Re_next_l86 this s) (m83))))))
noncomputable def Re_next_b45 (this : Nat) (m : Mem) : Option ((Mem) ⊕ (Mem)) :=
  lt (wI m this 6 ((rI m this 6) + 1)) (fun m52 => some (Sum.inl (m52)))
noncomputable def Re_next_l8 (this : Nat) (m : Mem) : Option ((Mem) ⊕ (Mem)) :=
  if (rI m this 1) ≤ (rI m this 6) then up (Re_next_b58 this m) else (Re_byteAt this (rI m this 6) m).bind (fun r24 => if r24 = 32 then Re_next_b45 this m else (Re_byteAt this (rI m this 6) m).bind (fun r37 => if r37 = 10 then Re_next_b45 this m else up (Re_next_b58 this m)))
noncomputable def Re_next (this : Nat) (m : Mem) : Option (Mem) :=
  lt (wI m this 6 (rI m this 5)) (fun m5 => loop (fun s : Mem => Re_next_l8 this s) (m5))
noncomputable def Re_is_l28 (this : Nat) (v1 : Nat) (v2 : Int32) (m : Mem) : Option ((Int32) ⊕ (Int32)) :=
  (S_length v1 m).bind (fun r30 => if r30 ≤ v2 then up (some 1) else (Re_byteAt this ((rI m this 6) + v2) m).bind (fun r43 => (S_charAt v1 v2 m).bind (fun r48 => if r43 = r48 then some (Sum.inl ((v2 + 1))) else up (some 0))))
noncomputable def Re_is (this : Nat) (v1 : Nat) (m : Mem) : Option (Int32) :=
  if (rI m this 7) = 1 then (S_length v1 m).bind (fun r18 => if ((rI m this 5) - (rI m this 6)) = r18 then loop (fun s : Int32 => Re_is_l28 this v1 s m) (0) else some 0) else some 0
noncomputable def Re_fail (this : Nat) (v1 : Int32) (m : Mem) : Option (Mem) :=
  if (rI m this 3) = 0 then lt (wI m this 3 v1) (fun m9 => lt (wI m9 this 4 (rI m9 this 6)) (fun m17 => some m17)) else some m
noncomputable def Re_take (this : Nat) (v1 : Nat) (m : Mem) : Option (Mem) :=
  if (rI m this 3) = 0 then (Re_is this v1 m).bind (fun r10 => if r10 = 0 then (Re_fail this 1 m).bind (fun m25 => some m25) else (Re_next this m).bind (fun m17 => some m17)) else some m
noncomputable def Re_takeNumber_b40 (this : Nat) (m : Mem) : Option (Int32 × Mem) :=
  (Re_fail this 2 m).bind (fun m42 => some (0, m42))
noncomputable def Re_takeNumber (this : Nat) (v1 : Int32) (v2 : Int32) (m : Mem) : Option (Int32 × Mem) :=
  if (rI m this 3) = 0 then if (rI m this 7) = 2 then if (rI m this 8) < v1 then Re_takeNumber_b40 this m else if (rI m this 8) ≤ v2 then (Re_next this m).bind (fun m53 => some ((rI m this 8), m53)) else Re_takeNumber_b40 this m else (Re_fail this 1 m).bind (fun m19 => some (0, m19)) else some (0, m)
noncomputable def Re_named (this : Nat) (v1 : Nat) (v2 : Int32) (v3 : Int32) (m : Mem) : Option (Int32 × Mem) :=
  (Re_take this v1 m).bind (fun m2 => (Re_takeNumber this v2 v3 m2).bind (fun r8 => some (r8.1, r8.2)))
noncomputable def Re_readFloe (this : Nat) (m : Mem) : Option (Mem) :=
  (Re_take this 1000 m).bind (fun m3 => (Re_named this 1001 2 12 m3).bind (fun r16 => lt (wI r16.2 (this + 2) 0 r16.1) (fun m19 => (Re_named this 1002 2 12 m19).bind (fun r32 => lt (wI r32.2 (this + 2) 1 r32.1) (fun m35 => (Re_named this 1003 1 28 m35).bind (fun r48 => lt (wI r48.2 (this + 2) 2 r48.1) (fun m51 => (Re_named this 1004 1 60 m51).bind (fun r64 => lt (wI r64.2 (this + 2) 3 r64.1) (fun m67 => some m67)))))))))
noncomputable def Ta_isFull (this : Nat) (m : Mem) : Option (Int32) :=
  if (rI m this 1) < (Int32.ofNat (al (this + 1))) then some 0 else some 1
noncomputable def Ta_tell (this : Nat) (v1 : Int32) (v2 : Int32) (m : Mem) : Option (Mem) :=
  if (rI m this 1) < 0 then some m else if (Int32.ofNat (al (this + 1))) ≤ (rI m this 1) then some m else if v1 < 0 then some m else gd (inb (rI m this 1) (al (this + 1))) (if (Int32.ofNat (al (this + 2))) ≤ v1 then some m else gd (inb (rI m this 1) (al (this + 1))) (gd (inb v1 (al (this + 2))) (lt (wI m ((this + 1) + (1 + ix (rI m this 1))) (ix v1) v2) (fun m48 => some m48))))
noncomputable def Ta_add (this : Nat) (m : Mem) : Option (Mem) :=
  (Ta_isFull this m).bind (fun r1 => if r1 = 0 then lt (wI m this 1 ((rI m this 1) + 1)) (fun m14 => some m14) else some m)
noncomputable def Re_readCrack_b182 (this : Nat) (k1 : Int32) (k2 : Int32) (m : Mem) : Option (Mem) :=
  (Ta_tell (this + 3) k1 k2 m).bind (fun m182 => (Ta_add (this + 3) m182).bind (fun m186 => some m186))
noncomputable def Re_readCrack_b170 (this : Nat) (v3 : Int32) (m : Mem) : Option (Mem) :=
  if v3 = 0 then Re_readCrack_b182 this 6 0 m else Re_readCrack_b182 this 6 1 m
noncomputable def Re_readCrack_b88 (this : Nat) (k1 : Int32) (k3 : Int32) (k4 : Int32) (m : Mem) : Option (Mem) :=
  (Re_takeNumber this k3 (k4 - 1) m).bind (fun r90 => (Ta_tell (this + 3) k1 r90.1 r90.2).bind (fun m93 => (Re_named this 1007 0 500 m93).bind (fun r105 => (Ta_tell (this + 3) 2 r105.1 r105.2).bind (fun m108 => (Re_named this 1008 0 99 m108).bind (fun r119 => (Ta_tell (this + 3) 3 r119.1 r119.2).bind (fun m122 => (Re_named this 1009 0 99 m122).bind (fun r133 => (Ta_tell (this + 3) 4 r133.1 r133.2).bind (fun m136 => (Re_named this 1010 0 99 m136).bind (fun r147 => (Ta_tell (this + 3) 5 r147.1 r147.2).bind (fun m150 => (Re_is this 1011 m150).bind (fun r156 => if r156 = 0 then Re_readCrack_b170 this r156 m150 else (Re_take this 1011 m150).bind (fun m167 => Re_readCrack_b170 this r156 m167))))))))))))
noncomputable def Re_readCrack_b60 (this : Nat) (v2 : Int32) (k1 : Int32) (k2 : Int32) (m : Mem) : Option (Mem) :=
  (Ta_tell (this + 3) k1 k2 m).bind (fun m60 => if v2 = 0 then Re_readCrack_b88 this 1 1 (rI m60 (this + 2) 0) m60 else Re_readCrack_b88 this 1 1 (rI m60 (this + 2) 1) m60)
noncomputable def Re_readCrack_b49 (this : Nat) (v2 : Int32) (m : Mem) : Option (Mem) :=
  if v2 = 0 then Re_readCrack_b60 this v2 0 0 m else Re_readCrack_b60 this v2 0 1 m
noncomputable def Re_readCrack (this : Nat) (m : Mem) : Option (Mem) :=
  (Ta_isFull (this + 3) m).bind (fun r9 => if r9 = 0 then (Re_next this m).bind (fun m22 => (Re_is this 1006 m22).bind (fun r28 => if r28 = 0 then (Re_take this 1005 m22).bind (fun m46 => Re_readCrack_b49 this r28 m46) else (Re_next this m22).bind (fun m37 => Re_readCrack_b49 this r28 m37))) else (Re_fail this 3 m).bind (fun m17 => some m17))
noncomputable def Re_takeKind_b61 (this : Nat) (v1 : Int32) (m : Mem) : Option (Int32 × Mem) :=
  (Re_next this m).bind (fun m62 => some (v1, m62))
noncomputable def Re_takeKind_b40 (this : Nat) (k0 : Int32) (m : Mem) : Option (Int32 × Mem) :=
  if k0 = 0 then (Re_is this 1012 m).bind (fun r48 => if r48 = 0 then (Re_fail this 1 m).bind (fun m56 => some (0, m56)) else Re_takeKind_b61 this k0 m) else Re_takeKind_b61 this k0 m
noncomputable def Re_takeKind (this : Nat) (m : Mem) : Option (Int32 × Mem) :=
  (Re_is this 1013 m).bind (fun r3 => if r3 = 0 then (Re_is this 1014 m).bind (fun r16 => if r16 = 0 then (Re_is this 1015 m).bind (fun r29 => if r29 = 0 then Re_takeKind_b40 this 0 m else Re_takeKind_b40 this 3 m) else Re_takeKind_b40 this 2 m) else Re_takeKind_b40 this 1 m)
noncomputable def Re_readSort (this : Nat) (m : Mem) : Option (Mem) :=
  (Ta_isFull (this + 12) m).bind (fun r9 => if r9 = 0 then (Re_next this m).bind (fun m22 => (Re_takeKind this m22).bind (fun r28 => (Ta_tell (this + 12) 0 r28.1 r28.2).bind (fun m31 => (Re_named this 1016 1 99 m31).bind (fun r42 => (Ta_tell (this + 12) 1 r42.1 r42.2).bind (fun m45 => (Re_named this 1017 1 99 m45).bind (fun r56 => (Ta_tell (this + 12) 2 r56.1 r56.2).bind (fun m59 => (Re_named this 1018 0 20 m59).bind (fun r70 => (Ta_tell (this + 12) 3 r70.1 r70.2).bind (fun m73 => (Ta_add (this + 12) m73).bind (fun m77 => some m77)))))))))) else (Re_fail this 3 m).bind (fun m17 => some m17))
noncomputable def Re_readOther (this : Nat) (m : Mem) : Option (Mem) :=
  (Ta_isFull (this + 20) m).bind (fun r9 => if r9 = 0 then (Re_next this m).bind (fun m22 => (Re_named this 1019 1 60 m22).bind (fun r33 => (Ta_tell (this + 20) 0 r33.1 r33.2).bind (fun m36 => (Re_named this 1007 0 100 m36).bind (fun r47 => (Ta_tell (this + 20) 1 r47.1 r47.2).bind (fun m50 => (Re_named this 1020 0 9999 m50).bind (fun r62 => (Ta_tell (this + 20) 2 r62.1 r62.2).bind (fun m65 => (Ta_add (this + 20) m65).bind (fun m69 => some m69)))))))) else (Re_fail this 3 m).bind (fun m17 => some m17))
noncomputable def Re_takeOnce (this : Nat) (v1 : Int32) (m : Mem) : Option (Mem) :=
  if (((rI m this 9) >>> (v1 &&& 31)) &&& 1) = 1 then (Re_fail this 2 m).bind (fun m14 => some m14) else lt (wI m this 9 ((rI m this 9) ||| ((1 : Int32) <<< (v1 &&& 31)))) (fun m27 => (Re_next this m27).bind (fun m31 => some m31))
noncomputable def Re_readSingle (this : Nat) (m : Mem) : Option (Mem) :=
  (Re_is this 1021 m).bind (fun r3 => if r3 = 0 then (Re_is this 1022 m).bind (fun r52 => if r52 = 0 then (Re_is this 1023 m).bind (fun r83 => if r83 = 0 then (Re_is this 1024 m).bind (fun r130 => if r130 = 0 then (Re_is this 1025 m).bind (fun r161 => if r161 = 0 then (Re_is this 1020 m).bind (fun r208 => if r208 = 0 then (Re_fail this 1 m).bind (fun m256 => some m256) else (Re_takeOnce this 5 m).bind (fun m216 => (Re_takeNumber this 0 9999 m216).bind (fun r228 => lt (wI r228.2 (this + 2) 13 r228.1) (fun m231 => (Re_named this 1028 0 9999 m231).bind (fun r245 => lt (wI r245.2 (this + 2) 14 r245.1) (fun m248 => some m248)))))) else (Re_takeOnce this 4 m).bind (fun m169 => (Re_takeNumber this 0 100 m169).bind (fun r180 => lt (wI r180.2 (this + 2) 11 r180.1) (fun m183 => (Re_named this 1027 0 60 m183).bind (fun r196 => lt (wI r196.2 (this + 2) 12 r196.1) (fun m199 => some m199)))))) else (Re_takeOnce this 3 m).bind (fun m138 => (Re_takeNumber this 0 100 m138).bind (fun r149 => lt (wI r149.2 (this + 2) 10 r149.1) (fun m152 => some m152)))) else (Re_takeOnce this 2 m).bind (fun m91 => (Re_takeNumber this 0 60 m91).bind (fun r102 => lt (wI r102.2 (this + 2) 8 r102.1) (fun m105 => (Re_named this 1026 0 60 m105).bind (fun r118 => lt (wI r118.2 (this + 2) 9 r118.1) (fun m121 => some m121)))))) else (Re_takeOnce this 1 m).bind (fun m60 => (Re_takeNumber this 0 100 m60).bind (fun r71 => lt (wI r71.2 (this + 2) 7 r71.1) (fun m74 => some m74)))) else (Re_takeOnce this 0 m).bind (fun m11 => (Re_named this 1008 0 9 m11).bind (fun r24 => lt (wI r24.2 (this + 2) 5 r24.1) (fun m27 => (Re_named this 1009 0 9 m27).bind (fun r40 => lt (wI r40.2 (this + 2) 6 r40.1) (fun m43 => some m43))))))
noncomputable def Re_endLine_b20 (this : Nat) (m : Mem) : Option (Mem) :=
  if (rI m this 3) = 0 then lt (wI m (this + 2) 4 ((rI m (this + 2) 4) + 1)) (fun m37 => (Re_next this m37).bind (fun m41 => some m41)) else some m
noncomputable def Re_endLine (this : Nat) (m : Mem) : Option (Mem) :=
  if (rI m this 3) = 0 then if (rI m this 7) = 3 then Re_endLine_b20 this m else (Re_fail this 1 m).bind (fun m17 => Re_endLine_b20 this m17) else Re_endLine_b20 this m
noncomputable def Re_read_b133 (this : Nat) (m : Mem) : Option (Mem) :=
  lt (wI m this 1 0) (fun m135 => some m135)
noncomputable def Re_read_b123 (this : Nat) (v1 : Int32) (m : Mem) : Option ((Int32 × Mem) ⊕ (Mem)) :=
  (Re_endLine this m).bind (fun m124 => some (Sum.inl ((v1 + 1), m124)))
noncomputable def Re_read_l33 (this : Nat) (v1 : Int32) (m : Mem) : Option ((Int32 × Mem) ⊕ (Mem)) :=
  if 1600 < v1 then up (Re_read_b133 this m) else if (rI m this 3) = 0 then if (rI m this 7) = 0 then up (Re_read_b133 this m) else if (rI m (this + 2) 4) = 0 then (Re_readFloe this m).bind (fun m65 => Re_read_b123 this v1 m65) else (Re_is this 1029 m).bind (fun r74 => if r74 = 0 then (Re_is this 1030 m).bind (fun r90 => if r90 = 0 then (Re_is this 1031 m).bind (fun r106 => if r106 = 0 then (Re_readSingle this m).bind (fun m120 => Re_read_b123 this v1 m120) else (Re_readOther this m).bind (fun m113 => Re_read_b123 this v1 m113)) else (Re_readSort this m).bind (fun m97 => Re_read_b123 this v1 m97)) else (Re_readCrack this m).bind (fun m81 => Re_read_b123 this v1 m81)) else up (Re_read_b133 this m)
noncomputable def Re_read (this : Nat) (m : Mem) : Option (Mem) :=
  (Fl_clear (this + 2) m).bind (fun m4 => lt (wI m4 this 3 0) (fun m9 => lt (wI m9 this 4 (-1)) (fun m14 => lt (wI m14 this 5 0) (fun m19 => lt (wI m19 this 9 0) (fun m24 => (Re_next this m24).bind (fun m28 => loop (fun s : Int32 × Mem => Re_read_l33 this s.1 s.2) (0, m28)))))))
noncomputable def Ta_at (this : Nat) (v1 : Int32) (v2 : Int32) (m : Mem) : Option (Int32) :=
  if v1 < 0 then some 0 else if (Int32.ofNat (al (this + 1))) ≤ v1 then some 0 else if v2 < 0 then some 0 else gd (inb v1 (al (this + 1))) (if v2 < (Int32.ofNat (al (this + 2))) then gd (inb v1 (al (this + 1))) (gd (inb v2 (al (this + 2))) (some (rI m ((this + 1) + (1 + ix v1)) (ix v2)))) else some 0)
noncomputable def Ta_copyFrom_l28 (this : Nat) (v1 : Nat) (v2 : Int32) (v3 : Int32) (m : Mem) : Option ((Int32 × Mem) ⊕ ((Int32 × Mem) ⊕ (Mem))) :=
  gd (inb v2 (al (this + 1))) (if (Int32.ofNat (al (this + 2))) ≤ v3 then up (some (Sum.inl ((v2 + 1), m))) else gd (inb v2 (al (this + 1))) ((Ta_at v1 v2 v3 m).bind (fun r49 => gd (inb v3 (al (this + 2))) (lt (wI m ((this + 1) + (1 + ix v2)) (ix v3) r49) (fun m52 => some (Sum.inl ((v3 + 1), m52)))))))
noncomputable def Ta_copyFrom_l18 (this : Nat) (v1 : Nat) (v2 : Int32) (m : Mem) : Option ((Int32 × Mem) ⊕ (Mem)) :=
  if (rI m this 1) ≤ v2 then up (some m) else loop (fun s : Int32 × Mem => Ta_copyFrom_l28 this v1 v2 s.1 s.2) (0, m)
noncomputable def Ta_copyFrom (this : Nat) (v1 : Nat) (m : Mem) : Option (Mem) :=
  lt (wI m this 1 (jmin (rI m v1 1) (Int32.ofNat (al (this + 1))))) (fun m13 => loop (fun s : Int32 × Mem => Ta_copyFrom_l18 this v1 s.1 s.2) (0, m13))
noncomputable def Fl_copyFrom (this : Nat) (v1 : Nat) (m : Mem) : Option (Mem) :=
  lt (wI m this 0 (rI m v1 0)) (fun m5 => lt (wI m5 this 1 (rI m5 v1 1)) (fun m13 => lt (wI m13 this 2 (rI m13 v1 2)) (fun m21 => lt (wI m21 this 3 (rI m21 v1 3)) (fun m29 => lt (wI m29 this 4 (rI m29 v1 4)) (fun m37 => lt (wI m37 this 5 (rI m37 v1 5)) (fun m45 => lt (wI m45 this 6 (rI m45 v1 6)) (fun m53 => lt (wI m53 this 7 (rI m53 v1 7)) (fun m61 => lt (wI m61 this 8 (rI m61 v1 8)) (fun m69 => lt (wI m69 this 9 (rI m69 v1 9)) (fun m77 => lt (wI m77 this 10 (rI m77 v1 10)) (fun m85 => lt (wI m85 this 11 (rI m85 v1 11)) (fun m93 => lt (wI m93 this 12 (rI m93 v1 12)) (fun m101 => lt (wI m101 this 13 (rI m101 v1 13)) (fun m109 => lt (wI m109 this 14 (rI m109 v1 14)) (fun m117 => (Ta_copyFrom (this + 1) (v1 + 1) m117).bind (fun m128 => (Ta_copyFrom (this + 10) (v1 + 10) m128).bind (fun m139 => (Ta_copyFrom (this + 18) (v1 + 18) m139).bind (fun m150 => some m150))))))))))))))))))
noncomputable def PL_isHeap (v0 : Int32) (m : Mem) : Option (Int32) :=
  if v0 < 0 then some 0 else if 8 ≤ v0 then some 0 else some 1
noncomputable def Ca_placeHeap (this : Nat) (v1 : Int32) (v2 : Int32) (v3 : Int32) (m : Mem) : Option (Mem) :=
  (PL_isHeap v1 m).bind (fun r1 => if r1 = 0 then some m else gd (inb v1 8) (lt (wI m (this + 25) (ix v1) v2) (fun m13 => gd (inb v1 8) (lt (wI m13 (this + 26) (ix v1) v3) (fun m20 => some m20)))))
noncomputable def Ca_takeAway_l9 (this : Nat) (v1 : Int32) (v2 : Int32) (m : Mem) : Option ((Int32 × Mem) ⊕ (Mem)) :=
  if 6 ≤ v2 then up (some m) else (PL_isHeap v1 m).bind (fun r16 => if r16 = 0 then up (some m) else gd (inb v1 8) (gd (inb v2 6) (lt (wI m ((this + 27) + (1 + ix v1)) (ix v2) 0) (fun m30 => some (Sum.inl ((v2 + 1), m30))))))
noncomputable def Ca_takeAway (this : Nat) (v1 : Int32) (m : Mem) : Option (Mem) :=
  (Ca_placeHeap this v1 (-1) 0 m).bind (fun m4 => loop (fun s : Int32 × Mem => Ca_takeAway_l9 this v1 s.1 s.2) (0, m4))
noncomputable def PL_isGroup (v0 : Int32) (m : Mem) : Option (Int32) :=
  if v0 < 0 then some 0 else if 4 ≤ v0 then some 0 else some 1
noncomputable def Ca_placeGroup (this : Nat) (v1 : Int32) (v2 : Int32) (v3 : Int32) (m : Mem) : Option (Mem) :=
  (PL_isGroup v1 m).bind (fun r1 => if r1 = 0 then some m else gd (inb v1 4) (lt (wI m (this + 36) (ix v1) v2) (fun m13 => gd (inb v1 4) (lt (wI m13 (this + 37) (ix v1) v3) (fun m20 => some m20)))))
noncomputable def Ca_begin_l75 (this : Nat) (v1 : Nat) (v2 : Int32) (m : Mem) : Option ((Int32 × Mem) ⊕ (Mem)) :=
  if 7 ≤ v2 then up (lt (wI m this 9 0) (fun m96 => some m96)) else gd (inb v2 7) (lt (wI m (this + 39) (ix v2) 0) (fun m87 => some (Sum.inl ((v2 + 1), m87))))
noncomputable def Ca_begin_b61 (this : Nat) (v1 : Nat) (v2 : Int32) (k1 : Int32) (k2 : Int32) (m : Mem) : Option ((Int32 × Mem) ⊕ (Mem)) :=
  gd (inb k1 4) (lt (wI m (this + 38) (ix k1) k2) (fun m61 => some (Sum.inl ((v2 + 1), m61))))
noncomputable def Ca_begin_l29 (this : Nat) (v1 : Nat) (v2 : Int32) (m : Mem) : Option ((Int32 × Mem) ⊕ (Mem)) :=
  if 4 ≤ v2 then up (lt (wI m this 7 0) (fun m70 => loop (fun s : Int32 × Mem => Ca_begin_l75 this v1 s.1 s.2) (0, m70))) else (Ca_placeGroup this v2 0 0 m).bind (fun m38 => if v2 = 0 then Ca_begin_b61 this v1 v2 v2 (rI m38 (this + 1) 2) m38 else Ca_begin_b61 this v1 v2 v2 0 m38)
noncomputable def Ca_begin_l10 (this : Nat) (v1 : Nat) (v2 : Int32) (m : Mem) : Option ((Int32 × Mem) ⊕ (Mem)) :=
  if 8 ≤ v2 then up (loop (fun s : Int32 × Mem => Ca_begin_l29 this v1 s.1 s.2) (0, m)) else (Ca_takeAway this v2 m).bind (fun m18 => some (Sum.inl ((v2 + 1), m18)))
noncomputable def Ca_begin (this : Nat) (v1 : Nat) (m : Mem) : Option (Mem) :=
  (Fl_copyFrom (this + 1) v1 m).bind (fun m5 => loop (fun s : Int32 × Mem => Ca_begin_l10 this v1 s.1 s.2) (0, m5))
noncomputable def PL_floe (this : Nat) (m : Mem) : Option (Int32 × Mem) :=
  (Re_read (this + 1) m).bind (fun m4 => if (rI m4 (this + 1) 3) = 0 then (Ca_begin (this + 27) (this + 3) m4).bind (fun m31 => lt (wI m31 this 10 0) (fun m36 => some ((rI m36 (this + 28) 4), m36))) else some ((-4), m4))
noncomputable def PL_fault (this : Nat) (v1 : Int32) (m : Mem) : Option (Int32) :=
  if v1 = 0 then some (rI m (this + 1) 3) else if v1 = 1 then some (rI m (this + 1) 4) else some (-1)
noncomputable def Fl_hasCell (this : Nat) (v1 : Int32) (v2 : Int32) (m : Mem) : Option (Int32) :=
  if v1 < 0 then some 0 else if (rI m this 0) ≤ v1 then some 0 else if v2 < 0 then some 0 else if (rI m this 1) ≤ v2 then some 0 else some 1
noncomputable def Ca_hasHeap (this : Nat) (v1 : Int32) (m : Mem) : Option (Int32) :=
  if v1 < 0 then some 0 else if 8 ≤ v1 then some 0 else gd (inb v1 8) (if (rI m (this + 25) (ix v1)) = (-1) then some 0 else some 1)
noncomputable def PL_heap_b46 (this : Nat) (v1 : Int32) (v2 : Int32) (v3 : Int32) (k0 : Int32) (m : Mem) : Option (Int32 × Mem) :=
  if v2 = (-1) then (Ca_takeAway (this + 27) v1 m).bind (fun m58 => some (k0, m58)) else (Ca_placeHeap (this + 27) v1 v2 v3 m).bind (fun m71 => some (k0, m71))
noncomputable def PL_heap_b30 (this : Nat) (v1 : Int32) (v2 : Int32) (v3 : Int32) (m : Mem) : Option (Int32 × Mem) :=
  (Ca_hasHeap (this + 27) v1 m).bind (fun r35 => if r35 = 0 then PL_heap_b46 this v1 v2 v3 0 m else PL_heap_b46 this v1 v2 v3 1 m)
noncomputable def PL_heap (this : Nat) (v1 : Int32) (v2 : Int32) (v3 : Int32) (m : Mem) : Option (Int32 × Mem) :=
  (PL_isHeap v1 m).bind (fun r1 => if r1 = 0 then some ((-2), m) else if v2 = (-1) then PL_heap_b30 this v1 v2 v3 m else (Fl_hasCell (this + 28) v2 v3 m).bind (fun r21 => if r21 = 0 then some ((-2), m) else PL_heap_b30 this v1 v2 v3 m))
noncomputable def Ta_has (this : Nat) (v1 : Int32) (m : Mem) : Option (Int32) :=
  if v1 < 0 then some 0 else if (rI m this 1) ≤ v1 then some 0 else some 1
noncomputable def Ca_unitsIn (this : Nat) (v1 : Int32) (v2 : Int32) (m : Mem) : Option (Int32) :=
  if v1 < 0 then some 0 else if 8 ≤ v1 then some 0 else if v2 < 0 then some 0 else if v2 < 6 then gd (inb v1 8) (gd (inb v2 6) (some (rI m ((this + 27) + (1 + ix v1)) (ix v2)))) else some 0
noncomputable def Ca_laidElsewhere_b28 (this : Nat) (v1 : Int32) (v2 : Int32) (v3 : Int32) (v4 : Int32) (m : Mem) : Option ((Int32 × Int32) ⊕ (Int32)) :=
  some (Sum.inl (v3, (v4 + 1)))
noncomputable def Ca_laidElsewhere_l5 (this : Nat) (v1 : Int32) (v2 : Int32) (v3 : Int32) (v4 : Int32) (m : Mem) : Option ((Int32 × Int32) ⊕ (Int32)) :=
  if 8 ≤ v4 then up (some v3) else if v4 = v1 then Ca_laidElsewhere_b28 this v1 v2 v3 v4 m else (Ca_unitsIn this v4 v2 m).bind (fun r23 => Ca_laidElsewhere_b28 this v1 v2 (v3 + r23) v4 m)
noncomputable def Ca_laidElsewhere (this : Nat) (v1 : Int32) (v2 : Int32) (m : Mem) : Option (Int32) :=
  loop (fun s : Int32 × Int32 => Ca_laidElsewhere_l5 this v1 v2 s.1 s.2 m) (0, 0)
noncomputable def PL_put (this : Nat) (v1 : Int32) (v2 : Int32) (v3 : Int32) (m : Mem) : Option (Int32 × Mem) :=
  (Ca_hasHeap (this + 27) v1 m).bind (fun r5 => if r5 = 0 then some ((-2), m) else (Ta_has (this + 38) v2 m).bind (fun r22 => if r22 = 0 then some ((-2), m) else if 0 ≤ v3 then (Ta_at (this + 38) v2 3 m).bind (fun r47 => (Ca_laidElsewhere (this + 27) v1 v2 m).bind (fun r56 => if v3 ≤ (r47 - r56) then gd (inb v1 8) (gd (inb v2 6) (lt (wI m ((this + 54) + (1 + ix v1)) (ix v2) v3) (fun m82 => some (((r47 - r56) - v3), m82)))) else some ((-3), m))) else some ((-2), m)))
noncomputable def Ca_sleepers_l4 (this : Nat) (v1 : Int32) (v2 : Int32) (m : Mem) : Option ((Int32 × Int32) ⊕ (Int32)) :=
  if 4 ≤ v2 then up (some v1) else gd (inb v2 4) (some (Sum.inl ((v1 + (rI m (this + 38) (ix v2))), (v2 + 1))))
noncomputable def Ca_sleepers (this : Nat) (m : Mem) : Option (Int32) :=
  loop (fun s : Int32 × Int32 => Ca_sleepers_l4 this s.1 s.2 m) (0, 0)
noncomputable def PL_sleep (this : Nat) (v1 : Int32) (v2 : Int32) (v3 : Int32) (v4 : Int32) (m : Mem) : Option (Int32 × Mem) :=
  (PL_isGroup v1 m).bind (fun r1 => if r1 = 0 then some ((-2), m) else (Fl_hasCell (this + 28) v2 v3 m).bind (fun r16 => if r16 = 0 then some ((-2), m) else if v4 < 0 then some ((-2), m) else if v4 ≤ 28 then (Ca_sleepers (this + 27) m).bind (fun r41 => gd (inb v1 4) (if ((r41 - (rI m (this + 65) (ix v1))) + v4) ≤ (rI m (this + 28) 2) then (Ca_placeGroup (this + 27) v1 v2 v3 m).bind (fun m84 => gd (inb v1 4) (lt (wI m84 (this + 65) (ix v1) v4) (fun m97 => some (((r41 - (rI m (this + 65) (ix v1))) + v4), m97)))) else some ((-3), m))) else some ((-2), m)))
noncomputable def Fl_isThere (this : Nat) (m : Mem) : Option (Int32) :=
  if (rI m this 0) ≤ 0 then some 0 else some 1
noncomputable def Fl_hasSet (this : Nat) (v1 : Int32) (m : Mem) : Option (Int32) :=
  (Fl_isThere this m).bind (fun r1 => if r1 = 0 then some 0 else if v1 < 0 then some 0 else if ((1 : Int32) <<< ((rI m (this + 1) 1) &&& 31)) ≤ v1 then some 0 else some 1)
noncomputable def PL_open (this : Nat) (v1 : Int32) (m : Mem) : Option (Int32 × Mem) :=
  (Fl_hasSet (this + 28) v1 m).bind (fun r8 => if r8 = 0 then some ((-2), m) else lt (wI m (this + 27) 7 v1) (fun m30 => some ((rI m (this + 27) 7), m30)))
noncomputable def Ca_tonsOf_l4 (this : Nat) (v1 : Int32) (v2 : Int32) (v3 : Int32) (m : Mem) : Option ((Int32 × Int32) ⊕ (Int32)) :=
  if (rI m (this + 11) 1) ≤ v3 then up (some v2) else (Ca_unitsIn this v1 v3 m).bind (fun r22 => (Ta_at (this + 11) v3 2 m).bind (fun r34 => some (Sum.inl ((v2 + (r22 * r34)), (v3 + 1)))))
noncomputable def Ca_tonsOf (this : Nat) (v1 : Int32) (m : Mem) : Option (Int32) :=
  loop (fun s : Int32 × Int32 => Ca_tonsOf_l4 this v1 s.1 s.2 m) (0, 0)
noncomputable def PL_lies_b49 (this : Nat) (v1 : Int32) (v2 : Int32) (v3 : Int32) (m : Mem) : Option (Int32) :=
  (Ca_hasHeap (this + 27) v1 m).bind (fun r54 => if r54 = 0 then some (-1) else if v2 = 0 then gd (inb v1 8) (some (rI m (this + 52) (ix v1))) else if v2 = 1 then gd (inb v1 8) (some (rI m (this + 53) (ix v1))) else if v2 = 2 then (Ca_tonsOf (this + 27) v1 m).bind (fun r113 => some r113) else (Ca_unitsIn (this + 27) v1 v3 m).bind (fun r123 => some r123))
noncomputable def PL_lies_b12 (this : Nat) (v1 : Int32) (v2 : Int32) (k0 : Int32) (m : Mem) : Option (Int32) :=
  (PL_isHeap v1 m).bind (fun r14 => if r14 = 0 then some (-2) else if v2 < 0 then some (-2) else if v2 ≤ 2 then PL_lies_b49 this v1 v2 k0 m else (Ta_has (this + 38) k0 m).bind (fun r40 => if r40 = 0 then some (-2) else PL_lies_b49 this v1 v2 k0 m))
noncomputable def PL_lies (this : Nat) (v1 : Int32) (v2 : Int32) (m : Mem) : Option (Int32) :=
  if 3 ≤ v2 then PL_lies_b12 this v1 v2 (v2 - 3) m else PL_lies_b12 this v1 v2 (-1) m
noncomputable def Fl_cellsBetween_b29 (this : Nat) (v4 : Int32) (k0 : Int32) (m : Mem) : Option (Int32) :=
  if k0 < v4 then some ((v4 - 1) - k0) else some (k0 - v4)
noncomputable def Fl_cellsBetween (this : Nat) (v1 : Int32) (v2 : Int32) (v3 : Int32) (m : Mem) : Option (Int32) :=
  (Ta_at (this + 1) v1 1 m).bind (fun r6 => (Ta_at (this + 1) v1 0 m).bind (fun r17 => if r17 = 1 then Fl_cellsBetween_b29 this r6 v3 m else Fl_cellsBetween_b29 this r6 v2 m))
noncomputable def Ca_tonsNear_b49 (this : Nat) (v1 : Int32) (v2 : Int32) (v3 : Int32) (m : Mem) : Option ((Int32 × Int32) ⊕ (Int32)) :=
  some (Sum.inl (v2, (v3 + 1)))
noncomputable def Ca_tonsNear_l4 (this : Nat) (v1 : Int32) (v2 : Int32) (v3 : Int32) (m : Mem) : Option ((Int32 × Int32) ⊕ (Int32)) :=
  if 8 ≤ v3 then up (some v2) else (Ca_hasHeap this v3 m).bind (fun r12 => if r12 = 0 then Ca_tonsNear_b49 this v1 v2 v3 m else gd (inb v3 8) (gd (inb v3 8) ((Fl_cellsBetween (this + 1) v1 (rI m (this + 25) (ix v3)) (rI m (this + 26) (ix v3)) m).bind (fun r35 => if r35 = 0 then (Ca_tonsOf this v3 m).bind (fun r44 => Ca_tonsNear_b49 this v1 (v2 + r44) v3 m) else Ca_tonsNear_b49 this v1 v2 v3 m))))
noncomputable def Ca_tonsNear (this : Nat) (v1 : Int32) (m : Mem) : Option (Int32) :=
  loop (fun s : Int32 × Int32 => Ca_tonsNear_l4 this v1 s.1 s.2 m) (0, 0)
noncomputable def PL_near (this : Nat) (v1 : Int32) (m : Mem) : Option (Int32) :=
  (Ta_has (this + 29) v1 m).bind (fun r11 => if r11 = 0 then some (-2) else (Ca_tonsNear (this + 27) v1 m).bind (fun r22 => some r22))
noncomputable def Fl_oddsUnder_b73 (this : Nat) (v3 : Int32) (m : Mem) : Option (Int32) :=
  some (jmin v3 10000)
noncomputable def Fl_oddsUnder (this : Nat) (v1 : Int32) (v2 : Int32) (m : Mem) : Option (Int32) :=
  (Ta_at (this + 1) v1 2 m).bind (fun r6 => (Ta_at (this + 1) v1 3 m).bind (fun r19 => (Ta_at (this + 1) v1 4 m).bind (fun r34 => (Ta_at (this + 1) v1 5 m).bind (fun r45 => (Ta_at (this + 1) v1 6 m).bind (fun r62 => if r62 = 1 then Fl_oddsUnder_b73 this ((((r6 + ((rI m this 5) * r19)) + ((rI m this 6) * r34)) + ((r45 * v2) / 100)) * 2) m else Fl_oddsUnder_b73 this (((r6 + ((rI m this 5) * r19)) + ((rI m this 6) * r34)) + ((r45 * v2) / 100)) m)))))
noncomputable def Ca_oddsOf (this : Nat) (v1 : Int32) (m : Mem) : Option (Int32) :=
  (Ca_tonsNear this v1 m).bind (fun r7 => (Fl_oddsUnder (this + 1) v1 r7 m).bind (fun r10 => some r10))
noncomputable def PL_odds (this : Nat) (v1 : Int32) (m : Mem) : Option (Int32) :=
  (Ta_has (this + 29) v1 m).bind (fun r11 => if r11 = 0 then some (-2) else (Ca_oddsOf (this + 27) v1 m).bind (fun r22 => some r22))
noncomputable def Fl_beyond_b60 (this : Nat) (v1 : Int32) (v2 : Int32) (v3 : Int32) (v4 : Int32) (m : Mem) : Option ((Int32 × Int32) ⊕ (Int32)) :=
  some (Sum.inl (v3, (v4 + 1)))
noncomputable def Fl_beyond_b36 (this : Nat) (v1 : Int32) (v2 : Int32) (v3 : Int32) (v4 : Int32) (k0 : Int32) (m : Mem) : Option ((Int32 × Int32) ⊕ (Int32)) :=
  (Ta_at (this + 1) v4 1 m).bind (fun r45 => if k0 < r45 then Fl_beyond_b60 this v1 v2 v3 v4 m else Fl_beyond_b60 this v1 v2 (v3 ||| ((1 : Int32) <<< (v4 &&& 31))) v4 m)
noncomputable def Fl_beyond_l5 (this : Nat) (v1 : Int32) (v2 : Int32) (v3 : Int32) (v4 : Int32) (m : Mem) : Option ((Int32 × Int32) ⊕ (Int32)) :=
  if (rI m (this + 1) 1) ≤ v4 then up (some v3) else (Ta_at (this + 1) v4 0 m).bind (fun r24 => if r24 = 1 then Fl_beyond_b36 this v1 v2 v3 v4 v2 m else Fl_beyond_b36 this v1 v2 v3 v4 v1 m)
noncomputable def Fl_beyond (this : Nat) (v1 : Int32) (v2 : Int32) (m : Mem) : Option (Int32) :=
  loop (fun s : Int32 × Int32 => Fl_beyond_l5 this v1 v2 s.1 s.2 m) (0, 0)
noncomputable def Fl_alongs_l4 (this : Nat) (v1 : Int32) (v2 : Int32) (m : Mem) : Option ((Int32 × Int32) ⊕ (Int32)) :=
  if (rI m (this + 1) 1) ≤ v2 then up (some v1) else (Ta_at (this + 1) v2 0 m).bind (fun r22 => some (Sum.inl ((v1 ||| (r22 <<< (v2 &&& 31))), (v2 + 1))))
noncomputable def Fl_alongs (this : Nat) (m : Mem) : Option (Int32) :=
  loop (fun s : Int32 × Int32 => Fl_alongs_l4 this s.1 s.2 m) (0, 0)
noncomputable def PL_piece (this : Nat) (v1 : Int32) (v2 : Int32) (v3 : Int32) (m : Mem) : Option (Int32) :=
  (Fl_hasSet (this + 28) v1 m).bind (fun r12 => if r12 = 0 then some (-2) else (Fl_hasCell (this + 28) v2 v3 m).bind (fun r22 => if r22 = 0 then some (-2) else (Fl_beyond (this + 28) v2 v3 m).bind (fun r35 => (Fl_alongs (this + 28) m).bind (fun r46 => (In_bitCount (r35 &&& v1) m).bind (fun r54 => (In_bitCount ((r35 &&& v1) &&& r46) m).bind (fun r59 => (In_bitCount ((r35 &&& v1) &&& r46) m).bind (fun r67 => some ((r54 - r59) + (8 * r67)))))))))
noncomputable def Fl_partings_b56 (this : Nat) (v1 : Int32) (v2 : Int32) (v3 : Int32) (v4 : Int32) (m : Mem) : Option ((Int32 × Int32) ⊕ (Int32)) :=
  some (Sum.inl (v3, (v4 + 1)))
noncomputable def Fl_partings_l5 (this : Nat) (v1 : Int32) (v2 : Int32) (v3 : Int32) (v4 : Int32) (m : Mem) : Option ((Int32 × Int32) ⊕ (Int32)) :=
  if (rI m (this + 1) 1) ≤ v4 then up ((In_bitCount v3 m).bind (fun r63 => some r63)) else if ((v1 >>> (v4 &&& 31)) &&& 1) = 1 then (Ta_at (this + 1) v4 0 m).bind (fun r34 => if r34 = v2 then (Ta_at (this + 1) v4 1 m).bind (fun r50 => Fl_partings_b56 this v1 v2 (v3 ||| ((1 : Int32) <<< (r50 &&& 31))) v4 m) else Fl_partings_b56 this v1 v2 v3 v4 m) else Fl_partings_b56 this v1 v2 v3 v4 m
noncomputable def Fl_partings (this : Nat) (v1 : Int32) (v2 : Int32) (m : Mem) : Option (Int32) :=
  loop (fun s : Int32 × Int32 => Fl_partings_l5 this v1 v2 s.1 s.2 m) (0, 0)
noncomputable def PL_pieces (this : Nat) (v1 : Int32) (m : Mem) : Option (Int32) :=
  (Fl_hasSet (this + 28) v1 m).bind (fun r10 => if r10 = 0 then some (-2) else (Fl_partings (this + 28) v1 0 m).bind (fun r23 => (Fl_partings (this + 28) v1 1 m).bind (fun r31 => some ((1 + r23) * (1 + r31)))))
noncomputable def Ca_givenBy_b61 (this : Nat) (v1 : Int32) (v2 : Int32) (v3 : Int32) (v4 : Int32) (m : Mem) : Option ((Int32 × Int32) ⊕ (Int32)) :=
  some (Sum.inl (v3, (v4 + 1)))
noncomputable def Ca_givenBy_l5 (this : Nat) (v1 : Int32) (v2 : Int32) (v3 : Int32) (v4 : Int32) (m : Mem) : Option ((Int32 × Int32) ⊕ (Int32)) :=
  if (rI m (this + 11) 1) ≤ v4 then up (some v3) else (Ta_at (this + 11) v4 0 m).bind (fun r30 => if r30 = v2 then (Ca_unitsIn this v1 v4 m).bind (fun r42 => (Ta_at (this + 11) v4 1 m).bind (fun r55 => Ca_givenBy_b61 this v1 v2 (v3 + (r42 * r55)) v4 m)) else Ca_givenBy_b61 this v1 v2 v3 v4 m)
noncomputable def Ca_givenBy (this : Nat) (v1 : Int32) (v2 : Int32) (m : Mem) : Option (Int32) :=
  loop (fun s : Int32 × Int32 => Ca_givenBy_l5 this v1 v2 s.1 s.2 m) (0, 0)
noncomputable def Fl_tells_l2 (this : Nat) (v1 : Int32) (v2 : Int32) (m : Mem) : Option ((Int32) ⊕ (Int32)) :=
  if (rI m (this + 10) 1) ≤ v2 then up (some 0) else (Ta_at (this + 10) v2 0 m).bind (fun r19 => if r19 = v1 then up (some 1) else some (Sum.inl ((v2 + 1))))
noncomputable def Fl_tells (this : Nat) (v1 : Int32) (m : Mem) : Option (Int32) :=
  loop (fun s : Int32 => Fl_tells_l2 this v1 s m) (0)
noncomputable def PL_neededOf (v0 : Int32) (v1 : Int32) (v2 : Int32) (m : Mem) : Option (Int32) :=
  if v0 = 0 then some (v1 * v2) else some v1
noncomputable def Ic_look_b271 (this : Nat) (v1 : Nat) (v3 : Int32) (k1 : Int32) (k2 : Int32) (m : Mem) : Option ((Int32 × Mem) ⊕ (Mem)) :=
  gd (inb k1 4) (lt (wI m (this + 16) (ix k1) k2) (fun m271 => some (Sum.inl ((v3 + 1), m271))))
noncomputable def Ic_look_l240 (this : Nat) (v1 : Nat) (v3 : Int32) (m : Mem) : Option ((Int32 × Mem) ⊕ (Mem)) :=
  if 4 ≤ v3 then up (some m) else (Fl_tells (v1 + 1) v3 m).bind (fun r252 => if r252 = 0 then Ic_look_b271 this v1 v3 v3 0 m else (PL_neededOf v3 1 (rI m (v1 + 1) 3) m).bind (fun r264 => Ic_look_b271 this v1 v3 v3 r264 m))
noncomputable def Ic_look_l193 (this : Nat) (v1 : Nat) (v3 : Int32) (m : Mem) : Option ((Int32 × Mem) ⊕ (Mem)) :=
  if 4 ≤ v3 then up (loop (fun s : Int32 × Mem => Ic_look_l240 this v1 s.1 s.2) (0, m)) else gd (inb v3 4) (gd (inb v3 4) (lt (wI m (this + 4) (ix v3) (rI m (v1 + 38) (ix v3))) (fun m209 => gd (inb v3 4) (gd (inb v3 4) ((Fl_beyond (v1 + 1) (rI m209 (v1 + 36) (ix v3)) (rI m209 (v1 + 37) (ix v3)) m209).bind (fun r228 => gd (inb v3 4) (lt (wI m209 (this + 5) (ix v3) r228) (fun m231 => some (Sum.inl ((v3 + 1), m231))))))))))
noncomputable def Ic_look_l157 (this : Nat) (v1 : Nat) (v3 : Int32) (v4 : Int32) (m : Mem) : Option ((Int32 × Mem) ⊕ ((Int32 × Mem) ⊕ (Mem))) :=
  if 4 ≤ v4 then up (some (Sum.inl ((v3 + 1), m))) else gd (inb v3 8) ((Ca_givenBy v1 v3 v4 m).bind (fun r175 => gd (inb v4 4) (lt (wI m ((this + 7) + (1 + ix v3)) (ix v4) r175) (fun m178 => some (Sum.inl ((v4 + 1), m178))))))
noncomputable def Ic_look_l126 (this : Nat) (v1 : Nat) (v3 : Int32) (m : Mem) : Option ((Int32 × Mem) ⊕ (Mem)) :=
  if 8 ≤ v3 then up (loop (fun s : Int32 × Mem => Ic_look_l193 this v1 s.1 s.2) (0, m)) else gd (inb v3 8) (gd (inb v3 8) ((Fl_beyond (v1 + 1) (rI m (v1 + 25) (ix v3)) (rI m (v1 + 26) (ix v3)) m).bind (fun r150 => gd (inb v3 8) (lt (wI m (this + 6) (ix v3) r150) (fun m153 => loop (fun s : Int32 × Mem => Ic_look_l157 this v1 v3 s.1 s.2) (0, m153))))))
noncomputable def Ic_look_b124 (this : Nat) (v1 : Nat) (m : Mem) : Option (Mem) :=
  loop (fun s : Int32 × Mem => Ic_look_l126 this v1 s.1 s.2) (0, m)
noncomputable def Ic_look_l85 (this : Nat) (v1 : Nat) (v3 : Int32) (m : Mem) : Option ((Int32 × Mem) ⊕ (Mem)) :=
  if (rI m (v1 + 2) 1) ≤ v3 then up (Ic_look_b124 this v1 m) else if 7 ≤ v3 then up (Ic_look_b124 this v1 m) else (Ca_tonsNear v1 v3 m).bind (fun r111 => (Fl_oddsUnder (v1 + 1) v3 r111 m).bind (fun r114 => gd (inb v3 7) (lt (wI m (this + 3) (ix v3) r114) (fun m117 => some (Sum.inl ((v3 + 1), m117))))))
noncomputable def Ic_look_b69 (this : Nat) (v1 : Nat) (v3 : Int32) (k1 : Int32) (k2 : Int64) (m : Mem) : Option ((Int32 × Mem) ⊕ (Mem)) :=
  gd (inb k1 128) (lt (wL m (this + 1) (ix k1) k2) (fun m69 => gd (inb v3 128) (lt (wI m69 (this + 2) (ix v3) 0) (fun m76 => some (Sum.inl ((v3 + 1), m76))))))
noncomputable def Ic_look_l41 (this : Nat) (v1 : Nat) (v3 : Int32) (m : Mem) : Option ((Int32 × Mem) ⊕ (Mem)) :=
  if (rI m this 0) ≤ v3 then up (loop (fun s : Int32 × Mem => Ic_look_l85 this v1 s.1 s.2) (0, m)) else if v3 = (rI m this 2) then Ic_look_b69 this v1 v3 v3 1000000000000 m else Ic_look_b69 this v1 v3 v3 0 m
noncomputable def Ic_look (this : Nat) (v1 : Nat) (m : Mem) : Option (Mem) :=
  lt (wI m this 0 ((1 : Int32) <<< ((jmin (rI m (v1 + 2) 1) 7) &&& 31))) (fun m20 => lt (wI m20 this 2 (rI m20 v1 7)) (fun m28 => lt (wI m28 this 3 (rI m28 (v1 + 1) 7)) (fun m36 => loop (fun s : Int32 × Mem => Ic_look_l41 this v1 s.1 s.2) (0, m36))))
noncomputable def Ic_passHour_b113 (this : Nat) (v1 : Int32) (v2 : Int32) (m : Mem) : Option ((Int32 × Mem) ⊕ ((Int32 × Mem) ⊕ (Mem))) :=
  some (Sum.inl ((v2 + 1), m))
noncomputable def Ic_passHour_l20 (this : Nat) (v1 : Int32) (v2 : Int32) (m : Mem) : Option ((Int32 × Mem) ⊕ ((Int32 × Mem) ⊕ (Mem))) :=
  if (rI m this 0) ≤ v2 then up (some (Sum.inl ((v1 + 1), m))) else if (v2 ||| ((1 : Int32) <<< (v1 &&& 31))) = v2 then Ic_passHour_b113 this v1 v2 m else if (rI m this 0) ≤ (v2 ||| ((1 : Int32) <<< (v1 &&& 31))) then Ic_passHour_b113 this v1 v2 m else gd (inb v2 128) (gd (inb v1 7) (gd (inb (v2 ||| ((1 : Int32) <<< (v1 &&& 31))) 128) (gd (inb v2 128) (gd (inb v2 128) (lt (wL m (this + 1) (ix v2) ((rL m (this + 1) (ix v2)) + ((((rL m (this + 1) (ix (v2 ||| ((1 : Int32) <<< (v1 &&& 31))))) * ((rI m this 3).toInt64)) / 100) - (((rL m (this + 1) (ix v2)) * ((rI m (this + 3) (ix v1)).toInt64)) / 10000)))) (fun m98 => gd (inb (v2 ||| ((1 : Int32) <<< (v1 &&& 31))) 128) (gd (inb (v2 ||| ((1 : Int32) <<< (v1 &&& 31))) 128) (lt (wL m98 (this + 1) (ix (v2 ||| ((1 : Int32) <<< (v1 &&& 31)))) ((rL m98 (this + 1) (ix (v2 ||| ((1 : Int32) <<< (v1 &&& 31))))) + ((((rL m (this + 1) (ix v2)) * ((rI m (this + 3) (ix v1)).toInt64)) / 10000) - (((rL m (this + 1) (ix (v2 ||| ((1 : Int32) <<< (v1 &&& 31))))) * ((rI m this 3).toInt64)) / 100)))) (fun m112 => Ic_passHour_b113 this v1 v2 m112)))))))))
noncomputable def Ic_passHour_l2 (this : Nat) (v1 : Int32) (m : Mem) : Option ((Int32 × Mem) ⊕ (Mem)) :=
  if 7 ≤ v1 then up (some m) else if (rI m this 0) ≤ ((1 : Int32) <<< (v1 &&& 31)) then up (some m) else loop (fun s : Int32 × Mem => Ic_passHour_l20 this v1 s.1 s.2) (0, m)
noncomputable def Ic_passHour (this : Nat) (m : Mem) : Option (Mem) :=
  loop (fun s : Int32 × Mem => Ic_passHour_l2 this s.1 s.2) (0, m)
noncomputable def Ic_partsOf (this : Nat) (v1 : Int32) (m : Mem) : Option (Int64) :=
  if v1 < 0 then some 0 else if (rI m this 0) ≤ v1 then some 0 else gd (inb v1 128) (some (rL m (this + 1) (ix v1)))
noncomputable def PL_part (this : Nat) (v1 : Int32) (m : Mem) : Option (Int64 × Mem) :=
  (Fl_hasSet (this + 28) v1 m).bind (fun r8 => if r8 = 0 then some ((-2), m) else (Ic_look (this + 202) (this + 27) m).bind (fun m26 => (Ic_passHour (this + 202) m26).bind (fun m33 => (Ic_partsOf (this + 202) v1 m33).bind (fun r41 => some (r41, m33)))))
noncomputable def Ic_isOnePiece (v0 : Int32) (v1 : Int32) (v2 : Int32) (m : Mem) : Option (Int32) :=
  if ((v1 ^^^ v2) &&& v0) = 0 then some 1 else some 0
noncomputable def Ic_shortOf_b115 (this : Nat) (v1 : Int32) (v2 : Int32) (v3 : Int32) (v4 : Int32) (v5 : Int32) (v6 : Int32) (m : Mem) : Option ((Int32 × Int32) ⊕ (Int32)) :=
  some (Sum.inl (v5, (v6 + 1)))
noncomputable def Ic_shortOf_l74 (this : Nat) (v1 : Int32) (v2 : Int32) (v3 : Int32) (v4 : Int32) (v5 : Int32) (v6 : Int32) (m : Mem) : Option ((Int32 × Int32) ⊕ (Int32)) :=
  if 8 ≤ v6 then up (gd (inb v3 4) (some ((v4 * (rI m (this + 16) (ix v3))) - v5))) else gd (inb v6 8) (gd (inb v2 4) ((Ic_isOnePiece v1 (rI m (this + 6) (ix v6)) (rI m (this + 5) (ix v2)) m).bind (fun r95 => if r95 = 0 then Ic_shortOf_b115 this v1 v2 v3 v4 v5 v6 m else gd (inb v6 8) (gd (inb v3 4) (Ic_shortOf_b115 this v1 v2 v3 v4 (v5 + (rI m ((this + 7) + (1 + ix v6)) (ix v3))) v6 m)))))
noncomputable def Ic_shortOf_b62 (this : Nat) (v1 : Int32) (v2 : Int32) (v3 : Int32) (v4 : Int32) (v5 : Int32) (m : Mem) : Option ((Int32 × Int32) ⊕ (Int32)) :=
  some (Sum.inl (v4, (v5 + 1)))
noncomputable def Ic_shortOf_l24 (this : Nat) (v1 : Int32) (v2 : Int32) (v3 : Int32) (v4 : Int32) (v5 : Int32) (m : Mem) : Option ((Int32 × Int32) ⊕ (Int32)) :=
  if 4 ≤ v5 then up (loop (fun s : Int32 × Int32 => Ic_shortOf_l74 this v1 v2 v3 v4 s.1 s.2 m) (0, 0)) else gd (inb v5 4) (gd (inb v2 4) ((Ic_isOnePiece v1 (rI m (this + 5) (ix v5)) (rI m (this + 5) (ix v2)) m).bind (fun r44 => if r44 = 0 then Ic_shortOf_b62 this v1 v2 v3 v4 v5 m else gd (inb v5 4) (Ic_shortOf_b62 this v1 v2 v3 (v4 + (rI m (this + 4) (ix v5))) v5 m))))
noncomputable def Ic_shortOf (this : Nat) (v1 : Int32) (v2 : Int32) (v3 : Int32) (m : Mem) : Option (Int32) :=
  (PL_isGroup v2 m).bind (fun r1 => if r1 = 0 then some 0 else if v3 < 0 then some 0 else if v3 < 4 then loop (fun s : Int32 × Int32 => Ic_shortOf_l24 this v1 v2 v3 s.1 s.2 m) (0, 0) else some 0)
noncomputable def Ic_isEnough_b82 (this : Nat) (v1 : Int32) (m : Mem) : Option (Int32 × Mem) :=
  gd (inb v1 128) (if (rI m (this + 2) (ix v1)) = 1 then some (1, m) else some (0, m))
noncomputable def Ic_isEnough_b76 (this : Nat) (v1 : Int32) (v2 : Int32) (m : Mem) : Option ((Int32 × Mem) ⊕ (Int32 × Mem)) :=
  some (Sum.inl ((v2 + 1), m))
noncomputable def Ic_isEnough_b70 (this : Nat) (v1 : Int32) (v2 : Int32) (v3 : Int32) (m : Mem) : Option ((Int32 × Mem) ⊕ ((Int32 × Mem) ⊕ (Int32 × Mem))) :=
  some (Sum.inl ((v3 + 1), m))
noncomputable def Ic_isEnough_l39 (this : Nat) (v1 : Int32) (v2 : Int32) (v3 : Int32) (m : Mem) : Option ((Int32 × Mem) ⊕ ((Int32 × Mem) ⊕ (Int32 × Mem))) :=
  if 4 ≤ v3 then up (Ic_isEnough_b76 this v1 v2 m) else gd (inb v2 4) (if (rI m (this + 4) (ix v2)) ≤ 0 then up (Ic_isEnough_b76 this v1 v2 m) else (Ic_shortOf this v1 v2 v3 m).bind (fun r57 => if r57 ≤ 0 then Ic_isEnough_b70 this v1 v2 v3 m else gd (inb v1 128) (lt (wI m (this + 2) (ix v1) 2) (fun m69 => Ic_isEnough_b70 this v1 v2 v3 m69))))
noncomputable def Ic_isEnough_l32 (this : Nat) (v1 : Int32) (v2 : Int32) (m : Mem) : Option ((Int32 × Mem) ⊕ (Int32 × Mem)) :=
  if 4 ≤ v2 then up (Ic_isEnough_b82 this v1 m) else loop (fun s : Int32 × Mem => Ic_isEnough_l39 this v1 v2 s.1 s.2) (0, m)
noncomputable def Ic_isEnough (this : Nat) (v1 : Int32) (m : Mem) : Option (Int32 × Mem) :=
  if v1 < 0 then some (0, m) else if v1 < (rI m this 0) then gd (inb v1 128) (if (rI m (this + 2) (ix v1)) = 0 then gd (inb v1 128) (lt (wI m (this + 2) (ix v1) 1) (fun m29 => loop (fun s : Int32 × Mem => Ic_isEnough_l32 this v1 s.1 s.2) (0, m29))) else Ic_isEnough_b82 this v1 m) else some (0, m)
noncomputable def PL_with_b110 (this : Nat) (v1 : Int32) (v2 : Int32) (v3 : Int64) (v5 : Int32) (m : Mem) : Option ((Int64 × Int32 × Mem) ⊕ (Int64 × Mem)) :=
  some (Sum.inl (v3, (v5 + 1), m))
noncomputable def PL_with_b98 (this : Nat) (v1 : Int32) (v2 : Int32) (v3 : Int64) (v5 : Int32) (m : Mem) : Option ((Int64 × Int32 × Mem) ⊕ (Int64 × Mem)) :=
  (Ic_partsOf (this + 202) v5 m).bind (fun r105 => PL_with_b110 this v1 v2 (v3 + r105) v5 m)
noncomputable def PL_with_l61 (this : Nat) (v1 : Int32) (v2 : Int32) (v3 : Int64) (v5 : Int32) (m : Mem) : Option ((Int64 × Int32 × Mem) ⊕ (Int64 × Mem)) :=
  if (rI m (this + 202) 0) ≤ v5 then up (some (v3, m)) else (In_bitCount v5 m).bind (fun r75 => if r75 = v1 then if v2 = 0 then PL_with_b98 this v1 v2 v3 v5 m else (Ic_isEnough (this + 202) v5 m).bind (fun r92 => if r92.1 = 0 then PL_with_b98 this v1 v2 v3 v5 r92.2 else PL_with_b110 this v1 v2 v3 v5 r92.2) else PL_with_b110 this v1 v2 v3 v5 m)
noncomputable def PL_with (this : Nat) (v1 : Int32) (v2 : Int32) (m : Mem) : Option (Int64 × Mem) :=
  (Fl_isThere (this + 28) m).bind (fun r7 => if r7 = 0 then some ((-2), m) else if v1 < 0 then some ((-2), m) else if v1 ≤ (rI m (this + 29) 1) then (Ic_look (this + 202) (this + 27) m).bind (fun m46 => (Ic_passHour (this + 202) m46).bind (fun m53 => loop (fun s : Int64 × Int32 × Mem => PL_with_l61 this v1 v2 s.1 s.2.1 s.2.2) (0, 0, m53))) else some ((-2), m))
noncomputable def PL_enough (this : Nat) (v1 : Int32) (m : Mem) : Option (Int32 × Mem) :=
  (Fl_hasSet (this + 28) v1 m).bind (fun r8 => if r8 = 0 then some ((-2), m) else (Ic_look (this + 202) (this + 27) m).bind (fun m25 => (Ic_isEnough (this + 202) v1 m25).bind (fun r33 => if r33.1 = 0 then some (0, r33.2) else some (1, r33.2))))
noncomputable def Ic_lacking_b98 (this : Nat) (v1 : Int32) (v2 : Int32) (v3 : Int32) (v4 : Int32) (m : Mem) : Option ((Int32 × Int32) ⊕ (Int32)) :=
  some (Sum.inl (v3, (v4 + 1)))
noncomputable def Ic_lacking_b72 (this : Nat) (v1 : Int32) (v2 : Int32) (v3 : Int32) (v4 : Int32) (v5 : Int32) (v6 : Int32) (m : Mem) : Option ((Int32 × Int32) ⊕ ((Int32 × Int32) ⊕ (Int32))) :=
  some (Sum.inl (v5, (v6 + 1)))
noncomputable def Ic_lacking_l31 (this : Nat) (v1 : Int32) (v2 : Int32) (v3 : Int32) (v4 : Int32) (v5 : Int32) (v6 : Int32) (m : Mem) : Option ((Int32 × Int32) ⊕ ((Int32 × Int32) ⊕ (Int32))) :=
  if v4 ≤ v6 then up (if v5 = 0 then Ic_lacking_b98 this v1 v2 v3 v4 m else (Ic_shortOf this v1 v4 v2 m).bind (fun r90 => Ic_lacking_b98 this v1 v2 (v3 + (jmax 0 r90)) v4 m)) else gd (inb v6 4) (if (rI m (this + 4) (ix v6)) ≤ 0 then Ic_lacking_b72 this v1 v2 v3 v4 v5 v6 m else gd (inb v6 4) (gd (inb v4 4) ((Ic_isOnePiece v1 (rI m (this + 5) (ix v6)) (rI m (this + 5) (ix v4)) m).bind (fun r63 => if r63 = 0 then Ic_lacking_b72 this v1 v2 v3 v4 v5 v6 m else Ic_lacking_b72 this v1 v2 v3 v4 0 v6 m))))
noncomputable def Ic_lacking_b26 (this : Nat) (v1 : Int32) (v2 : Int32) (v3 : Int32) (v4 : Int32) (k0 : Int32) (m : Mem) : Option ((Int32 × Int32) ⊕ (Int32)) :=
  loop (fun s : Int32 × Int32 => Ic_lacking_l31 this v1 v2 v3 v4 s.1 s.2 m) (k0, 0)
noncomputable def Ic_lacking_l5 (this : Nat) (v1 : Int32) (v2 : Int32) (v3 : Int32) (v4 : Int32) (m : Mem) : Option ((Int32 × Int32) ⊕ (Int32)) :=
  if 4 ≤ v4 then up (some v3) else gd (inb v4 4) (if (rI m (this + 4) (ix v4)) ≤ 0 then Ic_lacking_b26 this v1 v2 v3 v4 0 m else Ic_lacking_b26 this v1 v2 v3 v4 1 m)
noncomputable def Ic_lacking (this : Nat) (v1 : Int32) (v2 : Int32) (m : Mem) : Option (Int32) :=
  loop (fun s : Int32 × Int32 => Ic_lacking_l5 this v1 v2 s.1 s.2 m) (0, 0)
noncomputable def PL_lacks (this : Nat) (v1 : Int32) (v2 : Int32) (m : Mem) : Option (Int32 × Mem) :=
  (Fl_hasSet (this + 28) v1 m).bind (fun r8 => if r8 = 0 then some ((-2), m) else if v2 < 0 then some ((-2), m) else if v2 < 4 then (Ic_look (this + 202) (this + 27) m).bind (fun m34 => (Ic_lacking (this + 202) v1 v2 m34).bind (fun r43 => some (r43, m34))) else some ((-2), m))
noncomputable def Ic_takeOutLost_b47 (this : Nat) (v1 : Int64) (v3 : Int32) (m : Mem) : Option ((Int64 × Int32 × Mem) ⊕ (Int64 × Mem)) :=
  some (Sum.inl (v1, (v3 + 1), m))
noncomputable def Ic_takeOutLost_l4 (this : Nat) (v1 : Int64) (v3 : Int32) (m : Mem) : Option ((Int64 × Int32 × Mem) ⊕ (Int64 × Mem)) :=
  if (rI m this 0) ≤ v3 then up (some (v1, m)) else gd (inb v3 128) (if (rL m (this + 1) (ix v3)) = 0 then Ic_takeOutLost_b47 this v1 v3 m else (Ic_isEnough this v3 m).bind (fun r25 => if r25.1 = 0 then gd (inb v3 128) (gd (inb v3 128) (lt (wL r25.2 (this + 1) (ix v3) 0) (fun m46 => Ic_takeOutLost_b47 this (v1 + (rL r25.2 (this + 1) (ix v3))) v3 m46))) else Ic_takeOutLost_b47 this v1 v3 r25.2))
noncomputable def Ic_takeOutLost (this : Nat) (m : Mem) : Option (Int64 × Mem) :=
  loop (fun s : Int64 × Int32 × Mem => Ic_takeOutLost_l4 this s.1 s.2.1 s.2.2) (0, 0, m)
noncomputable def Ic_lostIn_l10 (this : Nat) (v1 : Nat) (v2 : Int32) (v3 : Int64) (v5 : Int32) (m : Mem) : Option ((Int64 × Int32 × Mem) ⊕ (Int64 × Mem)) :=
  if v2 ≤ v5 then up (some (v3, m)) else (Ic_passHour this m).bind (fun m17 => (Ic_takeOutLost this m17).bind (fun r22 => some (Sum.inl ((v3 + r22.1), (v5 + 1), r22.2))))
noncomputable def Ic_lostIn (this : Nat) (v1 : Nat) (v2 : Int32) (m : Mem) : Option (Int64 × Mem) :=
  (Ic_look this v1 m).bind (fun m2 => loop (fun s : Int64 × Int32 × Mem => Ic_lostIn_l10 this v1 v2 s.1 s.2.1 s.2.2) (0, 0, m2))
noncomputable def PL_lost (this : Nat) (v1 : Int32) (m : Mem) : Option (Int64 × Mem) :=
  (Fl_isThere (this + 28) m).bind (fun r7 => if r7 = 0 then some ((-2), m) else if v1 < 1 then some ((-2), m) else if v1 ≤ 48 then (Ic_lostIn (this + 202) (this + 27) v1 m).bind (fun r37 => some (r37.1, r37.2)) else some ((-2), m))
noncomputable def PL_isThousandths (v0 : Int32) (m : Mem) : Option (Int32) :=
  if v0 < 0 then some 0 else if 1000 < v0 then some 0 else some 1
noncomputable def PL_safe_l39 (this : Nat) (v1 : Int32) (v2 : Int64) (v4 : Int32) (m : Mem) : Option ((Int64 × Int32 × Mem) ⊕ (Int32 × Mem)) :=
  if 48 < v4 then up (some (48, m)) else (Ic_passHour (this + 202) m).bind (fun m50 => (Ic_takeOutLost (this + 202) m50).bind (fun r58 => if (v2 + r58.1) ≤ ((v1.toInt64) * 1000000000) then some (Sum.inl ((v2 + r58.1), (v4 + 1), r58.2)) else up (some ((v4 - 1), r58.2))))
noncomputable def PL_safe (this : Nat) (v1 : Int32) (m : Mem) : Option (Int32 × Mem) :=
  (Fl_isThere (this + 28) m).bind (fun r7 => if r7 = 0 then some ((-2), m) else (PL_isThousandths v1 m).bind (fun r14 => if r14 = 0 then some ((-2), m) else (Ic_look (this + 202) (this + 27) m).bind (fun m31 => loop (fun s : Int64 × Int32 × Mem => PL_safe_l39 this v1 s.1 s.2.1 s.2.2) (0, 1, m31))))
noncomputable def PL_slotAt (this : Nat) (v1 : Int32) (m : Mem) : Option (Nat) :=
  if v1 < 0 then some 0 else if 4 ≤ v1 then some 0 else gd (inb v1 4) (some ((this + 193) + (1 + 2 * ix v1)))
noncomputable def Ro_hasNumbers (this : Nat) (v1 : Int32) (v2 : Int32) (m : Mem) : Option (Int32) :=
  if v1 < 0 then some 0 else if v2 < 0 then some 0 else if (rI m this 3) < v1 then some 0 else if ((rI m this 3) - v1) < v2 then some 0 else some 1
noncomputable def Ro_numberAt (this : Nat) (v1 : Int32) (m : Mem) : Option (Int64) :=
  (Ro_hasNumbers this v1 1 m).bind (fun r3 => if r3 = 0 then some 0 else gd (inb v1 60) (some (rL m (this + 1) (ix v1))))
noncomputable def PL_judge_l49 (this : Nat) (v2 : Nat) (v3 : Int32) (m : Mem) : Option ((Int32 × Mem) ⊕ (Int32 × Mem)) :=
  if (rI m v2 3) ≤ v3 then up (some ((rI m v2 3), m)) else (Ro_numberAt v2 v3 m).bind (fun r59 => if r59 < 0 then up (some (v3, m)) else if ((rI m (this + 202) 0).toInt64) ≤ r59 then up (some (v3, m)) else (Ic_isEnough (this + 202) (r59.toInt32) m).bind (fun r92 => if r92.1 = 0 then up (some (v3, r92.2)) else some (Sum.inl ((v3 + 1), r92.2))))
noncomputable def PL_judge (this : Nat) (v1 : Int32) (m : Mem) : Option (Int32 × Mem) :=
  (PL_slotAt this v1 m).bind (fun r2 => if r2 = 0 then some ((-2), m) else gd (kd r2 = 7) ((Fl_isThere (this + 28) m).bind (fun r17 => if r17 = 0 then some ((-2), m) else if (rI m r2 1) = 0 then some ((-6), m) else (Ic_look (this + 202) (this + 27) m).bind (fun m44 => loop (fun s : Int32 × Mem => PL_judge_l49 this r2 s.1 s.2) (0, m44)))))
noncomputable def Ca_heapsThere_b21 (this : Nat) (v1 : Int32) (v2 : Int32) (m : Mem) : Option ((Int32 × Int32) ⊕ (Int32)) :=
  some (Sum.inl (v1, (v2 + 1)))
noncomputable def Ca_heapsThere_l4 (this : Nat) (v1 : Int32) (v2 : Int32) (m : Mem) : Option ((Int32 × Int32) ⊕ (Int32)) :=
  if 8 ≤ v2 then up (some v1) else (Ca_hasHeap this v2 m).bind (fun r12 => if r12 = 0 then Ca_heapsThere_b21 this v1 v2 m else Ca_heapsThere_b21 this (v1 + 1) v2 m)
noncomputable def Ca_heapsThere (this : Nat) (m : Mem) : Option (Int32) :=
  loop (fun s : Int32 × Int32 => Ca_heapsThere_l4 this s.1 s.2 m) (0, 0)
noncomputable def PL_cannotLay (this : Nat) (v1 : Int32) (m : Mem) : Option (Int32) :=
  (Fl_isThere (this + 28) m).bind (fun r7 => if r7 = 0 then some (-2) else if v1 < 0 then some (-2) else if v1 < 4 then (Ca_heapsThere (this + 27) m).bind (fun r29 => if r29 = 0 then some (-5) else some 0) else some (-2))
noncomputable def Ca_ringOfHeaps_b33 (this : Nat) (v1 : Int32) (v2 : Int32) (v3 : Int32) (m : Mem) : Option ((Int32 × Int32 × Mem) ⊕ (Int32 × Mem)) :=
  some (Sum.inl (v2, (v3 + 1), m))
noncomputable def Ca_ringOfHeaps_l4 (this : Nat) (v1 : Int32) (v2 : Int32) (v3 : Int32) (m : Mem) : Option ((Int32 × Int32 × Mem) ⊕ (Int32 × Mem)) :=
  if 8 ≤ v3 then up (some (v2, m)) else if v1 ≤ v2 then up (some (v2, m)) else (Ca_hasHeap this v3 m).bind (fun r17 => if r17 = 0 then Ca_ringOfHeaps_b33 this v1 v2 v3 m else gd (inb v2 8) (lt (wI m (this + 40) (ix v2) v3) (fun m29 => Ca_ringOfHeaps_b33 this v1 (v2 + 1) v3 m29)))
noncomputable def Ca_ringOfHeaps (this : Nat) (v1 : Int32) (m : Mem) : Option (Int32 × Mem) :=
  loop (fun s : Int32 × Int32 × Mem => Ca_ringOfHeaps_l4 this v1 s.1 s.2.1 s.2.2) (0, 0, m)
noncomputable def Ca_takeUpAll_l10 (this : Nat) (v1 : Int32) (v2 : Int32) (m : Mem) : Option ((Int32 × Mem) ⊕ ((Int32 × Mem) ⊕ (Mem))) :=
  if 6 ≤ v2 then up (some (Sum.inl ((v1 + 1), m))) else gd (inb v1 8) (gd (inb v2 6) (lt (wI m ((this + 27) + (1 + ix v1)) (ix v2) 0) (fun m24 => some (Sum.inl ((v2 + 1), m24)))))
noncomputable def Ca_takeUpAll_l2 (this : Nat) (v1 : Int32) (m : Mem) : Option ((Int32 × Mem) ⊕ (Mem)) :=
  if 8 ≤ v1 then up (some m) else loop (fun s : Int32 × Mem => Ca_takeUpAll_l10 this v1 s.1 s.2) (0, m)
noncomputable def Ca_takeUpAll (this : Nat) (m : Mem) : Option (Mem) :=
  loop (fun s : Int32 × Mem => Ca_takeUpAll_l2 this s.1 s.2) (0, m)
noncomputable def Ca_laySort_b92 (this : Nat) (v1 : Int32) (v2 : Int32) (v4 : Int32) (v5 : Int32) (m : Mem) : Option ((Int32 × Int32 × Mem) ⊕ (Int32 × Mem)) :=
  some (Sum.inl ((v4 + 1), (v5 + 1), m))
noncomputable def Ca_laySort_b51 (this : Nat) (v1 : Int32) (v2 : Int32) (v4 : Int32) (v5 : Int32) (m : Mem) : Option ((Int32 × Int32 × Mem) ⊕ (Int32 × Mem)) :=
  gd (inb v4 8) ((PL_isHeap (rI m (this + 40) (ix v4)) m).bind (fun r58 => if r58 = 0 then Ca_laySort_b92 this v1 v2 v4 v5 m else if v1 < 0 then Ca_laySort_b92 this v1 v2 v4 v5 m else if 6 ≤ v1 then Ca_laySort_b92 this v1 v2 v4 v5 m else gd (inb v4 8) (gd (inb (rI m (this + 40) (ix v4)) 8) (gd (inb v1 6) (gd (inb v1 6) (lt (wI m ((this + 27) + (1 + ix (rI m (this + 40) (ix v4)))) (ix v1) ((rI m ((this + 27) + (1 + ix (rI m (this + 40) (ix v4)))) (ix v1)) + 1)) (fun m91 => Ca_laySort_b92 this v1 v2 v4 v5 m91)))))))
noncomputable def Ca_laySort_b48 (this : Nat) (v1 : Int32) (v2 : Int32) (v5 : Int32) (m : Mem) : Option ((Int32 × Int32 × Mem) ⊕ (Int32 × Mem)) :=
  Ca_laySort_b51 this v1 v2 0 v5 m
noncomputable def Ca_laySort_l6 (this : Nat) (v1 : Int32) (v2 : Int32) (v4 : Int32) (v5 : Int32) (m : Mem) : Option ((Int32 × Int32 × Mem) ⊕ (Int32 × Mem)) :=
  (Ta_at (this + 11) v1 3 m).bind (fun r17 => if r17 ≤ v5 then up (some (v4, m)) else if v2 ≤ 0 then up (some (v4, m)) else if v4 < 0 then Ca_laySort_b48 this v1 v2 v5 m else if v2 ≤ v4 then Ca_laySort_b48 this v1 v2 v5 m else if v4 < (Int32.ofNat 8) then Ca_laySort_b51 this v1 v2 v4 v5 m else Ca_laySort_b48 this v1 v2 v5 m)
noncomputable def Ca_laySort (this : Nat) (v1 : Int32) (v2 : Int32) (v3 : Int32) (m : Mem) : Option (Int32 × Mem) :=
  loop (fun s : Int32 × Int32 × Mem => Ca_laySort_l6 this v1 v2 s.1 s.2.1 s.2.2) (v3, 0, m)
noncomputable def Ca_layKind_b55 (this : Nat) (v1 : Int32) (v2 : Int32) (v3 : Int32) (v4 : Int32) (m : Mem) : Option ((Int32 × Int32 × Mem) ⊕ (Mem)) :=
  some (Sum.inl (v3, (v4 + 1), m))
noncomputable def Ca_layKind_b42 (this : Nat) (v1 : Int32) (v2 : Int32) (v3 : Int32) (v4 : Int32) (k0 : Int32) (m : Mem) : Option ((Int32 × Int32 × Mem) ⊕ (Mem)) :=
  if k0 = v1 then (Ca_laySort this v4 v2 v3 m).bind (fun r51 => Ca_layKind_b55 this v1 v2 r51.1 v4 r51.2) else Ca_layKind_b55 this v1 v2 v3 v4 m
noncomputable def Ca_layKind_l5 (this : Nat) (v1 : Int32) (v2 : Int32) (v3 : Int32) (v4 : Int32) (m : Mem) : Option ((Int32 × Int32 × Mem) ⊕ (Mem)) :=
  if (rI m (this + 11) 1) ≤ v4 then up (some m) else (Ta_at (this + 11) v4 0 m).bind (fun r30 => if r30 = 2 then Ca_layKind_b42 this v1 v2 v3 v4 1 m else Ca_layKind_b42 this v1 v2 v3 v4 0 m)
noncomputable def Ca_layKind (this : Nat) (v1 : Int32) (v2 : Int32) (m : Mem) : Option (Mem) :=
  loop (fun s : Int32 × Int32 × Mem => Ca_layKind_l5 this v1 v2 s.1 s.2.1 s.2.2) (0, 0, m)
noncomputable def Ca_ringOfSeats_b29 (this : Nat) (v1 : Int32) (v2 : Int32) (m : Mem) : Option ((Int32 × Int32 × Mem) ⊕ (Int32 × Mem)) :=
  some (Sum.inl (v1, (v2 + 1), m))
noncomputable def Ca_ringOfSeats_l4 (this : Nat) (v1 : Int32) (v2 : Int32) (m : Mem) : Option ((Int32 × Int32 × Mem) ⊕ (Int32 × Mem)) :=
  if 8 ≤ v2 then up (some (v1, m)) else (Ca_givenBy this v2 2 m).bind (fun r13 => if r13 ≤ 0 then Ca_ringOfSeats_b29 this v1 v2 m else gd (inb v1 8) (lt (wI m (this + 40) (ix v1) v2) (fun m25 => Ca_ringOfSeats_b29 this (v1 + 1) v2 m25)))
noncomputable def Ca_ringOfSeats (this : Nat) (m : Mem) : Option (Int32 × Mem) :=
  loop (fun s : Int32 × Int32 × Mem => Ca_ringOfSeats_l4 this s.1 s.2.1 s.2.2) (0, 0, m)
noncomputable def Ca_layAll_b92 (this : Nat) (v1 : Int32) (v3 : Int32) (v5 : Int32) (k1 : Int32) (k2 : Int32) (k3 : Int32) (m : Mem) : Option ((Int32 × Int32 × Mem) ⊕ (Mem)) :=
  (Ca_laySort this k1 k2 k3 m).bind (fun r92 => some (Sum.inl (r92.1, (v5 + 1), r92.2)))
noncomputable def Ca_layAll_l62 (this : Nat) (v1 : Int32) (v3 : Int32) (v4 : Int32) (v5 : Int32) (m : Mem) : Option ((Int32 × Int32 × Mem) ⊕ (Mem)) :=
  if (rI m (this + 11) 1) ≤ v5 then up (some m) else if v1 = 2 then Ca_layAll_b92 this v1 v3 v5 v5 v3 0 m else Ca_layAll_b92 this v1 v3 v5 v5 v3 v4 m
noncomputable def Ca_layAll_b52 (this : Nat) (k1 : Int32) (k2 : Int32) (m : Mem) : Option (Mem) :=
  (Ca_layKind this k1 k2 m).bind (fun m52 => some m52)
noncomputable def Ca_layAll_b10 (this : Nat) (v1 : Int32) (v2 : Int32) (k1 : Int32) (m : Mem) : Option (Mem) :=
  (Ca_ringOfHeaps this k1 m).bind (fun r10 => (Ca_takeUpAll this r10.2).bind (fun m15 => if v1 = 3 then (Ca_layKind this 1 r10.1 m15).bind (fun m26 => (Ca_ringOfSeats this m26).bind (fun r30 => if r30.1 = 0 then (Ca_ringOfHeaps this v2 r30.2).bind (fun r44 => Ca_layAll_b52 this 0 r44.1 r44.2) else Ca_layAll_b52 this 0 r30.1 r30.2)) else loop (fun s : Int32 × Int32 × Mem => Ca_layAll_l62 this v1 r10.1 s.1 s.2.1 s.2.2) (0, 0, m15)))
noncomputable def Ca_layAll (this : Nat) (v1 : Int32) (v2 : Int32) (m : Mem) : Option (Mem) :=
  if v1 = 0 then Ca_layAll_b10 this v1 v2 1 m else Ca_layAll_b10 this v1 v2 v2 m
noncomputable def Ca_heapsWithSomething_b21 (this : Nat) (v1 : Int32) (v2 : Int32) (m : Mem) : Option ((Int32 × Int32) ⊕ (Int32)) :=
  some (Sum.inl (v1, (v2 + 1)))
noncomputable def Ca_heapsWithSomething_l4 (this : Nat) (v1 : Int32) (v2 : Int32) (m : Mem) : Option ((Int32 × Int32) ⊕ (Int32)) :=
  if 8 ≤ v2 then up (some v1) else (Ca_tonsOf this v2 m).bind (fun r12 => if r12 ≤ 0 then Ca_heapsWithSomething_b21 this v1 v2 m else Ca_heapsWithSomething_b21 this (v1 + 1) v2 m)
noncomputable def Ca_heapsWithSomething (this : Nat) (m : Mem) : Option (Int32) :=
  loop (fun s : Int32 × Int32 => Ca_heapsWithSomething_l4 this s.1 s.2 m) (0, 0)
noncomputable def PL_lay (this : Nat) (v1 : Int32) (m : Mem) : Option (Int32 × Mem) :=
  (PL_cannotLay this v1 m).bind (fun r2 => if r2 = 0 then (Ca_layAll (this + 27) v1 8 m).bind (fun m19 => (Ca_heapsWithSomething (this + 27) m19).bind (fun r26 => some (r26, m19))) else some (r2, m))
noncomputable def Ca_copyFrom_l124 (this : Nat) (v1 : Nat) (v2 : Int32) (m : Mem) : Option ((Int32 × Mem) ⊕ (Mem)) :=
  if 7 ≤ v2 then up (lt (wI m this 9 (rI m v1 9)) (fun m153 => some m153)) else gd (inb v2 7) (gd (inb v2 7) (lt (wI m (this + 39) (ix v2) (rI m (v1 + 39) (ix v2))) (fun m141 => some (Sum.inl ((v2 + 1), m141)))))
noncomputable def Ca_copyFrom_l74 (this : Nat) (v1 : Nat) (v2 : Int32) (m : Mem) : Option ((Int32 × Mem) ⊕ (Mem)) :=
  if 4 ≤ v2 then up (lt (wI m this 7 (rI m v1 7)) (fun m119 => loop (fun s : Int32 × Mem => Ca_copyFrom_l124 this v1 s.1 s.2) (0, m119))) else gd (inb v2 4) (gd (inb v2 4) ((Ca_placeGroup this v2 (rI m (v1 + 36) (ix v2)) (rI m (v1 + 37) (ix v2)) m).bind (fun m93 => gd (inb v2 4) (gd (inb v2 4) (lt (wI m93 (this + 38) (ix v2) (rI m93 (v1 + 38) (ix v2))) (fun m107 => some (Sum.inl ((v2 + 1), m107))))))))
noncomputable def Ca_copyFrom_l38 (this : Nat) (v1 : Nat) (v2 : Int32) (v3 : Int32) (m : Mem) : Option ((Int32 × Mem) ⊕ ((Int32 × Mem) ⊕ (Mem))) :=
  if 6 ≤ v3 then up (some (Sum.inl ((v2 + 1), m))) else gd (inb v2 8) (gd (inb v2 8) (gd (inb v3 6) (gd (inb v3 6) (lt (wI m ((this + 27) + (1 + ix v2)) (ix v3) (rI m ((v1 + 27) + (1 + ix v2)) (ix v3))) (fun m59 => some (Sum.inl ((v3 + 1), m59)))))))
noncomputable def Ca_copyFrom_l13 (this : Nat) (v1 : Nat) (v2 : Int32) (m : Mem) : Option ((Int32 × Mem) ⊕ (Mem)) :=
  if 8 ≤ v2 then up (loop (fun s : Int32 × Mem => Ca_copyFrom_l74 this v1 s.1 s.2) (0, m)) else gd (inb v2 8) (gd (inb v2 8) ((Ca_placeHeap this v2 (rI m (v1 + 25) (ix v2)) (rI m (v1 + 26) (ix v2)) m).bind (fun m33 => loop (fun s : Int32 × Mem => Ca_copyFrom_l38 this v1 v2 s.1 s.2) (0, m33))))
noncomputable def Ca_copyFrom (this : Nat) (v1 : Nat) (m : Mem) : Option (Mem) :=
  (Fl_copyFrom (this + 1) (v1 + 1) m).bind (fun m8 => loop (fun s : Int32 × Mem => Ca_copyFrom_l13 this v1 s.1 s.2) (0, m8))
noncomputable def Tr_lostIfLaid (this : Nat) (v1 : Nat) (v2 : Int32) (v3 : Int32) (m : Mem) : Option (Int64 × Mem) :=
  (Ca_copyFrom (this + 1) v1 m).bind (fun m5 => (Ca_layAll (this + 1) v2 v3 m5).bind (fun m14 => (Ic_lostIn (this + 42) (this + 1) 1 m14).bind (fun r26 => some (r26.1, r26.2))))
noncomputable def PL_trial (this : Nat) (v1 : Int32) (m : Mem) : Option (Int64 × Mem) :=
  (PL_cannotLay this v1 m).bind (fun r2 => if r2 = 0 then (Tr_lostIfLaid (this + 219) (this + 27) v1 8 m).bind (fun r26 => some (r26.1, r26.2)) else some ((r2.toInt64), m))
noncomputable def Tr_bestLaying_b44 (this : Nat) (v1 : Nat) (v2 : Int32) (v3 : Int64) (v5 : Int32) (m : Mem) : Option ((Int32 × Int64 × Int32 × Mem) ⊕ (Int32 × Mem)) :=
  some (Sum.inl (v2, v3, (v5 + 1), m))
noncomputable def Tr_bestLaying_l14 (this : Nat) (v1 : Nat) (v2 : Int32) (v3 : Int64) (v5 : Int32) (m : Mem) : Option ((Int32 × Int64 × Int32 × Mem) ⊕ (Int32 × Mem)) :=
  if 4 ≤ v5 then up (some (v2, m)) else (Tr_lostIfLaid this v1 v5 8 m).bind (fun r26 => if v3 ≤ r26.1 then Tr_bestLaying_b44 this v1 v2 v3 v5 r26.2 else Tr_bestLaying_b44 this v1 v5 r26.1 v5 r26.2)
noncomputable def Tr_bestLaying (this : Nat) (v1 : Nat) (m : Mem) : Option (Int32 × Mem) :=
  (Tr_lostIfLaid this v1 0 8 m).bind (fun r7 => loop (fun s : Int32 × Int64 × Int32 × Mem => Tr_bestLaying_l14 this v1 s.1 s.2.1 s.2.2.1 s.2.2.2) (0, r7.1, 1, r7.2))
noncomputable def PL_best (this : Nat) (m : Mem) : Option (Int32 × Mem) :=
  (PL_cannotLay this 0 m).bind (fun r2 => if r2 = 0 then (Tr_bestLaying (this + 219) (this + 27) m).bind (fun r22 => some (r22.1, r22.2)) else some (r2, m))
noncomputable def Fl_isLike_b66 (this : Nat) (v1 : Int32) (v2 : Int32) (v3 : Int32) (v4 : Int32) (v5 : Int32) (k0 : Int32) (k1 : Int32) (m : Mem) : Option ((Int32) ⊕ (Int32)) :=
  if k0 = k1 then some (Sum.inl ((v5 + 1))) else up (some 0)
noncomputable def Fl_isLike_b49 (this : Nat) (v1 : Int32) (v2 : Int32) (v3 : Int32) (v4 : Int32) (v5 : Int32) (k0 : Int32) (m : Mem) : Option ((Int32) ⊕ (Int32)) :=
  (Fl_cellsBetween this v5 v3 v4 m).bind (fun r55 => if r55 = 0 then Fl_isLike_b66 this v1 v2 v3 v4 v5 k0 1 m else Fl_isLike_b66 this v1 v2 v3 v4 v5 k0 0 m)
noncomputable def Fl_isLike_l21 (this : Nat) (v1 : Int32) (v2 : Int32) (v3 : Int32) (v4 : Int32) (v5 : Int32) (m : Mem) : Option ((Int32) ⊕ (Int32)) :=
  if (rI m (this + 1) 1) ≤ v5 then up (some 1) else (Fl_cellsBetween this v5 v1 v2 m).bind (fun r38 => if r38 = 0 then Fl_isLike_b49 this v1 v2 v3 v4 v5 1 m else Fl_isLike_b49 this v1 v2 v3 v4 v5 0 m)
noncomputable def Fl_isLike (this : Nat) (v1 : Int32) (v2 : Int32) (v3 : Int32) (v4 : Int32) (m : Mem) : Option (Int32) :=
  (Fl_beyond this v1 v2 m).bind (fun r3 => (Fl_beyond this v3 v4 m).bind (fun r10 => if r3 = r10 then loop (fun s : Int32 => Fl_isLike_l21 this v1 v2 v3 v4 s m) (0) else some 0))
noncomputable def Fl_isLikeNeighbour_b34 (this : Nat) (m : Mem) : Option (Int32) :=
  some 1
noncomputable def Fl_isLikeNeighbour_b17 (this : Nat) (v1 : Int32) (v2 : Int32) (m : Mem) : Option (Int32) :=
  if v2 ≤ 0 then some 0 else (Fl_isLike this v1 v2 v1 (v2 - 1) m).bind (fun r28 => if r28 = 0 then some 0 else Fl_isLikeNeighbour_b34 this m)
noncomputable def Fl_isLikeNeighbour (this : Nat) (v1 : Int32) (v2 : Int32) (m : Mem) : Option (Int32) :=
  if v1 ≤ 0 then Fl_isLikeNeighbour_b17 this v1 v2 m else (Fl_isLike this v1 v2 (v1 - 1) v2 m).bind (fun r11 => if r11 = 0 then Fl_isLikeNeighbour_b17 this v1 v2 m else Fl_isLikeNeighbour_b34 this m)
noncomputable def Tr_noteMove (this : Nat) (v1 : Int32) (v2 : Int32) (v3 : Int32) (m : Mem) : Option (Mem) :=
  lt (wI m this 2 v1) (fun m2 => lt (wI m2 this 3 v2) (fun m7 => lt (wI m7 this 4 v3) (fun m12 => some m12)))
noncomputable def Tr_findBetter_b157 (this : Nat) (v1 : Nat) (v3 : Int64) (v5 : Int64) (v7 : Int32) (v8 : Int32) (v9 : Int32) (m : Mem) : Option ((Int64 × Int32 × Mem) ⊕ (Int32 × Mem)) :=
  (Ca_placeHeap v1 v7 v8 v9 m).bind (fun m164 => some (Sum.inl (v5, (v7 + 1), m164)))
noncomputable def Tr_findBetter_b145 (this : Nat) (v1 : Nat) (v3 : Int64) (v5 : Int64) (v7 : Int32) (v8 : Int32) (v9 : Int32) (v10 : Int32) (v11 : Int32) (v12 : Int32) (m : Mem) : Option ((Int64 × Int32 × Mem) ⊕ ((Int64 × Int32 × Mem) ⊕ ((Int64 × Int32 × Mem) ⊕ (Int32 × Mem)))) :=
  some (Sum.inl (v5, (v12 + 1), m))
noncomputable def Tr_findBetter_l82 (this : Nat) (v1 : Nat) (v3 : Int64) (v7 : Int32) (v8 : Int32) (v9 : Int32) (v10 : Int32) (v11 : Int32) (v5 : Int64) (v12 : Int32) (m : Mem) : Option ((Int64 × Int32 × Mem) ⊕ ((Int64 × Int32 × Mem) ⊕ ((Int64 × Int32 × Mem) ⊕ (Int32 × Mem)))) :=
  if (rI m (v1 + 1) 0) ≤ v12 then up (some (Sum.inl (v5, (v11 + 1), m))) else (Fl_isLikeNeighbour (v1 + 1) v12 v11 m).bind (fun r96 => if r96 = 0 then (Ca_placeHeap v1 v7 v12 v11 m).bind (fun m109 => (Ic_lostIn (this + 42) v1 1 m109).bind (fun r118 => if v5 ≤ r118.1 then Tr_findBetter_b145 this v1 v3 v5 v7 v8 v9 v10 v11 v12 r118.2 else (Tr_noteMove this v7 v12 v11 r118.2).bind (fun m142 => Tr_findBetter_b145 this v1 v3 r118.1 v7 v8 v9 v10 v11 v12 m142))) else Tr_findBetter_b145 this v1 v3 v5 v7 v8 v9 v10 v11 v12 m)
noncomputable def Tr_findBetter_l65 (this : Nat) (v1 : Nat) (v3 : Int64) (v7 : Int32) (v8 : Int32) (v9 : Int32) (v10 : Int32) (v5 : Int64) (v11 : Int32) (m : Mem) : Option ((Int64 × Int32 × Mem) ⊕ ((Int64 × Int32 × Mem) ⊕ (Int32 × Mem))) :=
  if (rI m (v1 + 1) 1) ≤ v11 then up (Tr_findBetter_b157 this v1 v3 v5 v7 v8 v9 m) else if v10 = 0 then up (Tr_findBetter_b157 this v1 v3 v5 v7 v8 v9 m) else loop (fun s : Int64 × Int32 × Mem => Tr_findBetter_l82 this v1 v3 v7 v8 v9 v10 v11 s.1 s.2.1 s.2.2) (v5, 0, m)
noncomputable def Tr_findBetter_b60 (this : Nat) (v1 : Nat) (v3 : Int64) (v5 : Int64) (v7 : Int32) (v8 : Int32) (v9 : Int32) (k0 : Int32) (m : Mem) : Option ((Int64 × Int32 × Mem) ⊕ (Int32 × Mem)) :=
  loop (fun s : Int64 × Int32 × Mem => Tr_findBetter_l65 this v1 v3 v7 v8 v9 k0 s.1 s.2.1 s.2.2) (v5, 0, m)
noncomputable def Tr_findBetter_l21 (this : Nat) (v1 : Nat) (v3 : Int64) (v5 : Int64) (v7 : Int32) (m : Mem) : Option ((Int64 × Int32 × Mem) ⊕ (Int32 × Mem)) :=
  if 8 ≤ v7 then up (if v3 ≤ v5 then some (0, m) else some (1, m)) else gd (inb v7 8) (gd (inb v7 8) ((Ca_tonsOf v1 v7 m).bind (fun r49 => if r49 ≤ 0 then Tr_findBetter_b60 this v1 v3 v5 v7 (rI m (v1 + 25) (ix v7)) (rI m (v1 + 26) (ix v7)) 0 m else Tr_findBetter_b60 this v1 v3 v5 v7 (rI m (v1 + 25) (ix v7)) (rI m (v1 + 26) (ix v7)) 1 m)))
noncomputable def Tr_findBetter (this : Nat) (v1 : Nat) (m : Mem) : Option (Int32 × Mem) :=
  (Ic_lostIn (this + 42) v1 1 m).bind (fun r11 => loop (fun s : Int64 × Int32 × Mem => Tr_findBetter_l21 this v1 r11.1 s.1 s.2.1 s.2.2) (r11.1, 0, r11.2))
noncomputable def Tr_moveHeaps_l2 (this : Nat) (v1 : Nat) (v2 : Int32) (v3 : Int32) (m : Mem) : Option ((Int32 × Mem) ⊕ (Int32 × Mem)) :=
  if v2 ≤ v3 then up (some (v3, m)) else (Tr_findBetter this v1 m).bind (fun r9 => if r9.1 = 0 then up (some (v3, r9.2)) else (Ca_placeHeap v1 (rI r9.2 this 2) (rI r9.2 this 3) (rI r9.2 this 4) r9.2).bind (fun m28 => some (Sum.inl ((v3 + 1), m28))))
noncomputable def Tr_moveHeaps (this : Nat) (v1 : Nat) (v2 : Int32) (m : Mem) : Option (Int32 × Mem) :=
  loop (fun s : Int32 × Mem => Tr_moveHeaps_l2 this v1 v2 s.1 s.2) (0, m)
noncomputable def PL_betters (this : Nat) (v1 : Int32) (m : Mem) : Option (Int32 × Mem) :=
  (Fl_isThere (this + 28) m).bind (fun r7 => if r7 = 0 then some ((-2), m) else if v1 < 0 then some ((-2), m) else if v1 ≤ 5 then (Tr_moveHeaps (this + 219) (this + 27) v1 m).bind (fun r34 => some (r34.1, r34.2)) else some ((-2), m))
noncomputable def PL_gap (this : Nat) (m : Mem) : Option (Int64 × Mem) :=
  (Fl_isThere (this + 28) m).bind (fun r7 => if r7 = 0 then some ((-2), m) else (Ca_copyFrom (this + 220) (this + 27) m).bind (fun m28 => (Tr_moveHeaps (this + 219) (this + 220) 5 m28).bind (fun r43 => (Ic_lostIn (this + 202) (this + 27) 1 r43.2).bind (fun r56 => (Ic_lostIn (this + 202) (this + 220) 1 r56.2).bind (fun r71 => some ((r56.1 - r71.1), r71.2))))))
noncomputable def Tr_bestHeaps_b52 (this : Nat) (v1 : Nat) (v2 : Int32) (v3 : Int64) (v5 : Int32) (m : Mem) : Option ((Int32 × Int64 × Int32 × Mem) ⊕ (Int32 × Mem)) :=
  some (Sum.inl (v2, v3, (v5 + 1), m))
noncomputable def Tr_bestHeaps_l13 (this : Nat) (v1 : Nat) (v2 : Int32) (v3 : Int64) (v5 : Int32) (m : Mem) : Option ((Int32 × Int64 × Int32 × Mem) ⊕ (Int32 × Mem)) :=
  (Ca_heapsThere v1 m).bind (fun r16 => if r16 < v5 then up (some (v2, m)) else if 8 < v5 then up (some (v2, m)) else (Tr_lostIfLaid this v1 1 v5 m).bind (fun r34 => if v3 ≤ r34.1 then Tr_bestHeaps_b52 this v1 v2 v3 v5 r34.2 else Tr_bestHeaps_b52 this v1 v5 r34.1 v5 r34.2))
noncomputable def Tr_bestHeaps (this : Nat) (v1 : Nat) (m : Mem) : Option (Int32 × Mem) :=
  (Tr_lostIfLaid this v1 1 1 m).bind (fun r6 => loop (fun s : Int32 × Int64 × Int32 × Mem => Tr_bestHeaps_l13 this v1 s.1 s.2.1 s.2.2.1 s.2.2.2) (1, r6.1, 2, r6.2))
noncomputable def PL_heaps (this : Nat) (m : Mem) : Option (Int32 × Mem) :=
  (PL_cannotLay this 0 m).bind (fun r2 => if r2 = 0 then (Tr_bestHeaps (this + 219) (this + 27) m).bind (fun r22 => some (r22.1, r22.2)) else some (r2, m))
noncomputable def Tr_bestCellFor_b106 (this : Nat) (v1 : Nat) (v2 : Int32) (v3 : Int32) (v4 : Int64) (v6 : Int32) (v7 : Int32) (m : Mem) : Option ((Int32 × Int64 × Int32 × Mem) ⊕ ((Int32 × Int64 × Int32 × Mem) ⊕ (Int32 × Mem))) :=
  some (Sum.inl (v3, v4, (v7 + 1), m))
noncomputable def Tr_bestCellFor_l33 (this : Nat) (v1 : Nat) (v2 : Int32) (v6 : Int32) (v3 : Int32) (v4 : Int64) (v7 : Int32) (m : Mem) : Option ((Int32 × Int64 × Int32 × Mem) ⊕ ((Int32 × Int64 × Int32 × Mem) ⊕ (Int32 × Mem))) :=
  if (rI m (v1 + 1) 0) ≤ v7 then up (some (Sum.inl (v3, v4, (v6 + 1), m))) else (Fl_isLikeNeighbour (v1 + 1) v7 v6 m).bind (fun r53 => if r53 = 0 then (Ca_placeGroup (this + 1) v2 v7 v6 m).bind (fun m68 => (Ic_lostIn (this + 42) (this + 1) 1 m68).bind (fun r80 => if v4 ≤ r80.1 then Tr_bestCellFor_b106 this v1 v2 v3 v4 v6 v7 r80.2 else Tr_bestCellFor_b106 this v1 v2 (v7 + (12 * v6)) r80.1 v6 v7 r80.2)) else Tr_bestCellFor_b106 this v1 v2 v3 v4 v6 v7 m)
noncomputable def Tr_bestCellFor_l18 (this : Nat) (v1 : Nat) (v2 : Int32) (v3 : Int32) (v4 : Int64) (v6 : Int32) (m : Mem) : Option ((Int32 × Int64 × Int32 × Mem) ⊕ (Int32 × Mem)) :=
  if (rI m (v1 + 1) 1) ≤ v6 then up (some (v3, m)) else loop (fun s : Int32 × Int64 × Int32 × Mem => Tr_bestCellFor_l33 this v1 v2 v6 s.1 s.2.1 s.2.2.1 s.2.2.2) (v3, v4, 0, m)
noncomputable def Tr_bestCellFor (this : Nat) (v1 : Nat) (v2 : Int32) (m : Mem) : Option (Int32 × Mem) :=
  (Ca_copyFrom (this + 1) v1 m).bind (fun m5 => loop (fun s : Int32 × Int64 × Int32 × Mem => Tr_bestCellFor_l18 this v1 v2 s.1 s.2.1 s.2.2.1 s.2.2.2) (0, 1000000000001, 0, m5))
noncomputable def PL_where (this : Nat) (v1 : Int32) (m : Mem) : Option (Int32 × Mem) :=
  (Fl_isThere (this + 28) m).bind (fun r7 => if r7 = 0 then some ((-2), m) else (PL_isGroup v1 m).bind (fun r14 => if r14 = 0 then some ((-2), m) else (Tr_bestCellFor (this + 219) (this + 27) v1 m).bind (fun r32 => some (r32.1, r32.2))))
noncomputable def PL_unseenBy_l7 (this : Nat) (v1 : Int32) (v2 : Int64) (v4 : Int32) (m : Mem) : Option ((Int64 × Int32) ⊕ (Int64)) :=
  if v1 ≤ v4 then up (some v2) else some (Sum.inl (((v2 * ((100 - (rI m (this + 28) 10)).toInt64)) / 100), (v4 + 1)))
noncomputable def PL_unseenBy (this : Nat) (v1 : Int32) (m : Mem) : Option (Int64) :=
  loop (fun s : Int64 × Int32 => PL_unseenBy_l7 this v1 s.1 s.2 m) (1000000000000, 0)
noncomputable def PL_watch_b10 (this : Nat) (m : Mem) : Option (Int64) :=
  some (-2)
noncomputable def PL_watch (this : Nat) (v1 : Int32) (m : Mem) : Option (Int64) :=
  if v1 < 0 then PL_watch_b10 this m else if v1 ≤ 28 then (PL_unseenBy this v1 m).bind (fun r18 => some r18) else PL_watch_b10 this m
noncomputable def PL_watches_l12 (this : Nat) (v1 : Int32) (v2 : Int32) (m : Mem) : Option ((Int32) ⊕ (Int32)) :=
  if 28 < v2 then up (some (-1)) else (PL_unseenBy this v2 m).bind (fun r20 => if ((v1.toInt64) * 1000000000) < r20 then some (Sum.inl ((v2 + 1))) else up (some v2))
noncomputable def PL_watches (this : Nat) (v1 : Int32) (m : Mem) : Option (Int32) :=
  (PL_isThousandths v1 m).bind (fun r1 => if r1 = 0 then some (-2) else loop (fun s : Int32 => PL_watches_l12 this v1 s m) (0))
noncomputable def Go_isNear (v0 : Int32) (v1 : Int32) (m : Mem) : Option (Int32) :=
  if v0 ≤ 0 then some 0 else if ((v1 >>> ((v0 - 1) &&& 31)) &&& 1) = 1 then some 1 else some 0
noncomputable def Go_canBe_b59 (v0 : Nat) (m : Mem) : Option (Int32) :=
  some 1
noncomputable def Go_canBe (v0 : Nat) (v1 : Int32) (v2 : Int32) (v3 : Int32) (m : Mem) : Option (Int32) :=
  if v1 < 1 then some 0 else if (rI m v0 3) < v1 then some 0 else if v2 < 0 then some 0 else if v2 ≤ (rI m (v0 + 18) 1) then if v3 < 0 then some 0 else if ((1 : Int32) <<< ((rI m (v0 + 18) 1) &&& 31)) ≤ v3 then some 0 else if v2 = 0 then Go_canBe_b59 v0 m else (Go_isNear v2 v3 m).bind (fun r53 => if r53 = 0 then some 0 else Go_canBe_b59 v0 m) else some 0
noncomputable def Go_begin_l9 (this : Nat) (v1 : Int32) (v2 : Int32) (m : Mem) : Option ((Int32 × Mem) ⊕ ((Int32 × Mem) ⊕ (Mem))) :=
  if 16 ≤ v2 then up (some (Sum.inl ((v1 + 1), m))) else gd (inb v1 5) (gd (inb v2 16) (lt (wL m ((this + 1) + (1 + ix v1)) (ix v2) 1000000000000) (fun m25 => some (Sum.inl ((v2 + 1), m25)))))
noncomputable def Go_begin_l2 (this : Nat) (v1 : Int32) (m : Mem) : Option ((Int32 × Mem) ⊕ (Mem)) :=
  if 4 < v1 then up (some m) else loop (fun s : Int32 × Mem => Go_begin_l9 this v1 s.1 s.2) (0, m)
noncomputable def Go_begin (this : Nat) (m : Mem) : Option (Mem) :=
  loop (fun s : Int32 × Mem => Go_begin_l2 this s.1 s.2) (0, m)
noncomputable def Go_worthOf (this : Nat) (v1 : Int32) (v2 : Int32) (m : Mem) : Option (Int64) :=
  if v1 < 0 then some 0 else if (Int32.ofNat 5) ≤ v1 then some 0 else if v2 < 0 then some 0 else gd (inb v1 5) (if v2 < (Int32.ofNat 16) then gd (inb v1 5) (gd (inb v2 16) (some (rL m ((this + 1) + (1 + ix v1)) (ix v2)))) else some 0)
noncomputable def Go_worthOfGoing_b22 (this : Nat) (v1 : Nat) (v2 : Int32) (v3 : Int32) (v4 : Int32) (k0 : Int32) (m : Mem) : Option (Int64) :=
  (Go_worthOf this v3 v4 m).bind (fun r28 => if v3 = v2 then some ((r28 * ((10000 - k0).toInt64)) / 10000) else some ((((r28 * ((10000 - k0).toInt64)) / 10000) * ((10000 - (rI m v1 14)).toInt64)) / 10000))
noncomputable def Go_worthOfGoing (this : Nat) (v1 : Nat) (v2 : Int32) (v3 : Int32) (v4 : Int32) (m : Mem) : Option (Int64) :=
  if v3 = 0 then Go_worthOfGoing_b22 this v1 v2 v3 v4 (rI m v1 13) m else (Ta_at (v1 + 18) (v3 - 1) 2 m).bind (fun r19 => Go_worthOfGoing_b22 this v1 v2 v3 v4 r19 m)
noncomputable def Go_bestFrom_b73 (this : Nat) (v1 : Nat) (v2 : Int32) (v3 : Int32) (v4 : Int32) (v5 : Int64) (v7 : Int32) (m : Mem) : Option ((Int32 × Int64 × Int32) ⊕ (Int32)) :=
  some (Sum.inl (v4, v5, (v7 + 1)))
noncomputable def Go_bestFrom_l16 (this : Nat) (v1 : Nat) (v2 : Int32) (v3 : Int32) (v4 : Int32) (v5 : Int64) (v7 : Int32) (m : Mem) : Option ((Int32 × Int64 × Int32) ⊕ (Int32)) :=
  if (rI m (v1 + 18) 1) < v7 then up (some v4) else if v7 = v2 then Go_bestFrom_b73 this v1 v2 v3 v4 v5 v7 m else (Go_isNear v7 v3 m).bind (fun r37 => if r37 = 0 then Go_bestFrom_b73 this v1 v2 v3 v4 v5 v7 m else (Go_worthOfGoing this v1 v2 v7 v3 m).bind (fun r49 => if r49 ≤ v5 then Go_bestFrom_b73 this v1 v2 v3 v4 v5 v7 m else (Go_worthOfGoing this v1 v2 v7 v3 m).bind (fun r68 => Go_bestFrom_b73 this v1 v2 v3 v7 r68 v7 m)))
noncomputable def Go_bestFrom (this : Nat) (v1 : Nat) (v2 : Int32) (v3 : Int32) (m : Mem) : Option (Int32) :=
  (Go_worthOfGoing this v1 v2 v2 v3 m).bind (fun r8 => loop (fun s : Int32 × Int64 × Int32 => Go_bestFrom_l16 this v1 v2 v3 s.1 s.2.1 s.2.2 m) (v2, r8, 1))
noncomputable def Go_mixComing_b96 (this : Nat) (v1 : Int32) (v2 : Int32) (v3 : Int64) (v5 : Int32) (m : Mem) : Option ((Int32 × Mem) ⊕ (Mem)) :=
  some (Sum.inl ((v5 + 1), m))
noncomputable def Go_mixComing_l17 (this : Nat) (v1 : Int32) (v2 : Int32) (v3 : Int64) (v5 : Int32) (m : Mem) : Option ((Int32 × Mem) ⊕ (Mem)) :=
  gd (inb v1 5) (if (Int32.ofNat 16) ≤ v5 then up (some m) else if (v5 ||| ((1 : Int32) <<< (v2 &&& 31))) = v5 then Go_mixComing_b96 this v1 v2 v3 v5 m else gd (inb v1 5) (if (Int32.ofNat 16) ≤ (v5 ||| ((1 : Int32) <<< (v2 &&& 31))) then Go_mixComing_b96 this v1 v2 v3 v5 m else gd (inb v1 5) (gd (inb v1 5) (gd (inb (v5 ||| ((1 : Int32) <<< (v2 &&& 31))) 16) (gd (inb v1 5) (gd (inb v5 16) (gd (inb v5 16) (lt (wL m ((this + 7) + (1 + ix v1)) (ix v5) (((v3 * (rL m ((this + 7) + (1 + ix v1)) (ix (v5 ||| ((1 : Int32) <<< (v2 &&& 31)))))) + ((100 - v3) * (rL m ((this + 7) + (1 + ix v1)) (ix v5)))) / 100)) (fun m95 => Go_mixComing_b96 this v1 v2 v3 v5 m95)))))))))
noncomputable def Go_mixComing (this : Nat) (v1 : Int32) (v2 : Int32) (v3 : Int64) (m : Mem) : Option (Mem) :=
  if v1 < 0 then some m else if v1 < (Int32.ofNat 5) then loop (fun s : Int32 × Mem => Go_mixComing_l17 this v1 v2 v3 s.1 s.2) (0, m) else some m
noncomputable def Go_workDay_l133 (this : Nat) (v1 : Nat) (v3 : Int32) (v4 : Int32) (v5 : Int32) (m : Mem) : Option ((Int32 × Mem) ⊕ ((Int32 × Mem) ⊕ (Mem))) :=
  if ((1 : Int32) <<< (v3 &&& 31)) ≤ v5 then up (some (Sum.inl ((v4 + 1), m))) else gd (inb v4 5) (gd (inb v4 5) (gd (inb v5 16) (gd (inb v5 16) (lt (wL m ((this + 1) + (1 + ix v4)) (ix v5) (rL m ((this + 7) + (1 + ix v4)) (ix v5))) (fun m160 => some (Sum.inl ((v5 + 1), m160)))))))
noncomputable def Go_workDay_l124 (this : Nat) (v1 : Nat) (v3 : Int32) (v4 : Int32) (m : Mem) : Option ((Int32 × Mem) ⊕ (Mem)) :=
  if v3 < v4 then up (some m) else loop (fun s : Int32 × Mem => Go_workDay_l133 this v1 v3 v4 s.1 s.2) (0, m)
noncomputable def Go_workDay_b109 (this : Nat) (v1 : Nat) (v2 : Int32) (v3 : Int32) (v4 : Int32) (v5 : Int32) (m : Mem) : Option ((Int32 × Mem) ⊕ ((Int32 × Mem) ⊕ (Mem))) :=
  some (Sum.inl ((v5 + (-1)), m))
noncomputable def Go_workDay_l71 (this : Nat) (v1 : Nat) (v2 : Int32) (v3 : Int32) (v4 : Int32) (v5 : Int32) (m : Mem) : Option ((Int32 × Mem) ⊕ ((Int32 × Mem) ⊕ (Mem))) :=
  if v5 < 0 then up (some (Sum.inl ((v4 + 1), m))) else (Ta_at (v1 + 18) v5 0 m).bind (fun r83 => if v2 < r83 then Go_workDay_b109 this v1 v2 v3 v4 v5 m else (Ta_at (v1 + 18) v5 1 m).bind (fun r102 => (Go_mixComing this v4 v5 (r102.toInt64) m).bind (fun m106 => Go_workDay_b109 this v1 v2 v3 v4 v5 m106)))
noncomputable def Go_workDay_l24 (this : Nat) (v1 : Nat) (v2 : Int32) (v3 : Int32) (v4 : Int32) (v5 : Int32) (m : Mem) : Option ((Int32 × Mem) ⊕ ((Int32 × Mem) ⊕ (Mem))) :=
  if ((1 : Int32) <<< (v3 &&& 31)) ≤ v5 then up (loop (fun s : Int32 × Mem => Go_workDay_l71 this v1 v2 v3 v4 s.1 s.2) ((v3 - 1), m)) else gd (inb v4 5) ((Go_bestFrom this v1 v4 v5 m).bind (fun r51 => (Go_worthOfGoing this v1 v4 r51 v5 m).bind (fun r56 => gd (inb v5 16) (lt (wL m ((this + 7) + (1 + ix v4)) (ix v5) r56) (fun m59 => some (Sum.inl ((v5 + 1), m59)))))))
noncomputable def Go_workDay_l15 (this : Nat) (v1 : Nat) (v2 : Int32) (v3 : Int32) (v4 : Int32) (m : Mem) : Option ((Int32 × Mem) ⊕ (Mem)) :=
  if v3 < v4 then up (loop (fun s : Int32 × Mem => Go_workDay_l124 this v1 v3 s.1 s.2) (0, m)) else loop (fun s : Int32 × Mem => Go_workDay_l24 this v1 v2 v3 v4 s.1 s.2) (0, m)
noncomputable def Go_workDay (this : Nat) (v1 : Nat) (v2 : Int32) (m : Mem) : Option (Mem) :=
  loop (fun s : Int32 × Mem => Go_workDay_l15 this v1 v2 (jmin (rI m (v1 + 18) 1) 4) s.1 s.2) (0, m)
noncomputable def Go_workBackTo_l9 (this : Nat) (v1 : Nat) (v2 : Int32) (v3 : Int32) (m : Mem) : Option ((Int32 × Mem) ⊕ (Mem)) :=
  if v3 < v2 then up (some m) else if v3 ≤ 0 then up (some m) else (Go_workDay this v1 v3 m).bind (fun m21 => some (Sum.inl ((v3 + (-1)), m21)))
noncomputable def Go_workBackTo (this : Nat) (v1 : Nat) (v2 : Int32) (m : Mem) : Option (Mem) :=
  (Go_begin this m).bind (fun m1 => loop (fun s : Int32 × Mem => Go_workBackTo_l9 this v1 v2 s.1 s.2) ((rI m1 v1 3), m1))
noncomputable def PL_alive (this : Nat) (v1 : Int32) (v2 : Int32) (v3 : Int32) (m : Mem) : Option (Int64 × Mem) :=
  (Go_canBe (this + 28) v1 v2 v3 m).bind (fun r10 => if r10 = 0 then some ((-2), m) else (Go_workBackTo (this + 281) (this + 28) v1 m).bind (fun m32 => (Go_worthOf (this + 281) v2 v3 m32).bind (fun r41 => some (r41, m32))))
noncomputable def PL_go (this : Nat) (v1 : Int32) (v2 : Int32) (v3 : Int32) (m : Mem) : Option (Int32 × Mem) :=
  (Go_canBe (this + 28) v1 v2 v3 m).bind (fun r10 => if r10 = 0 then some ((-2), m) else (Go_workBackTo (this + 281) (this + 28) (v1 + 1) m).bind (fun m33 => (Go_bestFrom (this + 281) (this + 28) v2 v3 m33).bind (fun r49 => some (r49, m33))))
noncomputable def Go_dueBy_b34 (v0 : Nat) (v1 : Int32) (v2 : Int32) (v3 : Int32) (m : Mem) : Option ((Int32 × Int32) ⊕ (Int32)) :=
  some (Sum.inl (v2, (v3 + 1)))
noncomputable def Go_dueBy_l4 (v0 : Nat) (v1 : Int32) (v2 : Int32) (v3 : Int32) (m : Mem) : Option ((Int32 × Int32) ⊕ (Int32)) :=
  if (rI m (v0 + 18) 1) ≤ v3 then up (some v2) else (Ta_at (v0 + 18) v3 0 m).bind (fun r21 => if v1 < r21 then Go_dueBy_b34 v0 v1 v2 v3 m else Go_dueBy_b34 v0 v1 (v2 ||| ((1 : Int32) <<< (v3 &&& 31))) v3 m)
noncomputable def Go_dueBy (v0 : Nat) (v1 : Int32) (m : Mem) : Option (Int32) :=
  loop (fun s : Int32 × Int32 => Go_dueBy_l4 v0 v1 s.1 s.2 m) (0, 0)
noncomputable def Go_firstDayToGo_b31 (this : Nat) (v1 : Nat) (v2 : Int32) (v3 : Int32) (m : Mem) : Option ((Int32 × Int32 × Mem) ⊕ (Int32 × Mem)) :=
  (Go_workDay this v1 v3 m).bind (fun m34 => some (Sum.inl (v2, (v3 + (-1)), m34)))
noncomputable def Go_firstDayToGo_l11 (this : Nat) (v1 : Nat) (v2 : Int32) (v3 : Int32) (m : Mem) : Option ((Int32 × Int32 × Mem) ⊕ (Int32 × Mem)) :=
  if v3 ≤ 0 then up (some (v2, m)) else (Go_dueBy v1 v3 m).bind (fun r20 => (Go_bestFrom this v1 0 r20 m).bind (fun r23 => if r23 = 0 then Go_firstDayToGo_b31 this v1 v2 v3 m else Go_firstDayToGo_b31 this v1 v3 v3 m))
noncomputable def Go_firstDayToGo (this : Nat) (v1 : Nat) (m : Mem) : Option (Int32 × Mem) :=
  (Go_begin this m).bind (fun m3 => loop (fun s : Int32 × Int32 × Mem => Go_firstDayToGo_l11 this v1 s.1 s.2.1 s.2.2) ((-1), (rI m3 v1 3), m3))
noncomputable def PL_leave (this : Nat) (m : Mem) : Option (Int32 × Mem) :=
  (Fl_isThere (this + 28) m).bind (fun r7 => if r7 = 0 then some ((-2), m) else (Go_firstDayToGo (this + 281) (this + 28) m).bind (fun r24 => some (r24.1, r24.2)))
noncomputable def PL_isCrew (v0 : Int32) (v1 : Int32) (m : Mem) : Option (Int32) :=
  if v0 < 0 then some 0 else if 28 < v0 then some 0 else if v1 < 0 then some 0 else if 60 < v1 then some 0 else some 1
noncomputable def St_begin_b43 (this : Nat) (v2 : Int32) (k1 : Int32) (k2 : Int32) (m : Mem) : Option ((Int32 × Mem) ⊕ (Mem)) :=
  gd (inb k1 1681) (lt (wI m (this + 1) (ix k1) k2) (fun m43 => gd (inb v2 1681) (lt (wI m43 (this + 2) (ix v2) 0) (fun m50 => some (Sum.inl ((v2 + 1), m50))))))
noncomputable def St_begin_l21 (this : Nat) (v2 : Int32) (m : Mem) : Option ((Int32 × Mem) ⊕ (Mem)) :=
  if (rI m this 2) < v2 then up (some m) else if v2 = 0 then St_begin_b43 this v2 v2 0 m else St_begin_b43 this v2 v2 (-1) m
noncomputable def St_begin (this : Nat) (v1 : Int32) (m : Mem) : Option (Mem) :=
  lt (wI m this 2 (jmax 0 (jmin v1 ((Int32.ofNat 1681) - 1)))) (fun m16 => loop (fun s : Int32 × Mem => St_begin_l21 this s.1 s.2) (0, m16))
noncomputable def St_offer_b143 (this : Nat) (v1 : Int32) (v2 : Int32) (v3 : Int32) (v4 : Int32) (v5 : Int32) (k1 : Int32) (k2 : Int32) (m : Mem) : Option ((Int32 × Mem) ⊕ (Mem)) :=
  gd (inb k1 1681) (lt (wI m (this + 2) (ix k1) k2) (fun m143 => some (Sum.inl ((v5 + (-1)), m143))))
noncomputable def St_offer_b105 (this : Nat) (v1 : Int32) (v2 : Int32) (v3 : Int32) (v4 : Int32) (v5 : Int32) (v6 : Int32) (v7 : Int32) (v8 : Int32) (v9 : Int32) (m : Mem) : Option ((Int32 × Int32 × Int32 × Int32) ⊕ ((Int32 × Mem) ⊕ (Mem))) :=
  some (Sum.inl (v6, v7, v8, (v9 + 1)))
noncomputable def St_offer_b83 (this : Nat) (v1 : Int32) (v2 : Int32) (v3 : Int32) (v4 : Int32) (v5 : Int32) (v9 : Int32) (v10 : Int32) (m : Mem) : Option ((Int32 × Int32 × Int32 × Int32) ⊕ ((Int32 × Mem) ⊕ (Mem))) :=
  gd (inb v10 1681) (St_offer_b105 this v1 v2 v3 v4 v5 v9 v10 ((rI m (this + 1) (ix v10)) + (v9 * v3)) v9 m)
noncomputable def St_offer_l30 (this : Nat) (v1 : Int32) (v2 : Int32) (v3 : Int32) (v4 : Int32) (v5 : Int32) (v6 : Int32) (v7 : Int32) (v8 : Int32) (v9 : Int32) (m : Mem) : Option ((Int32 × Int32 × Int32 × Int32) ⊕ ((Int32 × Mem) ⊕ (Mem))) :=
  if v1 < v9 then up (gd (inb v5 1681) (lt (wI m (this + 1) (ix v5) v8) (fun m119 => if v4 = 0 then gd (inb v7 1681) (St_offer_b143 this v1 v2 v3 v4 v5 v5 (rI m119 (this + 2) (ix v7)) m119) else St_offer_b143 this v1 v2 v3 v4 v5 v5 v6 m119))) else gd (inb (jmax 0 (v5 - (v9 * v2))) 1681) (if (rI m (this + 1) (ix (jmax 0 (v5 - (v9 * v2))))) = (-1) then St_offer_b105 this v1 v2 v3 v4 v5 v6 v7 v8 v9 m else if v8 = (-1) then St_offer_b83 this v1 v2 v3 v4 v5 v9 (jmax 0 (v5 - (v9 * v2))) m else gd (inb (jmax 0 (v5 - (v9 * v2))) 1681) (if v8 ≤ ((rI m (this + 1) (ix (jmax 0 (v5 - (v9 * v2))))) + (v9 * v3)) then St_offer_b105 this v1 v2 v3 v4 v5 v6 v7 v8 v9 m else St_offer_b83 this v1 v2 v3 v4 v5 v9 (jmax 0 (v5 - (v9 * v2))) m))
noncomputable def St_offer_l6 (this : Nat) (v1 : Int32) (v2 : Int32) (v3 : Int32) (v4 : Int32) (v5 : Int32) (m : Mem) : Option ((Int32 × Mem) ⊕ (Mem)) :=
  if v5 ≤ 0 then up (some m) else gd (inb v5 1681) (loop (fun s : Int32 × Int32 × Int32 × Int32 => St_offer_l30 this v1 v2 v3 v4 v5 s.1 s.2.1 s.2.2.1 s.2.2.2 m) (0, v5, (rI m (this + 1) (ix v5)), 1))
noncomputable def St_offer (this : Nat) (v1 : Int32) (v2 : Int32) (v3 : Int32) (v4 : Int32) (m : Mem) : Option (Mem) :=
  loop (fun s : Int32 × Mem => St_offer_l6 this v1 v2 v3 v4 s.1 s.2) ((rI m this 2), m)
noncomputable def St_costOf (this : Nat) (v1 : Int32) (m : Mem) : Option (Int32) :=
  if v1 < 0 then some (-1) else if (rI m this 2) < v1 then some (-1) else if (Int32.ofNat 1681) ≤ v1 then some (-1) else gd (inb v1 1681) (some (rI m (this + 1) (ix v1)))
noncomputable def St_loadOf_b91 (this : Nat) (v1 : Nat) (v2 : Int32) (v4 : Int32) (v5 : Int32) (m : Mem) : Option ((Int32 × Mem) ⊕ (Int32 × Mem)) :=
  some (Sum.inl ((v5 + (-1)), m))
noncomputable def St_loadOf_b88 (this : Nat) (v1 : Nat) (v2 : Int32) (v4 : Int32) (v5 : Int32) (k1 : Int32) (k2 : Int32) (k3 : Int32) (k4 : Int32) (m : Mem) : Option ((Int32 × Mem) ⊕ (Int32 × Mem)) :=
  (St_offer this k1 k2 k3 k4 m).bind (fun m88 => St_loadOf_b91 this v1 v2 v4 v5 m88)
noncomputable def St_loadOf_l26 (this : Nat) (v1 : Nat) (v2 : Int32) (v4 : Int32) (v5 : Int32) (m : Mem) : Option ((Int32 × Mem) ⊕ (Int32 × Mem)) :=
  if v5 < 0 then up ((St_costOf this (rI m this 2) m).bind (fun r102 => some (r102, m))) else (Ta_at (v1 + 10) v5 0 m).bind (fun r38 => if r38 = v2 then (Ta_at (v1 + 10) v5 3 m).bind (fun r53 => (Ta_at (v1 + 10) v5 1 m).bind (fun r63 => (Ta_at (v1 + 10) v5 2 m).bind (fun r73 => if v5 = v4 then St_loadOf_b88 this v1 v2 v4 v5 r53 r63 r73 1 m else St_loadOf_b88 this v1 v2 v4 v5 r53 r63 r73 0 m))) else St_loadOf_b91 this v1 v2 v4 v5 m)
noncomputable def St_loadOf (this : Nat) (v1 : Nat) (v2 : Int32) (v3 : Int32) (v4 : Int32) (m : Mem) : Option (Int32 × Mem) :=
  (Fl_tells v1 v2 m).bind (fun r2 => if r2 = 0 then some (0, m) else (St_begin this v3 m).bind (fun m12 => loop (fun s : Int32 × Mem => St_loadOf_l26 this v1 v2 v4 s.1 s.2) (((rI m12 (v1 + 10) 1) - 1), m12)))
noncomputable def St_loadOfKinds_l6 (this : Nat) (v1 : Nat) (v3 : Int32) (v4 : Int32) (v5 : Int32) (v6 : Int32) (m : Mem) : Option ((Int32 × Int32 × Mem) ⊕ (Int32 × Mem)) :=
  if 4 ≤ v6 then up (some (v5, m)) else (PL_neededOf v6 v3 v4 m).bind (fun r21 => (St_loadOf this v1 v6 r21 (-1) m).bind (fun r25 => if r25.1 = (-1) then up (some ((-1), r25.2)) else some (Sum.inl ((v5 + r25.1), (v6 + 1), r25.2))))
noncomputable def St_loadOfKinds (this : Nat) (v1 : Nat) (v2 : Int32) (v3 : Int32) (v4 : Int32) (m : Mem) : Option (Int32 × Mem) :=
  loop (fun s : Int32 × Int32 × Mem => St_loadOfKinds_l6 this v1 v3 v4 s.1 s.2.1 s.2.2) (0, v2, m)
noncomputable def PL_least (this : Nat) (v1 : Int32) (v2 : Int32) (v3 : Int32) (m : Mem) : Option (Int32 × Mem) :=
  (PL_isCrew v1 v2 m).bind (fun r2 => if r2 = 0 then some ((-2), m) else if v3 < (-1) then some ((-2), m) else if v3 < 4 then if v3 = (-1) then (St_loadOfKinds (this + 278) (this + 28) 0 v1 v2 m).bind (fun r63 => some (r63.1, r63.2)) else (PL_neededOf v3 v1 v2 m).bind (fun r41 => (St_loadOf (this + 278) (this + 28) v3 r41 (-1) m).bind (fun r45 => some (r45.1, r45.2))) else some ((-2), m))
noncomputable def St_askedUnits (this : Nat) (m : Mem) : Option (Int32) :=
  if (rI m this 2) < 0 then some 0 else if (Int32.ofNat 1681) ≤ (rI m this 2) then some 0 else gd (inb (rI m this 2) 1681) (some (rI m (this + 2) (ix (rI m this 2))))
noncomputable def PL_load (this : Nat) (v1 : Int32) (v2 : Int32) (v3 : Int32) (m : Mem) : Option (Int32 × Mem) :=
  (PL_isCrew v1 v2 m).bind (fun r2 => if r2 = 0 then some ((-2), m) else (Ta_has (this + 38) v3 m).bind (fun r19 => if r19 = 0 then some ((-2), m) else (Ta_at (this + 38) v3 0 m).bind (fun r40 => (PL_neededOf r40 v1 v2 m).bind (fun r62 => (St_loadOf (this + 278) (this + 28) r40 r62 v3 m).bind (fun r66 => if r66.1 = (-1) then some ((-1), r66.2) else (St_askedUnits (this + 278) r66.2).bind (fun r85 => some (r85, r66.2)))))))
noncomputable def PL_lasts_b129 (this : Nat) (v1 : Int32) (v2 : Int32) (v3 : Int32) (v4 : Int32) (v5 : Int32) (m : Mem) : Option ((Int32) ⊕ (Int32 × Mem)) :=
  some (Sum.inl ((v5 + (-1))))
noncomputable def PL_lasts_b110 (this : Nat) (v1 : Int32) (v2 : Int32) (v3 : Int32) (v4 : Int32) (v5 : Int32) (k0 : Int32) (m : Mem) : Option ((Int32) ⊕ (Int32 × Mem)) :=
  if k0 = (-1) then PL_lasts_b129 this v1 v2 v3 v4 v5 m else if v2 < (k0 + v3) then PL_lasts_b129 this v1 v2 v3 v4 v5 m else up (some (v5, m))
noncomputable def PL_lasts_l85 (this : Nat) (v1 : Int32) (v2 : Int32) (v3 : Int32) (v4 : Int32) (v5 : Int32) (m : Mem) : Option ((Int32) ⊕ (Int32 × Mem)) :=
  if v5 < 0 then up (some ((-1), m)) else if v4 = 0 then PL_lasts_b110 this v1 v2 v3 v4 v5 0 m else (St_costOf (this + 278) (v1 * v5) m).bind (fun r103 => PL_lasts_b110 this v1 v2 v3 v4 v5 r103 m)
noncomputable def PL_lasts (this : Nat) (v1 : Int32) (v2 : Int32) (m : Mem) : Option (Int32 × Mem) :=
  (PL_isCrew v1 0 m).bind (fun r2 => if r2 = 0 then some ((-2), m) else if v2 < 0 then some ((-2), m) else if v2 ≤ 9999 then (St_loadOfKinds (this + 278) (this + 28) 1 v1 0 m).bind (fun r36 => if r36.1 = (-1) then some ((-1), r36.2) else (Fl_tells (this + 28) 0 r36.2).bind (fun r55 => (St_loadOf (this + 278) (this + 28) 0 (v1 * 60) (-1) r36.2).bind (fun r77 => loop (fun s : Int32 => PL_lasts_l85 this v1 v2 r36.1 r55 s r77.2) (60)))) else some ((-2), m))
noncomputable def Ca_cracksBetween (this : Nat) (v1 : Int32) (v2 : Int32) (v3 : Int32) (m : Mem) : Option (Int32) :=
  (PL_isHeap v2 m).bind (fun r1 => if r1 = 0 then some 0 else (PL_isGroup v3 m).bind (fun r8 => if r8 = 0 then some 0 else gd (inb v2 8) (gd (inb v2 8) ((Fl_beyond (this + 1) (rI m (this + 25) (ix v2)) (rI m (this + 26) (ix v2)) m).bind (fun r32 => gd (inb v3 4) (gd (inb v3 4) ((Fl_beyond (this + 1) (rI m (this + 36) (ix v3)) (rI m (this + 37) (ix v3)) m).bind (fun r53 => (In_bitCount ((r32 ^^^ r53) &&& v1) m).bind (fun r65 => some r65)))))))))
noncomputable def PL_across (this : Nat) (v1 : Int32) (v2 : Int32) (v3 : Int32) (m : Mem) : Option (Int32) :=
  (Fl_hasSet (this + 28) v1 m).bind (fun r8 => if r8 = 0 then some (-2) else (PL_isHeap v2 m).bind (fun r15 => if r15 = 0 then some (-2) else (PL_isGroup v3 m).bind (fun r22 => if r22 = 0 then some (-2) else (Ca_hasHeap (this + 27) v2 m).bind (fun r36 => if r36 = 0 then some (-1) else (Ca_cracksBetween (this + 27) v1 v2 v3 m).bind (fun r49 => some r49)))))
noncomputable def Ca_minutesOf (this : Nat) (v1 : Int32) (v2 : Int32) (v3 : Int32) (v4 : Int32) (m : Mem) : Option (Int32) :=
  (PL_isHeap v2 m).bind (fun r1 => if r1 = 0 then some 0 else (PL_isGroup v4 m).bind (fun r9 => if r9 = 0 then some 0 else gd (inb v2 8) (gd (inb v4 4) (gd (inb v2 8) (gd (inb v4 4) ((Ta_at (this + 11) v3 2 m).bind (fun r63 => (Ca_cracksBetween this v1 v2 v4 m).bind (fun r82 => some (((r63 * ((jabs ((rI m (this + 25) (ix v2)) - (rI m (this + 36) (ix v4)))) + (jabs ((rI m (this + 26) (ix v2)) - (rI m (this + 37) (ix v4)))))) * (rI m (this + 1) 8)) + (r82 * (rI m (this + 1) 9)))))))))))
noncomputable def PL_minutes (this : Nat) (v1 : Int32) (v2 : Int32) (v3 : Int32) (v4 : Int32) (m : Mem) : Option (Int32) :=
  (Fl_hasSet (this + 28) v1 m).bind (fun r8 => if r8 = 0 then some (-2) else (PL_isHeap v2 m).bind (fun r15 => if r15 = 0 then some (-2) else (PL_isGroup v4 m).bind (fun r23 => if r23 = 0 then some (-2) else (Ta_has (this + 38) v3 m).bind (fun r40 => if r40 = 0 then some (-2) else (Ca_hasHeap (this + 27) v2 m).bind (fun r54 => if r54 = 0 then some (-1) else (Ca_minutesOf (this + 27) v1 v2 v3 v4 m).bind (fun r69 => some r69))))))
noncomputable def Ic_isHeapWith (this : Nat) (v1 : Int32) (v2 : Int32) (v3 : Int32) (m : Mem) : Option (Int32) :=
  (PL_isHeap v2 m).bind (fun r1 => if r1 = 0 then some 0 else (PL_isGroup v3 m).bind (fun r8 => if r8 = 0 then some 0 else gd (inb v2 8) (gd (inb v3 4) ((Ic_isOnePiece v1 (rI m (this + 6) (ix v2)) (rI m (this + 5) (ix v3)) m).bind (fun r27 => if r27 = 0 then some 0 else some 1)))))
noncomputable def St_fetchOf_b147 (this : Nat) (v1 : Nat) (v2 : Nat) (v3 : Int32) (v4 : Int32) (v5 : Int32) (v6 : Int32) (v7 : Int32) (v9 : Int32) (m : Mem) : Option ((Int32 × Mem) ⊕ (Int32 × Mem)) :=
  some (Sum.inl ((v9 + (-1)), m))
noncomputable def St_fetchOf_b141 (this : Nat) (v1 : Nat) (v2 : Nat) (v3 : Int32) (v4 : Int32) (v5 : Int32) (v6 : Int32) (v7 : Int32) (v9 : Int32) (v10 : Int32) (v11 : Int32) (m : Mem) : Option ((Int32 × Mem) ⊕ ((Int32 × Mem) ⊕ (Int32 × Mem))) :=
  some (Sum.inl ((v11 + (-1)), m))
noncomputable def St_fetchOf_b138 (this : Nat) (v1 : Nat) (v2 : Nat) (v3 : Int32) (v4 : Int32) (v5 : Int32) (v6 : Int32) (v7 : Int32) (v9 : Int32) (v10 : Int32) (v11 : Int32) (k1 : Int32) (k2 : Int32) (k3 : Int32) (k4 : Int32) (m : Mem) : Option ((Int32 × Mem) ⊕ ((Int32 × Mem) ⊕ (Int32 × Mem))) :=
  (St_offer this k1 k2 k3 k4 m).bind (fun m138 => St_fetchOf_b141 this v1 v2 v3 v4 v5 v6 v7 v9 v10 v11 m138)
noncomputable def St_fetchOf_b137 (this : Nat) (v1 : Nat) (v2 : Nat) (v3 : Int32) (v4 : Int32) (v5 : Int32) (v6 : Int32) (v7 : Int32) (v9 : Int32) (v10 : Int32) (v11 : Int32) (k1 : Int32) (k2 : Int32) (k3 : Int32) (m : Mem) : Option ((Int32 × Mem) ⊕ ((Int32 × Mem) ⊕ (Int32 × Mem))) :=
  St_fetchOf_b138 this v1 v2 v3 v4 v5 v6 v7 v9 v10 v11 k1 k2 k3 0 m
noncomputable def St_fetchOf_l68 (this : Nat) (v1 : Nat) (v2 : Nat) (v3 : Int32) (v4 : Int32) (v5 : Int32) (v6 : Int32) (v7 : Int32) (v9 : Int32) (v10 : Int32) (v11 : Int32) (m : Mem) : Option ((Int32 × Mem) ⊕ ((Int32 × Mem) ⊕ (Int32 × Mem))) :=
  if v11 < 0 then up (St_fetchOf_b147 this v1 v2 v3 v4 v5 v6 v7 v9 m) else if v10 = 0 then up (St_fetchOf_b147 this v1 v2 v3 v4 v5 v6 v7 v9 m) else (Ta_at (v2 + 11) v11 0 m).bind (fun r83 => if r83 = v5 then (Ca_unitsIn v2 v9 v11 m).bind (fun r97 => (Ta_at (v2 + 11) v11 1 m).bind (fun r105 => (Ca_minutesOf v2 v3 v9 v11 v4 m).bind (fun r116 => if v9 = v6 then if v11 = v7 then St_fetchOf_b138 this v1 v2 v3 v4 v5 v6 v7 v9 v10 v11 r97 r105 r116 1 m else St_fetchOf_b137 this v1 v2 v3 v4 v5 v6 v7 v9 v10 v11 r97 r105 r116 m else St_fetchOf_b137 this v1 v2 v3 v4 v5 v6 v7 v9 v10 v11 r97 r105 r116 m))) else St_fetchOf_b141 this v1 v2 v3 v4 v5 v6 v7 v9 v10 v11 m)
noncomputable def St_fetchOf_b57 (this : Nat) (v1 : Nat) (v2 : Nat) (v3 : Int32) (v4 : Int32) (v5 : Int32) (v6 : Int32) (v7 : Int32) (v9 : Int32) (k0 : Int32) (m : Mem) : Option ((Int32 × Mem) ⊕ (Int32 × Mem)) :=
  loop (fun s : Int32 × Mem => St_fetchOf_l68 this v1 v2 v3 v4 v5 v6 v7 v9 k0 s.1 s.2) (((rI m (v2 + 11) 1) - 1), m)
noncomputable def St_fetchOf_b56 (this : Nat) (v1 : Nat) (v2 : Nat) (v3 : Int32) (v4 : Int32) (v5 : Int32) (v6 : Int32) (v7 : Int32) (v9 : Int32) (m : Mem) : Option ((Int32 × Mem) ⊕ (Int32 × Mem)) :=
  St_fetchOf_b57 this v1 v2 v3 v4 v5 v6 v7 v9 0 m
noncomputable def St_fetchOf_l26 (this : Nat) (v1 : Nat) (v2 : Nat) (v3 : Int32) (v4 : Int32) (v5 : Int32) (v6 : Int32) (v7 : Int32) (v9 : Int32) (m : Mem) : Option ((Int32 × Mem) ⊕ (Int32 × Mem)) :=
  if v9 < 0 then up ((St_costOf this (rI m this 2) m).bind (fun r158 => some (r158, m))) else (Ca_hasHeap v2 v9 m).bind (fun r34 => if r34 = 0 then St_fetchOf_b56 this v1 v2 v3 v4 v5 v6 v7 v9 m else (Ic_isHeapWith v1 v3 v9 v4 m).bind (fun r46 => if r46 = 0 then St_fetchOf_b57 this v1 v2 v3 v4 v5 v6 v7 v9 1 m else St_fetchOf_b56 this v1 v2 v3 v4 v5 v6 v7 v9 m))
noncomputable def St_fetchOf (this : Nat) (v1 : Nat) (v2 : Nat) (v3 : Int32) (v4 : Int32) (v5 : Int32) (v6 : Int32) (v7 : Int32) (m : Mem) : Option (Int32 × Mem) :=
  (Ic_shortOf v1 v3 v4 v5 m).bind (fun r16 => (St_begin this r16 m).bind (fun m19 => loop (fun s : Int32 × Mem => St_fetchOf_l26 this v1 v2 v3 v4 v5 v6 v7 s.1 s.2) (7, m19)))
noncomputable def PL_fetch_l40 (this : Nat) (v1 : Int32) (v2 : Int32) (v3 : Int32) (v4 : Int32) (m : Mem) : Option ((Int32 × Int32 × Mem) ⊕ (Int32 × Mem)) :=
  if 4 ≤ v4 then up (some (v3, m)) else (St_fetchOf (this + 278) (this + 202) (this + 27) v1 v2 v4 (-1) (-1) m).bind (fun r64 => if r64.1 = (-1) then up (some ((-1), r64.2)) else some (Sum.inl ((v3 + r64.1), (v4 + 1), r64.2)))
noncomputable def PL_fetch (this : Nat) (v1 : Int32) (v2 : Int32) (m : Mem) : Option (Int32 × Mem) :=
  (Fl_hasSet (this + 28) v1 m).bind (fun r8 => if r8 = 0 then some ((-2), m) else (PL_isGroup v2 m).bind (fun r15 => if r15 = 0 then some ((-2), m) else (Ic_look (this + 202) (this + 27) m).bind (fun m32 => loop (fun s : Int32 × Int32 × Mem => PL_fetch_l40 this v1 v2 s.1 s.2.1 s.2.2) (0, 0, m32))))
noncomputable def PL_fetched (this : Nat) (v1 : Int32) (v2 : Int32) (v3 : Int32) (v4 : Int32) (m : Mem) : Option (Int32 × Mem) :=
  (Fl_hasSet (this + 28) v1 m).bind (fun r8 => if r8 = 0 then some ((-2), m) else (PL_isGroup v2 m).bind (fun r15 => if r15 = 0 then some ((-2), m) else (PL_isHeap v3 m).bind (fun r22 => if r22 = 0 then some ((-2), m) else (Ta_has (this + 38) v4 m).bind (fun r40 => if r40 = 0 then some ((-2), m) else (Ic_look (this + 202) (this + 27) m).bind (fun m57 => (Ta_at (this + 38) v4 0 m57).bind (fun r73 => (St_fetchOf (this + 278) (this + 202) (this + 27) v1 v2 r73 v3 v4 m57).bind (fun r97 => if r97.1 = (-1) then some ((-1), r97.2) else (St_askedUnits (this + 278) r97.2).bind (fun r116 => some (r116, r97.2)))))))))
noncomputable def PL_thin_l43 (this : Nat) (v1 : Int32) (v2 : Int32) (v3 : Int32) (v4 : Int32) (m : Mem) : Option ((Int32) ⊕ (Int32)) :=
  if v3 < v4 then up (some (-1)) else (Fl_oddsUnder (this + 28) v1 (v3 - v4) m).bind (fun r61 => if v2 < r61 then some (Sum.inl ((v4 + 1))) else up (some v4))
noncomputable def PL_thin (this : Nat) (v1 : Int32) (v2 : Int32) (m : Mem) : Option (Int32) :=
  (Ta_has (this + 29) v1 m).bind (fun r11 => if r11 = 0 then some (-2) else if v2 < 0 then some (-2) else if v2 ≤ 10000 then (Ca_tonsNear (this + 27) v1 m).bind (fun r36 => loop (fun s : Int32 => PL_thin_l43 this v1 v2 r36 s m) (0)) else some (-2))
noncomputable def PL_apart_b71 (this : Nat) (v1 : Int32) (v2 : Int32) (v3 : Int32) (v4 : Int32) (m : Mem) : Option ((Int32 × Int32) ⊕ (Int32)) :=
  some (Sum.inl (v3, (v4 + 1)))
noncomputable def PL_apart_b68 (this : Nat) (v1 : Int32) (v2 : Int32) (v4 : Int32) (v5 : Int32) (m : Mem) : Option ((Int32 × Int32) ⊕ (Int32)) :=
  PL_apart_b71 this v1 v2 v5 v4 m
noncomputable def PL_apart_l23 (this : Nat) (v1 : Int32) (v2 : Int32) (v3 : Int32) (v4 : Int32) (m : Mem) : Option ((Int32 × Int32) ⊕ (Int32)) :=
  if (rI m (this + 29) 1) ≤ v4 then up (some v3) else (Fl_cellsBetween (this + 28) v4 v1 v2 m).bind (fun r52 => if v3 = (-1) then PL_apart_b68 this v1 v2 v4 r52 m else if v3 ≤ r52 then PL_apart_b71 this v1 v2 v3 v4 m else PL_apart_b68 this v1 v2 v4 r52 m)
noncomputable def PL_apart (this : Nat) (v1 : Int32) (v2 : Int32) (m : Mem) : Option (Int32) :=
  (Fl_hasCell (this + 28) v1 v2 m).bind (fun r9 => if r9 = 0 then some (-2) else loop (fun s : Int32 × Int32 => PL_apart_l23 this v1 v2 s.1 s.2 m) ((-1), 0))
noncomputable def Dr_begin_b25 (this : Nat) (v1 : Int32) (v2 : Int32) (k1 : Int32) (k2 : Int64) (m : Mem) : Option ((Int32 × Mem) ⊕ (Mem)) :=
  gd (inb k1 100) (lt (wL m (this + 1) (ix k1) k2) (fun m25 => some (Sum.inl ((v2 + 1), m25))))
noncomputable def Dr_begin_l2 (this : Nat) (v1 : Int32) (v2 : Int32) (m : Mem) : Option ((Int32 × Mem) ⊕ (Mem)) :=
  if 99 < v2 then up (some m) else if v2 = v1 then Dr_begin_b25 this v1 v2 v2 1000000000000 m else Dr_begin_b25 this v1 v2 v2 0 m
noncomputable def Dr_begin (this : Nat) (v1 : Int32) (m : Mem) : Option (Mem) :=
  loop (fun s : Int32 × Mem => Dr_begin_l2 this v1 s.1 s.2) (0, m)
noncomputable def Dr_passDay_l104 (this : Nat) (v2 : Int32) (m : Mem) : Option ((Int32 × Mem) ⊕ (Mem)) :=
  if 99 < v2 then up (some m) else gd (inb v2 100) (gd (inb v2 100) (lt (wL m (this + 1) (ix v2) (rL m (this + 2) (ix v2))) (fun m121 => some (Sum.inl ((v2 + 1), m121)))))
noncomputable def Dr_passDay_l36 (this : Nat) (v1 : Int32) (v2 : Int32) (m : Mem) : Option ((Int32 × Mem) ⊕ (Mem)) :=
  if 99 < v2 then up (loop (fun s : Int32 × Mem => Dr_passDay_l104 this s.1 s.2) (0, m)) else gd (inb v2 100) (gd (inb (jmax 0 (v2 - 2)) 100) (gd (inb (jmax 0 (v2 - 2)) 100) (lt (wL m (this + 2) (ix (jmax 0 (v2 - 2))) ((rL m (this + 2) (ix (jmax 0 (v2 - 2)))) + (((rL m (this + 1) (ix v2)) * (v1.toInt64)) / 100))) (fun m71 => gd (inb (jmin 99 (v2 + 1)) 100) (gd (inb v2 100) (gd (inb (jmin 99 (v2 + 1)) 100) (lt (wL m71 (this + 2) (ix (jmin 99 (v2 + 1))) ((rL m71 (this + 2) (ix (jmin 99 (v2 + 1)))) + ((rL m71 (this + 1) (ix v2)) - (((rL m (this + 1) (ix v2)) * (v1.toInt64)) / 100)))) (fun m95 => some (Sum.inl ((v2 + 1), m95))))))))))
noncomputable def Dr_passDay_b27 (this : Nat) (v1 : Int32) (v2 : Int32) (k1 : Int32) (k2 : Int64) (m : Mem) : Option ((Int32 × Mem) ⊕ (Mem)) :=
  gd (inb k1 100) (lt (wL m (this + 2) (ix k1) k2) (fun m27 => some (Sum.inl ((v2 + 1), m27))))
noncomputable def Dr_passDay_l2 (this : Nat) (v1 : Int32) (v2 : Int32) (m : Mem) : Option ((Int32 × Mem) ⊕ (Mem)) :=
  if 99 < v2 then up (loop (fun s : Int32 × Mem => Dr_passDay_l36 this v1 s.1 s.2) (1, m)) else if v2 = 0 then gd (inb 0 100) (Dr_passDay_b27 this v1 v2 v2 (rL m (this + 1) (ix 0)) m) else Dr_passDay_b27 this v1 v2 v2 0 m
noncomputable def Dr_passDay (this : Nat) (v1 : Int32) (m : Mem) : Option (Mem) :=
  loop (fun s : Int32 × Mem => Dr_passDay_l2 this v1 s.1 s.2) (0, m)
noncomputable def Dr_partsAt (this : Nat) (v1 : Int32) (m : Mem) : Option (Int64) :=
  if v1 < 0 then some 0 else if 99 < v1 then some 0 else gd (inb v1 100) (some (rL m (this + 1) (ix v1)))
noncomputable def PL_miles_l56 (this : Nat) (v1 : Int32) (v2 : Int32) (v3 : Int32) (m : Mem) : Option ((Int32 × Mem) ⊕ (Int64 × Mem)) :=
  if v1 ≤ v3 then up ((Dr_partsAt (this + 294) v2 m).bind (fun r89 => some (r89, m))) else (Dr_passDay (this + 294) (rI m (this + 28) 11) m).bind (fun m75 => some (Sum.inl ((v3 + 1), m75)))
noncomputable def PL_miles (this : Nat) (v1 : Int32) (v2 : Int32) (m : Mem) : Option (Int64 × Mem) :=
  (Fl_isThere (this + 28) m).bind (fun r7 => if r7 = 0 then some ((-2), m) else if v1 < 0 then some ((-2), m) else if 60 < v1 then some ((-2), m) else if v2 < 0 then some ((-2), m) else if v2 ≤ 99 then (Dr_begin (this + 294) (rI m (this + 28) 12) m).bind (fun m51 => loop (fun s : Int32 × Mem => PL_miles_l56 this v1 v2 s.1 s.2) (0, m51)) else some ((-2), m))
noncomputable def Dr_partsWithin_l5 (this : Nat) (v1 : Int32) (v2 : Int64) (v4 : Int32) (m : Mem) : Option ((Int64 × Int32) ⊕ (Int64)) :=
  if v1 < v4 then up (some v2) else if 99 < v4 then up (some v2) else gd (inb v4 100) (some (Sum.inl ((v2 + (rL m (this + 1) (ix v4))), (v4 + 1))))
noncomputable def Dr_partsWithin (this : Nat) (v1 : Int32) (m : Mem) : Option (Int64) :=
  loop (fun s : Int64 × Int32 => Dr_partsWithin_l5 this v1 s.1 s.2 m) (0, 0)
noncomputable def PL_boats_l56 (this : Nat) (v1 : Int32) (v2 : Int32) (v3 : Int32) (m : Mem) : Option ((Int32 × Mem) ⊕ (Int32 × Mem)) :=
  if 60 < v3 then up (some ((-1), m)) else (Dr_partsWithin (this + 294) v1 m).bind (fun r67 => if r67 < ((v2.toInt64) * 1000000000) then (Dr_passDay (this + 294) (rI m (this + 28) 11) m).bind (fun m96 => some (Sum.inl ((v3 + 1), m96))) else up (some (v3, m)))
noncomputable def PL_boats (this : Nat) (v1 : Int32) (v2 : Int32) (m : Mem) : Option (Int32 × Mem) :=
  (Fl_isThere (this + 28) m).bind (fun r7 => if r7 = 0 then some ((-2), m) else if v1 < 0 then some ((-2), m) else if 99 < v1 then some ((-2), m) else (PL_isThousandths v2 m).bind (fun r24 => if r24 = 0 then some ((-2), m) else if v2 = 0 then some ((-2), m) else (Dr_begin (this + 294) (rI m (this + 28) 12) m).bind (fun m51 => loop (fun s : Int32 × Mem => PL_boats_l56 this v1 v2 s.1 s.2) (0, m51))))
noncomputable def PL_saw (this : Nat) (v1 : Int32) (m : Mem) : Option (Int32 × Mem) :=
  (Ta_has (this + 29) v1 m).bind (fun r11 => if r11 = 0 then some ((-2), m) else gd (inb v1 7) (if (rI m (this + 66) (ix v1)) < 99 then gd (inb v1 7) (gd (inb v1 7) (lt (wI m (this + 66) (ix v1) ((rI m (this + 66) (ix v1)) + 1)) (fun m49 => gd (inb v1 7) (some ((rI m49 (this + 66) (ix v1)), m49))))) else some ((-3), m)))
noncomputable def PL_pass (this : Nat) (v1 : Int32) (m : Mem) : Option (Int32 × Mem) :=
  (Fl_isThere (this + 28) m).bind (fun r7 => if r7 = 0 then some ((-2), m) else if v1 < 0 then some ((-2), m) else if 99 < v1 then some ((-2), m) else if ((rI m (this + 27) 9) + v1) ≤ 9999 then lt (wI m (this + 27) 9 ((rI m (this + 27) 9) + v1)) (fun m51 => some ((rI m51 (this + 27) 9), m51)) else some ((-2), m))
noncomputable def PL_seam (this : Nat) (v1 : Int32) (m : Mem) : Option (Int32) :=
  (Ta_has (this + 29) v1 m).bind (fun r11 => if r11 = 0 then some (-2) else (Ca_oddsOf (this + 27) v1 m).bind (fun r39 => gd (inb v1 7) (gd (¬ (100 + (jmax 0 (rI m (this + 27) 9))) = 0) (some (((100 * r39) + (10000 * (rI m (this + 66) (ix v1)))) / (100 + (jmax 0 (rI m (this + 27) 9))))))))
noncomputable def PL_isSpring (v0 : Int32) (v1 : Int32) (m : Mem) : Option (Int32) :=
  if v0 < 0 then some 0 else if 2000000000 < v0 then some 0 else if v1 < 0 then some 0 else if 99 < v1 then some 0 else some 1
noncomputable def Ic_drawSpring_b160 (this : Nat) (v3 : Int32) (v4 : Int64) (v6 : Int32) (v7 : Int32) (m : Mem) : Option ((Int64 × Int32 × Int32 × Mem) ⊕ (Int32 × Mem)) :=
  some (Sum.inl (v4, v6, (v7 + 1), m))
noncomputable def Ic_drawSpring_b140 (this : Nat) (v3 : Int32) (v4 : Int64) (v6 : Int32) (v7 : Int32) (m : Mem) : Option ((Int64 × Int32 × Int32 × Mem) ⊕ (Int32 × Mem)) :=
  if v6 = 0 then (Ic_isEnough this (rI m this 1) m).bind (fun r150 => if r150.1 = 0 then Ic_drawSpring_b160 this v3 v4 v7 v7 r150.2 else Ic_drawSpring_b160 this v3 v4 v6 v7 r150.2) else Ic_drawSpring_b160 this v3 v4 v6 v7 m
noncomputable def Ic_drawSpring_b134 (this : Nat) (v3 : Int32) (v4 : Int64) (v6 : Int32) (v7 : Int32) (v8 : Int32) (m : Mem) : Option ((Int64 × Int32 × Mem) ⊕ ((Int64 × Int32 × Int32 × Mem) ⊕ (Int32 × Mem))) :=
  some (Sum.inl (v4, (v8 + 1), m))
noncomputable def Ic_drawSpring_b116 (this : Nat) (v3 : Int32) (v4 : Int64) (v6 : Int32) (v7 : Int32) (v8 : Int32) (k0 : Int64) (k1 : Int32) (m : Mem) : Option ((Int64 × Int32 × Mem) ⊕ ((Int64 × Int32 × Int32 × Mem) ⊕ (Int32 × Mem))) :=
  if (k1.toInt64) ≤ k0 then Ic_drawSpring_b134 this v3 v4 v6 v7 v8 m else lt (wI m this 1 ((rI m this 1) ^^^ ((1 : Int32) <<< (v8 &&& 31)))) (fun m131 => Ic_drawSpring_b134 this v3 v4 v6 v7 v8 m131)
noncomputable def Ic_drawSpring_b90 (this : Nat) (v3 : Int32) (v4 : Int64) (v6 : Int32) (v7 : Int32) (v8 : Int32) (v9 : Int64) (k0 : Int32) (m : Mem) : Option ((Int64 × Int32 × Mem) ⊕ ((Int64 × Int32 × Int32 × Mem) ⊕ (Int32 × Mem))) :=
  if k0 = 0 then gd (inb v8 7) (Ic_drawSpring_b116 this v3 v4 v6 v7 v8 v9 (rI m (this + 3) (ix v8)) m) else Ic_drawSpring_b116 this v3 v4 v6 v7 v8 v9 (100 * (rI m this 3)) m
noncomputable def Ic_drawSpring_l26 (this : Nat) (v3 : Int32) (v6 : Int32) (v7 : Int32) (v4 : Int64) (v8 : Int32) (m : Mem) : Option ((Int64 × Int32 × Mem) ⊕ ((Int64 × Int32 × Int32 × Mem) ⊕ (Int32 × Mem))) :=
  if 7 ≤ v8 then up (Ic_drawSpring_b140 this v3 v4 v6 v7 m) else if (rI m this 0) ≤ ((1 : Int32) <<< (v8 &&& 31)) then up (Ic_drawSpring_b140 this v3 v4 v6 v7 m) else if (((rI m this 1) >>> (v8 &&& 31)) &&& 1) = 1 then Ic_drawSpring_b90 this v3 (((1103515245 * v4) + 12345) &&& 2147483647) v6 v7 v8 (((((1103515245 * v4) + 12345) &&& 2147483647) / 65536) - ((((1103515245 * v4) + 12345) &&& 2147483647) / 65536) / 10000 * 10000) 1 m else Ic_drawSpring_b90 this v3 (((1103515245 * v4) + 12345) &&& 2147483647) v6 v7 v8 (((((1103515245 * v4) + 12345) &&& 2147483647) / 65536) - ((((1103515245 * v4) + 12345) &&& 2147483647) / 65536) / 10000 * 10000) 0 m
noncomputable def Ic_drawSpring_l17 (this : Nat) (v3 : Int32) (v4 : Int64) (v6 : Int32) (v7 : Int32) (m : Mem) : Option ((Int64 × Int32 × Int32 × Mem) ⊕ (Int32 × Mem)) :=
  if v3 < v7 then up (some (v6, m)) else loop (fun s : Int64 × Int32 × Mem => Ic_drawSpring_l26 this v3 v6 v7 s.1 s.2.1 s.2.2) (v4, 0, m)
noncomputable def Ic_drawSpring (this : Nat) (v1 : Int64) (v3 : Int32) (m : Mem) : Option (Int32 × Mem) :=
  lt (wI m this 1 (rI m this 2)) (fun m11 => loop (fun s : Int64 × Int32 × Int32 × Mem => Ic_drawSpring_l17 this v3 s.1 s.2.1 s.2.2.1 s.2.2.2) (v1, 0, 1, m11))
noncomputable def PL_run (this : Nat) (v1 : Int32) (v2 : Int32) (m : Mem) : Option (Int32 × Mem) :=
  (Fl_isThere (this + 28) m).bind (fun r7 => if r7 = 0 then some ((-2), m) else (PL_isSpring v1 v2 m).bind (fun r15 => if r15 = 0 then some ((-2), m) else (Ic_look (this + 202) (this + 27) m).bind (fun m32 => (Ic_drawSpring (this + 202) (v1.toInt64) v2 m32).bind (fun r43 => lt (wI r43.2 this 10 r43.1) (fun m46 => lt (wI m46 (this + 27) 7 (rI m46 (this + 202) 1)) (fun m60 => some ((rI m60 (this + 27) 7), m60)))))))
noncomputable def PL_struck (this : Nat) (m : Mem) : Option (Int32) :=
  some (rI m this 10)
noncomputable def PL_springs_b78 (this : Nat) (v1 : Int32) (v2 : Int32) (v3 : Int32) (v4 : Int32) (v5 : Int32) (m : Mem) : Option ((Int32 × Int32 × Mem) ⊕ (Int32 × Mem)) :=
  some (Sum.inl (v4, (v5 + 1), m))
noncomputable def PL_springs_l52 (this : Nat) (v1 : Int32) (v2 : Int32) (v3 : Int32) (v4 : Int32) (v5 : Int32) (m : Mem) : Option ((Int32 × Int32 × Mem) ⊕ (Int32 × Mem)) :=
  if v2 ≤ v5 then up (some (v4, m)) else (Ic_drawSpring (this + 202) ((v1.toInt64) + (v5.toInt64)) v3 m).bind (fun r69 => if r69.1 = 0 then PL_springs_b78 this v1 v2 v3 v4 v5 r69.2 else PL_springs_b78 this v1 v2 v3 (v4 + 1) v5 r69.2)
noncomputable def PL_springs (this : Nat) (v1 : Int32) (v2 : Int32) (v3 : Int32) (m : Mem) : Option (Int32 × Mem) :=
  (Fl_isThere (this + 28) m).bind (fun r7 => if r7 = 0 then some ((-2), m) else (PL_isSpring v1 v3 m).bind (fun r15 => if r15 = 0 then some ((-2), m) else if v2 < 1 then some ((-2), m) else if v2 ≤ 60 then (Ic_look (this + 202) (this + 27) m).bind (fun m43 => loop (fun s : Int32 × Int32 × Mem => PL_springs_l52 this v1 v2 v3 s.1 s.2.1 s.2.2) (0, 0, m43)) else some ((-2), m)))
noncomputable def PL_rowsThere_b29 (this : Nat) (v1 : Int32) (v2 : Int32) (m : Mem) : Option ((Int32 × Int32) ⊕ (Int32)) :=
  some (Sum.inl (v1, (v2 + 1)))
noncomputable def PL_rowsThere_l4 (this : Nat) (v1 : Int32) (v2 : Int32) (m : Mem) : Option ((Int32 × Int32) ⊕ (Int32)) :=
  if 4 ≤ v2 then up (some v1) else (PL_slotAt this v2 m).bind (fun r11 => if r11 = 0 then PL_rowsThere_b29 this v1 v2 m else gd (kd r11 = 7) (if (rI m r11 1) = 0 then PL_rowsThere_b29 this v1 v2 m else PL_rowsThere_b29 this (v1 + 1) v2 m))
noncomputable def PL_rowsThere (this : Nat) (m : Mem) : Option (Int32) :=
  loop (fun s : Int32 × Int32 => PL_rowsThere_l4 this s.1 s.2 m) (0, 0)
noncomputable def PL_count (this : Nat) (v1 : Int32) (m : Mem) : Option (Int32) :=
  if v1 = 0 then some (rI m (this + 28) 0) else if v1 = 1 then some (rI m (this + 28) 1) else if v1 = 2 then some (rI m (this + 28) 2) else if v1 = 3 then some (rI m (this + 28) 3) else if v1 = 4 then some (rI m (this + 29) 1) else if v1 = 5 then some (rI m (this + 38) 1) else if v1 = 6 then some (rI m (this + 46) 1) else if v1 = 7 then (Ca_heapsThere (this + 27) m).bind (fun r162 => some r162) else if v1 = 8 then some (rI m (this + 27) 7) else if v1 = 9 then some (rI m (this + 28) 4) else if v1 = 10 then some (rI m (this + 1) 1) else if v1 = 11 then some (rI m (this + 27) 9) else if v1 = 12 then (Ca_sleepers (this + 27) m).bind (fun r205 => some r205) else if v1 = 13 then (PL_rowsThere this m).bind (fun r210 => some r210) else some (-1)
noncomputable def PL_imageAt (this : Nat) (v1 : Int32) (m : Mem) : Option (Nat) :=
  if v1 < 0 then some 0 else if 3 ≤ v1 then some 0 else gd (inb v1 3) (some ((this + 68) + (1 + 41 * ix v1)))
noncomputable def PL_keep (this : Nat) (v1 : Int32) (m : Mem) : Option (Int32 × Mem) :=
  (PL_imageAt this v1 m).bind (fun r2 => if r2 = 0 then some ((-2), m) else gd (kd r2 = 1) ((Ca_copyFrom r2 (this + 27) m).bind (fun m18 => gd (inb v1 3) (lt (wI m18 (this + 192) (ix v1) (vp_nar .boolean 1)) (fun m27 => some (0, m27))))))
noncomputable def PL_back (this : Nat) (v1 : Int32) (m : Mem) : Option (Int32 × Mem) :=
  (PL_imageAt this v1 m).bind (fun r2 => if r2 = 0 then some ((-2), m) else gd (kd r2 = 1) (gd (inb v1 3) (if (rI m (this + 192) (ix v1)) = 0 then some ((-6), m) else (Ca_copyFrom (this + 27) r2 m).bind (fun m30 => some (0, m30)))))
noncomputable def Ro_begin_l26 (this : Nat) (v3 : Int32) (m : Mem) : Option ((Int32 × Mem) ⊕ (Mem)) :=
  if 60 ≤ v3 then up (some m) else gd (inb v3 60) (lt (wL m (this + 1) (ix v3) 0) (fun m38 => some (Sum.inl ((v3 + 1), m38))))
noncomputable def Ro_begin (this : Nat) (v1 : Int32) (v2 : Int32) (m : Mem) : Option (Mem) :=
  lt (wI m this 1 1) (fun m2 => lt (wI m2 this 2 v1) (fun m7 => lt (wI m7 this 3 (jmax 0 (jmin v2 60))) (fun m21 => loop (fun s : Int32 × Mem => Ro_begin_l26 this s.1 s.2) (0, m21))))
noncomputable def PL_row (this : Nat) (v1 : Int32) (v2 : Int32) (v3 : Int32) (m : Mem) : Option (Int32 × Mem) :=
  (PL_slotAt this v1 m).bind (fun r2 => if r2 = 0 then some ((-2), m) else gd (kd r2 = 7) (if v2 < 0 then some ((-2), m) else if 4 ≤ v2 then some ((-2), m) else if v3 ≤ 60 then if 0 ≤ v3 then (Ro_begin r2 v2 v3 m).bind (fun m41 => some (0, m41)) else some ((-3), m) else some ((-2), m)))
noncomputable def Ro_cut (this : Nat) (v1 : Int64) (m : Mem) : Option (Int64) :=
  if (rI m this 2) = 0 then some (((v1.toInt32).toInt8.toInt32).toInt64) else if (rI m this 2) = 1 then some (((v1.toInt32).toInt16.toInt32).toInt64) else if (rI m this 2) = 2 then some ((v1.toInt32).toInt64) else some v1
noncomputable def Ro_putNumber (this : Nat) (v1 : Int32) (v2 : Int64) (m : Mem) : Option (Mem) :=
  (Ro_hasNumbers this v1 1 m).bind (fun r3 => if r3 = 0 then some m else (Ro_cut this v2 m).bind (fun r16 => gd (inb v1 60) (lt (wL m (this + 1) (ix v1) r16) (fun m19 => some m19))))
noncomputable def PL_write (this : Nat) (v1 : Int32) (v2 : Int32) (v3 : Int64) (m : Mem) : Option (Int32 × Mem) :=
  (PL_slotAt this v1 m).bind (fun r2 => if r2 = 0 then some ((-2), m) else gd (kd r2 = 7) (if (rI m r2 1) = 0 then some ((-6), m) else (Ro_hasNumbers r2 v2 1 m).bind (fun r30 => if r30 = 0 then some ((-7), m) else (Ro_putNumber r2 v2 v3 m).bind (fun m43 => some (0, m43)))))
noncomputable def PL_paste (this : Nat) (v1 : Int32) (v2 : Int32) (v3 : Int32) (v4 : Int32) (v5 : Int32) (m : Mem) : Option (Int32 × Mem) :=
  (PL_slotAt this v1 m).bind (fun r2 => (PL_slotAt this v3 m).bind (fun r9 => if r2 = 0 then some ((-2), m) else gd (kd r2 = 7) (if r9 = 0 then some ((-2), m) else gd (kd r9 = 7) (if (rI m r2 1) = 0 then some ((-6), m) else if (rI m r9 1) = 0 then some ((-6), m) else if (rI m r2 2) = (rI m r9 2) then (Ro_hasNumbers r2 v2 v5 m).bind (fun r67 => if r67 = 0 then some ((-7), m) else (Ro_hasNumbers r9 v4 v5 m).bind (fun r79 => if r79 = 0 then some ((-7), m) else gd (¬ v2 < 0 ∧ ¬ v4 < 0 ∧ ¬ v5 < 0 ∧ ix v2 + ix v5 ≤ 60 ∧ ix v4 + ix v5 ≤ 60) (lt (cpL m (r2 + 1) (ix v2) (r9 + 1) (ix v4) (ix v5)) (fun m103 => some (0, m103))))) else some ((-8), m)))))
