noncomputable def In_bitCount (v0 : Int32) (m : Mem) : Option (Int32) :=
  some ((((((((v0 - (((v0.toUInt32 >>> ((1 : Int32).toUInt32 &&& Int32.toUInt32 31)).toInt32) &&& 1431655765)) &&& 858993459) + ((((v0 - (((v0.toUInt32 >>> ((1 : Int32).toUInt32 &&& Int32.toUInt32 31)).toInt32) &&& 1431655765)).toUInt32 >>> ((2 : Int32).toUInt32 &&& Int32.toUInt32 31)).toInt32) &&& 858993459)) + (((((v0 - (((v0.toUInt32 >>> ((1 : Int32).toUInt32 &&& Int32.toUInt32 31)).toInt32) &&& 1431655765)) &&& 858993459) + ((((v0 - (((v0.toUInt32 >>> ((1 : Int32).toUInt32 &&& Int32.toUInt32 31)).toInt32) &&& 1431655765)).toUInt32 >>> ((2 : Int32).toUInt32 &&& Int32.toUInt32 31)).toInt32) &&& 858993459)).toUInt32 >>> ((4 : Int32).toUInt32 &&& Int32.toUInt32 31)).toInt32)) &&& 252645135) + (((((((v0 - (((v0.toUInt32 >>> ((1 : Int32).toUInt32 &&& Int32.toUInt32 31)).toInt32) &&& 1431655765)) &&& 858993459) + ((((v0 - (((v0.toUInt32 >>> ((1 : Int32).toUInt32 &&& Int32.toUInt32 31)).toInt32) &&& 1431655765)).toUInt32 >>> ((2 : Int32).toUInt32 &&& Int32.toUInt32 31)).toInt32) &&& 858993459)) + (((((v0 - (((v0.toUInt32 >>> ((1 : Int32).toUInt32 &&& Int32.toUInt32 31)).toInt32) &&& 1431655765)) &&& 858993459) + ((((v0 - (((v0.toUInt32 >>> ((1 : Int32).toUInt32 &&& Int32.toUInt32 31)).toInt32) &&& 1431655765)).toUInt32 >>> ((2 : Int32).toUInt32 &&& Int32.toUInt32 31)).toInt32) &&& 858993459)).toUInt32 >>> ((4 : Int32).toUInt32 &&& Int32.toUInt32 31)).toInt32)) &&& 252645135).toUInt32 >>> ((8 : Int32).toUInt32 &&& Int32.toUInt32 31)).toInt32)) + ((((((((v0 - (((v0.toUInt32 >>> ((1 : Int32).toUInt32 &&& Int32.toUInt32 31)).toInt32) &&& 1431655765)) &&& 858993459) + ((((v0 - (((v0.toUInt32 >>> ((1 : Int32).toUInt32 &&& Int32.toUInt32 31)).toInt32) &&& 1431655765)).toUInt32 >>> ((2 : Int32).toUInt32 &&& Int32.toUInt32 31)).toInt32) &&& 858993459)) + (((((v0 - (((v0.toUInt32 >>> ((1 : Int32).toUInt32 &&& Int32.toUInt32 31)).toInt32) &&& 1431655765)) &&& 858993459) + ((((v0 - (((v0.toUInt32 >>> ((1 : Int32).toUInt32 &&& Int32.toUInt32 31)).toInt32) &&& 1431655765)).toUInt32 >>> ((2 : Int32).toUInt32 &&& Int32.toUInt32 31)).toInt32) &&& 858993459)).toUInt32 >>> ((4 : Int32).toUInt32 &&& Int32.toUInt32 31)).toInt32)) &&& 252645135) + (((((((v0 - (((v0.toUInt32 >>> ((1 : Int32).toUInt32 &&& Int32.toUInt32 31)).toInt32) &&& 1431655765)) &&& 858993459) + ((((v0 - (((v0.toUInt32 >>> ((1 : Int32).toUInt32 &&& Int32.toUInt32 31)).toInt32) &&& 1431655765)).toUInt32 >>> ((2 : Int32).toUInt32 &&& Int32.toUInt32 31)).toInt32) &&& 858993459)) + (((((v0 - (((v0.toUInt32 >>> ((1 : Int32).toUInt32 &&& Int32.toUInt32 31)).toInt32) &&& 1431655765)) &&& 858993459) + ((((v0 - (((v0.toUInt32 >>> ((1 : Int32).toUInt32 &&& Int32.toUInt32 31)).toInt32) &&& 1431655765)).toUInt32 >>> ((2 : Int32).toUInt32 &&& Int32.toUInt32 31)).toInt32) &&& 858993459)).toUInt32 >>> ((4 : Int32).toUInt32 &&& Int32.toUInt32 31)).toInt32)) &&& 252645135).toUInt32 >>> ((8 : Int32).toUInt32 &&& Int32.toUInt32 31)).toInt32)).toUInt32 >>> ((16 : Int32).toUInt32 &&& Int32.toUInt32 31)).toInt32)) &&& 63)
noncomputable def Mo_in (v0 : Int64) (v2 : Int64) (v4 : Int64) (m : Mem) : Option (Int32) :=
  if v0 < v2 then some 0 else if v4 < v0 then some 0 else some 1
noncomputable def Mo_holds (v0 : Int32) (v1 : Int32) (m : Mem) : Option (Int32) :=
  if ((v0 >>> (v1 &&& 31)) &&& 1) = 1 then some 1 else some 0
noncomputable def Mo_empties_l2 (v0 : Nat) (v1 : Int32) (m : Mem) : Option ((Int32 × Mem) ⊕ (Mem)) :=
  if 200 ≤ v1 then up (gd (inb 11 (al v0)) (lt (wI m v0 (ix 11) 1) (fun m23 => gd (inb 12 (al v0)) (lt (wI m23 v0 (ix 12) 5) (fun m28 => gd (inb 13 (al v0)) (lt (wI m28 v0 (ix 13) 50) (fun m34 => gd (inb 14 (al v0)) (lt (wI m34 v0 (ix 14) 50) (fun m40 => gd (inb 15 (al v0)) (lt (wI m40 v0 (ix 15) 20) (fun m46 => some m46))))))))))) else gd (inb v1 (al v0)) (lt (wI m v0 (ix v1) 0) (fun m12 => some (Sum.inl ((v1 + 1), m12))))
noncomputable def Mo_empties (v0 : Nat) (m : Mem) : Option (Mem) :=
  loop (fun s : Int32 × Mem => Mo_empties_l2 v0 s.1 s.2) (0, m)
noncomputable def Mo_keep_l17 (this : Nat) (v1 : Int32) (v2 : Int32) (m : Mem) : Option ((Int32 × Mem) ⊕ (Int32 × Mem)) :=
  if 200 ≤ v2 then up (gd (inb v1 3) (lt (wI m (this + 3) (ix v1) (vp_nar .boolean 1)) (fun m54 => some (0, m54)))) else gd (inb v2 200) (gd (inb ((200 * v1) + v2) 600) (lt (wI m (this + 2) (ix ((200 * v1) + v2)) (rI m (this + 1) (ix v2))) (fun m41 => some (Sum.inl ((v2 + 1), m41)))))
noncomputable def Mo_keep (this : Nat) (v1 : Int32) (m : Mem) : Option (Int32 × Mem) :=
  (Mo_in (v1.toInt64) 0 2 m).bind (fun r6 => if r6 = 0 then some ((-2), m) else loop (fun s : Int32 × Mem => Mo_keep_l17 this v1 s.1 s.2) (0, m))
noncomputable def Mo_back_l29 (this : Nat) (v1 : Int32) (v2 : Int32) (m : Mem) : Option ((Int32 × Mem) ⊕ (Int32 × Mem)) :=
  if 200 ≤ v2 then up (some (0, m)) else gd (inb ((200 * v1) + v2) 600) (gd (inb v2 200) (lt (wI m (this + 1) (ix v2) (rI m (this + 2) (ix ((200 * v1) + v2)))) (fun m53 => some (Sum.inl ((v2 + 1), m53)))))
noncomputable def Mo_back (this : Nat) (v1 : Int32) (m : Mem) : Option (Int32 × Mem) :=
  (Mo_in (v1.toInt64) 0 2 m).bind (fun r6 => if r6 = 0 then some ((-2), m) else gd (inb v1 3) (if (rI m (this + 3) (ix v1)) = 0 then some ((-6), m) else loop (fun s : Int32 × Mem => Mo_back_l29 this v1 s.1 s.2) (0, m)))
noncomputable def Mo_isFloe (this : Nat) (m : Mem) : Option (Int32) :=
  gd (inb 1 200) (if (rI m (this + 1) (ix 1)) ≤ 0 then some 0 else some 1)
noncomputable def Mo_ofCrack (this : Nat) (v1 : Int32) (v2 : Int32) (m : Mem) : Option (Int32) :=
  gd (inb ((24 + (8 * v1)) + v2) 200) (some (rI m (this + 1) (ix ((24 + (8 * v1)) + v2))))
noncomputable def Mo_ofSort (this : Nat) (v1 : Int32) (v2 : Int32) (m : Mem) : Option (Int32) :=
  gd (inb ((80 + (4 * v1)) + v2) 200) (some (rI m (this + 1) (ix ((80 + (4 * v1)) + v2))))
noncomputable def Mo_ofHeap (this : Nat) (v1 : Int32) (v2 : Int32) (m : Mem) : Option (Int32) :=
  gd (inb ((116 + (9 * v1)) + v2) 200) (some (rI m (this + 1) (ix ((116 + (9 * v1)) + v2))))
noncomputable def Mo_ofGroup (this : Nat) (v1 : Int32) (v2 : Int32) (m : Mem) : Option (Int32) :=
  gd (inb ((188 + (3 * v1)) + v2) 200) (some (rI m (this + 1) (ix ((188 + (3 * v1)) + v2))))
noncomputable def Mo_isThere (this : Nat) (v1 : Int32) (m : Mem) : Option (Int32) :=
  (Mo_ofHeap this v1 0 m).bind (fun r3 => if r3 = 1 then some 1 else some 0)
noncomputable def Mo_feed_l55 (this : Nat) (v6 : Int32) (m : Mem) : Option ((Int32 × Mem) ⊕ (Int32 × Mem)) :=
  if 20 ≤ v6 then up (lt (wI m this 5 ((rI m this 5) + 20)) (fun m109 => some ((rI m109 this 5), m109))) else gd (inb (v6 / 4) 5) (gd (inb ((rI m this 5) + v6) 1600) (lt (wI m (this + 4) (ix ((rI m this 5) + v6)) (vp_nar .byte (((rI m (this + 5) (ix (v6 / 4))) >>> ((24 - (8 * (v6 - v6 / 4 * 4))) &&& 31)).toInt8.toInt32))) (fun m94 => some (Sum.inl ((v6 + 1), m94)))))
noncomputable def Mo_feed (this : Nat) (v1 : Int32) (v2 : Int32) (v3 : Int32) (v4 : Int32) (v5 : Int32) (m : Mem) : Option (Int32 × Mem) :=
  if ((rI m this 5) + 20) ≤ 1600 then gd (inb 0 5) (lt (wI m (this + 5) (ix 0) v1) (fun m21 => gd (inb 1 5) (lt (wI m21 (this + 5) (ix 1) v2) (fun m28 => gd (inb 2 5) (lt (wI m28 (this + 5) (ix 2) v3) (fun m35 => gd (inb 3 5) (lt (wI m35 (this + 5) (ix 3) v4) (fun m43 => gd (inb 4 5) (lt (wI m43 (this + 5) (ix 4) v5) (fun m51 => loop (fun s : Int32 × Mem => Mo_feed_l55 this s.1 s.2) (0, m51))))))))))) else some ((-1), m)
noncomputable def Mo_end (this : Nat) (v1 : Int32) (m : Mem) : Option (Int32 × Mem) :=
  (Mo_in (v1.toInt64) 0 ((rI m this 5).toInt64) m).bind (fun r8 => if r8 = 0 then some ((-1), m) else lt (wI m this 5 v1) (fun m18 => some (v1, m18)))
noncomputable def Mo_see (this : Nat) (v1 : Int32) (m : Mem) : Option (Int32) :=
  if (rI m this 7) ≤ v1 then some (-1) else gd (inb v1 1600) (some ((rI m (this + 4) (ix v1)) &&& 255))
noncomputable def Mo_advance_b26 (this : Nat) (m : Mem) : Option ((Mem) ⊕ (Mem)) :=
  lt (wI m this 8 ((rI m this 8) + 1)) (fun m33 => some (Sum.inl (m33)))
noncomputable def Mo_advance_b226 (this : Nat) (k1 : Int32) (m : Mem) : Option (Mem) :=
  lt (wI m this 10 k1) (fun m226 => lt (wI m226 this 8 ((rI m226 this 8) + 1)) (fun m236 => some m236))
noncomputable def Mo_advance_l144 (this : Nat) (m : Mem) : Option ((Mem) ⊕ (Mem)) :=
  (Mo_see this (rI m this 8) m).bind (fun r149 => (Mo_in (r149.toInt64) 48 57 m).bind (fun r159 => if r159 = 0 then up (lt (wI m this 10 2) (fun m208 => some m208)) else (Mo_see this (rI m this 8) m).bind (fun r180 => lt (wI m this 11 (jmin 99999 (((10 * (rI m this 11)) + r180) - 48))) (fun m190 => lt (wI m190 this 8 ((rI m190 this 8) + 1)) (fun m200 => some (Sum.inl (m200)))))))
noncomputable def Mo_advance_l83 (this : Nat) (m : Mem) : Option ((Mem) ⊕ (Mem)) :=
  (Mo_see this (rI m this 8) m).bind (fun r88 => (Mo_in (r88.toInt64) 97 122 m).bind (fun r98 => if r98 = 0 then up (lt (wI m this 10 1) (fun m119 => some m119)) else lt (wI m this 8 ((rI m this 8) + 1)) (fun m111 => some (Sum.inl (m111)))))
noncomputable def Mo_advance_l0 (this : Nat) (m : Mem) : Option ((Mem) ⊕ (Mem)) :=
  (Mo_see this (rI m this 8) m).bind (fun r5 => if r5 = 32 then Mo_advance_b26 this m else (Mo_see this (rI m this 8) m).bind (fun r18 => if r18 = 10 then Mo_advance_b26 this m else up (lt (wI m this 9 (rI m this 8)) (fun m44 => (Mo_see this (rI m44 this 8) m44).bind (fun r52 => if r52 = (-1) then lt (wI m44 this 10 0) (fun m63 => some m63) else (Mo_in (r52.toInt64) 97 122 m44).bind (fun r77 => if r77 = 0 then (Mo_in (r52.toInt64) 48 57 m44).bind (fun r133 => if r133 = 0 then if r52 = 59 then Mo_advance_b226 this 3 m44 else Mo_advance_b226 this 4 m44 else lt (wI m44 this 11 0) (fun m141 => loop (fun s : Mem => Mo_advance_l144 this s) (m141))) else loop (fun s : Mem => Mo_advance_l83 this s) (m44)))))))
noncomputable def Mo_advance (this : Nat) (m : Mem) : Option (Mem) :=
  loop (fun s : Mem => Mo_advance_l0 this s) (m)
noncomputable def Mo_good (this : Nat) (m : Mem) : Option (Int32) :=
  if (rI m this 12) = 0 then some 1 else some 0
noncomputable def Mo_errs (this : Nat) (v1 : Int32) (m : Mem) : Option (Mem) :=
  (Mo_good this m).bind (fun r1 => if r1 = 0 then some m else lt (wI m this 12 v1) (fun m10 => lt (wI m10 this 13 (rI m10 this 9)) (fun m18 => some m18)))
noncomputable def Mo_is_b75 (this : Nat) (v1 : Nat) (v3 : Int32) (k0 : Int32) (m : Mem) : Option ((Int32 × Int32) ⊕ (Int32)) :=
  some (Sum.inl (k0, (v3 + 1)))
noncomputable def Mo_is_l39 (this : Nat) (v1 : Nat) (v2 : Int32) (v3 : Int32) (m : Mem) : Option ((Int32 × Int32) ⊕ (Int32)) :=
  (S_length v1 m).bind (fun r41 => if r41 ≤ v3 then up (gd (isZ v2) (some v2)) else if v2 = 0 then up (gd (isZ v2) (some v2)) else gd (inb ((rI m this 9) + v3) 1600) ((S_charAt v1 v3 m).bind (fun r64 => if (rI m (this + 4) (ix ((rI m this 9) + v3))) = r64 then Mo_is_b75 this v1 v3 1 m else Mo_is_b75 this v1 v3 0 m)))
noncomputable def Mo_is_b36 (this : Nat) (v1 : Nat) (k0 : Int32) (m : Mem) : Option (Int32) :=
  loop (fun s : Int32 × Int32 => Mo_is_l39 this v1 s.1 s.2 m) (k0, 0)
noncomputable def Mo_is_b35 (this : Nat) (v1 : Nat) (m : Mem) : Option (Int32) :=
  Mo_is_b36 this v1 0 m
noncomputable def Mo_is (this : Nat) (v1 : Nat) (m : Mem) : Option (Int32) :=
  (Mo_good this m).bind (fun r1 => if r1 = 0 then Mo_is_b35 this v1 m else if (rI m this 10) = 1 then (S_length v1 m).bind (fun r25 => if ((rI m this 8) - (rI m this 9)) = r25 then Mo_is_b36 this v1 1 m else Mo_is_b35 this v1 m) else Mo_is_b35 this v1 m)
noncomputable def Mo_takes (this : Nat) (v1 : Nat) (m : Mem) : Option (Int32 × Mem) :=
  (Mo_is this v1 m).bind (fun r2 => if r2 = 0 then gd (isZ r2) (some (r2, m)) else (Mo_advance this m).bind (fun m11 => gd (isZ r2) (some (r2, m11))))
noncomputable def Mo_needs (this : Nat) (v1 : Nat) (m : Mem) : Option (Mem) :=
  (Mo_takes this v1 m).bind (fun r2 => if r2.1 = 0 then (Mo_errs this 1 r2.2).bind (fun m10 => some m10) else some r2.2)
noncomputable def Mo_number_b47 (this : Nat) (m : Mem) : Option (Int32 × Mem) :=
  (Mo_good this m).bind (fun r48 => if r48 = 0 then some (0, m) else (Mo_advance this m).bind (fun m62 => some ((rI m this 11), m62)))
noncomputable def Mo_number_b20 (this : Nat) (v1 : Int32) (v2 : Int32) (m : Mem) : Option (Int32 × Mem) :=
  (Mo_good this m).bind (fun r21 => if r21 = 0 then Mo_number_b47 this m else (Mo_in ((rI m this 11).toInt64) (v1.toInt64) (v2.toInt64) m).bind (fun r36 => if r36 = 0 then (Mo_errs this 2 m).bind (fun m44 => Mo_number_b47 this m44) else Mo_number_b47 this m))
noncomputable def Mo_number (this : Nat) (v1 : Int32) (v2 : Int32) (m : Mem) : Option (Int32 × Mem) :=
  (Mo_good this m).bind (fun r1 => if r1 = 0 then Mo_number_b20 this v1 v2 m else if (rI m this 10) = 2 then Mo_number_b20 this v1 v2 m else (Mo_errs this 1 m).bind (fun m17 => Mo_number_b20 this v1 v2 m17))
noncomputable def Mo_told (this : Nat) (v1 : Nat) (v2 : Int32) (v3 : Int32) (m : Mem) : Option (Int32 × Mem) :=
  (Mo_needs this v1 m).bind (fun m2 => (Mo_number this v2 v3 m2).bind (fun r8 => some (r8.1, r8.2)))
noncomputable def Mo_fault (this : Nat) (v1 : Int32) (m : Mem) : Option (Int32) :=
  if v1 = 0 then some (rI m this 12) else if v1 = 1 then some (rI m this 13) else some (-1)
noncomputable def Mo_readFloe (this : Nat) (m : Mem) : Option (Mem) :=
  (Mo_needs this 1000 m).bind (fun m3 => (Mo_told this 1001 2 12 m3).bind (fun r17 => gd (inb 1 200) (lt (wI r17.2 (this + 6) (ix 1) r17.1) (fun m20 => (Mo_told this 1002 2 12 m20).bind (fun r32 => gd (inb 2 200) (lt (wI r32.2 (this + 6) (ix 2) r32.1) (fun m35 => (Mo_told this 1003 1 28 m35).bind (fun r47 => gd (inb 3 200) (lt (wI r47.2 (this + 6) (ix 3) r47.1) (fun m50 => (Mo_told this 1004 1 60 m50).bind (fun r62 => gd (inb 4 200) (lt (wI r62.2 (this + 6) (ix 4) r62.1) (fun m65 => some m65)))))))))))))
noncomputable def Mo_readCrack_b167 (this : Nat) (k1 : Int32) (k2 : Int32) (m : Mem) : Option (Mem) :=
  gd (inb k1 200) (lt (wI m (this + 6) (ix k1) k2) (fun m167 => gd (inb 5 200) (gd (inb 5 200) (lt (wI m167 (this + 6) (ix 5) ((rI m167 (this + 6) (ix 5)) + 1)) (fun m177 => some m177)))))
noncomputable def Mo_readCrack_b69 (this : Nat) (v1 : Int32) (k1 : Int32) (k3 : Int32) (k5 : Int32) (m : Mem) : Option (Mem) :=
  gd (inb k5 200) ((Mo_number this k3 ((rI m (this + 6) (ix k5)) - 1) m).bind (fun r72 => gd (inb k1 200) (lt (wI r72.2 (this + 6) (ix k1) r72.1) (fun m75 => (Mo_told this 1007 0 500 m75).bind (fun r90 => gd (inb (v1 + 2) 200) (lt (wI r90.2 (this + 6) (ix (v1 + 2)) r90.1) (fun m93 => (Mo_told this 1008 0 99 m93).bind (fun r107 => gd (inb (v1 + 3) 200) (lt (wI r107.2 (this + 6) (ix (v1 + 3)) r107.1) (fun m110 => (Mo_told this 1009 0 99 m110).bind (fun r124 => gd (inb (v1 + 4) 200) (lt (wI r124.2 (this + 6) (ix (v1 + 4)) r124.1) (fun m127 => (Mo_told this 1010 0 99 m127).bind (fun r141 => gd (inb (v1 + 5) 200) (lt (wI r141.2 (this + 6) (ix (v1 + 5)) r141.1) (fun m144 => (Mo_takes this 1011 m144).bind (fun r156 => if r156.1 = 0 then Mo_readCrack_b167 this (v1 + 6) 0 r156.2 else Mo_readCrack_b167 this (v1 + 6) 1 r156.2)))))))))))))))))
noncomputable def Mo_readCrack_b46 (this : Nat) (v1 : Int32) (v2 : Int32) (k1 : Int32) (k2 : Int32) (m : Mem) : Option (Mem) :=
  gd (inb k1 200) (lt (wI m (this + 6) (ix k1) k2) (fun m46 => if v2 = 0 then Mo_readCrack_b69 this v1 (v1 + 1) 1 2 m46 else Mo_readCrack_b69 this v1 (v1 + 1) 1 1 m46))
noncomputable def Mo_readCrack_b30 (this : Nat) (v1 : Int32) (v2 : Int32) (m : Mem) : Option (Mem) :=
  if v2 = 0 then Mo_readCrack_b46 this v1 v2 (v1 + 0) 1 m else Mo_readCrack_b46 this v1 v2 (v1 + 0) 0 m
noncomputable def Mo_readCrack (this : Nat) (m : Mem) : Option (Mem) :=
  gd (inb 5 200) ((Mo_takes this 1005 m).bind (fun r16 => if r16.1 = 0 then (Mo_needs this 1006 r16.2).bind (fun m27 => Mo_readCrack_b30 this (24 + (8 * (rI m (this + 6) (ix 5)))) r16.1 m27) else Mo_readCrack_b30 this (24 + (8 * (rI m (this + 6) (ix 5)))) r16.1 r16.2))
noncomputable def Mo_readKind (this : Nat) (m : Mem) : Option (Int32 × Mem) :=
  (Mo_takes this 1012 m).bind (fun r3 => if r3.1 = 0 then (Mo_takes this 1013 r3.2).bind (fun r14 => if r14.1 = 0 then (Mo_takes this 1014 r14.2).bind (fun r25 => if r25.1 = 0 then (Mo_needs this 1015 r25.2).bind (fun m36 => some (3, m36)) else some (2, r25.2)) else some (1, r14.2)) else some (0, r3.2))
noncomputable def Mo_readSort (this : Nat) (m : Mem) : Option (Mem) :=
  gd (inb 6 200) ((Mo_readKind this m).bind (fun r21 => gd (inb ((80 + (4 * (rI m (this + 6) (ix 6)))) + 0) 200) (lt (wI r21.2 (this + 6) (ix ((80 + (4 * (rI m (this + 6) (ix 6)))) + 0)) r21.1) (fun m24 => (Mo_told this 1016 1 99 m24).bind (fun r38 => gd (inb ((80 + (4 * (rI m (this + 6) (ix 6)))) + 1) 200) (lt (wI r38.2 (this + 6) (ix ((80 + (4 * (rI m (this + 6) (ix 6)))) + 1)) r38.1) (fun m41 => (Mo_told this 1017 1 99 m41).bind (fun r55 => gd (inb ((80 + (4 * (rI m (this + 6) (ix 6)))) + 2) 200) (lt (wI r55.2 (this + 6) (ix ((80 + (4 * (rI m (this + 6) (ix 6)))) + 2)) r55.1) (fun m58 => (Mo_told this 1018 0 20 m58).bind (fun r72 => gd (inb ((80 + (4 * (rI m (this + 6) (ix 6)))) + 3) 200) (lt (wI r72.2 (this + 6) (ix ((80 + (4 * (rI m (this + 6) (ix 6)))) + 3)) r72.1) (fun m75 => gd (inb 6 200) (gd (inb 6 200) (lt (wI m75 (this + 6) (ix 6) ((rI m75 (this + 6) (ix 6)) + 1)) (fun m86 => some m86))))))))))))))))
noncomputable def Mo_readOther (this : Nat) (m : Mem) : Option (Mem) :=
  gd (inb 7 200) ((Mo_told this 1019 1 60 m).bind (fun r24 => gd (inb (104 + (3 * (rI m (this + 6) (ix 7)))) 200) (lt (wI r24.2 (this + 6) (ix (104 + (3 * (rI m (this + 6) (ix 7))))) r24.1) (fun m27 => (Mo_told this 1007 0 100 m27).bind (fun r41 => gd (inb ((104 + (3 * (rI m (this + 6) (ix 7)))) + 1) 200) (lt (wI r41.2 (this + 6) (ix ((104 + (3 * (rI m (this + 6) (ix 7)))) + 1)) r41.1) (fun m44 => (Mo_told this 1020 0 9999 m44).bind (fun r59 => gd (inb ((104 + (3 * (rI m (this + 6) (ix 7)))) + 2) 200) (lt (wI r59.2 (this + 6) (ix ((104 + (3 * (rI m (this + 6) (ix 7)))) + 2)) r59.1) (fun m62 => gd (inb 7 200) (gd (inb 7 200) (lt (wI m62 (this + 6) (ix 7) ((rI m62 (this + 6) (ix 7)) + 1)) (fun m73 => some m73)))))))))))))
noncomputable def Mo_onceHere (this : Nat) (m : Mem) : Option (Int32) :=
  (Mo_is this 1021 m).bind (fun r3 => if r3 = 0 then (Mo_is this 1022 m).bind (fun r16 => if r16 = 0 then (Mo_is this 1023 m).bind (fun r29 => if r29 = 0 then (Mo_is this 1024 m).bind (fun r42 => if r42 = 0 then (Mo_is this 1025 m).bind (fun r55 => if r55 = 0 then (Mo_is this 1020 m).bind (fun r68 => if r68 = 0 then some (-1) else some 5) else some 4) else some 3) else some 2) else some 1) else some 0)
noncomputable def Mo_readOnce_b161 (this : Nat) (v1 : Int32) (m : Mem) : Option (Mem) :=
  if v1 = 5 then (Mo_number this 0 9999 m).bind (fun r177 => gd (inb 16 200) (lt (wI r177.2 (this + 6) (ix 16) r177.1) (fun m180 => (Mo_told this 1028 0 9999 m180).bind (fun r194 => gd (inb 17 200) (lt (wI r194.2 (this + 6) (ix 17) r194.1) (fun m197 => some m197)))))) else some m
noncomputable def Mo_readOnce_b126 (this : Nat) (v1 : Int32) (m : Mem) : Option (Mem) :=
  if v1 = 4 then (Mo_number this 0 100 m).bind (fun r141 => gd (inb 14 200) (lt (wI r141.2 (this + 6) (ix 14) r141.1) (fun m144 => (Mo_told this 1027 0 60 m144).bind (fun r157 => gd (inb 15 200) (lt (wI r157.2 (this + 6) (ix 15) r157.1) (fun m160 => Mo_readOnce_b161 this v1 m160)))))) else Mo_readOnce_b161 this v1 m
noncomputable def Mo_readOnce_b107 (this : Nat) (v1 : Int32) (m : Mem) : Option (Mem) :=
  if v1 = 3 then (Mo_number this 0 100 m).bind (fun r122 => gd (inb 13 200) (lt (wI r122.2 (this + 6) (ix 13) r122.1) (fun m125 => Mo_readOnce_b126 this v1 m125))) else Mo_readOnce_b126 this v1 m
noncomputable def Mo_readOnce_b72 (this : Nat) (v1 : Int32) (m : Mem) : Option (Mem) :=
  if v1 = 2 then (Mo_number this 0 60 m).bind (fun r87 => gd (inb 11 200) (lt (wI r87.2 (this + 6) (ix 11) r87.1) (fun m90 => (Mo_told this 1026 0 60 m90).bind (fun r103 => gd (inb 12 200) (lt (wI r103.2 (this + 6) (ix 12) r103.1) (fun m106 => Mo_readOnce_b107 this v1 m106)))))) else Mo_readOnce_b107 this v1 m
noncomputable def Mo_readOnce_b53 (this : Nat) (v1 : Int32) (m : Mem) : Option (Mem) :=
  if v1 = 1 then (Mo_number this 0 100 m).bind (fun r68 => gd (inb 10 200) (lt (wI r68.2 (this + 6) (ix 10) r68.1) (fun m71 => Mo_readOnce_b72 this v1 m71))) else Mo_readOnce_b72 this v1 m
noncomputable def Mo_readOnce (this : Nat) (v1 : Int32) (m : Mem) : Option (Mem) :=
  (Mo_advance this m).bind (fun m1 => gd (inb 20 200) (gd (inb 20 200) (lt (wI m1 (this + 6) (ix 20) ((rI m1 (this + 6) (ix 20)) ||| ((1 : Int32) <<< (v1 &&& 31)))) (fun m16 => if v1 = 0 then (Mo_told this 1008 0 9 m16).bind (fun r33 => gd (inb 8 200) (lt (wI r33.2 (this + 6) (ix 8) r33.1) (fun m36 => (Mo_told this 1009 0 9 m36).bind (fun r49 => gd (inb 9 200) (lt (wI r49.2 (this + 6) (ix 9) r49.1) (fun m52 => Mo_readOnce_b53 this v1 m52)))))) else Mo_readOnce_b53 this v1 m16))))
noncomputable def Mo_readNext_b132 (this : Nat) (v1 : Int32) (m : Mem) : Option (Mem) :=
  (Mo_good this m).bind (fun r133 => if r133 = 0 then some m else if v1 = (-1) then (Mo_takes this 1029 m).bind (fun r156 => if r156.1 = 0 then (Mo_takes this 1030 r156.2).bind (fun r172 => if r172.1 = 0 then (Mo_takes this 1031 r172.2).bind (fun r188 => if r188.1 = 0 then some r188.2 else (Mo_readOther this r188.2).bind (fun m195 => some m195)) else (Mo_readSort this r172.2).bind (fun m179 => some m179)) else (Mo_readCrack this r156.2).bind (fun m163 => some m163)) else (Mo_readOnce this v1 m).bind (fun m147 => some m147))
noncomputable def Mo_readNext_b127 (this : Nat) (v1 : Int32) (m : Mem) : Option (Mem) :=
  (Mo_errs this 3 m).bind (fun m129 => Mo_readNext_b132 this v1 m129)
noncomputable def Mo_readNext_b107 (this : Nat) (v1 : Int32) (m : Mem) : Option (Mem) :=
  (Mo_is this 1031 m).bind (fun r110 => if r110 = 0 then Mo_readNext_b132 this v1 m else gd (inb 7 200) (if (rI m (this + 6) (ix 7)) = 4 then Mo_readNext_b127 this v1 m else Mo_readNext_b132 this v1 m))
noncomputable def Mo_readNext_b86 (this : Nat) (v1 : Int32) (m : Mem) : Option (Mem) :=
  (Mo_is this 1030 m).bind (fun r89 => if r89 = 0 then Mo_readNext_b107 this v1 m else gd (inb 6 200) (if (rI m (this + 6) (ix 6)) = 6 then Mo_readNext_b127 this v1 m else Mo_readNext_b107 this v1 m))
noncomputable def Mo_readNext_b66 (this : Nat) (v1 : Int32) (m : Mem) : Option (Mem) :=
  (Mo_is this 1029 m).bind (fun r69 => if r69 = 0 then Mo_readNext_b86 this v1 m else gd (inb 5 200) (if (rI m (this + 6) (ix 5)) = 7 then Mo_readNext_b127 this v1 m else Mo_readNext_b86 this v1 m))
noncomputable def Mo_readNext_b42 (this : Nat) (v1 : Int32) (m : Mem) : Option (Mem) :=
  if v1 = (-1) then Mo_readNext_b66 this v1 m else gd (inb 20 200) ((Mo_holds (rI m (this + 6) (ix 20)) v1 m).bind (fun r55 => if r55 = 0 then Mo_readNext_b66 this v1 m else (Mo_errs this 2 m).bind (fun m63 => Mo_readNext_b66 this v1 m63)))
noncomputable def Mo_readNext (this : Nat) (m : Mem) : Option (Mem) :=
  (Mo_onceHere this m).bind (fun r1 => if r1 = (-1) then (Mo_is this 1029 m).bind (fun r13 => if r13 = 0 then (Mo_is this 1030 m).bind (fun r22 => if r22 = 0 then (Mo_is this 1031 m).bind (fun r31 => if r31 = 0 then (Mo_errs this 1 m).bind (fun m39 => Mo_readNext_b42 this r1 m39) else Mo_readNext_b42 this r1 m) else Mo_readNext_b42 this r1 m) else Mo_readNext_b42 this r1 m) else Mo_readNext_b42 this r1 m)
noncomputable def Mo_readLine_b51 (this : Nat) (m : Mem) : Option (Mem) :=
  gd (inb 0 200) (gd (inb 0 200) (lt (wI m (this + 6) (ix 0) ((rI m (this + 6) (ix 0)) + 1)) (fun m60 => some m60)))
noncomputable def Mo_readLine_b40 (this : Nat) (m : Mem) : Option (Mem) :=
  (Mo_good this m).bind (fun r41 => if r41 = 0 then Mo_readLine_b51 this m else (Mo_advance this m).bind (fun m48 => Mo_readLine_b51 this m48))
noncomputable def Mo_readLine_b20 (this : Nat) (m : Mem) : Option (Mem) :=
  (Mo_good this m).bind (fun r21 => if r21 = 0 then Mo_readLine_b40 this m else if (rI m this 10) = 3 then Mo_readLine_b40 this m else (Mo_errs this 1 m).bind (fun m37 => Mo_readLine_b40 this m37))
noncomputable def Mo_readLine (this : Nat) (m : Mem) : Option (Mem) :=
  gd (inb 0 200) (if (rI m (this + 6) (ix 0)) = 0 then (Mo_readFloe this m).bind (fun m10 => Mo_readLine_b20 this m10) else (Mo_readNext this m).bind (fun m17 => Mo_readLine_b20 this m17))
noncomputable def Mo_floe_l72 (this : Nat) (v1 : Int32) (m : Mem) : Option ((Int32 × Mem) ⊕ (Int32 × Mem)) :=
  if 200 ≤ v1 then up (gd (inb 3 200) (gd (inb 190 200) (lt (wI m (this + 1) (ix 190) (rI m (this + 1) (ix 3))) (fun m110 => lt (wI m110 this 26 0) (fun m113 => gd (inb 0 200) (some ((rI m113 (this + 1) (ix 0)), m113))))))) else gd (inb v1 200) (gd (inb v1 200) (lt (wI m (this + 1) (ix v1) (rI m (this + 6) (ix v1))) (fun m90 => some (Sum.inl ((v1 + 1), m90)))))
noncomputable def Mo_floe_b60 (this : Nat) (m : Mem) : Option (Int32 × Mem) :=
  (Mo_good this m).bind (fun r61 => if r61 = 0 then some ((-4), m) else loop (fun s : Int32 × Mem => Mo_floe_l72 this s.1 s.2) (0, m))
noncomputable def Mo_floe_l39 (this : Nat) (m : Mem) : Option ((Mem) ⊕ (Int32 × Mem)) :=
  (Mo_good this m).bind (fun r40 => if r40 = 0 then up (Mo_floe_b60 this m) else if (rI m this 10) = 0 then up (Mo_floe_b60 this m) else (Mo_readLine this m).bind (fun m54 => some (Sum.inl (m54))))
noncomputable def Mo_floe (this : Nat) (m : Mem) : Option (Int32 × Mem) :=
  lt (wI m this 7 (rI m this 5)) (fun m5 => lt (wI m5 this 5 0) (fun m10 => lt (wI m10 this 8 0) (fun m15 => lt (wI m15 this 12 0) (fun m20 => lt (wI m20 this 13 (-1)) (fun m25 => (Mo_empties (this + 6) m25).bind (fun m32 => (Mo_advance this m32).bind (fun m36 => loop (fun s : Mem => Mo_floe_l39 this s) (m36))))))))
noncomputable def Mo_isCell (this : Nat) (v1 : Int32) (v2 : Int32) (m : Mem) : Option (Int32) :=
  gd (inb 1 200) ((Mo_in (v1.toInt64) 0 (((rI m (this + 1) (ix 1)) - 1).toInt64) m).bind (fun r12 => if r12 = 0 then some 0 else gd (inb 2 200) ((Mo_in (v2.toInt64) 0 (((rI m (this + 1) (ix 2)) - 1).toInt64) m).bind (fun r30 => if r30 = 0 then some 0 else some 1))))
noncomputable def Mo_isSort (this : Nat) (v1 : Int32) (m : Mem) : Option (Int32) :=
  gd (inb 6 200) ((Mo_in (v1.toInt64) 0 (((rI m (this + 1) (ix 6)) - 1).toInt64) m).bind (fun r13 => gd (isZ r13) (some r13)))
noncomputable def Mo_isHeap (v0 : Int32) (m : Mem) : Option (Int32) :=
  (Mo_in (v0.toInt64) 0 7 m).bind (fun r6 => gd (isZ r6) (some r6))
noncomputable def Mo_isGroup (v0 : Int32) (m : Mem) : Option (Int32) :=
  (Mo_in (v0.toInt64) 0 3 m).bind (fun r6 => gd (isZ r6) (some r6))
noncomputable def Mo_isCrack (this : Nat) (v1 : Int32) (m : Mem) : Option (Int32) :=
  gd (inb 5 200) ((Mo_in (v1.toInt64) 0 (((rI m (this + 1) (ix 5)) - 1).toInt64) m).bind (fun r12 => gd (isZ r12) (some r12)))
noncomputable def Mo_sets (this : Nat) (m : Mem) : Option (Int32) :=
  gd (inb 5 200) (some ((1 : Int32) <<< ((rI m (this + 1) (ix 5)) &&& 31)))
noncomputable def Mo_isSet (this : Nat) (v1 : Int32) (m : Mem) : Option (Int32) :=
  (Mo_isFloe this m).bind (fun r1 => if r1 = 0 then some 0 else (Mo_sets this m).bind (fun r11 => (Mo_in (v1.toInt64) 0 ((r11 - 1).toInt64) m).bind (fun r17 => if r17 = 0 then some 0 else some 1)))
noncomputable def Mo_setHeap (this : Nat) (v1 : Int32) (v2 : Int32) (v3 : Int32) (m : Mem) : Option (Mem) :=
  gd (inb ((116 + (9 * v1)) + v2) 200) (lt (wI m (this + 1) (ix ((116 + (9 * v1)) + v2)) v3) (fun m14 => some m14))
noncomputable def Mo_heap_l40 (this : Nat) (v1 : Int32) (v4 : Int32) (v5 : Int32) (m : Mem) : Option ((Int32 × Mem) ⊕ (Int32 × Mem)) :=
  if 9 ≤ v5 then up (some (v4, m)) else (Mo_setHeap this v1 v5 0 m).bind (fun m52 => some (Sum.inl ((v5 + 1), m52)))
noncomputable def Mo_heap_b24 (this : Nat) (v1 : Int32) (v2 : Int32) (v3 : Int32) (m : Mem) : Option (Int32 × Mem) :=
  (Mo_ofHeap this v1 0 m).bind (fun r27 => if v2 = (-1) then loop (fun s : Int32 × Mem => Mo_heap_l40 this v1 r27 s.1 s.2) (0, m) else (Mo_setHeap this v1 0 1 m).bind (fun m68 => (Mo_setHeap this v1 1 v2 m68).bind (fun m75 => (Mo_setHeap this v1 2 v3 m75).bind (fun m82 => some (r27, m82)))))
noncomputable def Mo_heap (this : Nat) (v1 : Int32) (v2 : Int32) (v3 : Int32) (m : Mem) : Option (Int32 × Mem) :=
  (Mo_isHeap v1 m).bind (fun r1 => if r1 = 0 then some ((-2), m) else if v2 = (-1) then Mo_heap_b24 this v1 v2 v3 m else (Mo_isCell this v2 v3 m).bind (fun r15 => if r15 = 0 then some ((-2), m) else Mo_heap_b24 this v1 v2 v3 m))
noncomputable def Mo_inHeaps_l4 (this : Nat) (v1 : Int32) (v2 : Int32) (v3 : Int32) (m : Mem) : Option ((Int32 × Int32) ⊕ (Int32)) :=
  if 8 ≤ v3 then up (some v2) else (Mo_ofHeap this v3 (3 + v1) m).bind (fun r16 => some (Sum.inl ((v2 + r16), (v3 + 1))))
noncomputable def Mo_inHeaps (this : Nat) (v1 : Int32) (m : Mem) : Option (Int32) :=
  loop (fun s : Int32 × Int32 => Mo_inHeaps_l4 this v1 s.1 s.2 m) (0, 0)
noncomputable def Mo_put (this : Nat) (v1 : Int32) (v2 : Int32) (v3 : Int32) (m : Mem) : Option (Int32 × Mem) :=
  (Mo_isHeap v1 m).bind (fun r1 => if r1 = 0 then some ((-2), m) else (Mo_isThere this v1 m).bind (fun r9 => if r9 = 0 then some ((-2), m) else (Mo_isSort this v2 m).bind (fun r17 => if r17 = 0 then some ((-2), m) else if 0 ≤ v3 then (Mo_inHeaps this v2 m).bind (fun r32 => (Mo_ofHeap this v1 (3 + v2) m).bind (fun r40 => (Mo_ofSort this v2 3 m).bind (fun r51 => if (((r32 - r40).toInt64) + (v3.toInt64)) ≤ (r51.toInt64) then (Mo_setHeap this v1 (3 + v2) v3 m).bind (fun m68 => (Mo_ofSort this v2 3 m68).bind (fun r74 => (Mo_inHeaps this v2 m68).bind (fun r79 => some ((r74 - r79), m68)))) else some ((-3), m)))) else some ((-2), m))))
noncomputable def Mo_sleepers_l4 (this : Nat) (v1 : Int32) (v2 : Int32) (m : Mem) : Option ((Int32 × Int32) ⊕ (Int32)) :=
  if 4 ≤ v2 then up (some v1) else (Mo_ofGroup this v2 2 m).bind (fun r13 => some (Sum.inl ((v1 + r13), (v2 + 1))))
noncomputable def Mo_sleepers (this : Nat) (m : Mem) : Option (Int32) :=
  loop (fun s : Int32 × Int32 => Mo_sleepers_l4 this s.1 s.2 m) (0, 0)
noncomputable def Mo_sleep (this : Nat) (v1 : Int32) (v2 : Int32) (v3 : Int32) (v4 : Int32) (m : Mem) : Option (Int32 × Mem) :=
  (Mo_isGroup v1 m).bind (fun r1 => if r1 = 0 then some ((-2), m) else (Mo_isCell this v2 v3 m).bind (fun r10 => if r10 = 0 then some ((-2), m) else (Mo_in (v4.toInt64) 0 28 m).bind (fun r23 => if r23 = 0 then some ((-2), m) else (Mo_sleepers this m).bind (fun r33 => (Mo_ofGroup this v1 2 m).bind (fun r39 => gd (inb 3 200) (if ((r33 - r39) + v4) ≤ (rI m (this + 1) (ix 3)) then gd (inb (188 + (3 * v1)) 200) (lt (wI m (this + 1) (ix (188 + (3 * v1))) v2) (fun m70 => gd (inb ((188 + (3 * v1)) + 1) 200) (lt (wI m70 (this + 1) (ix ((188 + (3 * v1)) + 1)) v3) (fun m85 => gd (inb ((188 + (3 * v1)) + 2) 200) (lt (wI m85 (this + 1) (ix ((188 + (3 * v1)) + 2)) v4) (fun m101 => (Mo_sleepers this m101).bind (fun r103 => some (r103, m101)))))))) else some ((-3), m)))))))
noncomputable def Mo_open (this : Nat) (v1 : Int32) (m : Mem) : Option (Int32 × Mem) :=
  (Mo_isSet this v1 m).bind (fun r2 => if r2 = 0 then some ((-2), m) else gd (inb 18 200) (gd (inb 18 200) (lt (wI m (this + 1) (ix 18) v1) (fun m26 => some ((rI m (this + 1) (ix 18)), m26)))))
noncomputable def Mo_tonsOf_l4 (this : Nat) (v1 : Int32) (v2 : Int32) (v3 : Int32) (m : Mem) : Option ((Int32 × Int32) ⊕ (Int32)) :=
  gd (inb 6 200) (if (rI m (this + 1) (ix 6)) ≤ v3 then up (some v2) else (Mo_ofHeap this v1 (3 + v3) m).bind (fun r21 => (Mo_ofSort this v3 2 m).bind (fun r27 => some (Sum.inl ((v2 + (r21 * r27)), (v3 + 1))))))
noncomputable def Mo_tonsOf (this : Nat) (v1 : Int32) (m : Mem) : Option (Int32) :=
  loop (fun s : Int32 × Int32 => Mo_tonsOf_l4 this v1 s.1 s.2 m) (0, 0)
noncomputable def Mo_lies (this : Nat) (v1 : Int32) (v2 : Int32) (m : Mem) : Option (Int32) :=
  (Mo_isHeap v1 m).bind (fun r1 => if r1 = 0 then some (-2) else gd (inb 6 200) ((Mo_in (v2.toInt64) 0 ((2 + (rI m (this + 1) (ix 6))).toInt64) m).bind (fun r20 => if r20 = 0 then some (-2) else (Mo_isThere this v1 m).bind (fun r31 => if r31 = 0 then some (-1) else if 2 ≤ v2 then if v2 = 2 then (Mo_tonsOf this v1 m).bind (fun r62 => some r62) else (Mo_ofHeap this v1 v2 m).bind (fun r71 => some r71) else (Mo_ofHeap this v1 (1 + v2) m).bind (fun r49 => some r49)))))
noncomputable def Mo_nearOf_b71 (this : Nat) (v1 : Int32) (v2 : Int32) (v3 : Int32) (m : Mem) : Option ((Int32 × Int32) ⊕ (Int32)) :=
  some (Sum.inl (v2, (v3 + 1)))
noncomputable def Mo_nearOf_b63 (this : Nat) (v1 : Int32) (v2 : Int32) (v3 : Int32) (m : Mem) : Option ((Int32 × Int32) ⊕ (Int32)) :=
  (Mo_tonsOf this v3 m).bind (fun r66 => Mo_nearOf_b71 this v1 (v2 + r66) v3 m)
noncomputable def Mo_nearOf_b26 (this : Nat) (v1 : Int32) (v2 : Int32) (v3 : Int32) (k1 : Int32) (k2 : Int32) (m : Mem) : Option ((Int32 × Int32) ⊕ (Int32)) :=
  (Mo_ofHeap this k1 k2 m).bind (fun r26 => (Mo_isThere this v3 m).bind (fun r33 => if r33 = 0 then Mo_nearOf_b71 this v1 v2 v3 m else (Mo_ofCrack this v1 1 m).bind (fun r44 => if r26 = r44 then Mo_nearOf_b63 this v1 v2 v3 m else (Mo_ofCrack this v1 1 m).bind (fun r55 => if r26 = (r55 - 1) then Mo_nearOf_b63 this v1 v2 v3 m else Mo_nearOf_b71 this v1 v2 v3 m))))
noncomputable def Mo_nearOf_l4 (this : Nat) (v1 : Int32) (v2 : Int32) (v3 : Int32) (m : Mem) : Option ((Int32 × Int32) ⊕ (Int32)) :=
  if 8 ≤ v3 then up (some v2) else (Mo_ofCrack this v1 0 m).bind (fun r15 => if r15 = 0 then Mo_nearOf_b26 this v1 v2 v3 v3 1 m else Mo_nearOf_b26 this v1 v2 v3 v3 2 m)
noncomputable def Mo_nearOf (this : Nat) (v1 : Int32) (m : Mem) : Option (Int32) :=
  loop (fun s : Int32 × Int32 => Mo_nearOf_l4 this v1 s.1 s.2 m) (0, 0)
noncomputable def Mo_oddsBy_b70 (this : Nat) (k0 : Int32) (k1 : Int32) (m : Mem) : Option (Int32) :=
  some (jmin k0 k1)
noncomputable def Mo_oddsBy (this : Nat) (v1 : Int32) (v2 : Int32) (m : Mem) : Option (Int32) :=
  (Mo_ofCrack this v1 2 m).bind (fun r3 => gd (inb 8 200) ((Mo_ofCrack this v1 3 m).bind (fun r16 => gd (inb 9 200) ((Mo_ofCrack this v1 4 m).bind (fun r31 => (Mo_ofCrack this v1 5 m).bind (fun r39 => (Mo_ofCrack this v1 6 m).bind (fun r56 => if r56 = 1 then Mo_oddsBy_b70 this 10000 (2 * (((r3 + ((rI m (this + 1) (ix 8)) * r16)) + ((rI m (this + 1) (ix 9)) * r31)) + ((r39 * v2) / 100))) m else Mo_oddsBy_b70 this 10000 (((r3 + ((rI m (this + 1) (ix 8)) * r16)) + ((rI m (this + 1) (ix 9)) * r31)) + ((r39 * v2) / 100)) m)))))))
noncomputable def Mo_oddsOf (this : Nat) (v1 : Int32) (m : Mem) : Option (Int32) :=
  (Mo_nearOf this v1 m).bind (fun r4 => (Mo_oddsBy this v1 r4 m).bind (fun r7 => some r7))
noncomputable def Mo_near (this : Nat) (v1 : Int32) (m : Mem) : Option (Int32) :=
  (Mo_isCrack this v1 m).bind (fun r2 => if r2 = 0 then some (-2) else (Mo_nearOf this v1 m).bind (fun r10 => some r10))
noncomputable def Mo_odds (this : Nat) (v1 : Int32) (m : Mem) : Option (Int32) :=
  (Mo_isCrack this v1 m).bind (fun r2 => if r2 = 0 then some (-2) else (Mo_oddsOf this v1 m).bind (fun r10 => some r10))
noncomputable def Mo_pieceOf_b86 (this : Nat) (v1 : Int32) (v2 : Int32) (v3 : Int32) (v4 : Int32) (v5 : Int32) (m : Mem) : Option ((Int32 × Int32) ⊕ (Int32)) :=
  some (Sum.inl (v4, (v5 + 1)))
noncomputable def Mo_pieceOf_b83 (this : Nat) (v1 : Int32) (v2 : Int32) (v3 : Int32) (v5 : Int32) (k0 : Int32) (k1 : Int32) (m : Mem) : Option ((Int32 × Int32) ⊕ (Int32)) :=
  Mo_pieceOf_b86 this v1 v2 v3 (k0 + k1) v5 m
noncomputable def Mo_pieceOf_b65 (this : Nat) (v1 : Int32) (v2 : Int32) (v3 : Int32) (v5 : Int32) (v6 : Int32) (k0 : Int32) (k1 : Int32) (k2 : Int32) (m : Mem) : Option ((Int32 × Int32) ⊕ (Int32)) :=
  if k2 < k1 then Mo_pieceOf_b83 this v1 v2 v3 v5 k0 0 m else if v6 = 0 then Mo_pieceOf_b83 this v1 v2 v3 v5 k0 8 m else Mo_pieceOf_b83 this v1 v2 v3 v5 k0 1 m
noncomputable def Mo_pieceOf_b44 (this : Nat) (v1 : Int32) (v2 : Int32) (v3 : Int32) (v4 : Int32) (v5 : Int32) (k0 : Int32) (m : Mem) : Option ((Int32 × Int32) ⊕ (Int32)) :=
  (Mo_ofCrack this v5 1 m).bind (fun r52 => if k0 = 0 then Mo_pieceOf_b65 this v1 v2 v3 v5 k0 v4 r52 v3 m else Mo_pieceOf_b65 this v1 v2 v3 v5 k0 v4 r52 v2 m)
noncomputable def Mo_pieceOf_l6 (this : Nat) (v1 : Int32) (v2 : Int32) (v3 : Int32) (v4 : Int32) (v5 : Int32) (m : Mem) : Option ((Int32 × Int32) ⊕ (Int32)) :=
  gd (inb 5 200) (if (rI m (this + 1) (ix 5)) ≤ v5 then up (some v4) else (Mo_holds v1 v5 m).bind (fun r20 => if r20 = 0 then Mo_pieceOf_b86 this v1 v2 v3 v4 v5 m else (Mo_ofCrack this v5 0 m).bind (fun r33 => if r33 = 0 then Mo_pieceOf_b44 this v1 v2 v3 v4 v5 1 m else Mo_pieceOf_b44 this v1 v2 v3 v4 v5 0 m)))
noncomputable def Mo_pieceOf (this : Nat) (v1 : Int32) (v2 : Int32) (v3 : Int32) (m : Mem) : Option (Int32) :=
  loop (fun s : Int32 × Int32 => Mo_pieceOf_l6 this v1 v2 v3 s.1 s.2 m) (0, 0)
noncomputable def Mo_piece (this : Nat) (v1 : Int32) (v2 : Int32) (v3 : Int32) (m : Mem) : Option (Int32) :=
  (Mo_isSet this v1 m).bind (fun r2 => if r2 = 0 then some (-2) else (Mo_isCell this v2 v3 m).bind (fun r11 => if r11 = 0 then some (-2) else (Mo_pieceOf this v1 v2 v3 m).bind (fun r21 => some r21)))
noncomputable def Mo_pieces_l73 (this : Nat) (v2 : Int64) (v4 : Int32) (v5 : Int32) (m : Mem) : Option ((Int32 × Int32) ⊕ (Int32)) :=
  if 64 ≤ v5 then up (some v4) else some (Sum.inl ((v4 + (((v2 >>> (v5.toInt64 &&& 63)) &&& 1).toInt32)), (v5 + 1)))
noncomputable def Mo_pieces_l30 (this : Nat) (v1 : Int32) (v4 : Int32) (v2 : Int64) (v5 : Int32) (m : Mem) : Option ((Int64 × Int32) ⊕ ((Int64 × Int32) ⊕ (Int32))) :=
  gd (inb 1 200) (if (rI m (this + 1) (ix 1)) ≤ v5 then up (some (Sum.inl (v2, (v4 + 1)))) else (Mo_pieceOf this v1 v5 v4 m).bind (fun r49 => some (Sum.inl ((v2 ||| ((1 : Int64) <<< (r49.toInt64 &&& 63))), (v5 + 1)))))
noncomputable def Mo_pieces_l16 (this : Nat) (v1 : Int32) (v2 : Int64) (v4 : Int32) (m : Mem) : Option ((Int64 × Int32) ⊕ (Int32)) :=
  gd (inb 2 200) (if (rI m (this + 1) (ix 2)) ≤ v4 then up (loop (fun s : Int32 × Int32 => Mo_pieces_l73 this v2 s.1 s.2 m) (0, 0)) else loop (fun s : Int64 × Int32 => Mo_pieces_l30 this v1 v4 s.1 s.2 m) (v2, 0))
noncomputable def Mo_pieces (this : Nat) (v1 : Int32) (m : Mem) : Option (Int32) :=
  (Mo_isSet this v1 m).bind (fun r2 => if r2 = 0 then some (-2) else loop (fun s : Int64 × Int32 => Mo_pieces_l16 this v1 s.1 s.2 m) (0, 0))
noncomputable def Mo_beginParts_l39 (this : Nat) (v1 : Int32) (m : Mem) : Option ((Int32 × Mem) ⊕ (Mem)) :=
  gd (inb 5 200) (if (rI m (this + 1) (ix 5)) ≤ v1 then up (some m) else (Mo_oddsOf this v1 m).bind (fun r56 => gd (inb v1 7) (lt (wI m (this + 8) (ix v1) r56) (fun m59 => some (Sum.inl ((v1 + 1), m59))))))
noncomputable def Mo_beginParts_l2 (this : Nat) (v1 : Int32) (m : Mem) : Option ((Int32 × Mem) ⊕ (Mem)) :=
  if 128 ≤ v1 then up (gd (inb 18 200) (gd (inb (rI m (this + 1) (ix 18)) 128) (lt (wL m (this + 7) (ix (rI m (this + 1) (ix 18))) 1000000000000) (fun m36 => loop (fun s : Int32 × Mem => Mo_beginParts_l39 this s.1 s.2) (0, m36))))) else gd (inb v1 128) (lt (wL m (this + 7) (ix v1) 0) (fun m15 => some (Sum.inl ((v1 + 1), m15))))
noncomputable def Mo_beginParts (this : Nat) (m : Mem) : Option (Mem) :=
  loop (fun s : Int32 × Mem => Mo_beginParts_l2 this s.1 s.2) (0, m)
noncomputable def Mo_hour_b108 (this : Nat) (v1 : Int32) (v2 : Int32) (m : Mem) : Option ((Int32 × Mem) ⊕ ((Int32 × Mem) ⊕ (Mem))) :=
  some (Sum.inl ((v2 + 1), m))
noncomputable def Mo_hour_l14 (this : Nat) (v1 : Int32) (v2 : Int32) (m : Mem) : Option ((Int32 × Mem) ⊕ ((Int32 × Mem) ⊕ (Mem))) :=
  (Mo_sets this m).bind (fun r16 => if r16 ≤ v2 then up (some (Sum.inl ((v1 + 1), m))) else (Mo_holds v2 v1 m).bind (fun r24 => if r24 = 0 then gd (inb v2 128) (gd (inb v1 7) (gd (inb (v2 ||| ((1 : Int32) <<< (v1 &&& 31))) 128) (gd (inb 10 200) (gd (inb v2 128) (gd (inb v2 128) (lt (wL m (this + 7) (ix v2) ((rL m (this + 7) (ix v2)) + ((((rL m (this + 7) (ix (v2 ||| ((1 : Int32) <<< (v1 &&& 31))))) * ((rI m (this + 1) (ix 10)).toInt64)) / 100) - (((rL m (this + 7) (ix v2)) * ((rI m (this + 8) (ix v1)).toInt64)) / 10000)))) (fun m93 => gd (inb (v2 ||| ((1 : Int32) <<< (v1 &&& 31))) 128) (gd (inb (v2 ||| ((1 : Int32) <<< (v1 &&& 31))) 128) (lt (wL m93 (this + 7) (ix (v2 ||| ((1 : Int32) <<< (v1 &&& 31)))) ((rL m93 (this + 7) (ix (v2 ||| ((1 : Int32) <<< (v1 &&& 31))))) + ((((rL m (this + 7) (ix v2)) * ((rI m (this + 8) (ix v1)).toInt64)) / 10000) - (((rL m (this + 7) (ix (v2 ||| ((1 : Int32) <<< (v1 &&& 31))))) * ((rI m (this + 1) (ix 10)).toInt64)) / 100)))) (fun m107 => Mo_hour_b108 this v1 v2 m107)))))))))) else Mo_hour_b108 this v1 v2 m))
noncomputable def Mo_hour_l2 (this : Nat) (v1 : Int32) (m : Mem) : Option ((Int32 × Mem) ⊕ (Mem)) :=
  gd (inb 5 200) (if (rI m (this + 1) (ix 5)) ≤ v1 then up (some m) else loop (fun s : Int32 × Mem => Mo_hour_l14 this v1 s.1 s.2) (0, m))
noncomputable def Mo_hour (this : Nat) (m : Mem) : Option (Mem) :=
  loop (fun s : Int32 × Mem => Mo_hour_l2 this s.1 s.2) (0, m)
noncomputable def Mo_part (this : Nat) (v1 : Int32) (m : Mem) : Option (Int64 × Mem) :=
  (Mo_isSet this v1 m).bind (fun r2 => if r2 = 0 then some ((-2), m) else (Mo_beginParts this m).bind (fun m13 => (Mo_hour this m13).bind (fun m17 => gd (inb v1 128) (some ((rL m17 (this + 7) (ix v1)), m17)))))
noncomputable def Mo_ones_l4 (v0 : Int32) (v1 : Int32) (v2 : Int32) (m : Mem) : Option ((Int32 × Int32) ⊕ (Int32)) :=
  if 7 ≤ v2 then up (some v1) else some (Sum.inl ((v1 + ((v0 >>> (v2 &&& 31)) &&& 1)), (v2 + 1)))
noncomputable def Mo_ones (v0 : Int32) (m : Mem) : Option (Int32) :=
  loop (fun s : Int32 × Int32 => Mo_ones_l4 v0 s.1 s.2 m) (0, 0)
noncomputable def Mo_isTold_l2 (this : Nat) (v1 : Int32) (v2 : Int32) (m : Mem) : Option ((Int32) ⊕ (Int32)) :=
  gd (inb 6 200) (if (rI m (this + 1) (ix 6)) ≤ v2 then up (some 0) else (Mo_ofSort this v2 0 m).bind (fun r16 => if r16 = v1 then up (some 1) else some (Sum.inl ((v2 + 1)))))
noncomputable def Mo_isTold (this : Nat) (v1 : Int32) (m : Mem) : Option (Int32) :=
  loop (fun s : Int32 => Mo_isTold_l2 this v1 s m) (0)
noncomputable def Mo_peopleOn_b46 (this : Nat) (v1 : Int32) (v2 : Int32) (v4 : Int32) (k0 : Int32) (k1 : Int32) (m : Mem) : Option ((Int32 × Int32) ⊕ (Int32)) :=
  some (Sum.inl ((k0 + k1), (v4 + 1)))
noncomputable def Mo_peopleOn_l5 (this : Nat) (v1 : Int32) (v2 : Int32) (v3 : Int32) (v4 : Int32) (m : Mem) : Option ((Int32 × Int32) ⊕ (Int32)) :=
  if 4 ≤ v4 then up (some v3) else (Mo_ofGroup this v4 0 m).bind (fun r18 => (Mo_ofGroup this v4 1 m).bind (fun r25 => (Mo_pieceOf this v1 r18 r25 m).bind (fun r28 => if r28 = v2 then (Mo_ofGroup this v4 2 m).bind (fun r39 => Mo_peopleOn_b46 this v1 v2 v4 v3 r39 m) else Mo_peopleOn_b46 this v1 v2 v4 v3 0 m)))
noncomputable def Mo_peopleOn (this : Nat) (v1 : Int32) (v2 : Int32) (m : Mem) : Option (Int32) :=
  loop (fun s : Int32 × Int32 => Mo_peopleOn_l5 this v1 v2 s.1 s.2 m) (0, 0)
noncomputable def Mo_needOf (v0 : Int32) (v1 : Int32) (v2 : Int32) (m : Mem) : Option (Int32) :=
  if v2 = 0 then some (v0 * v1) else some v0
noncomputable def Mo_givesIn_b50 (this : Nat) (v1 : Int32) (v2 : Int32) (v4 : Int32) (k0 : Int32) (k1 : Int32) (m : Mem) : Option ((Int32 × Int32) ⊕ (Int32)) :=
  some (Sum.inl ((k0 + k1), (v4 + 1)))
noncomputable def Mo_givesIn_l5 (this : Nat) (v1 : Int32) (v2 : Int32) (v3 : Int32) (v4 : Int32) (m : Mem) : Option ((Int32 × Int32) ⊕ (Int32)) :=
  gd (inb 6 200) (if (rI m (this + 1) (ix 6)) ≤ v4 then up (some v3) else (Mo_ofSort this v4 0 m).bind (fun r22 => if r22 = v2 then (Mo_ofHeap this v1 (3 + v4) m).bind (fun r35 => (Mo_ofSort this v4 1 m).bind (fun r42 => Mo_givesIn_b50 this v1 v2 v4 v3 (r35 * r42) m)) else Mo_givesIn_b50 this v1 v2 v4 v3 0 m))
noncomputable def Mo_givesIn (this : Nat) (v1 : Int32) (v2 : Int32) (m : Mem) : Option (Int32) :=
  loop (fun s : Int32 × Int32 => Mo_givesIn_l5 this v1 v2 s.1 s.2 m) (0, 0)
noncomputable def Mo_givenOn_b58 (this : Nat) (v1 : Int32) (v2 : Int32) (v3 : Int32) (v5 : Int32) (k0 : Int32) (k1 : Int32) (m : Mem) : Option ((Int32 × Int32) ⊕ (Int32)) :=
  some (Sum.inl ((k0 + k1), (v5 + 1)))
noncomputable def Mo_givenOn_b57 (this : Nat) (v1 : Int32) (v2 : Int32) (v3 : Int32) (v5 : Int32) (k0 : Int32) (m : Mem) : Option ((Int32 × Int32) ⊕ (Int32)) :=
  Mo_givenOn_b58 this v1 v2 v3 v5 k0 0 m
noncomputable def Mo_givenOn_l6 (this : Nat) (v1 : Int32) (v2 : Int32) (v3 : Int32) (v4 : Int32) (v5 : Int32) (m : Mem) : Option ((Int32 × Int32) ⊕ (Int32)) :=
  if 8 ≤ v5 then up (some v4) else (Mo_isThere this v5 m).bind (fun r18 => if r18 = 0 then Mo_givenOn_b57 this v1 v2 v3 v5 v4 m else (Mo_ofHeap this v5 1 m).bind (fun r30 => (Mo_ofHeap this v5 2 m).bind (fun r37 => (Mo_pieceOf this v1 r30 r37 m).bind (fun r40 => if r40 = v2 then (Mo_givesIn this v5 v3 m).bind (fun r51 => Mo_givenOn_b58 this v1 v2 v3 v5 v4 r51 m) else Mo_givenOn_b57 this v1 v2 v3 v5 v4 m))))
noncomputable def Mo_givenOn (this : Nat) (v1 : Int32) (v2 : Int32) (v3 : Int32) (m : Mem) : Option (Int32) :=
  loop (fun s : Int32 × Int32 => Mo_givenOn_l6 this v1 v2 v3 s.1 s.2 m) (0, 0)
noncomputable def Mo_lacksAt_b64 (this : Nat) (v1 : Int32) (v2 : Int32) (v3 : Int32) (v4 : Int32) (v5 : Int32) (m : Mem) : Option ((Int32) ⊕ (Int32)) :=
  some (Sum.inl ((v5 + 1)))
noncomputable def Mo_lacksAt_l22 (this : Nat) (v1 : Int32) (v2 : Int32) (v3 : Int32) (v4 : Int32) (v5 : Int32) (m : Mem) : Option ((Int32) ⊕ (Int32)) :=
  if v2 ≤ v5 then up ((Mo_peopleOn this v1 v4 m).bind (fun r74 => if r74 = 0 then some 0 else gd (inb 4 200) ((Mo_needOf r74 (rI m (this + 1) (ix 4)) v3 m).bind (fun r98 => (Mo_givenOn this v1 v4 v3 m).bind (fun r106 => some (jmax 0 (r98 - r106))))))) else (Mo_ofGroup this v5 0 m).bind (fun r34 => (Mo_ofGroup this v5 1 m).bind (fun r41 => (Mo_pieceOf this v1 r34 r41 m).bind (fun r44 => if r44 = v4 then (Mo_ofGroup this v5 2 m).bind (fun r56 => if r56 ≤ 0 then Mo_lacksAt_b64 this v1 v2 v3 v4 v5 m else up (some 0)) else Mo_lacksAt_b64 this v1 v2 v3 v4 v5 m)))
noncomputable def Mo_lacksAt (this : Nat) (v1 : Int32) (v2 : Int32) (v3 : Int32) (m : Mem) : Option (Int32) :=
  (Mo_ofGroup this v2 0 m).bind (fun r5 => (Mo_ofGroup this v2 1 m).bind (fun r11 => (Mo_pieceOf this v1 r5 r11 m).bind (fun r14 => loop (fun s : Int32 => Mo_lacksAt_l22 this v1 v2 v3 r14 s m) (0))))
noncomputable def Mo_lacksOf_b42 (this : Nat) (v1 : Int32) (v2 : Int32) (v4 : Int32) (k0 : Int32) (k1 : Int32) (m : Mem) : Option ((Int32 × Int32) ⊕ (Int32)) :=
  some (Sum.inl ((k0 + k1), (v4 + 1)))
noncomputable def Mo_lacksOf_l5 (this : Nat) (v1 : Int32) (v2 : Int32) (v3 : Int32) (v4 : Int32) (m : Mem) : Option ((Int32 × Int32) ⊕ (Int32)) :=
  if 4 ≤ v4 then up (some v3) else (Mo_isTold this v2 m).bind (fun r13 => if r13 = 0 then up (some v3) else (Mo_ofGroup this v4 2 m).bind (fun r24 => if r24 ≤ 0 then Mo_lacksOf_b42 this v1 v2 v4 v3 0 m else (Mo_lacksAt this v1 v4 v2 m).bind (fun r35 => Mo_lacksOf_b42 this v1 v2 v4 v3 r35 m)))
noncomputable def Mo_lacksOf (this : Nat) (v1 : Int32) (v2 : Int32) (m : Mem) : Option (Int32) :=
  loop (fun s : Int32 × Int32 => Mo_lacksOf_l5 this v1 v2 s.1 s.2 m) (0, 0)
noncomputable def Mo_isEnough_l2 (this : Nat) (v1 : Int32) (v2 : Int32) (m : Mem) : Option ((Int32) ⊕ (Int32)) :=
  if 4 ≤ v2 then up (some 1) else (Mo_lacksOf this v1 v2 m).bind (fun r10 => if r10 ≤ 0 then some (Sum.inl ((v2 + 1))) else up (some 0))
noncomputable def Mo_isEnough (this : Nat) (v1 : Int32) (m : Mem) : Option (Int32) :=
  loop (fun s : Int32 => Mo_isEnough_l2 this v1 s m) (0)
noncomputable def Mo_with_b81 (this : Nat) (v1 : Int32) (v2 : Int32) (v3 : Int64) (v5 : Int32) (m : Mem) : Option ((Int64 × Int32) ⊕ (Int64 × Mem)) :=
  some (Sum.inl (v3, (v5 + 1)))
noncomputable def Mo_with_b71 (this : Nat) (v1 : Int32) (v2 : Int32) (v3 : Int64) (v5 : Int32) (m : Mem) : Option ((Int64 × Int32) ⊕ (Int64 × Mem)) :=
  gd (inb v5 128) (Mo_with_b81 this v1 v2 (v3 + (rL m (this + 7) (ix v5))) v5 m)
noncomputable def Mo_with_l40 (this : Nat) (v1 : Int32) (v2 : Int32) (v3 : Int64) (v5 : Int32) (m : Mem) : Option ((Int64 × Int32) ⊕ (Int64 × Mem)) :=
  (Mo_sets this m).bind (fun r43 => if r43 ≤ v5 then up (some (v3, m)) else (Mo_ones v5 m).bind (fun r51 => if r51 = v1 then if v2 = 0 then Mo_with_b71 this v1 v2 v3 v5 m else (Mo_isEnough this v5 m).bind (fun r65 => if r65 = 0 then Mo_with_b71 this v1 v2 v3 v5 m else Mo_with_b81 this v1 v2 v3 v5 m) else Mo_with_b81 this v1 v2 v3 v5 m))
noncomputable def Mo_with (this : Nat) (v1 : Int32) (v2 : Int32) (m : Mem) : Option (Int64 × Mem) :=
  (Mo_isFloe this m).bind (fun r1 => if r1 = 0 then some ((-2), m) else gd (inb 5 200) ((Mo_in (v1.toInt64) 0 ((rI m (this + 1) (ix 5)).toInt64) m).bind (fun r17 => if r17 = 0 then some ((-2), m) else (Mo_beginParts this m).bind (fun m28 => (Mo_hour this m28).bind (fun m32 => loop (fun s : Int64 × Int32 => Mo_with_l40 this v1 v2 s.1 s.2 m32) (0, 0))))))
noncomputable def Mo_enough (this : Nat) (v1 : Int32) (m : Mem) : Option (Int32) :=
  (Mo_isSet this v1 m).bind (fun r2 => if r2 = 0 then some (-2) else (Mo_isEnough this v1 m).bind (fun r10 => if r10 = 0 then some 0 else some 1))
noncomputable def Mo_lacks (this : Nat) (v1 : Int32) (v2 : Int32) (m : Mem) : Option (Int32) :=
  (Mo_isSet this v1 m).bind (fun r2 => if r2 = 0 then some (-2) else (Mo_in (v2.toInt64) 0 3 m).bind (fun r14 => if r14 = 0 then some (-2) else (Mo_lacksOf this v1 v2 m).bind (fun r23 => some r23)))
noncomputable def Mo_loses_b54 (this : Nat) (v1 : Int64) (v3 : Int32) (m : Mem) : Option ((Int64 × Int32 × Mem) ⊕ (Int64 × Mem)) :=
  some (Sum.inl (v1, (v3 + 1), m))
noncomputable def Mo_loses_l8 (this : Nat) (v1 : Int64) (v3 : Int32) (m : Mem) : Option ((Int64 × Int32 × Mem) ⊕ (Int64 × Mem)) :=
  (Mo_sets this m).bind (fun r10 => if r10 ≤ v3 then up (some (v1, m)) else gd (inb v3 128) (if (rL m (this + 7) (ix v3)) = 0 then Mo_loses_b54 this v1 v3 m else (Mo_isEnough this v3 m).bind (fun r29 => if r29 = 0 then gd (inb v3 128) (gd (inb v3 128) (lt (wL m (this + 7) (ix v3) 0) (fun m53 => Mo_loses_b54 this (v1 + (rL m (this + 7) (ix v3))) v3 m53))) else Mo_loses_b54 this v1 v3 m)))
noncomputable def Mo_loses (this : Nat) (m : Mem) : Option (Int64 × Mem) :=
  (Mo_hour this m).bind (fun m1 => loop (fun s : Int64 × Int32 × Mem => Mo_loses_l8 this s.1 s.2.1 s.2.2) (0, 0, m1))
noncomputable def Mo_lostIn_l9 (this : Nat) (v1 : Int32) (v2 : Int64) (v4 : Int32) (m : Mem) : Option ((Int64 × Int32 × Mem) ⊕ (Int64 × Mem)) :=
  if v1 ≤ v4 then up (some (v2, m)) else (Mo_loses this m).bind (fun r17 => some (Sum.inl ((v2 + r17.1), (v4 + 1), r17.2)))
noncomputable def Mo_lostIn (this : Nat) (v1 : Int32) (m : Mem) : Option (Int64 × Mem) :=
  (Mo_beginParts this m).bind (fun m1 => loop (fun s : Int64 × Int32 × Mem => Mo_lostIn_l9 this v1 s.1 s.2.1 s.2.2) (0, 0, m1))
noncomputable def Mo_lost (this : Nat) (v1 : Int32) (m : Mem) : Option (Int64 × Mem) :=
  (Mo_isFloe this m).bind (fun r1 => if r1 = 0 then some ((-2), m) else (Mo_in (v1.toInt64) 1 48 m).bind (fun r13 => if r13 = 0 then some ((-2), m) else (Mo_lostIn this v1 m).bind (fun r21 => some (r21.1, r21.2))))
noncomputable def Mo_safe_l31 (this : Nat) (v1 : Int32) (v2 : Int64) (v4 : Int32) (m : Mem) : Option ((Int64 × Int32 × Mem) ⊕ (Int32 × Mem)) :=
  if 48 < v4 then up (some (48, m)) else (Mo_loses this m).bind (fun r40 => if (v2 + r40.1) ≤ ((v1.toInt64) * 1000000000) then some (Sum.inl ((v2 + r40.1), (v4 + 1), r40.2)) else up (some ((v4 - 1), r40.2)))
noncomputable def Mo_safe (this : Nat) (v1 : Int32) (m : Mem) : Option (Int32 × Mem) :=
  (Mo_isFloe this m).bind (fun r1 => if r1 = 0 then some ((-2), m) else (Mo_in (v1.toInt64) 0 1000 m).bind (fun r13 => if r13 = 0 then some ((-2), m) else (Mo_beginParts this m).bind (fun m23 => loop (fun s : Int64 × Int32 × Mem => Mo_safe_l31 this v1 s.1 s.2.1 s.2.2) (0, 1, m23))))
noncomputable def Mo_isSlot (v0 : Int32) (m : Mem) : Option (Int32) :=
  (Mo_in (v0.toInt64) 0 3 m).bind (fun r6 => gd (isZ r6) (some r6))
noncomputable def Mo_judge_l32 (this : Nat) (v1 : Int32) (v2 : Int32) (m : Mem) : Option ((Int32) ⊕ (Int32)) :=
  gd (inb v1 4) (if (rI m (this + 16) (ix v1)) ≤ v2 then up (some v2) else gd (inb ((60 * v1) + v2) 240) ((Mo_sets this m).bind (fun r55 => (Mo_in (rL m (this + 18) (ix ((60 * v1) + v2))) 0 ((r55 - 1).toInt64) m).bind (fun r61 => if r61 = 0 then up (some v2) else gd (inb ((60 * v1) + v2) 240) ((Mo_isEnough this ((rL m (this + 18) (ix ((60 * v1) + v2))).toInt32) m).bind (fun r80 => if r80 = 0 then up (some v2) else some (Sum.inl ((v2 + 1)))))))))
noncomputable def Mo_judge (this : Nat) (v1 : Int32) (m : Mem) : Option (Int32) :=
  (Mo_isSlot v1 m).bind (fun r1 => if r1 = 0 then some (-2) else (Mo_isFloe this m).bind (fun r8 => if r8 = 0 then some (-2) else gd (inb v1 4) (if (rI m (this + 16) (ix v1)) = (-1) then some (-6) else loop (fun s : Int32 => Mo_judge_l32 this v1 s m) (0))))
noncomputable def Mo_heapMany_b24 (this : Nat) (v2 : Int32) (k0 : Int32) (k1 : Int32) (m : Mem) : Option ((Int32 × Int32) ⊕ (Int32)) :=
  some (Sum.inl ((k0 + k1), (v2 + 1)))
noncomputable def Mo_heapMany_l4 (this : Nat) (v1 : Int32) (v2 : Int32) (m : Mem) : Option ((Int32 × Int32) ⊕ (Int32)) :=
  if 8 ≤ v2 then up (some v1) else (Mo_isThere this v2 m).bind (fun r13 => if r13 = 0 then Mo_heapMany_b24 this v2 v1 0 m else Mo_heapMany_b24 this v2 v1 1 m)
noncomputable def Mo_heapMany (this : Nat) (m : Mem) : Option (Int32) :=
  loop (fun s : Int32 × Int32 => Mo_heapMany_l4 this s.1 s.2 m) (0, 0)
noncomputable def Mo_round_l7 (v0 : Int32) (v2 : Int32) (m : Mem) : Option ((Int32) ⊕ (Int32)) :=
  (Mo_holds v0 v2 m).bind (fun r9 => if r9 = 0 then some (Sum.inl (((v2 + 1) - (v2 + 1) / 8 * 8))) else up (some v2))
noncomputable def Mo_round (v0 : Int32) (v1 : Int32) (m : Mem) : Option (Int32) :=
  loop (fun s : Int32 => Mo_round_l7 v0 s m) (((v1 + 1) - (v1 + 1) / 8 * 8))
noncomputable def Mo_firstOf (v0 : Int32) (m : Mem) : Option (Int32) :=
  (Mo_round v0 7 m).bind (fun r3 => some r3)
noncomputable def Mo_thereSet_b26 (this : Nat) (v2 : Int32) (k0 : Int32) (k1 : Int32) (m : Mem) : Option ((Int32 × Int32) ⊕ (Int32)) :=
  some (Sum.inl ((k0 ||| k1), (v2 + 1)))
noncomputable def Mo_thereSet_l4 (this : Nat) (v1 : Int32) (v2 : Int32) (m : Mem) : Option ((Int32 × Int32) ⊕ (Int32)) :=
  if 8 ≤ v2 then up (some v1) else (Mo_isThere this v2 m).bind (fun r13 => if r13 = 0 then Mo_thereSet_b26 this v2 v1 0 m else Mo_thereSet_b26 this v2 v1 ((1 : Int32) <<< (v2 &&& 31)) m)
noncomputable def Mo_thereSet (this : Nat) (m : Mem) : Option (Int32) :=
  loop (fun s : Int32 × Int32 => Mo_thereSet_l4 this s.1 s.2 m) (0, 0)
noncomputable def Mo_goesRound_l6 (this : Nat) (v1 : Int32) (v2 : Int32) (v4 : Int32) (v5 : Int32) (m : Mem) : Option ((Int32 × Int32 × Mem) ⊕ (Int32 × Mem)) :=
  (Mo_ofSort this v1 3 m).bind (fun r11 => if r11 ≤ v5 then up (some (v4, m)) else (Mo_ofHeap this v4 (3 + v1) m).bind (fun r29 => (Mo_setHeap this v4 (3 + v1) (r29 + 1) m).bind (fun m34 => (Mo_round v2 v4 m34).bind (fun r40 => some (Sum.inl (r40, (v5 + 1), m34))))))
noncomputable def Mo_goesRound (this : Nat) (v1 : Int32) (v2 : Int32) (v3 : Int32) (m : Mem) : Option (Int32 × Mem) :=
  loop (fun s : Int32 × Int32 × Mem => Mo_goesRound_l6 this v1 v2 s.1 s.2.1 s.2.2) (v3, 0, m)
noncomputable def Mo_takeUp_l10 (this : Nat) (v1 : Int32) (v2 : Int32) (m : Mem) : Option ((Int32 × Mem) ⊕ ((Int32 × Mem) ⊕ (Mem))) :=
  if 6 ≤ v2 then up (some (Sum.inl ((v1 + 1), m))) else (Mo_setHeap this v1 (3 + v2) 0 m).bind (fun m22 => some (Sum.inl ((v2 + 1), m22)))
noncomputable def Mo_takeUp_l2 (this : Nat) (v1 : Int32) (m : Mem) : Option ((Int32 × Mem) ⊕ (Mem)) :=
  if 8 ≤ v1 then up (some m) else loop (fun s : Int32 × Mem => Mo_takeUp_l10 this v1 s.1 s.2) (0, m)
noncomputable def Mo_takeUp (this : Nat) (m : Mem) : Option (Mem) :=
  loop (fun s : Int32 × Mem => Mo_takeUp_l2 this s.1 s.2) (0, m)
noncomputable def Mo_seatHeaps_b52 (this : Nat) (v2 : Int32) (v3 : Int32) (k0 : Int32) (k1 : Int32) (m : Mem) : Option ((Int32 × Int32) ⊕ ((Int32 × Int32) ⊕ (Int32))) :=
  some (Sum.inl ((k0 ||| k1), (v3 + 1)))
noncomputable def Mo_seatHeaps_b51 (this : Nat) (v2 : Int32) (v3 : Int32) (k0 : Int32) (m : Mem) : Option ((Int32 × Int32) ⊕ ((Int32 × Int32) ⊕ (Int32))) :=
  Mo_seatHeaps_b52 this v2 v3 k0 0 m
noncomputable def Mo_seatHeaps_l12 (this : Nat) (v2 : Int32) (v1 : Int32) (v3 : Int32) (m : Mem) : Option ((Int32 × Int32) ⊕ ((Int32 × Int32) ⊕ (Int32))) :=
  gd (inb 6 200) (if (rI m (this + 1) (ix 6)) ≤ v3 then up (some (Sum.inl (v1, (v2 + 1)))) else (Mo_ofSort this v3 0 m).bind (fun r27 => if r27 = 2 then (Mo_ofHeap this v2 (3 + v3) m).bind (fun r39 => if r39 ≤ 0 then Mo_seatHeaps_b51 this v2 v3 v1 m else Mo_seatHeaps_b52 this v2 v3 v1 ((1 : Int32) <<< (v2 &&& 31)) m) else Mo_seatHeaps_b51 this v2 v3 v1 m))
noncomputable def Mo_seatHeaps_l4 (this : Nat) (v1 : Int32) (v2 : Int32) (m : Mem) : Option ((Int32 × Int32) ⊕ (Int32)) :=
  if 8 ≤ v2 then up (if v1 = 0 then (Mo_thereSet this m).bind (fun r71 => some r71) else some v1) else loop (fun s : Int32 × Int32 => Mo_seatHeaps_l12 this v2 s.1 s.2 m) (v1, 0)
noncomputable def Mo_seatHeaps (this : Nat) (m : Mem) : Option (Int32) :=
  loop (fun s : Int32 × Int32 => Mo_seatHeaps_l4 this s.1 s.2 m) (0, 0)
noncomputable def Mo_lays_b135 (this : Nat) (v3 : Int32) (v4 : Int32) (v5 : Int32) (m : Mem) : Option ((Int32 × Int32 × Mem) ⊕ (Mem)) :=
  some (Sum.inl (v3, (v5 + 1), m))
noncomputable def Mo_lays_l102 (this : Nat) (v4 : Int32) (v3 : Int32) (v5 : Int32) (m : Mem) : Option ((Int32 × Int32 × Mem) ⊕ (Mem)) :=
  gd (inb 6 200) (if (rI m (this + 1) (ix 6)) ≤ v5 then up (some m) else (Mo_ofSort this v5 0 m).bind (fun r118 => if r118 = 2 then Mo_lays_b135 this v3 v4 v5 m else (Mo_goesRound this v5 v4 v3 m).bind (fun r131 => Mo_lays_b135 this r131.1 v4 v5 r131.2)))
noncomputable def Mo_lays_b75 (this : Nat) (v1 : Int32) (v2 : Int32) (v3 : Int32) (v4 : Int32) (m : Mem) : Option ((Int32 × Int32 × Mem) ⊕ (Mem)) :=
  some (Sum.inl (v3, (v4 + 1), m))
noncomputable def Mo_lays_b70 (this : Nat) (v1 : Int32) (v2 : Int32) (v3 : Int32) (v4 : Int32) (k1 : Int32) (k2 : Int32) (m : Mem) : Option ((Int32 × Int32 × Mem) ⊕ (Mem)) :=
  (Mo_goesRound this k1 k2 v3 m).bind (fun r71 => Mo_lays_b75 this v1 v2 r71.1 v4 r71.2)
noncomputable def Mo_lays_b53 (this : Nat) (v1 : Int32) (v2 : Int32) (v3 : Int32) (v4 : Int32) (m : Mem) : Option ((Int32 × Int32 × Mem) ⊕ (Mem)) :=
  if v1 = 0 then (Mo_firstOf v2 m).bind (fun r62 => Mo_lays_b70 this v1 v2 v3 v4 v4 ((1 : Int32) <<< (r62 &&& 31)) m) else Mo_lays_b70 this v1 v2 v3 v4 v4 v2 m
noncomputable def Mo_lays_b43 (this : Nat) (v1 : Int32) (v2 : Int32) (v3 : Int32) (v4 : Int32) (m : Mem) : Option ((Int32 × Int32 × Mem) ⊕ (Mem)) :=
  if v1 = 2 then (Mo_firstOf v2 m).bind (fun r49 => Mo_lays_b53 this v1 v2 r49 v4 m) else Mo_lays_b53 this v1 v2 v3 v4 m
noncomputable def Mo_lays_l12 (this : Nat) (v1 : Int32) (v2 : Int32) (v3 : Int32) (v4 : Int32) (m : Mem) : Option ((Int32 × Int32 × Mem) ⊕ (Mem)) :=
  gd (inb 6 200) (if (rI m (this + 1) (ix 6)) ≤ v4 then up (if v1 = 3 then (Mo_seatHeaps this m).bind (fun r88 => (Mo_firstOf r88 m).bind (fun r95 => loop (fun s : Int32 × Int32 × Mem => Mo_lays_l102 this r88 s.1 s.2.1 s.2.2) (r95, 0, m))) else some m) else if v1 = 3 then (Mo_ofSort this v4 0 m).bind (fun r33 => if r33 = 2 then Mo_lays_b43 this v1 v2 v3 v4 m else Mo_lays_b75 this v1 v2 v3 v4 m) else Mo_lays_b43 this v1 v2 v3 v4 m)
noncomputable def Mo_lays (this : Nat) (v1 : Int32) (v2 : Int32) (m : Mem) : Option (Mem) :=
  (Mo_takeUp this m).bind (fun m1 => (Mo_firstOf v2 m1).bind (fun r5 => loop (fun s : Int32 × Int32 × Mem => Mo_lays_l12 this v1 v2 s.1 s.2.1 s.2.2) (r5, 0, m1)))
noncomputable def Mo_lay_b95 (this : Nat) (v3 : Int32) (k0 : Int32) (k1 : Int32) (m : Mem) : Option ((Int32 × Int32) ⊕ (Int32 × Mem)) :=
  some (Sum.inl ((k0 + k1), (v3 + 1)))
noncomputable def Mo_lay_l57 (this : Nat) (v2 : Int32) (v3 : Int32) (v4 : Int32) (v5 : Int32) (m : Mem) : Option ((Int32 × Int32) ⊕ ((Int32 × Int32) ⊕ (Int32 × Mem))) :=
  if 6 ≤ v5 then up (if v4 ≤ 0 then Mo_lay_b95 this v3 v2 0 m else Mo_lay_b95 this v3 v2 1 m) else (Mo_ofHeap this v3 (3 + v5) m).bind (fun r72 => some (Sum.inl ((v4 + r72), (v5 + 1))))
noncomputable def Mo_lay_l45 (this : Nat) (v2 : Int32) (v3 : Int32) (m : Mem) : Option ((Int32 × Int32) ⊕ (Int32 × Mem)) :=
  if 8 ≤ v3 then up (some (v2, m)) else loop (fun s : Int32 × Int32 => Mo_lay_l57 this v2 v3 s.1 s.2 m) (0, 0)
noncomputable def Mo_lay (this : Nat) (v1 : Int32) (m : Mem) : Option (Int32 × Mem) :=
  (Mo_isFloe this m).bind (fun r1 => if r1 = 0 then some ((-2), m) else (Mo_in (v1.toInt64) 0 3 m).bind (fun r13 => if r13 = 0 then some ((-2), m) else (Mo_heapMany this m).bind (fun r23 => if r23 = 0 then some ((-5), m) else (Mo_thereSet this m).bind (fun r35 => (Mo_lays this v1 r35 m).bind (fun m38 => loop (fun s : Int32 × Int32 => Mo_lay_l45 this s.1 s.2 m38) (0, 0))))))
noncomputable def Mo_keepsHeaps_l2 (this : Nat) (v1 : Int32) (m : Mem) : Option ((Int32 × Mem) ⊕ (Mem)) :=
  if 72 ≤ v1 then up (some m) else gd (inb (116 + v1) 200) (gd (inb v1 72) (lt (wI m (this + 9) (ix v1) (rI m (this + 1) (ix (116 + v1)))) (fun m22 => some (Sum.inl ((v1 + 1), m22)))))
noncomputable def Mo_keepsHeaps (this : Nat) (m : Mem) : Option (Mem) :=
  loop (fun s : Int32 × Mem => Mo_keepsHeaps_l2 this s.1 s.2) (0, m)
noncomputable def Mo_givesBack_l2 (this : Nat) (v1 : Int32) (m : Mem) : Option ((Int32 × Mem) ⊕ (Mem)) :=
  if 72 ≤ v1 then up (some m) else gd (inb v1 72) (gd (inb (116 + v1) 200) (lt (wI m (this + 1) (ix (116 + v1)) (rI m (this + 9) (ix v1))) (fun m22 => some (Sum.inl ((v1 + 1), m22)))))
noncomputable def Mo_givesBack (this : Nat) (m : Mem) : Option (Mem) :=
  loop (fun s : Int32 × Mem => Mo_givesBack_l2 this s.1 s.2) (0, m)
noncomputable def Mo_trialOf (this : Nat) (v1 : Int32) (v2 : Int32) (m : Mem) : Option (Int64 × Mem) :=
  (Mo_keepsHeaps this m).bind (fun m1 => (Mo_lays this v1 v2 m1).bind (fun m7 => (Mo_lostIn this 1 m7).bind (fun r12 => (Mo_givesBack this r12.2).bind (fun m17 => some (r12.1, m17)))))
noncomputable def Mo_trial (this : Nat) (v1 : Int32) (m : Mem) : Option (Int64 × Mem) :=
  (Mo_isFloe this m).bind (fun r1 => if r1 = 0 then some ((-2), m) else (Mo_in (v1.toInt64) 0 3 m).bind (fun r13 => if r13 = 0 then some ((-2), m) else (Mo_heapMany this m).bind (fun r24 => if r24 = 0 then some ((-5), m) else (Mo_thereSet this m).bind (fun r39 => (Mo_trialOf this v1 r39 m).bind (fun r42 => some (r42.1, r42.2))))))
noncomputable def Mo_best_b69 (this : Nat) (v1 : Int32) (v2 : Int64) (v4 : Int32) (m : Mem) : Option ((Int32 × Int64 × Int32 × Mem) ⊕ (Int32 × Mem)) :=
  some (Sum.inl (v1, v2, (v4 + 1), m))
noncomputable def Mo_best_l35 (this : Nat) (v1 : Int32) (v2 : Int64) (v4 : Int32) (m : Mem) : Option ((Int32 × Int64 × Int32 × Mem) ⊕ (Int32 × Mem)) :=
  if 4 ≤ v4 then up (some (v1, m)) else (Mo_thereSet this m).bind (fun r45 => (Mo_trialOf this v4 r45 m).bind (fun r48 => if r48.1 < v2 then Mo_best_b69 this v4 r48.1 v4 r48.2 else Mo_best_b69 this v1 v2 v4 r48.2))
noncomputable def Mo_best (this : Nat) (m : Mem) : Option (Int32 × Mem) :=
  (Mo_isFloe this m).bind (fun r1 => if r1 = 0 then some ((-2), m) else (Mo_heapMany this m).bind (fun r11 => if r11 = 0 then some ((-5), m) else (Mo_thereSet this m).bind (fun r25 => (Mo_trialOf this 0 r25 m).bind (fun r28 => loop (fun s : Int32 × Int64 × Int32 × Mem => Mo_best_l35 this s.1 s.2.1 s.2.2.1 s.2.2.2) (0, r28.1, 1, r28.2)))))
noncomputable def Mo_isBettered_b161 (this : Nat) (v1 : Int64) (v3 : Int32) (v4 : Int32) (v5 : Int32) (v6 : Int32) (m : Mem) : Option ((Int64 × Int32 × Int32 × Int32 × Int32 × Mem) ⊕ (Int32 × Mem)) :=
  some (Sum.inl (v1, v3, v4, v5, (v6 + 1), m))
noncomputable def Mo_isBettered_b131 (this : Nat) (v1 : Int64) (v3 : Int32) (v4 : Int32) (v5 : Int32) (v6 : Int32) (v7 : Int32) (v8 : Int32) (v9 : Int32) (v10 : Int32) (m : Mem) : Option ((Int64 × Int32 × Int32 × Int32 × Int32 × Mem) ⊕ ((Int64 × Int32 × Int32 × Int32 × Int32 × Mem) ⊕ ((Int64 × Int32 × Int32 × Int32 × Int32 × Mem) ⊕ (Int32 × Mem)))) :=
  some (Sum.inl (v1, v3, v4, v5, (v10 + 1), m))
noncomputable def Mo_isBettered_l71 (this : Nat) (v6 : Int32) (v7 : Int32) (v8 : Int32) (v9 : Int32) (v1 : Int64) (v3 : Int32) (v4 : Int32) (v5 : Int32) (v10 : Int32) (m : Mem) : Option ((Int64 × Int32 × Int32 × Int32 × Int32 × Mem) ⊕ ((Int64 × Int32 × Int32 × Int32 × Int32 × Mem) ⊕ ((Int64 × Int32 × Int32 × Int32 × Int32 × Mem) ⊕ (Int32 × Mem)))) :=
  gd (inb 1 200) (if (rI m (this + 1) (ix 1)) ≤ v10 then up (some (Sum.inl (v1, v3, v4, v5, (v9 + 1), m))) else (Mo_setHeap this v6 1 v10 m).bind (fun m88 => (Mo_setHeap this v6 2 v9 m88).bind (fun m97 => (Mo_lostIn this 1 m97).bind (fun r102 => if r102.1 < v1 then Mo_isBettered_b131 this r102.1 v6 v10 v9 v6 v7 v8 v9 v10 r102.2 else Mo_isBettered_b131 this v1 v3 v4 v5 v6 v7 v8 v9 v10 r102.2))))
noncomputable def Mo_isBettered_l57 (this : Nat) (v6 : Int32) (v7 : Int32) (v8 : Int32) (v1 : Int64) (v3 : Int32) (v4 : Int32) (v5 : Int32) (v9 : Int32) (m : Mem) : Option ((Int64 × Int32 × Int32 × Int32 × Int32 × Mem) ⊕ ((Int64 × Int32 × Int32 × Int32 × Int32 × Mem) ⊕ (Int32 × Mem))) :=
  gd (inb 2 200) (if (rI m (this + 1) (ix 2)) ≤ v9 then up ((Mo_setHeap this v6 1 v7 m).bind (fun m149 => (Mo_setHeap this v6 2 v8 m149).bind (fun m158 => Mo_isBettered_b161 this v1 v3 v4 v5 v6 m158))) else loop (fun s : Int64 × Int32 × Int32 × Int32 × Int32 × Mem => Mo_isBettered_l71 this v6 v7 v8 v9 s.1 s.2.1 s.2.2.1 s.2.2.2.1 s.2.2.2.2.1 s.2.2.2.2.2) (v1, v3, v4, v5, 0, m))
noncomputable def Mo_isBettered_l17 (this : Nat) (v1 : Int64) (v3 : Int32) (v4 : Int32) (v5 : Int32) (v6 : Int32) (m : Mem) : Option ((Int64 × Int32 × Int32 × Int32 × Int32 × Mem) ⊕ (Int32 × Mem)) :=
  if 8 ≤ v6 then up (if v3 = (-1) then some (0, m) else (Mo_setHeap this v3 1 v4 m).bind (fun m179 => (Mo_setHeap this v3 2 v5 m179).bind (fun m187 => some (1, m187)))) else (Mo_isThere this v6 m).bind (fun r27 => if r27 = 0 then Mo_isBettered_b161 this v1 v3 v4 v5 v6 m else (Mo_ofHeap this v6 1 m).bind (fun r40 => (Mo_ofHeap this v6 2 m).bind (fun r49 => loop (fun s : Int64 × Int32 × Int32 × Int32 × Int32 × Mem => Mo_isBettered_l57 this v6 r40 r49 s.1 s.2.1 s.2.2.1 s.2.2.2.1 s.2.2.2.2.1 s.2.2.2.2.2) (v1, v3, v4, v5, 0, m))))
noncomputable def Mo_isBettered (this : Nat) (m : Mem) : Option (Int32 × Mem) :=
  (Mo_lostIn this 1 m).bind (fun r2 => loop (fun s : Int64 × Int32 × Int32 × Int32 × Int32 × Mem => Mo_isBettered_l17 this s.1 s.2.1 s.2.2.1 s.2.2.2.1 s.2.2.2.2.1 s.2.2.2.2.2) (r2.1, (-1), 0, 0, 0, r2.2))
noncomputable def Mo_bettersBy_l2 (this : Nat) (v1 : Int32) (v2 : Int32) (m : Mem) : Option ((Int32 × Mem) ⊕ (Int32 × Mem)) :=
  if v1 ≤ v2 then up (some (v2, m)) else (Mo_isBettered this m).bind (fun r8 => if r8.1 = 0 then up (some (v2, r8.2)) else some (Sum.inl ((v2 + 1), r8.2)))
noncomputable def Mo_bettersBy (this : Nat) (v1 : Int32) (m : Mem) : Option (Int32 × Mem) :=
  loop (fun s : Int32 × Mem => Mo_bettersBy_l2 this v1 s.1 s.2) (0, m)
noncomputable def Mo_betters (this : Nat) (v1 : Int32) (m : Mem) : Option (Int32 × Mem) :=
  (Mo_isFloe this m).bind (fun r1 => if r1 = 0 then some ((-2), m) else (Mo_in (v1.toInt64) 0 5 m).bind (fun r13 => if r13 = 0 then some ((-2), m) else (Mo_bettersBy this v1 m).bind (fun r21 => some (r21.1, r21.2))))
noncomputable def Mo_gap (this : Nat) (m : Mem) : Option (Int64 × Mem) :=
  (Mo_isFloe this m).bind (fun r1 => if r1 = 0 then some ((-2), m) else (Mo_lostIn this 1 m).bind (fun r13 => (Mo_keepsHeaps this r13.2).bind (fun m18 => (Mo_bettersBy this 5 m18).bind (fun r23 => (Mo_lostIn this 1 r23.2).bind (fun r29 => (Mo_givesBack this r29.2).bind (fun m34 => some ((r13.1 - r29.1), m34)))))))
noncomputable def Mo_heaps_b92 (this : Nat) (v1 : Int32) (v2 : Int64) (v4 : Int32) (v5 : Int32) (v6 : Int32) (m : Mem) : Option ((Int32 × Int64 × Int32 × Int32 × Int32 × Mem) ⊕ (Int32 × Mem)) :=
  some (Sum.inl (v1, v2, v4, v5, (v6 + 1), m))
noncomputable def Mo_heaps_b86 (this : Nat) (v4 : Int32) (v5 : Int32) (v6 : Int32) (v7 : Int64) (m : Mem) : Option ((Int32 × Int64 × Int32 × Int32 × Int32 × Mem) ⊕ (Int32 × Mem)) :=
  Mo_heaps_b92 this v6 v7 v4 v5 v6 m
noncomputable def Mo_heaps_l34 (this : Nat) (v1 : Int32) (v2 : Int64) (v4 : Int32) (v5 : Int32) (v6 : Int32) (m : Mem) : Option ((Int32 × Int64 × Int32 × Int32 × Int32 × Mem) ⊕ (Int32 × Mem)) :=
  (Mo_heapMany this m).bind (fun r37 => if r37 < v6 then up (some (v1, m)) else (Mo_thereSet this m).bind (fun r44 => (Mo_round r44 v5 m).bind (fun r49 => (Mo_trialOf this 1 (v4 ||| ((1 : Int32) <<< (r49 &&& 31))) m).bind (fun r67 => if v1 ≤ 0 then Mo_heaps_b86 this (v4 ||| ((1 : Int32) <<< (r49 &&& 31))) r49 v6 r67.1 r67.2 else if r67.1 < v2 then Mo_heaps_b86 this (v4 ||| ((1 : Int32) <<< (r49 &&& 31))) r49 v6 r67.1 r67.2 else Mo_heaps_b92 this v1 v2 (v4 ||| ((1 : Int32) <<< (r49 &&& 31))) r49 v6 r67.2))))
noncomputable def Mo_heaps (this : Nat) (m : Mem) : Option (Int32 × Mem) :=
  (Mo_isFloe this m).bind (fun r1 => if r1 = 0 then some ((-2), m) else (Mo_heapMany this m).bind (fun r11 => if r11 = 0 then some ((-5), m) else loop (fun s : Int32 × Int64 × Int32 × Int32 × Int32 × Mem => Mo_heaps_l34 this s.1 s.2.1 s.2.2.1 s.2.2.2.1 s.2.2.2.2.1 s.2.2.2.2.2) (0, 0, 0, 7, 1, m)))
noncomputable def Mo_where_b133 (this : Nat) (v1 : Int32) (v2 : Int32) (v3 : Int32) (v4 : Int32) (v5 : Int64) (v7 : Int32) (v8 : Int32) (m : Mem) : Option ((Int32 × Int64 × Int32 × Mem) ⊕ ((Int32 × Int64 × Int32 × Mem) ⊕ (Int32 × Mem))) :=
  some (Sum.inl (v4, v5, (v8 + 1), m))
noncomputable def Mo_where_b119 (this : Nat) (v1 : Int32) (v2 : Int32) (v3 : Int32) (v7 : Int32) (v8 : Int32) (v9 : Int64) (m : Mem) : Option ((Int32 × Int64 × Int32 × Mem) ⊕ ((Int32 × Int64 × Int32 × Mem) ⊕ (Int32 × Mem))) :=
  Mo_where_b133 this v1 v2 v3 (v8 + (12 * v7)) v9 v7 v8 m
noncomputable def Mo_where_l54 (this : Nat) (v1 : Int32) (v2 : Int32) (v3 : Int32) (v7 : Int32) (v4 : Int32) (v5 : Int64) (v8 : Int32) (m : Mem) : Option ((Int32 × Int64 × Int32 × Mem) ⊕ ((Int32 × Int64 × Int32 × Mem) ⊕ (Int32 × Mem))) :=
  gd (inb 1 200) (if (rI m (this + 1) (ix 1)) ≤ v8 then up (some (Sum.inl (v4, v5, (v7 + 1), m))) else gd (inb (188 + (3 * v1)) 200) (lt (wI m (this + 1) (ix (188 + (3 * v1))) v8) (fun m78 => gd (inb ((188 + (3 * v1)) + 1) 200) (lt (wI m78 (this + 1) (ix ((188 + (3 * v1)) + 1)) v7) (fun m94 => (Mo_lostIn this 1 m94).bind (fun r97 => if v4 = (-1) then Mo_where_b119 this v1 v2 v3 v7 v8 r97.1 r97.2 else if r97.1 < v5 then Mo_where_b119 this v1 v2 v3 v7 v8 r97.1 r97.2 else Mo_where_b133 this v1 v2 v3 v4 v5 v7 v8 r97.2))))))
noncomputable def Mo_where_l40 (this : Nat) (v1 : Int32) (v2 : Int32) (v3 : Int32) (v4 : Int32) (v5 : Int64) (v7 : Int32) (m : Mem) : Option ((Int32 × Int64 × Int32 × Mem) ⊕ (Int32 × Mem)) :=
  gd (inb 2 200) (if (rI m (this + 1) (ix 2)) ≤ v7 then up (gd (inb (188 + (3 * v1)) 200) (lt (wI m (this + 1) (ix (188 + (3 * v1))) v2) (fun m157 => gd (inb ((188 + (3 * v1)) + 1) 200) (lt (wI m157 (this + 1) (ix ((188 + (3 * v1)) + 1)) v3) (fun m172 => some (v4, m172)))))) else loop (fun s : Int32 × Int64 × Int32 × Mem => Mo_where_l54 this v1 v2 v3 v7 s.1 s.2.1 s.2.2.1 s.2.2.2) (v4, v5, 0, m))
noncomputable def Mo_where (this : Nat) (v1 : Int32) (m : Mem) : Option (Int32 × Mem) :=
  (Mo_isGroup v1 m).bind (fun r1 => if r1 = 0 then some ((-2), m) else (Mo_isFloe this m).bind (fun r8 => if r8 = 0 then some ((-2), m) else (Mo_ofGroup this v1 0 m).bind (fun r20 => (Mo_ofGroup this v1 1 m).bind (fun r27 => loop (fun s : Int32 × Int64 × Int32 × Mem => Mo_where_l40 this v1 r20 r27 s.1 s.2.1 s.2.2.1 s.2.2.2) ((-1), 0, 0, m)))))
noncomputable def Mo_watchOf_l7 (this : Nat) (v1 : Int32) (v2 : Int64) (v4 : Int32) (m : Mem) : Option ((Int64 × Int32) ⊕ (Int64)) :=
  if v1 ≤ v4 then up (some v2) else gd (inb 13 200) (some (Sum.inl (((v2 * ((100 - (rI m (this + 1) (ix 13))).toInt64)) / 100), (v4 + 1))))
noncomputable def Mo_watchOf (this : Nat) (v1 : Int32) (m : Mem) : Option (Int64) :=
  loop (fun s : Int64 × Int32 => Mo_watchOf_l7 this v1 s.1 s.2 m) (1000000000000, 0)
noncomputable def Mo_watch (this : Nat) (v1 : Int32) (m : Mem) : Option (Int64) :=
  (Mo_in (v1.toInt64) 0 28 m).bind (fun r6 => if r6 = 0 then some (-2) else (Mo_watchOf this v1 m).bind (fun r14 => some r14))
noncomputable def Mo_watches_l17 (this : Nat) (v1 : Int32) (v2 : Int32) (m : Mem) : Option ((Int32) ⊕ (Int32)) :=
  if 28 < v2 then up (some (-1)) else (Mo_watchOf this v2 m).bind (fun r25 => if ((v1.toInt64) * 1000000000) < r25 then some (Sum.inl ((v2 + 1))) else up (some v2))
noncomputable def Mo_watches (this : Nat) (v1 : Int32) (m : Mem) : Option (Int32) :=
  (Mo_in (v1.toInt64) 0 1000 m).bind (fun r6 => if r6 = 0 then some (-2) else loop (fun s : Int32 => Mo_watches_l17 this v1 s m) (0))
noncomputable def Mo_ofOther (this : Nat) (v1 : Int32) (v2 : Int32) (m : Mem) : Option (Int32) :=
  gd (inb ((104 + (3 * v1)) + v2) 200) (some (rI m (this + 1) (ix ((104 + (3 * v1)) + v2))))
noncomputable def Mo_breaksOf (this : Nat) (v1 : Int32) (m : Mem) : Option (Int32) :=
  if v1 = 0 then gd (inb 16 200) (some (rI m (this + 1) (ix 16))) else (Mo_ofOther this (v1 - 1) 2 m).bind (fun r19 => some r19)
noncomputable def Mo_spot (v0 : Int32) (v1 : Int32) (v2 : Int32) (m : Mem) : Option (Int32) :=
  some (((80 * v0) + (16 * v1)) + v2)
noncomputable def Mo_staysOn (this : Nat) (v1 : Int32) (v2 : Int32) (v3 : Int32) (m : Mem) : Option (Int64) :=
  (Mo_spot (v1 + 1) v2 v3 m).bind (fun r9 => gd (inb r9 4960) ((Mo_breaksOf this v2 m).bind (fun r18 => some (((rL m (this + 10) (ix r9)) * ((10000 - r18).toInt64)) / 10000))))
noncomputable def Mo_isNear_b14 (this : Nat) (m : Mem) : Option (Int32) :=
  some 1
noncomputable def Mo_isNear (this : Nat) (v1 : Int32) (v2 : Int32) (m : Mem) : Option (Int32) :=
  if v1 = 0 then Mo_isNear_b14 this m else (Mo_holds v2 (v1 - 1) m).bind (fun r8 => if r8 = 0 then some 0 else Mo_isNear_b14 this m)
noncomputable def Mo_goesTo_b92 (this : Nat) (v1 : Int32) (v2 : Int32) (v3 : Int32) (v4 : Int32) (v5 : Int64) (v7 : Int32) (m : Mem) : Option ((Int32 × Int64 × Int32) ⊕ (Int32)) :=
  some (Sum.inl (v4, v5, (v7 + 1)))
noncomputable def Mo_goesTo_l15 (this : Nat) (v1 : Int32) (v2 : Int32) (v3 : Int32) (v4 : Int32) (v5 : Int64) (v7 : Int32) (m : Mem) : Option ((Int32 × Int64 × Int32) ⊕ (Int32)) :=
  gd (inb 7 200) (if (rI m (this + 1) (ix 7)) < v7 then up (some v4) else if v7 = v2 then Mo_goesTo_b92 this v1 v2 v3 v4 v5 v7 m else (Mo_isNear this v7 v3 m).bind (fun r37 => if r37 = 0 then Mo_goesTo_b92 this v1 v2 v3 v4 v5 v7 m else (Mo_staysOn this v1 v7 v3 m).bind (fun r51 => gd (inb 17 200) (if v5 < ((r51 * ((10000 - (rI m (this + 1) (ix 17))).toInt64)) / 10000) then Mo_goesTo_b92 this v1 v2 v3 v7 ((r51 * ((10000 - (rI m (this + 1) (ix 17))).toInt64)) / 10000) v7 m else Mo_goesTo_b92 this v1 v2 v3 v4 v5 v7 m))))
noncomputable def Mo_goesTo (this : Nat) (v1 : Int32) (v2 : Int32) (v3 : Int32) (m : Mem) : Option (Int32) :=
  (Mo_staysOn this v1 v2 v3 m).bind (fun r7 => loop (fun s : Int32 × Int64 × Int32 => Mo_goesTo_l15 this v1 v2 v3 s.1 s.2.1 s.2.2 m) (v2, r7, 1))
noncomputable def Mo_endOf (this : Nat) (v1 : Int32) (v2 : Int32) (v3 : Int32) (m : Mem) : Option (Int64) :=
  (Mo_goesTo this v1 v2 v3 m).bind (fun r4 => if r4 = v2 then (Mo_staysOn this v1 v2 v3 m).bind (fun r19 => some r19) else (Mo_staysOn this v1 r4 v3 m).bind (fun r30 => gd (inb 17 200) (some ((r30 * ((10000 - (rI m (this + 1) (ix 17))).toInt64)) / 10000))))
noncomputable def Mo_goesThrough_l230 (this : Nat) (v1 : Int32) (v2 : Int32) (v3 : Int32) (v4 : Int32) (m : Mem) : Option ((Int32 × Mem) ⊕ ((Int32 × Mem) ⊕ ((Int32 × Mem) ⊕ (Mem)))) :=
  if v1 ≤ v4 then up (some (Sum.inl ((v3 + 1), m))) else (Mo_spot v2 v3 v4 m).bind (fun r244 => gd (inb v4 16) (gd (inb r244 4960) (lt (wL m (this + 10) (ix r244) (rL m (this + 11) (ix v4))) (fun m254 => some (Sum.inl ((v4 + 1), m254))))))
noncomputable def Mo_goesThrough_b215 (this : Nat) (v1 : Int32) (v2 : Int32) (v3 : Int32) (v4 : Int32) (v5 : Int32) (m : Mem) : Option ((Int32 × Mem) ⊕ ((Int32 × Mem) ⊕ ((Int32 × Mem) ⊕ ((Int32 × Mem) ⊕ (Mem))))) :=
  some (Sum.inl ((v5 + 1), m))
noncomputable def Mo_goesThrough_l133 (this : Nat) (v1 : Int32) (v2 : Int32) (v3 : Int32) (v4 : Int32) (v5 : Int32) (m : Mem) : Option ((Int32 × Mem) ⊕ ((Int32 × Mem) ⊕ ((Int32 × Mem) ⊕ ((Int32 × Mem) ⊕ (Mem))))) :=
  if v1 ≤ v5 then up (some (Sum.inl ((v4 + (-1)), m))) else (Mo_holds v5 v4 m).bind (fun r143 => if r143 = 0 then (Mo_ofOther this v4 0 m).bind (fun r153 => if r153 ≤ v2 then (Mo_ofOther this v4 1 m).bind (fun r173 => gd (inb (v5 ||| ((1 : Int32) <<< (v4 &&& 31))) 16) ((Mo_ofOther this v4 1 m).bind (fun r196 => gd (inb v5 16) (gd (inb v5 16) (lt (wL m (this + 11) (ix v5) ((((r173.toInt64) * (rL m (this + 11) (ix (v5 ||| ((1 : Int32) <<< (v4 &&& 31)))))) + (((100 - r196).toInt64) * (rL m (this + 11) (ix v5)))) / 100)) (fun m214 => Mo_goesThrough_b215 this v1 v2 v3 v4 v5 m214)))))) else Mo_goesThrough_b215 this v1 v2 v3 v4 v5 m) else Mo_goesThrough_b215 this v1 v2 v3 v4 v5 m)
noncomputable def Mo_goesThrough_l125 (this : Nat) (v1 : Int32) (v2 : Int32) (v3 : Int32) (v4 : Int32) (m : Mem) : Option ((Int32 × Mem) ⊕ ((Int32 × Mem) ⊕ ((Int32 × Mem) ⊕ (Mem)))) :=
  if v4 < 0 then up (loop (fun s : Int32 × Mem => Mo_goesThrough_l230 this v1 v2 v3 s.1 s.2) (0, m)) else loop (fun s : Int32 × Mem => Mo_goesThrough_l133 this v1 v2 v3 v4 s.1 s.2) (0, m)
noncomputable def Mo_goesThrough_b107 (this : Nat) (v1 : Int32) (v2 : Int32) (v3 : Int32) (v4 : Int32) (k1 : Int32) (k2 : Int64) (m : Mem) : Option ((Int32 × Mem) ⊕ ((Int32 × Mem) ⊕ ((Int32 × Mem) ⊕ (Mem)))) :=
  gd (inb k1 16) (lt (wL m (this + 11) (ix k1) k2) (fun m107 => some (Sum.inl ((v4 + 1), m107))))
noncomputable def Mo_goesThrough_l73 (this : Nat) (v1 : Int32) (v2 : Int32) (v3 : Int32) (v4 : Int32) (m : Mem) : Option ((Int32 × Mem) ⊕ ((Int32 × Mem) ⊕ ((Int32 × Mem) ⊕ (Mem)))) :=
  if v1 ≤ v4 then up (gd (inb 7 200) (loop (fun s : Int32 × Mem => Mo_goesThrough_l125 this v1 v2 v3 s.1 s.2) (((rI m (this + 1) (ix 7)) - 1), m))) else (Mo_isNear this v3 v4 m).bind (fun r89 => if r89 = 0 then Mo_goesThrough_b107 this v1 v2 v3 v4 v4 0 m else (Mo_endOf this v2 v3 v4 m).bind (fun r100 => Mo_goesThrough_b107 this v1 v2 v3 v4 v4 r100 m))
noncomputable def Mo_goesThrough_l59 (this : Nat) (v1 : Int32) (v2 : Int32) (v3 : Int32) (m : Mem) : Option ((Int32 × Mem) ⊕ ((Int32 × Mem) ⊕ (Mem))) :=
  gd (inb 7 200) (if (rI m (this + 1) (ix 7)) < v3 then up (some (Sum.inl ((v2 + (-1)), m))) else loop (fun s : Int32 × Mem => Mo_goesThrough_l73 this v1 v2 v3 s.1 s.2) (0, m))
noncomputable def Mo_goesThrough_l52 (this : Nat) (v1 : Int32) (v2 : Int32) (m : Mem) : Option ((Int32 × Mem) ⊕ (Mem)) :=
  if v2 < 1 then up (some m) else loop (fun s : Int32 × Mem => Mo_goesThrough_l59 this v1 v2 s.1 s.2) (0, m)
noncomputable def Mo_goesThrough_l12 (this : Nat) (v1 : Int32) (v2 : Int32) (m : Mem) : Option ((Int32 × Mem) ⊕ (Mem)) :=
  if 80 ≤ v2 then up (gd (inb 4 200) (loop (fun s : Int32 × Mem => Mo_goesThrough_l52 this v1 s.1 s.2) ((rI m (this + 1) (ix 4)), m))) else gd (inb 4 200) (gd (inb ((80 * ((rI m (this + 1) (ix 4)) + 1)) + v2) 4960) (lt (wL m (this + 10) (ix ((80 * ((rI m (this + 1) (ix 4)) + 1)) + v2)) 1000000000000) (fun m38 => some (Sum.inl ((v2 + 1), m38)))))
noncomputable def Mo_goesThrough (this : Nat) (m : Mem) : Option (Mem) :=
  gd (inb 7 200) (loop (fun s : Int32 × Mem => Mo_goesThrough_l12 this ((1 : Int32) <<< ((rI m (this + 1) (ix 7)) &&& 31)) s.1 s.2) (0, m))
noncomputable def Mo_isMorning (this : Nat) (v1 : Int32) (v2 : Int32) (v3 : Int32) (m : Mem) : Option (Int32) :=
  (Mo_isFloe this m).bind (fun r1 => if r1 = 0 then some 0 else gd (inb 4 200) ((Mo_in (v1.toInt64) 1 ((rI m (this + 1) (ix 4)).toInt64) m).bind (fun r17 => if r17 = 0 then some 0 else gd (inb 7 200) ((Mo_in (v2.toInt64) 0 ((rI m (this + 1) (ix 7)).toInt64) m).bind (fun r34 => if r34 = 0 then some 0 else gd (inb 7 200) ((Mo_in (v3.toInt64) 0 ((((1 : Int32) <<< ((rI m (this + 1) (ix 7)) &&& 31)) - 1).toInt64) m).bind (fun r55 => if r55 = 0 then some 0 else (Mo_isNear this v2 v3 m).bind (fun r64 => if r64 = 0 then some 0 else some 1))))))))
noncomputable def Mo_alive (this : Nat) (v1 : Int32) (v2 : Int32) (v3 : Int32) (m : Mem) : Option (Int64 × Mem) :=
  (Mo_isMorning this v1 v2 v3 m).bind (fun r4 => if r4 = 0 then some ((-2), m) else (Mo_goesThrough this m).bind (fun m15 => (Mo_spot v1 v2 v3 m15).bind (fun r25 => gd (inb r25 4960) (some ((rL m15 (this + 10) (ix r25)), m15)))))
noncomputable def Mo_go (this : Nat) (v1 : Int32) (v2 : Int32) (v3 : Int32) (m : Mem) : Option (Int32 × Mem) :=
  (Mo_isMorning this v1 v2 v3 m).bind (fun r4 => if r4 = 0 then some ((-2), m) else (Mo_goesThrough this m).bind (fun m14 => (Mo_goesTo this v1 v2 v3 m14).bind (fun r21 => some (r21, m14))))
noncomputable def Mo_leave_b59 (this : Nat) (v1 : Int32) (v3 : Int32) (k0 : Int32) (k1 : Int32) (m : Mem) : Option ((Int32 × Int32) ⊕ ((Int32) ⊕ (Int32 × Mem))) :=
  some (Sum.inl ((k0 ||| k1), (v3 + 1)))
noncomputable def Mo_leave_l30 (this : Nat) (v1 : Int32) (v2 : Int32) (v3 : Int32) (m : Mem) : Option ((Int32 × Int32) ⊕ ((Int32) ⊕ (Int32 × Mem))) :=
  gd (inb 7 200) (if (rI m (this + 1) (ix 7)) ≤ v3 then up ((Mo_goesTo this v1 0 v2 m).bind (fun r71 => if r71 = 0 then some (Sum.inl ((v1 + 1))) else up (some (v1, m)))) else (Mo_ofOther this v3 0 m).bind (fun r45 => if v1 < r45 then Mo_leave_b59 this v1 v3 v2 0 m else Mo_leave_b59 this v1 v3 v2 ((1 : Int32) <<< (v3 &&& 31)) m))
noncomputable def Mo_leave_l16 (this : Nat) (v1 : Int32) (m : Mem) : Option ((Int32) ⊕ (Int32 × Mem)) :=
  gd (inb 4 200) (if (rI m (this + 1) (ix 4)) < v1 then up (some ((-1), m)) else loop (fun s : Int32 × Int32 => Mo_leave_l30 this v1 s.1 s.2 m) (0, 0))
noncomputable def Mo_leave (this : Nat) (m : Mem) : Option (Int32 × Mem) :=
  (Mo_isFloe this m).bind (fun r1 => if r1 = 0 then some ((-2), m) else (Mo_goesThrough this m).bind (fun m11 => loop (fun s : Int32 => Mo_leave_l16 this s m11) (1)))
noncomputable def Mo_loads_b166 (this : Nat) (v1 : Int32) (v2 : Int32) (v4 : Int32) (v5 : Int32) (v6 : Int32) (m : Mem) : Option ((Int32 × Mem) ⊕ ((Int32 × Mem) ⊕ (Mem))) :=
  gd (inb ((1681 * v4) + v5) 11767) (lt (wI m (this + 12) (ix ((1681 * v4) + v5)) (jmin 1000000000 v6)) (fun m187 => some (Sum.inl ((v5 + 1), m187))))
noncomputable def Mo_loads_l88 (this : Nat) (v1 : Int32) (v2 : Int32) (v4 : Int32) (v5 : Int32) (v6 : Int32) (v7 : Int32) (m : Mem) : Option ((Int32 × Int32) ⊕ ((Int32 × Mem) ⊕ ((Int32 × Mem) ⊕ (Mem)))) :=
  (Mo_ofSort this v4 3 m).bind (fun r94 => if r94 < v7 then up (Mo_loads_b166 this v1 v2 v4 v5 v6 m) else (Mo_ofSort this v4 0 m).bind (fun r104 => if r104 = v1 then (Mo_ofSort this v4 2 m).bind (fun r119 => (Mo_ofSort this v4 1 m).bind (fun r144 => gd (inb ((1681 * (v4 + 1)) + (jmax 0 (v5 - (v7 * r144)))) 11767) (some (Sum.inl ((jmin v6 ((v7 * r119) + (rI m (this + 12) (ix ((1681 * (v4 + 1)) + (jmax 0 (v5 - (v7 * r144)))))))), (v7 + 1)))))) else up (Mo_loads_b166 this v1 v2 v4 v5 v6 m)))
noncomputable def Mo_loads_l61 (this : Nat) (v1 : Int32) (v2 : Int32) (v4 : Int32) (v5 : Int32) (m : Mem) : Option ((Int32 × Mem) ⊕ ((Int32 × Mem) ⊕ (Mem))) :=
  if v2 < v5 then up (some (Sum.inl ((v4 + (-1)), m))) else gd (inb ((1681 * (v4 + 1)) + v5) 11767) (loop (fun s : Int32 × Int32 => Mo_loads_l88 this v1 v2 v4 v5 s.1 s.2 m) ((rI m (this + 12) (ix ((1681 * (v4 + 1)) + v5))), 1))
noncomputable def Mo_loads_l53 (this : Nat) (v1 : Int32) (v2 : Int32) (v4 : Int32) (m : Mem) : Option ((Int32 × Mem) ⊕ (Mem)) :=
  if v4 < 0 then up (some m) else loop (fun s : Int32 × Mem => Mo_loads_l61 this v1 v2 v4 s.1 s.2) (0, m)
noncomputable def Mo_loads_b41 (this : Nat) (v1 : Int32) (v2 : Int32) (v3 : Int32) (v4 : Int32) (k1 : Int32) (k2 : Int32) (m : Mem) : Option ((Int32 × Mem) ⊕ (Mem)) :=
  gd (inb k1 11767) (lt (wI m (this + 12) (ix k1) k2) (fun m41 => some (Sum.inl ((v4 + 1), m41))))
noncomputable def Mo_loads_l11 (this : Nat) (v1 : Int32) (v2 : Int32) (v3 : Int32) (v4 : Int32) (m : Mem) : Option ((Int32 × Mem) ⊕ (Mem)) :=
  if v2 < v4 then up (loop (fun s : Int32 × Mem => Mo_loads_l53 this v1 v2 s.1 s.2) ((v3 - 1), m)) else if v4 = 0 then Mo_loads_b41 this v1 v2 v3 v4 ((1681 * v3) + v4) 0 m else Mo_loads_b41 this v1 v2 v3 v4 ((1681 * v3) + v4) 1000000000 m
noncomputable def Mo_loads (this : Nat) (v1 : Int32) (v2 : Int32) (m : Mem) : Option (Mem) :=
  gd (inb 6 200) (loop (fun s : Int32 × Mem => Mo_loads_l11 this v1 v2 (rI m (this + 1) (ix 6)) s.1 s.2) (0, m))
noncomputable def Mo_loadOf (this : Nat) (v1 : Int32) (v2 : Int32) (v3 : Int32) (m : Mem) : Option (Int32 × Mem) :=
  (Mo_isTold this v3 m).bind (fun r2 => if r2 = 0 then some (0, m) else (Mo_needOf v1 v2 v3 m).bind (fun r13 => (Mo_loads this v3 r13 m).bind (fun m22 => gd (inb r13 11767) (if (rI m22 (this + 12) (ix r13)) < 1000000000 then gd (inb r13 11767) (some ((rI m22 (this + 12) (ix r13)), m22)) else some ((-1), m22)))))
noncomputable def Mo_loadOfAll_l5 (this : Nat) (v1 : Int32) (v2 : Int32) (v3 : Int32) (v4 : Int32) (m : Mem) : Option ((Int32 × Int32 × Mem) ⊕ (Int32 × Mem)) :=
  if 4 ≤ v4 then up (some (v3, m)) else (Mo_loadOf this v1 v2 v4 m).bind (fun r16 => if r16.1 = (-1) then up (some ((-1), r16.2)) else some (Sum.inl ((v3 + r16.1), (v4 + 1), r16.2)))
noncomputable def Mo_loadOfAll (this : Nat) (v1 : Int32) (v2 : Int32) (m : Mem) : Option (Int32 × Mem) :=
  loop (fun s : Int32 × Int32 × Mem => Mo_loadOfAll_l5 this v1 v2 s.1 s.2.1 s.2.2) (0, 0, m)
noncomputable def Mo_isLoad (v0 : Int32) (v1 : Int32) (m : Mem) : Option (Int32) :=
  (Mo_in (v0.toInt64) 0 28 m).bind (fun r6 => if r6 = 0 then some 0 else (Mo_in (v1.toInt64) 0 60 m).bind (fun r18 => if r18 = 0 then some 0 else some 1))
noncomputable def Mo_least (this : Nat) (v1 : Int32) (v2 : Int32) (v3 : Int32) (m : Mem) : Option (Int32 × Mem) :=
  (Mo_isLoad v1 v2 m).bind (fun r2 => if r2 = 0 then some ((-2), m) else (Mo_in (v3.toInt64) (-1) 3 m).bind (fun r16 => if r16 = 0 then some ((-2), m) else if v3 = (-1) then (Mo_loadOfAll this v1 v2 m).bind (fun r33 => some (r33.1, r33.2)) else (Mo_loadOf this v1 v2 v3 m).bind (fun r43 => some (r43.1, r43.2))))
noncomputable def Mo_load_b170 (this : Nat) (v3 : Int32) (v4 : Int32) (v5 : Int32) (v6 : Int32) (m : Mem) : Option ((Int32 × Int32) ⊕ (Int32 × Mem)) :=
  some (Sum.inl (v5, (v6 + 1)))
noncomputable def Mo_load_l77 (this : Nat) (v3 : Int32) (v4 : Int32) (v5 : Int32) (v6 : Int32) (v7 : Int32) (m : Mem) : Option ((Int32) ⊕ ((Int32 × Int32) ⊕ (Int32 × Mem))) :=
  (Mo_ofSort this v6 2 m).bind (fun r83 => (Mo_ofSort this v6 1 m).bind (fun r108 => gd (inb ((1681 * (v6 + 1)) + (jmax 0 (v5 - (v7 * r108)))) 11767) (gd (inb ((1681 * v6) + v5) 11767) (if ((v7 * r83) + (rI m (this + 12) (ix ((1681 * (v6 + 1)) + (jmax 0 (v5 - (v7 * r108))))))) = (rI m (this + 12) (ix ((1681 * v6) + v5))) then up (if v6 = v3 then up (some (v7, m)) else (Mo_ofSort this v6 1 m).bind (fun r160 => Mo_load_b170 this v3 v4 (jmax 0 (v5 - (v7 * r160))) v6 m)) else some (Sum.inl ((v7 + 1)))))))
noncomputable def Mo_load_l53 (this : Nat) (v3 : Int32) (v4 : Int32) (v5 : Int32) (v6 : Int32) (m : Mem) : Option ((Int32 × Int32) ⊕ (Int32 × Mem)) :=
  if v3 < v6 then up (some (0, m)) else (Mo_ofSort this v6 0 m).bind (fun r63 => if r63 = v4 then loop (fun s : Int32 => Mo_load_l77 this v3 v4 v5 v6 s m) (0) else Mo_load_b170 this v3 v4 v5 v6 m)
noncomputable def Mo_load (this : Nat) (v1 : Int32) (v2 : Int32) (v3 : Int32) (m : Mem) : Option (Int32 × Mem) :=
  (Mo_isLoad v1 v2 m).bind (fun r2 => if r2 = 0 then some ((-2), m) else (Mo_isSort this v3 m).bind (fun r10 => if r10 = 0 then some ((-2), m) else (Mo_ofSort this v3 0 m).bind (fun r22 => (Mo_loadOf this v1 v2 r22 m).bind (fun r32 => if r32.1 = (-1) then some ((-1), r32.2) else (Mo_needOf v1 v2 r22 r32.2).bind (fun r45 => loop (fun s : Int32 × Int32 => Mo_load_l53 this v3 r22 s.1 s.2 r32.2) (r45, 0))))))
noncomputable def Mo_lasts_b52 (this : Nat) (v1 : Int32) (v2 : Int32) (v3 : Int32) (m : Mem) : Option ((Int32 × Mem) ⊕ (Int32 × Mem)) :=
  some (Sum.inl ((v3 + (-1)), m))
noncomputable def Mo_lasts_l26 (this : Nat) (v1 : Int32) (v2 : Int32) (v3 : Int32) (m : Mem) : Option ((Int32 × Mem) ⊕ (Int32 × Mem)) :=
  if v3 < 0 then up (some ((-1), m)) else (Mo_loadOfAll this v1 v3 m).bind (fun r33 => if r33.1 = (-1) then Mo_lasts_b52 this v1 v2 v3 r33.2 else if v2 < r33.1 then Mo_lasts_b52 this v1 v2 v3 r33.2 else up (some (v3, r33.2)))
noncomputable def Mo_lasts (this : Nat) (v1 : Int32) (v2 : Int32) (m : Mem) : Option (Int32 × Mem) :=
  (Mo_isLoad v1 0 m).bind (fun r2 => if r2 = 0 then some ((-2), m) else (Mo_in (v2.toInt64) 0 9999 m).bind (fun r14 => if r14 = 0 then some ((-2), m) else loop (fun s : Int32 × Mem => Mo_lasts_l26 this v1 v2 s.1 s.2) (60, m)))
noncomputable def Mo_acrossOf_b104 (this : Nat) (v1 : Int32) (v2 : Int32) (v3 : Int32) (v5 : Int32) (k0 : Int32) (k1 : Int32) (m : Mem) : Option ((Int32 × Int32) ⊕ (Int32)) :=
  some (Sum.inl ((k0 + k1), (v5 + 1)))
noncomputable def Mo_acrossOf_b103 (this : Nat) (v1 : Int32) (v2 : Int32) (v3 : Int32) (v5 : Int32) (k0 : Int32) (m : Mem) : Option ((Int32 × Int32) ⊕ (Int32)) :=
  Mo_acrossOf_b104 this v1 v2 v3 v5 k0 0 m
noncomputable def Mo_acrossOf_b32 (this : Nat) (v1 : Int32) (v2 : Int32) (v3 : Int32) (v4 : Int32) (v5 : Int32) (k0 : Int32) (m : Mem) : Option ((Int32 × Int32) ⊕ (Int32)) :=
  (Mo_ofHeap this v2 (1 + k0) m).bind (fun r40 => (Mo_ofGroup this v3 k0 m).bind (fun r49 => (Mo_holds v1 v5 m).bind (fun r59 => if r59 = 0 then Mo_acrossOf_b103 this v1 v2 v3 v5 v4 m else (Mo_ofCrack this v5 1 m).bind (fun r69 => if r69 ≤ (jmin r40 r49) then Mo_acrossOf_b103 this v1 v2 v3 v5 v4 m else (Mo_ofCrack this v5 1 m).bind (fun r86 => if (jmax r40 r49) < r86 then Mo_acrossOf_b103 this v1 v2 v3 v5 v4 m else Mo_acrossOf_b104 this v1 v2 v3 v5 v4 1 m)))))
noncomputable def Mo_acrossOf_l6 (this : Nat) (v1 : Int32) (v2 : Int32) (v3 : Int32) (v4 : Int32) (v5 : Int32) (m : Mem) : Option ((Int32 × Int32) ⊕ (Int32)) :=
  gd (inb 5 200) (if (rI m (this + 1) (ix 5)) ≤ v5 then up (some v4) else (Mo_ofCrack this v5 0 m).bind (fun r21 => if r21 = 0 then Mo_acrossOf_b32 this v1 v2 v3 v4 v5 0 m else Mo_acrossOf_b32 this v1 v2 v3 v4 v5 1 m))
noncomputable def Mo_acrossOf (this : Nat) (v1 : Int32) (v2 : Int32) (v3 : Int32) (m : Mem) : Option (Int32) :=
  loop (fun s : Int32 × Int32 => Mo_acrossOf_l6 this v1 v2 v3 s.1 s.2 m) (0, 0)
noncomputable def Mo_minutesOf (this : Nat) (v1 : Int32) (v2 : Int32) (v3 : Int32) (v4 : Int32) (m : Mem) : Option (Int32) :=
  (Mo_ofHeap this v2 1 m).bind (fun r3 => (Mo_ofGroup this v4 0 m).bind (fun r10 => (Mo_ofHeap this v2 2 m).bind (fun r20 => (Mo_ofGroup this v4 1 m).bind (fun r27 => (Mo_ofSort this v3 2 m).bind (fun r40 => gd (inb 11 200) (gd (inb 12 200) ((Mo_acrossOf this v1 v2 v4 m).bind (fun r66 => some (((r40 * ((jabs (r3 - r10)) + (jabs (r20 - r27)))) * (rI m (this + 1) (ix 11))) + ((rI m (this + 1) (ix 12)) * r66))))))))))
noncomputable def Mo_across (this : Nat) (v1 : Int32) (v2 : Int32) (v3 : Int32) (m : Mem) : Option (Int32) :=
  (Mo_isSet this v1 m).bind (fun r2 => if r2 = 0 then some (-2) else (Mo_isHeap v2 m).bind (fun r9 => if r9 = 0 then some (-2) else (Mo_isGroup v3 m).bind (fun r16 => if r16 = 0 then some (-2) else (Mo_isThere this v2 m).bind (fun r27 => if r27 = 0 then some (-1) else (Mo_acrossOf this v1 v2 v3 m).bind (fun r37 => some r37)))))
noncomputable def Mo_minutes (this : Nat) (v1 : Int32) (v2 : Int32) (v3 : Int32) (v4 : Int32) (m : Mem) : Option (Int32) :=
  (Mo_isSet this v1 m).bind (fun r2 => if r2 = 0 then some (-2) else (Mo_isHeap v2 m).bind (fun r9 => if r9 = 0 then some (-2) else (Mo_isSort this v3 m).bind (fun r17 => if r17 = 0 then some (-2) else (Mo_isGroup v4 m).bind (fun r25 => if r25 = 0 then some (-2) else (Mo_isThere this v2 m).bind (fun r36 => if r36 = 0 then some (-1) else (Mo_minutesOf this v1 v2 v3 v4 m).bind (fun r48 => some r48))))))
noncomputable def Mo_pieceOfGroup (this : Nat) (v1 : Int32) (v2 : Int32) (m : Mem) : Option (Int32) :=
  (Mo_ofGroup this v2 0 m).bind (fun r5 => (Mo_ofGroup this v2 1 m).bind (fun r11 => (Mo_pieceOf this v1 r5 r11 m).bind (fun r14 => some r14)))
noncomputable def Mo_fetchable_b75 (this : Nat) (v5 : Int32) (v6 : Int32) (k0 : Int32) (m : Mem) : Option (Int32) :=
  if k0 = 0 then some 0 else (Mo_ofHeap this v5 (3 + v6) m).bind (fun r89 => some r89)
noncomputable def Mo_fetchable_b74 (this : Nat) (v5 : Int32) (v6 : Int32) (m : Mem) : Option (Int32) :=
  Mo_fetchable_b75 this v5 v6 0 m
noncomputable def Mo_fetchable (this : Nat) (v1 : Int32) (v2 : Int32) (v3 : Int32) (v4 : Int32) (m : Mem) : Option (Int32) :=
  (Mo_isSort this (v3 - v3 / 6 * 6) m).bind (fun r15 => if r15 = 0 then Mo_fetchable_b74 this (v3 / 6) (v3 - v3 / 6 * 6) m else (Mo_isThere this (v3 / 6) m).bind (fun r24 => if r24 = 0 then Mo_fetchable_b74 this (v3 / 6) (v3 - v3 / 6 * 6) m else (Mo_ofSort this (v3 - v3 / 6 * 6) 0 m).bind (fun r34 => if r34 = v4 then (Mo_ofHeap this (v3 / 6) 1 m).bind (fun r48 => (Mo_ofHeap this (v3 / 6) 2 m).bind (fun r55 => (Mo_pieceOf this v1 r48 r55 m).bind (fun r58 => (Mo_pieceOfGroup this v1 v2 m).bind (fun r64 => if r58 = r64 then Mo_fetchable_b74 this (v3 / 6) (v3 - v3 / 6 * 6) m else Mo_fetchable_b75 this (v3 / 6) (v3 - v3 / 6 * 6) 1 m)))) else Mo_fetchable_b74 this (v3 / 6) (v3 - v3 / 6 * 6) m)))
noncomputable def Mo_needFor (this : Nat) (v1 : Int32) (v2 : Int32) (v3 : Int32) (m : Mem) : Option (Int32) :=
  (Mo_pieceOfGroup this v1 v2 m).bind (fun r3 => (Mo_peopleOn this v1 r3 m).bind (fun r12 => gd (inb 4 200) ((Mo_needOf r12 (rI m (this + 1) (ix 4)) v3 m).bind (fun r27 => (Mo_givenOn this v1 r3 v3 m).bind (fun r35 => some (jmax 0 (r27 - r35)))))))
noncomputable def Mo_fetches_l111 (this : Nat) (v1 : Int32) (v2 : Int32) (v3 : Int32) (v4 : Int32) (v5 : Int32) (v6 : Int32) (v7 : Int32) (v8 : Int32) (v9 : Int32) (m : Mem) : Option ((Int32 × Int32) ⊕ ((Int32 × Mem) ⊕ ((Int32 × Mem) ⊕ (Int32 × Mem)))) :=
  if v6 < v9 then up (gd (inb ((1681 * v5) + v7) 82369) (lt (wI m (this + 13) (ix ((1681 * v5) + v7)) (jmin 1000000000 v8)) (fun m206 => some (Sum.inl ((v7 + 1), m206))))) else (Mo_minutesOf this v1 (v5 / 6) (v5 - v5 / 6 * 6) v2 m).bind (fun r135 => (Mo_ofSort this (v5 - v5 / 6 * 6) 1 m).bind (fun r163 => gd (inb ((1681 * (v5 + 1)) + (jmax 0 (v7 - (v9 * r163)))) 82369) (some (Sum.inl ((jmin v8 ((v9 * r135) + (rI m (this + 13) (ix ((1681 * (v5 + 1)) + (jmax 0 (v7 - (v9 * r163)))))))), (v9 + 1))))))
noncomputable def Mo_fetches_l83 (this : Nat) (v1 : Int32) (v2 : Int32) (v3 : Int32) (v4 : Int32) (v5 : Int32) (v6 : Int32) (v7 : Int32) (m : Mem) : Option ((Int32 × Mem) ⊕ ((Int32 × Mem) ⊕ (Int32 × Mem))) :=
  if v4 < v7 then up (some (Sum.inl ((v5 + (-1)), m))) else gd (inb ((1681 * (v5 + 1)) + v7) 82369) (loop (fun s : Int32 × Int32 => Mo_fetches_l111 this v1 v2 v3 v4 v5 v6 v7 s.1 s.2 m) ((rI m (this + 13) (ix ((1681 * (v5 + 1)) + v7))), 1))
noncomputable def Mo_fetches_l64 (this : Nat) (v1 : Int32) (v2 : Int32) (v3 : Int32) (v4 : Int32) (v5 : Int32) (m : Mem) : Option ((Int32 × Mem) ⊕ (Int32 × Mem)) :=
  if v5 < 0 then up (gd (inb v4 82369) (if (rI m (this + 13) (ix v4)) < 1000000000 then gd (inb v4 82369) (some ((rI m (this + 13) (ix v4)), m)) else some ((-1), m))) else (Mo_fetchable this v1 v2 v5 v3 m).bind (fun r75 => loop (fun s : Int32 × Mem => Mo_fetches_l83 this v1 v2 v3 v4 v5 r75 s.1 s.2) (0, m))
noncomputable def Mo_fetches_b53 (this : Nat) (v1 : Int32) (v2 : Int32) (v3 : Int32) (v4 : Int32) (v5 : Int32) (k1 : Int32) (k2 : Int32) (m : Mem) : Option ((Int32 × Mem) ⊕ (Int32 × Mem)) :=
  gd (inb k1 82369) (lt (wI m (this + 13) (ix k1) k2) (fun m53 => some (Sum.inl ((v5 + 1), m53))))
noncomputable def Mo_fetches_l24 (this : Nat) (v1 : Int32) (v2 : Int32) (v3 : Int32) (v4 : Int32) (v5 : Int32) (m : Mem) : Option ((Int32 × Mem) ⊕ (Int32 × Mem)) :=
  if v4 < v5 then up (loop (fun s : Int32 × Mem => Mo_fetches_l64 this v1 v2 v3 v4 s.1 s.2) (47, m)) else if v5 = 0 then Mo_fetches_b53 this v1 v2 v3 v4 v5 (80688 + v5) 0 m else Mo_fetches_b53 this v1 v2 v3 v4 v5 (80688 + v5) 1000000000 m
noncomputable def Mo_fetches_b19 (this : Nat) (v1 : Int32) (v2 : Int32) (v3 : Int32) (k0 : Int32) (m : Mem) : Option (Int32 × Mem) :=
  loop (fun s : Int32 × Mem => Mo_fetches_l24 this v1 v2 v3 k0 s.1 s.2) (0, m)
noncomputable def Mo_fetches (this : Nat) (v1 : Int32) (v2 : Int32) (v3 : Int32) (m : Mem) : Option (Int32 × Mem) :=
  (Mo_isTold this v3 m).bind (fun r2 => if r2 = 0 then Mo_fetches_b19 this v1 v2 v3 0 m else (Mo_needFor this v1 v2 v3 m).bind (fun r12 => Mo_fetches_b19 this v1 v2 v3 r12 m))
noncomputable def Mo_fetch_l23 (this : Nat) (v1 : Int32) (v2 : Int32) (v3 : Int32) (v4 : Int32) (m : Mem) : Option ((Int32 × Int32 × Mem) ⊕ (Int32 × Mem)) :=
  if 4 ≤ v4 then up (some (v3, m)) else (Mo_fetches this v1 v2 v4 m).bind (fun r34 => if r34.1 = (-1) then up (some ((-1), r34.2)) else some (Sum.inl ((v3 + r34.1), (v4 + 1), r34.2)))
noncomputable def Mo_fetch (this : Nat) (v1 : Int32) (v2 : Int32) (m : Mem) : Option (Int32 × Mem) :=
  (Mo_isSet this v1 m).bind (fun r2 => if r2 = 0 then some ((-2), m) else (Mo_isGroup v2 m).bind (fun r9 => if r9 = 0 then some ((-2), m) else loop (fun s : Int32 × Int32 × Mem => Mo_fetch_l23 this v1 v2 s.1 s.2.1 s.2.2) (0, 0, m)))
noncomputable def Mo_fetched_b215 (this : Nat) (v1 : Int32) (v2 : Int32) (v3 : Int32) (v4 : Int32) (v5 : Int32) (v6 : Int32) (v7 : Int32) (m : Mem) : Option ((Int32 × Int32) ⊕ (Int32 × Mem)) :=
  some (Sum.inl (v6, (v7 + 1)))
noncomputable def Mo_fetched_l117 (this : Nat) (v1 : Int32) (v2 : Int32) (v3 : Int32) (v4 : Int32) (v5 : Int32) (v6 : Int32) (v7 : Int32) (v9 : Int32) (v10 : Int32) (m : Mem) : Option ((Int32) ⊕ ((Int32 × Int32) ⊕ (Int32 × Mem))) :=
  (Mo_minutesOf this v1 (v7 / 6) (v7 - v7 / 6 * 6) v2 m).bind (fun r132 => gd (inb ((1681 * (v7 + 1)) + (jmax 0 (v6 - (v10 * v9)))) 82369) (gd (inb ((1681 * v7) + v6) 82369) (if ((v10 * r132) + (rI m (this + 13) (ix ((1681 * (v7 + 1)) + (jmax 0 (v6 - (v10 * v9))))))) = (rI m (this + 13) (ix ((1681 * v7) + v6))) then up (if v7 = ((6 * v3) + v4) then up (some (v10, m)) else Mo_fetched_b215 this v1 v2 v3 v4 v5 (jmax 0 (v6 - (v10 * v9))) v7 m) else some (Sum.inl ((v10 + 1))))))
noncomputable def Mo_fetched_l70 (this : Nat) (v1 : Int32) (v2 : Int32) (v3 : Int32) (v4 : Int32) (v5 : Int32) (v6 : Int32) (v7 : Int32) (m : Mem) : Option ((Int32 × Int32) ⊕ (Int32 × Mem)) :=
  if ((6 * v3) + v4) < v7 then up (some (0, m)) else (Mo_fetchable this v1 v2 v7 v5 m).bind (fun r89 => if r89 = 0 then Mo_fetched_b215 this v1 v2 v3 v4 v5 v6 v7 m else (Mo_ofSort this (v7 - v7 / 6 * 6) 1 m).bind (fun r109 => loop (fun s : Int32 => Mo_fetched_l117 this v1 v2 v3 v4 v5 v6 v7 r109 s m) (0)))
noncomputable def Mo_fetched (this : Nat) (v1 : Int32) (v2 : Int32) (v3 : Int32) (v4 : Int32) (m : Mem) : Option (Int32 × Mem) :=
  (Mo_isSet this v1 m).bind (fun r2 => if r2 = 0 then some ((-2), m) else (Mo_isGroup v2 m).bind (fun r9 => if r9 = 0 then some ((-2), m) else (Mo_isHeap v3 m).bind (fun r16 => if r16 = 0 then some ((-2), m) else (Mo_isSort this v4 m).bind (fun r25 => if r25 = 0 then some ((-2), m) else (Mo_ofSort this v4 0 m).bind (fun r38 => (Mo_fetches this v1 v2 r38 m).bind (fun r48 => if r48.1 = (-1) then some ((-1), r48.2) else (Mo_needFor this v1 v2 r38 r48.2).bind (fun r62 => loop (fun s : Int32 × Int32 => Mo_fetched_l70 this v1 v2 v3 v4 r38 s.1 s.2 r48.2) (r62, 0))))))))
noncomputable def Mo_thin_l32 (this : Nat) (v1 : Int32) (v2 : Int32) (v3 : Int32) (v4 : Int32) (m : Mem) : Option ((Int32) ⊕ (Int32)) :=
  if v3 < v4 then up (some (-1)) else (Mo_oddsBy this v1 (v3 - v4) m).bind (fun r44 => if v2 < r44 then some (Sum.inl ((v4 + 1))) else up (some v4))
noncomputable def Mo_thin (this : Nat) (v1 : Int32) (v2 : Int32) (m : Mem) : Option (Int32) :=
  (Mo_isCrack this v1 m).bind (fun r2 => if r2 = 0 then some (-2) else (Mo_in (v2.toInt64) 0 10000 m).bind (fun r14 => if r14 = 0 then some (-2) else (Mo_nearOf this v1 m).bind (fun r25 => loop (fun s : Int32 => Mo_thin_l32 this v1 v2 r25 s m) (0))))
noncomputable def Mo_apart_b94 (this : Nat) (v1 : Int32) (v2 : Int32) (v4 : Int32) (k0 : Int32) (m : Mem) : Option ((Int32 × Int32) ⊕ (Int32)) :=
  some (Sum.inl (k0, (v4 + 1)))
noncomputable def Mo_apart_b76 (this : Nat) (v1 : Int32) (v2 : Int32) (v3 : Int32) (v4 : Int32) (k0 : Int32) (m : Mem) : Option ((Int32 × Int32) ⊕ (Int32)) :=
  if v3 = (-1) then Mo_apart_b94 this v1 v2 v4 k0 m else Mo_apart_b94 this v1 v2 v4 (jmin v3 k0) m
noncomputable def Mo_apart_b43 (this : Nat) (v1 : Int32) (v2 : Int32) (v3 : Int32) (v4 : Int32) (k0 : Int32) (m : Mem) : Option ((Int32 × Int32) ⊕ (Int32)) :=
  (Mo_ofCrack this v4 1 m).bind (fun r49 => if k0 < r49 then Mo_apart_b76 this v1 v2 v3 v4 ((r49 - 1) - k0) m else Mo_apart_b76 this v1 v2 v3 v4 (k0 - r49) m)
noncomputable def Mo_apart_l17 (this : Nat) (v1 : Int32) (v2 : Int32) (v3 : Int32) (v4 : Int32) (m : Mem) : Option ((Int32 × Int32) ⊕ (Int32)) :=
  gd (inb 5 200) (if (rI m (this + 1) (ix 5)) ≤ v4 then up (some v3) else (Mo_ofCrack this v4 0 m).bind (fun r32 => if r32 = 0 then Mo_apart_b43 this v1 v2 v3 v4 v1 m else Mo_apart_b43 this v1 v2 v3 v4 v2 m))
noncomputable def Mo_apart (this : Nat) (v1 : Int32) (v2 : Int32) (m : Mem) : Option (Int32) :=
  (Mo_isCell this v1 v2 m).bind (fun r3 => if r3 = 0 then some (-2) else loop (fun s : Int32 × Int32 => Mo_apart_l17 this v1 v2 s.1 s.2 m) ((-1), 0))
noncomputable def Mo_drifts_l109 (this : Nat) (v1 : Int32) (m : Mem) : Option ((Int32 × Mem) ⊕ (Mem)) :=
  if 100 ≤ v1 then up (some m) else gd (inb v1 100) (gd (inb v1 100) (lt (wL m (this + 14) (ix v1) (rL m (this + 15) (ix v1))) (fun m126 => some (Sum.inl ((v1 + 1), m126)))))
noncomputable def Mo_drifts_l35 (this : Nat) (v1 : Int32) (m : Mem) : Option ((Int32 × Mem) ⊕ (Mem)) :=
  if 100 ≤ v1 then up (loop (fun s : Int32 × Mem => Mo_drifts_l109 this s.1 s.2) (0, m)) else gd (inb v1 100) (gd (inb 14 200) (gd (inb (jmax 0 (v1 - 2)) 100) (gd (inb (jmax 0 (v1 - 2)) 100) (lt (wL m (this + 15) (ix (jmax 0 (v1 - 2))) ((rL m (this + 15) (ix (jmax 0 (v1 - 2)))) + (((rL m (this + 14) (ix v1)) * ((rI m (this + 1) (ix 14)).toInt64)) / 100))) (fun m76 => gd (inb (jmin 99 (v1 + 1)) 100) (gd (inb v1 100) (gd (inb (jmin 99 (v1 + 1)) 100) (lt (wL m76 (this + 15) (ix (jmin 99 (v1 + 1))) ((rL m76 (this + 15) (ix (jmin 99 (v1 + 1)))) + ((rL m76 (this + 14) (ix v1)) - (((rL m (this + 14) (ix v1)) * ((rI m (this + 1) (ix 14)).toInt64)) / 100)))) (fun m100 => some (Sum.inl ((v1 + 1), m100)))))))))))
noncomputable def Mo_drifts_l2 (this : Nat) (v1 : Int32) (m : Mem) : Option ((Int32 × Mem) ⊕ (Mem)) :=
  if 100 ≤ v1 then up (gd (inb 0 100) (gd (inb 0 100) (lt (wL m (this + 15) (ix 0) (rL m (this + 14) (ix 0))) (fun m32 => loop (fun s : Int32 × Mem => Mo_drifts_l35 this s.1 s.2) (1, m32))))) else gd (inb v1 100) (lt (wL m (this + 15) (ix v1) 0) (fun m14 => some (Sum.inl ((v1 + 1), m14))))
noncomputable def Mo_drifts (this : Nat) (m : Mem) : Option (Mem) :=
  loop (fun s : Int32 × Mem => Mo_drifts_l2 this s.1 s.2) (0, m)
noncomputable def Mo_beginMiles_b31 (this : Nat) (v1 : Int32) (k1 : Int32) (k2 : Int64) (m : Mem) : Option ((Int32 × Mem) ⊕ (Mem)) :=
  gd (inb k1 100) (lt (wL m (this + 14) (ix k1) k2) (fun m31 => some (Sum.inl ((v1 + 1), m31))))
noncomputable def Mo_beginMiles_l2 (this : Nat) (v1 : Int32) (m : Mem) : Option ((Int32 × Mem) ⊕ (Mem)) :=
  if 100 ≤ v1 then up (some m) else gd (inb 15 200) (if v1 = (rI m (this + 1) (ix 15)) then Mo_beginMiles_b31 this v1 v1 1000000000000 m else Mo_beginMiles_b31 this v1 v1 0 m)
noncomputable def Mo_beginMiles (this : Nat) (m : Mem) : Option (Mem) :=
  loop (fun s : Int32 × Mem => Mo_beginMiles_l2 this s.1 s.2) (0, m)
noncomputable def Mo_miles_l41 (this : Nat) (v1 : Int32) (v2 : Int32) (v3 : Int32) (m : Mem) : Option ((Int32 × Mem) ⊕ (Int64 × Mem)) :=
  if v1 ≤ v3 then up (gd (inb v2 100) (some ((rL m (this + 14) (ix v2)), m))) else (Mo_drifts this m).bind (fun m47 => some (Sum.inl ((v3 + 1), m47)))
noncomputable def Mo_miles (this : Nat) (v1 : Int32) (v2 : Int32) (m : Mem) : Option (Int64 × Mem) :=
  (Mo_isFloe this m).bind (fun r1 => if r1 = 0 then some ((-2), m) else (Mo_in (v1.toInt64) 0 60 m).bind (fun r13 => if r13 = 0 then some ((-2), m) else (Mo_in (v2.toInt64) 0 99 m).bind (fun r25 => if r25 = 0 then some ((-2), m) else (Mo_beginMiles this m).bind (fun m36 => loop (fun s : Int32 × Mem => Mo_miles_l41 this v1 v2 s.1 s.2) (0, m36)))))
noncomputable def Mo_boats_l52 (this : Nat) (v1 : Int32) (v2 : Int32) (v3 : Int32) (v4 : Int64) (v6 : Int32) (m : Mem) : Option ((Int64 × Int32) ⊕ ((Int32 × Mem) ⊕ (Int32 × Mem))) :=
  if v1 < v6 then up (if v4 < ((v2.toInt64) * 1000000000) then (Mo_drifts this m).bind (fun m91 => some (Sum.inl ((v3 + 1), m91))) else up (some (v3, m))) else gd (inb v6 100) (some (Sum.inl ((v4 + (rL m (this + 14) (ix v6))), (v6 + 1))))
noncomputable def Mo_boats_l40 (this : Nat) (v1 : Int32) (v2 : Int32) (v3 : Int32) (m : Mem) : Option ((Int32 × Mem) ⊕ (Int32 × Mem)) :=
  if 60 < v3 then up (some ((-1), m)) else loop (fun s : Int64 × Int32 => Mo_boats_l52 this v1 v2 v3 s.1 s.2 m) (0, 0)
noncomputable def Mo_boats (this : Nat) (v1 : Int32) (v2 : Int32) (m : Mem) : Option (Int32 × Mem) :=
  (Mo_isFloe this m).bind (fun r1 => if r1 = 0 then some ((-2), m) else (Mo_in (v1.toInt64) 0 99 m).bind (fun r13 => if r13 = 0 then some ((-2), m) else (Mo_in (v2.toInt64) 1 1000 m).bind (fun r25 => if r25 = 0 then some ((-2), m) else (Mo_beginMiles this m).bind (fun m35 => loop (fun s : Int32 × Mem => Mo_boats_l40 this v1 v2 s.1 s.2) (0, m35)))))
noncomputable def Mo_saw (this : Nat) (v1 : Int32) (m : Mem) : Option (Int32 × Mem) :=
  (Mo_isCrack this v1 m).bind (fun r2 => if r2 = 0 then some ((-2), m) else (Mo_ofCrack this v1 7 m).bind (fun r15 => if r15 = 99 then some ((-3), m) else gd (inb ((24 + (8 * v1)) + 7) 200) (gd (inb ((24 + (8 * v1)) + 7) 200) (lt (wI m (this + 1) (ix ((24 + (8 * v1)) + 7)) ((rI m (this + 1) (ix ((24 + (8 * v1)) + 7))) + 1)) (fun m44 => (Mo_ofCrack this v1 7 m44).bind (fun r49 => some (r49, m44)))))))
noncomputable def Mo_pass (this : Nat) (v1 : Int32) (m : Mem) : Option (Int32 × Mem) :=
  (Mo_isFloe this m).bind (fun r1 => if r1 = 0 then some ((-2), m) else (Mo_in (v1.toInt64) 0 99 m).bind (fun r13 => if r13 = 0 then some ((-2), m) else gd (inb 19 200) (if ((rI m (this + 1) (ix 19)) + v1) ≤ 9999 then gd (inb 19 200) (gd (inb 19 200) (lt (wI m (this + 1) (ix 19) ((rI m (this + 1) (ix 19)) + v1)) (fun m47 => gd (inb 19 200) (some ((rI m47 (this + 1) (ix 19)), m47))))) else some ((-2), m))))
noncomputable def Mo_seam (this : Nat) (v1 : Int32) (m : Mem) : Option (Int32) :=
  (Mo_isCrack this v1 m).bind (fun r2 => if r2 = 0 then some (-2) else (Mo_oddsOf this v1 m).bind (fun r12 => (Mo_ofCrack this v1 7 m).bind (fun r23 => gd (inb 19 200) (gd (¬ (100 + (rI m (this + 1) (ix 19))) = 0) (some (((100 * r12) + (10000 * r23)) / (100 + (rI m (this + 1) (ix 19)))))))))
noncomputable def Mo_draw (this : Nat) (m : Mem) : Option (Int32 × Mem) :=
  lt (wL m this 24 (((1103515245 * (rL m this 24)) + 12345) - ((1103515245 * (rL m this 24)) + 12345) / 2147483648 * 2147483648)) (fun m17 => some (((((rL m17 this 24) / 65536) - ((rL m17 this 24) / 65536) / 10000 * 10000).toInt32), m17))
noncomputable def Mo_springsOut_b152 (this : Nat) (v3 : Int32) (v4 : Int32) (v5 : Int32) (m : Mem) : Option ((Int32 × Int32 × Mem) ⊕ (Int32 × Mem)) :=
  some (Sum.inl (v4, (v5 + 1), m))
noncomputable def Mo_springsOut_b123 (this : Nat) (v3 : Int32) (v4 : Int32) (v5 : Int32) (v6 : Int32) (k1 : Int32) (m : Mem) : Option ((Int32 × Mem) ⊕ ((Int32 × Int32 × Mem) ⊕ (Int32 × Mem))) :=
  lt (wI m this 25 k1) (fun m123 => some (Sum.inl ((v6 + 1), m123)))
noncomputable def Mo_springsOut_b99 (this : Nat) (v3 : Int32) (v4 : Int32) (v5 : Int32) (v6 : Int32) (k0 : Int32) (m : Mem) : Option ((Int32 × Mem) ⊕ ((Int32 × Int32 × Mem) ⊕ (Int32 × Mem))) :=
  if k0 = 0 then Mo_springsOut_b123 this v3 v4 v5 v6 (rI m this 25) m else Mo_springsOut_b123 this v3 v4 v5 v6 ((rI m this 25) ^^^ ((1 : Int32) <<< (v6 &&& 31))) m
noncomputable def Mo_springsOut_l31 (this : Nat) (v3 : Int32) (v4 : Int32) (v5 : Int32) (v6 : Int32) (m : Mem) : Option ((Int32 × Mem) ⊕ ((Int32 × Int32 × Mem) ⊕ (Int32 × Mem))) :=
  gd (inb 5 200) (if (rI m (this + 1) (ix 5)) ≤ v6 then up (if v4 = 0 then (Mo_isEnough this (rI m this 25) m).bind (fun r142 => if r142 = 0 then Mo_springsOut_b152 this v3 v5 v5 m else Mo_springsOut_b152 this v3 v4 v5 m) else Mo_springsOut_b152 this v3 v4 v5 m) else (Mo_draw this m).bind (fun r43 => (Mo_holds (rI r43.2 this 25) v6 r43.2).bind (fun r54 => if r54 = 0 then (Mo_oddsOf this v6 r43.2).bind (fun r88 => if r88 ≤ r43.1 then Mo_springsOut_b99 this v3 v4 v5 v6 0 r43.2 else Mo_springsOut_b99 this v3 v4 v5 v6 1 r43.2) else gd (inb 10 200) (if (100 * (rI r43.2 (this + 1) (ix 10))) ≤ r43.1 then Mo_springsOut_b99 this v3 v4 v5 v6 0 r43.2 else Mo_springsOut_b99 this v3 v4 v5 v6 1 r43.2))))
noncomputable def Mo_springsOut_l22 (this : Nat) (v3 : Int32) (v4 : Int32) (v5 : Int32) (m : Mem) : Option ((Int32 × Int32 × Mem) ⊕ (Int32 × Mem)) :=
  if v3 < v5 then up (some (v4, m)) else loop (fun s : Int32 × Mem => Mo_springsOut_l31 this v3 v4 v5 s.1 s.2) (0, m)
noncomputable def Mo_springsOut (this : Nat) (v1 : Int64) (v3 : Int32) (m : Mem) : Option (Int32 × Mem) :=
  lt (wL m this 24 v1) (fun m2 => gd (inb 18 200) (lt (wI m2 this 25 (rI m2 (this + 1) (ix 18))) (fun m13 => loop (fun s : Int32 × Int32 × Mem => Mo_springsOut_l22 this v3 s.1 s.2.1 s.2.2) (0, 1, m13))))
noncomputable def Mo_isSeed (v0 : Int32) (m : Mem) : Option (Int32) :=
  (Mo_in (v0.toInt64) 0 2000000000 m).bind (fun r6 => gd (isZ r6) (some r6))
noncomputable def Mo_run (this : Nat) (v1 : Int32) (v2 : Int32) (m : Mem) : Option (Int32 × Mem) :=
  (Mo_isSeed v1 m).bind (fun r1 => if r1 = 0 then some ((-2), m) else (Mo_in (v2.toInt64) 0 99 m).bind (fun r13 => if r13 = 0 then some ((-2), m) else (Mo_isFloe this m).bind (fun r20 => if r20 = 0 then some ((-2), m) else (Mo_springsOut this (v1.toInt64) v2 m).bind (fun r34 => lt (wI r34.2 this 26 r34.1) (fun m37 => gd (inb 18 200) (lt (wI m37 (this + 1) (ix 18) (rI m37 this 25)) (fun m50 => some ((rI m50 this 25), m50))))))))
noncomputable def Mo_struck (this : Nat) (m : Mem) : Option (Int32) :=
  some (rI m this 26)
noncomputable def Mo_springs_b74 (this : Nat) (v1 : Int32) (v2 : Int32) (v3 : Int32) (v5 : Int32) (k0 : Int32) (k1 : Int32) (m : Mem) : Option ((Int32 × Int32 × Mem) ⊕ (Int32 × Mem)) :=
  some (Sum.inl ((k0 + k1), (v5 + 1), m))
noncomputable def Mo_springs_l47 (this : Nat) (v1 : Int32) (v2 : Int32) (v3 : Int32) (v4 : Int32) (v5 : Int32) (m : Mem) : Option ((Int32 × Int32 × Mem) ⊕ (Int32 × Mem)) :=
  if v2 ≤ v5 then up (some (v4, m)) else (Mo_springsOut this ((v1.toInt64) + (v5.toInt64)) v3 m).bind (fun r63 => if r63.1 ≤ 0 then Mo_springs_b74 this v1 v2 v3 v5 v4 0 r63.2 else Mo_springs_b74 this v1 v2 v3 v5 v4 1 r63.2)
noncomputable def Mo_springs (this : Nat) (v1 : Int32) (v2 : Int32) (v3 : Int32) (m : Mem) : Option (Int32 × Mem) :=
  (Mo_isSeed v1 m).bind (fun r1 => if r1 = 0 then some ((-2), m) else (Mo_in (v2.toInt64) 1 60 m).bind (fun r13 => if r13 = 0 then some ((-2), m) else (Mo_in (v3.toInt64) 0 99 m).bind (fun r25 => if r25 = 0 then some ((-2), m) else (Mo_isFloe this m).bind (fun r32 => if r32 = 0 then some ((-2), m) else loop (fun s : Int32 × Int32 × Mem => Mo_springs_l47 this v1 v2 v3 s.1 s.2.1 s.2.2) (0, 0, m)))))
noncomputable def Mo_count_b184 (this : Nat) (v3 : Int32) (k0 : Int32) (k1 : Int32) (m : Mem) : Option ((Int32 × Int32) ⊕ (Int32)) :=
  some (Sum.inl ((k0 + k1), (v3 + 1)))
noncomputable def Mo_count_l163 (this : Nat) (v2 : Int32) (v3 : Int32) (m : Mem) : Option ((Int32 × Int32) ⊕ (Int32)) :=
  if 4 ≤ v3 then up (some v2) else gd (inb v3 4) (if (rI m (this + 16) (ix v3)) = (-1) then Mo_count_b184 this v3 v2 0 m else Mo_count_b184 this v3 v2 1 m)
noncomputable def Mo_count (this : Nat) (v1 : Int32) (m : Mem) : Option (Int32) :=
  if v1 = 0 then gd (inb 1 200) (some (rI m (this + 1) (ix 1))) else if v1 = 1 then gd (inb 2 200) (some (rI m (this + 1) (ix 2))) else if v1 = 2 then gd (inb 3 200) (some (rI m (this + 1) (ix 3))) else if v1 = 3 then gd (inb 4 200) (some (rI m (this + 1) (ix 4))) else if v1 = 4 then gd (inb 5 200) (some (rI m (this + 1) (ix 5))) else if v1 = 5 then gd (inb 6 200) (some (rI m (this + 1) (ix 6))) else if v1 = 6 then gd (inb 7 200) (some (rI m (this + 1) (ix 7))) else if v1 = 7 then (Mo_heapMany this m).bind (fun r124 => some r124) else if v1 = 8 then gd (inb 18 200) (some (rI m (this + 1) (ix 18))) else if v1 = 9 then gd (inb 0 200) (some (rI m (this + 1) (ix 0))) else if v1 = 10 then some (rI m this 5) else if v1 = 11 then gd (inb 19 200) (some (rI m (this + 1) (ix 19))) else if v1 = 12 then (Mo_sleepers this m).bind (fun r157 => some r157) else if v1 = 13 then loop (fun s : Int32 × Int32 => Mo_count_l163 this s.1 s.2 m) (0, 0) else some (-1)
noncomputable def Mo_cut (v0 : Int64) (v2 : Int32) (m : Mem) : Option (Int64) :=
  some ((v0 <<< ((64 - ((8 : Int32) <<< (v2 &&& 31))).toInt64 &&& 63)) >>> ((64 - ((8 : Int32) <<< (v2 &&& 31))).toInt64 &&& 63))
noncomputable def Mo_row_l52 (this : Nat) (v1 : Int32) (v4 : Int32) (m : Mem) : Option ((Int32 × Mem) ⊕ (Int32 × Mem)) :=
  if 60 ≤ v4 then up (some (0, m)) else gd (inb ((60 * v1) + v4) 240) (lt (wL m (this + 18) (ix ((60 * v1) + v4)) 0) (fun m71 => some (Sum.inl ((v4 + 1), m71))))
noncomputable def Mo_row (this : Nat) (v1 : Int32) (v2 : Int32) (v3 : Int32) (m : Mem) : Option (Int32 × Mem) :=
  (Mo_isSlot v1 m).bind (fun r1 => if r1 = 0 then some ((-2), m) else (Mo_in (v2.toInt64) 0 3 m).bind (fun r13 => if r13 = 0 then some ((-2), m) else if v3 ≤ 60 then if 0 ≤ v3 then gd (inb v1 4) (lt (wI m (this + 16) (ix v1) v3) (fun m41 => gd (inb v1 4) (lt (wI m41 (this + 17) (ix v1) v2) (fun m48 => loop (fun s : Int32 × Mem => Mo_row_l52 this v1 s.1 s.2) (0, m48))))) else some ((-3), m) else some ((-2), m)))
noncomputable def Mo_write (this : Nat) (v1 : Int32) (v2 : Int32) (v3 : Int64) (m : Mem) : Option (Int32 × Mem) :=
  (Mo_isSlot v1 m).bind (fun r1 => if r1 = 0 then some ((-2), m) else gd (inb v1 4) (if (rI m (this + 16) (ix v1)) = (-1) then some ((-6), m) else gd (inb v1 4) ((Mo_in (v2.toInt64) 0 (((rI m (this + 16) (ix v1)) - 1).toInt64) m).bind (fun r35 => if r35 = 0 then some ((-7), m) else gd (inb v1 4) ((Mo_cut v3 (rI m (this + 17) (ix v1)) m).bind (fun r61 => gd (inb ((60 * v1) + v2) 240) (lt (wL m (this + 18) (ix ((60 * v1) + v2)) r61) (fun m64 => some (0, m64)))))))))
noncomputable def Mo_paste_l150 (this : Nat) (v3 : Int32) (v4 : Int32) (v5 : Int32) (v6 : Int32) (m : Mem) : Option ((Int32 × Mem) ⊕ (Int32 × Mem)) :=
  if v5 ≤ v6 then up (some (0, m)) else gd (inb v6 60) (gd (inb (((60 * v3) + v4) + v6) 240) (lt (wL m (this + 18) (ix (((60 * v3) + v4) + v6)) (rL m (this + 19) (ix v6))) (fun m178 => some (Sum.inl ((v6 + 1), m178)))))
noncomputable def Mo_paste_l113 (this : Nat) (v1 : Int32) (v2 : Int32) (v3 : Int32) (v4 : Int32) (v5 : Int32) (v6 : Int32) (m : Mem) : Option ((Int32 × Mem) ⊕ (Int32 × Mem)) :=
  if v5 ≤ v6 then up (loop (fun s : Int32 × Mem => Mo_paste_l150 this v3 v4 v5 s.1 s.2) (0, m)) else gd (inb (((60 * v1) + v2) + v6) 240) (gd (inb v6 60) (lt (wL m (this + 19) (ix v6) (rL m (this + 18) (ix (((60 * v1) + v2) + v6)))) (fun m140 => some (Sum.inl ((v6 + 1), m140)))))
noncomputable def Mo_paste (this : Nat) (v1 : Int32) (v2 : Int32) (v3 : Int32) (v4 : Int32) (v5 : Int32) (m : Mem) : Option (Int32 × Mem) :=
  (Mo_isSlot v1 m).bind (fun r1 => if r1 = 0 then some ((-2), m) else (Mo_isSlot v3 m).bind (fun r8 => if r8 = 0 then some ((-2), m) else gd (inb v1 4) (if (rI m (this + 16) (ix v1)) = (-1) then some ((-6), m) else gd (inb v3 4) (if (rI m (this + 16) (ix v3)) = (-1) then some ((-6), m) else gd (inb v1 4) (gd (inb v3 4) (if (rI m (this + 17) (ix v1)) = (rI m (this + 17) (ix v3)) then if v2 < 0 then some ((-7), m) else if v4 < 0 then some ((-7), m) else if v5 < 0 then some ((-7), m) else gd (inb v1 4) (if ((rI m (this + 16) (ix v1)).toInt64) < ((v2.toInt64) + (v5.toInt64)) then some ((-7), m) else gd (inb v3 4) (if ((v4.toInt64) + (v5.toInt64)) ≤ ((rI m (this + 16) (ix v3)).toInt64) then loop (fun s : Int32 × Mem => Mo_paste_l113 this v1 v2 v3 v4 v5 s.1 s.2) (0, m) else some ((-7), m))) else some ((-8), m)))))))
