/-! the law's loop and its walk -/
theorem and63 (y : Int32) : ∃ b, b ≤ 63 ∧ y &&& 63 = nI b := by
  refine ⟨y.toBitVec.toNat % 64, by omega, ?_⟩
  rw [← Int32.toBitVec_inj]
  apply BitVec.eq_of_toNat_eq
  rw [Int32.toBitVec_and, BitVec.toNat_and, show (63 : Int32).toBitVec.toNat = 2 ^ 6 - 1 from rfl, Nat.and_two_pow_sub_one_eq_mod]
  have hb : y.toBitVec.toNat % 64 < 2 ^ 32 := by omega
  show _ = (BitVec.ofNat 32 (y.toBitVec.toNat % 64)).toNat
  rw [BitVec.toNat_ofNat, Nat.mod_eq_of_lt hb]
theorem lGt {L k : Nat} (hLL : L ≤ 3072) (h : L < k + 6) (hk : k < 1000000) : Int32.ofNat L - 6 < nI k := by
  rw [Int32.lt_iff_toInt_lt, Int32.toInt_sub, show (Int32.ofNat L).toInt = (L : Int) from nI_toInt (by omega), show (6 : Int32).toInt = 6 from rfl, nI_toInt (by omega)]
  have e : ((L : Int) - 6).bmod (2 ^ 32) = (L : Int) - 6 := Int.bmod_eq_of_le (by omega) (by omega)
  rw [e]
  omega
theorem d33 : decode code 33 = .ok (.tableswitch 1964 0 55 #[239, 272, 315, 348, 381, 414, 447, 480, 513, 546, 589, 622, 655, 704, 737, 760, 803, 826, 849, 898, 931, 964, 987, 1010, 1034, 1084, 1107, 1130, 1153, 1166, 1189, 1222, 1255, 1268, 1291, 1314, 1337, 1360, 1393, 1416, 1439, 1492, 1552, 1585, 1608, 1641, 1674, 1697, 1740, 1783, 1816, 1879, 1892, 1905, 1918, 1941], 239) := by decide +kernel
theorem lLoop {p : Program} {l : Launch} {e : Env} {s : State} {m : MethodId} {below : List Frame} {meth : Method} {c : Code} {b L : Nat} {xs : Nat → Int32} {cells slots : Nat} {D : va_G} {ac : Nat → ClassId} {adC adR : Nat → Nat} (hL : LX p s m meth c b L xs cells slots D ac adC adR) (hLL : L ≤ 3072) (hr : meth.sig.returnType = ret) (hlocks : meth.locks = false) :
    ∀ (n k : Nat), L + 6 ≤ k + n → k ≤ L + 6 → ∀ C R, Rel C R → LAt p l e s m below meth c b cells slots (lw_Z below #[Value.ref b] s) D ac adC adR 18 (nI k) C R := by
  intro n
  induction n with
  | zero =>
    intro k hk hk2 C R h H locs ls P P2 S hl
    obtain ⟨⟨hx, hb, hml, hown, hts⟩, ⟨hX, hbl⟩, ⟨hc1, hc2⟩, KC, KR, ap, ap2⟩ := hL
    refine lv_iload_n (k := 3) hx hb (by decide +kernel) rfl (lv_at hl 3 rfl) ?_
    refine lv_aload_n (k := 0) hx hb (by decide +kernel) rfl (lv_at hl 0 rfl) ?_
    refine va_slen hx hb hX hbl (Nat.not_le.mpr hbl) S (by decide +kernel) ?_
    refine lv_bipush (n := 6) (v := 6) hx hb (by decide +kernel) rfl ?_
    refine lv_isub hx hb (by decide +kernel) ?_
    refine lv_icmp_gt (off := 1979) (tgt := 2003) hx hb (by decide +kernel) (by decide) (fun _ => ?_) (fun hne => ?_)
    · refine lv_iconst (n := 1) (v := 1) hx hb (by decide +kernel) (by decide) ?_
      refine va_forget (fun q hq => S.2.2 q hq) ?_
      refine W.widen (k := 600000) (n := 7302250) hc1 hc2 ?_
      exact lw_ret hx hb hr hlocks (by decide +kernel)
    · exact absurd (lGt hLL (by omega) (by omega)) hne
  | succ n ih =>
    intro k hk hk2 C R h H locs ls P P2 S hl
    have hL9 := hL
    obtain ⟨⟨hx, hb, hml, hown, hts⟩, ⟨hX, hbl⟩, ⟨hc1, hc2⟩, KC, KR, ap, ap2⟩ := hL9
    refine lv_iload_n (k := 3) hx hb (by decide +kernel) rfl (lv_at hl 3 rfl) ?_
    refine lv_aload_n (k := 0) hx hb (by decide +kernel) rfl (lv_at hl 0 rfl) ?_
    refine va_slen hx hb hX hbl (Nat.not_le.mpr hbl) S (by decide +kernel) ?_
    refine lv_bipush (n := 6) (v := 6) hx hb (by decide +kernel) rfl ?_
    refine lv_isub hx hb (by decide +kernel) ?_
    refine lv_icmp_gt (off := 1979) (tgt := 2003) hx hb (by decide +kernel) (by decide) (fun _ => ?_) (fun hne => ?_)
    · refine lv_iconst (n := 1) (v := 1) hx hb (by decide +kernel) (by decide) ?_
      refine va_forget (fun q hq => S.2.2 q hq) ?_
      refine W.widen (k := 600000) (n := 7302250) hc1 hc2 ?_
      exact lw_ret hx hb hr hlocks (by decide +kernel)
    · have hk6 : k + 6 ≤ L := by
        rcases Nat.lt_or_ge L (k + 6) with q | q
        · exact absurd (lGt hLL q (by omega)) hne
        · exact q
      have hin : ∀ j, j < 6 → vp_in (nI k + nI j) L := fun j hj => by rw [nI_add]; exact vp_in_nI (by omega) (by omega)
      have next : ∀ C' R', Rel C' R' → LAt p l e s m below meth c b cells slots (lw_Z below #[Value.ref b] s) D ac adC adR 1997 (nI k) C' R' := by
        intro C' R' h' H' locs' ls' P' P2' S' hl'
        refine lv_iinc (i := 3) (n := 6) (v := nI (k + 6)) (lv' := [(3, .int (nI (k + 6))), (0, .ref b), (1, .ref (adC 0)), (2, .ref (adR 0))]) hx hb (by decide +kernel) hl' (k := 3) rfl (nI_add k 6) (by decide) rfl (fun ls2 hl2 => ?_)
        refine lv_goto (off := -1982) (tgt := 18) hx hb (by decide +kernel) (by decide) ?_
        exact ih (k + 6) (by omega) (by omega) C' R' h' H' locs' ls2 P' P2' S' (lv_sub hl2 [1, 2, 3, 0] rfl)
      refine lv_aload_n (k := 0) hx hb (by decide +kernel) rfl (lv_at hl 0 rfl) ?_
      refine lv_iload_n (k := 3) hx hb (by decide +kernel) rfl (lv_at hl 3 rfl) ?_
      refine va_sld hx hb hX hbl (Nat.not_le.mpr hbl) S (vp_in_nI (by omega) (by omega)) (by decide +kernel) ?_
      refine lv_bipush (n := 63) (v := 63) hx hb (by decide +kernel) rfl ?_
      refine lv_iand hx hb (by decide +kernel) ?_
      obtain ⟨t, ht, et⟩ := and63 (xs (nI k).toNatClampNeg)
      rw [et]
      match t, ht with
      | 0, _ => exact lv_tableIn (off := 239) (tgt := 272) hx hb d33 (by decide +kernel) (by decide +kernel) (by decide +kernel) (by decide) (lc_0 hL h hin next H locs ls P P2 S hl)
      | 1, _ => exact lv_tableIn (off := 272) (tgt := 305) hx hb d33 (by decide +kernel) (by decide +kernel) (by decide +kernel) (by decide) (lc_1 hL h hin next H locs ls P P2 S hl)
      | 2, _ => exact lv_tableIn (off := 315) (tgt := 348) hx hb d33 (by decide +kernel) (by decide +kernel) (by decide +kernel) (by decide) (lc_2 hL h hin next H locs ls P P2 S hl)
      | 3, _ => exact lv_tableIn (off := 348) (tgt := 381) hx hb d33 (by decide +kernel) (by decide +kernel) (by decide +kernel) (by decide) (lc_3 hL h hin next H locs ls P P2 S hl)
      | 4, _ => exact lv_tableIn (off := 381) (tgt := 414) hx hb d33 (by decide +kernel) (by decide +kernel) (by decide +kernel) (by decide) (lc_4 hL h hin next H locs ls P P2 S hl)
      | 5, _ => exact lv_tableIn (off := 414) (tgt := 447) hx hb d33 (by decide +kernel) (by decide +kernel) (by decide +kernel) (by decide) (lc_5 hL h hin next H locs ls P P2 S hl)
      | 6, _ => exact lv_tableIn (off := 447) (tgt := 480) hx hb d33 (by decide +kernel) (by decide +kernel) (by decide +kernel) (by decide) (lc_6 hL h hin next H locs ls P P2 S hl)
      | 7, _ => exact lv_tableIn (off := 480) (tgt := 513) hx hb d33 (by decide +kernel) (by decide +kernel) (by decide +kernel) (by decide) (lc_7 hL h hin next H locs ls P P2 S hl)
      | 8, _ => exact lv_tableIn (off := 513) (tgt := 546) hx hb d33 (by decide +kernel) (by decide +kernel) (by decide +kernel) (by decide) (lc_8 hL h hin next H locs ls P P2 S hl)
      | 9, _ => exact lv_tableIn (off := 546) (tgt := 579) hx hb d33 (by decide +kernel) (by decide +kernel) (by decide +kernel) (by decide) (lc_9 hL h hin next H locs ls P P2 S hl)
      | 10, _ => exact lv_tableIn (off := 589) (tgt := 622) hx hb d33 (by decide +kernel) (by decide +kernel) (by decide +kernel) (by decide) (lc_10 hL h hin next H locs ls P P2 S hl)
      | 11, _ => exact lv_tableIn (off := 622) (tgt := 655) hx hb d33 (by decide +kernel) (by decide +kernel) (by decide +kernel) (by decide) (lc_11 hL h hin next H locs ls P P2 S hl)
      | 12, _ => exact lv_tableIn (off := 655) (tgt := 688) hx hb d33 (by decide +kernel) (by decide +kernel) (by decide +kernel) (by decide) (lc_12 hL h hin next H locs ls P P2 S hl)
      | 13, _ => exact lv_tableIn (off := 704) (tgt := 737) hx hb d33 (by decide +kernel) (by decide +kernel) (by decide +kernel) (by decide) (lc_13 hL h hin next H locs ls P P2 S hl)
      | 14, _ => exact lv_tableIn (off := 737) (tgt := 770) hx hb d33 (by decide +kernel) (by decide +kernel) (by decide +kernel) (by decide) (lc_14 hL h hin next H locs ls P P2 S hl)
      | 15, _ => exact lv_tableIn (off := 760) (tgt := 793) hx hb d33 (by decide +kernel) (by decide +kernel) (by decide +kernel) (by decide) (lc_15 hL h hin next H locs ls P P2 S hl)
      | 16, _ => exact lv_tableIn (off := 803) (tgt := 836) hx hb d33 (by decide +kernel) (by decide +kernel) (by decide +kernel) (by decide) (lc_16 hL h hin next H locs ls P P2 S hl)
      | 17, _ => exact lv_tableIn (off := 826) (tgt := 859) hx hb d33 (by decide +kernel) (by decide +kernel) (by decide +kernel) (by decide) (lc_17 hL h hin next H locs ls P P2 S hl)
      | 18, _ => exact lv_tableIn (off := 849) (tgt := 882) hx hb d33 (by decide +kernel) (by decide +kernel) (by decide +kernel) (by decide) (lc_18 hL h hin next H locs ls P P2 S hl)
      | 19, _ => exact lv_tableIn (off := 898) (tgt := 931) hx hb d33 (by decide +kernel) (by decide +kernel) (by decide +kernel) (by decide) (lc_19 hL h hin next H locs ls P P2 S hl)
      | 20, _ => exact lv_tableIn (off := 931) (tgt := 964) hx hb d33 (by decide +kernel) (by decide +kernel) (by decide +kernel) (by decide) (lc_20 hL h hin next H locs ls P P2 S hl)
      | 21, _ => exact lv_tableIn (off := 964) (tgt := 997) hx hb d33 (by decide +kernel) (by decide +kernel) (by decide +kernel) (by decide) (lc_21 hL h hin next H locs ls P P2 S hl)
      | 22, _ => exact lv_tableIn (off := 987) (tgt := 1020) hx hb d33 (by decide +kernel) (by decide +kernel) (by decide +kernel) (by decide) (lc_22 hL h hin next H locs ls P P2 S hl)
      | 23, _ => exact lv_tableIn (off := 1010) (tgt := 1043) hx hb d33 (by decide +kernel) (by decide +kernel) (by decide +kernel) (by decide) (lc_23 hL h hin next H locs ls P P2 S hl)
      | 24, _ => exact lv_tableIn (off := 1034) (tgt := 1067) hx hb d33 (by decide +kernel) (by decide +kernel) (by decide +kernel) (by decide) (lc_24 hL h hin next H locs ls P P2 S hl)
      | 25, _ => exact lv_tableIn (off := 1084) (tgt := 1117) hx hb d33 (by decide +kernel) (by decide +kernel) (by decide +kernel) (by decide) (lc_25 hL h hin next H locs ls P P2 S hl)
      | 26, _ => exact lv_tableIn (off := 1107) (tgt := 1140) hx hb d33 (by decide +kernel) (by decide +kernel) (by decide +kernel) (by decide) (lc_26 hL h hin next H locs ls P P2 S hl)
      | 27, _ => exact lv_tableIn (off := 1130) (tgt := 1163) hx hb d33 (by decide +kernel) (by decide +kernel) (by decide +kernel) (by decide) (lc_27 hL h hin next H locs ls P P2 S hl)
      | 28, _ => exact lv_tableIn (off := 1153) (tgt := 1186) hx hb d33 (by decide +kernel) (by decide +kernel) (by decide +kernel) (by decide) (lc_28 hL h hin next H locs ls P P2 S hl)
      | 29, _ => exact lv_tableIn (off := 1166) (tgt := 1199) hx hb d33 (by decide +kernel) (by decide +kernel) (by decide +kernel) (by decide) (lc_29 hL h hin next H locs ls P P2 S hl)
      | 30, _ => exact lv_tableIn (off := 1189) (tgt := 1222) hx hb d33 (by decide +kernel) (by decide +kernel) (by decide +kernel) (by decide) (lc_30 hL h hin next H locs ls P P2 S hl)
      | 31, _ => exact lv_tableIn (off := 1222) (tgt := 1255) hx hb d33 (by decide +kernel) (by decide +kernel) (by decide +kernel) (by decide) (lc_31 hL h hin next H locs ls P P2 S hl)
      | 32, _ => exact lv_tableIn (off := 1255) (tgt := 1288) hx hb d33 (by decide +kernel) (by decide +kernel) (by decide +kernel) (by decide) (lc_32 hL h hin next H locs ls P P2 S hl)
      | 33, _ => exact lv_tableIn (off := 1268) (tgt := 1301) hx hb d33 (by decide +kernel) (by decide +kernel) (by decide +kernel) (by decide) (lc_33 hL h hin next H locs ls P P2 S hl)
      | 34, _ => exact lv_tableIn (off := 1291) (tgt := 1324) hx hb d33 (by decide +kernel) (by decide +kernel) (by decide +kernel) (by decide) (lc_34 hL h hin next H locs ls P P2 S hl)
      | 35, _ => exact lv_tableIn (off := 1314) (tgt := 1347) hx hb d33 (by decide +kernel) (by decide +kernel) (by decide +kernel) (by decide) (lc_35 hL h hin next H locs ls P P2 S hl)
      | 36, _ => exact lv_tableIn (off := 1337) (tgt := 1370) hx hb d33 (by decide +kernel) (by decide +kernel) (by decide +kernel) (by decide) (lc_36 hL h hin next H locs ls P P2 S hl)
      | 37, _ => exact lv_tableIn (off := 1360) (tgt := 1393) hx hb d33 (by decide +kernel) (by decide +kernel) (by decide +kernel) (by decide) (lc_37 hL h hin next H locs ls P P2 S hl)
      | 38, _ => exact lv_tableIn (off := 1393) (tgt := 1426) hx hb d33 (by decide +kernel) (by decide +kernel) (by decide +kernel) (by decide) (lc_38 hL h hin next H locs ls P P2 S hl)
      | 39, _ => exact lv_tableIn (off := 1416) (tgt := 1449) hx hb d33 (by decide +kernel) (by decide +kernel) (by decide +kernel) (by decide) (lc_39 hL h hin next H locs ls P P2 S hl)
      | 40, _ => exact lv_tableIn (off := 1439) (tgt := 1472) hx hb d33 (by decide +kernel) (by decide +kernel) (by decide +kernel) (by decide) (lc_40 hL h hin next H locs ls P P2 S hl)
      | 41, _ => exact lv_tableIn (off := 1492) (tgt := 1525) hx hb d33 (by decide +kernel) (by decide +kernel) (by decide +kernel) (by decide) (lc_41 hL h hin next H locs ls P P2 S hl)
      | 42, _ => exact lv_tableIn (off := 1552) (tgt := 1585) hx hb d33 (by decide +kernel) (by decide +kernel) (by decide +kernel) (by decide) (lc_42 hL h hin next H locs ls P P2 S hl)
      | 43, _ => exact lv_tableIn (off := 1585) (tgt := 1618) hx hb d33 (by decide +kernel) (by decide +kernel) (by decide +kernel) (by decide) (lc_43 hL h hin next H locs ls P P2 S hl)
      | 44, _ => exact lv_tableIn (off := 1608) (tgt := 1641) hx hb d33 (by decide +kernel) (by decide +kernel) (by decide +kernel) (by decide) (lc_44 hL h hin next H locs ls P P2 S hl)
      | 45, _ => exact lv_tableIn (off := 1641) (tgt := 1674) hx hb d33 (by decide +kernel) (by decide +kernel) (by decide +kernel) (by decide) (lc_45 hL h hin next H locs ls P P2 S hl)
      | 46, _ => exact lv_tableIn (off := 1674) (tgt := 1707) hx hb d33 (by decide +kernel) (by decide +kernel) (by decide +kernel) (by decide) (lc_46 hL h hin next H locs ls P P2 S hl)
      | 47, _ => exact lv_tableIn (off := 1697) (tgt := 1730) hx hb d33 (by decide +kernel) (by decide +kernel) (by decide +kernel) (by decide) (lc_47 hL h hin next H locs ls P P2 S hl)
      | 48, _ => exact lv_tableIn (off := 1740) (tgt := 1773) hx hb d33 (by decide +kernel) (by decide +kernel) (by decide +kernel) (by decide) (lc_48 hL h hin next H locs ls P P2 S hl)
      | 49, _ => exact lv_tableIn (off := 1783) (tgt := 1816) hx hb d33 (by decide +kernel) (by decide +kernel) (by decide +kernel) (by decide) (lc_49 hL h hin next H locs ls P P2 S hl)
      | 50, _ => exact lv_tableIn (off := 1816) (tgt := 1849) hx hb d33 (by decide +kernel) (by decide +kernel) (by decide +kernel) (by decide) (lc_50 hL h hin next H locs ls P P2 S hl)
      | 51, _ => exact lv_tableIn (off := 1879) (tgt := 1912) hx hb d33 (by decide +kernel) (by decide +kernel) (by decide +kernel) (by decide) (lc_51 hL h hin next H locs ls P P2 S hl)
      | 52, _ => exact lv_tableIn (off := 1892) (tgt := 1925) hx hb d33 (by decide +kernel) (by decide +kernel) (by decide +kernel) (by decide) (lc_52 hL h hin next H locs ls P P2 S hl)
      | 53, _ => exact lv_tableIn (off := 1905) (tgt := 1938) hx hb d33 (by decide +kernel) (by decide +kernel) (by decide +kernel) (by decide) (lc_53 hL h hin next H locs ls P P2 S hl)
      | 54, _ => exact lv_tableIn (off := 1918) (tgt := 1951) hx hb d33 (by decide +kernel) (by decide +kernel) (by decide +kernel) (by decide) (lc_54 hL h hin next H locs ls P P2 S hl)
      | 55, _ => exact lv_tableIn (off := 1941) (tgt := 1974) hx hb d33 (by decide +kernel) (by decide +kernel) (by decide +kernel) (by decide) (lc_55 hL h hin next H locs ls P P2 S hl)
      | t + 56, ht =>
        refine lv_tableOut (tgt := 1997) hx hb d33 (Or.inr ?_) (by decide) (next C R h H locs ls P P2 S hl)
        rw [nI_toInt (by omega)]
        omega

