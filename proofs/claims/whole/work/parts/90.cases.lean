/-! the law's cases (printed) -/
theorem lc_28 {p : Program} {l : Launch} {e : Env} {s : State} {m : MethodId} {below : List Frame} {meth : Method} {c : Code} {b L : Nat} {xs : Nat → Int32} {cells slots : Nat} {Q : State → Prop} {D : va_G} {ac : Nat → ClassId} {adC adR : Nat → Nat} {i : Int32} {C R : eMem} (hL : LX p s m meth c b L xs cells slots D ac adC adR) (h : Rel C R) (hin : ∀ k, k < 6 → vp_in (i + nI k) L) (kk : ∀ C' R', Rel C' R' → LAt p l e s m below meth c b cells slots Q D ac adC adR 1997 i C' R') : LAt p l e s m below meth c b cells slots Q D ac adC adR 1186 i C R := by
  intro H locs ls P P2 S hl
  obtain ⟨⟨hx, hb, hml, hown, hts⟩, ⟨hX, hbl⟩, ⟨hc1, hc2⟩, KC, KR, ap, ap2⟩ := hL
  have l0 := lv_at hl 0 rfl
  have l1 := lv_at hl 1 rfl
  have l2 := lv_at hl 2 rfl
  have l3 := lv_at hl 3 rfl
  obtain ⟨v, C', R', e1, e2, hr⟩ := st_shift h 
  refine lv_aload_n (k := 1) hx hb (by decide +kernel) rfl l1 ?_
  refine lCall (as := []) (z := 0) (rv := .int v) (M' := C') (n := 0) (idx := 131) (mj := m_X9_shift) hx hb hml hown hts hc1 hc2 KC ap P P2 S hl.1 (by decide +kernel) ⟨eTb_t 754 (by decide +kernel) rfl, eTb_t 1 (by decide +kernel) rfl, ⟨by decide +kernel, by decide +kernel, by decide +kernel⟩, by decide +kernel, by decide⟩ (eTb_t 751 (by decide +kernel) rfl) (eTb_t 752 (by decide +kernel) rfl) (eTb_t 753 (by decide +kernel) rfl) rfl rfl rfl (ev_X9_shift  C (v, C') e1) rfl rfl rfl (by decide) rfl rfl rfl (Nat.le_of_ble_eq_true rfl) (fun H1 locs1 P P2 S => ?_)
  refine lv_aload_n (k := 2) hx hb (by decide +kernel) rfl l2 ?_
  refine lCall (as := []) (z := 3) (rv := .int v) (M' := R') (n := 0) (idx := 135) (mj := m_X10_shift) hx hb hml hown hts hc1 hc2 KR ap2 P2 P S hl.1 (by decide +kernel) ⟨eTb_t 1488 (by decide +kernel) rfl, eTb_t 11 (by decide +kernel) rfl, ⟨by decide +kernel, by decide +kernel, by decide +kernel⟩, by decide +kernel, by decide⟩ (eTb_t 1485 (by decide +kernel) rfl) (eTb_t 1486 (by decide +kernel) rfl) (eTb_t 1487 (by decide +kernel) rfl) rfl rfl rfl (ev_X10_shift  R (v, R') e2) rfl rfl rfl (by decide) rfl rfl rfl (Nat.le_of_ble_eq_true rfl) (fun H2 locs2 P2 P S => ?_)
  refine lv_icmp_eq (tgt := 1997) (off := 803) hx hb (by decide +kernel) (by decide) (fun _ => ?_) (fun hne => absurd rfl hne)
  exact kk C' R' hr H2 locs2 ls P P2 S hl
theorem lc_29 {p : Program} {l : Launch} {e : Env} {s : State} {m : MethodId} {below : List Frame} {meth : Method} {c : Code} {b L : Nat} {xs : Nat → Int32} {cells slots : Nat} {Q : State → Prop} {D : va_G} {ac : Nat → ClassId} {adC adR : Nat → Nat} {i : Int32} {C R : eMem} (hL : LX p s m meth c b L xs cells slots D ac adC adR) (h : Rel C R) (hin : ∀ k, k < 6 → vp_in (i + nI k) L) (kk : ∀ C' R', Rel C' R' → LAt p l e s m below meth c b cells slots Q D ac adC adR 1997 i C' R') : LAt p l e s m below meth c b cells slots Q D ac adC adR 1199 i C R := by
  intro H locs ls P P2 S hl
  obtain ⟨⟨hx, hb, hml, hown, hts⟩, ⟨hX, hbl⟩, ⟨hc1, hc2⟩, KC, KR, ap, ap2⟩ := hL
  have l0 := lv_at hl 0 rfl
  have l1 := lv_at hl 1 rfl
  have l2 := lv_at hl 2 rfl
  have l3 := lv_at hl 3 rfl
  obtain ⟨v, C', R', e1, e2, hr⟩ := st_held h (xs (i + nI 1).toNatClampNeg)
  refine lv_aload_n (k := 1) hx hb (by decide +kernel) rfl l1 ?_
  refine lRead (n := 1) (v := nI 1) hx hb hX hbl S l0 l3 (by decide +kernel) (by decide +kernel) (by decide +kernel) rfl (by decide +kernel) (by decide +kernel) (hin 1 (by decide)) ?_
  refine lCall (as := [.int (xs (i + nI 1).toNatClampNeg)]) (z := 0) (rv := .int v) (M' := C') (n := 1) (idx := 136) (mj := m_X9_held) hx hb hml hown hts hc1 hc2 KC ap P P2 S hl.1 (by decide +kernel) ⟨eTb_t 769 (by decide +kernel) rfl, eTb_t 1 (by decide +kernel) rfl, ⟨by decide +kernel, by decide +kernel, by decide +kernel⟩, by decide +kernel, by decide⟩ (eTb_t 766 (by decide +kernel) rfl) (eTb_t 767 (by decide +kernel) rfl) (eTb_t 768 (by decide +kernel) rfl) rfl rfl rfl (ev_X9_held (xs (i + nI 1).toNatClampNeg) C (v, C') e1) rfl rfl rfl (by decide) rfl rfl rfl (Nat.le_of_ble_eq_true rfl) (fun H1 locs1 P P2 S => ?_)
  refine lv_aload_n (k := 2) hx hb (by decide +kernel) rfl l2 ?_
  refine lRead (n := 1) (v := nI 1) hx hb hX hbl S l0 l3 (by decide +kernel) (by decide +kernel) (by decide +kernel) rfl (by decide +kernel) (by decide +kernel) (hin 1 (by decide)) ?_
  refine lCall (as := [.int (xs (i + nI 1).toNatClampNeg)]) (z := 0) (rv := .int v) (M' := R') (n := 1) (idx := 139) (mj := m_X10_held) hx hb hml hown hts hc1 hc2 KR ap2 P2 P S hl.1 (by decide +kernel) ⟨eTb_t 1493 (by decide +kernel) rfl, eTb_t 11 (by decide +kernel) rfl, ⟨by decide +kernel, by decide +kernel, by decide +kernel⟩, by decide +kernel, by decide⟩ (eTb_t 1490 (by decide +kernel) rfl) (eTb_t 1491 (by decide +kernel) rfl) (eTb_t 1492 (by decide +kernel) rfl) rfl rfl rfl (ev_X10_held (xs (i + nI 1).toNatClampNeg) R (v, R') e2) rfl rfl rfl (by decide) rfl rfl rfl (Nat.le_of_ble_eq_true rfl) (fun H2 locs2 P2 P S => ?_)
  refine lv_icmp_eq (tgt := 1997) (off := 780) hx hb (by decide +kernel) (by decide) (fun _ => ?_) (fun hne => absurd rfl hne)
  exact kk C' R' hr H2 locs2 ls P P2 S hl
theorem lc_30 {p : Program} {l : Launch} {e : Env} {s : State} {m : MethodId} {below : List Frame} {meth : Method} {c : Code} {b L : Nat} {xs : Nat → Int32} {cells slots : Nat} {Q : State → Prop} {D : va_G} {ac : Nat → ClassId} {adC adR : Nat → Nat} {i : Int32} {C R : eMem} (hL : LX p s m meth c b L xs cells slots D ac adC adR) (h : Rel C R) (hin : ∀ k, k < 6 → vp_in (i + nI k) L) (kk : ∀ C' R', Rel C' R' → LAt p l e s m below meth c b cells slots Q D ac adC adR 1997 i C' R') : LAt p l e s m below meth c b cells slots Q D ac adC adR 1222 i C R := by
  intro H locs ls P P2 S hl
  obtain ⟨⟨hx, hb, hml, hown, hts⟩, ⟨hX, hbl⟩, ⟨hc1, hc2⟩, KC, KR, ap, ap2⟩ := hL
  have l0 := lv_at hl 0 rfl
  have l1 := lv_at hl 1 rfl
  have l2 := lv_at hl 2 rfl
  have l3 := lv_at hl 3 rfl
  obtain ⟨v, C', R', e1, e2, hr⟩ := st_feed h (xs (i + nI 1).toNatClampNeg) (xs (i + nI 2).toNatClampNeg)
  refine lv_aload_n (k := 1) hx hb (by decide +kernel) rfl l1 ?_
  refine lRead (n := 1) (v := nI 1) hx hb hX hbl S l0 l3 (by decide +kernel) (by decide +kernel) (by decide +kernel) rfl (by decide +kernel) (by decide +kernel) (hin 1 (by decide)) ?_
  refine lRead (n := 2) (v := nI 2) hx hb hX hbl S l0 l3 (by decide +kernel) (by decide +kernel) (by decide +kernel) rfl (by decide +kernel) (by decide +kernel) (hin 2 (by decide)) ?_
  refine lCall (as := [.int (xs (i + nI 1).toNatClampNeg), .int (xs (i + nI 2).toNatClampNeg)]) (z := 1) (rv := .int v) (M' := C') (n := 2) (idx := 140) (mj := m_X9_feed) hx hb hml hown hts hc1 hc2 KC ap P P2 S hl.1 (by decide +kernel) ⟨eTb_t 773 (by decide +kernel) rfl, eTb_t 1 (by decide +kernel) rfl, ⟨by decide +kernel, by decide +kernel, by decide +kernel⟩, by decide +kernel, by decide⟩ (eTb_t 770 (by decide +kernel) rfl) (eTb_t 771 (by decide +kernel) rfl) (eTb_t 772 (by decide +kernel) rfl) rfl rfl rfl (ev_X9_feed (xs (i + nI 1).toNatClampNeg) (xs (i + nI 2).toNatClampNeg) C (v, C') e1) rfl rfl rfl (by decide) rfl rfl rfl (Nat.le_of_ble_eq_true rfl) (fun H1 locs1 P P2 S => ?_)
  refine lv_aload_n (k := 2) hx hb (by decide +kernel) rfl l2 ?_
  refine lRead (n := 1) (v := nI 1) hx hb hX hbl S l0 l3 (by decide +kernel) (by decide +kernel) (by decide +kernel) rfl (by decide +kernel) (by decide +kernel) (hin 1 (by decide)) ?_
  refine lRead (n := 2) (v := nI 2) hx hb hX hbl S l0 l3 (by decide +kernel) (by decide +kernel) (by decide +kernel) rfl (by decide +kernel) (by decide +kernel) (hin 2 (by decide)) ?_
  refine lCall (as := [.int (xs (i + nI 1).toNatClampNeg), .int (xs (i + nI 2).toNatClampNeg)]) (z := 1) (rv := .int v) (M' := R') (n := 2) (idx := 143) (mj := m_X10_feed) hx hb hml hown hts hc1 hc2 KR ap2 P2 P S hl.1 (by decide +kernel) ⟨eTb_t 1497 (by decide +kernel) rfl, eTb_t 11 (by decide +kernel) rfl, ⟨by decide +kernel, by decide +kernel, by decide +kernel⟩, by decide +kernel, by decide⟩ (eTb_t 1494 (by decide +kernel) rfl) (eTb_t 1495 (by decide +kernel) rfl) (eTb_t 1496 (by decide +kernel) rfl) rfl rfl rfl (ev_X10_feed (xs (i + nI 1).toNatClampNeg) (xs (i + nI 2).toNatClampNeg) R (v, R') e2) rfl rfl rfl (by decide) rfl rfl rfl (Nat.le_of_ble_eq_true rfl) (fun H2 locs2 P2 P S => ?_)
  refine lv_icmp_eq (tgt := 1997) (off := 747) hx hb (by decide +kernel) (by decide) (fun _ => ?_) (fun hne => absurd rfl hne)
  exact kk C' R' hr H2 locs2 ls P P2 S hl
theorem lc_31 {p : Program} {l : Launch} {e : Env} {s : State} {m : MethodId} {below : List Frame} {meth : Method} {c : Code} {b L : Nat} {xs : Nat → Int32} {cells slots : Nat} {Q : State → Prop} {D : va_G} {ac : Nat → ClassId} {adC adR : Nat → Nat} {i : Int32} {C R : eMem} (hL : LX p s m meth c b L xs cells slots D ac adC adR) (h : Rel C R) (hin : ∀ k, k < 6 → vp_in (i + nI k) L) (kk : ∀ C' R', Rel C' R' → LAt p l e s m below meth c b cells slots Q D ac adC adR 1997 i C' R') : LAt p l e s m below meth c b cells slots Q D ac adC adR 1255 i C R := by
  intro H locs ls P P2 S hl
  obtain ⟨⟨hx, hb, hml, hown, hts⟩, ⟨hX, hbl⟩, ⟨hc1, hc2⟩, KC, KR, ap, ap2⟩ := hL
  have l0 := lv_at hl 0 rfl
  have l1 := lv_at hl 1 rfl
  have l2 := lv_at hl 2 rfl
  have l3 := lv_at hl 3 rfl
  obtain ⟨v, C', R', e1, e2, hr⟩ := st_text h (xs (i + nI 1).toNatClampNeg) (xs (i + nI 2).toNatClampNeg)
  refine lv_aload_n (k := 1) hx hb (by decide +kernel) rfl l1 ?_
  refine lRead (n := 1) (v := nI 1) hx hb hX hbl S l0 l3 (by decide +kernel) (by decide +kernel) (by decide +kernel) rfl (by decide +kernel) (by decide +kernel) (hin 1 (by decide)) ?_
  refine lRead (n := 2) (v := nI 2) hx hb hX hbl S l0 l3 (by decide +kernel) (by decide +kernel) (by decide +kernel) rfl (by decide +kernel) (by decide +kernel) (hin 2 (by decide)) ?_
  refine lCall (as := [.int (xs (i + nI 1).toNatClampNeg), .int (xs (i + nI 2).toNatClampNeg)]) (z := 1) (rv := .int v) (M' := C') (n := 2) (idx := 144) (mj := m_X9_text) hx hb hml hown hts hc1 hc2 KC ap P P2 S hl.1 (by decide +kernel) ⟨eTb_t 782 (by decide +kernel) rfl, eTb_t 1 (by decide +kernel) rfl, ⟨by decide +kernel, by decide +kernel, by decide +kernel⟩, by decide +kernel, by decide⟩ (eTb_t 779 (by decide +kernel) rfl) (eTb_t 780 (by decide +kernel) rfl) (eTb_t 781 (by decide +kernel) rfl) rfl rfl rfl (ev_X9_text (xs (i + nI 1).toNatClampNeg) (xs (i + nI 2).toNatClampNeg) C (v, C') e1) rfl rfl rfl (by decide) rfl rfl rfl (Nat.le_of_ble_eq_true rfl) (fun H1 locs1 P P2 S => ?_)
  refine lv_aload_n (k := 2) hx hb (by decide +kernel) rfl l2 ?_
  refine lRead (n := 1) (v := nI 1) hx hb hX hbl S l0 l3 (by decide +kernel) (by decide +kernel) (by decide +kernel) rfl (by decide +kernel) (by decide +kernel) (hin 1 (by decide)) ?_
  refine lRead (n := 2) (v := nI 2) hx hb hX hbl S l0 l3 (by decide +kernel) (by decide +kernel) (by decide +kernel) rfl (by decide +kernel) (by decide +kernel) (hin 2 (by decide)) ?_
  refine lCall (as := [.int (xs (i + nI 1).toNatClampNeg), .int (xs (i + nI 2).toNatClampNeg)]) (z := 3) (rv := .int v) (M' := R') (n := 2) (idx := 147) (mj := m_X10_text) hx hb hml hown hts hc1 hc2 KR ap2 P2 P S hl.1 (by decide +kernel) ⟨eTb_t 1505 (by decide +kernel) rfl, eTb_t 11 (by decide +kernel) rfl, ⟨by decide +kernel, by decide +kernel, by decide +kernel⟩, by decide +kernel, by decide⟩ (eTb_t 1502 (by decide +kernel) rfl) (eTb_t 1503 (by decide +kernel) rfl) (eTb_t 1504 (by decide +kernel) rfl) rfl rfl rfl (ev_X10_text (xs (i + nI 1).toNatClampNeg) (xs (i + nI 2).toNatClampNeg) R (v, R') e2) rfl rfl rfl (by decide) rfl rfl rfl (Nat.le_of_ble_eq_true rfl) (fun H2 locs2 P2 P S => ?_)
  refine lv_icmp_eq (tgt := 1997) (off := 714) hx hb (by decide +kernel) (by decide) (fun _ => ?_) (fun hne => absurd rfl hne)
  exact kk C' R' hr H2 locs2 ls P P2 S hl
theorem lc_32 {p : Program} {l : Launch} {e : Env} {s : State} {m : MethodId} {below : List Frame} {meth : Method} {c : Code} {b L : Nat} {xs : Nat → Int32} {cells slots : Nat} {Q : State → Prop} {D : va_G} {ac : Nat → ClassId} {adC adR : Nat → Nat} {i : Int32} {C R : eMem} (hL : LX p s m meth c b L xs cells slots D ac adC adR) (h : Rel C R) (hin : ∀ k, k < 6 → vp_in (i + nI k) L) (kk : ∀ C' R', Rel C' R' → LAt p l e s m below meth c b cells slots Q D ac adC adR 1997 i C' R') : LAt p l e s m below meth c b cells slots Q D ac adC adR 1288 i C R := by
  intro H locs ls P P2 S hl
  obtain ⟨⟨hx, hb, hml, hown, hts⟩, ⟨hX, hbl⟩, ⟨hc1, hc2⟩, KC, KR, ap, ap2⟩ := hL
  have l0 := lv_at hl 0 rfl
  have l1 := lv_at hl 1 rfl
  have l2 := lv_at hl 2 rfl
  have l3 := lv_at hl 3 rfl
  obtain ⟨v, C', R', e1, e2, hr⟩ := st_wipe h 
  refine lv_aload_n (k := 1) hx hb (by decide +kernel) rfl l1 ?_
  refine lCall (as := []) (z := 1) (rv := .int v) (M' := C') (n := 0) (idx := 148) (mj := m_X9_wipe) hx hb hml hown hts hc1 hc2 KC ap P P2 S hl.1 (by decide +kernel) ⟨eTb_t 876 (by decide +kernel) rfl, eTb_t 1 (by decide +kernel) rfl, ⟨by decide +kernel, by decide +kernel, by decide +kernel⟩, by decide +kernel, by decide⟩ (eTb_t 873 (by decide +kernel) rfl) (eTb_t 874 (by decide +kernel) rfl) (eTb_t 875 (by decide +kernel) rfl) rfl rfl rfl (ev_X9_wipe  C (v, C') e1) rfl rfl rfl (by decide) rfl rfl rfl (Nat.le_of_ble_eq_true rfl) (fun H1 locs1 P P2 S => ?_)
  refine lv_aload_n (k := 2) hx hb (by decide +kernel) rfl l2 ?_
  refine lCall (as := []) (z := 1) (rv := .int v) (M' := R') (n := 0) (idx := 151) (mj := m_X10_wipe) hx hb hml hown hts hc1 hc2 KR ap2 P2 P S hl.1 (by decide +kernel) ⟨eTb_t 1501 (by decide +kernel) rfl, eTb_t 11 (by decide +kernel) rfl, ⟨by decide +kernel, by decide +kernel, by decide +kernel⟩, by decide +kernel, by decide⟩ (eTb_t 1498 (by decide +kernel) rfl) (eTb_t 1499 (by decide +kernel) rfl) (eTb_t 1500 (by decide +kernel) rfl) rfl rfl rfl (ev_X10_wipe  R (v, R') e2) rfl rfl rfl (by decide) rfl rfl rfl (Nat.le_of_ble_eq_true rfl) (fun H2 locs2 P2 P S => ?_)
  refine lv_icmp_eq (tgt := 1997) (off := 701) hx hb (by decide +kernel) (by decide) (fun _ => ?_) (fun hne => absurd rfl hne)
  exact kk C' R' hr H2 locs2 ls P P2 S hl
theorem lc_33 {p : Program} {l : Launch} {e : Env} {s : State} {m : MethodId} {below : List Frame} {meth : Method} {c : Code} {b L : Nat} {xs : Nat → Int32} {cells slots : Nat} {Q : State → Prop} {D : va_G} {ac : Nat → ClassId} {adC adR : Nat → Nat} {i : Int32} {C R : eMem} (hL : LX p s m meth c b L xs cells slots D ac adC adR) (h : Rel C R) (hin : ∀ k, k < 6 → vp_in (i + nI k) L) (kk : ∀ C' R', Rel C' R' → LAt p l e s m below meth c b cells slots Q D ac adC adR 1997 i C' R') : LAt p l e s m below meth c b cells slots Q D ac adC adR 1301 i C R := by
  intro H locs ls P P2 S hl
  obtain ⟨⟨hx, hb, hml, hown, hts⟩, ⟨hX, hbl⟩, ⟨hc1, hc2⟩, KC, KR, ap, ap2⟩ := hL
  have l0 := lv_at hl 0 rfl
  have l1 := lv_at hl 1 rfl
  have l2 := lv_at hl 2 rfl
  have l3 := lv_at hl 3 rfl
  obtain ⟨v, C', R', e1, e2, hr⟩ := st_drop h (xs (i + nI 1).toNatClampNeg)
  refine lv_aload_n (k := 1) hx hb (by decide +kernel) rfl l1 ?_
  refine lRead (n := 1) (v := nI 1) hx hb hX hbl S l0 l3 (by decide +kernel) (by decide +kernel) (by decide +kernel) rfl (by decide +kernel) (by decide +kernel) (hin 1 (by decide)) ?_
  refine lCall (as := [.int (xs (i + nI 1).toNatClampNeg)]) (z := 0) (rv := .int v) (M' := C') (n := 1) (idx := 152) (mj := m_X9_drop) hx hb hml hown hts hc1 hc2 KC ap P P2 S hl.1 (by decide +kernel) ⟨eTb_t 880 (by decide +kernel) rfl, eTb_t 1 (by decide +kernel) rfl, ⟨by decide +kernel, by decide +kernel, by decide +kernel⟩, by decide +kernel, by decide⟩ (eTb_t 877 (by decide +kernel) rfl) (eTb_t 878 (by decide +kernel) rfl) (eTb_t 879 (by decide +kernel) rfl) rfl rfl rfl (ev_X9_drop (xs (i + nI 1).toNatClampNeg) C (v, C') e1) rfl rfl rfl (by decide) rfl rfl rfl (Nat.le_of_ble_eq_true rfl) (fun H1 locs1 P P2 S => ?_)
  refine lv_aload_n (k := 2) hx hb (by decide +kernel) rfl l2 ?_
  refine lRead (n := 1) (v := nI 1) hx hb hX hbl S l0 l3 (by decide +kernel) (by decide +kernel) (by decide +kernel) rfl (by decide +kernel) (by decide +kernel) (hin 1 (by decide)) ?_
  refine lCall (as := [.int (xs (i + nI 1).toNatClampNeg)]) (z := 0) (rv := .int v) (M' := R') (n := 1) (idx := 155) (mj := m_X10_drop) hx hb hml hown hts hc1 hc2 KR ap2 P2 P S hl.1 (by decide +kernel) ⟨eTb_t 1546 (by decide +kernel) rfl, eTb_t 11 (by decide +kernel) rfl, ⟨by decide +kernel, by decide +kernel, by decide +kernel⟩, by decide +kernel, by decide⟩ (eTb_t 1543 (by decide +kernel) rfl) (eTb_t 1544 (by decide +kernel) rfl) (eTb_t 1545 (by decide +kernel) rfl) rfl rfl rfl (ev_X10_drop (xs (i + nI 1).toNatClampNeg) R (v, R') e2) rfl rfl rfl (by decide) rfl rfl rfl (Nat.le_of_ble_eq_true rfl) (fun H2 locs2 P2 P S => ?_)
  refine lv_icmp_eq (tgt := 1997) (off := 678) hx hb (by decide +kernel) (by decide) (fun _ => ?_) (fun hne => absurd rfl hne)
  exact kk C' R' hr H2 locs2 ls P P2 S hl
theorem lc_34 {p : Program} {l : Launch} {e : Env} {s : State} {m : MethodId} {below : List Frame} {meth : Method} {c : Code} {b L : Nat} {xs : Nat → Int32} {cells slots : Nat} {Q : State → Prop} {D : va_G} {ac : Nat → ClassId} {adC adR : Nat → Nat} {i : Int32} {C R : eMem} (hL : LX p s m meth c b L xs cells slots D ac adC adR) (h : Rel C R) (hin : ∀ k, k < 6 → vp_in (i + nI k) L) (kk : ∀ C' R', Rel C' R' → LAt p l e s m below meth c b cells slots Q D ac adC adR 1997 i C' R') : LAt p l e s m below meth c b cells slots Q D ac adC adR 1324 i C R := by
  intro H locs ls P P2 S hl
  obtain ⟨⟨hx, hb, hml, hown, hts⟩, ⟨hX, hbl⟩, ⟨hc1, hc2⟩, KC, KR, ap, ap2⟩ := hL
  have l0 := lv_at hl 0 rfl
  have l1 := lv_at hl 1 rfl
  have l2 := lv_at hl 2 rfl
  have l3 := lv_at hl 3 rfl
  obtain ⟨v, C', R', e1, e2, hr⟩ := st_must h (xs (i + nI 1).toNatClampNeg)
  refine lv_aload_n (k := 1) hx hb (by decide +kernel) rfl l1 ?_
  refine lRead (n := 1) (v := nI 1) hx hb hX hbl S l0 l3 (by decide +kernel) (by decide +kernel) (by decide +kernel) rfl (by decide +kernel) (by decide +kernel) (hin 1 (by decide)) ?_
  refine lCall (as := [.int (xs (i + nI 1).toNatClampNeg)]) (z := 0) (rv := .int v) (M' := C') (n := 1) (idx := 156) (mj := m_X9_must) hx hb hml hown hts hc1 hc2 KC ap P P2 S hl.1 (by decide +kernel) ⟨eTb_t 884 (by decide +kernel) rfl, eTb_t 1 (by decide +kernel) rfl, ⟨by decide +kernel, by decide +kernel, by decide +kernel⟩, by decide +kernel, by decide⟩ (eTb_t 881 (by decide +kernel) rfl) (eTb_t 882 (by decide +kernel) rfl) (eTb_t 883 (by decide +kernel) rfl) rfl rfl rfl (ev_X9_must (xs (i + nI 1).toNatClampNeg) C (v, C') e1) rfl rfl rfl (by decide) rfl rfl rfl (Nat.le_of_ble_eq_true rfl) (fun H1 locs1 P P2 S => ?_)
  refine lv_aload_n (k := 2) hx hb (by decide +kernel) rfl l2 ?_
  refine lRead (n := 1) (v := nI 1) hx hb hX hbl S l0 l3 (by decide +kernel) (by decide +kernel) (by decide +kernel) rfl (by decide +kernel) (by decide +kernel) (hin 1 (by decide)) ?_
  refine lCall (as := [.int (xs (i + nI 1).toNatClampNeg)]) (z := 0) (rv := .int v) (M' := R') (n := 1) (idx := 159) (mj := m_X10_must) hx hb hml hown hts hc1 hc2 KR ap2 P2 P S hl.1 (by decide +kernel) ⟨eTb_t 1550 (by decide +kernel) rfl, eTb_t 11 (by decide +kernel) rfl, ⟨by decide +kernel, by decide +kernel, by decide +kernel⟩, by decide +kernel, by decide⟩ (eTb_t 1547 (by decide +kernel) rfl) (eTb_t 1548 (by decide +kernel) rfl) (eTb_t 1549 (by decide +kernel) rfl) rfl rfl rfl (ev_X10_must (xs (i + nI 1).toNatClampNeg) R (v, R') e2) rfl rfl rfl (by decide) rfl rfl rfl (Nat.le_of_ble_eq_true rfl) (fun H2 locs2 P2 P S => ?_)
  refine lv_icmp_eq (tgt := 1997) (off := 655) hx hb (by decide +kernel) (by decide) (fun _ => ?_) (fun hne => absurd rfl hne)
  exact kk C' R' hr H2 locs2 ls P P2 S hl
theorem lc_35 {p : Program} {l : Launch} {e : Env} {s : State} {m : MethodId} {below : List Frame} {meth : Method} {c : Code} {b L : Nat} {xs : Nat → Int32} {cells slots : Nat} {Q : State → Prop} {D : va_G} {ac : Nat → ClassId} {adC adR : Nat → Nat} {i : Int32} {C R : eMem} (hL : LX p s m meth c b L xs cells slots D ac adC adR) (h : Rel C R) (hin : ∀ k, k < 6 → vp_in (i + nI k) L) (kk : ∀ C' R', Rel C' R' → LAt p l e s m below meth c b cells slots Q D ac adC adR 1997 i C' R') : LAt p l e s m below meth c b cells slots Q D ac adC adR 1347 i C R := by
  intro H locs ls P P2 S hl
  obtain ⟨⟨hx, hb, hml, hown, hts⟩, ⟨hX, hbl⟩, ⟨hc1, hc2⟩, KC, KR, ap, ap2⟩ := hL
  have l0 := lv_at hl 0 rfl
  have l1 := lv_at hl 1 rfl
  have l2 := lv_at hl 2 rfl
  have l3 := lv_at hl 3 rfl
  obtain ⟨v, C', R', e1, e2, hr⟩ := st_may h (xs (i + nI 1).toNatClampNeg)
  refine lv_aload_n (k := 1) hx hb (by decide +kernel) rfl l1 ?_
  refine lRead (n := 1) (v := nI 1) hx hb hX hbl S l0 l3 (by decide +kernel) (by decide +kernel) (by decide +kernel) rfl (by decide +kernel) (by decide +kernel) (hin 1 (by decide)) ?_
  refine lCall (as := [.int (xs (i + nI 1).toNatClampNeg)]) (z := 0) (rv := .int v) (M' := C') (n := 1) (idx := 160) (mj := m_X9_may) hx hb hml hown hts hc1 hc2 KC ap P P2 S hl.1 (by decide +kernel) ⟨eTb_t 890 (by decide +kernel) rfl, eTb_t 1 (by decide +kernel) rfl, ⟨by decide +kernel, by decide +kernel, by decide +kernel⟩, by decide +kernel, by decide⟩ (eTb_t 887 (by decide +kernel) rfl) (eTb_t 888 (by decide +kernel) rfl) (eTb_t 889 (by decide +kernel) rfl) rfl rfl rfl (ev_X9_may (xs (i + nI 1).toNatClampNeg) C (v, C') e1) rfl rfl rfl (by decide) rfl rfl rfl (Nat.le_of_ble_eq_true rfl) (fun H1 locs1 P P2 S => ?_)
  refine lv_aload_n (k := 2) hx hb (by decide +kernel) rfl l2 ?_
  refine lRead (n := 1) (v := nI 1) hx hb hX hbl S l0 l3 (by decide +kernel) (by decide +kernel) (by decide +kernel) rfl (by decide +kernel) (by decide +kernel) (hin 1 (by decide)) ?_
  refine lCall (as := [.int (xs (i + nI 1).toNatClampNeg)]) (z := 0) (rv := .int v) (M' := R') (n := 1) (idx := 163) (mj := m_X10_may) hx hb hml hown hts hc1 hc2 KR ap2 P2 P S hl.1 (by decide +kernel) ⟨eTb_t 1554 (by decide +kernel) rfl, eTb_t 11 (by decide +kernel) rfl, ⟨by decide +kernel, by decide +kernel, by decide +kernel⟩, by decide +kernel, by decide⟩ (eTb_t 1551 (by decide +kernel) rfl) (eTb_t 1552 (by decide +kernel) rfl) (eTb_t 1553 (by decide +kernel) rfl) rfl rfl rfl (ev_X10_may (xs (i + nI 1).toNatClampNeg) R (v, R') e2) rfl rfl rfl (by decide) rfl rfl rfl (Nat.le_of_ble_eq_true rfl) (fun H2 locs2 P2 P S => ?_)
  refine lv_icmp_eq (tgt := 1997) (off := 632) hx hb (by decide +kernel) (by decide) (fun _ => ?_) (fun hne => absurd rfl hne)
  exact kk C' R' hr H2 locs2 ls P P2 S hl
theorem lc_36 {p : Program} {l : Launch} {e : Env} {s : State} {m : MethodId} {below : List Frame} {meth : Method} {c : Code} {b L : Nat} {xs : Nat → Int32} {cells slots : Nat} {Q : State → Prop} {D : va_G} {ac : Nat → ClassId} {adC adR : Nat → Nat} {i : Int32} {C R : eMem} (hL : LX p s m meth c b L xs cells slots D ac adC adR) (h : Rel C R) (hin : ∀ k, k < 6 → vp_in (i + nI k) L) (kk : ∀ C' R', Rel C' R' → LAt p l e s m below meth c b cells slots Q D ac adC adR 1997 i C' R') : LAt p l e s m below meth c b cells slots Q D ac adC adR 1370 i C R := by
  intro H locs ls P P2 S hl
  obtain ⟨⟨hx, hb, hml, hown, hts⟩, ⟨hX, hbl⟩, ⟨hc1, hc2⟩, KC, KR, ap, ap2⟩ := hL
  have l0 := lv_at hl 0 rfl
  have l1 := lv_at hl 1 rfl
  have l2 := lv_at hl 2 rfl
  have l3 := lv_at hl 3 rfl
  obtain ⟨v, C', R', e1, e2, hr⟩ := st_why h (xs (i + nI 1).toNatClampNeg)
  refine lv_aload_n (k := 1) hx hb (by decide +kernel) rfl l1 ?_
  refine lRead (n := 1) (v := nI 1) hx hb hX hbl S l0 l3 (by decide +kernel) (by decide +kernel) (by decide +kernel) rfl (by decide +kernel) (by decide +kernel) (hin 1 (by decide)) ?_
  refine lCall (as := [.int (xs (i + nI 1).toNatClampNeg)]) (z := 1) (rv := .int v) (M' := C') (n := 1) (idx := 164) (mj := m_X9_why) hx hb hml hown hts hc1 hc2 KC ap P P2 S hl.1 (by decide +kernel) ⟨eTb_t 894 (by decide +kernel) rfl, eTb_t 1 (by decide +kernel) rfl, ⟨by decide +kernel, by decide +kernel, by decide +kernel⟩, by decide +kernel, by decide⟩ (eTb_t 891 (by decide +kernel) rfl) (eTb_t 892 (by decide +kernel) rfl) (eTb_t 893 (by decide +kernel) rfl) rfl rfl rfl (ev_X9_why (xs (i + nI 1).toNatClampNeg) C (v, C') e1) rfl rfl rfl (by decide) rfl rfl rfl (Nat.le_of_ble_eq_true rfl) (fun H1 locs1 P P2 S => ?_)
  refine lv_aload_n (k := 2) hx hb (by decide +kernel) rfl l2 ?_
  refine lRead (n := 1) (v := nI 1) hx hb hX hbl S l0 l3 (by decide +kernel) (by decide +kernel) (by decide +kernel) rfl (by decide +kernel) (by decide +kernel) (hin 1 (by decide)) ?_
  refine lCall (as := [.int (xs (i + nI 1).toNatClampNeg)]) (z := 1) (rv := .int v) (M' := R') (n := 1) (idx := 167) (mj := m_X10_why) hx hb hml hown hts hc1 hc2 KR ap2 P2 P S hl.1 (by decide +kernel) ⟨eTb_t 1558 (by decide +kernel) rfl, eTb_t 11 (by decide +kernel) rfl, ⟨by decide +kernel, by decide +kernel, by decide +kernel⟩, by decide +kernel, by decide⟩ (eTb_t 1555 (by decide +kernel) rfl) (eTb_t 1556 (by decide +kernel) rfl) (eTb_t 1557 (by decide +kernel) rfl) rfl rfl rfl (ev_X10_why (xs (i + nI 1).toNatClampNeg) R (v, R') e2) rfl rfl rfl (by decide) rfl rfl rfl (Nat.le_of_ble_eq_true rfl) (fun H2 locs2 P2 P S => ?_)
  refine lv_icmp_eq (tgt := 1997) (off := 609) hx hb (by decide +kernel) (by decide) (fun _ => ?_) (fun hne => absurd rfl hne)
  exact kk C' R' hr H2 locs2 ls P P2 S hl
theorem lc_37 {p : Program} {l : Launch} {e : Env} {s : State} {m : MethodId} {below : List Frame} {meth : Method} {c : Code} {b L : Nat} {xs : Nat → Int32} {cells slots : Nat} {Q : State → Prop} {D : va_G} {ac : Nat → ClassId} {adC adR : Nat → Nat} {i : Int32} {C R : eMem} (hL : LX p s m meth c b L xs cells slots D ac adC adR) (h : Rel C R) (hin : ∀ k, k < 6 → vp_in (i + nI k) L) (kk : ∀ C' R', Rel C' R' → LAt p l e s m below meth c b cells slots Q D ac adC adR 1997 i C' R') : LAt p l e s m below meth c b cells slots Q D ac adC adR 1393 i C R := by
  intro H locs ls P P2 S hl
  obtain ⟨⟨hx, hb, hml, hown, hts⟩, ⟨hX, hbl⟩, ⟨hc1, hc2⟩, KC, KR, ap, ap2⟩ := hL
  have l0 := lv_at hl 0 rfl
  have l1 := lv_at hl 1 rfl
  have l2 := lv_at hl 2 rfl
  have l3 := lv_at hl 3 rfl
  obtain ⟨v, C', R', e1, e2, hr⟩ := st_agree h (xs (i + nI 1).toNatClampNeg) (xs (i + nI 2).toNatClampNeg)
  refine lv_aload_n (k := 1) hx hb (by decide +kernel) rfl l1 ?_
  refine lRead (n := 1) (v := nI 1) hx hb hX hbl S l0 l3 (by decide +kernel) (by decide +kernel) (by decide +kernel) rfl (by decide +kernel) (by decide +kernel) (hin 1 (by decide)) ?_
  refine lRead (n := 2) (v := nI 2) hx hb hX hbl S l0 l3 (by decide +kernel) (by decide +kernel) (by decide +kernel) rfl (by decide +kernel) (by decide +kernel) (hin 2 (by decide)) ?_
  refine lCall (as := [.int (xs (i + nI 1).toNatClampNeg), .int (xs (i + nI 2).toNatClampNeg)]) (z := 2) (rv := .int v) (M' := C') (n := 2) (idx := 168) (mj := m_X9_agree) hx hb hml hown hts hc1 hc2 KC ap P P2 S hl.1 (by decide +kernel) ⟨eTb_t 898 (by decide +kernel) rfl, eTb_t 1 (by decide +kernel) rfl, ⟨by decide +kernel, by decide +kernel, by decide +kernel⟩, by decide +kernel, by decide⟩ (eTb_t 895 (by decide +kernel) rfl) (eTb_t 896 (by decide +kernel) rfl) (eTb_t 897 (by decide +kernel) rfl) rfl rfl rfl (ev_X9_agree (xs (i + nI 1).toNatClampNeg) (xs (i + nI 2).toNatClampNeg) C (v, C') e1) rfl rfl rfl (by decide) rfl rfl rfl (Nat.le_of_ble_eq_true rfl) (fun H1 locs1 P P2 S => ?_)
  refine lv_aload_n (k := 2) hx hb (by decide +kernel) rfl l2 ?_
  refine lRead (n := 1) (v := nI 1) hx hb hX hbl S l0 l3 (by decide +kernel) (by decide +kernel) (by decide +kernel) rfl (by decide +kernel) (by decide +kernel) (hin 1 (by decide)) ?_
  refine lRead (n := 2) (v := nI 2) hx hb hX hbl S l0 l3 (by decide +kernel) (by decide +kernel) (by decide +kernel) rfl (by decide +kernel) (by decide +kernel) (hin 2 (by decide)) ?_
  refine lCall (as := [.int (xs (i + nI 1).toNatClampNeg), .int (xs (i + nI 2).toNatClampNeg)]) (z := 0) (rv := .int v) (M' := R') (n := 2) (idx := 171) (mj := m_X10_agree) hx hb hml hown hts hc1 hc2 KR ap2 P2 P S hl.1 (by decide +kernel) ⟨eTb_t 1562 (by decide +kernel) rfl, eTb_t 11 (by decide +kernel) rfl, ⟨by decide +kernel, by decide +kernel, by decide +kernel⟩, by decide +kernel, by decide⟩ (eTb_t 1559 (by decide +kernel) rfl) (eTb_t 1560 (by decide +kernel) rfl) (eTb_t 1561 (by decide +kernel) rfl) rfl rfl rfl (ev_X10_agree (xs (i + nI 1).toNatClampNeg) (xs (i + nI 2).toNatClampNeg) R (v, R') e2) rfl rfl rfl (by decide) rfl rfl rfl (Nat.le_of_ble_eq_true rfl) (fun H2 locs2 P2 P S => ?_)
  refine lv_icmp_eq (tgt := 1997) (off := 576) hx hb (by decide +kernel) (by decide) (fun _ => ?_) (fun hne => absurd rfl hne)
  exact kk C' R' hr H2 locs2 ls P P2 S hl
theorem lc_38 {p : Program} {l : Launch} {e : Env} {s : State} {m : MethodId} {below : List Frame} {meth : Method} {c : Code} {b L : Nat} {xs : Nat → Int32} {cells slots : Nat} {Q : State → Prop} {D : va_G} {ac : Nat → ClassId} {adC adR : Nat → Nat} {i : Int32} {C R : eMem} (hL : LX p s m meth c b L xs cells slots D ac adC adR) (h : Rel C R) (hin : ∀ k, k < 6 → vp_in (i + nI k) L) (kk : ∀ C' R', Rel C' R' → LAt p l e s m below meth c b cells slots Q D ac adC adR 1997 i C' R') : LAt p l e s m below meth c b cells slots Q D ac adC adR 1426 i C R := by
  intro H locs ls P P2 S hl
  obtain ⟨⟨hx, hb, hml, hown, hts⟩, ⟨hX, hbl⟩, ⟨hc1, hc2⟩, KC, KR, ap, ap2⟩ := hL
  have l0 := lv_at hl 0 rfl
  have l1 := lv_at hl 1 rfl
  have l2 := lv_at hl 2 rfl
  have l3 := lv_at hl 3 rfl
  obtain ⟨v, C', R', e1, e2, hr⟩ := st_slip h (xs (i + nI 1).toNatClampNeg)
  refine lv_aload_n (k := 1) hx hb (by decide +kernel) rfl l1 ?_
  refine lRead (n := 1) (v := nI 1) hx hb hX hbl S l0 l3 (by decide +kernel) (by decide +kernel) (by decide +kernel) rfl (by decide +kernel) (by decide +kernel) (hin 1 (by decide)) ?_
  refine lCall (as := [.int (xs (i + nI 1).toNatClampNeg)]) (z := 1) (rv := .int v) (M' := C') (n := 1) (idx := 172) (mj := m_X9_slip) hx hb hml hown hts hc1 hc2 KC ap P P2 S hl.1 (by decide +kernel) ⟨eTb_t 924 (by decide +kernel) rfl, eTb_t 1 (by decide +kernel) rfl, ⟨by decide +kernel, by decide +kernel, by decide +kernel⟩, by decide +kernel, by decide⟩ (eTb_t 921 (by decide +kernel) rfl) (eTb_t 922 (by decide +kernel) rfl) (eTb_t 923 (by decide +kernel) rfl) rfl rfl rfl (ev_X9_slip (xs (i + nI 1).toNatClampNeg) C (v, C') e1) rfl rfl rfl (by decide) rfl rfl rfl (Nat.le_of_ble_eq_true rfl) (fun H1 locs1 P P2 S => ?_)
  refine lv_aload_n (k := 2) hx hb (by decide +kernel) rfl l2 ?_
  refine lRead (n := 1) (v := nI 1) hx hb hX hbl S l0 l3 (by decide +kernel) (by decide +kernel) (by decide +kernel) rfl (by decide +kernel) (by decide +kernel) (hin 1 (by decide)) ?_
  refine lCall (as := [.int (xs (i + nI 1).toNatClampNeg)]) (z := 0) (rv := .int v) (M' := R') (n := 1) (idx := 175) (mj := m_X10_slip) hx hb hml hown hts hc1 hc2 KR ap2 P2 P S hl.1 (by decide +kernel) ⟨eTb_t 1574 (by decide +kernel) rfl, eTb_t 11 (by decide +kernel) rfl, ⟨by decide +kernel, by decide +kernel, by decide +kernel⟩, by decide +kernel, by decide⟩ (eTb_t 1571 (by decide +kernel) rfl) (eTb_t 1572 (by decide +kernel) rfl) (eTb_t 1573 (by decide +kernel) rfl) rfl rfl rfl (ev_X10_slip (xs (i + nI 1).toNatClampNeg) R (v, R') e2) rfl rfl rfl (by decide) rfl rfl rfl (Nat.le_of_ble_eq_true rfl) (fun H2 locs2 P2 P S => ?_)
  refine lv_icmp_eq (tgt := 1997) (off := 553) hx hb (by decide +kernel) (by decide) (fun _ => ?_) (fun hne => absurd rfl hne)
  exact kk C' R' hr H2 locs2 ls P P2 S hl
theorem lc_39 {p : Program} {l : Launch} {e : Env} {s : State} {m : MethodId} {below : List Frame} {meth : Method} {c : Code} {b L : Nat} {xs : Nat → Int32} {cells slots : Nat} {Q : State → Prop} {D : va_G} {ac : Nat → ClassId} {adC adR : Nat → Nat} {i : Int32} {C R : eMem} (hL : LX p s m meth c b L xs cells slots D ac adC adR) (h : Rel C R) (hin : ∀ k, k < 6 → vp_in (i + nI k) L) (kk : ∀ C' R', Rel C' R' → LAt p l e s m below meth c b cells slots Q D ac adC adR 1997 i C' R') : LAt p l e s m below meth c b cells slots Q D ac adC adR 1449 i C R := by
  intro H locs ls P P2 S hl
  obtain ⟨⟨hx, hb, hml, hown, hts⟩, ⟨hX, hbl⟩, ⟨hc1, hc2⟩, KC, KR, ap, ap2⟩ := hL
  have l0 := lv_at hl 0 rfl
  have l1 := lv_at hl 1 rfl
  have l2 := lv_at hl 2 rfl
  have l3 := lv_at hl 3 rfl
  obtain ⟨v, C', R', e1, e2, hr⟩ := st_carry h (xs (i + nI 1).toNatClampNeg)
  refine lv_aload_n (k := 1) hx hb (by decide +kernel) rfl l1 ?_
  refine lRead (n := 1) (v := nI 1) hx hb hX hbl S l0 l3 (by decide +kernel) (by decide +kernel) (by decide +kernel) rfl (by decide +kernel) (by decide +kernel) (hin 1 (by decide)) ?_
  refine lCall (as := [.int (xs (i + nI 1).toNatClampNeg)]) (z := 0) (rv := .int v) (M' := C') (n := 1) (idx := 176) (mj := m_X9_carry) hx hb hml hown hts hc1 hc2 KC ap P P2 S hl.1 (by decide +kernel) ⟨eTb_t 937 (by decide +kernel) rfl, eTb_t 1 (by decide +kernel) rfl, ⟨by decide +kernel, by decide +kernel, by decide +kernel⟩, by decide +kernel, by decide⟩ (eTb_t 934 (by decide +kernel) rfl) (eTb_t 935 (by decide +kernel) rfl) (eTb_t 936 (by decide +kernel) rfl) rfl rfl rfl (ev_X9_carry (xs (i + nI 1).toNatClampNeg) C (v, C') e1) rfl rfl rfl (by decide) rfl rfl rfl (Nat.le_of_ble_eq_true rfl) (fun H1 locs1 P P2 S => ?_)
  refine lv_aload_n (k := 2) hx hb (by decide +kernel) rfl l2 ?_
  refine lRead (n := 1) (v := nI 1) hx hb hX hbl S l0 l3 (by decide +kernel) (by decide +kernel) (by decide +kernel) rfl (by decide +kernel) (by decide +kernel) (hin 1 (by decide)) ?_
  refine lCall (as := [.int (xs (i + nI 1).toNatClampNeg)]) (z := 2) (rv := .int v) (M' := R') (n := 1) (idx := 179) (mj := m_X10_carry) hx hb hml hown hts hc1 hc2 KR ap2 P2 P S hl.1 (by decide +kernel) ⟨eTb_t 1578 (by decide +kernel) rfl, eTb_t 11 (by decide +kernel) rfl, ⟨by decide +kernel, by decide +kernel, by decide +kernel⟩, by decide +kernel, by decide⟩ (eTb_t 1575 (by decide +kernel) rfl) (eTb_t 1576 (by decide +kernel) rfl) (eTb_t 1577 (by decide +kernel) rfl) rfl rfl rfl (ev_X10_carry (xs (i + nI 1).toNatClampNeg) R (v, R') e2) rfl rfl rfl (by decide) rfl rfl rfl (Nat.le_of_ble_eq_true rfl) (fun H2 locs2 P2 P S => ?_)
  refine lv_icmp_eq (tgt := 1997) (off := 530) hx hb (by decide +kernel) (by decide) (fun _ => ?_) (fun hne => absurd rfl hne)
  exact kk C' R' hr H2 locs2 ls P P2 S hl
theorem lc_40 {p : Program} {l : Launch} {e : Env} {s : State} {m : MethodId} {below : List Frame} {meth : Method} {c : Code} {b L : Nat} {xs : Nat → Int32} {cells slots : Nat} {Q : State → Prop} {D : va_G} {ac : Nat → ClassId} {adC adR : Nat → Nat} {i : Int32} {C R : eMem} (hL : LX p s m meth c b L xs cells slots D ac adC adR) (h : Rel C R) (hin : ∀ k, k < 6 → vp_in (i + nI k) L) (kk : ∀ C' R', Rel C' R' → LAt p l e s m below meth c b cells slots Q D ac adC adR 1997 i C' R') : LAt p l e s m below meth c b cells slots Q D ac adC adR 1472 i C R := by
  intro H locs ls P P2 S hl
  obtain ⟨⟨hx, hb, hml, hown, hts⟩, ⟨hX, hbl⟩, ⟨hc1, hc2⟩, KC, KR, ap, ap2⟩ := hL
  have l0 := lv_at hl 0 rfl
  have l1 := lv_at hl 1 rfl
  have l2 := lv_at hl 2 rfl
  have l3 := lv_at hl 3 rfl
  obtain ⟨v, C', R', e1, e2, hr⟩ := st_plan h (xs (i + nI 1).toNatClampNeg) (xs (i + nI 2).toNatClampNeg) (xs (i + nI 3).toNatClampNeg) (xs (i + nI 4).toNatClampNeg)
  refine lv_aload_n (k := 1) hx hb (by decide +kernel) rfl l1 ?_
  refine lRead (n := 1) (v := nI 1) hx hb hX hbl S l0 l3 (by decide +kernel) (by decide +kernel) (by decide +kernel) rfl (by decide +kernel) (by decide +kernel) (hin 1 (by decide)) ?_
  refine lRead (n := 2) (v := nI 2) hx hb hX hbl S l0 l3 (by decide +kernel) (by decide +kernel) (by decide +kernel) rfl (by decide +kernel) (by decide +kernel) (hin 2 (by decide)) ?_
  refine lRead (n := 3) (v := nI 3) hx hb hX hbl S l0 l3 (by decide +kernel) (by decide +kernel) (by decide +kernel) rfl (by decide +kernel) (by decide +kernel) (hin 3 (by decide)) ?_
  refine lRead (n := 4) (v := nI 4) hx hb hX hbl S l0 l3 (by decide +kernel) (by decide +kernel) (by decide +kernel) rfl (by decide +kernel) (by decide +kernel) (hin 4 (by decide)) ?_
  refine lCall (as := [.int (xs (i + nI 1).toNatClampNeg), .int (xs (i + nI 2).toNatClampNeg), .int (xs (i + nI 3).toNatClampNeg), .int (xs (i + nI 4).toNatClampNeg)]) (z := 0) (rv := .int v) (M' := C') (n := 4) (idx := 180) (mj := m_X9_plan) hx hb hml hown hts hc1 hc2 KC ap P P2 S hl.1 (by decide +kernel) ⟨eTb_t 945 (by decide +kernel) rfl, eTb_t 1 (by decide +kernel) rfl, ⟨by decide +kernel, by decide +kernel, by decide +kernel⟩, by decide +kernel, by decide⟩ (eTb_t 942 (by decide +kernel) rfl) (eTb_t 943 (by decide +kernel) rfl) (eTb_t 944 (by decide +kernel) rfl) rfl rfl rfl (ev_X9_plan (xs (i + nI 1).toNatClampNeg) (xs (i + nI 2).toNatClampNeg) (xs (i + nI 3).toNatClampNeg) (xs (i + nI 4).toNatClampNeg) C (v, C') e1) rfl rfl rfl (by decide) rfl rfl rfl (Nat.le_of_ble_eq_true rfl) (fun H1 locs1 P P2 S => ?_)
  refine lv_aload_n (k := 2) hx hb (by decide +kernel) rfl l2 ?_
  refine lRead (n := 1) (v := nI 1) hx hb hX hbl S l0 l3 (by decide +kernel) (by decide +kernel) (by decide +kernel) rfl (by decide +kernel) (by decide +kernel) (hin 1 (by decide)) ?_
  refine lRead (n := 2) (v := nI 2) hx hb hX hbl S l0 l3 (by decide +kernel) (by decide +kernel) (by decide +kernel) rfl (by decide +kernel) (by decide +kernel) (hin 2 (by decide)) ?_
  refine lRead (n := 3) (v := nI 3) hx hb hX hbl S l0 l3 (by decide +kernel) (by decide +kernel) (by decide +kernel) rfl (by decide +kernel) (by decide +kernel) (hin 3 (by decide)) ?_
  refine lRead (n := 4) (v := nI 4) hx hb hX hbl S l0 l3 (by decide +kernel) (by decide +kernel) (by decide +kernel) rfl (by decide +kernel) (by decide +kernel) (hin 4 (by decide)) ?_
  refine lCall (as := [.int (xs (i + nI 1).toNatClampNeg), .int (xs (i + nI 2).toNatClampNeg), .int (xs (i + nI 3).toNatClampNeg), .int (xs (i + nI 4).toNatClampNeg)]) (z := 9) (rv := .int v) (M' := R') (n := 4) (idx := 184) (mj := m_X10_plan) hx hb hml hown hts hc1 hc2 KR ap2 P2 P S hl.1 (by decide +kernel) ⟨eTb_t 1582 (by decide +kernel) rfl, eTb_t 11 (by decide +kernel) rfl, ⟨by decide +kernel, by decide +kernel, by decide +kernel⟩, by decide +kernel, by decide⟩ (eTb_t 1579 (by decide +kernel) rfl) (eTb_t 1580 (by decide +kernel) rfl) (eTb_t 1581 (by decide +kernel) rfl) rfl rfl rfl (ev_X10_plan (xs (i + nI 1).toNatClampNeg) (xs (i + nI 2).toNatClampNeg) (xs (i + nI 3).toNatClampNeg) (xs (i + nI 4).toNatClampNeg) R (v, R') e2) rfl rfl rfl (by decide) rfl rfl rfl (Nat.le_of_ble_eq_true rfl) (fun H2 locs2 P2 P S => ?_)
  refine lv_icmp_eq (tgt := 1997) (off := 477) hx hb (by decide +kernel) (by decide) (fun _ => ?_) (fun hne => absurd rfl hne)
  exact kk C' R' hr H2 locs2 ls P P2 S hl
theorem lc_41 {p : Program} {l : Launch} {e : Env} {s : State} {m : MethodId} {below : List Frame} {meth : Method} {c : Code} {b L : Nat} {xs : Nat → Int32} {cells slots : Nat} {Q : State → Prop} {D : va_G} {ac : Nat → ClassId} {adC adR : Nat → Nat} {i : Int32} {C R : eMem} (hL : LX p s m meth c b L xs cells slots D ac adC adR) (h : Rel C R) (hin : ∀ k, k < 6 → vp_in (i + nI k) L) (kk : ∀ C' R', Rel C' R' → LAt p l e s m below meth c b cells slots Q D ac adC adR 1997 i C' R') : LAt p l e s m below meth c b cells slots Q D ac adC adR 1525 i C R := by
  intro H locs ls P P2 S hl
  obtain ⟨⟨hx, hb, hml, hown, hts⟩, ⟨hX, hbl⟩, ⟨hc1, hc2⟩, KC, KR, ap, ap2⟩ := hL
  have l0 := lv_at hl 0 rfl
  have l1 := lv_at hl 1 rfl
  have l2 := lv_at hl 2 rfl
  have l3 := lv_at hl 3 rfl
  obtain ⟨v, C', R', e1, e2, hr⟩ := st_judge h (xs (i + nI 1).toNatClampNeg) (xs (i + nI 2).toNatClampNeg) (bz (xs (i + nI 3).toNatClampNeg))
  refine lv_aload_n (k := 1) hx hb (by decide +kernel) rfl l1 ?_
  refine lRead (n := 1) (v := nI 1) hx hb hX hbl S l0 l3 (by decide +kernel) (by decide +kernel) (by decide +kernel) rfl (by decide +kernel) (by decide +kernel) (hin 1 (by decide)) ?_
  refine lRead (n := 2) (v := nI 2) hx hb hX hbl S l0 l3 (by decide +kernel) (by decide +kernel) (by decide +kernel) rfl (by decide +kernel) (by decide +kernel) (hin 2 (by decide)) ?_
  refine lRead (n := 3) (v := nI 3) hx hb hX hbl S l0 l3 (by decide +kernel) (by decide +kernel) (by decide +kernel) rfl (by decide +kernel) (by decide +kernel) (hin 3 (by decide)) ?_
  refine lBool hx hb (by decide +kernel) (by decide +kernel) (by decide +kernel) (by decide +kernel) ?_
  refine lCall (as := [.int (xs (i + nI 1).toNatClampNeg), .int (xs (i + nI 2).toNatClampNeg), .int (bz (xs (i + nI 3).toNatClampNeg))]) (z := 1) (rv := .long v) (M' := C') (n := 3) (idx := 185) (mj := m_X9_judge) hx hb hml hown hts hc1 hc2 KC ap P P2 S hl.1 (by decide +kernel) ⟨eTb_t 985 (by decide +kernel) rfl, eTb_t 1 (by decide +kernel) rfl, ⟨by decide +kernel, by decide +kernel, by decide +kernel⟩, by decide +kernel, by decide⟩ (eTb_t 982 (by decide +kernel) rfl) (eTb_t 983 (by decide +kernel) rfl) (eTb_t 984 (by decide +kernel) rfl) rfl rfl rfl (ev_X9_judge (xs (i + nI 1).toNatClampNeg) (xs (i + nI 2).toNatClampNeg) (bz (xs (i + nI 3).toNatClampNeg)) C (v, C') e1) rfl rfl rfl (by decide) rfl rfl rfl (Nat.le_of_ble_eq_true rfl) (fun H1 locs1 P P2 S => ?_)
  refine lv_aload_n (k := 2) hx hb (by decide +kernel) rfl l2 ?_
  refine lRead (n := 1) (v := nI 1) hx hb hX hbl S l0 l3 (by decide +kernel) (by decide +kernel) (by decide +kernel) rfl (by decide +kernel) (by decide +kernel) (hin 1 (by decide)) ?_
  refine lRead (n := 2) (v := nI 2) hx hb hX hbl S l0 l3 (by decide +kernel) (by decide +kernel) (by decide +kernel) rfl (by decide +kernel) (by decide +kernel) (hin 2 (by decide)) ?_
  refine lRead (n := 3) (v := nI 3) hx hb hX hbl S l0 l3 (by decide +kernel) (by decide +kernel) (by decide +kernel) rfl (by decide +kernel) (by decide +kernel) (hin 3 (by decide)) ?_
  refine lBool hx hb (by decide +kernel) (by decide +kernel) (by decide +kernel) (by decide +kernel) ?_
  refine lCall (as := [.int (xs (i + nI 1).toNatClampNeg), .int (xs (i + nI 2).toNatClampNeg), .int (bz (xs (i + nI 3).toNatClampNeg))]) (z := 0) (rv := .long v) (M' := R') (n := 3) (idx := 189) (mj := m_X10_judge) hx hb hml hown hts hc1 hc2 KR ap2 P2 P S hl.1 (by decide +kernel) ⟨eTb_t 1605 (by decide +kernel) rfl, eTb_t 11 (by decide +kernel) rfl, ⟨by decide +kernel, by decide +kernel, by decide +kernel⟩, by decide +kernel, by decide⟩ (eTb_t 1602 (by decide +kernel) rfl) (eTb_t 1603 (by decide +kernel) rfl) (eTb_t 1604 (by decide +kernel) rfl) rfl rfl rfl (ev_X10_judge (xs (i + nI 1).toNatClampNeg) (xs (i + nI 2).toNatClampNeg) (bz (xs (i + nI 3).toNatClampNeg)) R (v, R') e2) rfl rfl rfl (by decide) rfl rfl rfl (Nat.le_of_ble_eq_true rfl) (fun H2 locs2 P2 P S => ?_)
  refine W.lcmp hx hb (by decide +kernel) ?_
  refine lv_if_eq (tgt := 1997) (off := 417) hx hb (by decide +kernel) (by decide) (fun _ => ?_) (fun hne => absurd (by simp [lg_cmp]) hne)
  exact kk C' R' hr H2 locs2 ls P P2 S hl
theorem lc_42 {p : Program} {l : Launch} {e : Env} {s : State} {m : MethodId} {below : List Frame} {meth : Method} {c : Code} {b L : Nat} {xs : Nat → Int32} {cells slots : Nat} {Q : State → Prop} {D : va_G} {ac : Nat → ClassId} {adC adR : Nat → Nat} {i : Int32} {C R : eMem} (hL : LX p s m meth c b L xs cells slots D ac adC adR) (h : Rel C R) (hin : ∀ k, k < 6 → vp_in (i + nI k) L) (kk : ∀ C' R', Rel C' R' → LAt p l e s m below meth c b cells slots Q D ac adC adR 1997 i C' R') : LAt p l e s m below meth c b cells slots Q D ac adC adR 1585 i C R := by
  intro H locs ls P P2 S hl
  obtain ⟨⟨hx, hb, hml, hown, hts⟩, ⟨hX, hbl⟩, ⟨hc1, hc2⟩, KC, KR, ap, ap2⟩ := hL
  have l0 := lv_at hl 0 rfl
  have l1 := lv_at hl 1 rfl
  have l2 := lv_at hl 2 rfl
  have l3 := lv_at hl 3 rfl
  obtain ⟨v, C', R', e1, e2, hr⟩ := st_last h (xs (i + nI 1).toNatClampNeg) (xs (i + nI 2).toNatClampNeg)
  refine lv_aload_n (k := 1) hx hb (by decide +kernel) rfl l1 ?_
  refine lRead (n := 1) (v := nI 1) hx hb hX hbl S l0 l3 (by decide +kernel) (by decide +kernel) (by decide +kernel) rfl (by decide +kernel) (by decide +kernel) (hin 1 (by decide)) ?_
  refine lRead (n := 2) (v := nI 2) hx hb hX hbl S l0 l3 (by decide +kernel) (by decide +kernel) (by decide +kernel) rfl (by decide +kernel) (by decide +kernel) (hin 2 (by decide)) ?_
  refine lCall (as := [.int (xs (i + nI 1).toNatClampNeg), .int (xs (i + nI 2).toNatClampNeg)]) (z := 1) (rv := .int v) (M' := C') (n := 2) (idx := 190) (mj := m_X9_last) hx hb hml hown hts hc1 hc2 KC ap P P2 S hl.1 (by decide +kernel) ⟨eTb_t 990 (by decide +kernel) rfl, eTb_t 1 (by decide +kernel) rfl, ⟨by decide +kernel, by decide +kernel, by decide +kernel⟩, by decide +kernel, by decide⟩ (eTb_t 987 (by decide +kernel) rfl) (eTb_t 988 (by decide +kernel) rfl) (eTb_t 989 (by decide +kernel) rfl) rfl rfl rfl (ev_X9_last (xs (i + nI 1).toNatClampNeg) (xs (i + nI 2).toNatClampNeg) C (v, C') e1) rfl rfl rfl (by decide) rfl rfl rfl (Nat.le_of_ble_eq_true rfl) (fun H1 locs1 P P2 S => ?_)
  refine lv_aload_n (k := 2) hx hb (by decide +kernel) rfl l2 ?_
  refine lRead (n := 1) (v := nI 1) hx hb hX hbl S l0 l3 (by decide +kernel) (by decide +kernel) (by decide +kernel) rfl (by decide +kernel) (by decide +kernel) (hin 1 (by decide)) ?_
  refine lRead (n := 2) (v := nI 2) hx hb hX hbl S l0 l3 (by decide +kernel) (by decide +kernel) (by decide +kernel) rfl (by decide +kernel) (by decide +kernel) (hin 2 (by decide)) ?_
  refine lCall (as := [.int (xs (i + nI 1).toNatClampNeg), .int (xs (i + nI 2).toNatClampNeg)]) (z := 4) (rv := .int v) (M' := R') (n := 2) (idx := 193) (mj := m_X10_last) hx hb hml hown hts hc1 hc2 KR ap2 P2 P S hl.1 (by decide +kernel) ⟨eTb_t 1609 (by decide +kernel) rfl, eTb_t 11 (by decide +kernel) rfl, ⟨by decide +kernel, by decide +kernel, by decide +kernel⟩, by decide +kernel, by decide⟩ (eTb_t 1606 (by decide +kernel) rfl) (eTb_t 1607 (by decide +kernel) rfl) (eTb_t 1608 (by decide +kernel) rfl) rfl rfl rfl (ev_X10_last (xs (i + nI 1).toNatClampNeg) (xs (i + nI 2).toNatClampNeg) R (v, R') e2) rfl rfl rfl (by decide) rfl rfl rfl (Nat.le_of_ble_eq_true rfl) (fun H2 locs2 P2 P S => ?_)
  refine lv_icmp_eq (tgt := 1997) (off := 384) hx hb (by decide +kernel) (by decide) (fun _ => ?_) (fun hne => absurd rfl hne)
  exact kk C' R' hr H2 locs2 ls P P2 S hl
theorem lc_43 {p : Program} {l : Launch} {e : Env} {s : State} {m : MethodId} {below : List Frame} {meth : Method} {c : Code} {b L : Nat} {xs : Nat → Int32} {cells slots : Nat} {Q : State → Prop} {D : va_G} {ac : Nat → ClassId} {adC adR : Nat → Nat} {i : Int32} {C R : eMem} (hL : LX p s m meth c b L xs cells slots D ac adC adR) (h : Rel C R) (hin : ∀ k, k < 6 → vp_in (i + nI k) L) (kk : ∀ C' R', Rel C' R' → LAt p l e s m below meth c b cells slots Q D ac adC adR 1997 i C' R') : LAt p l e s m below meth c b cells slots Q D ac adC adR 1618 i C R := by
  intro H locs ls P P2 S hl
  obtain ⟨⟨hx, hb, hml, hown, hts⟩, ⟨hX, hbl⟩, ⟨hc1, hc2⟩, KC, KR, ap, ap2⟩ := hL
  have l0 := lv_at hl 0 rfl
  have l1 := lv_at hl 1 rfl
  have l2 := lv_at hl 2 rfl
  have l3 := lv_at hl 3 rfl
  obtain ⟨v, C', R', e1, e2, hr⟩ := st_tick h (xs (i + nI 1).toNatClampNeg)
  refine lv_aload_n (k := 1) hx hb (by decide +kernel) rfl l1 ?_
  refine lRead (n := 1) (v := nI 1) hx hb hX hbl S l0 l3 (by decide +kernel) (by decide +kernel) (by decide +kernel) rfl (by decide +kernel) (by decide +kernel) (hin 1 (by decide)) ?_
  refine lCall (as := [.int (xs (i + nI 1).toNatClampNeg)]) (z := 1) (rv := .int v) (M' := C') (n := 1) (idx := 194) (mj := m_X9_tick) hx hb hml hown hts hc1 hc2 KC ap P P2 S hl.1 (by decide +kernel) ⟨eTb_t 1005 (by decide +kernel) rfl, eTb_t 1 (by decide +kernel) rfl, ⟨by decide +kernel, by decide +kernel, by decide +kernel⟩, by decide +kernel, by decide⟩ (eTb_t 1002 (by decide +kernel) rfl) (eTb_t 1003 (by decide +kernel) rfl) (eTb_t 1004 (by decide +kernel) rfl) rfl rfl rfl (ev_X9_tick (xs (i + nI 1).toNatClampNeg) C (v, C') e1) rfl rfl rfl (by decide) rfl rfl rfl (Nat.le_of_ble_eq_true rfl) (fun H1 locs1 P P2 S => ?_)
  refine lv_aload_n (k := 2) hx hb (by decide +kernel) rfl l2 ?_
  refine lRead (n := 1) (v := nI 1) hx hb hX hbl S l0 l3 (by decide +kernel) (by decide +kernel) (by decide +kernel) rfl (by decide +kernel) (by decide +kernel) (hin 1 (by decide)) ?_
  refine lCall (as := [.int (xs (i + nI 1).toNatClampNeg)]) (z := 1) (rv := .int v) (M' := R') (n := 1) (idx := 197) (mj := m_X10_tick) hx hb hml hown hts hc1 hc2 KR ap2 P2 P S hl.1 (by decide +kernel) ⟨eTb_t 1613 (by decide +kernel) rfl, eTb_t 11 (by decide +kernel) rfl, ⟨by decide +kernel, by decide +kernel, by decide +kernel⟩, by decide +kernel, by decide⟩ (eTb_t 1610 (by decide +kernel) rfl) (eTb_t 1611 (by decide +kernel) rfl) (eTb_t 1612 (by decide +kernel) rfl) rfl rfl rfl (ev_X10_tick (xs (i + nI 1).toNatClampNeg) R (v, R') e2) rfl rfl rfl (by decide) rfl rfl rfl (Nat.le_of_ble_eq_true rfl) (fun H2 locs2 P2 P S => ?_)
  refine lv_icmp_eq (tgt := 1997) (off := 361) hx hb (by decide +kernel) (by decide) (fun _ => ?_) (fun hne => absurd rfl hne)
  exact kk C' R' hr H2 locs2 ls P P2 S hl
theorem lc_44 {p : Program} {l : Launch} {e : Env} {s : State} {m : MethodId} {below : List Frame} {meth : Method} {c : Code} {b L : Nat} {xs : Nat → Int32} {cells slots : Nat} {Q : State → Prop} {D : va_G} {ac : Nat → ClassId} {adC adR : Nat → Nat} {i : Int32} {C R : eMem} (hL : LX p s m meth c b L xs cells slots D ac adC adR) (h : Rel C R) (hin : ∀ k, k < 6 → vp_in (i + nI k) L) (kk : ∀ C' R', Rel C' R' → LAt p l e s m below meth c b cells slots Q D ac adC adR 1997 i C' R') : LAt p l e s m below meth c b cells slots Q D ac adC adR 1641 i C R := by
  intro H locs ls P P2 S hl
  obtain ⟨⟨hx, hb, hml, hown, hts⟩, ⟨hX, hbl⟩, ⟨hc1, hc2⟩, KC, KR, ap, ap2⟩ := hL
  have l0 := lv_at hl 0 rfl
  have l1 := lv_at hl 1 rfl
  have l2 := lv_at hl 2 rfl
  have l3 := lv_at hl 3 rfl
  obtain ⟨v, C', R', e1, e2, hr⟩ := st_book h (xs (i + nI 1).toNatClampNeg) (xs (i + nI 2).toNatClampNeg)
  refine lv_aload_n (k := 1) hx hb (by decide +kernel) rfl l1 ?_
  refine lRead (n := 1) (v := nI 1) hx hb hX hbl S l0 l3 (by decide +kernel) (by decide +kernel) (by decide +kernel) rfl (by decide +kernel) (by decide +kernel) (hin 1 (by decide)) ?_
  refine lRead (n := 2) (v := nI 2) hx hb hX hbl S l0 l3 (by decide +kernel) (by decide +kernel) (by decide +kernel) rfl (by decide +kernel) (by decide +kernel) (hin 2 (by decide)) ?_
  refine lCall (as := [.int (xs (i + nI 1).toNatClampNeg), .int (xs (i + nI 2).toNatClampNeg)]) (z := 0) (rv := .int v) (M' := C') (n := 2) (idx := 198) (mj := m_X9_book) hx hb hml hown hts hc1 hc2 KC ap P P2 S hl.1 (by decide +kernel) ⟨eTb_t 1067 (by decide +kernel) rfl, eTb_t 1 (by decide +kernel) rfl, ⟨by decide +kernel, by decide +kernel, by decide +kernel⟩, by decide +kernel, by decide⟩ (eTb_t 1064 (by decide +kernel) rfl) (eTb_t 1065 (by decide +kernel) rfl) (eTb_t 1066 (by decide +kernel) rfl) rfl rfl rfl (ev_X9_book (xs (i + nI 1).toNatClampNeg) (xs (i + nI 2).toNatClampNeg) C (v, C') e1) rfl rfl rfl (by decide) rfl rfl rfl (Nat.le_of_ble_eq_true rfl) (fun H1 locs1 P P2 S => ?_)
  refine lv_aload_n (k := 2) hx hb (by decide +kernel) rfl l2 ?_
  refine lRead (n := 1) (v := nI 1) hx hb hX hbl S l0 l3 (by decide +kernel) (by decide +kernel) (by decide +kernel) rfl (by decide +kernel) (by decide +kernel) (hin 1 (by decide)) ?_
  refine lRead (n := 2) (v := nI 2) hx hb hX hbl S l0 l3 (by decide +kernel) (by decide +kernel) (by decide +kernel) rfl (by decide +kernel) (by decide +kernel) (hin 2 (by decide)) ?_
  refine lCall (as := [.int (xs (i + nI 1).toNatClampNeg), .int (xs (i + nI 2).toNatClampNeg)]) (z := 0) (rv := .int v) (M' := R') (n := 2) (idx := 201) (mj := m_X10_book) hx hb hml hown hts hc1 hc2 KR ap2 P2 P S hl.1 (by decide +kernel) ⟨eTb_t 1653 (by decide +kernel) rfl, eTb_t 11 (by decide +kernel) rfl, ⟨by decide +kernel, by decide +kernel, by decide +kernel⟩, by decide +kernel, by decide⟩ (eTb_t 1650 (by decide +kernel) rfl) (eTb_t 1651 (by decide +kernel) rfl) (eTb_t 1652 (by decide +kernel) rfl) rfl rfl rfl (ev_X10_book (xs (i + nI 1).toNatClampNeg) (xs (i + nI 2).toNatClampNeg) R (v, R') e2) rfl rfl rfl (by decide) rfl rfl rfl (Nat.le_of_ble_eq_true rfl) (fun H2 locs2 P2 P S => ?_)
  refine lv_icmp_eq (tgt := 1997) (off := 328) hx hb (by decide +kernel) (by decide) (fun _ => ?_) (fun hne => absurd rfl hne)
  exact kk C' R' hr H2 locs2 ls P P2 S hl
theorem lc_45 {p : Program} {l : Launch} {e : Env} {s : State} {m : MethodId} {below : List Frame} {meth : Method} {c : Code} {b L : Nat} {xs : Nat → Int32} {cells slots : Nat} {Q : State → Prop} {D : va_G} {ac : Nat → ClassId} {adC adR : Nat → Nat} {i : Int32} {C R : eMem} (hL : LX p s m meth c b L xs cells slots D ac adC adR) (h : Rel C R) (hin : ∀ k, k < 6 → vp_in (i + nI k) L) (kk : ∀ C' R', Rel C' R' → LAt p l e s m below meth c b cells slots Q D ac adC adR 1997 i C' R') : LAt p l e s m below meth c b cells slots Q D ac adC adR 1674 i C R := by
  intro H locs ls P P2 S hl
  obtain ⟨⟨hx, hb, hml, hown, hts⟩, ⟨hX, hbl⟩, ⟨hc1, hc2⟩, KC, KR, ap, ap2⟩ := hL
  have l0 := lv_at hl 0 rfl
  have l1 := lv_at hl 1 rfl
  have l2 := lv_at hl 2 rfl
  have l3 := lv_at hl 3 rfl
  obtain ⟨v, C', R', e1, e2, hr⟩ := st_check h (xs (i + nI 1).toNatClampNeg) (xs (i + nI 2).toNatClampNeg)
  refine lv_aload_n (k := 1) hx hb (by decide +kernel) rfl l1 ?_
  refine lRead (n := 1) (v := nI 1) hx hb hX hbl S l0 l3 (by decide +kernel) (by decide +kernel) (by decide +kernel) rfl (by decide +kernel) (by decide +kernel) (hin 1 (by decide)) ?_
  refine lRead (n := 2) (v := nI 2) hx hb hX hbl S l0 l3 (by decide +kernel) (by decide +kernel) (by decide +kernel) rfl (by decide +kernel) (by decide +kernel) (hin 2 (by decide)) ?_
  refine lCall (as := [.int (xs (i + nI 1).toNatClampNeg), .int (xs (i + nI 2).toNatClampNeg)]) (z := 2) (rv := .int v) (M' := C') (n := 2) (idx := 202) (mj := m_X9_check) hx hb hml hown hts hc1 hc2 KC ap P P2 S hl.1 (by decide +kernel) ⟨eTb_t 1075 (by decide +kernel) rfl, eTb_t 1 (by decide +kernel) rfl, ⟨by decide +kernel, by decide +kernel, by decide +kernel⟩, by decide +kernel, by decide⟩ (eTb_t 1072 (by decide +kernel) rfl) (eTb_t 1073 (by decide +kernel) rfl) (eTb_t 1074 (by decide +kernel) rfl) rfl rfl rfl (ev_X9_check (xs (i + nI 1).toNatClampNeg) (xs (i + nI 2).toNatClampNeg) C (v, C') e1) rfl rfl rfl (by decide) rfl rfl rfl (Nat.le_of_ble_eq_true rfl) (fun H1 locs1 P P2 S => ?_)
  refine lv_aload_n (k := 2) hx hb (by decide +kernel) rfl l2 ?_
  refine lRead (n := 1) (v := nI 1) hx hb hX hbl S l0 l3 (by decide +kernel) (by decide +kernel) (by decide +kernel) rfl (by decide +kernel) (by decide +kernel) (hin 1 (by decide)) ?_
  refine lRead (n := 2) (v := nI 2) hx hb hX hbl S l0 l3 (by decide +kernel) (by decide +kernel) (by decide +kernel) rfl (by decide +kernel) (by decide +kernel) (hin 2 (by decide)) ?_
  refine lCall (as := [.int (xs (i + nI 1).toNatClampNeg), .int (xs (i + nI 2).toNatClampNeg)]) (z := 1) (rv := .int v) (M' := R') (n := 2) (idx := 205) (mj := m_X10_check) hx hb hml hown hts hc1 hc2 KR ap2 P2 P S hl.1 (by decide +kernel) ⟨eTb_t 1661 (by decide +kernel) rfl, eTb_t 11 (by decide +kernel) rfl, ⟨by decide +kernel, by decide +kernel, by decide +kernel⟩, by decide +kernel, by decide⟩ (eTb_t 1658 (by decide +kernel) rfl) (eTb_t 1659 (by decide +kernel) rfl) (eTb_t 1660 (by decide +kernel) rfl) rfl rfl rfl (ev_X10_check (xs (i + nI 1).toNatClampNeg) (xs (i + nI 2).toNatClampNeg) R (v, R') e2) rfl rfl rfl (by decide) rfl rfl rfl (Nat.le_of_ble_eq_true rfl) (fun H2 locs2 P2 P S => ?_)
  refine lv_icmp_eq (tgt := 1997) (off := 295) hx hb (by decide +kernel) (by decide) (fun _ => ?_) (fun hne => absurd rfl hne)
  exact kk C' R' hr H2 locs2 ls P P2 S hl
theorem lc_46 {p : Program} {l : Launch} {e : Env} {s : State} {m : MethodId} {below : List Frame} {meth : Method} {c : Code} {b L : Nat} {xs : Nat → Int32} {cells slots : Nat} {Q : State → Prop} {D : va_G} {ac : Nat → ClassId} {adC adR : Nat → Nat} {i : Int32} {C R : eMem} (hL : LX p s m meth c b L xs cells slots D ac adC adR) (h : Rel C R) (hin : ∀ k, k < 6 → vp_in (i + nI k) L) (kk : ∀ C' R', Rel C' R' → LAt p l e s m below meth c b cells slots Q D ac adC adR 1997 i C' R') : LAt p l e s m below meth c b cells slots Q D ac adC adR 1707 i C R := by
  intro H locs ls P P2 S hl
  obtain ⟨⟨hx, hb, hml, hown, hts⟩, ⟨hX, hbl⟩, ⟨hc1, hc2⟩, KC, KR, ap, ap2⟩ := hL
  have l0 := lv_at hl 0 rfl
  have l1 := lv_at hl 1 rfl
  have l2 := lv_at hl 2 rfl
  have l3 := lv_at hl 3 rfl
  obtain ⟨v, C', R', e1, e2, hr⟩ := st_known h (xs (i + nI 1).toNatClampNeg)
  refine lv_aload_n (k := 1) hx hb (by decide +kernel) rfl l1 ?_
  refine lRead (n := 1) (v := nI 1) hx hb hX hbl S l0 l3 (by decide +kernel) (by decide +kernel) (by decide +kernel) rfl (by decide +kernel) (by decide +kernel) (hin 1 (by decide)) ?_
  refine lCall (as := [.int (xs (i + nI 1).toNatClampNeg)]) (z := 0) (rv := .int v) (M' := C') (n := 1) (idx := 206) (mj := m_X9_known) hx hb hml hown hts hc1 hc2 KC ap P P2 S hl.1 (by decide +kernel) ⟨eTb_t 1079 (by decide +kernel) rfl, eTb_t 1 (by decide +kernel) rfl, ⟨by decide +kernel, by decide +kernel, by decide +kernel⟩, by decide +kernel, by decide⟩ (eTb_t 1076 (by decide +kernel) rfl) (eTb_t 1077 (by decide +kernel) rfl) (eTb_t 1078 (by decide +kernel) rfl) rfl rfl rfl (ev_X9_known (xs (i + nI 1).toNatClampNeg) C (v, C') e1) rfl rfl rfl (by decide) rfl rfl rfl (Nat.le_of_ble_eq_true rfl) (fun H1 locs1 P P2 S => ?_)
  refine lv_aload_n (k := 2) hx hb (by decide +kernel) rfl l2 ?_
  refine lRead (n := 1) (v := nI 1) hx hb hX hbl S l0 l3 (by decide +kernel) (by decide +kernel) (by decide +kernel) rfl (by decide +kernel) (by decide +kernel) (hin 1 (by decide)) ?_
  refine lCall (as := [.int (xs (i + nI 1).toNatClampNeg)]) (z := 0) (rv := .int v) (M' := R') (n := 1) (idx := 209) (mj := m_X10_known) hx hb hml hown hts hc1 hc2 KR ap2 P2 P S hl.1 (by decide +kernel) ⟨eTb_t 1669 (by decide +kernel) rfl, eTb_t 11 (by decide +kernel) rfl, ⟨by decide +kernel, by decide +kernel, by decide +kernel⟩, by decide +kernel, by decide⟩ (eTb_t 1666 (by decide +kernel) rfl) (eTb_t 1667 (by decide +kernel) rfl) (eTb_t 1668 (by decide +kernel) rfl) rfl rfl rfl (ev_X10_known (xs (i + nI 1).toNatClampNeg) R (v, R') e2) rfl rfl rfl (by decide) rfl rfl rfl (Nat.le_of_ble_eq_true rfl) (fun H2 locs2 P2 P S => ?_)
  refine lv_icmp_eq (tgt := 1997) (off := 272) hx hb (by decide +kernel) (by decide) (fun _ => ?_) (fun hne => absurd rfl hne)
  exact kk C' R' hr H2 locs2 ls P P2 S hl
theorem lc_47 {p : Program} {l : Launch} {e : Env} {s : State} {m : MethodId} {below : List Frame} {meth : Method} {c : Code} {b L : Nat} {xs : Nat → Int32} {cells slots : Nat} {Q : State → Prop} {D : va_G} {ac : Nat → ClassId} {adC adR : Nat → Nat} {i : Int32} {C R : eMem} (hL : LX p s m meth c b L xs cells slots D ac adC adR) (h : Rel C R) (hin : ∀ k, k < 6 → vp_in (i + nI k) L) (kk : ∀ C' R', Rel C' R' → LAt p l e s m below meth c b cells slots Q D ac adC adR 1997 i C' R') : LAt p l e s m below meth c b cells slots Q D ac adC adR 1730 i C R := by
  intro H locs ls P P2 S hl
  obtain ⟨⟨hx, hb, hml, hown, hts⟩, ⟨hX, hbl⟩, ⟨hc1, hc2⟩, KC, KR, ap, ap2⟩ := hL
  have l0 := lv_at hl 0 rfl
  have l1 := lv_at hl 1 rfl
  have l2 := lv_at hl 2 rfl
  have l3 := lv_at hl 3 rfl
  obtain ⟨v, C', R', e1, e2, hr⟩ := st_sheet h (xs (i + nI 1).toNatClampNeg) (xs (i + nI 2).toNatClampNeg) (xs (i + nI 3).toNatClampNeg)
  refine lv_aload_n (k := 1) hx hb (by decide +kernel) rfl l1 ?_
  refine lRead (n := 1) (v := nI 1) hx hb hX hbl S l0 l3 (by decide +kernel) (by decide +kernel) (by decide +kernel) rfl (by decide +kernel) (by decide +kernel) (hin 1 (by decide)) ?_
  refine lRead (n := 2) (v := nI 2) hx hb hX hbl S l0 l3 (by decide +kernel) (by decide +kernel) (by decide +kernel) rfl (by decide +kernel) (by decide +kernel) (hin 2 (by decide)) ?_
  refine lRead (n := 3) (v := nI 3) hx hb hX hbl S l0 l3 (by decide +kernel) (by decide +kernel) (by decide +kernel) rfl (by decide +kernel) (by decide +kernel) (hin 3 (by decide)) ?_
  refine lCall (as := [.int (xs (i + nI 1).toNatClampNeg), .int (xs (i + nI 2).toNatClampNeg), .int (xs (i + nI 3).toNatClampNeg)]) (z := 0) (rv := .int v) (M' := C') (n := 3) (idx := 210) (mj := m_X9_sheet) hx hb hml hown hts hc1 hc2 KC ap P P2 S hl.1 (by decide +kernel) ⟨eTb_t 1084 (by decide +kernel) rfl, eTb_t 1 (by decide +kernel) rfl, ⟨by decide +kernel, by decide +kernel, by decide +kernel⟩, by decide +kernel, by decide⟩ (eTb_t 1081 (by decide +kernel) rfl) (eTb_t 1082 (by decide +kernel) rfl) (eTb_t 1083 (by decide +kernel) rfl) rfl rfl rfl (ev_X9_sheet (xs (i + nI 1).toNatClampNeg) (xs (i + nI 2).toNatClampNeg) (xs (i + nI 3).toNatClampNeg) C (v, C') e1) rfl rfl rfl (by decide) rfl rfl rfl (Nat.le_of_ble_eq_true rfl) (fun H1 locs1 P P2 S => ?_)
  refine lv_aload_n (k := 2) hx hb (by decide +kernel) rfl l2 ?_
  refine lRead (n := 1) (v := nI 1) hx hb hX hbl S l0 l3 (by decide +kernel) (by decide +kernel) (by decide +kernel) rfl (by decide +kernel) (by decide +kernel) (hin 1 (by decide)) ?_
  refine lRead (n := 2) (v := nI 2) hx hb hX hbl S l0 l3 (by decide +kernel) (by decide +kernel) (by decide +kernel) rfl (by decide +kernel) (by decide +kernel) (hin 2 (by decide)) ?_
  refine lRead (n := 3) (v := nI 3) hx hb hX hbl S l0 l3 (by decide +kernel) (by decide +kernel) (by decide +kernel) rfl (by decide +kernel) (by decide +kernel) (hin 3 (by decide)) ?_
  refine lCall (as := [.int (xs (i + nI 1).toNatClampNeg), .int (xs (i + nI 2).toNatClampNeg), .int (xs (i + nI 3).toNatClampNeg)]) (z := 1) (rv := .int v) (M' := R') (n := 3) (idx := 213) (mj := m_X10_sheet) hx hb hml hown hts hc1 hc2 KR ap2 P2 P S hl.1 (by decide +kernel) ⟨eTb_t 1673 (by decide +kernel) rfl, eTb_t 11 (by decide +kernel) rfl, ⟨by decide +kernel, by decide +kernel, by decide +kernel⟩, by decide +kernel, by decide⟩ (eTb_t 1670 (by decide +kernel) rfl) (eTb_t 1671 (by decide +kernel) rfl) (eTb_t 1672 (by decide +kernel) rfl) rfl rfl rfl (ev_X10_sheet (xs (i + nI 1).toNatClampNeg) (xs (i + nI 2).toNatClampNeg) (xs (i + nI 3).toNatClampNeg) R (v, R') e2) rfl rfl rfl (by decide) rfl rfl rfl (Nat.le_of_ble_eq_true rfl) (fun H2 locs2 P2 P S => ?_)
  refine lv_icmp_eq (tgt := 1997) (off := 229) hx hb (by decide +kernel) (by decide) (fun _ => ?_) (fun hne => absurd rfl hne)
  exact kk C' R' hr H2 locs2 ls P P2 S hl
theorem lc_48 {p : Program} {l : Launch} {e : Env} {s : State} {m : MethodId} {below : List Frame} {meth : Method} {c : Code} {b L : Nat} {xs : Nat → Int32} {cells slots : Nat} {Q : State → Prop} {D : va_G} {ac : Nat → ClassId} {adC adR : Nat → Nat} {i : Int32} {C R : eMem} (hL : LX p s m meth c b L xs cells slots D ac adC adR) (h : Rel C R) (hin : ∀ k, k < 6 → vp_in (i + nI k) L) (kk : ∀ C' R', Rel C' R' → LAt p l e s m below meth c b cells slots Q D ac adC adR 1997 i C' R') : LAt p l e s m below meth c b cells slots Q D ac adC adR 1773 i C R := by
  intro H locs ls P P2 S hl
  obtain ⟨⟨hx, hb, hml, hown, hts⟩, ⟨hX, hbl⟩, ⟨hc1, hc2⟩, KC, KR, ap, ap2⟩ := hL
  have l0 := lv_at hl 0 rfl
  have l1 := lv_at hl 1 rfl
  have l2 := lv_at hl 2 rfl
  have l3 := lv_at hl 3 rfl
  obtain ⟨v, C', R', e1, e2, hr⟩ := st_write h (xs (i + nI 1).toNatClampNeg) (xs (i + nI 2).toNatClampNeg) (xs (i + nI 3).toNatClampNeg)
  refine lv_aload_n (k := 1) hx hb (by decide +kernel) rfl l1 ?_
  refine lRead (n := 1) (v := nI 1) hx hb hX hbl S l0 l3 (by decide +kernel) (by decide +kernel) (by decide +kernel) rfl (by decide +kernel) (by decide +kernel) (hin 1 (by decide)) ?_
  refine lRead (n := 2) (v := nI 2) hx hb hX hbl S l0 l3 (by decide +kernel) (by decide +kernel) (by decide +kernel) rfl (by decide +kernel) (by decide +kernel) (hin 2 (by decide)) ?_
  refine lRead (n := 3) (v := nI 3) hx hb hX hbl S l0 l3 (by decide +kernel) (by decide +kernel) (by decide +kernel) rfl (by decide +kernel) (by decide +kernel) (hin 3 (by decide)) ?_
  refine lCall (as := [.int (xs (i + nI 1).toNatClampNeg), .int (xs (i + nI 2).toNatClampNeg), .int (xs (i + nI 3).toNatClampNeg)]) (z := 0) (rv := .int v) (M' := C') (n := 3) (idx := 214) (mj := m_X9_write) hx hb hml hown hts hc1 hc2 KC ap P P2 S hl.1 (by decide +kernel) ⟨eTb_t 1091 (by decide +kernel) rfl, eTb_t 1 (by decide +kernel) rfl, ⟨by decide +kernel, by decide +kernel, by decide +kernel⟩, by decide +kernel, by decide⟩ (eTb_t 1088 (by decide +kernel) rfl) (eTb_t 1089 (by decide +kernel) rfl) (eTb_t 1090 (by decide +kernel) rfl) rfl rfl rfl (ev_X9_write (xs (i + nI 1).toNatClampNeg) (xs (i + nI 2).toNatClampNeg) (xs (i + nI 3).toNatClampNeg) C (v, C') e1) rfl rfl rfl (by decide) rfl rfl rfl (Nat.le_of_ble_eq_true rfl) (fun H1 locs1 P P2 S => ?_)
  refine lv_aload_n (k := 2) hx hb (by decide +kernel) rfl l2 ?_
  refine lRead (n := 1) (v := nI 1) hx hb hX hbl S l0 l3 (by decide +kernel) (by decide +kernel) (by decide +kernel) rfl (by decide +kernel) (by decide +kernel) (hin 1 (by decide)) ?_
  refine lRead (n := 2) (v := nI 2) hx hb hX hbl S l0 l3 (by decide +kernel) (by decide +kernel) (by decide +kernel) rfl (by decide +kernel) (by decide +kernel) (hin 2 (by decide)) ?_
  refine lRead (n := 3) (v := nI 3) hx hb hX hbl S l0 l3 (by decide +kernel) (by decide +kernel) (by decide +kernel) rfl (by decide +kernel) (by decide +kernel) (hin 3 (by decide)) ?_
  refine lCall (as := [.int (xs (i + nI 1).toNatClampNeg), .int (xs (i + nI 2).toNatClampNeg), .int (xs (i + nI 3).toNatClampNeg)]) (z := 0) (rv := .int v) (M' := R') (n := 3) (idx := 217) (mj := m_X10_write) hx hb hml hown hts hc1 hc2 KR ap2 P2 P S hl.1 (by decide +kernel) ⟨eTb_t 1677 (by decide +kernel) rfl, eTb_t 11 (by decide +kernel) rfl, ⟨by decide +kernel, by decide +kernel, by decide +kernel⟩, by decide +kernel, by decide⟩ (eTb_t 1674 (by decide +kernel) rfl) (eTb_t 1675 (by decide +kernel) rfl) (eTb_t 1676 (by decide +kernel) rfl) rfl rfl rfl (ev_X10_write (xs (i + nI 1).toNatClampNeg) (xs (i + nI 2).toNatClampNeg) (xs (i + nI 3).toNatClampNeg) R (v, R') e2) rfl rfl rfl (by decide) rfl rfl rfl (Nat.le_of_ble_eq_true rfl) (fun H2 locs2 P2 P S => ?_)
  refine lv_icmp_eq (tgt := 1997) (off := 186) hx hb (by decide +kernel) (by decide) (fun _ => ?_) (fun hne => absurd rfl hne)
  exact kk C' R' hr H2 locs2 ls P P2 S hl
theorem lc_49 {p : Program} {l : Launch} {e : Env} {s : State} {m : MethodId} {below : List Frame} {meth : Method} {c : Code} {b L : Nat} {xs : Nat → Int32} {cells slots : Nat} {Q : State → Prop} {D : va_G} {ac : Nat → ClassId} {adC adR : Nat → Nat} {i : Int32} {C R : eMem} (hL : LX p s m meth c b L xs cells slots D ac adC adR) (h : Rel C R) (hin : ∀ k, k < 6 → vp_in (i + nI k) L) (kk : ∀ C' R', Rel C' R' → LAt p l e s m below meth c b cells slots Q D ac adC adR 1997 i C' R') : LAt p l e s m below meth c b cells slots Q D ac adC adR 1816 i C R := by
  intro H locs ls P P2 S hl
  obtain ⟨⟨hx, hb, hml, hown, hts⟩, ⟨hX, hbl⟩, ⟨hc1, hc2⟩, KC, KR, ap, ap2⟩ := hL
  have l0 := lv_at hl 0 rfl
  have l1 := lv_at hl 1 rfl
  have l2 := lv_at hl 2 rfl
  have l3 := lv_at hl 3 rfl
  obtain ⟨v, C', R', e1, e2, hr⟩ := st_read h (xs (i + nI 1).toNatClampNeg) (xs (i + nI 2).toNatClampNeg)
  refine lv_aload_n (k := 1) hx hb (by decide +kernel) rfl l1 ?_
  refine lRead (n := 1) (v := nI 1) hx hb hX hbl S l0 l3 (by decide +kernel) (by decide +kernel) (by decide +kernel) rfl (by decide +kernel) (by decide +kernel) (hin 1 (by decide)) ?_
  refine lRead (n := 2) (v := nI 2) hx hb hX hbl S l0 l3 (by decide +kernel) (by decide +kernel) (by decide +kernel) rfl (by decide +kernel) (by decide +kernel) (hin 2 (by decide)) ?_
  refine lCall (as := [.int (xs (i + nI 1).toNatClampNeg), .int (xs (i + nI 2).toNatClampNeg)]) (z := 0) (rv := .int v) (M' := C') (n := 2) (idx := 218) (mj := m_X9_read) hx hb hml hown hts hc1 hc2 KC ap P P2 S hl.1 (by decide +kernel) ⟨eTb_t 1095 (by decide +kernel) rfl, eTb_t 1 (by decide +kernel) rfl, ⟨by decide +kernel, by decide +kernel, by decide +kernel⟩, by decide +kernel, by decide⟩ (eTb_t 1092 (by decide +kernel) rfl) (eTb_t 1093 (by decide +kernel) rfl) (eTb_t 1094 (by decide +kernel) rfl) rfl rfl rfl (ev_X9_read (xs (i + nI 1).toNatClampNeg) (xs (i + nI 2).toNatClampNeg) C (v, C') e1) rfl rfl rfl (by decide) rfl rfl rfl (Nat.le_of_ble_eq_true rfl) (fun H1 locs1 P P2 S => ?_)
  refine lv_aload_n (k := 2) hx hb (by decide +kernel) rfl l2 ?_
  refine lRead (n := 1) (v := nI 1) hx hb hX hbl S l0 l3 (by decide +kernel) (by decide +kernel) (by decide +kernel) rfl (by decide +kernel) (by decide +kernel) (hin 1 (by decide)) ?_
  refine lRead (n := 2) (v := nI 2) hx hb hX hbl S l0 l3 (by decide +kernel) (by decide +kernel) (by decide +kernel) rfl (by decide +kernel) (by decide +kernel) (hin 2 (by decide)) ?_
  refine lCall (as := [.int (xs (i + nI 1).toNatClampNeg), .int (xs (i + nI 2).toNatClampNeg)]) (z := 0) (rv := .int v) (M' := R') (n := 2) (idx := 221) (mj := m_X10_read) hx hb hml hown hts hc1 hc2 KR ap2 P2 P S hl.1 (by decide +kernel) ⟨eTb_t 1681 (by decide +kernel) rfl, eTb_t 11 (by decide +kernel) rfl, ⟨by decide +kernel, by decide +kernel, by decide +kernel⟩, by decide +kernel, by decide⟩ (eTb_t 1678 (by decide +kernel) rfl) (eTb_t 1679 (by decide +kernel) rfl) (eTb_t 1680 (by decide +kernel) rfl) rfl rfl rfl (ev_X10_read (xs (i + nI 1).toNatClampNeg) (xs (i + nI 2).toNatClampNeg) R (v, R') e2) rfl rfl rfl (by decide) rfl rfl rfl (Nat.le_of_ble_eq_true rfl) (fun H2 locs2 P2 P S => ?_)
  refine lv_icmp_eq (tgt := 1997) (off := 153) hx hb (by decide +kernel) (by decide) (fun _ => ?_) (fun hne => absurd rfl hne)
  exact kk C' R' hr H2 locs2 ls P P2 S hl
theorem lc_50 {p : Program} {l : Launch} {e : Env} {s : State} {m : MethodId} {below : List Frame} {meth : Method} {c : Code} {b L : Nat} {xs : Nat → Int32} {cells slots : Nat} {Q : State → Prop} {D : va_G} {ac : Nat → ClassId} {adC adR : Nat → Nat} {i : Int32} {C R : eMem} (hL : LX p s m meth c b L xs cells slots D ac adC adR) (h : Rel C R) (hin : ∀ k, k < 6 → vp_in (i + nI k) L) (kk : ∀ C' R', Rel C' R' → LAt p l e s m below meth c b cells slots Q D ac adC adR 1997 i C' R') : LAt p l e s m below meth c b cells slots Q D ac adC adR 1849 i C R := by
  intro H locs ls P P2 S hl
  obtain ⟨⟨hx, hb, hml, hown, hts⟩, ⟨hX, hbl⟩, ⟨hc1, hc2⟩, KC, KR, ap, ap2⟩ := hL
  have l0 := lv_at hl 0 rfl
  have l1 := lv_at hl 1 rfl
  have l2 := lv_at hl 2 rfl
  have l3 := lv_at hl 3 rfl
  obtain ⟨v, C', R', e1, e2, hr⟩ := st_copy h (xs (i + nI 1).toNatClampNeg) (xs (i + nI 2).toNatClampNeg) (xs (i + nI 3).toNatClampNeg) (xs (i + nI 4).toNatClampNeg) (xs (i + nI 5).toNatClampNeg)
  refine lv_aload_n (k := 1) hx hb (by decide +kernel) rfl l1 ?_
  refine lRead (n := 1) (v := nI 1) hx hb hX hbl S l0 l3 (by decide +kernel) (by decide +kernel) (by decide +kernel) rfl (by decide +kernel) (by decide +kernel) (hin 1 (by decide)) ?_
  refine lRead (n := 2) (v := nI 2) hx hb hX hbl S l0 l3 (by decide +kernel) (by decide +kernel) (by decide +kernel) rfl (by decide +kernel) (by decide +kernel) (hin 2 (by decide)) ?_
  refine lRead (n := 3) (v := nI 3) hx hb hX hbl S l0 l3 (by decide +kernel) (by decide +kernel) (by decide +kernel) rfl (by decide +kernel) (by decide +kernel) (hin 3 (by decide)) ?_
  refine lRead (n := 4) (v := nI 4) hx hb hX hbl S l0 l3 (by decide +kernel) (by decide +kernel) (by decide +kernel) rfl (by decide +kernel) (by decide +kernel) (hin 4 (by decide)) ?_
  refine lRead (n := 5) (v := nI 5) hx hb hX hbl S l0 l3 (by decide +kernel) (by decide +kernel) (by decide +kernel) rfl (by decide +kernel) (by decide +kernel) (hin 5 (by decide)) ?_
  refine lCall (as := [.int (xs (i + nI 1).toNatClampNeg), .int (xs (i + nI 2).toNatClampNeg), .int (xs (i + nI 3).toNatClampNeg), .int (xs (i + nI 4).toNatClampNeg), .int (xs (i + nI 5).toNatClampNeg)]) (z := 0) (rv := .int v) (M' := C') (n := 5) (idx := 222) (mj := m_X9_copy) hx hb hml hown hts hc1 hc2 KC ap P P2 S hl.1 (by decide +kernel) ⟨eTb_t 1099 (by decide +kernel) rfl, eTb_t 1 (by decide +kernel) rfl, ⟨by decide +kernel, by decide +kernel, by decide +kernel⟩, by decide +kernel, by decide⟩ (eTb_t 1096 (by decide +kernel) rfl) (eTb_t 1097 (by decide +kernel) rfl) (eTb_t 1098 (by decide +kernel) rfl) rfl rfl rfl (ev_X9_copy (xs (i + nI 1).toNatClampNeg) (xs (i + nI 2).toNatClampNeg) (xs (i + nI 3).toNatClampNeg) (xs (i + nI 4).toNatClampNeg) (xs (i + nI 5).toNatClampNeg) C (v, C') e1) rfl rfl rfl (by decide) rfl rfl rfl (Nat.le_of_ble_eq_true rfl) (fun H1 locs1 P P2 S => ?_)
  refine lv_aload_n (k := 2) hx hb (by decide +kernel) rfl l2 ?_
  refine lRead (n := 1) (v := nI 1) hx hb hX hbl S l0 l3 (by decide +kernel) (by decide +kernel) (by decide +kernel) rfl (by decide +kernel) (by decide +kernel) (hin 1 (by decide)) ?_
  refine lRead (n := 2) (v := nI 2) hx hb hX hbl S l0 l3 (by decide +kernel) (by decide +kernel) (by decide +kernel) rfl (by decide +kernel) (by decide +kernel) (hin 2 (by decide)) ?_
  refine lRead (n := 3) (v := nI 3) hx hb hX hbl S l0 l3 (by decide +kernel) (by decide +kernel) (by decide +kernel) rfl (by decide +kernel) (by decide +kernel) (hin 3 (by decide)) ?_
  refine lRead (n := 4) (v := nI 4) hx hb hX hbl S l0 l3 (by decide +kernel) (by decide +kernel) (by decide +kernel) rfl (by decide +kernel) (by decide +kernel) (hin 4 (by decide)) ?_
  refine lRead (n := 5) (v := nI 5) hx hb hX hbl S l0 l3 (by decide +kernel) (by decide +kernel) (by decide +kernel) rfl (by decide +kernel) (by decide +kernel) (hin 5 (by decide)) ?_
  refine lCall (as := [.int (xs (i + nI 1).toNatClampNeg), .int (xs (i + nI 2).toNatClampNeg), .int (xs (i + nI 3).toNatClampNeg), .int (xs (i + nI 4).toNatClampNeg), .int (xs (i + nI 5).toNatClampNeg)]) (z := 1) (rv := .int v) (M' := R') (n := 5) (idx := 226) (mj := m_X10_copy) hx hb hml hown hts hc1 hc2 KR ap2 P2 P S hl.1 (by decide +kernel) ⟨eTb_t 1685 (by decide +kernel) rfl, eTb_t 11 (by decide +kernel) rfl, ⟨by decide +kernel, by decide +kernel, by decide +kernel⟩, by decide +kernel, by decide⟩ (eTb_t 1682 (by decide +kernel) rfl) (eTb_t 1683 (by decide +kernel) rfl) (eTb_t 1684 (by decide +kernel) rfl) rfl rfl rfl (ev_X10_copy (xs (i + nI 1).toNatClampNeg) (xs (i + nI 2).toNatClampNeg) (xs (i + nI 3).toNatClampNeg) (xs (i + nI 4).toNatClampNeg) (xs (i + nI 5).toNatClampNeg) R (v, R') e2) rfl rfl rfl (by decide) rfl rfl rfl (Nat.le_of_ble_eq_true rfl) (fun H2 locs2 P2 P S => ?_)
  refine lv_icmp_eq (tgt := 1997) (off := 90) hx hb (by decide +kernel) (by decide) (fun _ => ?_) (fun hne => absurd rfl hne)
  exact kk C' R' hr H2 locs2 ls P P2 S hl
theorem lc_51 {p : Program} {l : Launch} {e : Env} {s : State} {m : MethodId} {below : List Frame} {meth : Method} {c : Code} {b L : Nat} {xs : Nat → Int32} {cells slots : Nat} {Q : State → Prop} {D : va_G} {ac : Nat → ClassId} {adC adR : Nat → Nat} {i : Int32} {C R : eMem} (hL : LX p s m meth c b L xs cells slots D ac adC adR) (h : Rel C R) (hin : ∀ k, k < 6 → vp_in (i + nI k) L) (kk : ∀ C' R', Rel C' R' → LAt p l e s m below meth c b cells slots Q D ac adC adR 1997 i C' R') : LAt p l e s m below meth c b cells slots Q D ac adC adR 1912 i C R := by
  intro H locs ls P P2 S hl
  obtain ⟨⟨hx, hb, hml, hown, hts⟩, ⟨hX, hbl⟩, ⟨hc1, hc2⟩, KC, KR, ap, ap2⟩ := hL
  have l0 := lv_at hl 0 rfl
  have l1 := lv_at hl 1 rfl
  have l2 := lv_at hl 2 rfl
  have l3 := lv_at hl 3 rfl
  obtain ⟨v, C', R', e1, e2, hr⟩ := st_image h 
  refine lv_aload_n (k := 1) hx hb (by decide +kernel) rfl l1 ?_
  refine lCall (as := []) (z := 0) (rv := .int v) (M' := C') (n := 0) (idx := 227) (mj := m_X9_image) hx hb hml hown hts hc1 hc2 KC ap P P2 S hl.1 (by decide +kernel) ⟨eTb_t 1108 (by decide +kernel) rfl, eTb_t 1 (by decide +kernel) rfl, ⟨by decide +kernel, by decide +kernel, by decide +kernel⟩, by decide +kernel, by decide⟩ (eTb_t 1105 (by decide +kernel) rfl) (eTb_t 1106 (by decide +kernel) rfl) (eTb_t 1107 (by decide +kernel) rfl) rfl rfl rfl (ev_X9_image  C (v, C') e1) rfl rfl rfl (by decide) rfl rfl rfl (Nat.le_of_ble_eq_true rfl) (fun H1 locs1 P P2 S => ?_)
  refine lv_aload_n (k := 2) hx hb (by decide +kernel) rfl l2 ?_
  refine lCall (as := []) (z := 1) (rv := .int v) (M' := R') (n := 0) (idx := 230) (mj := m_X10_image) hx hb hml hown hts hc1 hc2 KR ap2 P2 P S hl.1 (by decide +kernel) ⟨eTb_t 1689 (by decide +kernel) rfl, eTb_t 11 (by decide +kernel) rfl, ⟨by decide +kernel, by decide +kernel, by decide +kernel⟩, by decide +kernel, by decide⟩ (eTb_t 1686 (by decide +kernel) rfl) (eTb_t 1687 (by decide +kernel) rfl) (eTb_t 1688 (by decide +kernel) rfl) rfl rfl rfl (ev_X10_image  R (v, R') e2) rfl rfl rfl (by decide) rfl rfl rfl (Nat.le_of_ble_eq_true rfl) (fun H2 locs2 P2 P S => ?_)
  refine lv_icmp_eq (tgt := 1997) (off := 77) hx hb (by decide +kernel) (by decide) (fun _ => ?_) (fun hne => absurd rfl hne)
  exact kk C' R' hr H2 locs2 ls P P2 S hl
theorem lc_52 {p : Program} {l : Launch} {e : Env} {s : State} {m : MethodId} {below : List Frame} {meth : Method} {c : Code} {b L : Nat} {xs : Nat → Int32} {cells slots : Nat} {Q : State → Prop} {D : va_G} {ac : Nat → ClassId} {adC adR : Nat → Nat} {i : Int32} {C R : eMem} (hL : LX p s m meth c b L xs cells slots D ac adC adR) (h : Rel C R) (hin : ∀ k, k < 6 → vp_in (i + nI k) L) (kk : ∀ C' R', Rel C' R' → LAt p l e s m below meth c b cells slots Q D ac adC adR 1997 i C' R') : LAt p l e s m below meth c b cells slots Q D ac adC adR 1925 i C R := by
  intro H locs ls P P2 S hl
  obtain ⟨⟨hx, hb, hml, hown, hts⟩, ⟨hX, hbl⟩, ⟨hc1, hc2⟩, KC, KR, ap, ap2⟩ := hL
  have l0 := lv_at hl 0 rfl
  have l1 := lv_at hl 1 rfl
  have l2 := lv_at hl 2 rfl
  have l3 := lv_at hl 3 rfl
  obtain ⟨v, C', R', e1, e2, hr⟩ := st_undo h 
  refine lv_aload_n (k := 1) hx hb (by decide +kernel) rfl l1 ?_
  refine lCall (as := []) (z := 0) (rv := .int v) (M' := C') (n := 0) (idx := 231) (mj := m_X9_undo) hx hb hml hown hts hc1 hc2 KC ap P P2 S hl.1 (by decide +kernel) ⟨eTb_t 1142 (by decide +kernel) rfl, eTb_t 1 (by decide +kernel) rfl, ⟨by decide +kernel, by decide +kernel, by decide +kernel⟩, by decide +kernel, by decide⟩ (eTb_t 1139 (by decide +kernel) rfl) (eTb_t 1140 (by decide +kernel) rfl) (eTb_t 1141 (by decide +kernel) rfl) rfl rfl rfl (ev_X9_undo  C (v, C') e1) rfl rfl rfl (by decide) rfl rfl rfl (Nat.le_of_ble_eq_true rfl) (fun H1 locs1 P P2 S => ?_)
  refine lv_aload_n (k := 2) hx hb (by decide +kernel) rfl l2 ?_
  refine lCall (as := []) (z := 1) (rv := .int v) (M' := R') (n := 0) (idx := 234) (mj := m_X10_undo) hx hb hml hown hts hc1 hc2 KR ap2 P2 P S hl.1 (by decide +kernel) ⟨eTb_t 1693 (by decide +kernel) rfl, eTb_t 11 (by decide +kernel) rfl, ⟨by decide +kernel, by decide +kernel, by decide +kernel⟩, by decide +kernel, by decide⟩ (eTb_t 1690 (by decide +kernel) rfl) (eTb_t 1691 (by decide +kernel) rfl) (eTb_t 1692 (by decide +kernel) rfl) rfl rfl rfl (ev_X10_undo  R (v, R') e2) rfl rfl rfl (by decide) rfl rfl rfl (Nat.le_of_ble_eq_true rfl) (fun H2 locs2 P2 P S => ?_)
  refine lv_icmp_eq (tgt := 1997) (off := 64) hx hb (by decide +kernel) (by decide) (fun _ => ?_) (fun hne => absurd rfl hne)
  exact kk C' R' hr H2 locs2 ls P P2 S hl
theorem lc_53 {p : Program} {l : Launch} {e : Env} {s : State} {m : MethodId} {below : List Frame} {meth : Method} {c : Code} {b L : Nat} {xs : Nat → Int32} {cells slots : Nat} {Q : State → Prop} {D : va_G} {ac : Nat → ClassId} {adC adR : Nat → Nat} {i : Int32} {C R : eMem} (hL : LX p s m meth c b L xs cells slots D ac adC adR) (h : Rel C R) (hin : ∀ k, k < 6 → vp_in (i + nI k) L) (kk : ∀ C' R', Rel C' R' → LAt p l e s m below meth c b cells slots Q D ac adC adR 1997 i C' R') : LAt p l e s m below meth c b cells slots Q D ac adC adR 1938 i C R := by
  intro H locs ls P P2 S hl
  obtain ⟨⟨hx, hb, hml, hown, hts⟩, ⟨hX, hbl⟩, ⟨hc1, hc2⟩, KC, KR, ap, ap2⟩ := hL
  have l0 := lv_at hl 0 rfl
  have l1 := lv_at hl 1 rfl
  have l2 := lv_at hl 2 rfl
  have l3 := lv_at hl 3 rfl
  obtain ⟨v, C', R', e1, e2, hr⟩ := st_tear h 
  refine lv_aload_n (k := 1) hx hb (by decide +kernel) rfl l1 ?_
  refine lCall (as := []) (z := 1) (rv := .int v) (M' := C') (n := 0) (idx := 235) (mj := m_X9_tear) hx hb hml hown hts hc1 hc2 KC ap P P2 S hl.1 (by decide +kernel) ⟨eTb_t 1146 (by decide +kernel) rfl, eTb_t 1 (by decide +kernel) rfl, ⟨by decide +kernel, by decide +kernel, by decide +kernel⟩, by decide +kernel, by decide⟩ (eTb_t 1143 (by decide +kernel) rfl) (eTb_t 1144 (by decide +kernel) rfl) (eTb_t 1145 (by decide +kernel) rfl) rfl rfl rfl (ev_X9_tear  C (v, C') e1) rfl rfl rfl (by decide) rfl rfl rfl (Nat.le_of_ble_eq_true rfl) (fun H1 locs1 P P2 S => ?_)
  refine lv_aload_n (k := 2) hx hb (by decide +kernel) rfl l2 ?_
  refine lCall (as := []) (z := 1) (rv := .int v) (M' := R') (n := 0) (idx := 238) (mj := m_X10_tear) hx hb hml hown hts hc1 hc2 KR ap2 P2 P S hl.1 (by decide +kernel) ⟨eTb_t 1697 (by decide +kernel) rfl, eTb_t 11 (by decide +kernel) rfl, ⟨by decide +kernel, by decide +kernel, by decide +kernel⟩, by decide +kernel, by decide⟩ (eTb_t 1694 (by decide +kernel) rfl) (eTb_t 1695 (by decide +kernel) rfl) (eTb_t 1696 (by decide +kernel) rfl) rfl rfl rfl (ev_X10_tear  R (v, R') e2) rfl rfl rfl (by decide) rfl rfl rfl (Nat.le_of_ble_eq_true rfl) (fun H2 locs2 P2 P S => ?_)
  refine lv_icmp_eq (tgt := 1997) (off := 51) hx hb (by decide +kernel) (by decide) (fun _ => ?_) (fun hne => absurd rfl hne)
  exact kk C' R' hr H2 locs2 ls P P2 S hl
theorem lc_54 {p : Program} {l : Launch} {e : Env} {s : State} {m : MethodId} {below : List Frame} {meth : Method} {c : Code} {b L : Nat} {xs : Nat → Int32} {cells slots : Nat} {Q : State → Prop} {D : va_G} {ac : Nat → ClassId} {adC adR : Nat → Nat} {i : Int32} {C R : eMem} (hL : LX p s m meth c b L xs cells slots D ac adC adR) (h : Rel C R) (hin : ∀ k, k < 6 → vp_in (i + nI k) L) (kk : ∀ C' R', Rel C' R' → LAt p l e s m below meth c b cells slots Q D ac adC adR 1997 i C' R') : LAt p l e s m below meth c b cells slots Q D ac adC adR 1951 i C R := by
  intro H locs ls P P2 S hl
  obtain ⟨⟨hx, hb, hml, hown, hts⟩, ⟨hX, hbl⟩, ⟨hc1, hc2⟩, KC, KR, ap, ap2⟩ := hL
  have l0 := lv_at hl 0 rfl
  have l1 := lv_at hl 1 rfl
  have l2 := lv_at hl 2 rfl
  have l3 := lv_at hl 3 rfl
  obtain ⟨v, C', R', e1, e2, hr⟩ := st_count h (xs (i + nI 1).toNatClampNeg)
  refine lv_aload_n (k := 1) hx hb (by decide +kernel) rfl l1 ?_
  refine lRead (n := 1) (v := nI 1) hx hb hX hbl S l0 l3 (by decide +kernel) (by decide +kernel) (by decide +kernel) rfl (by decide +kernel) (by decide +kernel) (hin 1 (by decide)) ?_
  refine lCall (as := [.int (xs (i + nI 1).toNatClampNeg)]) (z := 0) (rv := .int v) (M' := C') (n := 1) (idx := 239) (mj := m_X9_count) hx hb hml hown hts hc1 hc2 KC ap P P2 S hl.1 (by decide +kernel) ⟨eTb_t 1150 (by decide +kernel) rfl, eTb_t 1 (by decide +kernel) rfl, ⟨by decide +kernel, by decide +kernel, by decide +kernel⟩, by decide +kernel, by decide⟩ (eTb_t 1147 (by decide +kernel) rfl) (eTb_t 1148 (by decide +kernel) rfl) (eTb_t 1149 (by decide +kernel) rfl) rfl rfl rfl (ev_X9_count (xs (i + nI 1).toNatClampNeg) C (v, C') e1) rfl rfl rfl (by decide) rfl rfl rfl (Nat.le_of_ble_eq_true rfl) (fun H1 locs1 P P2 S => ?_)
  refine lv_aload_n (k := 2) hx hb (by decide +kernel) rfl l2 ?_
  refine lRead (n := 1) (v := nI 1) hx hb hX hbl S l0 l3 (by decide +kernel) (by decide +kernel) (by decide +kernel) rfl (by decide +kernel) (by decide +kernel) (hin 1 (by decide)) ?_
  refine lCall (as := [.int (xs (i + nI 1).toNatClampNeg)]) (z := 0) (rv := .int v) (M' := R') (n := 1) (idx := 242) (mj := m_X10_count) hx hb hml hown hts hc1 hc2 KR ap2 P2 P S hl.1 (by decide +kernel) ⟨eTb_t 1701 (by decide +kernel) rfl, eTb_t 11 (by decide +kernel) rfl, ⟨by decide +kernel, by decide +kernel, by decide +kernel⟩, by decide +kernel, by decide⟩ (eTb_t 1698 (by decide +kernel) rfl) (eTb_t 1699 (by decide +kernel) rfl) (eTb_t 1700 (by decide +kernel) rfl) rfl rfl rfl (ev_X10_count (xs (i + nI 1).toNatClampNeg) R (v, R') e2) rfl rfl rfl (by decide) rfl rfl rfl (Nat.le_of_ble_eq_true rfl) (fun H2 locs2 P2 P S => ?_)
  refine lv_icmp_eq (tgt := 1997) (off := 28) hx hb (by decide +kernel) (by decide) (fun _ => ?_) (fun hne => absurd rfl hne)
  exact kk C' R' hr H2 locs2 ls P P2 S hl
theorem lc_55 {p : Program} {l : Launch} {e : Env} {s : State} {m : MethodId} {below : List Frame} {meth : Method} {c : Code} {b L : Nat} {xs : Nat → Int32} {cells slots : Nat} {Q : State → Prop} {D : va_G} {ac : Nat → ClassId} {adC adR : Nat → Nat} {i : Int32} {C R : eMem} (hL : LX p s m meth c b L xs cells slots D ac adC adR) (h : Rel C R) (hin : ∀ k, k < 6 → vp_in (i + nI k) L) (kk : ∀ C' R', Rel C' R' → LAt p l e s m below meth c b cells slots Q D ac adC adR 1997 i C' R') : LAt p l e s m below meth c b cells slots Q D ac adC adR 1974 i C R := by
  intro H locs ls P P2 S hl
  obtain ⟨⟨hx, hb, hml, hown, hts⟩, ⟨hX, hbl⟩, ⟨hc1, hc2⟩, KC, KR, ap, ap2⟩ := hL
  have l0 := lv_at hl 0 rfl
  have l1 := lv_at hl 1 rfl
  have l2 := lv_at hl 2 rfl
  have l3 := lv_at hl 3 rfl
  obtain ⟨v, C', R', e1, e2, hr⟩ := st_status h (xs (i + nI 1).toNatClampNeg)
  refine lv_aload_n (k := 1) hx hb (by decide +kernel) rfl l1 ?_
  refine lRead (n := 1) (v := nI 1) hx hb hX hbl S l0 l3 (by decide +kernel) (by decide +kernel) (by decide +kernel) rfl (by decide +kernel) (by decide +kernel) (hin 1 (by decide)) ?_
  refine lCall (as := [.int (xs (i + nI 1).toNatClampNeg)]) (z := 5) (rv := .int v) (M' := C') (n := 1) (idx := 243) (mj := m_X9_status) hx hb hml hown hts hc1 hc2 KC ap P P2 S hl.1 (by decide +kernel) ⟨eTb_t 1155 (by decide +kernel) rfl, eTb_t 1 (by decide +kernel) rfl, ⟨by decide +kernel, by decide +kernel, by decide +kernel⟩, by decide +kernel, by decide⟩ (eTb_t 1152 (by decide +kernel) rfl) (eTb_t 1153 (by decide +kernel) rfl) (eTb_t 1154 (by decide +kernel) rfl) rfl rfl rfl (ev_X9_status (xs (i + nI 1).toNatClampNeg) C (v, C') e1) rfl rfl rfl (by decide) rfl rfl rfl (Nat.le_of_ble_eq_true rfl) (fun H1 locs1 P P2 S => ?_)
  refine lv_aload_n (k := 2) hx hb (by decide +kernel) rfl l2 ?_
  refine lRead (n := 1) (v := nI 1) hx hb hX hbl S l0 l3 (by decide +kernel) (by decide +kernel) (by decide +kernel) rfl (by decide +kernel) (by decide +kernel) (hin 1 (by decide)) ?_
  refine lCall (as := [.int (xs (i + nI 1).toNatClampNeg)]) (z := 2) (rv := .int v) (M' := R') (n := 1) (idx := 246) (mj := m_X10_status) hx hb hml hown hts hc1 hc2 KR ap2 P2 P S hl.1 (by decide +kernel) ⟨eTb_t 1705 (by decide +kernel) rfl, eTb_t 11 (by decide +kernel) rfl, ⟨by decide +kernel, by decide +kernel, by decide +kernel⟩, by decide +kernel, by decide⟩ (eTb_t 1702 (by decide +kernel) rfl) (eTb_t 1703 (by decide +kernel) rfl) (eTb_t 1704 (by decide +kernel) rfl) rfl rfl rfl (ev_X10_status (xs (i + nI 1).toNatClampNeg) R (v, R') e2) rfl rfl rfl (by decide) rfl rfl rfl (Nat.le_of_ble_eq_true rfl) (fun H2 locs2 P2 P S => ?_)
  refine lv_icmp_eq (tgt := 1997) (off := 5) hx hb (by decide +kernel) (by decide) (fun _ => ?_) (fun hne => absurd rfl hne)
  exact kk C' R' hr H2 locs2 ls P P2 S hl
