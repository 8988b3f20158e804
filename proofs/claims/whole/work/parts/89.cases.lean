/-! the law's cases (printed) -/
theorem lc_0 {p : Program} {l : Launch} {e : Env} {s : State} {m : MethodId} {below : List Frame} {meth : Method} {c : Code} {b L : Nat} {xs : Nat → Int32} {cells slots : Nat} {Q : State → Prop} {D : va_G} {ac : Nat → ClassId} {adC adR : Nat → Nat} {i : Int32} {C R : eMem} (hL : LX p s m meth c b L xs cells slots D ac adC adR) (h : Rel C R) (hin : ∀ k, k < 6 → vp_in (i + nI k) L) (kk : ∀ C' R', Rel C' R' → LAt p l e s m below meth c b cells slots Q D ac adC adR 1997 i C' R') : LAt p l e s m below meth c b cells slots Q D ac adC adR 272 i C R := by
  intro H locs ls P P2 S hl
  obtain ⟨⟨hx, hb, hml, hown, hts⟩, ⟨hX, hbl⟩, ⟨hc1, hc2⟩, KC, KR, ap, ap2⟩ := hL
  have l0 := lv_at hl 0 rfl
  have l1 := lv_at hl 1 rfl
  have l2 := lv_at hl 2 rfl
  have l3 := lv_at hl 3 rfl
  obtain ⟨v, C', R', e1, e2, hr⟩ := st_cell h (xs (i + nI 1).toNatClampNeg) (xs (i + nI 2).toNatClampNeg)
  refine lv_aload_n (k := 1) hx hb (by decide +kernel) rfl l1 ?_
  refine lRead (n := 1) (v := nI 1) hx hb hX hbl S l0 l3 (by decide +kernel) (by decide +kernel) (by decide +kernel) rfl (by decide +kernel) (by decide +kernel) (hin 1 (by decide)) ?_
  refine lRead (n := 2) (v := nI 2) hx hb hX hbl S l0 l3 (by decide +kernel) (by decide +kernel) (by decide +kernel) rfl (by decide +kernel) (by decide +kernel) (hin 2 (by decide)) ?_
  refine lCall (as := [.int (xs (i + nI 1).toNatClampNeg), .int (xs (i + nI 2).toNatClampNeg)]) (z := 1) (rv := .int v) (M' := C') (n := 2) (idx := 13) (mj := m_X9_cell) hx hb hml hown hts hc1 hc2 KC ap P P2 S hl.1 (by decide +kernel) ⟨eTb_t 458 (by decide +kernel) rfl, eTb_t 1 (by decide +kernel) rfl, ⟨by decide +kernel, by decide +kernel, by decide +kernel⟩, by decide +kernel, by decide⟩ (eTb_t 455 (by decide +kernel) rfl) (eTb_t 456 (by decide +kernel) rfl) (eTb_t 457 (by decide +kernel) rfl) rfl rfl rfl (ev_X9_cell (xs (i + nI 1).toNatClampNeg) (xs (i + nI 2).toNatClampNeg) C (v, C') e1) rfl rfl rfl (by decide) rfl rfl rfl (Nat.le_of_ble_eq_true rfl) (fun H1 locs1 P P2 S => ?_)
  refine lv_aload_n (k := 2) hx hb (by decide +kernel) rfl l2 ?_
  refine lRead (n := 1) (v := nI 1) hx hb hX hbl S l0 l3 (by decide +kernel) (by decide +kernel) (by decide +kernel) rfl (by decide +kernel) (by decide +kernel) (hin 1 (by decide)) ?_
  refine lRead (n := 2) (v := nI 2) hx hb hX hbl S l0 l3 (by decide +kernel) (by decide +kernel) (by decide +kernel) rfl (by decide +kernel) (by decide +kernel) (hin 2 (by decide)) ?_
  refine lCall (as := [.int (xs (i + nI 1).toNatClampNeg), .int (xs (i + nI 2).toNatClampNeg)]) (z := 1) (rv := .int v) (M' := R') (n := 2) (idx := 17) (mj := m_X10_cell) hx hb hml hown hts hc1 hc2 KR ap2 P2 P S hl.1 (by decide +kernel) ⟨eTb_t 1232 (by decide +kernel) rfl, eTb_t 11 (by decide +kernel) rfl, ⟨by decide +kernel, by decide +kernel, by decide +kernel⟩, by decide +kernel, by decide⟩ (eTb_t 1229 (by decide +kernel) rfl) (eTb_t 1230 (by decide +kernel) rfl) (eTb_t 1231 (by decide +kernel) rfl) rfl rfl rfl (ev_X10_cell (xs (i + nI 1).toNatClampNeg) (xs (i + nI 2).toNatClampNeg) R (v, R') e2) rfl rfl rfl (by decide) rfl rfl rfl (Nat.le_of_ble_eq_true rfl) (fun H2 locs2 P2 P S => ?_)
  refine lv_icmp_eq (tgt := 1997) (off := 1697) hx hb (by decide +kernel) (by decide) (fun _ => ?_) (fun hne => absurd rfl hne)
  exact kk C' R' hr H2 locs2 ls P P2 S hl
theorem lc_1 {p : Program} {l : Launch} {e : Env} {s : State} {m : MethodId} {below : List Frame} {meth : Method} {c : Code} {b L : Nat} {xs : Nat → Int32} {cells slots : Nat} {Q : State → Prop} {D : va_G} {ac : Nat → ClassId} {adC adR : Nat → Nat} {i : Int32} {C R : eMem} (hL : LX p s m meth c b L xs cells slots D ac adC adR) (h : Rel C R) (hin : ∀ k, k < 6 → vp_in (i + nI k) L) (kk : ∀ C' R', Rel C' R' → LAt p l e s m below meth c b cells slots Q D ac adC adR 1997 i C' R') : LAt p l e s m below meth c b cells slots Q D ac adC adR 305 i C R := by
  intro H locs ls P P2 S hl
  obtain ⟨⟨hx, hb, hml, hown, hts⟩, ⟨hX, hbl⟩, ⟨hc1, hc2⟩, KC, KR, ap, ap2⟩ := hL
  have l0 := lv_at hl 0 rfl
  have l1 := lv_at hl 1 rfl
  have l2 := lv_at hl 2 rfl
  have l3 := lv_at hl 3 rfl
  obtain ⟨v, C', R', e1, e2, hr⟩ := st_road h (xs (i + nI 1).toNatClampNeg) (xs (i + nI 2).toNatClampNeg) (xs (i + nI 3).toNatClampNeg)
  refine lv_aload_n (k := 1) hx hb (by decide +kernel) rfl l1 ?_
  refine lRead (n := 1) (v := nI 1) hx hb hX hbl S l0 l3 (by decide +kernel) (by decide +kernel) (by decide +kernel) rfl (by decide +kernel) (by decide +kernel) (hin 1 (by decide)) ?_
  refine lRead (n := 2) (v := nI 2) hx hb hX hbl S l0 l3 (by decide +kernel) (by decide +kernel) (by decide +kernel) rfl (by decide +kernel) (by decide +kernel) (hin 2 (by decide)) ?_
  refine lRead (n := 3) (v := nI 3) hx hb hX hbl S l0 l3 (by decide +kernel) (by decide +kernel) (by decide +kernel) rfl (by decide +kernel) (by decide +kernel) (hin 3 (by decide)) ?_
  refine lCall (as := [.int (xs (i + nI 1).toNatClampNeg), .int (xs (i + nI 2).toNatClampNeg), .int (xs (i + nI 3).toNatClampNeg)]) (z := 0) (rv := .int v) (M' := C') (n := 3) (idx := 18) (mj := m_X9_road) hx hb hml hown hts hc1 hc2 KC ap P P2 S hl.1 (by decide +kernel) ⟨eTb_t 470 (by decide +kernel) rfl, eTb_t 1 (by decide +kernel) rfl, ⟨by decide +kernel, by decide +kernel, by decide +kernel⟩, by decide +kernel, by decide⟩ (eTb_t 467 (by decide +kernel) rfl) (eTb_t 468 (by decide +kernel) rfl) (eTb_t 469 (by decide +kernel) rfl) rfl rfl rfl (ev_X9_road (xs (i + nI 1).toNatClampNeg) (xs (i + nI 2).toNatClampNeg) (xs (i + nI 3).toNatClampNeg) C (v, C') e1) rfl rfl rfl (by decide) rfl rfl rfl (Nat.le_of_ble_eq_true rfl) (fun H1 locs1 P P2 S => ?_)
  refine lv_aload_n (k := 2) hx hb (by decide +kernel) rfl l2 ?_
  refine lRead (n := 1) (v := nI 1) hx hb hX hbl S l0 l3 (by decide +kernel) (by decide +kernel) (by decide +kernel) rfl (by decide +kernel) (by decide +kernel) (hin 1 (by decide)) ?_
  refine lRead (n := 2) (v := nI 2) hx hb hX hbl S l0 l3 (by decide +kernel) (by decide +kernel) (by decide +kernel) rfl (by decide +kernel) (by decide +kernel) (hin 2 (by decide)) ?_
  refine lRead (n := 3) (v := nI 3) hx hb hX hbl S l0 l3 (by decide +kernel) (by decide +kernel) (by decide +kernel) rfl (by decide +kernel) (by decide +kernel) (hin 3 (by decide)) ?_
  refine lCall (as := [.int (xs (i + nI 1).toNatClampNeg), .int (xs (i + nI 2).toNatClampNeg), .int (xs (i + nI 3).toNatClampNeg)]) (z := 1) (rv := .int v) (M' := R') (n := 3) (idx := 22) (mj := m_X10_road_) hx hb hml hown hts hc1 hc2 KR ap2 P2 P S hl.1 (by decide +kernel) ⟨eTb_t 1247 (by decide +kernel) rfl, eTb_t 11 (by decide +kernel) rfl, ⟨by decide +kernel, by decide +kernel, by decide +kernel⟩, by decide +kernel, by decide⟩ (eTb_t 1244 (by decide +kernel) rfl) (eTb_t 1245 (by decide +kernel) rfl) (eTb_t 1246 (by decide +kernel) rfl) rfl rfl rfl (ev_X10_road_ (xs (i + nI 1).toNatClampNeg) (xs (i + nI 2).toNatClampNeg) (xs (i + nI 3).toNatClampNeg) R (v, R') e2) rfl rfl rfl (by decide) rfl rfl rfl (Nat.le_of_ble_eq_true rfl) (fun H2 locs2 P2 P S => ?_)
  refine lv_icmp_eq (tgt := 1997) (off := 1654) hx hb (by decide +kernel) (by decide) (fun _ => ?_) (fun hne => absurd rfl hne)
  exact kk C' R' hr H2 locs2 ls P P2 S hl
theorem lc_2 {p : Program} {l : Launch} {e : Env} {s : State} {m : MethodId} {below : List Frame} {meth : Method} {c : Code} {b L : Nat} {xs : Nat → Int32} {cells slots : Nat} {Q : State → Prop} {D : va_G} {ac : Nat → ClassId} {adC adR : Nat → Nat} {i : Int32} {C R : eMem} (hL : LX p s m meth c b L xs cells slots D ac adC adR) (h : Rel C R) (hin : ∀ k, k < 6 → vp_in (i + nI k) L) (kk : ∀ C' R', Rel C' R' → LAt p l e s m below meth c b cells slots Q D ac adC adR 1997 i C' R') : LAt p l e s m below meth c b cells slots Q D ac adC adR 348 i C R := by
  intro H locs ls P P2 S hl
  obtain ⟨⟨hx, hb, hml, hown, hts⟩, ⟨hX, hbl⟩, ⟨hc1, hc2⟩, KC, KR, ap, ap2⟩ := hL
  have l0 := lv_at hl 0 rfl
  have l1 := lv_at hl 1 rfl
  have l2 := lv_at hl 2 rfl
  have l3 := lv_at hl 3 rfl
  obtain ⟨v, C', R', e1, e2, hr⟩ := st_unit h (xs (i + nI 1).toNatClampNeg) (xs (i + nI 2).toNatClampNeg)
  refine lv_aload_n (k := 1) hx hb (by decide +kernel) rfl l1 ?_
  refine lRead (n := 1) (v := nI 1) hx hb hX hbl S l0 l3 (by decide +kernel) (by decide +kernel) (by decide +kernel) rfl (by decide +kernel) (by decide +kernel) (hin 1 (by decide)) ?_
  refine lRead (n := 2) (v := nI 2) hx hb hX hbl S l0 l3 (by decide +kernel) (by decide +kernel) (by decide +kernel) rfl (by decide +kernel) (by decide +kernel) (hin 2 (by decide)) ?_
  refine lCall (as := [.int (xs (i + nI 1).toNatClampNeg), .int (xs (i + nI 2).toNatClampNeg)]) (z := 0) (rv := .int v) (M' := C') (n := 2) (idx := 23) (mj := m_X9_unit) hx hb hml hown hts hc1 hc2 KC ap P P2 S hl.1 (by decide +kernel) ⟨eTb_t 483 (by decide +kernel) rfl, eTb_t 1 (by decide +kernel) rfl, ⟨by decide +kernel, by decide +kernel, by decide +kernel⟩, by decide +kernel, by decide⟩ (eTb_t 480 (by decide +kernel) rfl) (eTb_t 481 (by decide +kernel) rfl) (eTb_t 482 (by decide +kernel) rfl) rfl rfl rfl (ev_X9_unit (xs (i + nI 1).toNatClampNeg) (xs (i + nI 2).toNatClampNeg) C (v, C') e1) rfl rfl rfl (by decide) rfl rfl rfl (Nat.le_of_ble_eq_true rfl) (fun H1 locs1 P P2 S => ?_)
  refine lv_aload_n (k := 2) hx hb (by decide +kernel) rfl l2 ?_
  refine lRead (n := 1) (v := nI 1) hx hb hX hbl S l0 l3 (by decide +kernel) (by decide +kernel) (by decide +kernel) rfl (by decide +kernel) (by decide +kernel) (hin 1 (by decide)) ?_
  refine lRead (n := 2) (v := nI 2) hx hb hX hbl S l0 l3 (by decide +kernel) (by decide +kernel) (by decide +kernel) rfl (by decide +kernel) (by decide +kernel) (hin 2 (by decide)) ?_
  refine lCall (as := [.int (xs (i + nI 1).toNatClampNeg), .int (xs (i + nI 2).toNatClampNeg)]) (z := 1) (rv := .int v) (M' := R') (n := 2) (idx := 26) (mj := m_X10_unit) hx hb hml hown hts hc1 hc2 KR ap2 P2 P S hl.1 (by decide +kernel) ⟨eTb_t 1254 (by decide +kernel) rfl, eTb_t 11 (by decide +kernel) rfl, ⟨by decide +kernel, by decide +kernel, by decide +kernel⟩, by decide +kernel, by decide⟩ (eTb_t 1251 (by decide +kernel) rfl) (eTb_t 1252 (by decide +kernel) rfl) (eTb_t 1253 (by decide +kernel) rfl) rfl rfl rfl (ev_X10_unit (xs (i + nI 1).toNatClampNeg) (xs (i + nI 2).toNatClampNeg) R (v, R') e2) rfl rfl rfl (by decide) rfl rfl rfl (Nat.le_of_ble_eq_true rfl) (fun H2 locs2 P2 P S => ?_)
  refine lv_icmp_eq (tgt := 1997) (off := 1621) hx hb (by decide +kernel) (by decide) (fun _ => ?_) (fun hne => absurd rfl hne)
  exact kk C' R' hr H2 locs2 ls P P2 S hl
theorem lc_3 {p : Program} {l : Launch} {e : Env} {s : State} {m : MethodId} {below : List Frame} {meth : Method} {c : Code} {b L : Nat} {xs : Nat → Int32} {cells slots : Nat} {Q : State → Prop} {D : va_G} {ac : Nat → ClassId} {adC adR : Nat → Nat} {i : Int32} {C R : eMem} (hL : LX p s m meth c b L xs cells slots D ac adC adR) (h : Rel C R) (hin : ∀ k, k < 6 → vp_in (i + nI k) L) (kk : ∀ C' R', Rel C' R' → LAt p l e s m below meth c b cells slots Q D ac adC adR 1997 i C' R') : LAt p l e s m below meth c b cells slots Q D ac adC adR 381 i C R := by
  intro H locs ls P P2 S hl
  obtain ⟨⟨hx, hb, hml, hown, hts⟩, ⟨hX, hbl⟩, ⟨hc1, hc2⟩, KC, KR, ap, ap2⟩ := hL
  have l0 := lv_at hl 0 rfl
  have l1 := lv_at hl 1 rfl
  have l2 := lv_at hl 2 rfl
  have l3 := lv_at hl 3 rfl
  obtain ⟨v, C', R', e1, e2, hr⟩ := st_move h (xs (i + nI 1).toNatClampNeg) (xs (i + nI 2).toNatClampNeg)
  refine lv_aload_n (k := 1) hx hb (by decide +kernel) rfl l1 ?_
  refine lRead (n := 1) (v := nI 1) hx hb hX hbl S l0 l3 (by decide +kernel) (by decide +kernel) (by decide +kernel) rfl (by decide +kernel) (by decide +kernel) (hin 1 (by decide)) ?_
  refine lRead (n := 2) (v := nI 2) hx hb hX hbl S l0 l3 (by decide +kernel) (by decide +kernel) (by decide +kernel) rfl (by decide +kernel) (by decide +kernel) (hin 2 (by decide)) ?_
  refine lCall (as := [.int (xs (i + nI 1).toNatClampNeg), .int (xs (i + nI 2).toNatClampNeg)]) (z := 1) (rv := .int v) (M' := C') (n := 2) (idx := 27) (mj := m_X9_move) hx hb hml hown hts hc1 hc2 KC ap P P2 S hl.1 (by decide +kernel) ⟨eTb_t 491 (by decide +kernel) rfl, eTb_t 1 (by decide +kernel) rfl, ⟨by decide +kernel, by decide +kernel, by decide +kernel⟩, by decide +kernel, by decide⟩ (eTb_t 488 (by decide +kernel) rfl) (eTb_t 489 (by decide +kernel) rfl) (eTb_t 490 (by decide +kernel) rfl) rfl rfl rfl (ev_X9_move (xs (i + nI 1).toNatClampNeg) (xs (i + nI 2).toNatClampNeg) C (v, C') e1) rfl rfl rfl (by decide) rfl rfl rfl (Nat.le_of_ble_eq_true rfl) (fun H1 locs1 P P2 S => ?_)
  refine lv_aload_n (k := 2) hx hb (by decide +kernel) rfl l2 ?_
  refine lRead (n := 1) (v := nI 1) hx hb hX hbl S l0 l3 (by decide +kernel) (by decide +kernel) (by decide +kernel) rfl (by decide +kernel) (by decide +kernel) (hin 1 (by decide)) ?_
  refine lRead (n := 2) (v := nI 2) hx hb hX hbl S l0 l3 (by decide +kernel) (by decide +kernel) (by decide +kernel) rfl (by decide +kernel) (by decide +kernel) (hin 2 (by decide)) ?_
  refine lCall (as := [.int (xs (i + nI 1).toNatClampNeg), .int (xs (i + nI 2).toNatClampNeg)]) (z := 1) (rv := .int v) (M' := R') (n := 2) (idx := 30) (mj := m_X10_move) hx hb hml hown hts hc1 hc2 KR ap2 P2 P S hl.1 (by decide +kernel) ⟨eTb_t 1261 (by decide +kernel) rfl, eTb_t 11 (by decide +kernel) rfl, ⟨by decide +kernel, by decide +kernel, by decide +kernel⟩, by decide +kernel, by decide⟩ (eTb_t 1258 (by decide +kernel) rfl) (eTb_t 1259 (by decide +kernel) rfl) (eTb_t 1260 (by decide +kernel) rfl) rfl rfl rfl (ev_X10_move (xs (i + nI 1).toNatClampNeg) (xs (i + nI 2).toNatClampNeg) R (v, R') e2) rfl rfl rfl (by decide) rfl rfl rfl (Nat.le_of_ble_eq_true rfl) (fun H2 locs2 P2 P S => ?_)
  refine lv_icmp_eq (tgt := 1997) (off := 1588) hx hb (by decide +kernel) (by decide) (fun _ => ?_) (fun hne => absurd rfl hne)
  exact kk C' R' hr H2 locs2 ls P P2 S hl
theorem lc_4 {p : Program} {l : Launch} {e : Env} {s : State} {m : MethodId} {below : List Frame} {meth : Method} {c : Code} {b L : Nat} {xs : Nat → Int32} {cells slots : Nat} {Q : State → Prop} {D : va_G} {ac : Nat → ClassId} {adC adR : Nat → Nat} {i : Int32} {C R : eMem} (hL : LX p s m meth c b L xs cells slots D ac adC adR) (h : Rel C R) (hin : ∀ k, k < 6 → vp_in (i + nI k) L) (kk : ∀ C' R', Rel C' R' → LAt p l e s m below meth c b cells slots Q D ac adC adR 1997 i C' R') : LAt p l e s m below meth c b cells slots Q D ac adC adR 414 i C R := by
  intro H locs ls P P2 S hl
  obtain ⟨⟨hx, hb, hml, hown, hts⟩, ⟨hX, hbl⟩, ⟨hc1, hc2⟩, KC, KR, ap, ap2⟩ := hL
  have l0 := lv_at hl 0 rfl
  have l1 := lv_at hl 1 rfl
  have l2 := lv_at hl 2 rfl
  have l3 := lv_at hl 3 rfl
  obtain ⟨v, C', R', e1, e2, hr⟩ := st_where h (xs (i + nI 1).toNatClampNeg) (xs (i + nI 2).toNatClampNeg)
  refine lv_aload_n (k := 1) hx hb (by decide +kernel) rfl l1 ?_
  refine lRead (n := 1) (v := nI 1) hx hb hX hbl S l0 l3 (by decide +kernel) (by decide +kernel) (by decide +kernel) rfl (by decide +kernel) (by decide +kernel) (hin 1 (by decide)) ?_
  refine lRead (n := 2) (v := nI 2) hx hb hX hbl S l0 l3 (by decide +kernel) (by decide +kernel) (by decide +kernel) rfl (by decide +kernel) (by decide +kernel) (hin 2 (by decide)) ?_
  refine lCall (as := [.int (xs (i + nI 1).toNatClampNeg), .int (xs (i + nI 2).toNatClampNeg)]) (z := 1) (rv := .int v) (M' := C') (n := 2) (idx := 31) (mj := m_X9_where) hx hb hml hown hts hc1 hc2 KC ap P P2 S hl.1 (by decide +kernel) ⟨eTb_t 540 (by decide +kernel) rfl, eTb_t 1 (by decide +kernel) rfl, ⟨by decide +kernel, by decide +kernel, by decide +kernel⟩, by decide +kernel, by decide⟩ (eTb_t 537 (by decide +kernel) rfl) (eTb_t 538 (by decide +kernel) rfl) (eTb_t 539 (by decide +kernel) rfl) rfl rfl rfl (ev_X9_where (xs (i + nI 1).toNatClampNeg) (xs (i + nI 2).toNatClampNeg) C (v, C') e1) rfl rfl rfl (by decide) rfl rfl rfl (Nat.le_of_ble_eq_true rfl) (fun H1 locs1 P P2 S => ?_)
  refine lv_aload_n (k := 2) hx hb (by decide +kernel) rfl l2 ?_
  refine lRead (n := 1) (v := nI 1) hx hb hX hbl S l0 l3 (by decide +kernel) (by decide +kernel) (by decide +kernel) rfl (by decide +kernel) (by decide +kernel) (hin 1 (by decide)) ?_
  refine lRead (n := 2) (v := nI 2) hx hb hX hbl S l0 l3 (by decide +kernel) (by decide +kernel) (by decide +kernel) rfl (by decide +kernel) (by decide +kernel) (hin 2 (by decide)) ?_
  refine lCall (as := [.int (xs (i + nI 1).toNatClampNeg), .int (xs (i + nI 2).toNatClampNeg)]) (z := 0) (rv := .int v) (M' := R') (n := 2) (idx := 34) (mj := m_X10_where) hx hb hml hown hts hc1 hc2 KR ap2 P2 P S hl.1 (by decide +kernel) ⟨eTb_t 1316 (by decide +kernel) rfl, eTb_t 11 (by decide +kernel) rfl, ⟨by decide +kernel, by decide +kernel, by decide +kernel⟩, by decide +kernel, by decide⟩ (eTb_t 1313 (by decide +kernel) rfl) (eTb_t 1314 (by decide +kernel) rfl) (eTb_t 1315 (by decide +kernel) rfl) rfl rfl rfl (ev_X10_where (xs (i + nI 1).toNatClampNeg) (xs (i + nI 2).toNatClampNeg) R (v, R') e2) rfl rfl rfl (by decide) rfl rfl rfl (Nat.le_of_ble_eq_true rfl) (fun H2 locs2 P2 P S => ?_)
  refine lv_icmp_eq (tgt := 1997) (off := 1555) hx hb (by decide +kernel) (by decide) (fun _ => ?_) (fun hne => absurd rfl hne)
  exact kk C' R' hr H2 locs2 ls P P2 S hl
theorem lc_5 {p : Program} {l : Launch} {e : Env} {s : State} {m : MethodId} {below : List Frame} {meth : Method} {c : Code} {b L : Nat} {xs : Nat → Int32} {cells slots : Nat} {Q : State → Prop} {D : va_G} {ac : Nat → ClassId} {adC adR : Nat → Nat} {i : Int32} {C R : eMem} (hL : LX p s m meth c b L xs cells slots D ac adC adR) (h : Rel C R) (hin : ∀ k, k < 6 → vp_in (i + nI k) L) (kk : ∀ C' R', Rel C' R' → LAt p l e s m below meth c b cells slots Q D ac adC adR 1997 i C' R') : LAt p l e s m below meth c b cells slots Q D ac adC adR 447 i C R := by
  intro H locs ls P P2 S hl
  obtain ⟨⟨hx, hb, hml, hown, hts⟩, ⟨hX, hbl⟩, ⟨hc1, hc2⟩, KC, KR, ap, ap2⟩ := hL
  have l0 := lv_at hl 0 rfl
  have l1 := lv_at hl 1 rfl
  have l2 := lv_at hl 2 rfl
  have l3 := lv_at hl 3 rfl
  obtain ⟨v, C', R', e1, e2, hr⟩ := st_still h (xs (i + nI 1).toNatClampNeg) (xs (i + nI 2).toNatClampNeg)
  refine lv_aload_n (k := 1) hx hb (by decide +kernel) rfl l1 ?_
  refine lRead (n := 1) (v := nI 1) hx hb hX hbl S l0 l3 (by decide +kernel) (by decide +kernel) (by decide +kernel) rfl (by decide +kernel) (by decide +kernel) (hin 1 (by decide)) ?_
  refine lRead (n := 2) (v := nI 2) hx hb hX hbl S l0 l3 (by decide +kernel) (by decide +kernel) (by decide +kernel) rfl (by decide +kernel) (by decide +kernel) (hin 2 (by decide)) ?_
  refine lCall (as := [.int (xs (i + nI 1).toNatClampNeg), .int (xs (i + nI 2).toNatClampNeg)]) (z := 2) (rv := .int v) (M' := C') (n := 2) (idx := 35) (mj := m_X9_still) hx hb hml hown hts hc1 hc2 KC ap P P2 S hl.1 (by decide +kernel) ⟨eTb_t 544 (by decide +kernel) rfl, eTb_t 1 (by decide +kernel) rfl, ⟨by decide +kernel, by decide +kernel, by decide +kernel⟩, by decide +kernel, by decide⟩ (eTb_t 541 (by decide +kernel) rfl) (eTb_t 542 (by decide +kernel) rfl) (eTb_t 543 (by decide +kernel) rfl) rfl rfl rfl (ev_X9_still (xs (i + nI 1).toNatClampNeg) (xs (i + nI 2).toNatClampNeg) C (v, C') e1) rfl rfl rfl (by decide) rfl rfl rfl (Nat.le_of_ble_eq_true rfl) (fun H1 locs1 P P2 S => ?_)
  refine lv_aload_n (k := 2) hx hb (by decide +kernel) rfl l2 ?_
  refine lRead (n := 1) (v := nI 1) hx hb hX hbl S l0 l3 (by decide +kernel) (by decide +kernel) (by decide +kernel) rfl (by decide +kernel) (by decide +kernel) (hin 1 (by decide)) ?_
  refine lRead (n := 2) (v := nI 2) hx hb hX hbl S l0 l3 (by decide +kernel) (by decide +kernel) (by decide +kernel) rfl (by decide +kernel) (by decide +kernel) (hin 2 (by decide)) ?_
  refine lCall (as := [.int (xs (i + nI 1).toNatClampNeg), .int (xs (i + nI 2).toNatClampNeg)]) (z := 1) (rv := .int v) (M' := R') (n := 2) (idx := 38) (mj := m_X10_still) hx hb hml hown hts hc1 hc2 KR ap2 P2 P S hl.1 (by decide +kernel) ⟨eTb_t 1320 (by decide +kernel) rfl, eTb_t 11 (by decide +kernel) rfl, ⟨by decide +kernel, by decide +kernel, by decide +kernel⟩, by decide +kernel, by decide⟩ (eTb_t 1317 (by decide +kernel) rfl) (eTb_t 1318 (by decide +kernel) rfl) (eTb_t 1319 (by decide +kernel) rfl) rfl rfl rfl (ev_X10_still (xs (i + nI 1).toNatClampNeg) (xs (i + nI 2).toNatClampNeg) R (v, R') e2) rfl rfl rfl (by decide) rfl rfl rfl (Nat.le_of_ble_eq_true rfl) (fun H2 locs2 P2 P S => ?_)
  refine lv_icmp_eq (tgt := 1997) (off := 1522) hx hb (by decide +kernel) (by decide) (fun _ => ?_) (fun hne => absurd rfl hne)
  exact kk C' R' hr H2 locs2 ls P P2 S hl
theorem lc_6 {p : Program} {l : Launch} {e : Env} {s : State} {m : MethodId} {below : List Frame} {meth : Method} {c : Code} {b L : Nat} {xs : Nat → Int32} {cells slots : Nat} {Q : State → Prop} {D : va_G} {ac : Nat → ClassId} {adC adR : Nat → Nat} {i : Int32} {C R : eMem} (hL : LX p s m meth c b L xs cells slots D ac adC adR) (h : Rel C R) (hin : ∀ k, k < 6 → vp_in (i + nI k) L) (kk : ∀ C' R', Rel C' R' → LAt p l e s m below meth c b cells slots Q D ac adC adR 1997 i C' R') : LAt p l e s m below meth c b cells slots Q D ac adC adR 480 i C R := by
  intro H locs ls P P2 S hl
  obtain ⟨⟨hx, hb, hml, hown, hts⟩, ⟨hX, hbl⟩, ⟨hc1, hc2⟩, KC, KR, ap, ap2⟩ := hL
  have l0 := lv_at hl 0 rfl
  have l1 := lv_at hl 1 rfl
  have l2 := lv_at hl 2 rfl
  have l3 := lv_at hl 3 rfl
  obtain ⟨v, C', R', e1, e2, hr⟩ := st_weather h (xs (i + nI 1).toNatClampNeg) (xs (i + nI 2).toNatClampNeg)
  refine lv_aload_n (k := 1) hx hb (by decide +kernel) rfl l1 ?_
  refine lRead (n := 1) (v := nI 1) hx hb hX hbl S l0 l3 (by decide +kernel) (by decide +kernel) (by decide +kernel) rfl (by decide +kernel) (by decide +kernel) (hin 1 (by decide)) ?_
  refine lRead (n := 2) (v := nI 2) hx hb hX hbl S l0 l3 (by decide +kernel) (by decide +kernel) (by decide +kernel) rfl (by decide +kernel) (by decide +kernel) (hin 2 (by decide)) ?_
  refine lCall (as := [.int (xs (i + nI 1).toNatClampNeg), .int (xs (i + nI 2).toNatClampNeg)]) (z := 0) (rv := .int v) (M' := C') (n := 2) (idx := 39) (mj := m_X9_weather) hx hb hml hown hts hc1 hc2 KC ap P P2 S hl.1 (by decide +kernel) ⟨eTb_t 557 (by decide +kernel) rfl, eTb_t 1 (by decide +kernel) rfl, ⟨by decide +kernel, by decide +kernel, by decide +kernel⟩, by decide +kernel, by decide⟩ (eTb_t 554 (by decide +kernel) rfl) (eTb_t 555 (by decide +kernel) rfl) (eTb_t 556 (by decide +kernel) rfl) rfl rfl rfl (ev_X9_weather (xs (i + nI 1).toNatClampNeg) (xs (i + nI 2).toNatClampNeg) C (v, C') e1) rfl rfl rfl (by decide) rfl rfl rfl (Nat.le_of_ble_eq_true rfl) (fun H1 locs1 P P2 S => ?_)
  refine lv_aload_n (k := 2) hx hb (by decide +kernel) rfl l2 ?_
  refine lRead (n := 1) (v := nI 1) hx hb hX hbl S l0 l3 (by decide +kernel) (by decide +kernel) (by decide +kernel) rfl (by decide +kernel) (by decide +kernel) (hin 1 (by decide)) ?_
  refine lRead (n := 2) (v := nI 2) hx hb hX hbl S l0 l3 (by decide +kernel) (by decide +kernel) (by decide +kernel) rfl (by decide +kernel) (by decide +kernel) (hin 2 (by decide)) ?_
  refine lCall (as := [.int (xs (i + nI 1).toNatClampNeg), .int (xs (i + nI 2).toNatClampNeg)]) (z := 0) (rv := .int v) (M' := R') (n := 2) (idx := 42) (mj := m_X10_weather) hx hb hml hown hts hc1 hc2 KR ap2 P2 P S hl.1 (by decide +kernel) ⟨eTb_t 1328 (by decide +kernel) rfl, eTb_t 11 (by decide +kernel) rfl, ⟨by decide +kernel, by decide +kernel, by decide +kernel⟩, by decide +kernel, by decide⟩ (eTb_t 1325 (by decide +kernel) rfl) (eTb_t 1326 (by decide +kernel) rfl) (eTb_t 1327 (by decide +kernel) rfl) rfl rfl rfl (ev_X10_weather (xs (i + nI 1).toNatClampNeg) (xs (i + nI 2).toNatClampNeg) R (v, R') e2) rfl rfl rfl (by decide) rfl rfl rfl (Nat.le_of_ble_eq_true rfl) (fun H2 locs2 P2 P S => ?_)
  refine lv_icmp_eq (tgt := 1997) (off := 1489) hx hb (by decide +kernel) (by decide) (fun _ => ?_) (fun hne => absurd rfl hne)
  exact kk C' R' hr H2 locs2 ls P P2 S hl
theorem lc_7 {p : Program} {l : Launch} {e : Env} {s : State} {m : MethodId} {below : List Frame} {meth : Method} {c : Code} {b L : Nat} {xs : Nat → Int32} {cells slots : Nat} {Q : State → Prop} {D : va_G} {ac : Nat → ClassId} {adC adR : Nat → Nat} {i : Int32} {C R : eMem} (hL : LX p s m meth c b L xs cells slots D ac adC adR) (h : Rel C R) (hin : ∀ k, k < 6 → vp_in (i + nI k) L) (kk : ∀ C' R', Rel C' R' → LAt p l e s m below meth c b cells slots Q D ac adC adR 1997 i C' R') : LAt p l e s m below meth c b cells slots Q D ac adC adR 513 i C R := by
  intro H locs ls P P2 S hl
  obtain ⟨⟨hx, hb, hml, hown, hts⟩, ⟨hX, hbl⟩, ⟨hc1, hc2⟩, KC, KR, ap, ap2⟩ := hL
  have l0 := lv_at hl 0 rfl
  have l1 := lv_at hl 1 rfl
  have l2 := lv_at hl 2 rfl
  have l3 := lv_at hl 3 rfl
  obtain ⟨v, C', R', e1, e2, hr⟩ := st_purse h (xs (i + nI 1).toNatClampNeg) (xs (i + nI 2).toNatClampNeg)
  refine lv_aload_n (k := 1) hx hb (by decide +kernel) rfl l1 ?_
  refine lRead (n := 1) (v := nI 1) hx hb hX hbl S l0 l3 (by decide +kernel) (by decide +kernel) (by decide +kernel) rfl (by decide +kernel) (by decide +kernel) (hin 1 (by decide)) ?_
  refine lRead (n := 2) (v := nI 2) hx hb hX hbl S l0 l3 (by decide +kernel) (by decide +kernel) (by decide +kernel) rfl (by decide +kernel) (by decide +kernel) (hin 2 (by decide)) ?_
  refine lCall (as := [.int (xs (i + nI 1).toNatClampNeg), .int (xs (i + nI 2).toNatClampNeg)]) (z := 0) (rv := .int v) (M' := C') (n := 2) (idx := 43) (mj := m_X9_purse) hx hb hml hown hts hc1 hc2 KC ap P P2 S hl.1 (by decide +kernel) ⟨eTb_t 561 (by decide +kernel) rfl, eTb_t 1 (by decide +kernel) rfl, ⟨by decide +kernel, by decide +kernel, by decide +kernel⟩, by decide +kernel, by decide⟩ (eTb_t 558 (by decide +kernel) rfl) (eTb_t 559 (by decide +kernel) rfl) (eTb_t 560 (by decide +kernel) rfl) rfl rfl rfl (ev_X9_purse (xs (i + nI 1).toNatClampNeg) (xs (i + nI 2).toNatClampNeg) C (v, C') e1) rfl rfl rfl (by decide) rfl rfl rfl (Nat.le_of_ble_eq_true rfl) (fun H1 locs1 P P2 S => ?_)
  refine lv_aload_n (k := 2) hx hb (by decide +kernel) rfl l2 ?_
  refine lRead (n := 1) (v := nI 1) hx hb hX hbl S l0 l3 (by decide +kernel) (by decide +kernel) (by decide +kernel) rfl (by decide +kernel) (by decide +kernel) (hin 1 (by decide)) ?_
  refine lRead (n := 2) (v := nI 2) hx hb hX hbl S l0 l3 (by decide +kernel) (by decide +kernel) (by decide +kernel) rfl (by decide +kernel) (by decide +kernel) (hin 2 (by decide)) ?_
  refine lCall (as := [.int (xs (i + nI 1).toNatClampNeg), .int (xs (i + nI 2).toNatClampNeg)]) (z := 0) (rv := .int v) (M' := R') (n := 2) (idx := 46) (mj := m_X10_purse) hx hb hml hown hts hc1 hc2 KR ap2 P2 P S hl.1 (by decide +kernel) ⟨eTb_t 1332 (by decide +kernel) rfl, eTb_t 11 (by decide +kernel) rfl, ⟨by decide +kernel, by decide +kernel, by decide +kernel⟩, by decide +kernel, by decide⟩ (eTb_t 1329 (by decide +kernel) rfl) (eTb_t 1330 (by decide +kernel) rfl) (eTb_t 1331 (by decide +kernel) rfl) rfl rfl rfl (ev_X10_purse (xs (i + nI 1).toNatClampNeg) (xs (i + nI 2).toNatClampNeg) R (v, R') e2) rfl rfl rfl (by decide) rfl rfl rfl (Nat.le_of_ble_eq_true rfl) (fun H2 locs2 P2 P S => ?_)
  refine lv_icmp_eq (tgt := 1997) (off := 1456) hx hb (by decide +kernel) (by decide) (fun _ => ?_) (fun hne => absurd rfl hne)
  exact kk C' R' hr H2 locs2 ls P P2 S hl
theorem lc_8 {p : Program} {l : Launch} {e : Env} {s : State} {m : MethodId} {below : List Frame} {meth : Method} {c : Code} {b L : Nat} {xs : Nat → Int32} {cells slots : Nat} {Q : State → Prop} {D : va_G} {ac : Nat → ClassId} {adC adR : Nat → Nat} {i : Int32} {C R : eMem} (hL : LX p s m meth c b L xs cells slots D ac adC adR) (h : Rel C R) (hin : ∀ k, k < 6 → vp_in (i + nI k) L) (kk : ∀ C' R', Rel C' R' → LAt p l e s m below meth c b cells slots Q D ac adC adR 1997 i C' R') : LAt p l e s m below meth c b cells slots Q D ac adC adR 546 i C R := by
  intro H locs ls P P2 S hl
  obtain ⟨⟨hx, hb, hml, hown, hts⟩, ⟨hX, hbl⟩, ⟨hc1, hc2⟩, KC, KR, ap, ap2⟩ := hL
  have l0 := lv_at hl 0 rfl
  have l1 := lv_at hl 1 rfl
  have l2 := lv_at hl 2 rfl
  have l3 := lv_at hl 3 rfl
  obtain ⟨v, C', R', e1, e2, hr⟩ := st_story h (xs (i + nI 1).toNatClampNeg) (xs (i + nI 2).toNatClampNeg)
  refine lv_aload_n (k := 1) hx hb (by decide +kernel) rfl l1 ?_
  refine lRead (n := 1) (v := nI 1) hx hb hX hbl S l0 l3 (by decide +kernel) (by decide +kernel) (by decide +kernel) rfl (by decide +kernel) (by decide +kernel) (hin 1 (by decide)) ?_
  refine lRead (n := 2) (v := nI 2) hx hb hX hbl S l0 l3 (by decide +kernel) (by decide +kernel) (by decide +kernel) rfl (by decide +kernel) (by decide +kernel) (hin 2 (by decide)) ?_
  refine lCall (as := [.int (xs (i + nI 1).toNatClampNeg), .int (xs (i + nI 2).toNatClampNeg)]) (z := 1) (rv := .int v) (M' := C') (n := 2) (idx := 47) (mj := m_X9_story) hx hb hml hown hts hc1 hc2 KC ap P P2 S hl.1 (by decide +kernel) ⟨eTb_t 565 (by decide +kernel) rfl, eTb_t 1 (by decide +kernel) rfl, ⟨by decide +kernel, by decide +kernel, by decide +kernel⟩, by decide +kernel, by decide⟩ (eTb_t 562 (by decide +kernel) rfl) (eTb_t 563 (by decide +kernel) rfl) (eTb_t 564 (by decide +kernel) rfl) rfl rfl rfl (ev_X9_story (xs (i + nI 1).toNatClampNeg) (xs (i + nI 2).toNatClampNeg) C (v, C') e1) rfl rfl rfl (by decide) rfl rfl rfl (Nat.le_of_ble_eq_true rfl) (fun H1 locs1 P P2 S => ?_)
  refine lv_aload_n (k := 2) hx hb (by decide +kernel) rfl l2 ?_
  refine lRead (n := 1) (v := nI 1) hx hb hX hbl S l0 l3 (by decide +kernel) (by decide +kernel) (by decide +kernel) rfl (by decide +kernel) (by decide +kernel) (hin 1 (by decide)) ?_
  refine lRead (n := 2) (v := nI 2) hx hb hX hbl S l0 l3 (by decide +kernel) (by decide +kernel) (by decide +kernel) rfl (by decide +kernel) (by decide +kernel) (hin 2 (by decide)) ?_
  refine lCall (as := [.int (xs (i + nI 1).toNatClampNeg), .int (xs (i + nI 2).toNatClampNeg)]) (z := 1) (rv := .int v) (M' := R') (n := 2) (idx := 50) (mj := m_X10_story) hx hb hml hown hts hc1 hc2 KR ap2 P2 P S hl.1 (by decide +kernel) ⟨eTb_t 1336 (by decide +kernel) rfl, eTb_t 11 (by decide +kernel) rfl, ⟨by decide +kernel, by decide +kernel, by decide +kernel⟩, by decide +kernel, by decide⟩ (eTb_t 1333 (by decide +kernel) rfl) (eTb_t 1334 (by decide +kernel) rfl) (eTb_t 1335 (by decide +kernel) rfl) rfl rfl rfl (ev_X10_story (xs (i + nI 1).toNatClampNeg) (xs (i + nI 2).toNatClampNeg) R (v, R') e2) rfl rfl rfl (by decide) rfl rfl rfl (Nat.le_of_ble_eq_true rfl) (fun H2 locs2 P2 P S => ?_)
  refine lv_icmp_eq (tgt := 1997) (off := 1423) hx hb (by decide +kernel) (by decide) (fun _ => ?_) (fun hne => absurd rfl hne)
  exact kk C' R' hr H2 locs2 ls P P2 S hl
theorem lc_9 {p : Program} {l : Launch} {e : Env} {s : State} {m : MethodId} {below : List Frame} {meth : Method} {c : Code} {b L : Nat} {xs : Nat → Int32} {cells slots : Nat} {Q : State → Prop} {D : va_G} {ac : Nat → ClassId} {adC adR : Nat → Nat} {i : Int32} {C R : eMem} (hL : LX p s m meth c b L xs cells slots D ac adC adR) (h : Rel C R) (hin : ∀ k, k < 6 → vp_in (i + nI k) L) (kk : ∀ C' R', Rel C' R' → LAt p l e s m below meth c b cells slots Q D ac adC adR 1997 i C' R') : LAt p l e s m below meth c b cells slots Q D ac adC adR 579 i C R := by
  intro H locs ls P P2 S hl
  obtain ⟨⟨hx, hb, hml, hown, hts⟩, ⟨hX, hbl⟩, ⟨hc1, hc2⟩, KC, KR, ap, ap2⟩ := hL
  have l0 := lv_at hl 0 rfl
  have l1 := lv_at hl 1 rfl
  have l2 := lv_at hl 2 rfl
  have l3 := lv_at hl 3 rfl
  obtain ⟨v, C', R', e1, e2, hr⟩ := st_show h (xs (i + nI 1).toNatClampNeg) (xs (i + nI 2).toNatClampNeg) (xs (i + nI 3).toNatClampNeg)
  refine lv_aload_n (k := 1) hx hb (by decide +kernel) rfl l1 ?_
  refine lRead (n := 1) (v := nI 1) hx hb hX hbl S l0 l3 (by decide +kernel) (by decide +kernel) (by decide +kernel) rfl (by decide +kernel) (by decide +kernel) (hin 1 (by decide)) ?_
  refine lRead (n := 2) (v := nI 2) hx hb hX hbl S l0 l3 (by decide +kernel) (by decide +kernel) (by decide +kernel) rfl (by decide +kernel) (by decide +kernel) (hin 2 (by decide)) ?_
  refine lRead (n := 3) (v := nI 3) hx hb hX hbl S l0 l3 (by decide +kernel) (by decide +kernel) (by decide +kernel) rfl (by decide +kernel) (by decide +kernel) (hin 3 (by decide)) ?_
  refine lCall (as := [.int (xs (i + nI 1).toNatClampNeg), .int (xs (i + nI 2).toNatClampNeg), .int (xs (i + nI 3).toNatClampNeg)]) (z := 4) (rv := .int v) (M' := C') (n := 3) (idx := 51) (mj := m_X9_show) hx hb hml hown hts hc1 hc2 KC ap P P2 S hl.1 (by decide +kernel) ⟨eTb_t 569 (by decide +kernel) rfl, eTb_t 1 (by decide +kernel) rfl, ⟨by decide +kernel, by decide +kernel, by decide +kernel⟩, by decide +kernel, by decide⟩ (eTb_t 566 (by decide +kernel) rfl) (eTb_t 567 (by decide +kernel) rfl) (eTb_t 568 (by decide +kernel) rfl) rfl rfl rfl (ev_X9_show (xs (i + nI 1).toNatClampNeg) (xs (i + nI 2).toNatClampNeg) (xs (i + nI 3).toNatClampNeg) C (v, C') e1) rfl rfl rfl (by decide) rfl rfl rfl (Nat.le_of_ble_eq_true rfl) (fun H1 locs1 P P2 S => ?_)
  refine lv_aload_n (k := 2) hx hb (by decide +kernel) rfl l2 ?_
  refine lRead (n := 1) (v := nI 1) hx hb hX hbl S l0 l3 (by decide +kernel) (by decide +kernel) (by decide +kernel) rfl (by decide +kernel) (by decide +kernel) (hin 1 (by decide)) ?_
  refine lRead (n := 2) (v := nI 2) hx hb hX hbl S l0 l3 (by decide +kernel) (by decide +kernel) (by decide +kernel) rfl (by decide +kernel) (by decide +kernel) (hin 2 (by decide)) ?_
  refine lRead (n := 3) (v := nI 3) hx hb hX hbl S l0 l3 (by decide +kernel) (by decide +kernel) (by decide +kernel) rfl (by decide +kernel) (by decide +kernel) (hin 3 (by decide)) ?_
  refine lCall (as := [.int (xs (i + nI 1).toNatClampNeg), .int (xs (i + nI 2).toNatClampNeg), .int (xs (i + nI 3).toNatClampNeg)]) (z := 2) (rv := .int v) (M' := R') (n := 3) (idx := 54) (mj := m_X10_show_) hx hb hml hown hts hc1 hc2 KR ap2 P2 P S hl.1 (by decide +kernel) ⟨eTb_t 1343 (by decide +kernel) rfl, eTb_t 11 (by decide +kernel) rfl, ⟨by decide +kernel, by decide +kernel, by decide +kernel⟩, by decide +kernel, by decide⟩ (eTb_t 1340 (by decide +kernel) rfl) (eTb_t 1341 (by decide +kernel) rfl) (eTb_t 1342 (by decide +kernel) rfl) rfl rfl rfl (ev_X10_show_ (xs (i + nI 1).toNatClampNeg) (xs (i + nI 2).toNatClampNeg) (xs (i + nI 3).toNatClampNeg) R (v, R') e2) rfl rfl rfl (by decide) rfl rfl rfl (Nat.le_of_ble_eq_true rfl) (fun H2 locs2 P2 P S => ?_)
  refine lv_icmp_eq (tgt := 1997) (off := 1380) hx hb (by decide +kernel) (by decide) (fun _ => ?_) (fun hne => absurd rfl hne)
  exact kk C' R' hr H2 locs2 ls P P2 S hl
theorem lc_10 {p : Program} {l : Launch} {e : Env} {s : State} {m : MethodId} {below : List Frame} {meth : Method} {c : Code} {b L : Nat} {xs : Nat → Int32} {cells slots : Nat} {Q : State → Prop} {D : va_G} {ac : Nat → ClassId} {adC adR : Nat → Nat} {i : Int32} {C R : eMem} (hL : LX p s m meth c b L xs cells slots D ac adC adR) (h : Rel C R) (hin : ∀ k, k < 6 → vp_in (i + nI k) L) (kk : ∀ C' R', Rel C' R' → LAt p l e s m below meth c b cells slots Q D ac adC adR 1997 i C' R') : LAt p l e s m below meth c b cells slots Q D ac adC adR 622 i C R := by
  intro H locs ls P P2 S hl
  obtain ⟨⟨hx, hb, hml, hown, hts⟩, ⟨hX, hbl⟩, ⟨hc1, hc2⟩, KC, KR, ap, ap2⟩ := hL
  have l0 := lv_at hl 0 rfl
  have l1 := lv_at hl 1 rfl
  have l2 := lv_at hl 2 rfl
  have l3 := lv_at hl 3 rfl
  obtain ⟨v, C', R', e1, e2, hr⟩ := st_as h (xs (i + nI 1).toNatClampNeg) (xs (i + nI 2).toNatClampNeg)
  refine lv_aload_n (k := 1) hx hb (by decide +kernel) rfl l1 ?_
  refine lRead (n := 1) (v := nI 1) hx hb hX hbl S l0 l3 (by decide +kernel) (by decide +kernel) (by decide +kernel) rfl (by decide +kernel) (by decide +kernel) (hin 1 (by decide)) ?_
  refine lRead (n := 2) (v := nI 2) hx hb hX hbl S l0 l3 (by decide +kernel) (by decide +kernel) (by decide +kernel) rfl (by decide +kernel) (by decide +kernel) (hin 2 (by decide)) ?_
  refine lCall (as := [.int (xs (i + nI 1).toNatClampNeg), .int (xs (i + nI 2).toNatClampNeg)]) (z := 0) (rv := .int v) (M' := C') (n := 2) (idx := 55) (mj := m_X9_as) hx hb hml hown hts hc1 hc2 KC ap P P2 S hl.1 (by decide +kernel) ⟨eTb_t 582 (by decide +kernel) rfl, eTb_t 1 (by decide +kernel) rfl, ⟨by decide +kernel, by decide +kernel, by decide +kernel⟩, by decide +kernel, by decide⟩ (eTb_t 579 (by decide +kernel) rfl) (eTb_t 580 (by decide +kernel) rfl) (eTb_t 581 (by decide +kernel) rfl) rfl rfl rfl (ev_X9_as (xs (i + nI 1).toNatClampNeg) (xs (i + nI 2).toNatClampNeg) C (v, C') e1) rfl rfl rfl (by decide) rfl rfl rfl (Nat.le_of_ble_eq_true rfl) (fun H1 locs1 P P2 S => ?_)
  refine lv_aload_n (k := 2) hx hb (by decide +kernel) rfl l2 ?_
  refine lRead (n := 1) (v := nI 1) hx hb hX hbl S l0 l3 (by decide +kernel) (by decide +kernel) (by decide +kernel) rfl (by decide +kernel) (by decide +kernel) (hin 1 (by decide)) ?_
  refine lRead (n := 2) (v := nI 2) hx hb hX hbl S l0 l3 (by decide +kernel) (by decide +kernel) (by decide +kernel) rfl (by decide +kernel) (by decide +kernel) (hin 2 (by decide)) ?_
  refine lCall (as := [.int (xs (i + nI 1).toNatClampNeg), .int (xs (i + nI 2).toNatClampNeg)]) (z := 0) (rv := .int v) (M' := R') (n := 2) (idx := 58) (mj := m_X10_as) hx hb hml hown hts hc1 hc2 KR ap2 P2 P S hl.1 (by decide +kernel) ⟨eTb_t 1355 (by decide +kernel) rfl, eTb_t 11 (by decide +kernel) rfl, ⟨by decide +kernel, by decide +kernel, by decide +kernel⟩, by decide +kernel, by decide⟩ (eTb_t 1352 (by decide +kernel) rfl) (eTb_t 1353 (by decide +kernel) rfl) (eTb_t 1354 (by decide +kernel) rfl) rfl rfl rfl (ev_X10_as (xs (i + nI 1).toNatClampNeg) (xs (i + nI 2).toNatClampNeg) R (v, R') e2) rfl rfl rfl (by decide) rfl rfl rfl (Nat.le_of_ble_eq_true rfl) (fun H2 locs2 P2 P S => ?_)
  refine lv_icmp_eq (tgt := 1997) (off := 1347) hx hb (by decide +kernel) (by decide) (fun _ => ?_) (fun hne => absurd rfl hne)
  exact kk C' R' hr H2 locs2 ls P P2 S hl
theorem lc_11 {p : Program} {l : Launch} {e : Env} {s : State} {m : MethodId} {below : List Frame} {meth : Method} {c : Code} {b L : Nat} {xs : Nat → Int32} {cells slots : Nat} {Q : State → Prop} {D : va_G} {ac : Nat → ClassId} {adC adR : Nat → Nat} {i : Int32} {C R : eMem} (hL : LX p s m meth c b L xs cells slots D ac adC adR) (h : Rel C R) (hin : ∀ k, k < 6 → vp_in (i + nI k) L) (kk : ∀ C' R', Rel C' R' → LAt p l e s m below meth c b cells slots Q D ac adC adR 1997 i C' R') : LAt p l e s m below meth c b cells slots Q D ac adC adR 655 i C R := by
  intro H locs ls P P2 S hl
  obtain ⟨⟨hx, hb, hml, hown, hts⟩, ⟨hX, hbl⟩, ⟨hc1, hc2⟩, KC, KR, ap, ap2⟩ := hL
  have l0 := lv_at hl 0 rfl
  have l1 := lv_at hl 1 rfl
  have l2 := lv_at hl 2 rfl
  have l3 := lv_at hl 3 rfl
  obtain ⟨v, C', R', e1, e2, hr⟩ := st_of h (xs (i + nI 1).toNatClampNeg) (xs (i + nI 2).toNatClampNeg)
  refine lv_aload_n (k := 1) hx hb (by decide +kernel) rfl l1 ?_
  refine lRead (n := 1) (v := nI 1) hx hb hX hbl S l0 l3 (by decide +kernel) (by decide +kernel) (by decide +kernel) rfl (by decide +kernel) (by decide +kernel) (hin 1 (by decide)) ?_
  refine lRead (n := 2) (v := nI 2) hx hb hX hbl S l0 l3 (by decide +kernel) (by decide +kernel) (by decide +kernel) rfl (by decide +kernel) (by decide +kernel) (hin 2 (by decide)) ?_
  refine lCall (as := [.int (xs (i + nI 1).toNatClampNeg), .int (xs (i + nI 2).toNatClampNeg)]) (z := 2) (rv := .int v) (M' := C') (n := 2) (idx := 59) (mj := m_X9_of) hx hb hml hown hts hc1 hc2 KC ap P P2 S hl.1 (by decide +kernel) ⟨eTb_t 591 (by decide +kernel) rfl, eTb_t 1 (by decide +kernel) rfl, ⟨by decide +kernel, by decide +kernel, by decide +kernel⟩, by decide +kernel, by decide⟩ (eTb_t 588 (by decide +kernel) rfl) (eTb_t 589 (by decide +kernel) rfl) (eTb_t 590 (by decide +kernel) rfl) rfl rfl rfl (ev_X9_of (xs (i + nI 1).toNatClampNeg) (xs (i + nI 2).toNatClampNeg) C (v, C') e1) rfl rfl rfl (by decide) rfl rfl rfl (Nat.le_of_ble_eq_true rfl) (fun H1 locs1 P P2 S => ?_)
  refine lv_aload_n (k := 2) hx hb (by decide +kernel) rfl l2 ?_
  refine lRead (n := 1) (v := nI 1) hx hb hX hbl S l0 l3 (by decide +kernel) (by decide +kernel) (by decide +kernel) rfl (by decide +kernel) (by decide +kernel) (hin 1 (by decide)) ?_
  refine lRead (n := 2) (v := nI 2) hx hb hX hbl S l0 l3 (by decide +kernel) (by decide +kernel) (by decide +kernel) rfl (by decide +kernel) (by decide +kernel) (hin 2 (by decide)) ?_
  refine lCall (as := [.int (xs (i + nI 1).toNatClampNeg), .int (xs (i + nI 2).toNatClampNeg)]) (z := 2) (rv := .int v) (M' := R') (n := 2) (idx := 62) (mj := m_X10_of) hx hb hml hown hts hc1 hc2 KR ap2 P2 P S hl.1 (by decide +kernel) ⟨eTb_t 1363 (by decide +kernel) rfl, eTb_t 11 (by decide +kernel) rfl, ⟨by decide +kernel, by decide +kernel, by decide +kernel⟩, by decide +kernel, by decide⟩ (eTb_t 1360 (by decide +kernel) rfl) (eTb_t 1361 (by decide +kernel) rfl) (eTb_t 1362 (by decide +kernel) rfl) rfl rfl rfl (ev_X10_of (xs (i + nI 1).toNatClampNeg) (xs (i + nI 2).toNatClampNeg) R (v, R') e2) rfl rfl rfl (by decide) rfl rfl rfl (Nat.le_of_ble_eq_true rfl) (fun H2 locs2 P2 P S => ?_)
  refine lv_icmp_eq (tgt := 1997) (off := 1314) hx hb (by decide +kernel) (by decide) (fun _ => ?_) (fun hne => absurd rfl hne)
  exact kk C' R' hr H2 locs2 ls P P2 S hl
theorem lc_12 {p : Program} {l : Launch} {e : Env} {s : State} {m : MethodId} {below : List Frame} {meth : Method} {c : Code} {b L : Nat} {xs : Nat → Int32} {cells slots : Nat} {Q : State → Prop} {D : va_G} {ac : Nat → ClassId} {adC adR : Nat → Nat} {i : Int32} {C R : eMem} (hL : LX p s m meth c b L xs cells slots D ac adC adR) (h : Rel C R) (hin : ∀ k, k < 6 → vp_in (i + nI k) L) (kk : ∀ C' R', Rel C' R' → LAt p l e s m below meth c b cells slots Q D ac adC adR 1997 i C' R') : LAt p l e s m below meth c b cells slots Q D ac adC adR 688 i C R := by
  intro H locs ls P P2 S hl
  obtain ⟨⟨hx, hb, hml, hown, hts⟩, ⟨hX, hbl⟩, ⟨hc1, hc2⟩, KC, KR, ap, ap2⟩ := hL
  have l0 := lv_at hl 0 rfl
  have l1 := lv_at hl 1 rfl
  have l2 := lv_at hl 2 rfl
  have l3 := lv_at hl 3 rfl
  obtain ⟨v, C', R', e1, e2, hr⟩ := st_stand h (xs (i + nI 1).toNatClampNeg) (bz (xs (i + nI 2).toNatClampNeg)) (bz_01 _)
  refine lv_aload_n (k := 1) hx hb (by decide +kernel) rfl l1 ?_
  refine lRead (n := 1) (v := nI 1) hx hb hX hbl S l0 l3 (by decide +kernel) (by decide +kernel) (by decide +kernel) rfl (by decide +kernel) (by decide +kernel) (hin 1 (by decide)) ?_
  refine lRead (n := 2) (v := nI 2) hx hb hX hbl S l0 l3 (by decide +kernel) (by decide +kernel) (by decide +kernel) rfl (by decide +kernel) (by decide +kernel) (hin 2 (by decide)) ?_
  refine lBool hx hb (by decide +kernel) (by decide +kernel) (by decide +kernel) (by decide +kernel) ?_
  refine lCall (as := [.int (xs (i + nI 1).toNatClampNeg), .int (bz (xs (i + nI 2).toNatClampNeg))]) (z := 0) (rv := .int v) (M' := C') (n := 2) (idx := 63) (mj := m_X9_stand) hx hb hml hown hts hc1 hc2 KC ap P P2 S hl.1 (by decide +kernel) ⟨eTb_t 607 (by decide +kernel) rfl, eTb_t 1 (by decide +kernel) rfl, ⟨by decide +kernel, by decide +kernel, by decide +kernel⟩, by decide +kernel, by decide⟩ (eTb_t 604 (by decide +kernel) rfl) (eTb_t 605 (by decide +kernel) rfl) (eTb_t 606 (by decide +kernel) rfl) rfl rfl rfl (ev_X9_stand (xs (i + nI 1).toNatClampNeg) (bz (xs (i + nI 2).toNatClampNeg)) C (v, C') e1) rfl rfl rfl (by decide) rfl rfl rfl (Nat.le_of_ble_eq_true rfl) (fun H1 locs1 P P2 S => ?_)
  refine lv_aload_n (k := 2) hx hb (by decide +kernel) rfl l2 ?_
  refine lRead (n := 1) (v := nI 1) hx hb hX hbl S l0 l3 (by decide +kernel) (by decide +kernel) (by decide +kernel) rfl (by decide +kernel) (by decide +kernel) (hin 1 (by decide)) ?_
  refine lRead (n := 2) (v := nI 2) hx hb hX hbl S l0 l3 (by decide +kernel) (by decide +kernel) (by decide +kernel) rfl (by decide +kernel) (by decide +kernel) (hin 2 (by decide)) ?_
  refine lBool hx hb (by decide +kernel) (by decide +kernel) (by decide +kernel) (by decide +kernel) ?_
  refine lCall (as := [.int (xs (i + nI 1).toNatClampNeg), .int (bz (xs (i + nI 2).toNatClampNeg))]) (z := 1) (rv := .int v) (M' := R') (n := 2) (idx := 67) (mj := m_X10_stand) hx hb hml hown hts hc1 hc2 KR ap2 P2 P S hl.1 (by decide +kernel) ⟨eTb_t 1375 (by decide +kernel) rfl, eTb_t 11 (by decide +kernel) rfl, ⟨by decide +kernel, by decide +kernel, by decide +kernel⟩, by decide +kernel, by decide⟩ (eTb_t 1372 (by decide +kernel) rfl) (eTb_t 1373 (by decide +kernel) rfl) (eTb_t 1374 (by decide +kernel) rfl) rfl rfl rfl (ev_X10_stand (xs (i + nI 1).toNatClampNeg) (bz (xs (i + nI 2).toNatClampNeg)) R (v, R') e2) rfl rfl rfl (by decide) rfl rfl rfl (Nat.le_of_ble_eq_true rfl) (fun H2 locs2 P2 P S => ?_)
  refine lv_icmp_eq (tgt := 1997) (off := 1265) hx hb (by decide +kernel) (by decide) (fun _ => ?_) (fun hne => absurd rfl hne)
  exact kk C' R' hr H2 locs2 ls P P2 S hl
theorem lc_13 {p : Program} {l : Launch} {e : Env} {s : State} {m : MethodId} {below : List Frame} {meth : Method} {c : Code} {b L : Nat} {xs : Nat → Int32} {cells slots : Nat} {Q : State → Prop} {D : va_G} {ac : Nat → ClassId} {adC adR : Nat → Nat} {i : Int32} {C R : eMem} (hL : LX p s m meth c b L xs cells slots D ac adC adR) (h : Rel C R) (hin : ∀ k, k < 6 → vp_in (i + nI k) L) (kk : ∀ C' R', Rel C' R' → LAt p l e s m below meth c b cells slots Q D ac adC adR 1997 i C' R') : LAt p l e s m below meth c b cells slots Q D ac adC adR 737 i C R := by
  intro H locs ls P P2 S hl
  obtain ⟨⟨hx, hb, hml, hown, hts⟩, ⟨hX, hbl⟩, ⟨hc1, hc2⟩, KC, KR, ap, ap2⟩ := hL
  have l0 := lv_at hl 0 rfl
  have l1 := lv_at hl 1 rfl
  have l2 := lv_at hl 2 rfl
  have l3 := lv_at hl 3 rfl
  obtain ⟨v, C', R', e1, e2, hr⟩ := st_hands h (xs (i + nI 1).toNatClampNeg) (xs (i + nI 2).toNatClampNeg)
  refine lv_aload_n (k := 1) hx hb (by decide +kernel) rfl l1 ?_
  refine lRead (n := 1) (v := nI 1) hx hb hX hbl S l0 l3 (by decide +kernel) (by decide +kernel) (by decide +kernel) rfl (by decide +kernel) (by decide +kernel) (hin 1 (by decide)) ?_
  refine lRead (n := 2) (v := nI 2) hx hb hX hbl S l0 l3 (by decide +kernel) (by decide +kernel) (by decide +kernel) rfl (by decide +kernel) (by decide +kernel) (hin 2 (by decide)) ?_
  refine lCall (as := [.int (xs (i + nI 1).toNatClampNeg), .int (xs (i + nI 2).toNatClampNeg)]) (z := 1) (rv := .int v) (M' := C') (n := 2) (idx := 68) (mj := m_X9_hands) hx hb hml hown hts hc1 hc2 KC ap P P2 S hl.1 (by decide +kernel) ⟨eTb_t 611 (by decide +kernel) rfl, eTb_t 1 (by decide +kernel) rfl, ⟨by decide +kernel, by decide +kernel, by decide +kernel⟩, by decide +kernel, by decide⟩ (eTb_t 608 (by decide +kernel) rfl) (eTb_t 609 (by decide +kernel) rfl) (eTb_t 610 (by decide +kernel) rfl) rfl rfl rfl (ev_X9_hands (xs (i + nI 1).toNatClampNeg) (xs (i + nI 2).toNatClampNeg) C (v, C') e1) rfl rfl rfl (by decide) rfl rfl rfl (Nat.le_of_ble_eq_true rfl) (fun H1 locs1 P P2 S => ?_)
  refine lv_aload_n (k := 2) hx hb (by decide +kernel) rfl l2 ?_
  refine lRead (n := 1) (v := nI 1) hx hb hX hbl S l0 l3 (by decide +kernel) (by decide +kernel) (by decide +kernel) rfl (by decide +kernel) (by decide +kernel) (hin 1 (by decide)) ?_
  refine lRead (n := 2) (v := nI 2) hx hb hX hbl S l0 l3 (by decide +kernel) (by decide +kernel) (by decide +kernel) rfl (by decide +kernel) (by decide +kernel) (hin 2 (by decide)) ?_
  refine lCall (as := [.int (xs (i + nI 1).toNatClampNeg), .int (xs (i + nI 2).toNatClampNeg)]) (z := 1) (rv := .int v) (M' := R') (n := 2) (idx := 71) (mj := m_X10_hands) hx hb hml hown hts hc1 hc2 KR ap2 P2 P S hl.1 (by decide +kernel) ⟨eTb_t 1379 (by decide +kernel) rfl, eTb_t 11 (by decide +kernel) rfl, ⟨by decide +kernel, by decide +kernel, by decide +kernel⟩, by decide +kernel, by decide⟩ (eTb_t 1376 (by decide +kernel) rfl) (eTb_t 1377 (by decide +kernel) rfl) (eTb_t 1378 (by decide +kernel) rfl) rfl rfl rfl (ev_X10_hands (xs (i + nI 1).toNatClampNeg) (xs (i + nI 2).toNatClampNeg) R (v, R') e2) rfl rfl rfl (by decide) rfl rfl rfl (Nat.le_of_ble_eq_true rfl) (fun H2 locs2 P2 P S => ?_)
  refine lv_icmp_eq (tgt := 1997) (off := 1232) hx hb (by decide +kernel) (by decide) (fun _ => ?_) (fun hne => absurd rfl hne)
  exact kk C' R' hr H2 locs2 ls P P2 S hl
theorem lc_14 {p : Program} {l : Launch} {e : Env} {s : State} {m : MethodId} {below : List Frame} {meth : Method} {c : Code} {b L : Nat} {xs : Nat → Int32} {cells slots : Nat} {Q : State → Prop} {D : va_G} {ac : Nat → ClassId} {adC adR : Nat → Nat} {i : Int32} {C R : eMem} (hL : LX p s m meth c b L xs cells slots D ac adC adR) (h : Rel C R) (hin : ∀ k, k < 6 → vp_in (i + nI k) L) (kk : ∀ C' R', Rel C' R' → LAt p l e s m below meth c b cells slots Q D ac adC adR 1997 i C' R') : LAt p l e s m below meth c b cells slots Q D ac adC adR 770 i C R := by
  intro H locs ls P P2 S hl
  obtain ⟨⟨hx, hb, hml, hown, hts⟩, ⟨hX, hbl⟩, ⟨hc1, hc2⟩, KC, KR, ap, ap2⟩ := hL
  have l0 := lv_at hl 0 rfl
  have l1 := lv_at hl 1 rfl
  have l2 := lv_at hl 2 rfl
  have l3 := lv_at hl 3 rfl
  obtain ⟨v, C', R', e1, e2, hr⟩ := st_mend h (xs (i + nI 1).toNatClampNeg)
  refine lv_aload_n (k := 1) hx hb (by decide +kernel) rfl l1 ?_
  refine lRead (n := 1) (v := nI 1) hx hb hX hbl S l0 l3 (by decide +kernel) (by decide +kernel) (by decide +kernel) rfl (by decide +kernel) (by decide +kernel) (hin 1 (by decide)) ?_
  refine lCall (as := [.int (xs (i + nI 1).toNatClampNeg)]) (z := 1) (rv := .int v) (M' := C') (n := 1) (idx := 72) (mj := m_X9_mend) hx hb hml hown hts hc1 hc2 KC ap P P2 S hl.1 (by decide +kernel) ⟨eTb_t 616 (by decide +kernel) rfl, eTb_t 1 (by decide +kernel) rfl, ⟨by decide +kernel, by decide +kernel, by decide +kernel⟩, by decide +kernel, by decide⟩ (eTb_t 613 (by decide +kernel) rfl) (eTb_t 614 (by decide +kernel) rfl) (eTb_t 615 (by decide +kernel) rfl) rfl rfl rfl (ev_X9_mend (xs (i + nI 1).toNatClampNeg) C (v, C') e1) rfl rfl rfl (by decide) rfl rfl rfl (Nat.le_of_ble_eq_true rfl) (fun H1 locs1 P P2 S => ?_)
  refine lv_aload_n (k := 2) hx hb (by decide +kernel) rfl l2 ?_
  refine lRead (n := 1) (v := nI 1) hx hb hX hbl S l0 l3 (by decide +kernel) (by decide +kernel) (by decide +kernel) rfl (by decide +kernel) (by decide +kernel) (hin 1 (by decide)) ?_
  refine lCall (as := [.int (xs (i + nI 1).toNatClampNeg)]) (z := 0) (rv := .int v) (M' := R') (n := 1) (idx := 76) (mj := m_X10_mend) hx hb hml hown hts hc1 hc2 KR ap2 P2 P S hl.1 (by decide +kernel) ⟨eTb_t 1383 (by decide +kernel) rfl, eTb_t 11 (by decide +kernel) rfl, ⟨by decide +kernel, by decide +kernel, by decide +kernel⟩, by decide +kernel, by decide⟩ (eTb_t 1380 (by decide +kernel) rfl) (eTb_t 1381 (by decide +kernel) rfl) (eTb_t 1382 (by decide +kernel) rfl) rfl rfl rfl (ev_X10_mend (xs (i + nI 1).toNatClampNeg) R (v, R') e2) rfl rfl rfl (by decide) rfl rfl rfl (Nat.le_of_ble_eq_true rfl) (fun H2 locs2 P2 P S => ?_)
  refine lv_icmp_eq (tgt := 1997) (off := 1209) hx hb (by decide +kernel) (by decide) (fun _ => ?_) (fun hne => absurd rfl hne)
  exact kk C' R' hr H2 locs2 ls P P2 S hl
theorem lc_15 {p : Program} {l : Launch} {e : Env} {s : State} {m : MethodId} {below : List Frame} {meth : Method} {c : Code} {b L : Nat} {xs : Nat → Int32} {cells slots : Nat} {Q : State → Prop} {D : va_G} {ac : Nat → ClassId} {adC adR : Nat → Nat} {i : Int32} {C R : eMem} (hL : LX p s m meth c b L xs cells slots D ac adC adR) (h : Rel C R) (hin : ∀ k, k < 6 → vp_in (i + nI k) L) (kk : ∀ C' R', Rel C' R' → LAt p l e s m below meth c b cells slots Q D ac adC adR 1997 i C' R') : LAt p l e s m below meth c b cells slots Q D ac adC adR 793 i C R := by
  intro H locs ls P P2 S hl
  obtain ⟨⟨hx, hb, hml, hown, hts⟩, ⟨hX, hbl⟩, ⟨hc1, hc2⟩, KC, KR, ap, ap2⟩ := hL
  have l0 := lv_at hl 0 rfl
  have l1 := lv_at hl 1 rfl
  have l2 := lv_at hl 2 rfl
  have l3 := lv_at hl 3 rfl
  obtain ⟨v, C', R', e1, e2, hr⟩ := st_flight h (xs (i + nI 1).toNatClampNeg) (xs (i + nI 2).toNatClampNeg) (xs (i + nI 3).toNatClampNeg)
  refine lv_aload_n (k := 1) hx hb (by decide +kernel) rfl l1 ?_
  refine lRead (n := 1) (v := nI 1) hx hb hX hbl S l0 l3 (by decide +kernel) (by decide +kernel) (by decide +kernel) rfl (by decide +kernel) (by decide +kernel) (hin 1 (by decide)) ?_
  refine lRead (n := 2) (v := nI 2) hx hb hX hbl S l0 l3 (by decide +kernel) (by decide +kernel) (by decide +kernel) rfl (by decide +kernel) (by decide +kernel) (hin 2 (by decide)) ?_
  refine lRead (n := 3) (v := nI 3) hx hb hX hbl S l0 l3 (by decide +kernel) (by decide +kernel) (by decide +kernel) rfl (by decide +kernel) (by decide +kernel) (hin 3 (by decide)) ?_
  refine lCall (as := [.int (xs (i + nI 1).toNatClampNeg), .int (xs (i + nI 2).toNatClampNeg), .int (xs (i + nI 3).toNatClampNeg)]) (z := 0) (rv := .int v) (M' := C') (n := 3) (idx := 77) (mj := m_X9_flight) hx hb hml hown hts hc1 hc2 KC ap P P2 S hl.1 (by decide +kernel) ⟨eTb_t 620 (by decide +kernel) rfl, eTb_t 1 (by decide +kernel) rfl, ⟨by decide +kernel, by decide +kernel, by decide +kernel⟩, by decide +kernel, by decide⟩ (eTb_t 617 (by decide +kernel) rfl) (eTb_t 618 (by decide +kernel) rfl) (eTb_t 619 (by decide +kernel) rfl) rfl rfl rfl (ev_X9_flight (xs (i + nI 1).toNatClampNeg) (xs (i + nI 2).toNatClampNeg) (xs (i + nI 3).toNatClampNeg) C (v, C') e1) rfl rfl rfl (by decide) rfl rfl rfl (Nat.le_of_ble_eq_true rfl) (fun H1 locs1 P P2 S => ?_)
  refine lv_aload_n (k := 2) hx hb (by decide +kernel) rfl l2 ?_
  refine lRead (n := 1) (v := nI 1) hx hb hX hbl S l0 l3 (by decide +kernel) (by decide +kernel) (by decide +kernel) rfl (by decide +kernel) (by decide +kernel) (hin 1 (by decide)) ?_
  refine lRead (n := 2) (v := nI 2) hx hb hX hbl S l0 l3 (by decide +kernel) (by decide +kernel) (by decide +kernel) rfl (by decide +kernel) (by decide +kernel) (hin 2 (by decide)) ?_
  refine lRead (n := 3) (v := nI 3) hx hb hX hbl S l0 l3 (by decide +kernel) (by decide +kernel) (by decide +kernel) rfl (by decide +kernel) (by decide +kernel) (hin 3 (by decide)) ?_
  refine lCall (as := [.int (xs (i + nI 1).toNatClampNeg), .int (xs (i + nI 2).toNatClampNeg), .int (xs (i + nI 3).toNatClampNeg)]) (z := 1) (rv := .int v) (M' := R') (n := 3) (idx := 80) (mj := m_X10_flight) hx hb hml hown hts hc1 hc2 KR ap2 P2 P S hl.1 (by decide +kernel) ⟨eTb_t 1387 (by decide +kernel) rfl, eTb_t 11 (by decide +kernel) rfl, ⟨by decide +kernel, by decide +kernel, by decide +kernel⟩, by decide +kernel, by decide⟩ (eTb_t 1384 (by decide +kernel) rfl) (eTb_t 1385 (by decide +kernel) rfl) (eTb_t 1386 (by decide +kernel) rfl) rfl rfl rfl (ev_X10_flight (xs (i + nI 1).toNatClampNeg) (xs (i + nI 2).toNatClampNeg) (xs (i + nI 3).toNatClampNeg) R (v, R') e2) rfl rfl rfl (by decide) rfl rfl rfl (Nat.le_of_ble_eq_true rfl) (fun H2 locs2 P2 P S => ?_)
  refine lv_icmp_eq (tgt := 1997) (off := 1166) hx hb (by decide +kernel) (by decide) (fun _ => ?_) (fun hne => absurd rfl hne)
  exact kk C' R' hr H2 locs2 ls P P2 S hl
theorem lc_16 {p : Program} {l : Launch} {e : Env} {s : State} {m : MethodId} {below : List Frame} {meth : Method} {c : Code} {b L : Nat} {xs : Nat → Int32} {cells slots : Nat} {Q : State → Prop} {D : va_G} {ac : Nat → ClassId} {adC adR : Nat → Nat} {i : Int32} {C R : eMem} (hL : LX p s m meth c b L xs cells slots D ac adC adR) (h : Rel C R) (hin : ∀ k, k < 6 → vp_in (i + nI k) L) (kk : ∀ C' R', Rel C' R' → LAt p l e s m below meth c b cells slots Q D ac adC adR 1997 i C' R') : LAt p l e s m below meth c b cells slots Q D ac adC adR 836 i C R := by
  intro H locs ls P P2 S hl
  obtain ⟨⟨hx, hb, hml, hown, hts⟩, ⟨hX, hbl⟩, ⟨hc1, hc2⟩, KC, KR, ap, ap2⟩ := hL
  have l0 := lv_at hl 0 rfl
  have l1 := lv_at hl 1 rfl
  have l2 := lv_at hl 2 rfl
  have l3 := lv_at hl 3 rfl
  obtain ⟨v, C', R', e1, e2, hr⟩ := st_listen h (xs (i + nI 1).toNatClampNeg)
  refine lv_aload_n (k := 1) hx hb (by decide +kernel) rfl l1 ?_
  refine lRead (n := 1) (v := nI 1) hx hb hX hbl S l0 l3 (by decide +kernel) (by decide +kernel) (by decide +kernel) rfl (by decide +kernel) (by decide +kernel) (hin 1 (by decide)) ?_
  refine lCall (as := [.int (xs (i + nI 1).toNatClampNeg)]) (z := 0) (rv := .int v) (M' := C') (n := 1) (idx := 81) (mj := m_X9_listen) hx hb hml hown hts hc1 hc2 KC ap P P2 S hl.1 (by decide +kernel) ⟨eTb_t 629 (by decide +kernel) rfl, eTb_t 1 (by decide +kernel) rfl, ⟨by decide +kernel, by decide +kernel, by decide +kernel⟩, by decide +kernel, by decide⟩ (eTb_t 626 (by decide +kernel) rfl) (eTb_t 627 (by decide +kernel) rfl) (eTb_t 628 (by decide +kernel) rfl) rfl rfl rfl (ev_X9_listen (xs (i + nI 1).toNatClampNeg) C (v, C') e1) rfl rfl rfl (by decide) rfl rfl rfl (Nat.le_of_ble_eq_true rfl) (fun H1 locs1 P P2 S => ?_)
  refine lv_aload_n (k := 2) hx hb (by decide +kernel) rfl l2 ?_
  refine lRead (n := 1) (v := nI 1) hx hb hX hbl S l0 l3 (by decide +kernel) (by decide +kernel) (by decide +kernel) rfl (by decide +kernel) (by decide +kernel) (hin 1 (by decide)) ?_
  refine lCall (as := [.int (xs (i + nI 1).toNatClampNeg)]) (z := 0) (rv := .int v) (M' := R') (n := 1) (idx := 84) (mj := m_X10_listen) hx hb hml hown hts hc1 hc2 KR ap2 P2 P S hl.1 (by decide +kernel) ⟨eTb_t 1394 (by decide +kernel) rfl, eTb_t 11 (by decide +kernel) rfl, ⟨by decide +kernel, by decide +kernel, by decide +kernel⟩, by decide +kernel, by decide⟩ (eTb_t 1391 (by decide +kernel) rfl) (eTb_t 1392 (by decide +kernel) rfl) (eTb_t 1393 (by decide +kernel) rfl) rfl rfl rfl (ev_X10_listen (xs (i + nI 1).toNatClampNeg) R (v, R') e2) rfl rfl rfl (by decide) rfl rfl rfl (Nat.le_of_ble_eq_true rfl) (fun H2 locs2 P2 P S => ?_)
  refine lv_icmp_eq (tgt := 1997) (off := 1143) hx hb (by decide +kernel) (by decide) (fun _ => ?_) (fun hne => absurd rfl hne)
  exact kk C' R' hr H2 locs2 ls P P2 S hl
theorem lc_17 {p : Program} {l : Launch} {e : Env} {s : State} {m : MethodId} {below : List Frame} {meth : Method} {c : Code} {b L : Nat} {xs : Nat → Int32} {cells slots : Nat} {Q : State → Prop} {D : va_G} {ac : Nat → ClassId} {adC adR : Nat → Nat} {i : Int32} {C R : eMem} (hL : LX p s m meth c b L xs cells slots D ac adC adR) (h : Rel C R) (hin : ∀ k, k < 6 → vp_in (i + nI k) L) (kk : ∀ C' R', Rel C' R' → LAt p l e s m below meth c b cells slots Q D ac adC adR 1997 i C' R') : LAt p l e s m below meth c b cells slots Q D ac adC adR 859 i C R := by
  intro H locs ls P P2 S hl
  obtain ⟨⟨hx, hb, hml, hown, hts⟩, ⟨hX, hbl⟩, ⟨hc1, hc2⟩, KC, KR, ap, ap2⟩ := hL
  have l0 := lv_at hl 0 rfl
  have l1 := lv_at hl 1 rfl
  have l2 := lv_at hl 2 rfl
  have l3 := lv_at hl 3 rfl
  obtain ⟨v, C', R', e1, e2, hr⟩ := st_tell h (xs (i + nI 1).toNatClampNeg)
  refine lv_aload_n (k := 1) hx hb (by decide +kernel) rfl l1 ?_
  refine lRead (n := 1) (v := nI 1) hx hb hX hbl S l0 l3 (by decide +kernel) (by decide +kernel) (by decide +kernel) rfl (by decide +kernel) (by decide +kernel) (hin 1 (by decide)) ?_
  refine lCall (as := [.int (xs (i + nI 1).toNatClampNeg)]) (z := 1) (rv := .int v) (M' := C') (n := 1) (idx := 85) (mj := m_X9_tell) hx hb hml hown hts hc1 hc2 KC ap P P2 S hl.1 (by decide +kernel) ⟨eTb_t 637 (by decide +kernel) rfl, eTb_t 1 (by decide +kernel) rfl, ⟨by decide +kernel, by decide +kernel, by decide +kernel⟩, by decide +kernel, by decide⟩ (eTb_t 634 (by decide +kernel) rfl) (eTb_t 635 (by decide +kernel) rfl) (eTb_t 636 (by decide +kernel) rfl) rfl rfl rfl (ev_X9_tell (xs (i + nI 1).toNatClampNeg) C (v, C') e1) rfl rfl rfl (by decide) rfl rfl rfl (Nat.le_of_ble_eq_true rfl) (fun H1 locs1 P P2 S => ?_)
  refine lv_aload_n (k := 2) hx hb (by decide +kernel) rfl l2 ?_
  refine lRead (n := 1) (v := nI 1) hx hb hX hbl S l0 l3 (by decide +kernel) (by decide +kernel) (by decide +kernel) rfl (by decide +kernel) (by decide +kernel) (hin 1 (by decide)) ?_
  refine lCall (as := [.int (xs (i + nI 1).toNatClampNeg)]) (z := 0) (rv := .int v) (M' := R') (n := 1) (idx := 88) (mj := m_X10_tell) hx hb hml hown hts hc1 hc2 KR ap2 P2 P S hl.1 (by decide +kernel) ⟨eTb_t 1398 (by decide +kernel) rfl, eTb_t 11 (by decide +kernel) rfl, ⟨by decide +kernel, by decide +kernel, by decide +kernel⟩, by decide +kernel, by decide⟩ (eTb_t 1395 (by decide +kernel) rfl) (eTb_t 1396 (by decide +kernel) rfl) (eTb_t 1397 (by decide +kernel) rfl) rfl rfl rfl (ev_X10_tell (xs (i + nI 1).toNatClampNeg) R (v, R') e2) rfl rfl rfl (by decide) rfl rfl rfl (Nat.le_of_ble_eq_true rfl) (fun H2 locs2 P2 P S => ?_)
  refine lv_icmp_eq (tgt := 1997) (off := 1120) hx hb (by decide +kernel) (by decide) (fun _ => ?_) (fun hne => absurd rfl hne)
  exact kk C' R' hr H2 locs2 ls P P2 S hl
theorem lc_18 {p : Program} {l : Launch} {e : Env} {s : State} {m : MethodId} {below : List Frame} {meth : Method} {c : Code} {b L : Nat} {xs : Nat → Int32} {cells slots : Nat} {Q : State → Prop} {D : va_G} {ac : Nat → ClassId} {adC adR : Nat → Nat} {i : Int32} {C R : eMem} (hL : LX p s m meth c b L xs cells slots D ac adC adR) (h : Rel C R) (hin : ∀ k, k < 6 → vp_in (i + nI k) L) (kk : ∀ C' R', Rel C' R' → LAt p l e s m below meth c b cells slots Q D ac adC adR 1997 i C' R') : LAt p l e s m below meth c b cells slots Q D ac adC adR 882 i C R := by
  intro H locs ls P P2 S hl
  obtain ⟨⟨hx, hb, hml, hown, hts⟩, ⟨hX, hbl⟩, ⟨hc1, hc2⟩, KC, KR, ap, ap2⟩ := hL
  have l0 := lv_at hl 0 rfl
  have l1 := lv_at hl 1 rfl
  have l2 := lv_at hl 2 rfl
  have l3 := lv_at hl 3 rfl
  obtain ⟨v, C', R', e1, e2, hr⟩ := st_prisoner h (xs (i + nI 1).toNatClampNeg) (bz (xs (i + nI 2).toNatClampNeg)) (bz_01 _)
  refine lv_aload_n (k := 1) hx hb (by decide +kernel) rfl l1 ?_
  refine lRead (n := 1) (v := nI 1) hx hb hX hbl S l0 l3 (by decide +kernel) (by decide +kernel) (by decide +kernel) rfl (by decide +kernel) (by decide +kernel) (hin 1 (by decide)) ?_
  refine lRead (n := 2) (v := nI 2) hx hb hX hbl S l0 l3 (by decide +kernel) (by decide +kernel) (by decide +kernel) rfl (by decide +kernel) (by decide +kernel) (hin 2 (by decide)) ?_
  refine lBool hx hb (by decide +kernel) (by decide +kernel) (by decide +kernel) (by decide +kernel) ?_
  refine lCall (as := [.int (xs (i + nI 1).toNatClampNeg), .int (bz (xs (i + nI 2).toNatClampNeg))]) (z := 0) (rv := .int v) (M' := C') (n := 2) (idx := 89) (mj := m_X9_prisoner) hx hb hml hown hts hc1 hc2 KC ap P P2 S hl.1 (by decide +kernel) ⟨eTb_t 654 (by decide +kernel) rfl, eTb_t 1 (by decide +kernel) rfl, ⟨by decide +kernel, by decide +kernel, by decide +kernel⟩, by decide +kernel, by decide⟩ (eTb_t 651 (by decide +kernel) rfl) (eTb_t 652 (by decide +kernel) rfl) (eTb_t 653 (by decide +kernel) rfl) rfl rfl rfl (ev_X9_prisoner (xs (i + nI 1).toNatClampNeg) (bz (xs (i + nI 2).toNatClampNeg)) C (v, C') e1) rfl rfl rfl (by decide) rfl rfl rfl (Nat.le_of_ble_eq_true rfl) (fun H1 locs1 P P2 S => ?_)
  refine lv_aload_n (k := 2) hx hb (by decide +kernel) rfl l2 ?_
  refine lRead (n := 1) (v := nI 1) hx hb hX hbl S l0 l3 (by decide +kernel) (by decide +kernel) (by decide +kernel) rfl (by decide +kernel) (by decide +kernel) (hin 1 (by decide)) ?_
  refine lRead (n := 2) (v := nI 2) hx hb hX hbl S l0 l3 (by decide +kernel) (by decide +kernel) (by decide +kernel) rfl (by decide +kernel) (by decide +kernel) (hin 2 (by decide)) ?_
  refine lBool hx hb (by decide +kernel) (by decide +kernel) (by decide +kernel) (by decide +kernel) ?_
  refine lCall (as := [.int (xs (i + nI 1).toNatClampNeg), .int (bz (xs (i + nI 2).toNatClampNeg))]) (z := 0) (rv := .int v) (M' := R') (n := 2) (idx := 92) (mj := m_X10_prisoner) hx hb hml hown hts hc1 hc2 KR ap2 P2 P S hl.1 (by decide +kernel) ⟨eTb_t 1406 (by decide +kernel) rfl, eTb_t 11 (by decide +kernel) rfl, ⟨by decide +kernel, by decide +kernel, by decide +kernel⟩, by decide +kernel, by decide⟩ (eTb_t 1403 (by decide +kernel) rfl) (eTb_t 1404 (by decide +kernel) rfl) (eTb_t 1405 (by decide +kernel) rfl) rfl rfl rfl (ev_X10_prisoner (xs (i + nI 1).toNatClampNeg) (bz (xs (i + nI 2).toNatClampNeg)) R (v, R') e2) rfl rfl rfl (by decide) rfl rfl rfl (Nat.le_of_ble_eq_true rfl) (fun H2 locs2 P2 P S => ?_)
  refine lv_icmp_eq (tgt := 1997) (off := 1071) hx hb (by decide +kernel) (by decide) (fun _ => ?_) (fun hne => absurd rfl hne)
  exact kk C' R' hr H2 locs2 ls P P2 S hl
theorem lc_19 {p : Program} {l : Launch} {e : Env} {s : State} {m : MethodId} {below : List Frame} {meth : Method} {c : Code} {b L : Nat} {xs : Nat → Int32} {cells slots : Nat} {Q : State → Prop} {D : va_G} {ac : Nat → ClassId} {adC adR : Nat → Nat} {i : Int32} {C R : eMem} (hL : LX p s m meth c b L xs cells slots D ac adC adR) (h : Rel C R) (hin : ∀ k, k < 6 → vp_in (i + nI k) L) (kk : ∀ C' R', Rel C' R' → LAt p l e s m below meth c b cells slots Q D ac adC adR 1997 i C' R') : LAt p l e s m below meth c b cells slots Q D ac adC adR 931 i C R := by
  intro H locs ls P P2 S hl
  obtain ⟨⟨hx, hb, hml, hown, hts⟩, ⟨hX, hbl⟩, ⟨hc1, hc2⟩, KC, KR, ap, ap2⟩ := hL
  have l0 := lv_at hl 0 rfl
  have l1 := lv_at hl 1 rfl
  have l2 := lv_at hl 2 rfl
  have l3 := lv_at hl 3 rfl
  obtain ⟨v, C', R', e1, e2, hr⟩ := st_film h (xs (i + nI 1).toNatClampNeg) (xs (i + nI 2).toNatClampNeg)
  refine lv_aload_n (k := 1) hx hb (by decide +kernel) rfl l1 ?_
  refine lRead (n := 1) (v := nI 1) hx hb hX hbl S l0 l3 (by decide +kernel) (by decide +kernel) (by decide +kernel) rfl (by decide +kernel) (by decide +kernel) (hin 1 (by decide)) ?_
  refine lRead (n := 2) (v := nI 2) hx hb hX hbl S l0 l3 (by decide +kernel) (by decide +kernel) (by decide +kernel) rfl (by decide +kernel) (by decide +kernel) (hin 2 (by decide)) ?_
  refine lCall (as := [.int (xs (i + nI 1).toNatClampNeg), .int (xs (i + nI 2).toNatClampNeg)]) (z := 4) (rv := .int v) (M' := C') (n := 2) (idx := 93) (mj := m_X9_film) hx hb hml hown hts hc1 hc2 KC ap P P2 S hl.1 (by decide +kernel) ⟨eTb_t 662 (by decide +kernel) rfl, eTb_t 1 (by decide +kernel) rfl, ⟨by decide +kernel, by decide +kernel, by decide +kernel⟩, by decide +kernel, by decide⟩ (eTb_t 659 (by decide +kernel) rfl) (eTb_t 660 (by decide +kernel) rfl) (eTb_t 661 (by decide +kernel) rfl) rfl rfl rfl (ev_X9_film (xs (i + nI 1).toNatClampNeg) (xs (i + nI 2).toNatClampNeg) C (v, C') e1) rfl rfl rfl (by decide) rfl rfl rfl (Nat.le_of_ble_eq_true rfl) (fun H1 locs1 P P2 S => ?_)
  refine lv_aload_n (k := 2) hx hb (by decide +kernel) rfl l2 ?_
  refine lRead (n := 1) (v := nI 1) hx hb hX hbl S l0 l3 (by decide +kernel) (by decide +kernel) (by decide +kernel) rfl (by decide +kernel) (by decide +kernel) (hin 1 (by decide)) ?_
  refine lRead (n := 2) (v := nI 2) hx hb hX hbl S l0 l3 (by decide +kernel) (by decide +kernel) (by decide +kernel) rfl (by decide +kernel) (by decide +kernel) (hin 2 (by decide)) ?_
  refine lCall (as := [.int (xs (i + nI 1).toNatClampNeg), .int (xs (i + nI 2).toNatClampNeg)]) (z := 5) (rv := .int v) (M' := R') (n := 2) (idx := 96) (mj := m_X10_film) hx hb hml hown hts hc1 hc2 KR ap2 P2 P S hl.1 (by decide +kernel) ⟨eTb_t 1410 (by decide +kernel) rfl, eTb_t 11 (by decide +kernel) rfl, ⟨by decide +kernel, by decide +kernel, by decide +kernel⟩, by decide +kernel, by decide⟩ (eTb_t 1407 (by decide +kernel) rfl) (eTb_t 1408 (by decide +kernel) rfl) (eTb_t 1409 (by decide +kernel) rfl) rfl rfl rfl (ev_X10_film (xs (i + nI 1).toNatClampNeg) (xs (i + nI 2).toNatClampNeg) R (v, R') e2) rfl rfl rfl (by decide) rfl rfl rfl (Nat.le_of_ble_eq_true rfl) (fun H2 locs2 P2 P S => ?_)
  refine lv_icmp_eq (tgt := 1997) (off := 1038) hx hb (by decide +kernel) (by decide) (fun _ => ?_) (fun hne => absurd rfl hne)
  exact kk C' R' hr H2 locs2 ls P P2 S hl
theorem lc_20 {p : Program} {l : Launch} {e : Env} {s : State} {m : MethodId} {below : List Frame} {meth : Method} {c : Code} {b L : Nat} {xs : Nat → Int32} {cells slots : Nat} {Q : State → Prop} {D : va_G} {ac : Nat → ClassId} {adC adR : Nat → Nat} {i : Int32} {C R : eMem} (hL : LX p s m meth c b L xs cells slots D ac adC adR) (h : Rel C R) (hin : ∀ k, k < 6 → vp_in (i + nI k) L) (kk : ∀ C' R', Rel C' R' → LAt p l e s m below meth c b cells slots Q D ac adC adR 1997 i C' R') : LAt p l e s m below meth c b cells slots Q D ac adC adR 964 i C R := by
  intro H locs ls P P2 S hl
  obtain ⟨⟨hx, hb, hml, hown, hts⟩, ⟨hX, hbl⟩, ⟨hc1, hc2⟩, KC, KR, ap, ap2⟩ := hL
  have l0 := lv_at hl 0 rfl
  have l1 := lv_at hl 1 rfl
  have l2 := lv_at hl 2 rfl
  have l3 := lv_at hl 3 rfl
  obtain ⟨v, C', R', e1, e2, hr⟩ := st_report h (xs (i + nI 1).toNatClampNeg) (xs (i + nI 2).toNatClampNeg)
  refine lv_aload_n (k := 1) hx hb (by decide +kernel) rfl l1 ?_
  refine lRead (n := 1) (v := nI 1) hx hb hX hbl S l0 l3 (by decide +kernel) (by decide +kernel) (by decide +kernel) rfl (by decide +kernel) (by decide +kernel) (hin 1 (by decide)) ?_
  refine lRead (n := 2) (v := nI 2) hx hb hX hbl S l0 l3 (by decide +kernel) (by decide +kernel) (by decide +kernel) rfl (by decide +kernel) (by decide +kernel) (hin 2 (by decide)) ?_
  refine lCall (as := [.int (xs (i + nI 1).toNatClampNeg), .int (xs (i + nI 2).toNatClampNeg)]) (z := 1) (rv := .int v) (M' := C') (n := 2) (idx := 97) (mj := m_X9_report) hx hb hml hown hts hc1 hc2 KC ap P P2 S hl.1 (by decide +kernel) ⟨eTb_t 675 (by decide +kernel) rfl, eTb_t 1 (by decide +kernel) rfl, ⟨by decide +kernel, by decide +kernel, by decide +kernel⟩, by decide +kernel, by decide⟩ (eTb_t 672 (by decide +kernel) rfl) (eTb_t 673 (by decide +kernel) rfl) (eTb_t 674 (by decide +kernel) rfl) rfl rfl rfl (ev_X9_report (xs (i + nI 1).toNatClampNeg) (xs (i + nI 2).toNatClampNeg) C (v, C') e1) rfl rfl rfl (by decide) rfl rfl rfl (Nat.le_of_ble_eq_true rfl) (fun H1 locs1 P P2 S => ?_)
  refine lv_aload_n (k := 2) hx hb (by decide +kernel) rfl l2 ?_
  refine lRead (n := 1) (v := nI 1) hx hb hX hbl S l0 l3 (by decide +kernel) (by decide +kernel) (by decide +kernel) rfl (by decide +kernel) (by decide +kernel) (hin 1 (by decide)) ?_
  refine lRead (n := 2) (v := nI 2) hx hb hX hbl S l0 l3 (by decide +kernel) (by decide +kernel) (by decide +kernel) rfl (by decide +kernel) (by decide +kernel) (hin 2 (by decide)) ?_
  refine lCall (as := [.int (xs (i + nI 1).toNatClampNeg), .int (xs (i + nI 2).toNatClampNeg)]) (z := 0) (rv := .int v) (M' := R') (n := 2) (idx := 100) (mj := m_X10_report) hx hb hml hown hts hc1 hc2 KR ap2 P2 P S hl.1 (by decide +kernel) ⟨eTb_t 1417 (by decide +kernel) rfl, eTb_t 11 (by decide +kernel) rfl, ⟨by decide +kernel, by decide +kernel, by decide +kernel⟩, by decide +kernel, by decide⟩ (eTb_t 1414 (by decide +kernel) rfl) (eTb_t 1415 (by decide +kernel) rfl) (eTb_t 1416 (by decide +kernel) rfl) rfl rfl rfl (ev_X10_report (xs (i + nI 1).toNatClampNeg) (xs (i + nI 2).toNatClampNeg) R (v, R') e2) rfl rfl rfl (by decide) rfl rfl rfl (Nat.le_of_ble_eq_true rfl) (fun H2 locs2 P2 P S => ?_)
  refine lv_icmp_eq (tgt := 1997) (off := 1005) hx hb (by decide +kernel) (by decide) (fun _ => ?_) (fun hne => absurd rfl hne)
  exact kk C' R' hr H2 locs2 ls P P2 S hl
theorem lc_21 {p : Program} {l : Launch} {e : Env} {s : State} {m : MethodId} {below : List Frame} {meth : Method} {c : Code} {b L : Nat} {xs : Nat → Int32} {cells slots : Nat} {Q : State → Prop} {D : va_G} {ac : Nat → ClassId} {adC adR : Nat → Nat} {i : Int32} {C R : eMem} (hL : LX p s m meth c b L xs cells slots D ac adC adR) (h : Rel C R) (hin : ∀ k, k < 6 → vp_in (i + nI k) L) (kk : ∀ C' R', Rel C' R' → LAt p l e s m below meth c b cells slots Q D ac adC adR 1997 i C' R') : LAt p l e s m below meth c b cells slots Q D ac adC adR 997 i C R := by
  intro H locs ls P P2 S hl
  obtain ⟨⟨hx, hb, hml, hown, hts⟩, ⟨hX, hbl⟩, ⟨hc1, hc2⟩, KC, KR, ap, ap2⟩ := hL
  have l0 := lv_at hl 0 rfl
  have l1 := lv_at hl 1 rfl
  have l2 := lv_at hl 2 rfl
  have l3 := lv_at hl 3 rfl
  obtain ⟨v, C', R', e1, e2, hr⟩ := st_strike h (xs (i + nI 1).toNatClampNeg)
  refine lv_aload_n (k := 1) hx hb (by decide +kernel) rfl l1 ?_
  refine lRead (n := 1) (v := nI 1) hx hb hX hbl S l0 l3 (by decide +kernel) (by decide +kernel) (by decide +kernel) rfl (by decide +kernel) (by decide +kernel) (hin 1 (by decide)) ?_
  refine lCall (as := [.int (xs (i + nI 1).toNatClampNeg)]) (z := 3) (rv := .int v) (M' := C') (n := 1) (idx := 101) (mj := m_X9_strike) hx hb hml hown hts hc1 hc2 KC ap P P2 S hl.1 (by decide +kernel) ⟨eTb_t 684 (by decide +kernel) rfl, eTb_t 1 (by decide +kernel) rfl, ⟨by decide +kernel, by decide +kernel, by decide +kernel⟩, by decide +kernel, by decide⟩ (eTb_t 681 (by decide +kernel) rfl) (eTb_t 682 (by decide +kernel) rfl) (eTb_t 683 (by decide +kernel) rfl) rfl rfl rfl (ev_X9_strike (xs (i + nI 1).toNatClampNeg) C (v, C') e1) rfl rfl rfl (by decide) rfl rfl rfl (Nat.le_of_ble_eq_true rfl) (fun H1 locs1 P P2 S => ?_)
  refine lv_aload_n (k := 2) hx hb (by decide +kernel) rfl l2 ?_
  refine lRead (n := 1) (v := nI 1) hx hb hX hbl S l0 l3 (by decide +kernel) (by decide +kernel) (by decide +kernel) rfl (by decide +kernel) (by decide +kernel) (hin 1 (by decide)) ?_
  refine lCall (as := [.int (xs (i + nI 1).toNatClampNeg)]) (z := 1) (rv := .int v) (M' := R') (n := 1) (idx := 104) (mj := m_X10_strike) hx hb hml hown hts hc1 hc2 KR ap2 P2 P S hl.1 (by decide +kernel) ⟨eTb_t 1433 (by decide +kernel) rfl, eTb_t 11 (by decide +kernel) rfl, ⟨by decide +kernel, by decide +kernel, by decide +kernel⟩, by decide +kernel, by decide⟩ (eTb_t 1430 (by decide +kernel) rfl) (eTb_t 1431 (by decide +kernel) rfl) (eTb_t 1432 (by decide +kernel) rfl) rfl rfl rfl (ev_X10_strike (xs (i + nI 1).toNatClampNeg) R (v, R') e2) rfl rfl rfl (by decide) rfl rfl rfl (Nat.le_of_ble_eq_true rfl) (fun H2 locs2 P2 P S => ?_)
  refine lv_icmp_eq (tgt := 1997) (off := 982) hx hb (by decide +kernel) (by decide) (fun _ => ?_) (fun hne => absurd rfl hne)
  exact kk C' R' hr H2 locs2 ls P P2 S hl
theorem lc_22 {p : Program} {l : Launch} {e : Env} {s : State} {m : MethodId} {below : List Frame} {meth : Method} {c : Code} {b L : Nat} {xs : Nat → Int32} {cells slots : Nat} {Q : State → Prop} {D : va_G} {ac : Nat → ClassId} {adC adR : Nat → Nat} {i : Int32} {C R : eMem} (hL : LX p s m meth c b L xs cells slots D ac adC adR) (h : Rel C R) (hin : ∀ k, k < 6 → vp_in (i + nI k) L) (kk : ∀ C' R', Rel C' R' → LAt p l e s m below meth c b cells slots Q D ac adC adR 1997 i C' R') : LAt p l e s m below meth c b cells slots Q D ac adC adR 1020 i C R := by
  intro H locs ls P P2 S hl
  obtain ⟨⟨hx, hb, hml, hown, hts⟩, ⟨hX, hbl⟩, ⟨hc1, hc2⟩, KC, KR, ap, ap2⟩ := hL
  have l0 := lv_at hl 0 rfl
  have l1 := lv_at hl 1 rfl
  have l2 := lv_at hl 2 rfl
  have l3 := lv_at hl 3 rfl
  obtain ⟨v, C', R', e1, e2, hr⟩ := st_fade h (xs (i + nI 1).toNatClampNeg)
  refine lv_aload_n (k := 1) hx hb (by decide +kernel) rfl l1 ?_
  refine lRead (n := 1) (v := nI 1) hx hb hX hbl S l0 l3 (by decide +kernel) (by decide +kernel) (by decide +kernel) rfl (by decide +kernel) (by decide +kernel) (hin 1 (by decide)) ?_
  refine lCall (as := [.int (xs (i + nI 1).toNatClampNeg)]) (z := 1) (rv := .int v) (M' := C') (n := 1) (idx := 105) (mj := m_X9_fade) hx hb hml hown hts hc1 hc2 KC ap P P2 S hl.1 (by decide +kernel) ⟨eTb_t 688 (by decide +kernel) rfl, eTb_t 1 (by decide +kernel) rfl, ⟨by decide +kernel, by decide +kernel, by decide +kernel⟩, by decide +kernel, by decide⟩ (eTb_t 685 (by decide +kernel) rfl) (eTb_t 686 (by decide +kernel) rfl) (eTb_t 687 (by decide +kernel) rfl) rfl rfl rfl (ev_X9_fade (xs (i + nI 1).toNatClampNeg) C (v, C') e1) rfl rfl rfl (by decide) rfl rfl rfl (Nat.le_of_ble_eq_true rfl) (fun H1 locs1 P P2 S => ?_)
  refine lv_aload_n (k := 2) hx hb (by decide +kernel) rfl l2 ?_
  refine lRead (n := 1) (v := nI 1) hx hb hX hbl S l0 l3 (by decide +kernel) (by decide +kernel) (by decide +kernel) rfl (by decide +kernel) (by decide +kernel) (hin 1 (by decide)) ?_
  refine lCall (as := [.int (xs (i + nI 1).toNatClampNeg)]) (z := 1) (rv := .int v) (M' := R') (n := 1) (idx := 108) (mj := m_X10_fade) hx hb hml hown hts hc1 hc2 KR ap2 P2 P S hl.1 (by decide +kernel) ⟨eTb_t 1437 (by decide +kernel) rfl, eTb_t 11 (by decide +kernel) rfl, ⟨by decide +kernel, by decide +kernel, by decide +kernel⟩, by decide +kernel, by decide⟩ (eTb_t 1434 (by decide +kernel) rfl) (eTb_t 1435 (by decide +kernel) rfl) (eTb_t 1436 (by decide +kernel) rfl) rfl rfl rfl (ev_X10_fade (xs (i + nI 1).toNatClampNeg) R (v, R') e2) rfl rfl rfl (by decide) rfl rfl rfl (Nat.le_of_ble_eq_true rfl) (fun H2 locs2 P2 P S => ?_)
  refine lv_icmp_eq (tgt := 1997) (off := 959) hx hb (by decide +kernel) (by decide) (fun _ => ?_) (fun hne => absurd rfl hne)
  exact kk C' R' hr H2 locs2 ls P P2 S hl
theorem lc_23 {p : Program} {l : Launch} {e : Env} {s : State} {m : MethodId} {below : List Frame} {meth : Method} {c : Code} {b L : Nat} {xs : Nat → Int32} {cells slots : Nat} {Q : State → Prop} {D : va_G} {ac : Nat → ClassId} {adC adR : Nat → Nat} {i : Int32} {C R : eMem} (hL : LX p s m meth c b L xs cells slots D ac adC adR) (h : Rel C R) (hin : ∀ k, k < 6 → vp_in (i + nI k) L) (kk : ∀ C' R', Rel C' R' → LAt p l e s m below meth c b cells slots Q D ac adC adR 1997 i C' R') : LAt p l e s m below meth c b cells slots Q D ac adC adR 1043 i C R := by
  intro H locs ls P P2 S hl
  obtain ⟨⟨hx, hb, hml, hown, hts⟩, ⟨hX, hbl⟩, ⟨hc1, hc2⟩, KC, KR, ap, ap2⟩ := hL
  have l0 := lv_at hl 0 rfl
  have l1 := lv_at hl 1 rfl
  have l2 := lv_at hl 2 rfl
  have l3 := lv_at hl 3 rfl
  obtain ⟨v, C', R', e1, e2, hr⟩ := st_weight h (xs (i + nI 1).toNatClampNeg)
  refine lv_aload_n (k := 1) hx hb (by decide +kernel) rfl l1 ?_
  refine lRead (n := 1) (v := nI 1) hx hb hX hbl S l0 l3 (by decide +kernel) (by decide +kernel) (by decide +kernel) rfl (by decide +kernel) (by decide +kernel) (hin 1 (by decide)) ?_
  refine lCall (as := [.int (xs (i + nI 1).toNatClampNeg)]) (z := 0) (rv := .long v) (M' := C') (n := 1) (idx := 109) (mj := m_X9_weight) hx hb hml hown hts hc1 hc2 KC ap P P2 S hl.1 (by decide +kernel) ⟨eTb_t 692 (by decide +kernel) rfl, eTb_t 1 (by decide +kernel) rfl, ⟨by decide +kernel, by decide +kernel, by decide +kernel⟩, by decide +kernel, by decide⟩ (eTb_t 689 (by decide +kernel) rfl) (eTb_t 690 (by decide +kernel) rfl) (eTb_t 691 (by decide +kernel) rfl) rfl rfl rfl (ev_X9_weight (xs (i + nI 1).toNatClampNeg) C (v, C') e1) rfl rfl rfl (by decide) rfl rfl rfl (Nat.le_of_ble_eq_true rfl) (fun H1 locs1 P P2 S => ?_)
  refine lv_aload_n (k := 2) hx hb (by decide +kernel) rfl l2 ?_
  refine lRead (n := 1) (v := nI 1) hx hb hX hbl S l0 l3 (by decide +kernel) (by decide +kernel) (by decide +kernel) rfl (by decide +kernel) (by decide +kernel) (hin 1 (by decide)) ?_
  refine lCall (as := [.int (xs (i + nI 1).toNatClampNeg)]) (z := 0) (rv := .long v) (M' := R') (n := 1) (idx := 113) (mj := m_X10_weight) hx hb hml hown hts hc1 hc2 KR ap2 P2 P S hl.1 (by decide +kernel) ⟨eTb_t 1441 (by decide +kernel) rfl, eTb_t 11 (by decide +kernel) rfl, ⟨by decide +kernel, by decide +kernel, by decide +kernel⟩, by decide +kernel, by decide⟩ (eTb_t 1438 (by decide +kernel) rfl) (eTb_t 1439 (by decide +kernel) rfl) (eTb_t 1440 (by decide +kernel) rfl) rfl rfl rfl (ev_X10_weight (xs (i + nI 1).toNatClampNeg) R (v, R') e2) rfl rfl rfl (by decide) rfl rfl rfl (Nat.le_of_ble_eq_true rfl) (fun H2 locs2 P2 P S => ?_)
  refine W.lcmp hx hb (by decide +kernel) ?_
  refine lv_if_eq (tgt := 1997) (off := 935) hx hb (by decide +kernel) (by decide) (fun _ => ?_) (fun hne => absurd (by simp [lg_cmp]) hne)
  exact kk C' R' hr H2 locs2 ls P P2 S hl
theorem lc_24 {p : Program} {l : Launch} {e : Env} {s : State} {m : MethodId} {below : List Frame} {meth : Method} {c : Code} {b L : Nat} {xs : Nat → Int32} {cells slots : Nat} {Q : State → Prop} {D : va_G} {ac : Nat → ClassId} {adC adR : Nat → Nat} {i : Int32} {C R : eMem} (hL : LX p s m meth c b L xs cells slots D ac adC adR) (h : Rel C R) (hin : ∀ k, k < 6 → vp_in (i + nI k) L) (kk : ∀ C' R', Rel C' R' → LAt p l e s m below meth c b cells slots Q D ac adC adR 1997 i C' R') : LAt p l e s m below meth c b cells slots Q D ac adC adR 1067 i C R := by
  intro H locs ls P P2 S hl
  obtain ⟨⟨hx, hb, hml, hown, hts⟩, ⟨hX, hbl⟩, ⟨hc1, hc2⟩, KC, KR, ap, ap2⟩ := hL
  have l0 := lv_at hl 0 rfl
  have l1 := lv_at hl 1 rfl
  have l2 := lv_at hl 2 rfl
  have l3 := lv_at hl 3 rfl
  obtain ⟨v, C', R', e1, e2, hr⟩ := st_likely h (xs (i + nI 1).toNatClampNeg) (bz (xs (i + nI 2).toNatClampNeg))
  refine lv_aload_n (k := 1) hx hb (by decide +kernel) rfl l1 ?_
  refine lRead (n := 1) (v := nI 1) hx hb hX hbl S l0 l3 (by decide +kernel) (by decide +kernel) (by decide +kernel) rfl (by decide +kernel) (by decide +kernel) (hin 1 (by decide)) ?_
  refine lRead (n := 2) (v := nI 2) hx hb hX hbl S l0 l3 (by decide +kernel) (by decide +kernel) (by decide +kernel) rfl (by decide +kernel) (by decide +kernel) (hin 2 (by decide)) ?_
  refine lBool hx hb (by decide +kernel) (by decide +kernel) (by decide +kernel) (by decide +kernel) ?_
  refine lCall (as := [.int (xs (i + nI 1).toNatClampNeg), .int (bz (xs (i + nI 2).toNatClampNeg))]) (z := 0) (rv := .long v) (M' := C') (n := 2) (idx := 114) (mj := m_X9_likely) hx hb hml hown hts hc1 hc2 KC ap P P2 S hl.1 (by decide +kernel) ⟨eTb_t 723 (by decide +kernel) rfl, eTb_t 1 (by decide +kernel) rfl, ⟨by decide +kernel, by decide +kernel, by decide +kernel⟩, by decide +kernel, by decide⟩ (eTb_t 720 (by decide +kernel) rfl) (eTb_t 721 (by decide +kernel) rfl) (eTb_t 722 (by decide +kernel) rfl) rfl rfl rfl (ev_X9_likely (xs (i + nI 1).toNatClampNeg) (bz (xs (i + nI 2).toNatClampNeg)) C (v, C') e1) rfl rfl rfl (by decide) rfl rfl rfl (Nat.le_of_ble_eq_true rfl) (fun H1 locs1 P P2 S => ?_)
  refine lv_aload_n (k := 2) hx hb (by decide +kernel) rfl l2 ?_
  refine lRead (n := 1) (v := nI 1) hx hb hX hbl S l0 l3 (by decide +kernel) (by decide +kernel) (by decide +kernel) rfl (by decide +kernel) (by decide +kernel) (hin 1 (by decide)) ?_
  refine lRead (n := 2) (v := nI 2) hx hb hX hbl S l0 l3 (by decide +kernel) (by decide +kernel) (by decide +kernel) rfl (by decide +kernel) (by decide +kernel) (hin 2 (by decide)) ?_
  refine lBool hx hb (by decide +kernel) (by decide +kernel) (by decide +kernel) (by decide +kernel) ?_
  refine lCall (as := [.int (xs (i + nI 1).toNatClampNeg), .int (bz (xs (i + nI 2).toNatClampNeg))]) (z := 0) (rv := .long v) (M' := R') (n := 2) (idx := 118) (mj := m_X10_likely) hx hb hml hown hts hc1 hc2 KR ap2 P2 P S hl.1 (by decide +kernel) ⟨eTb_t 1457 (by decide +kernel) rfl, eTb_t 11 (by decide +kernel) rfl, ⟨by decide +kernel, by decide +kernel, by decide +kernel⟩, by decide +kernel, by decide⟩ (eTb_t 1454 (by decide +kernel) rfl) (eTb_t 1455 (by decide +kernel) rfl) (eTb_t 1456 (by decide +kernel) rfl) rfl rfl rfl (ev_X10_likely (xs (i + nI 1).toNatClampNeg) (bz (xs (i + nI 2).toNatClampNeg)) R (v, R') e2) rfl rfl rfl (by decide) rfl rfl rfl (Nat.le_of_ble_eq_true rfl) (fun H2 locs2 P2 P S => ?_)
  refine W.lcmp hx hb (by decide +kernel) ?_
  refine lv_if_eq (tgt := 1997) (off := 885) hx hb (by decide +kernel) (by decide) (fun _ => ?_) (fun hne => absurd (by simp [lg_cmp]) hne)
  exact kk C' R' hr H2 locs2 ls P P2 S hl
theorem lc_25 {p : Program} {l : Launch} {e : Env} {s : State} {m : MethodId} {below : List Frame} {meth : Method} {c : Code} {b L : Nat} {xs : Nat → Int32} {cells slots : Nat} {Q : State → Prop} {D : va_G} {ac : Nat → ClassId} {adC adR : Nat → Nat} {i : Int32} {C R : eMem} (hL : LX p s m meth c b L xs cells slots D ac adC adR) (h : Rel C R) (hin : ∀ k, k < 6 → vp_in (i + nI k) L) (kk : ∀ C' R', Rel C' R' → LAt p l e s m below meth c b cells slots Q D ac adC adR 1997 i C' R') : LAt p l e s m below meth c b cells slots Q D ac adC adR 1117 i C R := by
  intro H locs ls P P2 S hl
  obtain ⟨⟨hx, hb, hml, hown, hts⟩, ⟨hX, hbl⟩, ⟨hc1, hc2⟩, KC, KR, ap, ap2⟩ := hL
  have l0 := lv_at hl 0 rfl
  have l1 := lv_at hl 1 rfl
  have l2 := lv_at hl 2 rfl
  have l3 := lv_at hl 3 rfl
  obtain ⟨v, C', R', e1, e2, hr⟩ := st_likeliest h (xs (i + nI 1).toNatClampNeg)
  refine lv_aload_n (k := 1) hx hb (by decide +kernel) rfl l1 ?_
  refine lRead (n := 1) (v := nI 1) hx hb hX hbl S l0 l3 (by decide +kernel) (by decide +kernel) (by decide +kernel) rfl (by decide +kernel) (by decide +kernel) (hin 1 (by decide)) ?_
  refine lCall (as := [.int (xs (i + nI 1).toNatClampNeg)]) (z := 0) (rv := .int v) (M' := C') (n := 1) (idx := 119) (mj := m_X9_likeliest) hx hb hml hown hts hc1 hc2 KC ap P P2 S hl.1 (by decide +kernel) ⟨eTb_t 738 (by decide +kernel) rfl, eTb_t 1 (by decide +kernel) rfl, ⟨by decide +kernel, by decide +kernel, by decide +kernel⟩, by decide +kernel, by decide⟩ (eTb_t 735 (by decide +kernel) rfl) (eTb_t 736 (by decide +kernel) rfl) (eTb_t 737 (by decide +kernel) rfl) rfl rfl rfl (ev_X9_likeliest (xs (i + nI 1).toNatClampNeg) C (v, C') e1) rfl rfl rfl (by decide) rfl rfl rfl (Nat.le_of_ble_eq_true rfl) (fun H1 locs1 P P2 S => ?_)
  refine lv_aload_n (k := 2) hx hb (by decide +kernel) rfl l2 ?_
  refine lRead (n := 1) (v := nI 1) hx hb hX hbl S l0 l3 (by decide +kernel) (by decide +kernel) (by decide +kernel) rfl (by decide +kernel) (by decide +kernel) (hin 1 (by decide)) ?_
  refine lCall (as := [.int (xs (i + nI 1).toNatClampNeg)]) (z := 0) (rv := .int v) (M' := R') (n := 1) (idx := 122) (mj := m_X10_likeliest) hx hb hml hown hts hc1 hc2 KR ap2 P2 P S hl.1 (by decide +kernel) ⟨eTb_t 1472 (by decide +kernel) rfl, eTb_t 11 (by decide +kernel) rfl, ⟨by decide +kernel, by decide +kernel, by decide +kernel⟩, by decide +kernel, by decide⟩ (eTb_t 1469 (by decide +kernel) rfl) (eTb_t 1470 (by decide +kernel) rfl) (eTb_t 1471 (by decide +kernel) rfl) rfl rfl rfl (ev_X10_likeliest (xs (i + nI 1).toNatClampNeg) R (v, R') e2) rfl rfl rfl (by decide) rfl rfl rfl (Nat.le_of_ble_eq_true rfl) (fun H2 locs2 P2 P S => ?_)
  refine lv_icmp_eq (tgt := 1997) (off := 862) hx hb (by decide +kernel) (by decide) (fun _ => ?_) (fun hne => absurd rfl hne)
  exact kk C' R' hr H2 locs2 ls P P2 S hl
theorem lc_26 {p : Program} {l : Launch} {e : Env} {s : State} {m : MethodId} {below : List Frame} {meth : Method} {c : Code} {b L : Nat} {xs : Nat → Int32} {cells slots : Nat} {Q : State → Prop} {D : va_G} {ac : Nat → ClassId} {adC adR : Nat → Nat} {i : Int32} {C R : eMem} (hL : LX p s m meth c b L xs cells slots D ac adC adR) (h : Rel C R) (hin : ∀ k, k < 6 → vp_in (i + nI k) L) (kk : ∀ C' R', Rel C' R' → LAt p l e s m below meth c b cells slots Q D ac adC adR 1997 i C' R') : LAt p l e s m below meth c b cells slots Q D ac adC adR 1140 i C R := by
  intro H locs ls P P2 S hl
  obtain ⟨⟨hx, hb, hml, hown, hts⟩, ⟨hX, hbl⟩, ⟨hc1, hc2⟩, KC, KR, ap, ap2⟩ := hL
  have l0 := lv_at hl 0 rfl
  have l1 := lv_at hl 1 rfl
  have l2 := lv_at hl 2 rfl
  have l3 := lv_at hl 3 rfl
  obtain ⟨v, C', R', e1, e2, hr⟩ := st_counted h (xs (i + nI 1).toNatClampNeg)
  refine lv_aload_n (k := 1) hx hb (by decide +kernel) rfl l1 ?_
  refine lRead (n := 1) (v := nI 1) hx hb hX hbl S l0 l3 (by decide +kernel) (by decide +kernel) (by decide +kernel) rfl (by decide +kernel) (by decide +kernel) (hin 1 (by decide)) ?_
  refine lCall (as := [.int (xs (i + nI 1).toNatClampNeg)]) (z := 0) (rv := .int v) (M' := C') (n := 1) (idx := 123) (mj := m_X9_counted) hx hb hml hown hts hc1 hc2 KC ap P P2 S hl.1 (by decide +kernel) ⟨eTb_t 746 (by decide +kernel) rfl, eTb_t 1 (by decide +kernel) rfl, ⟨by decide +kernel, by decide +kernel, by decide +kernel⟩, by decide +kernel, by decide⟩ (eTb_t 743 (by decide +kernel) rfl) (eTb_t 744 (by decide +kernel) rfl) (eTb_t 745 (by decide +kernel) rfl) rfl rfl rfl (ev_X9_counted (xs (i + nI 1).toNatClampNeg) C (v, C') e1) rfl rfl rfl (by decide) rfl rfl rfl (Nat.le_of_ble_eq_true rfl) (fun H1 locs1 P P2 S => ?_)
  refine lv_aload_n (k := 2) hx hb (by decide +kernel) rfl l2 ?_
  refine lRead (n := 1) (v := nI 1) hx hb hX hbl S l0 l3 (by decide +kernel) (by decide +kernel) (by decide +kernel) rfl (by decide +kernel) (by decide +kernel) (hin 1 (by decide)) ?_
  refine lCall (as := [.int (xs (i + nI 1).toNatClampNeg)]) (z := 0) (rv := .int v) (M' := R') (n := 1) (idx := 126) (mj := m_X10_counted) hx hb hml hown hts hc1 hc2 KR ap2 P2 P S hl.1 (by decide +kernel) ⟨eTb_t 1480 (by decide +kernel) rfl, eTb_t 11 (by decide +kernel) rfl, ⟨by decide +kernel, by decide +kernel, by decide +kernel⟩, by decide +kernel, by decide⟩ (eTb_t 1477 (by decide +kernel) rfl) (eTb_t 1478 (by decide +kernel) rfl) (eTb_t 1479 (by decide +kernel) rfl) rfl rfl rfl (ev_X10_counted (xs (i + nI 1).toNatClampNeg) R (v, R') e2) rfl rfl rfl (by decide) rfl rfl rfl (Nat.le_of_ble_eq_true rfl) (fun H2 locs2 P2 P S => ?_)
  refine lv_icmp_eq (tgt := 1997) (off := 839) hx hb (by decide +kernel) (by decide) (fun _ => ?_) (fun hne => absurd rfl hne)
  exact kk C' R' hr H2 locs2 ls P P2 S hl
theorem lc_27 {p : Program} {l : Launch} {e : Env} {s : State} {m : MethodId} {below : List Frame} {meth : Method} {c : Code} {b L : Nat} {xs : Nat → Int32} {cells slots : Nat} {Q : State → Prop} {D : va_G} {ac : Nat → ClassId} {adC adR : Nat → Nat} {i : Int32} {C R : eMem} (hL : LX p s m meth c b L xs cells slots D ac adC adR) (h : Rel C R) (hin : ∀ k, k < 6 → vp_in (i + nI k) L) (kk : ∀ C' R', Rel C' R' → LAt p l e s m below meth c b cells slots Q D ac adC adR 1997 i C' R') : LAt p l e s m below meth c b cells slots Q D ac adC adR 1163 i C R := by
  intro H locs ls P P2 S hl
  obtain ⟨⟨hx, hb, hml, hown, hts⟩, ⟨hX, hbl⟩, ⟨hc1, hc2⟩, KC, KR, ap, ap2⟩ := hL
  have l0 := lv_at hl 0 rfl
  have l1 := lv_at hl 1 rfl
  have l2 := lv_at hl 2 rfl
  have l3 := lv_at hl 3 rfl
  obtain ⟨v, C', R', e1, e2, hr⟩ := st_troops h (xs (i + nI 1).toNatClampNeg)
  refine lv_aload_n (k := 1) hx hb (by decide +kernel) rfl l1 ?_
  refine lRead (n := 1) (v := nI 1) hx hb hX hbl S l0 l3 (by decide +kernel) (by decide +kernel) (by decide +kernel) rfl (by decide +kernel) (by decide +kernel) (hin 1 (by decide)) ?_
  refine lCall (as := [.int (xs (i + nI 1).toNatClampNeg)]) (z := 1) (rv := .int v) (M' := C') (n := 1) (idx := 127) (mj := m_X9_troops) hx hb hml hown hts hc1 hc2 KC ap P P2 S hl.1 (by decide +kernel) ⟨eTb_t 750 (by decide +kernel) rfl, eTb_t 1 (by decide +kernel) rfl, ⟨by decide +kernel, by decide +kernel, by decide +kernel⟩, by decide +kernel, by decide⟩ (eTb_t 747 (by decide +kernel) rfl) (eTb_t 748 (by decide +kernel) rfl) (eTb_t 749 (by decide +kernel) rfl) rfl rfl rfl (ev_X9_troops (xs (i + nI 1).toNatClampNeg) C (v, C') e1) rfl rfl rfl (by decide) rfl rfl rfl (Nat.le_of_ble_eq_true rfl) (fun H1 locs1 P P2 S => ?_)
  refine lv_aload_n (k := 2) hx hb (by decide +kernel) rfl l2 ?_
  refine lRead (n := 1) (v := nI 1) hx hb hX hbl S l0 l3 (by decide +kernel) (by decide +kernel) (by decide +kernel) rfl (by decide +kernel) (by decide +kernel) (hin 1 (by decide)) ?_
  refine lCall (as := [.int (xs (i + nI 1).toNatClampNeg)]) (z := 1) (rv := .int v) (M' := R') (n := 1) (idx := 130) (mj := m_X10_troops) hx hb hml hown hts hc1 hc2 KR ap2 P2 P S hl.1 (by decide +kernel) ⟨eTb_t 1484 (by decide +kernel) rfl, eTb_t 11 (by decide +kernel) rfl, ⟨by decide +kernel, by decide +kernel, by decide +kernel⟩, by decide +kernel, by decide⟩ (eTb_t 1481 (by decide +kernel) rfl) (eTb_t 1482 (by decide +kernel) rfl) (eTb_t 1483 (by decide +kernel) rfl) rfl rfl rfl (ev_X10_troops (xs (i + nI 1).toNatClampNeg) R (v, R') e2) rfl rfl rfl (by decide) rfl rfl rfl (Nat.le_of_ble_eq_true rfl) (fun H2 locs2 P2 P S => ?_)
  refine lv_icmp_eq (tgt := 1997) (off := 816) hx hb (by decide +kernel) (by decide) (fun _ => ?_) (fun hne => absurd rfl hne)
  exact kk C' R' hr H2 locs2 ls P P2 S hl
