/-! NUMBERS, GUARDS, FINDINGS. -/
theorem eG_t {α : Type} (a : Option α) : eG true a = a := rfl
theorem eIn_s {k n : Nat} (h : k < n) (hn : n ≤ 2147483647) : eIn (nI k) n = true := eIn_nI h (by omega)
theorem cl {k : Nat} (h : k < 2147483648) : (nI k).toNatClampNeg = k := nI_clamp h
theorem la1 (c k : Nat) : (OfNat.ofNat c : Int32) + nI k = nI (OfNat.ofNat c + k) := nI_add c k
theorem la2 (c k : Nat) : nI k + (OfNat.ofNat c : Int32) = nI (k + OfNat.ofNat c) := nI_add k c
theorem nI_mul (a b : Nat) : nI a * nI b = nI (a * b) := (Int32.ofNat_mul a b).symm
theorem lm1 (c k : Nat) : (OfNat.ofNat c : Int32) * nI k = nI (OfNat.ofNat c * k) := nI_mul c k
theorem lit (c : Nat) : (OfNat.ofNat c : Int32) = nI (OfNat.ofNat c) := rfl
theorem nI_sub {a b : Nat} (h : b ≤ a) : nI a - nI b = nI (a - b) := by
  have e : nI a = nI (a - b) + nI b := by rw [nI_add, Nat.sub_add_cancel h]
  rw [e, Int32.add_sub_cancel]
theorem rdI (M : eMem) (p i q j : Nat) (v : Int32) : (eI M p i v).1 q j = if q = p then (if j = i then v else M.1 q j) else M.1 q j := by
  simp only [eI, eC, upd]
  split
  · next h => subst h; rfl
  · rfl
theorem rdI2 (M : eMem) (p i : Nat) (v : Int32) : (eI M p i v).2 = M.2 := rfl
theorem lt_nI {x : Int32} (h : ¬ x < 0) : ∃ k : Nat, k < 2147483648 ∧ x = nI k := nI_of h
theorem lt_lit {k n : Nat} {m : Int32} (hm : m.toInt = n) (hk : k < 2147483648) : nI k < m ↔ k < n := by
  rw [Int32.lt_iff_toInt_lt, nI_toInt hk, hm]
  omega
theorem gt_lit {k : Nat} {m : Int32} {n : Int} (hm : m.toInt = n) (hk : k < 2147483648) : m < nI k ↔ n < k := by
  rw [Int32.lt_iff_toInt_lt, nI_toInt hk, hm]
theorem rng (x m l : Int32) (n : Nat) (hm : m.toInt = n) (hl : l.toInt = (n : Int) - 1) : (∃ k, k < n ∧ x = nI k ∧ F_X9_isIn x m = some 1 ∧ F_X10_in x 0 l = some 1) ∨ (F_X9_isIn x m = some 0 ∧ F_X10_in x 0 l = some 0) := by
  have hb : (n : Int) < 2147483648 := by rw [← hm]; exact m.toInt_lt
  by_cases h0 : x < 0
  · exact Or.inr ⟨by rw [F_X9_isIn, if_pos h0], by rw [F_X10_in, if_pos h0]⟩
  · obtain ⟨k, hk, rfl⟩ := lt_nI h0
    by_cases hkn : k < n
    · refine Or.inl ⟨k, hkn, rfl, ?_, ?_⟩
      · rw [F_X9_isIn, if_neg h0, if_pos ((lt_lit hm hk).mpr hkn)]
      · rw [F_X10_in, if_neg h0, if_neg (fun q => by have := (gt_lit hl hk).mp q; omega)]
    · refine Or.inr ⟨?_, ?_⟩
      · rw [F_X9_isIn, if_neg h0, if_neg (fun q => hkn ((lt_lit hm hk).mp q))]
      · rw [F_X10_in, if_neg h0, if_pos ((gt_lit hl hk).mpr (by omega))]
theorem nI_m1 {n : Nat} (hn : n < 2147483648) : (nI n - 1).toInt = (n : Int) - 1 := by
  cases n with
  | zero => rfl
  | succ n => rw [nI_pred, nI_toInt (by omega)]; omega
/-- a counter -/
theorem rngN (x m : Int32) (n : Nat) (hm : m = nI n) (hn : n < 2147483648) : (∃ k, k < n ∧ x = nI k ∧ F_X9_isIn x m = some 1 ∧ F_X10_in x 0 (m - 1) = some 1) ∨ (F_X9_isIn x m = some 0 ∧ F_X10_in x 0 (m - 1) = some 0) := by
  subst hm
  exact rng x (nI n) (nI n - 1) n (nI_toInt hn) (nI_m1 hn)
theorem btw (x a b : Int32) : F_X9_isBetween x a b = F_X10_in x a b := rfl
theorem in01 (x a b : Int32) : (F_X10_in x a b = some 1 ∧ ¬ x < a ∧ ¬ b < x) ∨ F_X10_in x a b = some 0 := by
  unfold F_X10_in
  by_cases h1 : x < a
  · exact Or.inr (if_pos h1)
  · by_cases h2 : b < x
    · exact Or.inr (by rw [if_neg h1, if_pos h2])
    · exact Or.inl ⟨by rw [if_neg h1, if_neg h2], h1, h2⟩
/-- between two literals -/
theorem inL (x a b : Int32) (p q : Nat) (ha : a.toInt = p) (hb : b.toInt = q) : (∃ k, p ≤ k ∧ k ≤ q ∧ x = nI k ∧ F_X10_in x a b = some 1) ∨ F_X10_in x a b = some 0 := by
  rcases in01 x a b with ⟨h, h1, h2⟩ | h
  · have h0 : ¬ x < 0 := fun q => h1 (by
      rw [Int32.lt_iff_toInt_lt] at q ⊢
      have e : (0 : Int32).toInt = 0 := rfl
      omega)
    obtain ⟨k, hk, rfl⟩ := lt_nI h0
    refine Or.inl ⟨k, ?_, ?_, rfl, h⟩
    · rw [lt_lit ha hk] at h1; omega
    · rw [gt_lit hb hk] at h2; omega
  · exact Or.inr h
theorem boolw (x a b : Int32) : ((F_X10_in x a b).bind fun q1 => eG (decide (vp_nar .boolean q1 = q1)) <| some q1) = F_X10_in x a b := by
  rcases in01 x a b with ⟨h, -⟩ | h <;> rw [h] <;> rfl
theorem isCell_eq (x : Int32) : F_X10_isCell x = F_X10_in x 0 95 := boolw _ _ _
theorem isHour_eq (x : Int32) : F_X10_isHour x = F_X10_in x 0 1943 := boolw _ _ _
theorem isStory_eq (x : Int32) : F_X10_isStory x = F_X10_in x 0 3 := boolw _ _ _
theorem isSheet_eq (x : Int32) : F_X10_isSheet x = F_X10_in x 0 3 := boolw _ _ _
theorem isUnit_eq (x : Int32) (M : eMem) : F_X10_isUnit x M = F_X10_in x 0 (M.1 1 8 - 1) := boolw _ _ _
theorem isRoad_eq (x : Int32) (M : eMem) : F_X10_isRoad x M = F_X10_in x 0 (M.1 1 7 - 1) := boolw _ _ _
theorem isShow_eq (x : Int32) (M : eMem) : F_X10_isShow x M = F_X10_in x 0 (M.1 1 9 - 1) := boolw _ _ _
theorem isReport_eq (x : Int32) (M : eMem) : F_X10_isReport x M = F_X10_in x 0 (M.1 1 10 - 1) := boolw _ _ _
theorem has_eq (x : Int32) (M : eMem) : F_X5_has x M = F_X9_isIn x (M.1 12 10) := by
  have h : F_X9_isIn x (M.1 12 10) = some 0 ∨ F_X9_isIn x (M.1 12 10) = some 1 := by
    unfold F_X9_isIn
    split
    · exact Or.inl rfl
    · split
      · exact Or.inr rfl
      · exact Or.inl rfl
  unfold F_X5_has
  rcases h with h | h <;> rw [h] <;> rfl
theorem i10 : ((1 : Int32) = 0) = False := by decide
theorem i00 : ((0 : Int32) = 0) = True := by decide
theorem stepI {α : Type} {v w : α} {C R : eMem} (h : v = w) (hr : Rel C R) : Step (some (v, C)) (some (w, R)) := ⟨v, C, R, rfl, by rw [h], hr⟩

theorem show_0 (k : Nat) (M : eMem) (h : k < 20) : F_X10_show (nI k) 0 M = some (M.1 1 (298 + 10 * k)) := by
  unfold F_X10_show
  rw [show ((298 : Int32) + 10 * nI k) + 0 = nI (298 + 10 * k) by rw [lm1, la1, la2]; rfl, eIn_s (by omega) (by omega), eG_t, cl (by omega)]
theorem show_1 (k : Nat) (M : eMem) (h : k < 20) : F_X10_show (nI k) 1 M = some (M.1 1 (299 + 10 * k)) := by
  unfold F_X10_show
  rw [show ((298 : Int32) + 10 * nI k) + 1 = nI (299 + 10 * k) by rw [lm1, la1, la2]; congr 1; omega, eIn_s (by omega) (by omega), eG_t, cl (by omega)]
theorem show_2 (k : Nat) (M : eMem) (h : k < 20) : F_X10_show (nI k) 2 M = some (M.1 1 (300 + 10 * k)) := by
  unfold F_X10_show
  rw [show ((298 : Int32) + 10 * nI k) + 2 = nI (300 + 10 * k) by rw [lm1, la1, la2]; congr 1; omega, eIn_s (by omega) (by omega), eG_t, cl (by omega)]
theorem show_3 (k : Nat) (M : eMem) (h : k < 20) : F_X10_show (nI k) 3 M = some (M.1 1 (301 + 10 * k)) := by
  unfold F_X10_show
  rw [show ((298 : Int32) + 10 * nI k) + 3 = nI (301 + 10 * k) by rw [lm1, la1, la2]; congr 1; omega, eIn_s (by omega) (by omega), eG_t, cl (by omega)]
theorem show_4 (k : Nat) (M : eMem) (h : k < 20) : F_X10_show (nI k) 4 M = some (M.1 1 (302 + 10 * k)) := by
  unfold F_X10_show
  rw [show ((298 : Int32) + 10 * nI k) + 4 = nI (302 + 10 * k) by rw [lm1, la1, la2]; congr 1; omega, eIn_s (by omega) (by omega), eG_t, cl (by omega)]
theorem show_5 (k : Nat) (M : eMem) (h : k < 20) : F_X10_show (nI k) 5 M = some (M.1 1 (303 + 10 * k)) := by
  unfold F_X10_show
  rw [show ((298 : Int32) + 10 * nI k) + 5 = nI (303 + 10 * k) by rw [lm1, la1, la2]; congr 1; omega, eIn_s (by omega) (by omega), eG_t, cl (by omega)]
theorem show_6 (k : Nat) (M : eMem) (h : k < 20) : F_X10_show (nI k) 6 M = some (M.1 1 (304 + 10 * k)) := by
  unfold F_X10_show
  rw [show ((298 : Int32) + 10 * nI k) + 6 = nI (304 + 10 * k) by rw [lm1, la1, la2]; congr 1; omega, eIn_s (by omega) (by omega), eG_t, cl (by omega)]
theorem show_7 (k : Nat) (M : eMem) (h : k < 20) : F_X10_show (nI k) 7 M = some (M.1 1 (305 + 10 * k)) := by
  unfold F_X10_show
  rw [show ((298 : Int32) + 10 * nI k) + 7 = nI (305 + 10 * k) by rw [lm1, la1, la2]; congr 1; omega, eIn_s (by omega) (by omega), eG_t, cl (by omega)]
theorem show_8 (k : Nat) (M : eMem) (h : k < 20) : F_X10_show (nI k) 8 M = some (M.1 1 (306 + 10 * k)) := by
  unfold F_X10_show
  rw [show ((298 : Int32) + 10 * nI k) + 8 = nI (306 + 10 * k) by rw [lm1, la1, la2]; congr 1; omega, eIn_s (by omega) (by omega), eG_t, cl (by omega)]
theorem show_9 (k : Nat) (M : eMem) (h : k < 20) : F_X10_show (nI k) 9 M = some (M.1 1 (307 + 10 * k)) := by
  unfold F_X10_show
  rw [show ((298 : Int32) + 10 * nI k) + 9 = nI (307 + 10 * k) by rw [lm1, la1, la2]; congr 1; omega, eIn_s (by omega) (by omega), eG_t, cl (by omega)]
theorem rep_0 (k : Nat) (M : eMem) (h : k < 90) : F_X10_report1 (nI k) 0 M = some (M.1 1 (498 + 7 * k)) := by
  unfold F_X10_report1
  rw [show ((498 : Int32) + 7 * nI k) + 0 = nI (498 + 7 * k) by rw [lm1, la1, la2]; rfl, eIn_s (by omega) (by omega), eG_t, cl (by omega)]
theorem rep_1 (k : Nat) (M : eMem) (h : k < 90) : F_X10_report1 (nI k) 1 M = some (M.1 1 (499 + 7 * k)) := by
  unfold F_X10_report1
  rw [show ((498 : Int32) + 7 * nI k) + 1 = nI (499 + 7 * k) by rw [lm1, la1, la2]; congr 1; omega, eIn_s (by omega) (by omega), eG_t, cl (by omega)]
theorem rep_2 (k : Nat) (M : eMem) (h : k < 90) : F_X10_report1 (nI k) 2 M = some (M.1 1 (500 + 7 * k)) := by
  unfold F_X10_report1
  rw [show ((498 : Int32) + 7 * nI k) + 2 = nI (500 + 7 * k) by rw [lm1, la1, la2]; congr 1; omega, eIn_s (by omega) (by omega), eG_t, cl (by omega)]
theorem rep_3 (k : Nat) (M : eMem) (h : k < 90) : F_X10_report1 (nI k) 3 M = some (M.1 1 (501 + 7 * k)) := by
  unfold F_X10_report1
  rw [show ((498 : Int32) + 7 * nI k) + 3 = nI (501 + 7 * k) by rw [lm1, la1, la2]; congr 1; omega, eIn_s (by omega) (by omega), eG_t, cl (by omega)]
theorem rep_4 (k : Nat) (M : eMem) (h : k < 90) : F_X10_report1 (nI k) 4 M = some (M.1 1 (502 + 7 * k)) := by
  unfold F_X10_report1
  rw [show ((498 : Int32) + 7 * nI k) + 4 = nI (502 + 7 * k) by rw [lm1, la1, la2]; congr 1; omega, eIn_s (by omega) (by omega), eG_t, cl (by omega)]
theorem rep_5 (k : Nat) (M : eMem) (h : k < 90) : F_X10_report1 (nI k) 5 M = some (M.1 1 (503 + 7 * k)) := by
  unfold F_X10_report1
  rw [show ((498 : Int32) + 7 * nI k) + 5 = nI (503 + 7 * k) by rw [lm1, la1, la2]; congr 1; omega, eIn_s (by omega) (by omega), eG_t, cl (by omega)]
theorem rep_6 (k : Nat) (M : eMem) (h : k < 90) : F_X10_report1 (nI k) 6 M = some (M.1 1 (504 + 7 * k)) := by
  unfold F_X10_report1
  rw [show ((498 : Int32) + 7 * nI k) + 6 = nI (504 + 7 * k) by rw [lm1, la1, la2]; congr 1; omega, eIn_s (by omega) (by omega), eG_t, cl (by omega)]
theorem uat_0 (k : Nat) : F_X10_unitAt (nI k) 0 = some (nI (230 + 5 * k)) := by
  unfold F_X10_unitAt
  rw [show ((230 : Int32) + 5 * nI k) + 0 = nI (230 + 5 * k) by rw [lm1, la1, la2]; rfl]
theorem uat_1 (k : Nat) : F_X10_unitAt (nI k) 1 = some (nI (231 + 5 * k)) := by
  unfold F_X10_unitAt
  rw [show ((230 : Int32) + 5 * nI k) + 1 = nI (231 + 5 * k) by rw [lm1, la1, la2]; congr 1; omega]
theorem uat_2 (k : Nat) : F_X10_unitAt (nI k) 2 = some (nI (232 + 5 * k)) := by
  unfold F_X10_unitAt
  rw [show ((230 : Int32) + 5 * nI k) + 2 = nI (232 + 5 * k) by rw [lm1, la1, la2]; congr 1; omega]
theorem uat_3 (k : Nat) : F_X10_unitAt (nI k) 3 = some (nI (233 + 5 * k)) := by
  unfold F_X10_unitAt
  rw [show ((230 : Int32) + 5 * nI k) + 3 = nI (233 + 5 * k) by rw [lm1, la1, la2]; congr 1; omega]
theorem uat_4 (k : Nat) : F_X10_unitAt (nI k) 4 = some (nI (234 + 5 * k)) := by
  unfold F_X10_unitAt
  rw [show ((230 : Int32) + 5 * nI k) + 4 = nI (234 + 5 * k) by rw [lm1, la1, la2]; congr 1; omega]
theorem roa_0 (k : Nat) : F_X10_road (nI k) 0 = some (nI (110 + 3 * k)) := by
  unfold F_X10_road
  rw [show ((110 : Int32) + 3 * nI k) + 0 = nI (110 + 3 * k) by rw [lm1, la1, la2]; rfl]
theorem roa_1 (k : Nat) : F_X10_road (nI k) 1 = some (nI (111 + 3 * k)) := by
  unfold F_X10_road
  rw [show ((110 : Int32) + 3 * nI k) + 1 = nI (111 + 3 * k) by rw [lm1, la1, la2]; congr 1; omega]
theorem roa_2 (k : Nat) : F_X10_road (nI k) 2 = some (nI (112 + 3 * k)) := by
  unfold F_X10_road
  rw [show ((110 : Int32) + 3 * nI k) + 2 = nI (112 + 3 * k) by rw [lm1, la1, la2]; congr 1; omega]
theorem set_0 (k : Nat) (v : Int32) (M : eMem) (h : k < 20) : F_X10_setShow (nI k) 0 v M = some (eI M 1 (298 + 10 * k) v) := by
  unfold F_X10_setShow
  rw [show ((298 : Int32) + 10 * nI k) + 0 = nI (298 + 10 * k) by rw [lm1, la1, la2]; rfl, eIn_s (by omega) (by omega), eG_t, cl (by omega)]
theorem set_1 (k : Nat) (v : Int32) (M : eMem) (h : k < 20) : F_X10_setShow (nI k) 1 v M = some (eI M 1 (299 + 10 * k) v) := by
  unfold F_X10_setShow
  rw [show ((298 : Int32) + 10 * nI k) + 1 = nI (299 + 10 * k) by rw [lm1, la1, la2]; congr 1; omega, eIn_s (by omega) (by omega), eG_t, cl (by omega)]
theorem set_2 (k : Nat) (v : Int32) (M : eMem) (h : k < 20) : F_X10_setShow (nI k) 2 v M = some (eI M 1 (300 + 10 * k) v) := by
  unfold F_X10_setShow
  rw [show ((298 : Int32) + 10 * nI k) + 2 = nI (300 + 10 * k) by rw [lm1, la1, la2]; congr 1; omega, eIn_s (by omega) (by omega), eG_t, cl (by omega)]
theorem set_3 (k : Nat) (v : Int32) (M : eMem) (h : k < 20) : F_X10_setShow (nI k) 3 v M = some (eI M 1 (301 + 10 * k) v) := by
  unfold F_X10_setShow
  rw [show ((298 : Int32) + 10 * nI k) + 3 = nI (301 + 10 * k) by rw [lm1, la1, la2]; congr 1; omega, eIn_s (by omega) (by omega), eG_t, cl (by omega)]
theorem set_4 (k : Nat) (v : Int32) (M : eMem) (h : k < 20) : F_X10_setShow (nI k) 4 v M = some (eI M 1 (302 + 10 * k) v) := by
  unfold F_X10_setShow
  rw [show ((298 : Int32) + 10 * nI k) + 4 = nI (302 + 10 * k) by rw [lm1, la1, la2]; congr 1; omega, eIn_s (by omega) (by omega), eG_t, cl (by omega)]
theorem set_5 (k : Nat) (v : Int32) (M : eMem) (h : k < 20) : F_X10_setShow (nI k) 5 v M = some (eI M 1 (303 + 10 * k) v) := by
  unfold F_X10_setShow
  rw [show ((298 : Int32) + 10 * nI k) + 5 = nI (303 + 10 * k) by rw [lm1, la1, la2]; congr 1; omega, eIn_s (by omega) (by omega), eG_t, cl (by omega)]
theorem set_6 (k : Nat) (v : Int32) (M : eMem) (h : k < 20) : F_X10_setShow (nI k) 6 v M = some (eI M 1 (304 + 10 * k) v) := by
  unfold F_X10_setShow
  rw [show ((298 : Int32) + 10 * nI k) + 6 = nI (304 + 10 * k) by rw [lm1, la1, la2]; congr 1; omega, eIn_s (by omega) (by omega), eG_t, cl (by omega)]
theorem set_7 (k : Nat) (v : Int32) (M : eMem) (h : k < 20) : F_X10_setShow (nI k) 7 v M = some (eI M 1 (305 + 10 * k) v) := by
  unfold F_X10_setShow
  rw [show ((298 : Int32) + 10 * nI k) + 7 = nI (305 + 10 * k) by rw [lm1, la1, la2]; congr 1; omega, eIn_s (by omega) (by omega), eG_t, cl (by omega)]
theorem set_8 (k : Nat) (v : Int32) (M : eMem) (h : k < 20) : F_X10_setShow (nI k) 8 v M = some (eI M 1 (306 + 10 * k) v) := by
  unfold F_X10_setShow
  rw [show ((298 : Int32) + 10 * nI k) + 8 = nI (306 + 10 * k) by rw [lm1, la1, la2]; congr 1; omega, eIn_s (by omega) (by omega), eG_t, cl (by omega)]
theorem set_9 (k : Nat) (v : Int32) (M : eMem) (h : k < 20) : F_X10_setShow (nI k) 9 v M = some (eI M 1 (307 + 10 * k) v) := by
  unfold F_X10_setShow
  rw [show ((298 : Int32) + 10 * nI k) + 9 = nI (307 + 10 * k) by rw [lm1, la1, la2]; congr 1; omega, eIn_s (by omega) (by omega), eG_t, cl (by omega)]
theorem Rel.out {C C2 R R2 : eMem} (h : Rel C R) (hC : ∀ p, p ≠ 155 → C2.1 p = C.1 p) (hR : ∀ p, p ≠ 7 → R2.1 p = R.1 p) (hf : rFin C2 R2) : Rel C2 R2 := by
  obtain ⟨h1, ⟨h2, h3⟩, h4, h5, h6, h7⟩ := h
  have e : (fun p => C2.1 (p + 72)) = (fun p => C2.1 (p + 72)) := rfl
  have hk : Agr (fun p => C.1 (p + 72)) (fun p => C2.1 (p + 72)) := by
    simp only [Agr, hC _ (show (2 + 72 : Nat) ≠ 155 by decide)]
    simp [hC]
  refine ⟨h1.agr (by simp [Agr, hC]) (fun j _ => by rw [hR 1 (by decide)]), ⟨by rw [hC 0 (by decide), hR 0 (by decide)]; exact h2, ?_⟩, ?_, ?_, hf, wZ_cg h7 ?_ ?_ ?_ ?_ ?_ ?_ ?_⟩
  · rw [hR 0 (by decide)]
    rcases h3 with h3 | ⟨h3, h3'⟩
    · exact Or.inl h3
    · exact Or.inr ⟨h3, h3'.agr hk (fun j _ => by rw [hR 2 (by decide)])⟩
  · unfold rTape
    rw [hC 145 (by decide), hC 146 (by decide), hR 0 (by decide), hR 3 (by decide)]
    exact h4
  · intro k hk
    rw [hC 148 (by decide), hC 149 (by decide), hC (151 + k) (by omega), hR 4 (by decide), hR 5 (by decide), hR 6 (by decide)]
    exact h5 k hk
  all_goals (intro i _; rw [hC _ (by decide)])
theorem fnd {C R : eMem} (h : Rel C R) (c d : Int32) (i : Nat) (hi : i < 7) (h1 : (-1000001) - c = nI i) (h2 : d = nI (i + 1)) (h3 : (-1000000) - d = c) : ∃ C2 R2, F_X9_found c C = some (c, C2) ∧ F_X10_finding d R = some (c, R2) ∧ Rel C2 R2 := by
  have e1 : F_X9_isIn (nI i) 7 = some 1 := by
    rcases rng (nI i) 7 6 7 rfl rfl with ⟨k, hk, e, e1, e2⟩ | ⟨e1, e2⟩
    · exact e1
    · rw [F_X9_isIn, if_neg (nI_pos (by omega)), if_pos ((lt_lit (n := 7) rfl (by omega)).mpr hi)] at e1
      cases e1
  refine ⟨eI C 155 i (C.1 155 i + 1), eI R 7 (i + 1) (R.1 7 (i + 1) + 1), ?_, ?_, ?_⟩
  · unfold F_X9_found
    rw [h1, e1, Option.bind_some, if_neg (by decide), eIn_s hi (by omega), eG_t, eG_t, cl (by omega)]
  · unfold F_X10_finding
    rw [h3, h2, eIn_s (by omega) (by omega), eG_t, eG_t, cl (by omega)]
  · refine h.out (fun p hp => ?_) (fun p hp => ?_) ?_
    · simp [eI, eC, hp]
    · simp [eI, eC, hp]
    · intro j hj
      have hq := h.2.2.2.2.1 j hj
      rw [rdI, rdI, if_pos rfl, if_pos rfl, hq]
      by_cases e : j = i
      · subst e; rw [if_pos rfl, if_pos rfl, ← hq]
      · rw [if_neg e, if_neg (by omega)]
theorem fnd1 {C R : eMem} (h : Rel C R) : ∃ C2 R2, F_X9_found (-1000001) C = some ((-1000001), C2) ∧ F_X10_finding 1 R = some ((-1000001), R2) ∧ Rel C2 R2 := fnd h (-1000001) 1 0 (by decide) (by decide) (by decide) (by decide)
theorem stf1 {C R : eMem} (h : Rel C R) : Step ((F_X9_found (-1000001) C).bind fun q2 => some (q2.1, q2.2)) ((F_X10_finding 1 R).bind fun q2 => some (q2.1, q2.2)) := by
  obtain ⟨C2, R2, e1, e2, hr⟩ := fnd1 h
  exact ⟨_, C2, R2, by rw [e1]; rfl, by rw [e2]; rfl, hr⟩
theorem stfl1 {C R : eMem} (h : Rel C R) : Step ((F_X9_found (-1000001) C).bind fun q2 => some (q2.1.toInt64, q2.2)) ((F_X10_finding 1 R).bind fun q2 => some (q2.1.toInt64, q2.2)) := by
  obtain ⟨C2, R2, e1, e2, hr⟩ := fnd1 h
  exact ⟨_, C2, R2, by rw [e1]; rfl, by rw [e2]; rfl, hr⟩
theorem fnd2 {C R : eMem} (h : Rel C R) : ∃ C2 R2, F_X9_found (-1000002) C = some ((-1000002), C2) ∧ F_X10_finding 2 R = some ((-1000002), R2) ∧ Rel C2 R2 := fnd h (-1000002) 2 1 (by decide) (by decide) (by decide) (by decide)
theorem stf2 {C R : eMem} (h : Rel C R) : Step ((F_X9_found (-1000002) C).bind fun q2 => some (q2.1, q2.2)) ((F_X10_finding 2 R).bind fun q2 => some (q2.1, q2.2)) := by
  obtain ⟨C2, R2, e1, e2, hr⟩ := fnd2 h
  exact ⟨_, C2, R2, by rw [e1]; rfl, by rw [e2]; rfl, hr⟩
theorem stfl2 {C R : eMem} (h : Rel C R) : Step ((F_X9_found (-1000002) C).bind fun q2 => some (q2.1.toInt64, q2.2)) ((F_X10_finding 2 R).bind fun q2 => some (q2.1.toInt64, q2.2)) := by
  obtain ⟨C2, R2, e1, e2, hr⟩ := fnd2 h
  exact ⟨_, C2, R2, by rw [e1]; rfl, by rw [e2]; rfl, hr⟩
theorem fnd3 {C R : eMem} (h : Rel C R) : ∃ C2 R2, F_X9_found (-1000003) C = some ((-1000003), C2) ∧ F_X10_finding 3 R = some ((-1000003), R2) ∧ Rel C2 R2 := fnd h (-1000003) 3 2 (by decide) (by decide) (by decide) (by decide)
theorem stf3 {C R : eMem} (h : Rel C R) : Step ((F_X9_found (-1000003) C).bind fun q2 => some (q2.1, q2.2)) ((F_X10_finding 3 R).bind fun q2 => some (q2.1, q2.2)) := by
  obtain ⟨C2, R2, e1, e2, hr⟩ := fnd3 h
  exact ⟨_, C2, R2, by rw [e1]; rfl, by rw [e2]; rfl, hr⟩
theorem stfl3 {C R : eMem} (h : Rel C R) : Step ((F_X9_found (-1000003) C).bind fun q2 => some (q2.1.toInt64, q2.2)) ((F_X10_finding 3 R).bind fun q2 => some (q2.1.toInt64, q2.2)) := by
  obtain ⟨C2, R2, e1, e2, hr⟩ := fnd3 h
  exact ⟨_, C2, R2, by rw [e1]; rfl, by rw [e2]; rfl, hr⟩
theorem fnd4 {C R : eMem} (h : Rel C R) : ∃ C2 R2, F_X9_found (-1000004) C = some ((-1000004), C2) ∧ F_X10_finding 4 R = some ((-1000004), R2) ∧ Rel C2 R2 := fnd h (-1000004) 4 3 (by decide) (by decide) (by decide) (by decide)
theorem stf4 {C R : eMem} (h : Rel C R) : Step ((F_X9_found (-1000004) C).bind fun q2 => some (q2.1, q2.2)) ((F_X10_finding 4 R).bind fun q2 => some (q2.1, q2.2)) := by
  obtain ⟨C2, R2, e1, e2, hr⟩ := fnd4 h
  exact ⟨_, C2, R2, by rw [e1]; rfl, by rw [e2]; rfl, hr⟩
theorem stfl4 {C R : eMem} (h : Rel C R) : Step ((F_X9_found (-1000004) C).bind fun q2 => some (q2.1.toInt64, q2.2)) ((F_X10_finding 4 R).bind fun q2 => some (q2.1.toInt64, q2.2)) := by
  obtain ⟨C2, R2, e1, e2, hr⟩ := fnd4 h
  exact ⟨_, C2, R2, by rw [e1]; rfl, by rw [e2]; rfl, hr⟩
theorem fnd5 {C R : eMem} (h : Rel C R) : ∃ C2 R2, F_X9_found (-1000005) C = some ((-1000005), C2) ∧ F_X10_finding 5 R = some ((-1000005), R2) ∧ Rel C2 R2 := fnd h (-1000005) 5 4 (by decide) (by decide) (by decide) (by decide)
theorem stf5 {C R : eMem} (h : Rel C R) : Step ((F_X9_found (-1000005) C).bind fun q2 => some (q2.1, q2.2)) ((F_X10_finding 5 R).bind fun q2 => some (q2.1, q2.2)) := by
  obtain ⟨C2, R2, e1, e2, hr⟩ := fnd5 h
  exact ⟨_, C2, R2, by rw [e1]; rfl, by rw [e2]; rfl, hr⟩
theorem stfl5 {C R : eMem} (h : Rel C R) : Step ((F_X9_found (-1000005) C).bind fun q2 => some (q2.1.toInt64, q2.2)) ((F_X10_finding 5 R).bind fun q2 => some (q2.1.toInt64, q2.2)) := by
  obtain ⟨C2, R2, e1, e2, hr⟩ := fnd5 h
  exact ⟨_, C2, R2, by rw [e1]; rfl, by rw [e2]; rfl, hr⟩
theorem fnd6 {C R : eMem} (h : Rel C R) : ∃ C2 R2, F_X9_found (-1000006) C = some ((-1000006), C2) ∧ F_X10_finding 6 R = some ((-1000006), R2) ∧ Rel C2 R2 := fnd h (-1000006) 6 5 (by decide) (by decide) (by decide) (by decide)
theorem stf6 {C R : eMem} (h : Rel C R) : Step ((F_X9_found (-1000006) C).bind fun q2 => some (q2.1, q2.2)) ((F_X10_finding 6 R).bind fun q2 => some (q2.1, q2.2)) := by
  obtain ⟨C2, R2, e1, e2, hr⟩ := fnd6 h
  exact ⟨_, C2, R2, by rw [e1]; rfl, by rw [e2]; rfl, hr⟩
theorem stfl6 {C R : eMem} (h : Rel C R) : Step ((F_X9_found (-1000006) C).bind fun q2 => some (q2.1.toInt64, q2.2)) ((F_X10_finding 6 R).bind fun q2 => some (q2.1.toInt64, q2.2)) := by
  obtain ⟨C2, R2, e1, e2, hr⟩ := fnd6 h
  exact ⟨_, C2, R2, by rw [e1]; rfl, by rw [e2]; rfl, hr⟩
theorem fnd7 {C R : eMem} (h : Rel C R) : ∃ C2 R2, F_X9_found (-1000007) C = some ((-1000007), C2) ∧ F_X10_finding 7 R = some ((-1000007), R2) ∧ Rel C2 R2 := fnd h (-1000007) 7 6 (by decide) (by decide) (by decide) (by decide)
theorem stf7 {C R : eMem} (h : Rel C R) : Step ((F_X9_found (-1000007) C).bind fun q2 => some (q2.1, q2.2)) ((F_X10_finding 7 R).bind fun q2 => some (q2.1, q2.2)) := by
  obtain ⟨C2, R2, e1, e2, hr⟩ := fnd7 h
  exact ⟨_, C2, R2, by rw [e1]; rfl, by rw [e2]; rfl, hr⟩
theorem stfl7 {C R : eMem} (h : Rel C R) : Step ((F_X9_found (-1000007) C).bind fun q2 => some (q2.1.toInt64, q2.2)) ((F_X10_finding 7 R).bind fun q2 => some (q2.1.toInt64, q2.2)) := by
  obtain ⟨C2, R2, e1, e2, hr⟩ := fnd7 h
  exact ⟨_, C2, R2, by rw [e1]; rfl, by rw [e2]; rfl, hr⟩
