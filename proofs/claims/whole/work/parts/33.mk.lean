/-! the pieces of the relation, by given counters -/
theorem nR_of {s : Nat → Int32} {n : Nat} (h : s 7 = nI n) (hn : n < 2147483648) : nR s = n := by unfold nR; rw [h, cl hn]
theorem wRo_mk {V : Nat → Nat → Int32} {s : Nat → Int32} {n : Nat} (h : s 7 = nI n) (hn : n < 2147483648) (hk : ∀ k, k < n → V 4 k = s (110 + 3 * k) ∧ V 5 k = s (111 + 3 * k) ∧ V 6 k = s (112 + 3 * k)) : wRo V s := by
  intro k q
  rw [nR_of h hn] at q
  exact hk k q
theorem nU_of {s : Nat → Int32} {n : Nat} (h : s 8 = nI n) (hn : n < 2147483648) : nU s = n := by unfold nU; rw [h, cl hn]
theorem wUn_mk {V : Nat → Nat → Int32} {s : Nat → Int32} {n : Nat} (h : s 8 = nI n) (hn : n < 2147483648) (hk : ∀ k, k < n → V 7 k = s (230 + 5 * k) ∧ V 8 k = s (231 + 5 * k) ∧ V 9 k = s (232 + 5 * k) ∧ V 10 k = s (234 + 5 * k)) : wUn V s := by
  intro k q
  rw [nU_of h hn] at q
  exact hk k q
theorem nS_of {s : Nat → Int32} {n : Nat} (h : s 9 = nI n) (hn : n < 2147483648) : nS s = n := by unfold nS; rw [h, cl hn]
theorem wSh_mk {V : Nat → Nat → Int32} {s : Nat → Int32} {n : Nat} (h : s 9 = nI n) (hn : n < 2147483648) (hk : ∀ k, k < n → V 13 k = s (298 + 10 * k) ∧ V 14 k = s (299 + 10 * k) ∧ V 15 k = s (300 + 10 * k) ∧ V 16 k = s (301 + 10 * k) ∧ V 17 k = s (302 + 10 * k) ∧ V 18 k = s (303 + 10 * k) ∧ V 19 k = s (304 + 10 * k) ∧ V 20 k = s (305 + 10 * k) ∧ V 21 k = s (306 + 10 * k) ∧ V 22 k = s (307 + 10 * k)) : wSh V s := by
  intro k q
  rw [nS_of h hn] at q
  exact hk k q
theorem nP_of {s : Nat → Int32} {n : Nat} (h : s 10 = nI n) (hn : n < 2147483648) : nP s = n := by unfold nP; rw [h, cl hn]
theorem wRe_mk {V : Nat → Nat → Int32} {s : Nat → Int32} {n : Nat} (h : s 10 = nI n) (hn : n < 2147483648) (hk : ∀ k, k < n → V 30 k = s (498 + 7 * k) ∧ V 31 k = s (499 + 7 * k) ∧ V 32 k = s (500 + 7 * k) ∧ V 33 k = s (501 + 7 * k) ∧ V 34 k = s (502 + 7 * k) ∧ V 35 k = s (503 + 7 * k) ∧ V 36 k = s (504 + 7 * k)) : wRe V s := by
  intro k q
  rw [nP_of h hn] at q
  exact hk k q
theorem nF_of {s : Nat → Int32} {n : Nat} (h : s 12 = nI n) (hn : n < 2147483648) : nF s = n := by unfold nF; rw [h, cl hn]
theorem wFl_mk {V : Nat → Nat → Int32} {s : Nat → Int32} {n : Nat} (h : s 12 = nI n) (hn : n < 2147483648) (hk : ∀ k, k < n → V 24 k = s (1128 + 4 * k) ∧ V 25 k = s (1129 + 4 * k) ∧ V 26 k = s (1130 + 4 * k) ∧ V 27 k = s (1131 + 4 * k)) : wFl V s := by
  intro k q
  rw [nF_of h hn] at q
  exact hk k q
theorem nL_of {s : Nat → Int32} {n : Nat} (h : s 13 = nI n) (hn : n < 2147483648) : nL s = n := by unfold nL; rw [h, cl hn]
theorem wLi_mk {V : Nat → Nat → Int32} {s : Nat → Int32} {n : Nat} (h : s 13 = nI n) (hn : n < 2147483648) (hk : ∀ k, k < n → V 28 k = s (1248 + k)) : wLi V s := by
  intro k q
  rw [nL_of h hn] at q
  exact hk k q
theorem nT_of {s : Nat → Int32} {n : Nat} (h : s 11 = nI n) (hn : n < 2147483648) : nT s = n := by unfold nT; rw [h, cl hn]
theorem wTx_mk {V : Nat → Nat → Int32} {s : Nat → Int32} {n : Nat} (h : s 11 = nI n) (hn : n < 2147483648) (hk : ∀ k, k < n → V 41 k = s (1764 + 142 * k) ∧ V 42 k = s (1765 + 142 * k) ∧ V 43 k = s (1766 + 142 * k) ∧ V 44 k = s (1767 + 142 * k)) : wTx V s := by
  intro k q
  rw [nT_of h hn] at q
  exact hk k q
theorem hr_of {s : Nat → Int32} {n : Nat} (h : s 0 = nI n) (hn : n < 2147483648) : hr s = n := by unfold hr; rw [h, cl hn]
theorem iRo_mk {s : Nat → Int32} {n : Nat} (h : s 7 = nI n) (hn : n < 2147483648) (hk : ∀ k, k < n → ∃ h, 1 ≤ h ∧ h ≤ 30 ∧ s (112 + 3 * k) = nI h) : iRo s := by
  intro k q
  rw [nR_of h hn] at q
  exact hk k q
theorem iSh_mk {s : Nat → Int32} {n : Nat} (h : s 9 = nI n) (hn : n < 2147483648) (hk : ∀ k, k < n → (∃ x, x ≤ 6 ∧ s (298 + 10 * k) = nI x) ∧ (∃ x, x ≤ 3 ∧ s (299 + 10 * k) = nI x) ∧ (∃ x, x ≤ 23 ∧ s (301 + 10 * k) = nI x ∧ (x ≤ 11 ∨ s (298 + 10 * k) = 3)) ∧ (∃ x, x ≤ 99 ∧ s (302 + 10 * k) = nI x) ∧ (s (303 + 10 * k) = 0 ∨ s (303 + 10 * k) = 1) ∧ (s (305 + 10 * k) = 0 ∨ s (305 + 10 * k) = 1) ∧ (∃ x, x ≤ 90 ∧ s (306 + 10 * k) = nI x)) : iSh s := by
  intro k q
  rw [nS_of h hn] at q
  exact hk k q
theorem iFl_mk {s : Nat → Int32} {n : Nat} (h : s 12 = nI n) (hn : n < 2147483648) (hk : ∀ k, k < n → ∃ x, x ≤ 95 ∧ s (1129 + 4 * k) = nI x) : iFl s := by
  intro k q
  rw [nF_of h hn] at q
  exact hk k q
theorem iUn_mk {s : Nat → Int32} {n a : Nat} (h : s 8 = nI n) (hn : n < 2147483648) (h7 : s 7 = nI a) (ha : a < 2147483648) (hk : ∀ k, k < n → s (232 + 5 * k) = -1 ∨ ∃ r g, r < a ∧ 1 ≤ g ∧ g ≤ 30 ∧ s (232 + 5 * k) = nI r ∧ s (234 + 5 * k) = nI g ∧ s (233 + 5 * k) = (if s (110 + 3 * r) = s (230 + 5 * k) then s (111 + 3 * r) else s (110 + 3 * r))) : iUn s := by
  intro k q
  rw [nU_of h hn] at q
  rw [nR_of h7 ha]
  exact hk k q
theorem iRe_mk {s : Nat → Int32} {n a b : Nat} (h : s 10 = nI n) (hn : n < 2147483648) (h0 : s 0 = nI a) (ha : a < 2147483648) (h9 : s 9 = nI b) (hb : b < 2147483648) (hk : ∀ k, k < n → (∃ x, x ≤ 5 ∧ s (498 + 7 * k) = nI x) ∧ (∃ x, x ≤ 3 ∧ s (499 + 7 * k) = nI x) ∧ (s (500 + 7 * k) = 0 ∨ s (500 + 7 * k) = 1) ∧ (∃ x, x ≤ a ∧ s (501 + 7 * k) = nI x) ∧ (s (498 + 7 * k) = 2 ∨ s (498 + 7 * k) = 3 → ∃ x, x < b ∧ s (503 + 7 * k) = nI x ∧ ¬ s (298 + 10 * x) = 3) ∧ (s (504 + 7 * k) = 0 ∨ s (504 + 7 * k) = 1)) : iRe s := by
  intro k q
  rw [nP_of h hn] at q
  rw [hr_of h0 ha, nS_of h9 hb]
  exact hk k q
theorem eq_lit {k n : Nat} {m : Int32} (hm : m.toInt = n) (hk : k < 2147483648) : nI k = m ↔ k = n := by
  rw [← Int32.toInt_inj, nI_toInt hk, hm]
  omega
theorem isIn_y {k n : Nat} {m : Int32} (hm : m.toInt = n) (h : k < n) : F_X9_isIn (nI k) m = some 1 := by
  have hb : (n : Int) < 2147483648 := by rw [← hm]; exact m.toInt_lt
  rw [F_X9_isIn, if_neg (nI_pos (by omega)), if_pos ((lt_lit hm (by omega)).mpr h)]
theorem iSc_mk {s : Nat → Int32} {h f t a b c d e g i : Nat} (h0 : s 0 = nI h) (l0 : h ≤ 1943) (h5 : s 5 = nI f) (k5 : 1 ≤ f) (l5 : f ≤ 30) (h6 : s 6 = nI t) (l6 : t ≤ 900) (h7 : s 7 = nI a) (l7 : a ≤ 40) (h8 : s 8 = nI b) (l8 : b ≤ 12) (h9 : s 9 = nI c) (l9 : c ≤ 20) (h10 : s 10 = nI d) (l10 : d ≤ 90) (h11 : s 11 = nI e) (l11 : e ≤ 8) (h12 : s 12 = nI g) (l12 : g ≤ 30) (h13 : s 13 = nI i) (l13 : i ≤ 30) : iSc s := by
  unfold iSc hr nR nU nS nP nT nF nL
  rw [h0, h7, h8, h9, h10, h11, h12, h13, cl (by omega), cl (by omega), cl (by omega), cl (by omega), cl (by omega), cl (by omega), cl (by omega), cl (by omega)]
  exact ⟨⟨rfl, l0⟩, ⟨f, k5, l5, h5⟩, ⟨t, l6, h6⟩, ⟨rfl, l7⟩, ⟨rfl, l8⟩, ⟨rfl, l9⟩, ⟨rfl, l10⟩, ⟨rfl, l11⟩, ⟨rfl, l12⟩, ⟨rfl, l13⟩⟩
theorem eqN {a b : Nat} (ha : a < 2147483648) (hb : b < 2147483648) : nI a = nI b ↔ a = b := nI_eq ha hb
theorem Ladd_0 (k : Nat) : (0 : Int32) + nI k = nI (0 + k) := nI_add 0 k
theorem Rad_0 (k : Nat) : nI k + (0 : Int32) = nI (k + 0) := nI_add k 0
theorem Ladd_1 (k : Nat) : (1 : Int32) + nI k = nI (1 + k) := nI_add 1 k
theorem Rad_1 (k : Nat) : nI k + (1 : Int32) = nI (k + 1) := nI_add k 1
theorem Ladd_2 (k : Nat) : (2 : Int32) + nI k = nI (2 + k) := nI_add 2 k
theorem Rad_2 (k : Nat) : nI k + (2 : Int32) = nI (k + 2) := nI_add k 2
theorem Ladd_3 (k : Nat) : (3 : Int32) + nI k = nI (3 + k) := nI_add 3 k
theorem Rad_3 (k : Nat) : nI k + (3 : Int32) = nI (k + 3) := nI_add k 3
theorem Ladd_4 (k : Nat) : (4 : Int32) + nI k = nI (4 + k) := nI_add 4 k
theorem Rad_4 (k : Nat) : nI k + (4 : Int32) = nI (k + 4) := nI_add k 4
theorem Ladd_5 (k : Nat) : (5 : Int32) + nI k = nI (5 + k) := nI_add 5 k
theorem Rad_5 (k : Nat) : nI k + (5 : Int32) = nI (k + 5) := nI_add k 5
theorem Ladd_6 (k : Nat) : (6 : Int32) + nI k = nI (6 + k) := nI_add 6 k
theorem Rad_6 (k : Nat) : nI k + (6 : Int32) = nI (k + 6) := nI_add k 6
theorem Ladd_7 (k : Nat) : (7 : Int32) + nI k = nI (7 + k) := nI_add 7 k
theorem Rad_7 (k : Nat) : nI k + (7 : Int32) = nI (k + 7) := nI_add k 7
theorem Ladd_8 (k : Nat) : (8 : Int32) + nI k = nI (8 + k) := nI_add 8 k
theorem Rad_8 (k : Nat) : nI k + (8 : Int32) = nI (k + 8) := nI_add k 8
theorem Ladd_10 (k : Nat) : (10 : Int32) + nI k = nI (10 + k) := nI_add 10 k
theorem Rad_10 (k : Nat) : nI k + (10 : Int32) = nI (k + 10) := nI_add k 10
theorem Ladd_12 (k : Nat) : (12 : Int32) + nI k = nI (12 + k) := nI_add 12 k
theorem Rad_12 (k : Nat) : nI k + (12 : Int32) = nI (k + 12) := nI_add k 12
theorem Ladd_14 (k : Nat) : (14 : Int32) + nI k = nI (14 + k) := nI_add 14 k
theorem Rad_14 (k : Nat) : nI k + (14 : Int32) = nI (k + 14) := nI_add k 14
theorem Ladd_20 (k : Nat) : (20 : Int32) + nI k = nI (20 + k) := nI_add 20 k
theorem Rad_20 (k : Nat) : nI k + (20 : Int32) = nI (k + 20) := nI_add k 20
theorem Ladd_23 (k : Nat) : (23 : Int32) + nI k = nI (23 + k) := nI_add 23 k
theorem Rad_23 (k : Nat) : nI k + (23 : Int32) = nI (k + 23) := nI_add k 23
theorem Ladd_24 (k : Nat) : (24 : Int32) + nI k = nI (24 + k) := nI_add 24 k
theorem Rad_24 (k : Nat) : nI k + (24 : Int32) = nI (k + 24) := nI_add k 24
theorem Ladd_110 (k : Nat) : (110 : Int32) + nI k = nI (110 + k) := nI_add 110 k
theorem Rad_110 (k : Nat) : nI k + (110 : Int32) = nI (k + 110) := nI_add k 110
theorem Ladd_200 (k : Nat) : (200 : Int32) + nI k = nI (200 + k) := nI_add 200 k
theorem Rad_200 (k : Nat) : nI k + (200 : Int32) = nI (k + 200) := nI_add k 200
theorem Ladd_230 (k : Nat) : (230 : Int32) + nI k = nI (230 + k) := nI_add 230 k
theorem Rad_230 (k : Nat) : nI k + (230 : Int32) = nI (k + 230) := nI_add k 230
theorem Ladd_290 (k : Nat) : (290 : Int32) + nI k = nI (290 + k) := nI_add 290 k
theorem Rad_290 (k : Nat) : nI k + (290 : Int32) = nI (k + 290) := nI_add k 290
theorem Ladd_294 (k : Nat) : (294 : Int32) + nI k = nI (294 + k) := nI_add 294 k
theorem Rad_294 (k : Nat) : nI k + (294 : Int32) = nI (k + 294) := nI_add k 294
theorem Ladd_298 (k : Nat) : (298 : Int32) + nI k = nI (298 + k) := nI_add 298 k
theorem Rad_298 (k : Nat) : nI k + (298 : Int32) = nI (k + 298) := nI_add k 298
theorem Ladd_498 (k : Nat) : (498 : Int32) + nI k = nI (498 + k) := nI_add 498 k
theorem Rad_498 (k : Nat) : nI k + (498 : Int32) = nI (k + 498) := nI_add k 498
theorem Ladd_1128 (k : Nat) : (1128 : Int32) + nI k = nI (1128 + k) := nI_add 1128 k
theorem Rad_1128 (k : Nat) : nI k + (1128 : Int32) = nI (k + 1128) := nI_add k 1128
theorem Ladd_1248 (k : Nat) : (1248 : Int32) + nI k = nI (1248 + k) := nI_add 1248 k
theorem Rad_1248 (k : Nat) : nI k + (1248 : Int32) = nI (k + 1248) := nI_add k 1248
theorem Ladd_1278 (k : Nat) : (1278 : Int32) + nI k = nI (1278 + k) := nI_add 1278 k
theorem Rad_1278 (k : Nat) : nI k + (1278 : Int32) = nI (k + 1278) := nI_add k 1278
theorem Ladd_1764 (k : Nat) : (1764 : Int32) + nI k = nI (1764 + k) := nI_add 1764 k
theorem Rad_1764 (k : Nat) : nI k + (1764 : Int32) = nI (k + 1764) := nI_add k 1764
theorem Mul_2 (k : Nat) : (2 : Int32) * nI k = nI (2 * k) := nI_mul 2 k
theorem Mul_3 (k : Nat) : (3 : Int32) * nI k = nI (3 * k) := nI_mul 3 k
theorem Mul_4 (k : Nat) : (4 : Int32) * nI k = nI (4 * k) := nI_mul 4 k
theorem Mul_5 (k : Nat) : (5 : Int32) * nI k = nI (5 * k) := nI_mul 5 k
theorem Mul_6 (k : Nat) : (6 : Int32) * nI k = nI (6 * k) := nI_mul 6 k
theorem Mul_7 (k : Nat) : (7 : Int32) * nI k = nI (7 * k) := nI_mul 7 k
theorem Mul_10 (k : Nat) : (10 : Int32) * nI k = nI (10 * k) := nI_mul 10 k
theorem Mul_20 (k : Nat) : (20 : Int32) * nI k = nI (20 * k) := nI_mul 20 k
theorem Mul_23 (k : Nat) : (23 : Int32) * nI k = nI (23 * k) := nI_mul 23 k
theorem Mul_24 (k : Nat) : (24 : Int32) * nI k = nI (24 * k) := nI_mul 24 k
theorem Mul_142 (k : Nat) : (142 : Int32) * nI k = nI (142 * k) := nI_mul 142 k
theorem eG_tt {α : Type} (a : Option α) : eG true a = a := by cases a <;> rfl
theorem bS {α β : Type} (a : α) (f : α → Option β) : (some a).bind f = f a := by cases h : f a <;> exact h
