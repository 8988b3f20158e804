/-! THE RELATION of the class's world (V: place, index -> number) and the reference's row s. -/
def b2 (c : Prop) (w : Decidable c) : Int32 := if c then 1 else 0
def hr (s : Nat → Int32) : Nat := (s 0).toNatClampNeg
def nR (s : Nat → Int32) : Nat := (s 7).toNatClampNeg
def nU (s : Nat → Int32) : Nat := (s 8).toNatClampNeg
def nS (s : Nat → Int32) : Nat := (s 9).toNatClampNeg
def nP (s : Nat → Int32) : Nat := (s 10).toNatClampNeg
def nT (s : Nat → Int32) : Nat := (s 11).toNatClampNeg
def nF (s : Nat → Int32) : Nat := (s 12).toNatClampNeg
def nL (s : Nat → Int32) : Nat := (s 13).toNatClampNeg
def wSc (V : Nat → Nat → Int32) (s : Nat → Int32) : Prop := V 2 11 = s 0 ∧ V 2 12 = s 1 ∧ V 2 13 = s 2 ∧ V 2 14 = s 3 ∧ V 2 15 = s 4 ∧ V 29 8 = s 5 ∧ V 29 9 = s 6 ∧ V 2 4 = s 7 ∧ V 2 9 = s 8 ∧ V 12 10 = s 9 ∧ V 29 7 = s 10 ∧ V 40 4 = s 11 ∧ V 23 4 = s 12 ∧ V 23 6 = s 13
theorem wSc_cg {V V2 : Nat → Nat → Int32} {s s2 : Nat → Int32} (h : wSc V s) (h0 : V2 2 11 = V 2 11) (h1 : V2 2 12 = V 2 12) (h2 : V2 2 13 = V 2 13) (h3 : V2 2 14 = V 2 14) (h4 : V2 2 15 = V 2 15) (h5 : V2 29 8 = V 29 8) (h6 : V2 29 9 = V 29 9) (h7 : V2 2 4 = V 2 4) (h8 : V2 2 9 = V 2 9) (h9 : V2 12 10 = V 12 10) (h10 : V2 29 7 = V 29 7) (h11 : V2 40 4 = V 40 4) (h12 : V2 23 4 = V 23 4) (h13 : V2 23 6 = V 23 6) (hs : ∀ j, j < 14 → s2 j = s j) : wSc V2 s2 := by
  obtain ⟨a0, a1, a2, a3, a4, a5, a6, a7, a8, a9, a10, a11, a12, a13⟩ := h
  exact ⟨by rw [h0, hs 0 (by decide)]; exact a0, by rw [h1, hs 1 (by decide)]; exact a1, by rw [h2, hs 2 (by decide)]; exact a2, by rw [h3, hs 3 (by decide)]; exact a3, by rw [h4, hs 4 (by decide)]; exact a4, by rw [h5, hs 5 (by decide)]; exact a5, by rw [h6, hs 6 (by decide)]; exact a6, by rw [h7, hs 7 (by decide)]; exact a7, by rw [h8, hs 8 (by decide)]; exact a8, by rw [h9, hs 9 (by decide)]; exact a9, by rw [h10, hs 10 (by decide)]; exact a10, by rw [h11, hs 11 (by decide)]; exact a11, by rw [h12, hs 12 (by decide)]; exact a12, by rw [h13, hs 13 (by decide)]; exact a13⟩
def wGr (V : Nat → Nat → Int32) (s : Nat → Int32) : Prop := ∀ k, k < 96 → V 3 k = s (14 + k)
theorem wGr_cg {V V2 : Nat → Nat → Int32} {s s2 : Nat → Int32} (h : wGr V s) (h3 : ∀ k, k < 96 → V2 3 k = V 3 k) (hs : ∀ j, 14 ≤ j → j < 110 → s2 j = s j) : wGr V2 s2 := by
  intro k hk
  have a3 := h k hk
  rw [h3 k (by omega), hs (14 + k) (by omega) (by omega)]
  exact a3
def wRo (V : Nat → Nat → Int32) (s : Nat → Int32) : Prop := ∀ k, k < nR s → V 4 k = s (110 + 3 * k) ∧ V 5 k = s (111 + 3 * k) ∧ V 6 k = s (112 + 3 * k)
theorem wRo_cg {V V2 : Nat → Nat → Int32} {s s2 : Nat → Int32} (h : wRo V s) (h4 : ∀ k, k < 40 → V2 4 k = V 4 k) (h5 : ∀ k, k < 40 → V2 5 k = V 5 k) (h6 : ∀ k, k < 40 → V2 6 k = V 6 k) (hs : ∀ j, 110 ≤ j → j < 230 → s2 j = s j) (hc : nR s2 = nR s) (hm : nR s ≤ 40) : wRo V2 s2 := by
  intro k hk
  rw [hc] at hk
  obtain ⟨a4, a5, a6⟩ := h k hk
  exact ⟨by rw [h4 k (by omega), hs (110 + 3 * k) (by omega) (by omega)]; exact a4, by rw [h5 k (by omega), hs (111 + 3 * k) (by omega) (by omega)]; exact a5, by rw [h6 k (by omega), hs (112 + 3 * k) (by omega) (by omega)]; exact a6⟩
def wUn (V : Nat → Nat → Int32) (s : Nat → Int32) : Prop := ∀ k, k < nU s → V 7 k = s (230 + 5 * k) ∧ V 8 k = s (231 + 5 * k) ∧ V 9 k = s (232 + 5 * k) ∧ V 10 k = s (234 + 5 * k)
theorem wUn_cg {V V2 : Nat → Nat → Int32} {s s2 : Nat → Int32} (h : wUn V s) (h7 : ∀ k, k < 12 → V2 7 k = V 7 k) (h8 : ∀ k, k < 12 → V2 8 k = V 8 k) (h9 : ∀ k, k < 12 → V2 9 k = V 9 k) (h10 : ∀ k, k < 12 → V2 10 k = V 10 k) (hs : ∀ j, 230 ≤ j → j < 290 → s2 j = s j) (hc : nU s2 = nU s) (hm : nU s ≤ 12) : wUn V2 s2 := by
  intro k hk
  rw [hc] at hk
  obtain ⟨a7, a8, a9, a10⟩ := h k hk
  exact ⟨by rw [h7 k (by omega), hs (230 + 5 * k) (by omega) (by omega)]; exact a7, by rw [h8 k (by omega), hs (231 + 5 * k) (by omega) (by omega)]; exact a8, by rw [h9 k (by omega), hs (232 + 5 * k) (by omega) (by omega)]; exact a9, by rw [h10 k (by omega), hs (234 + 5 * k) (by omega) (by omega)]; exact a10⟩
def wPl (V : Nat → Nat → Int32) (s : Nat → Int32) : Prop := ∀ k, k < 4 → V 11 k = s (290 + k)
theorem wPl_cg {V V2 : Nat → Nat → Int32} {s s2 : Nat → Int32} (h : wPl V s) (h11 : ∀ k, k < 4 → V2 11 k = V 11 k) (hs : ∀ j, 290 ≤ j → j < 294 → s2 j = s j) : wPl V2 s2 := by
  intro k hk
  have a11 := h k hk
  rw [h11 k (by omega), hs (290 + k) (by omega) (by omega)]
  exact a11
def wHe (V : Nat → Nat → Int32) (s : Nat → Int32) : Prop := ∀ k, k < 4 → V 37 k = s (294 + k)
theorem wHe_cg {V V2 : Nat → Nat → Int32} {s s2 : Nat → Int32} (h : wHe V s) (h37 : ∀ k, k < 4 → V2 37 k = V 37 k) (hs : ∀ j, 294 ≤ j → j < 298 → s2 j = s j) : wHe V2 s2 := by
  intro k hk
  have a37 := h k hk
  rw [h37 k (by omega), hs (294 + k) (by omega) (by omega)]
  exact a37
def wSh (V : Nat → Nat → Int32) (s : Nat → Int32) : Prop := ∀ k, k < nS s → V 13 k = s (298 + 10 * k) ∧ V 14 k = s (299 + 10 * k) ∧ V 15 k = s (300 + 10 * k) ∧ V 16 k = s (301 + 10 * k) ∧ V 17 k = s (302 + 10 * k) ∧ V 18 k = s (303 + 10 * k) ∧ V 19 k = s (304 + 10 * k) ∧ V 20 k = s (305 + 10 * k) ∧ V 21 k = s (306 + 10 * k) ∧ V 22 k = s (307 + 10 * k)
theorem wSh_cg {V V2 : Nat → Nat → Int32} {s s2 : Nat → Int32} (h : wSh V s) (h13 : ∀ k, k < 20 → V2 13 k = V 13 k) (h14 : ∀ k, k < 20 → V2 14 k = V 14 k) (h15 : ∀ k, k < 20 → V2 15 k = V 15 k) (h16 : ∀ k, k < 20 → V2 16 k = V 16 k) (h17 : ∀ k, k < 20 → V2 17 k = V 17 k) (h18 : ∀ k, k < 20 → V2 18 k = V 18 k) (h19 : ∀ k, k < 20 → V2 19 k = V 19 k) (h20 : ∀ k, k < 20 → V2 20 k = V 20 k) (h21 : ∀ k, k < 20 → V2 21 k = V 21 k) (h22 : ∀ k, k < 20 → V2 22 k = V 22 k) (hs : ∀ j, 298 ≤ j → j < 498 → s2 j = s j) (hc : nS s2 = nS s) (hm : nS s ≤ 20) : wSh V2 s2 := by
  intro k hk
  rw [hc] at hk
  obtain ⟨a13, a14, a15, a16, a17, a18, a19, a20, a21, a22⟩ := h k hk
  exact ⟨by rw [h13 k (by omega), hs (298 + 10 * k) (by omega) (by omega)]; exact a13, by rw [h14 k (by omega), hs (299 + 10 * k) (by omega) (by omega)]; exact a14, by rw [h15 k (by omega), hs (300 + 10 * k) (by omega) (by omega)]; exact a15, by rw [h16 k (by omega), hs (301 + 10 * k) (by omega) (by omega)]; exact a16, by rw [h17 k (by omega), hs (302 + 10 * k) (by omega) (by omega)]; exact a17, by rw [h18 k (by omega), hs (303 + 10 * k) (by omega) (by omega)]; exact a18, by rw [h19 k (by omega), hs (304 + 10 * k) (by omega) (by omega)]; exact a19, by rw [h20 k (by omega), hs (305 + 10 * k) (by omega) (by omega)]; exact a20, by rw [h21 k (by omega), hs (306 + 10 * k) (by omega) (by omega)]; exact a21, by rw [h22 k (by omega), hs (307 + 10 * k) (by omega) (by omega)]; exact a22⟩
def wRe (V : Nat → Nat → Int32) (s : Nat → Int32) : Prop := ∀ k, k < nP s → V 30 k = s (498 + 7 * k) ∧ V 31 k = s (499 + 7 * k) ∧ V 32 k = s (500 + 7 * k) ∧ V 33 k = s (501 + 7 * k) ∧ V 34 k = s (502 + 7 * k) ∧ V 35 k = s (503 + 7 * k) ∧ V 36 k = s (504 + 7 * k)
theorem wRe_cg {V V2 : Nat → Nat → Int32} {s s2 : Nat → Int32} (h : wRe V s) (h30 : ∀ k, k < 90 → V2 30 k = V 30 k) (h31 : ∀ k, k < 90 → V2 31 k = V 31 k) (h32 : ∀ k, k < 90 → V2 32 k = V 32 k) (h33 : ∀ k, k < 90 → V2 33 k = V 33 k) (h34 : ∀ k, k < 90 → V2 34 k = V 34 k) (h35 : ∀ k, k < 90 → V2 35 k = V 35 k) (h36 : ∀ k, k < 90 → V2 36 k = V 36 k) (hs : ∀ j, 498 ≤ j → j < 1128 → s2 j = s j) (hc : nP s2 = nP s) (hm : nP s ≤ 90) : wRe V2 s2 := by
  intro k hk
  rw [hc] at hk
  obtain ⟨a30, a31, a32, a33, a34, a35, a36⟩ := h k hk
  exact ⟨by rw [h30 k (by omega), hs (498 + 7 * k) (by omega) (by omega)]; exact a30, by rw [h31 k (by omega), hs (499 + 7 * k) (by omega) (by omega)]; exact a31, by rw [h32 k (by omega), hs (500 + 7 * k) (by omega) (by omega)]; exact a32, by rw [h33 k (by omega), hs (501 + 7 * k) (by omega) (by omega)]; exact a33, by rw [h34 k (by omega), hs (502 + 7 * k) (by omega) (by omega)]; exact a34, by rw [h35 k (by omega), hs (503 + 7 * k) (by omega) (by omega)]; exact a35, by rw [h36 k (by omega), hs (504 + 7 * k) (by omega) (by omega)]; exact a36⟩
def wFl (V : Nat → Nat → Int32) (s : Nat → Int32) : Prop := ∀ k, k < nF s → V 24 k = s (1128 + 4 * k) ∧ V 25 k = s (1129 + 4 * k) ∧ V 26 k = s (1130 + 4 * k) ∧ V 27 k = s (1131 + 4 * k)
theorem wFl_cg {V V2 : Nat → Nat → Int32} {s s2 : Nat → Int32} (h : wFl V s) (h24 : ∀ k, k < 30 → V2 24 k = V 24 k) (h25 : ∀ k, k < 30 → V2 25 k = V 25 k) (h26 : ∀ k, k < 30 → V2 26 k = V 26 k) (h27 : ∀ k, k < 30 → V2 27 k = V 27 k) (hs : ∀ j, 1128 ≤ j → j < 1248 → s2 j = s j) (hc : nF s2 = nF s) (hm : nF s ≤ 30) : wFl V2 s2 := by
  intro k hk
  rw [hc] at hk
  obtain ⟨a24, a25, a26, a27⟩ := h k hk
  exact ⟨by rw [h24 k (by omega), hs (1128 + 4 * k) (by omega) (by omega)]; exact a24, by rw [h25 k (by omega), hs (1129 + 4 * k) (by omega) (by omega)]; exact a25, by rw [h26 k (by omega), hs (1130 + 4 * k) (by omega) (by omega)]; exact a26, by rw [h27 k (by omega), hs (1131 + 4 * k) (by omega) (by omega)]; exact a27⟩
def wLi (V : Nat → Nat → Int32) (s : Nat → Int32) : Prop := ∀ k, k < nL s → V 28 k = s (1248 + k)
theorem wLi_cg {V V2 : Nat → Nat → Int32} {s s2 : Nat → Int32} (h : wLi V s) (h28 : ∀ k, k < 30 → V2 28 k = V 28 k) (hs : ∀ j, 1248 ≤ j → j < 1278 → s2 j = s j) (hc : nL s2 = nL s) (hm : nL s ≤ 30) : wLi V2 s2 := by
  intro k hk
  rw [hc] at hk
  have a28 := h k hk
  rw [h28 k (by omega), hs (1248 + k) (by omega) (by omega)]
  exact a28
def wBo (V : Nat → Nat → Int32) (s : Nat → Int32) : Prop := ∀ k, k < 486 → V 53 k = s (1278 + k)
theorem wBo_cg {V V2 : Nat → Nat → Int32} {s s2 : Nat → Int32} (h : wBo V s) (h53 : ∀ k, k < 486 → V2 53 k = V 53 k) (hs : ∀ j, 1278 ≤ j → j < 1764 → s2 j = s j) : wBo V2 s2 := by
  intro k hk
  have a53 := h k hk
  rw [h53 k (by omega), hs (1278 + k) (by omega) (by omega)]
  exact a53
def wTx (V : Nat → Nat → Int32) (s : Nat → Int32) : Prop := ∀ k, k < nT s → V 41 k = s (1764 + 142 * k) ∧ V 42 k = s (1765 + 142 * k) ∧ V 43 k = s (1766 + 142 * k) ∧ V 44 k = s (1767 + 142 * k)
theorem wTx_cg {V V2 : Nat → Nat → Int32} {s s2 : Nat → Int32} (h : wTx V s) (h41 : ∀ k, k < 8 → V2 41 k = V 41 k) (h42 : ∀ k, k < 8 → V2 42 k = V 42 k) (h43 : ∀ k, k < 8 → V2 43 k = V 43 k) (h44 : ∀ k, k < 8 → V2 44 k = V 44 k) (hs : ∀ j, 1764 ≤ j → j < 2900 → s2 j = s j) (hc : nT s2 = nT s) (hm : nT s ≤ 8) : wTx V2 s2 := by
  intro k hk
  rw [hc] at hk
  obtain ⟨a41, a42, a43, a44⟩ := h k hk
  exact ⟨by rw [h41 k (by omega), hs (1764 + 142 * k) (by omega) (by omega)]; exact a41, by rw [h42 k (by omega), hs (1765 + 142 * k) (by omega) (by omega)]; exact a42, by rw [h43 k (by omega), hs (1766 + 142 * k) (by omega) (by omega)]; exact a43, by rw [h44 k (by omega), hs (1767 + 142 * k) (by omega) (by omega)]; exact a44⟩
/-- the clauses and tests of the texts -/
def sgn (x : Int32) (y : Int32) : Prop := (x = 0 ∧ y = 61) ∨ (x = 1 ∧ y = 60) ∨ (x = 2 ∧ y = 62)
def wTe (V : Nat → Nat → Int32) (s : Nat → Int32) (t c j : Nat) : Prop :=
  V 48 (4 * (10 * t + c) + j) = s (1771 + 142 * t + 23 * c + 5 * j) ∧ (∃ f, f ≤ 4 ∧ V 50 (4 * (10 * t + c) + j) = nI f ∧ s (1772 + 142 * t + 23 * c + 5 * j) = nI f) ∧
  sgn (V 51 (4 * (10 * t + c) + j)) (s (1773 + 142 * t + 23 * c + 5 * j)) ∧ V 52 (4 * (10 * t + c) + j) = s (1774 + 142 * t + 23 * c + 5 * j) ∧
  (s (1771 + 142 * t + 23 * c + 5 * j) = 0 ∨ s (1771 + 142 * t + 23 * c + 5 * j) = 1) ∧ (s (1775 + 142 * t + 23 * c + 5 * j) = 0 ∨ s (1775 + 142 * t + 23 * c + 5 * j) = 1) ∧
  (j = 0 → V 49 (4 * (10 * t + c) + j) = 0 ∧ s (1775 + 142 * t + 23 * c + 5 * j) = 1) ∧ (0 < j → V 49 (4 * (10 * t + c) + j) = s (1775 + 142 * t + 23 * c + 5 * j))
def wCl (V : Nat → Nat → Int32) (s : Nat → Int32) (t c : Nat) : Prop :=
  V 45 (10 * t + c) = s (1768 + 142 * t + 23 * c) ∧ V 46 (10 * t + c) = s (1769 + 142 * t + 23 * c) ∧ (∃ n, n ≤ 4 ∧ V 47 (10 * t + c) = nI n ∧ s (1770 + 142 * t + 23 * c) = nI n ∧ ∀ j, j < n → wTe V s t c j)
def wTc (V : Nat → Nat → Int32) (s : Nat → Int32) : Prop := ∀ t, t < nT s → ∃ n, n ≤ 6 ∧ s (1767 + 142 * t) = nI n ∧ ∀ c, c < n → wCl V s t c
theorem wTe_cg {V V2 : Nat → Nat → Int32} {s s2 : Nat → Int32} {t c j : Nat} (h : wTe V s t c j) (ht : t < 8) (hcc : c < 6) (hj : j < 4) (hV : ∀ p, 45 ≤ p → p ≤ 52 → ∀ i, i < 10 * t + c + 1 → ∀ x, x < 4 → V2 p (4 * (10 * t + c) + x) = V p (4 * (10 * t + c) + x)) (hs : ∀ i, 1764 + 142 * t ≤ i → i < 1764 + 142 * t + 142 → s2 i = s i) : wTe V2 s2 t c j := by
  unfold wTe at h ⊢
  rw [hV 48 (by omega) (by omega) 0 (by omega) j hj, hV 49 (by omega) (by omega) 0 (by omega) j hj, hV 50 (by omega) (by omega) 0 (by omega) j hj, hV 51 (by omega) (by omega) 0 (by omega) j hj, hV 52 (by omega) (by omega) 0 (by omega) j hj,
    hs (1771 + 142 * t + 23 * c + 5 * j) (by omega) (by omega), hs (1772 + 142 * t + 23 * c + 5 * j) (by omega) (by omega), hs (1773 + 142 * t + 23 * c + 5 * j) (by omega) (by omega), hs (1774 + 142 * t + 23 * c + 5 * j) (by omega) (by omega), hs (1775 + 142 * t + 23 * c + 5 * j) (by omega) (by omega)]
  exact h
theorem wCl_cg {V V2 : Nat → Nat → Int32} {s s2 : Nat → Int32} {t c : Nat} (h : wCl V s t c) (ht : t < 8) (hcc : c < 6) (hA : ∀ p, 45 ≤ p → p ≤ 47 → V2 p (10 * t + c) = V p (10 * t + c)) (hV : ∀ p, 48 ≤ p → p ≤ 52 → ∀ x, x < 4 → V2 p (4 * (10 * t + c) + x) = V p (4 * (10 * t + c) + x)) (hs : ∀ i, 1764 + 142 * t ≤ i → i < 1764 + 142 * t + 142 → s2 i = s i) : wCl V2 s2 t c := by
  obtain ⟨a1, a2, n, h1, h2, h3, h4⟩ := h
  refine ⟨?_, ?_, n, h1, ?_, ?_, fun j hj => ?_⟩
  · rw [hA 45 (by omega) (by omega), hs _ (by omega) (by omega)]; exact a1
  · rw [hA 46 (by omega) (by omega), hs _ (by omega) (by omega)]; exact a2
  · rw [hA 47 (by omega) (by omega)]; exact h2
  · rw [hs _ (by omega) (by omega)]; exact h3
  · have h := h4 j hj
    unfold wTe at h ⊢
    rw [hV 48 (by omega) (by omega) j (by omega), hV 49 (by omega) (by omega) j (by omega), hV 50 (by omega) (by omega) j (by omega), hV 51 (by omega) (by omega) j (by omega), hV 52 (by omega) (by omega) j (by omega),
      hs (1771 + 142 * t + 23 * c + 5 * j) (by omega) (by omega), hs (1772 + 142 * t + 23 * c + 5 * j) (by omega) (by omega), hs (1773 + 142 * t + 23 * c + 5 * j) (by omega) (by omega), hs (1774 + 142 * t + 23 * c + 5 * j) (by omega) (by omega), hs (1775 + 142 * t + 23 * c + 5 * j) (by omega) (by omega)]
    exact h
theorem wTc_cg {V V2 : Nat → Nat → Int32} {s s2 : Nat → Int32} (h : wTc V s) (hA : ∀ p, 45 ≤ p → p ≤ 47 → ∀ i, i < 80 → V2 p i = V p i) (hV : ∀ p, 48 ≤ p → p ≤ 52 → ∀ i, i < 320 → V2 p i = V p i) (hs : ∀ j, 1764 ≤ j → j < 2900 → s2 j = s j) (hc : nT s2 = nT s) (hm : nT s ≤ 8) : wTc V2 s2 := by
  intro t ht
  rw [hc] at ht
  obtain ⟨n, h1, h2, h3⟩ := h t ht
  refine ⟨n, h1, by rw [hs _ (by omega) (by omega)]; exact h2, fun c hcn => ?_⟩
  exact wCl_cg (h3 c hcn) (by omega) (by omega) (fun p p1 p2 => hA p p1 p2 _ (by omega)) (fun p p1 p2 x hx => hV p p1 p2 _ (by omega)) (fun i i1 i2 => hs i (by omega) (by omega))
/-- rows of booleans -/
def wZ (V : Nat → Nat → Int32) : Prop := (∀ i, i < 20 → V 18 i = 0 ∨ V 18 i = 1) ∧ (∀ i, i < 20 → V 20 i = 0 ∨ V 20 i = 1) ∧ (∀ i, i < 90 → V 32 i = 0 ∨ V 32 i = 1) ∧ (∀ i, i < 90 → V 36 i = 0 ∨ V 36 i = 1) ∧ (∀ i, i < 8 → V 43 i = 0 ∨ V 43 i = 1) ∧ (∀ i, i < 320 → V 48 i = 0 ∨ V 48 i = 1) ∧ (∀ i, i < 320 → V 49 i = 0 ∨ V 49 i = 1)
theorem wZ_cg {V V2 : Nat → Nat → Int32} (h : wZ V) (h18 : ∀ i, i < 20 → V2 18 i = V 18 i) (h20 : ∀ i, i < 20 → V2 20 i = V 20 i) (h32 : ∀ i, i < 90 → V2 32 i = V 32 i) (h36 : ∀ i, i < 90 → V2 36 i = V 36 i) (h43 : ∀ i, i < 8 → V2 43 i = V 43 i) (h48 : ∀ i, i < 320 → V2 48 i = V 48 i) (h49 : ∀ i, i < 320 → V2 49 i = V 49 i) : wZ V2 :=
  ⟨fun i hi => by rw [h18 i hi]; exact h.1 i hi, fun i hi => by rw [h20 i hi]; exact h.2.1 i hi, fun i hi => by rw [h32 i hi]; exact h.2.2.1 i hi, fun i hi => by rw [h36 i hi]; exact h.2.2.2.1 i hi, fun i hi => by rw [h43 i hi]; exact h.2.2.2.2.1 i hi, fun i hi => by rw [h48 i hi]; exact h.2.2.2.2.2.1 i hi, fun i hi => by rw [h49 i hi]; exact h.2.2.2.2.2.2 i hi⟩
/-! what holds of the reference's row itself -/
def iSc (s : Nat → Int32) : Prop := (s 0 = nI (hr s) ∧ hr s ≤ 1943) ∧ (∃ f, 1 ≤ f ∧ f ≤ 30 ∧ s 5 = nI f) ∧ (∃ t, t ≤ 900 ∧ s 6 = nI t) ∧ (s 7 = nI (nR s) ∧ nR s ≤ 40) ∧ (s 8 = nI (nU s) ∧ nU s ≤ 12) ∧ (s 9 = nI (nS s) ∧ nS s ≤ 20) ∧ (s 10 = nI (nP s) ∧ nP s ≤ 90) ∧ (s 11 = nI (nT s) ∧ nT s ≤ 8) ∧ (s 12 = nI (nF s) ∧ nF s ≤ 30) ∧ (s 13 = nI (nL s) ∧ nL s ≤ 30)
def iRo (s : Nat → Int32) : Prop := ∀ k, k < nR s → ∃ h, 1 ≤ h ∧ h ≤ 30 ∧ s (112 + 3 * k) = nI h
def iUn (s : Nat → Int32) : Prop := ∀ k, k < nU s → s (232 + 5 * k) = -1 ∨ ∃ r g, r < nR s ∧ 1 ≤ g ∧ g ≤ 30 ∧ s (232 + 5 * k) = nI r ∧ s (234 + 5 * k) = nI g ∧ s (233 + 5 * k) = (if s (110 + 3 * r) = s (230 + 5 * k) then s (111 + 3 * r) else s (110 + 3 * r))
def iSh (s : Nat → Int32) : Prop := ∀ k, k < nS s → (∃ x, x ≤ 6 ∧ s (298 + 10 * k) = nI x) ∧ (∃ x, x ≤ 3 ∧ s (299 + 10 * k) = nI x) ∧ (∃ x, x ≤ 23 ∧ s (301 + 10 * k) = nI x ∧ (x ≤ 11 ∨ s (298 + 10 * k) = 3)) ∧ (∃ x, x ≤ 99 ∧ s (302 + 10 * k) = nI x) ∧ (s (303 + 10 * k) = 0 ∨ s (303 + 10 * k) = 1) ∧ (s (305 + 10 * k) = 0 ∨ s (305 + 10 * k) = 1) ∧ (∃ x, x ≤ 90 ∧ s (306 + 10 * k) = nI x)
def iRe (s : Nat → Int32) : Prop := ∀ k, k < nP s → (∃ x, x ≤ 5 ∧ s (498 + 7 * k) = nI x) ∧ (∃ x, x ≤ 3 ∧ s (499 + 7 * k) = nI x) ∧ (s (500 + 7 * k) = 0 ∨ s (500 + 7 * k) = 1) ∧ (∃ x, x ≤ hr s ∧ s (501 + 7 * k) = nI x) ∧ (s (498 + 7 * k) = 2 ∨ s (498 + 7 * k) = 3 → ∃ x, x < nS s ∧ s (503 + 7 * k) = nI x ∧ ¬ s (298 + 10 * x) = 3) ∧ (s (504 + 7 * k) = 0 ∨ s (504 + 7 * k) = 1)
def iFl (s : Nat → Int32) : Prop := ∀ k, k < nF s → (∃ x, x ≤ 95 ∧ s (1129 + 4 * k) = nI x)
def Inv (s : Nat → Int32) : Prop := iSc s ∧ iRo s ∧ iUn s ∧ iSh s ∧ iRe s ∧ iFl s
theorem iSc_cg {s s2 : Nat → Int32} (h : iSc s) (hs : ∀ j, j < 14 → s2 j = s j) : iSc s2 := by
  unfold iSc hr nR nU nS nP nT nF nL at h ⊢
  rw [hs 0 (by decide), hs 5 (by decide), hs 6 (by decide), hs 7 (by decide), hs 8 (by decide), hs 9 (by decide), hs 10 (by decide), hs 11 (by decide), hs 12 (by decide), hs 13 (by decide)]
  exact h
theorem iRo_cg {s s2 : Nat → Int32} (h : iRo s) (hc : nR s2 = nR s) (hm : nR s ≤ 40) (hs : ∀ j, 110 ≤ j → j < 230 → s2 j = s j) : iRo s2 := by
  intro k hk
  rw [hc] at hk
  rw [hs _ (by omega) (by omega)]
  exact h k hk
theorem iUn_cg {s s2 : Nat → Int32} (h : iUn s) (hc : nU s2 = nU s) (hm : nU s ≤ 12) (hr1 : nR s ≤ nR s2) (hr2 : nR s ≤ 40) (hs : ∀ j, 230 ≤ j → j < 290 → s2 j = s j) (hq : ∀ k, k < nR s → s2 (110 + 3 * k) = s (110 + 3 * k) ∧ s2 (111 + 3 * k) = s (111 + 3 * k)) : iUn s2 := by
  intro k hk
  rw [hc] at hk
  rw [hs (232 + 5 * k) (by omega) (by omega), hs (234 + 5 * k) (by omega) (by omega), hs (233 + 5 * k) (by omega) (by omega), hs (230 + 5 * k) (by omega) (by omega)]
  rcases h k hk with h | ⟨r, g, h1, h2, h3, h4, h5, h6⟩
  · exact Or.inl h
  · exact Or.inr ⟨r, g, by omega, h2, h3, h4, h5, by rw [(hq r h1).1, (hq r h1).2]; exact h6⟩
theorem iSh_cg {s s2 : Nat → Int32} (h : iSh s) (hc : nS s2 = nS s) (hm : nS s ≤ 20) (hs : ∀ j, 298 ≤ j → j < 498 → s2 j = s j) : iSh s2 := by
  intro k hk
  rw [hc] at hk
  rw [hs (298 + 10 * k) (by omega) (by omega), hs (299 + 10 * k) (by omega) (by omega), hs (301 + 10 * k) (by omega) (by omega), hs (302 + 10 * k) (by omega) (by omega), hs (303 + 10 * k) (by omega) (by omega), hs (305 + 10 * k) (by omega) (by omega), hs (306 + 10 * k) (by omega) (by omega)]
  exact h k hk
theorem iRe_cg {s s2 : Nat → Int32} (h : iRe s) (hc : nP s2 = nP s) (hm : nP s ≤ 90) (h0 : hr s ≤ hr s2) (h9 : nS s ≤ nS s2) (hs : ∀ j, 498 ≤ j → j < 1128 → s2 j = s j) (hq : ∀ x, x < nS s → s2 (298 + 10 * x) = s (298 + 10 * x)) : iRe s2 := by
  intro k hk
  rw [hc] at hk
  rw [hs (498 + 7 * k) (by omega) (by omega), hs (499 + 7 * k) (by omega) (by omega), hs (500 + 7 * k) (by omega) (by omega), hs (501 + 7 * k) (by omega) (by omega), hs (503 + 7 * k) (by omega) (by omega), hs (504 + 7 * k) (by omega) (by omega)]
  obtain ⟨a1, a2, a3, ⟨x, a4, a5⟩, a6, a7⟩ := h k hk
  exact ⟨a1, a2, a3, ⟨x, by omega, a5⟩, fun q => by obtain ⟨y, y1, y2, y3⟩ := a6 q; exact ⟨y, by omega, y2, by rw [hq y y1]; exact y3⟩, a7⟩
theorem iFl_cg {s s2 : Nat → Int32} (h : iFl s) (hc : nF s2 = nF s) (hm : nF s ≤ 30) (hs : ∀ j, 1128 ≤ j → j < 1248 → s2 j = s j) : iFl s2 := by
  intro k hk
  rw [hc] at hk
  rw [hs (1129 + 4 * k) (by omega) (by omega)]
  exact h k hk
def RelW (V : Nat → Nat → Int32) (s : Nat → Int32) : Prop := wSc V s ∧ wGr V s ∧ wRo V s ∧ wUn V s ∧ wPl V s ∧ wHe V s ∧ wSh V s ∧ wRe V s ∧ wFl V s ∧ wLi V s ∧ wBo V s ∧ wTx V s ∧ wTc V s ∧ wZ V ∧ Inv s
/-- what the relation reads of the class: agreeing there is enough -/
def Agr (V V2 : Nat → Nat → Int32) : Prop := V2 2 11 = V 2 11 ∧ V2 2 12 = V 2 12 ∧ V2 2 13 = V 2 13 ∧ V2 2 14 = V 2 14 ∧ V2 2 15 = V 2 15 ∧ V2 29 8 = V 29 8 ∧ V2 29 9 = V 29 9 ∧ V2 2 4 = V 2 4 ∧ V2 2 9 = V 2 9 ∧ V2 12 10 = V 12 10 ∧ V2 29 7 = V 29 7 ∧ V2 40 4 = V 40 4 ∧ V2 23 4 = V 23 4 ∧ V2 23 6 = V 23 6 ∧ (∀ k, k < 96 → V2 3 k = V 3 k) ∧ (∀ k, k < 40 → V2 4 k = V 4 k) ∧ (∀ k, k < 40 → V2 5 k = V 5 k) ∧ (∀ k, k < 40 → V2 6 k = V 6 k) ∧ (∀ k, k < 12 → V2 7 k = V 7 k) ∧ (∀ k, k < 12 → V2 8 k = V 8 k) ∧ (∀ k, k < 12 → V2 9 k = V 9 k) ∧ (∀ k, k < 12 → V2 10 k = V 10 k) ∧ (∀ k, k < 4 → V2 11 k = V 11 k) ∧ (∀ k, k < 20 → V2 13 k = V 13 k) ∧ (∀ k, k < 20 → V2 14 k = V 14 k) ∧ (∀ k, k < 20 → V2 15 k = V 15 k) ∧ (∀ k, k < 20 → V2 16 k = V 16 k) ∧ (∀ k, k < 20 → V2 17 k = V 17 k) ∧ (∀ k, k < 20 → V2 18 k = V 18 k) ∧ (∀ k, k < 20 → V2 19 k = V 19 k) ∧ (∀ k, k < 20 → V2 20 k = V 20 k) ∧ (∀ k, k < 20 → V2 21 k = V 21 k) ∧ (∀ k, k < 20 → V2 22 k = V 22 k) ∧ (∀ k, k < 30 → V2 24 k = V 24 k) ∧ (∀ k, k < 30 → V2 25 k = V 25 k) ∧ (∀ k, k < 30 → V2 26 k = V 26 k) ∧ (∀ k, k < 30 → V2 27 k = V 27 k) ∧ (∀ k, k < 30 → V2 28 k = V 28 k) ∧ (∀ k, k < 90 → V2 30 k = V 30 k) ∧ (∀ k, k < 90 → V2 31 k = V 31 k) ∧ (∀ k, k < 90 → V2 32 k = V 32 k) ∧ (∀ k, k < 90 → V2 33 k = V 33 k) ∧ (∀ k, k < 90 → V2 34 k = V 34 k) ∧ (∀ k, k < 90 → V2 35 k = V 35 k) ∧ (∀ k, k < 90 → V2 36 k = V 36 k) ∧ (∀ k, k < 4 → V2 37 k = V 37 k) ∧ (∀ k, k < 8 → V2 41 k = V 41 k) ∧ (∀ k, k < 8 → V2 42 k = V 42 k) ∧ (∀ k, k < 8 → V2 43 k = V 43 k) ∧ (∀ k, k < 8 → V2 44 k = V 44 k) ∧ (∀ k, k < 80 → V2 45 k = V 45 k) ∧ (∀ k, k < 80 → V2 46 k = V 46 k) ∧ (∀ k, k < 80 → V2 47 k = V 47 k) ∧ (∀ k, k < 320 → V2 48 k = V 48 k) ∧ (∀ k, k < 320 → V2 49 k = V 49 k) ∧ (∀ k, k < 320 → V2 50 k = V 50 k) ∧ (∀ k, k < 320 → V2 51 k = V 51 k) ∧ (∀ k, k < 320 → V2 52 k = V 52 k) ∧ (∀ k, k < 486 → V2 53 k = V 53 k)
theorem RelW.agr {V V2 : Nat → Nat → Int32} {s s2 : Nat → Int32} (h : RelW V s) (ha : Agr V V2) (hs : ∀ j, j < 2900 → s2 j = s j) : RelW V2 s2 := by
  obtain ⟨c0, c1, c2, c3, c4, c5, c6, c7, c8, c9, c10, c11, c12, c13, p3, p4, p5, p6, p7, p8, p9, p10, p11, p13, p14, p15, p16, p17, p18, p19, p20, p21, p22, p24, p25, p26, p27, p28, p30, p31, p32, p33, p34, p35, p36, p37, p41, p42, p43, p44, p45, p46, p47, p48, p49, p50, p51, p52, p53⟩ := ha
  obtain ⟨wSc, wGr, wRo, wUn, wPl, wHe, wSh, wRe, wFl, wLi, wBo, wTx, wTc, wz, i1, i2, i3, i4, i5, i6⟩ := h
  have e0 : hr s2 = hr s := by unfold hr; rw [hs 0 (by decide)]
  have e7 : nR s2 = nR s := by unfold nR; rw [hs 7 (by decide)]
  have e8 : nU s2 = nU s := by unfold nU; rw [hs 8 (by decide)]
  have e9 : nS s2 = nS s := by unfold nS; rw [hs 9 (by decide)]
  have e10 : nP s2 = nP s := by unfold nP; rw [hs 10 (by decide)]
  have e11 : nT s2 = nT s := by unfold nT; rw [hs 11 (by decide)]
  have e12 : nF s2 = nF s := by unfold nF; rw [hs 12 (by decide)]
  have e13 : nL s2 = nL s := by unfold nL; rw [hs 13 (by decide)]
  obtain ⟨⟨z0, y0⟩, z5, z6, ⟨z7, y7⟩, ⟨z8, y8⟩, ⟨z9, y9⟩, ⟨z10, y10⟩, ⟨z11, y11⟩, ⟨z12, y12⟩, ⟨z13, y13⟩⟩ := id i1
  exact ⟨wSc_cg wSc c0 c1 c2 c3 c4 c5 c6 c7 c8 c9 c10 c11 c12 c13 (fun j hj => hs j (by omega)),
    wGr_cg wGr p3 (fun j _ hj => hs j (by omega)),
    wRo_cg wRo p4 p5 p6 (fun j _ hj => hs j (by omega)) e7 y7,
    wUn_cg wUn p7 p8 p9 p10 (fun j _ hj => hs j (by omega)) e8 y8,
    wPl_cg wPl p11 (fun j _ hj => hs j (by omega)),
    wHe_cg wHe p37 (fun j _ hj => hs j (by omega)),
    wSh_cg wSh p13 p14 p15 p16 p17 p18 p19 p20 p21 p22 (fun j _ hj => hs j (by omega)) e9 y9,
    wRe_cg wRe p30 p31 p32 p33 p34 p35 p36 (fun j _ hj => hs j (by omega)) e10 y10,
    wFl_cg wFl p24 p25 p26 p27 (fun j _ hj => hs j (by omega)) e12 y12,
    wLi_cg wLi p28 (fun j _ hj => hs j (by omega)) e13 y13,
    wBo_cg wBo p53 (fun j _ hj => hs j (by omega)),
    wTx_cg wTx p41 p42 p43 p44 (fun j _ hj => hs j (by omega)) e11 y11,
    wTc_cg wTc (fun p q1 q2 => by rcases (show p = 45 ∨ p = 46 ∨ p = 47 by omega) with rfl | rfl | rfl <;> assumption) (fun p q1 q2 => by rcases (show p = 48 ∨ p = 49 ∨ p = 50 ∨ p = 51 ∨ p = 52 by omega) with rfl | rfl | rfl | rfl | rfl <;> assumption) (fun j _ hj => hs j (by omega)) e11 y11,
    wZ_cg wz p18 p20 p32 p36 p43 p48 p49,
    iSc_cg i1 (fun j hj => hs j (by omega)),
    iRo_cg i2 e7 y7 (fun j _ hj => hs j (by omega)),
    iUn_cg i3 e8 y8 (by omega) y7 (fun j _ hj => hs j (by omega)) (fun k hk => ⟨hs _ (by omega), hs _ (by omega)⟩),
    iSh_cg i4 e9 y9 (fun j _ hj => hs j (by omega)),
    iRe_cg i5 e10 y10 (by omega) (by omega) (fun j _ hj => hs j (by omega)) (fun x hx => hs _ (by omega)),
    iFl_cg i6 e12 y12 (fun j _ hj => hs j (by omega))⟩
/-! the rest of an object -/
def rTape (C R : eMem) : Prop := ∃ n, n ≤ 120 ∧ C.1 145 1 = nI n ∧ R.1 0 3 = nI n ∧ ∀ i, i < n → ∃ b, b ≤ 255 ∧ C.1 146 i = nI b ∧ (R.1 3 i &&& 255) = nI b
def rShe (C R : eMem) : Prop := ∀ k, k < 4 → C.1 148 k = R.1 4 k ∧ C.1 149 k = R.1 5 k ∧ (R.1 4 k = 0 ∨ R.1 4 k = 8 ∨ R.1 4 k = 32) ∧ (∃ n, n ≤ 20 ∧ R.1 5 k = nI n) ∧ (∀ i, i < 20 → C.1 (151 + k) i = R.1 6 (20 * k + i)) ∧ (R.1 4 k = 8 → ∀ i, i < 20 → ¬ R.1 6 (20 * k + i) = 999)
def rFin (C R : eMem) : Prop := ∀ i, i < 7 → C.1 155 i = R.1 7 (i + 1)
def rKept (C R : eMem) : Prop := C.1 0 2 = R.1 0 2 ∧ (R.1 0 2 = 0 ∨ (R.1 0 2 = 1 ∧ RelW (fun p => C.1 (p + 72)) (R.1 2)))
def Rel (C R : eMem) : Prop := RelW C.1 (R.1 1) ∧ rKept C R ∧ rTape C R ∧ rShe C R ∧ rFin C R ∧ wZ (fun p => C.1 (p + 72))
def Step {α : Type} (a b : Option (α × eMem)) : Prop := ∃ v C R, a = some (v, C) ∧ b = some (v, R) ∧ Rel C R
