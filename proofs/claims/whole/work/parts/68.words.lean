/-! words on the tape -/
def fit (n : Nat) (B : Nat → Nat) : List Nat → Nat → Nat
  | [], _ => 0
  | c :: w, p => if p < n ∧ B p = c then fit n B w (p + 1) + 1 else 0
theorem fit_le (n : Nat) (B : Nat → Nat) : ∀ w p, p ≤ n → p + fit n B w p ≤ n := by
  intro w
  induction w with
  | nil => intro p hp; rw [fit]; omega
  | cons c w ih =>
    intro p hp
    rw [fit]
    split
    · next h => have := ih (p + 1) (by omega); omega
    · omega
theorem fit_len (n : Nat) (B : Nat → Nat) : ∀ w p, fit n B w p ≤ w.length := by
  intro w
  induction w with
  | nil => intro p; rw [fit]; omega
  | cons c w ih =>
    intro p
    rw [fit, List.length_cons]
    split
    · have := ih (p + 1); omega
    · omega
def clash : List Nat → List Nat → Bool
  | a :: w, b :: v => if a = b then clash w v else true
  | _, _ => false
theorem clash_fit (n : Nat) (B : Nat → Nat) : ∀ w v p, clash w v = true → fit n B w p = w.length → fit n B v p = v.length → False := by
  intro w
  induction w with
  | nil => intro v p h; simp [clash] at h
  | cons a w ih =>
    intro v p h h1 h2
    cases v with
    | nil => simp [clash] at h
    | cons b v =>
      rw [fit, List.length_cons] at h1 h2
      rw [clash] at h
      by_cases q1 : p < n ∧ B p = a
      · rw [if_pos q1] at h1
        by_cases q2 : p < n ∧ B p = b
        · rw [if_pos q2] at h2
          rw [if_pos (by omega)] at h
          exact ih v (p + 1) h (by omega) (by omega)
        · rw [if_neg q2] at h2; omega
      · rw [if_neg q1] at h1; omega
/-- the first of some words that fits -/
def fdw (n : Nat) (B : Nat → Nat) (p : Nat) : List (List Nat) → Option Nat
  | [] => none
  | w :: ws => if fit n B w p = w.length then some 0 else (fdw n B p ws).map (· + 1)
def far (n : Nat) (B : Nat → Nat) (p : Nat) : List (List Nat) → Nat → Nat
  | [], a => a
  | w :: ws, a => far n B p ws (max a (fit n B w p))
theorem far_le (n : Nat) (B : Nat → Nat) (p : Nat) (hp : p ≤ n) : ∀ ws a, p + a ≤ n → p + far n B p ws a ≤ n := by
  intro ws
  induction ws with
  | nil => intro a h; exact h
  | cons w ws ih =>
    intro a h
    rw [far]
    have := fit_le n B w p hp
    exact ih _ (by omega)
theorem fdw_lt (n : Nat) (B : Nat → Nat) (p : Nat) : ∀ ws i, fdw n B p ws = some i → i < ws.length ∧ fit n B (ws.getD i []) p = (ws.getD i []).length := by
  intro ws
  induction ws with
  | nil => intro i h; rw [fdw] at h; cases h
  | cons w ws ih =>
    intro i h
    rw [fdw] at h
    by_cases q : fit n B w p = w.length
    · rw [if_pos q] at h
      cases h
      exact ⟨by rw [List.length_cons]; omega, q⟩
    · rw [if_neg q] at h
      obtain ⟨j, h1, h2⟩ := Option.map_eq_some_iff.mp h
      obtain ⟨g1, g2⟩ := ih j h1
      subst h2
      exact ⟨by rw [List.length_cons]; omega, g2⟩
/-- the bytes of some words, a blank behind each -/
def flat : List (List Nat) → List Nat
  | [] => []
  | w :: ws => w ++ 32 :: flat ws
def spl (ch : Int32 → eMem → Option Int32) (s : Nat) (t : List Nat) : Prop := ∀ i, i < t.length → ∀ M, ch (nI (s + i)) M = some (nI (t.getD i 0))
theorem spl.l {ch : Int32 → eMem → Option Int32} {s : Nat} {a b : List Nat} (h : spl ch s (a ++ b)) : spl ch s a := by
  intro i hi M
  rw [h i (by rw [List.length_append]; omega) M]
  simp only [List.getD, List.getElem?_append_left hi]
theorem spl.r {ch : Int32 → eMem → Option Int32} {s : Nat} {a b : List Nat} (h : spl ch s (a ++ b)) : spl ch (s + a.length) b := by
  intro i hi M
  rw [show s + a.length + i = s + (a.length + i) by omega, h (a.length + i) (by rw [List.length_append]; omega) M]
  simp only [List.getD]
  rw [List.getElem?_append_right (by omega), show a.length + i - a.length = i by omega]
theorem spl.c {ch : Int32 → eMem → Option Int32} {s c : Nat} {w : List Nat} (h : spl ch s (c :: w)) : (∀ M, ch (nI s) M = some (nI c)) ∧ spl ch (s + 1) w := by
  refine ⟨fun M => h 0 (by rw [List.length_cons]; omega) M, fun i hi M => ?_⟩
  rw [show s + 1 + i = s + (i + 1) by omega]
  exact h (i + 1) (by rw [List.length_cons]; omega) M
/-! where both are on the tape -/
def TC (C : eMem) (n : Nat) (B : Nat → Nat) (p : Nat) : Prop := C.1 145 1 = nI n ∧ (∀ i, i < n → C.1 146 i = nI (B i)) ∧ C.1 145 2 = nI p
def TR (R : eMem) (n : Nat) (B : Nat → Nat) (p : Nat) : Prop := R.1 0 3 = nI n ∧ (∀ i, i < n → R.1 3 i &&& 255 = nI (B i)) ∧ R.1 0 17 = nI p ∧ R.1 0 18 = 0
def TB (n : Nat) (B : Nat → Nat) (p : Nat) : Prop := n ≤ 120 ∧ p ≤ n ∧ ∀ i, i < n → B i ≤ 255
/-! what may have changed -/
def fC (A : Nat → Nat → Prop) (C C2 : eMem) : Prop := (∀ q i, ¬ A q i → C2.1 q i = C.1 q i) ∧ ∀ q i, q = 48 ∨ q = 49 → C2.1 q i = C.1 q i ∨ C2.1 q i = 0 ∨ C2.1 q i = 1
def fR (A : Nat → Nat → Prop) (R R2 : eMem) : Prop := ∀ q i, ¬ A q i → R2.1 q i = R.1 q i
theorem fC.rf {A : Nat → Nat → Prop} {C : eMem} : fC A C C := ⟨fun _ _ _ => rfl, fun _ _ _ => Or.inl rfl⟩
theorem fR.rf {A : Nat → Nat → Prop} {C : eMem} : fR A C C := fun _ _ _ => rfl
theorem fC.tr {A : Nat → Nat → Prop} {C C1 C2 : eMem} (h : fC A C C1) (g : fC A C1 C2) : fC A C C2 := by
  refine ⟨fun q i ha => (g.1 q i ha).trans (h.1 q i ha), fun q i hq => ?_⟩
  rcases g.2 q i hq with e | e
  · rw [e]; exact h.2 q i hq
  · exact Or.inr e
theorem fR.tr {A : Nat → Nat → Prop} {C C1 C2 : eMem} (h : fR A C C1) (g : fR A C1 C2) : fR A C C2 := fun q i ha => (g q i ha).trans (h q i ha)
theorem fC.mo {A A' : Nat → Nat → Prop} {C C1 : eMem} (h : fC A C C1) (g : ∀ q i, A q i → A' q i) : fC A' C C1 := ⟨fun q i ha => h.1 q i (fun e => ha (g q i e)), h.2⟩
theorem fR.mo {A A' : Nat → Nat → Prop} {C C1 : eMem} (h : fR A C C1) (g : ∀ q i, A q i → A' q i) : fR A' C C1 := fun q i ha => h q i (fun e => ha (g q i e))
theorem fC.w {A : Nat → Nat → Prop} {C : eMem} {p i : Nat} {v : Int32} (h : A p i) (hv : p = 48 ∨ p = 49 → v = 0 ∨ v = 1) : fC A C (eI C p i v) := by
  refine ⟨fun q j ha => ?_, fun q j hq => ?_⟩
  · rw [rdI]
    by_cases e : q = p
    · subst e
      rw [if_pos rfl, if_neg (fun e => by subst e; exact ha h)]
    · rw [if_neg e]
  · rw [rdI]
    by_cases e : q = p
    · subst e
      rw [if_pos rfl]
      by_cases e2 : j = i
      · rw [if_pos e2]; exact Or.inr (hv hq)
      · rw [if_neg e2]; exact Or.inl rfl
    · rw [if_neg e]; exact Or.inl rfl
theorem fR.w {A : Nat → Nat → Prop} {C : eMem} {p i : Nat} {v : Int32} (h : A p i) : fR A C (eI C p i v) := by
  intro q j ha
  rw [rdI]
  by_cases e : q = p
  · subst e
    rw [if_pos rfl, if_neg (fun e => by subst e; exact ha h)]
  · rw [if_neg e]
def aP (q i : Nat) : Prop := q = 145 ∧ i = 2
def aQ (q i : Nat) : Prop := q = 0 ∧ (i = 17 ∨ i = 18)
theorem TC.go {C : eMem} {n p : Nat} {B : Nat → Nat} (h : TC C n B p) (q : Nat) : TC (eI C 145 2 (nI q)) n B q := ⟨by simp (disch := omega) only [eIq_ne, eIq_eq, upd_ne, upd_eq]; exact h.1, fun i hi => by simp (disch := omega) only [eIq_ne, eIq_eq, upd_ne, upd_eq]; exact h.2.1 i hi, by simp (disch := omega) only [eIq_ne, eIq_eq, upd_ne, upd_eq]⟩
theorem TR.go {R : eMem} {n p : Nat} {B : Nat → Nat} (h : TR R n B p) (q : Nat) : TR (eI R 0 17 (nI q)) n B q := ⟨by simp (disch := omega) only [eIq_ne, eIq_eq, upd_ne, upd_eq]; exact h.1, fun i hi => by simp (disch := omega) only [eIq_ne, eIq_eq, upd_ne, upd_eq]; exact h.2.1 i hi, by simp (disch := omega) only [eIq_ne, eIq_eq, upd_ne, upd_eq], by simp (disch := omega) only [eIq_ne, eIq_eq, upd_ne, upd_eq]; exact h.2.2.2⟩
theorem TC.fr {C C2 : eMem} {n p : Nat} {B : Nat → Nat} (h : TC C n B p) (h1 : C2.1 145 = C.1 145) (h2 : C2.1 146 = C.1 146) : TC C2 n B p := by unfold TC; rw [h1, h2]; exact h
theorem TR.fr {R R2 : eMem} {n p : Nat} {B : Nat → Nat} (h : TR R n B p) (h1 : R2.1 0 = R.1 0) (h2 : R2.1 3 = R.1 3) : TR R2 n B p := by unfold TR; rw [h1, h2]; exact h
theorem byteAt_eq {R : eMem} {n p : Nat} {B : Nat → Nat} (h : TR R n B p) (hb : n ≤ 120) {k : Nat} (hk : k < 1000) : F_X10_byteAt (nI k) R = some (if k < n then nI (B k) else -1) := by
  unfold F_X10_byteAt
  rw [h.1]
  by_cases q : k < n
  · rw [if_pos (nI_lt q (by omega)), if_pos q, eIn_s (by omega) (by omega), cl (by omega), h.2.1 k q, eG_tt]
  · rw [if_neg (nI_nlt (by omega) (by omega)), if_neg q]
theorem byte_c {n k c : Nat} {B : Nat → Nat} (hb : ∀ i, i < n → B i ≤ 255) (hc : c ≤ 255) : (if k < n then nI (B k) else (-1 : Int32)) = nI c ↔ k < n ∧ B k = c := by
  by_cases q : k < n
  · rw [if_pos q]
    have := hb k q
    rw [eqN (by omega) (by omega)]
    exact ⟨fun e => ⟨q, e⟩, fun e => e.2⟩
  · rw [if_neg q]
    refine ⟨fun e => ?_, fun e => absurd e.1 q⟩
    have := nI_pos (n := c) (by omega)
    rw [← e] at this
    exact absurd (by decide) this
/-! the class's loops over the letters of its words, for any row of letters -/
def gfit (ch : Int32 → eMem → Option Int32) : Nat → eMem → Int32 → Int32 → Int32 → Option Int32
  | 0, _, _, _, _ => none
  | n + 1, M, v2, v3, v4 =>
    if (v2 + v4) < v3 then
      if ((M.1 145 2) + v4) < (M.1 145 1) then
        eG (eIn ((M.1 145 2) + v4) 120) <|
        (ch (v2 + v4) M).bind fun q1 =>
        if (M.1 146 ((M.1 145 2) + v4).toNatClampNeg) = q1 then
          gfit ch n M v2 v3 (v4 + 1)
        else
          some v4
      else
        some v4
    else
      some v4
def gch (ch : Int32 → eMem → Option Int32) (L : Int32) : Nat → Int32 → Int32 → Int32 → Int32 → eMem → Option (Int32 × eMem)
  | 0, _, _, _, _, _ => none
  | n + 1, v2, v3, v4, v5, M =>
    if v5 < L then
      (ch v5 M).bind fun q2 =>
      if q2 = 32 then
        (gfit ch eFuel M v4 v5 0).bind fun q3 =>
        if q3 = (v5 - v4) then
          some (v3, (eI M 145 2 ((M.1 145 2) + q3)))
        else
          gch ch L n (eMax v2 q3) (v3 + 1) (v5 + 1) (v5 + 1) M
      else
        gch ch L n v2 v3 v4 (v5 + 1) M
    else
      some ((-1), (eI M 145 2 ((M.1 145 2) + v2)))
/-! the words -/
def wV : List (List Nat) := [[109, 117, 115, 116], [109, 97, 121], [98, 97, 114]]
def wK : List (List Nat) := [[115, 104, 111, 119], [100, 117, 109, 109, 121], [99, 97, 109, 112], [110, 101, 116], [118, 111, 105, 99, 101], [112, 97, 112, 101, 114], [113, 117, 105, 101, 116]]
def wI : List (List Nat) := [[105, 102]]
def wF : List (List Nat) := [[100, 97, 121], [104, 111, 117, 114], [104, 97, 110, 100, 115], [115, 116, 111, 114, 121], [99, 101, 108, 108]]
def wS : List (List Nat) := [[61], [60], [62]]
def wA : List (List Nat) := [[109, 117, 115, 116], [109, 97, 121], [98, 97, 114], [115, 104, 111, 119], [100, 117, 109, 109, 121], [99, 97, 109, 112], [110, 101, 116], [118, 111, 105, 99, 101], [112, 97, 112, 101, 114], [113, 117, 105, 101, 116], [100, 97, 121], [104, 111, 117, 114], [104, 97, 110, 100, 115], [115, 116, 111, 114, 121], [99, 101, 108, 108], [105, 102]]
theorem gfit_v1 : ∀ n M a b c, F_X6_fitOf_3 n M a b c = gfit F_J0_charAt_5068e n M a b c := by
  intro n
  induction n with
  | zero => intro M a b c; rfl
  | succ n ih => intro M a b c; rw [F_X6_fitOf_3, gfit]; simp only [ih]
theorem gch_v1 : ∀ n a b c d M, F_X6_choose_10 n a b c d M = gch F_J0_charAt_5068e 13 n a b c d M := by
  intro n
  induction n with
  | zero => intro a b c d M; rfl
  | succ n ih =>
    intro a b c d M
    rw [F_X6_choose_10, gch, show F_J0_length_8abf5 = some 13 by decide]
    unfold F_X6_fitOf
    simp only [ih, bS, gfit_v1]
theorem gfit_v2 : ∀ n M a b c, F_X6_fitOf_v2_3 n M a b c = gfit F_J0_charAt_5068e_v2 n M a b c := by
  intro n
  induction n with
  | zero => intro M a b c; rfl
  | succ n ih => intro M a b c; rw [F_X6_fitOf_v2_3, gfit]; simp only [ih]
theorem gch_v2 : ∀ n a b c d M, F_X6_choose_v2_10 n a b c d M = gch F_J0_charAt_5068e_v2 38 n a b c d M := by
  intro n
  induction n with
  | zero => intro a b c d M; rfl
  | succ n ih =>
    intro a b c d M
    rw [F_X6_choose_v2_10, gch, show F_J0_length_8abf5_v2 = some 38 by decide]
    unfold F_X6_fitOf_v2
    simp only [ih, bS, gfit_v2]
theorem gfit_v3 : ∀ n M a b c, F_X6_fitOf_v3_3 n M a b c = gfit F_J0_charAt_5068e_v3 n M a b c := by
  intro n
  induction n with
  | zero => intro M a b c; rfl
  | succ n ih => intro M a b c; rw [F_X6_fitOf_v3_3, gfit]; simp only [ih]
theorem gch_v3 : ∀ n a b c d M, F_X6_choose_v3_10 n a b c d M = gch F_J0_charAt_5068e_v3 3 n a b c d M := by
  intro n
  induction n with
  | zero => intro a b c d M; rfl
  | succ n ih =>
    intro a b c d M
    rw [F_X6_choose_v3_10, gch, show F_J0_length_8abf5_v3 = some 3 by decide]
    unfold F_X6_fitOf_v3
    simp only [ih, bS, gfit_v3]
theorem gfit_v4 : ∀ n M a b c, F_X6_fitOf_v4_3 n M a b c = gfit F_J0_charAt_5068e_v4 n M a b c := by
  intro n
  induction n with
  | zero => intro M a b c; rfl
  | succ n ih => intro M a b c; rw [F_X6_fitOf_v4_3, gfit]; simp only [ih]
theorem gch_v4 : ∀ n a b c d M, F_X6_choose_v4_10 n a b c d M = gch F_J0_charAt_5068e_v4 26 n a b c d M := by
  intro n
  induction n with
  | zero => intro a b c d M; rfl
  | succ n ih =>
    intro a b c d M
    rw [F_X6_choose_v4_10, gch, show F_J0_length_8abf5_v4 = some 26 by decide]
    unfold F_X6_fitOf_v4
    simp only [ih, bS, gfit_v4]
theorem gfit_v5 : ∀ n M a b c, F_X6_fitOf_v5_3 n M a b c = gfit F_J0_charAt_5068e_v5 n M a b c := by
  intro n
  induction n with
  | zero => intro M a b c; rfl
  | succ n ih => intro M a b c; rw [F_X6_fitOf_v5_3, gfit]; simp only [ih]
theorem gch_v5 : ∀ n a b c d M, F_X6_choose_v5_10 n a b c d M = gch F_J0_charAt_5068e_v5 6 n a b c d M := by
  intro n
  induction n with
  | zero => intro a b c d M; rfl
  | succ n ih =>
    intro a b c d M
    rw [F_X6_choose_v5_10, gch, show F_J0_length_8abf5_v5 = some 6 by decide]
    unfold F_X6_fitOf_v5
    simp only [ih, bS, gfit_v5]
theorem spl_v1 : spl F_J0_charAt_5068e 0 (flat wV) := by
  intro i hi M
  have hi2 : i < 13 := hi
  have h : ∀ i, i < 13 → (vp_nar .char ((((eSB.getD 0 []).getD i 0) &&& 255).toUInt32 % 65536).toInt32 = ((((eSB.getD 0 []).getD i 0) &&& 255).toUInt32 % 65536).toInt32) ∧ ((((eSB.getD 0 []).getD i 0) &&& 255).toUInt32 % 65536).toInt32 = nI ((flat wV).getD i 0) := by decide +kernel
  obtain ⟨h1, h2⟩ := h i hi2
  unfold F_J0_charAt_5068e F_J1_charAt_3b067 F_J0_isLatin1_aae02 F_J0_checkIndex_df160
  rw [Nat.zero_add, if_neg (nI_pos (by omega)), if_pos ((lt_lit (n := 13) rfl (by omega)).mpr hi2), eIn_s hi2 (by omega), cl (by omega)]
  simp only [bS, i10, ↓reduceIte, eG_tt, h1, decide_true]
  rw [h2]
theorem spl_v2 : spl F_J0_charAt_5068e_v2 0 (flat wK) := by
  intro i hi M
  have hi2 : i < 38 := hi
  have h : ∀ i, i < 38 → (vp_nar .char ((((eSB.getD 1 []).getD i 0) &&& 255).toUInt32 % 65536).toInt32 = ((((eSB.getD 1 []).getD i 0) &&& 255).toUInt32 % 65536).toInt32) ∧ ((((eSB.getD 1 []).getD i 0) &&& 255).toUInt32 % 65536).toInt32 = nI ((flat wK).getD i 0) := by decide +kernel
  obtain ⟨h1, h2⟩ := h i hi2
  unfold F_J0_charAt_5068e_v2 F_J1_charAt_3b067_v2 F_J0_isLatin1_aae02_v2 F_J0_checkIndex_df160
  rw [Nat.zero_add, if_neg (nI_pos (by omega)), if_pos ((lt_lit (n := 38) rfl (by omega)).mpr hi2), eIn_s hi2 (by omega), cl (by omega)]
  simp only [bS, i10, ↓reduceIte, eG_tt, h1, decide_true]
  rw [h2]
theorem spl_v3 : spl F_J0_charAt_5068e_v3 0 (flat wI) := by
  intro i hi M
  have hi2 : i < 3 := hi
  have h : ∀ i, i < 3 → (vp_nar .char ((((eSB.getD 2 []).getD i 0) &&& 255).toUInt32 % 65536).toInt32 = ((((eSB.getD 2 []).getD i 0) &&& 255).toUInt32 % 65536).toInt32) ∧ ((((eSB.getD 2 []).getD i 0) &&& 255).toUInt32 % 65536).toInt32 = nI ((flat wI).getD i 0) := by decide +kernel
  obtain ⟨h1, h2⟩ := h i hi2
  unfold F_J0_charAt_5068e_v3 F_J1_charAt_3b067_v3 F_J0_isLatin1_aae02_v3 F_J0_checkIndex_df160
  rw [Nat.zero_add, if_neg (nI_pos (by omega)), if_pos ((lt_lit (n := 3) rfl (by omega)).mpr hi2), eIn_s hi2 (by omega), cl (by omega)]
  simp only [bS, i10, ↓reduceIte, eG_tt, h1, decide_true]
  rw [h2]
theorem spl_v4 : spl F_J0_charAt_5068e_v4 0 (flat wF) := by
  intro i hi M
  have hi2 : i < 26 := hi
  have h : ∀ i, i < 26 → (vp_nar .char ((((eSB.getD 3 []).getD i 0) &&& 255).toUInt32 % 65536).toInt32 = ((((eSB.getD 3 []).getD i 0) &&& 255).toUInt32 % 65536).toInt32) ∧ ((((eSB.getD 3 []).getD i 0) &&& 255).toUInt32 % 65536).toInt32 = nI ((flat wF).getD i 0) := by decide +kernel
  obtain ⟨h1, h2⟩ := h i hi2
  unfold F_J0_charAt_5068e_v4 F_J1_charAt_3b067_v4 F_J0_isLatin1_aae02_v4 F_J0_checkIndex_df160
  rw [Nat.zero_add, if_neg (nI_pos (by omega)), if_pos ((lt_lit (n := 26) rfl (by omega)).mpr hi2), eIn_s hi2 (by omega), cl (by omega)]
  simp only [bS, i10, ↓reduceIte, eG_tt, h1, decide_true]
  rw [h2]
theorem spl_v5 : spl F_J0_charAt_5068e_v5 0 (flat wS) := by
  intro i hi M
  have hi2 : i < 6 := hi
  have h : ∀ i, i < 6 → (vp_nar .char ((((eSB.getD 4 []).getD i 0) &&& 255).toUInt32 % 65536).toInt32 = ((((eSB.getD 4 []).getD i 0) &&& 255).toUInt32 % 65536).toInt32) ∧ ((((eSB.getD 4 []).getD i 0) &&& 255).toUInt32 % 65536).toInt32 = nI ((flat wS).getD i 0) := by decide +kernel
  obtain ⟨h1, h2⟩ := h i hi2
  unfold F_J0_charAt_5068e_v5 F_J1_charAt_3b067_v5 F_J0_isLatin1_aae02_v5 F_J0_checkIndex_df160
  rw [Nat.zero_add, if_neg (nI_pos (by omega)), if_pos ((lt_lit (n := 6) rfl (by omega)).mpr hi2), eIn_s hi2 (by omega), cl (by omega)]
  simp only [bS, i10, ↓reduceIte, eG_tt, h1, decide_true]
  rw [h2]
theorem spl_v6 : spl F_J0_charAt_5068e_v6 0 (flat wA) := by
  intro i hi M
  have hi2 : i < 80 := hi
  have h : ∀ i, i < 80 → (vp_nar .char ((((eSB.getD 5 []).getD i 0) &&& 255).toUInt32 % 65536).toInt32 = ((((eSB.getD 5 []).getD i 0) &&& 255).toUInt32 % 65536).toInt32) ∧ ((((eSB.getD 5 []).getD i 0) &&& 255).toUInt32 % 65536).toInt32 = nI ((flat wA).getD i 0) := by decide +kernel
  obtain ⟨h1, h2⟩ := h i hi2
  unfold F_J0_charAt_5068e_v6 F_J1_charAt_3b067_v6 F_J0_isLatin1_aae02_v6 F_J0_checkIndex_df160
  rw [Nat.zero_add, if_neg (nI_pos (by omega)), if_pos ((lt_lit (n := 80) rfl (by omega)).mpr hi2), eIn_s hi2 (by omega), cl (by omega)]
  simp only [bS, i10, ↓reduceIte, eG_tt, h1, decide_true]
  rw [h2]
theorem gfit_w {ch : Int32 → eMem → Option Int32} {C : eMem} {n p : Nat} {B : Nat → Nat} (hT : TC C n B p) (hB : TB n B p) (s : Nat) (hs : s < 1000) : ∀ w j, j + w.length < 1000 → (∀ c, c ∈ w → c ≤ 255) → spl ch (s + j) w → ∀ f, w.length < f → gfit ch f C (nI s) (nI (s + j + w.length)) (nI j) = some (nI (j + fit n B w (p + j))) := by
  obtain ⟨t1, t2, t3⟩ := hT
  obtain ⟨b1, b2, b3⟩ := hB
  intro w
  induction w with
  | nil =>
    intro j hj _ _ f hf
    obtain ⟨f, rfl⟩ : ∃ x, f = x + 1 := ⟨f - 1, by omega⟩
    rw [List.length_nil] at hj ⊢
    rw [gfit, nI_add, if_neg (nI_nlt (by omega) (by omega)), fit]
    rfl
  | cons c w ih =>
    intro j hj hc hw f hf
    obtain ⟨f, rfl⟩ : ∃ x, f = x + 1 := ⟨f - 1, by omega⟩
    obtain ⟨w1, w2⟩ := hw.c
    rw [List.length_cons] at hj hf ⊢
    rw [gfit, nI_add, if_pos (nI_lt (by omega) (by omega)), t1, t3, nI_add, fit]
    have hc1 := hc c List.mem_cons_self
    by_cases q : p + j < n
    · rw [if_pos (nI_lt q (by omega)), eIn_s (by omega) (by omega), cl (by omega), t2 _ q, w1]
      simp only [eG_tt, bS]
      have hb := b3 _ q
      by_cases e : B (p + j) = c
      · rw [if_pos ((eqN (by omega) (by omega)).mpr e), if_pos ⟨q, e⟩, Rad_1]
        have := ih (j + 1) (by omega) (fun c hc2 => hc c (List.mem_cons_of_mem _ hc2)) (by rw [← Nat.add_assoc]; exact w2) f (by omega)
        rw [show s + j + (w.length + 1) = s + (j + 1) + w.length by omega, this, show p + (j + 1) = p + j + 1 by omega, show j + 1 + fit n B w (p + j + 1) = j + (fit n B w (p + j + 1) + 1) by omega]
      · rw [if_neg (fun x => e ((eqN (by omega) (by omega)).mp x)), if_neg (fun x => e x.2)]
        rfl
    · rw [if_neg (nI_nlt (by omega) (by omega)), if_neg (fun x => q x.1)]
      rfl
/-- on to the blank behind a word -/
theorem gch_skip {ch : Int32 → eMem → Option Int32} {C : eMem} {L : Nat} (hL : L < 1000) (a b d : Int32) (s : Nat) : ∀ w j, s + j + w.length < L → (∀ c, c ∈ w → 33 ≤ c ∧ c ≤ 255) → spl ch (s + j) w → ∀ f, gch ch (nI L) (f + w.length) a b d (nI (s + j)) C = gch ch (nI L) f a b d (nI (s + j + w.length)) C := by
  intro w
  induction w with
  | nil => intro j hj _ _ f; rfl
  | cons c w ih =>
    intro j hj hc hw f
    obtain ⟨w1, w2⟩ := hw.c
    rw [List.length_cons] at hj ⊢
    have hc1 := hc c List.mem_cons_self
    rw [show f + (w.length + 1) = f + w.length + 1 by omega, gch, if_pos (nI_lt (by omega) (by omega)), w1]
    simp only [bS]
    rw [if_neg (fun e => by have := (eq_lit (n := 32) rfl (by omega)).mp e; omega), Rad_1]
    have := ih (j + 1) (by omega) (fun c hc2 => hc c (List.mem_cons_of_mem _ hc2)) (by rw [← Nat.add_assoc]; exact w2) f
    rw [show s + j + (w.length + 1) = s + (j + 1) + w.length by omega, ← this]
    rfl
theorem eMax_nat {a b : Nat} (ha : a < 2147483648) (hb : b < 2147483648) : eMax (nI a) (nI b) = nI (max a b) := by
  unfold eMax
  by_cases q : a < b
  · rw [if_pos (nI_lt q (by omega)), show max a b = b by omega]
  · rw [if_neg (nI_nlt (by omega) (by omega)), show max a b = a by omega]
theorem flat_len : ∀ ws : List (List Nat), ws.length ≤ (flat ws).length := by
  intro ws
  induction ws with
  | nil => exact Nat.le_refl _
  | cons w ws ih => rw [flat, List.length_append, List.length_cons, List.length_cons]; omega
theorem gch_w {ch : Int32 → eMem → Option Int32} {C : eMem} {n p : Nat} {B : Nat → Nat} (hT : TC C n B p) (hB : TB n B p) {L : Nat} (hL : L < 1000) : ∀ ws k a s, s + (flat ws).length = L → k + ws.length < 1000 → a < 1000 → (∀ w, w ∈ ws → ∀ c, c ∈ w → 33 ≤ c ∧ c ≤ 255) → spl ch s (flat ws) → ∀ f, (flat ws).length < f →
    gch ch (nI L) f (nI a) (nI k) (nI s) (nI s) C = match fdw n B p ws with
      | some i => some (nI (k + i), eI C 145 2 (nI (p + (ws.getD i []).length)))
      | none => some (-1, eI C 145 2 (nI (p + far n B p ws a))) := by
  have t3 := hT.2.2
  intro ws
  induction ws with
  | nil =>
    intro k a s hs hk ha hc hw f hf
    obtain ⟨f, rfl⟩ : ∃ x, f = x + 1 := ⟨f - 1, by omega⟩
    rw [flat, List.length_nil] at hs
    rw [gch, if_neg (nI_nlt (by omega) (by omega)), fdw, far, t3, nI_add]
  | cons w ws ih =>
    intro k a s hs hk ha hc hw f hf
    rw [flat, List.length_append, List.length_cons] at hs hf
    rw [List.length_cons] at hk
    have w1 := spl.l hw
    have w2 := (spl.r hw).c
    have hcw := hc w List.mem_cons_self
    obtain ⟨f, rfl⟩ : ∃ x, f = x + 1 + w.length := ⟨f - 1 - w.length, by omega⟩
    have h0 := gch_skip (C := C) hL (nI a) (nI k) (nI s) s w 0 (by omega) hcw (by rw [Nat.add_zero]; exact w1) (f + 1)
    simp only [Nat.add_zero] at h0
    rw [h0, gch, if_pos (nI_lt (by omega) (by omega)), w2.1]
    simp only [bS]
    rw [if_pos (show nI 32 = 32 from rfl)]
    have h1 := gfit_w hT hB s (by omega) w 0 (by omega) (fun c hc2 => (hcw c hc2).2) (by rw [Nat.add_zero]; exact w1) eFuel (by unfold eFuel; omega)
    rw [Nat.add_zero, show nI 0 = 0 from rfl, Nat.add_zero, Nat.zero_add] at h1
    rw [h1]
    simp only [bS]
    have hl := fit_len n B w p
    rw [nI_sub (show s ≤ s + w.length by omega), show s + w.length - s = w.length by omega, t3, nI_add, fdw]
    by_cases q : fit n B w p = w.length
    · rw [if_pos ((eqN (by omega) (by omega)).mpr q), if_pos q, q]
      rfl
    · rw [if_neg (fun e => q ((eqN (by omega) (by omega)).mp e)), if_neg q, eMax_nat (by omega) (by omega), Rad_1, Rad_1]
      have := ih (k + 1) (max a (fit n B w p)) (s + w.length + 1) (by omega) (by omega) (by omega) (fun w hw2 => hc w (List.mem_cons_of_mem _ hw2)) w2.2 f (by omega)
      rw [this, far]
      cases h2 : fdw n B p ws with
      | none => rfl
      | some i =>
        show some (nI (k + 1 + i), eI C 145 2 (nI (p + (ws.getD i []).length))) = some (nI (k + (i + 1)), eI C 145 2 (nI (p + (ws.getD i []).length)))
        rw [show k + 1 + i = k + (i + 1) by omega]
/-! the reference's loops -/
def bgn (k : Nat) : Nat := (flat (wA.take k)).length
theorem beg9 (K K' : Int32 → Int32 → Int32 → Option Int32) (hK : ∀ a b c, K a b c = K' a b c) (M M' : eMem) : ∀ f a b c, F_X10_begins_9 K f M a b c = F_X10_begins_9 K' f M' a b c := by
  intro f
  induction f with
  | zero => intro a b c; rfl
  | succ f ih =>
    intro a b c
    rw [F_X10_begins_9, F_X10_begins_9]
    simp only [ih, hK]
    rfl
theorem beg4 (M M' : eMem) : ∀ f a b c, F_X10_begins_4 f M a b c = F_X10_begins_4 f M' a b c := by
  intro f
  induction f with
  | zero => intro a b c; rfl
  | succ f ih =>
    intro a b c
    rw [F_X10_begins_4, F_X10_begins_4]
    by_cases q : c < a
    · rw [if_pos q, if_pos q]
      exact beg9 _ _ (fun x y z => ih x (y + 1) (z + 1)) M M' eFuel a b c
    · rw [if_neg q, if_neg q]
theorem begins_eq (M : eMem) (k : Nat) (hk : k < 17) : F_X10_begins (nI k) M = some (nI (bgn k)) := by
  have h : ∀ k, k < 17 → F_X10_begins_4 eFuel (fun _ _ => 0, fun _ _ => 0) (nI k) 0 0 = some (nI (bgn k)) := by decide +kernel
  unfold F_X10_begins
  rw [beg4 M (fun _ _ => 0, fun _ _ => 0)]
  exact h k hk
theorem w24 {R : eMem} {n p : Nat} {B : Nat → Nat} (hT : TR R n B p) (hB : TB n B p) {ch : Int32 → eMem → Option Int32} (hch : ch = F_J0_charAt_5068e_v6) (K : Int32 → Int32 → Int32 → Int32 → Int32 → Int32 → Int32 → eMem → Option (Int32 × eMem)) (v1 v2 v3 v4 v5 : Int32) (s : Nat) (hs : s < 1000) : ∀ w j, j + w.length < 500 → (∀ c, c ∈ w → 33 ≤ c ∧ c ≤ 255) → spl ch (s + j) (w ++ [32]) → ∀ f, w.length < f → F_X10_word_24 K f v1 v2 v3 v4 v5 (nI s) (nI j) R = K v1 v2 v3 v4 v5 (nI s) (nI (j + fit n B w (p + j))) R := by
  subst hch
  have t3 := hT.2.2.1
  obtain ⟨b1, b2, b3⟩ := hB
  intro w
  induction w with
  | nil =>
    intro j hj _ hw f hf
    obtain ⟨f, rfl⟩ : ∃ x, f = x + 1 := ⟨f - 1, by omega⟩
    rw [F_X10_word_24, nI_add, (spl.c hw).1]
    simp only [bS]
    rw [if_pos (show nI 32 = 32 from rfl), fit]
    rfl
  | cons c w ih =>
    intro j hj hc hw f hf
    obtain ⟨f, rfl⟩ : ∃ x, f = x + 1 := ⟨f - 1, by omega⟩
    obtain ⟨w1, w2⟩ := spl.c hw
    rw [List.length_cons] at hj hf
    have hc1 := hc c List.mem_cons_self
    rw [F_X10_word_24, nI_add, w1, t3, nI_add, byteAt_eq hT b1 (by omega)]
    simp only [bS]
    rw [if_neg (fun e => by have := (eq_lit (n := 32) rfl (by omega)).mp e; omega), fit, Rad_1]
    by_cases q : p + j < n ∧ B (p + j) = c
    · rw [if_pos ((byte_c b3 hc1.2).mpr q), if_pos q]
      rw [ih (j + 1) (by omega) (fun c hc2 => hc c (List.mem_cons_of_mem _ hc2)) (by rw [← Nat.add_assoc]; exact w2) f (by omega), show p + (j + 1) = p + j + 1 by omega, show j + 1 + fit n B w (p + j + 1) = j + (fit n B w (p + j + 1) + 1) by omega]
    · rw [if_neg (fun e => q ((byte_c b3 hc1.2).mp e)), if_neg q]
      rfl
theorem fdw_none {n p : Nat} {B : Nat → Nat} {w : List Nat} (h : fit n B w p = w.length) : ∀ ws : List (List Nat), (∀ v, v ∈ ws → clash w v = true) → fdw n B p ws = none := by
  intro ws
  induction ws with
  | nil => intro _; rfl
  | cons v ws ih =>
    intro hc
    rw [fdw, if_neg (fun e => clash_fit n B w v p (hc v List.mem_cons_self) h e), ih (fun v hv => hc v (List.mem_cons_of_mem _ hv))]
    rfl
/-- no two of some words can fit at one place -/
def apart : List (List Nat) → Bool
  | [] => true
  | w :: ws => ws.all (fun v => clash w v) && apart ws
theorem w8 {R : eMem} {n p : Nat} {B : Nat → Nat} (hT : TR R n B p) (hB : TB n B p) (K : Int32 → Int32 → Int32 → eMem → Option (Int32 × eMem)) (v1 : Int32) (N : Nat) (hN : N < 16) : ∀ ws k a (v4 : Int32), k + ws.length = N + 1 → a < 1000 → apart ws = true → (∀ w, w ∈ ws → w.length < 100 ∧ ∀ c, c ∈ w → 33 ≤ c ∧ c ≤ 255) → (∀ i, i < ws.length → spl F_J0_charAt_5068e_v6 (bgn (k + i)) (ws.getD i [] ++ [32])) → ∀ f, ws.length < f →
    F_X10_word_8 K f v1 (nI N) (nI a) v4 (nI k) R = K v1 (nI (far n B p ws a)) (match fdw n B p ws with | some i => nI (k + i) | none => v4) R := by
  intro ws
  induction ws with
  | nil =>
    intro k a v4 hk ha _ _ _ f hf
    obtain ⟨f, rfl⟩ : ∃ x, f = x + 1 := ⟨f - 1, by omega⟩
    rw [List.length_nil] at hk
    rw [F_X10_word_8, if_pos (nI_lt (by omega) (by omega))]
    rfl
  | cons w ws ih =>
    intro k a v4 hk ha hap hc hs f hf
    obtain ⟨f, rfl⟩ : ∃ x, f = x + 1 := ⟨f - 1, by omega⟩
    rw [List.length_cons] at hk hf
    rw [apart, Bool.and_eq_true, List.all_eq_true] at hap
    obtain ⟨hcl, hap⟩ := hap
    have hbk : ∀ k, k < 17 → bgn k < 200 := by decide +kernel
    have hb := hbk k (by omega)
    obtain ⟨c1, c2⟩ := hc w List.mem_cons_self
    have hsw : spl F_J0_charAt_5068e_v6 (bgn k) (w ++ [32]) := hs 0 (by rw [List.length_cons]; omega)
    have hl := fit_len n B w p
    have h1 := fun K => w24 hT hB rfl K v1 (nI N) (nI a) v4 (nI k) (bgn k) (by omega) w 0 (by omega) c2 (by rw [Nat.add_zero]; exact hsw) eFuel (by unfold eFuel; omega)
    simp only [Nat.add_zero, Nat.zero_add, show nI 0 = 0 from rfl] at h1
    rw [F_X10_word_8, if_neg (nI_nlt (by omega) (by omega)), begins_eq R k (by omega)]
    simp only [bS]
    rw [h1]
    have hgo : ∀ b : Nat, b = max a (fit n B w p) → F_X10_word_81 (fun v1 v2 v3 v4 v5 M => F_X10_word_8 K f v1 v2 v3 v4 v5 M) K v1 (nI N) v4 (nI k) (nI (bgn k)) (nI (fit n B w p)) (nI b) R = K v1 (nI (far n B p (w :: ws) a)) (match fdw n B p (w :: ws) with | some i => nI (k + i) | none => v4) R := by
      intro b hbb
      unfold F_X10_word_81
      have hi := hsw (fit n B w p) (by rw [List.length_append, List.length_singleton]; omega) R
      rw [nI_add, hi]
      simp only [bS]
      rw [Rad_1]
      have hrest : ∀ v4 : Int32, F_X10_word_8 K f v1 (nI N) (nI b) v4 (nI (k + 1)) R = K v1 (nI (far n B p ws b)) (match fdw n B p ws with | some i => nI (k + 1 + i) | none => v4) R := fun v4 => ih (k + 1) b v4 (by omega) (by omega) hap (fun w hw => hc w (List.mem_cons_of_mem _ hw)) (fun i hi => by
        have := hs (i + 1) (by rw [List.length_cons]; omega)
        rw [show k + (i + 1) = k + 1 + i by omega] at this
        exact this) f (by omega)
      rw [fdw, far, ← hbb]
      by_cases q : fit n B w p = w.length
      · rw [q, if_pos (by simp [List.getD]; rfl), if_pos rfl, hrest, fdw_none q ws hcl]
        rfl
      · have hlt : fit n B w p < w.length := by omega
        have hm : (w ++ [32]).getD (fit n B w p) 0 ∈ w := by
          simp only [List.getD, List.getElem?_append_left hlt, List.getElem?_eq_getElem hlt, Option.getD_some]
          exact List.getElem_mem hlt
        have hv := c2 _ hm
        rw [if_neg (fun e => by have := (eq_lit (n := 32) rfl (by omega)).mp e; omega), if_neg q, hrest]
        cases h2 : fdw n B p ws with
        | none => rfl
        | some i =>
          show K v1 _ (nI (k + 1 + i)) R = K v1 _ (nI (k + (i + 1))) R
          rw [show k + 1 + i = k + (i + 1) by omega]
    by_cases q : a < fit n B w p
    · rw [if_pos (nI_lt q (by omega))]; exact hgo _ (by omega)
    · rw [if_neg (nI_nlt (by omega) (by omega))]; exact hgo _ (by omega)
/-- both choose one word -/
theorem ckw {C R : eMem} {n p : Nat} {B : Nat → Nat} (hC : TC C n B p) (hR : TR R n B p) (hB : TB n B p) {ch : Int32 → eMem → Option Int32} {ws : List (List Nat)} {a N : Nat} (hN : N < 16) (haN : a + ws.length = N + 1) (hsp : spl ch 0 (flat ws)) (hl : (flat ws).length < 1000) (hap : apart ws = true) (hc : ∀ w, w ∈ ws → w.length < 100 ∧ ∀ c, c ∈ w → 33 ≤ c ∧ c ≤ 255) (hw : ∀ i, i < ws.length → ws.getD i [] = wA.getD (a + i) []) :
    (∃ i C2 R2 p2, i < ws.length ∧ gch ch (nI (flat ws).length) eFuel 0 0 0 0 C = some (nI i, C2) ∧ F_X10_word (nI a) (nI N) R = some (nI i, R2) ∧ TB n B p2 ∧ TC C2 n B p2 ∧ TR R2 n B p2 ∧ fC aP C C2 ∧ fR aQ R R2) ∨
    (∃ C2 R2 p2, gch ch (nI (flat ws).length) eFuel 0 0 0 0 C = some (-1, C2) ∧ F_X10_word (nI a) (nI N) R = some (0, R2) ∧ C2.1 145 2 = nI p2 ∧ R2.1 0 17 = nI p2 ∧ R2.1 0 18 = 1 ∧ p2 ≤ n ∧ fC aP C C2 ∧ fR aQ R R2) := by
  have hfl := flat_len ws
  have g := gch_w hC hB hl ws 0 0 0 (by omega) (by omega) (by omega) (fun w hw => (hc w hw).2) hsp eFuel (by unfold eFuel; omega)
  rw [show nI 0 = 0 from rfl] at g
  rw [g]
  unfold F_X10_word
  have hspl : ∀ i, i < ws.length → spl F_J0_charAt_5068e_v6 (bgn (a + i)) (ws.getD i [] ++ [32]) := by
    intro i hi
    have hh : ∀ k, k < 16 → bgn k + ((wA.getD k []) ++ [32]).length ≤ (flat wA).length ∧ ∀ j, j < ((wA.getD k []) ++ [32]).length → (flat wA).getD (bgn k + j) 0 = ((wA.getD k []) ++ [32]).getD j 0 := by decide +kernel
    obtain ⟨h1, h2⟩ := hh (a + i) (by omega)
    rw [hw i hi]
    intro j hj M
    rw [← h2 j hj]
    have := spl_v6 (bgn (a + i) + j) (by omega) M
    rw [Nat.zero_add] at this
    exact this
  have w := w8 hR hB (fun v1 v3 v4 M => if v4 < 0 then (F_X10_wrong ((M.1 0 17) + v3) M).bind fun q8 => some (0, q8) else (F_X10_begins (v4 + 1) M).bind fun q6 => (F_X10_begins v4 M).bind fun q7 => some ((v4 - v1), (eI M 0 17 ((M.1 0 17) + ((q6 - q7) - 1))))) (nI a) N hN ws a 0 (-1) haN (by omega) hap hc hspl eFuel (by unfold eFuel; omega)
  rw [show nI 0 = 0 from rfl] at w
  rw [w]
  have t3 := hR.2.2.1
  have t4 := hR.2.2.2
  cases h2 : fdw n B p ws with
  | some i =>
    obtain ⟨i1, i2⟩ := fdw_lt n B p ws i h2
    refine Or.inl ⟨i, eI C 145 2 (nI (p + (ws.getD i []).length)), eI R 0 17 (nI (p + (ws.getD i []).length)), p + (ws.getD i []).length, i1, by simp only [Nat.zero_add], ?_, ⟨hB.1, by have := fit_le n B (ws.getD i []) p hB.2.1; omega, hB.2.2⟩, hC.go _, hR.go _, fC.w ⟨rfl, rfl⟩ (fun q => by omega), fR.w ⟨rfl, Or.inl rfl⟩⟩
    have hb : ∀ k, k < 16 → bgn (k + 1) = bgn k + (wA.getD k []).length + 1 := by decide +kernel
    rw [if_neg (nI_pos (by omega)), Rad_1, begins_eq R _ (by omega), begins_eq R _ (by omega)]
    simp only [bS]
    rw [hb (a + i) (by omega), ← hw i i1, nI_sub (by omega), nI_sub (by omega), show bgn (a + i) + (ws.getD i []).length + 1 - bgn (a + i) = (ws.getD i []).length + 1 by omega, nI_pred, t3, nI_add, show a + i - a = i by omega]
  | none =>
    have hf := far_le n B p hB.2.1 ws 0 hB.2.1
    refine Or.inr ⟨eI C 145 2 (nI (p + far n B p ws 0)), eI (eI R 0 17 (nI (p + far n B p ws 0))) 0 18 1, p + far n B p ws 0, rfl, ?_, by simp (disch := omega) only [eIq_ne, eIq_eq, upd_ne, upd_eq], by simp (disch := omega) only [eIq_ne, eIq_eq, upd_ne, upd_eq], by simp (disch := omega) only [eIq_ne, eIq_eq, upd_ne, upd_eq], hf, fC.w ⟨rfl, rfl⟩ (fun q => by omega), (fR.w ⟨rfl, Or.inl rfl⟩).tr (fR.w ⟨rfl, Or.inr rfl⟩)⟩
    rw [if_pos (show (-1 : Int32) < 0 by decide)]
    unfold F_X10_wrong
    rw [t4, if_pos rfl, t3, nI_add]
    rfl
theorem ckV {C R : eMem} {n p : Nat} {B : Nat → Nat} (hC : TC C n B p) (hR : TR R n B p) (hB : TB n B p) :
    (∃ i C2 R2 p2, i < 3 ∧ F_X6_choose C = some (nI i, C2) ∧ F_X10_word 0 2 R = some (nI i, R2) ∧ TB n B p2 ∧ TC C2 n B p2 ∧ TR R2 n B p2 ∧ fC aP C C2 ∧ fR aQ R R2) ∨
    (∃ C2 R2 p2, F_X6_choose C = some (-1, C2) ∧ F_X10_word 0 2 R = some (0, R2) ∧ C2.1 145 2 = nI p2 ∧ R2.1 0 17 = nI p2 ∧ R2.1 0 18 = 1 ∧ p2 ≤ n ∧ fC aP C C2 ∧ fR aQ R R2) := by
  unfold F_X6_choose
  rw [gch_v1]
  exact ckw (ws := wV) (a := 0) (N := 2) hC hR hB (by decide) (by decide) spl_v1 (by decide) (by decide) (by decide) (by decide)
theorem ckK {C R : eMem} {n p : Nat} {B : Nat → Nat} (hC : TC C n B p) (hR : TR R n B p) (hB : TB n B p) :
    (∃ i C2 R2 p2, i < 7 ∧ F_X6_choose_v2 C = some (nI i, C2) ∧ F_X10_word 3 9 R = some (nI i, R2) ∧ TB n B p2 ∧ TC C2 n B p2 ∧ TR R2 n B p2 ∧ fC aP C C2 ∧ fR aQ R R2) ∨
    (∃ C2 R2 p2, F_X6_choose_v2 C = some (-1, C2) ∧ F_X10_word 3 9 R = some (0, R2) ∧ C2.1 145 2 = nI p2 ∧ R2.1 0 17 = nI p2 ∧ R2.1 0 18 = 1 ∧ p2 ≤ n ∧ fC aP C C2 ∧ fR aQ R R2) := by
  unfold F_X6_choose_v2
  rw [gch_v2]
  exact ckw (ws := wK) (a := 3) (N := 9) hC hR hB (by decide) (by decide) spl_v2 (by decide) (by decide) (by decide) (by decide)
theorem ckI {C R : eMem} {n p : Nat} {B : Nat → Nat} (hC : TC C n B p) (hR : TR R n B p) (hB : TB n B p) :
    (∃ i C2 R2 p2, i < 1 ∧ F_X6_choose_v3 C = some (nI i, C2) ∧ F_X10_word 15 15 R = some (nI i, R2) ∧ TB n B p2 ∧ TC C2 n B p2 ∧ TR R2 n B p2 ∧ fC aP C C2 ∧ fR aQ R R2) ∨
    (∃ C2 R2 p2, F_X6_choose_v3 C = some (-1, C2) ∧ F_X10_word 15 15 R = some (0, R2) ∧ C2.1 145 2 = nI p2 ∧ R2.1 0 17 = nI p2 ∧ R2.1 0 18 = 1 ∧ p2 ≤ n ∧ fC aP C C2 ∧ fR aQ R R2) := by
  unfold F_X6_choose_v3
  rw [gch_v3]
  exact ckw (ws := wI) (a := 15) (N := 15) hC hR hB (by decide) (by decide) spl_v3 (by decide) (by decide) (by decide) (by decide)
theorem ckF {C R : eMem} {n p : Nat} {B : Nat → Nat} (hC : TC C n B p) (hR : TR R n B p) (hB : TB n B p) :
    (∃ i C2 R2 p2, i < 5 ∧ F_X6_choose_v4 C = some (nI i, C2) ∧ F_X10_word 10 14 R = some (nI i, R2) ∧ TB n B p2 ∧ TC C2 n B p2 ∧ TR R2 n B p2 ∧ fC aP C C2 ∧ fR aQ R R2) ∨
    (∃ C2 R2 p2, F_X6_choose_v4 C = some (-1, C2) ∧ F_X10_word 10 14 R = some (0, R2) ∧ C2.1 145 2 = nI p2 ∧ R2.1 0 17 = nI p2 ∧ R2.1 0 18 = 1 ∧ p2 ≤ n ∧ fC aP C C2 ∧ fR aQ R R2) := by
  unfold F_X6_choose_v4
  rw [gch_v4]
  exact ckw (ws := wF) (a := 10) (N := 14) hC hR hB (by decide) (by decide) spl_v4 (by decide) (by decide) (by decide) (by decide)
/-- the signs -/
theorem ckS {C R : eMem} {n p : Nat} {B : Nat → Nat} (hC : TC C n B p) (hR : TR R n B p) (hB : TB n B p) :
    (∃ x y C2, F_X6_choose_v5 C = some (x, C2) ∧ ¬ x = -1 ∧ F_X10_byteAt (nI p) R = some y ∧ sgn x y ∧ TB n B (p + 1) ∧ TC C2 n B (p + 1) ∧ TR (eI R 0 17 (nI (p + 1))) n B (p + 1) ∧ fC aP C C2) ∨
    (∃ y C2, F_X6_choose_v5 C = some (-1, C2) ∧ F_X10_byteAt (nI p) R = some y ∧ ¬ y = 61 ∧ ¬ y = 60 ∧ ¬ y = 62 ∧ C2.1 145 2 = nI p ∧ fC aP C C2) := by
  have g := gch_w hC hB (L := 6) (by omega) wS 0 0 0 (by decide) (by decide) (by omega) (by decide) spl_v5 eFuel (by decide)
  rw [show nI 0 = 0 from rfl] at g
  unfold F_X6_choose_v5
  obtain ⟨b1, b2, b3⟩ := hB
  rw [gch_v5, show (6 : Int32) = nI 6 from rfl, g, byteAt_eq hR b1 (by omega)]
  have hfl : ∀ c, fit n B [c] p = if p < n ∧ B p = c then 1 else 0 := fun c => by rw [fit, fit]
  have hno : ∀ c, c ≤ 255 → ¬ (p < n ∧ B p = c) → ¬ (if p < n then nI (B p) else (-1 : Int32)) = nI c := fun c hc h e => h ((byte_c b3 hc).mp e)
  have hyes : ∀ c, c ≤ 255 → (p < n ∧ B p = c) → (if p < n then nI (B p) else (-1 : Int32)) = nI c := fun c hc h => (byte_c b3 hc).mpr h
  unfold wS
  simp only [fdw, far, hfl, List.length_singleton]
  by_cases q1 : p < n ∧ B p = 61
  · rw [if_pos q1, if_pos rfl, hyes 61 (by omega) q1]
    exact Or.inl ⟨nI (0 + 0), nI 61, _, rfl, by decide, rfl, Or.inl ⟨rfl, rfl⟩, ⟨b1, by omega, b3⟩, hC.go _, hR.go _, fC.w ⟨rfl, rfl⟩ (fun q => by omega)⟩
  · by_cases q2 : p < n ∧ B p = 60
    · rw [if_neg q1, if_pos q2, if_neg (by decide), if_pos rfl, hyes 60 (by omega) q2]
      exact Or.inl ⟨nI (0 + 1), nI 60, _, rfl, by decide, rfl, Or.inr (Or.inl ⟨rfl, rfl⟩), ⟨b1, by omega, b3⟩, hC.go _, hR.go _, fC.w ⟨rfl, rfl⟩ (fun q => by omega)⟩
    · by_cases q3 : p < n ∧ B p = 62
      · rw [if_neg q1, if_neg q2, if_pos q3, if_neg (by decide), if_pos rfl, hyes 62 (by omega) q3]
        exact Or.inl ⟨nI (0 + 2), nI 62, _, rfl, by decide, rfl, Or.inr (Or.inr ⟨rfl, rfl⟩), ⟨b1, by omega, b3⟩, hC.go _, hR.go _, fC.w ⟨rfl, rfl⟩ (fun q => by omega)⟩
      · rw [if_neg q1, if_neg q2, if_neg q3, if_neg (by decide)]
        refine Or.inr ⟨_, eI C 145 2 (nI (p + 0)), rfl, rfl, hno 61 (by omega) q1, hno 60 (by omega) q2, hno 62 (by omega) q3, by simp (disch := omega) only [eIq_ne, eIq_eq, upd_ne, upd_eq]; rfl, fC.w ⟨rfl, rfl⟩ (fun q => by omega)⟩
