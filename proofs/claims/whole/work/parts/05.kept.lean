/-! sides, wide -/
def ds_ln (s : Int32) : Int32 := if s = 0 then 1 else if 12 < s then 12 else s
theorem ds_ln_t : ∀ j, j < 16 → 0 ≤ (ds_ln (nI j)).toInt ∧ (ds_ln (nI j)).toInt ≤ 12 := by decide +kernel
theorem ds_ln_b (s : Int32) : 0 ≤ (ds_ln (s &&& 15)).toInt ∧ (ds_ln (s &&& 15)).toInt ≤ 12 := by
  obtain ⟨j, hj, e⟩ := pk_andE s (m := 15) 4 (by decide)
  rw [e]
  exact ds_ln_t j hj
theorem ds_15 : (15 : Int32).toInt = 15 := by decide
theorem ds_255 : (255 : Int32).toInt = 255 := by decide
theorem ds_w1 {z : Int32} (h : ¬ z >>> ((4 : Int32) &&& 31) < 0) (h' : z >>> ((4 : Int32) &&& 31) ≤ 15) : ∃ q : Nat, q < 256 ∧ z = nI q := by
  have e : (z >>> ((4 : Int32) &&& 31)).toInt = z.toInt >>> 4 := pk_shr z ((4 : Int32) &&& 31) 4 (by decide)
  rw [Int32.lt_iff_toInt_lt, e, ds_i0, Int.shiftRight_eq_div_pow] at h
  rw [Int32.le_iff_toInt_le, e, ds_15, Int.shiftRight_eq_div_pow] at h'
  have e2 : ((2 ^ 4 : Nat) : Int) = 16 := by decide
  rw [e2] at h h'
  have z0 : ¬ z < 0 := by rw [Int32.lt_iff_toInt_lt, ds_i0]; omega
  obtain ⟨q, hq, rfl⟩ := nI_of z0
  rw [nI_toInt hq] at h'
  exact ⟨q, by omega, rfl⟩
theorem ds_w2 {q : Nat} (h : q < 256) : nI q >>> ((4 : Int32) &&& 31) = nI (q / 16) := pk_shrN (by omega) ((4 : Int32) &&& 31) 4 (by decide)
theorem ds_w3 {q : Nat} (h : q < 256) : nI q &&& 15 = nI (q % 16) := pk_andN (by omega) (m := 15) 4 (by decide)
/-! kept -/
def ds_k (A B : Int32) (fo fc : Nat → Int32) (w : Nat) : Int32 :=
  if 0 ≤ A ∧ A < 12 ∧ 0 ≤ B ∧ B < 10 ∧ fo (12 * B.toNatClampNeg + A.toNatClampNeg) = nI w ∧ fc (12 * B.toNatClampNeg + A.toNatClampNeg) ≠ 0 then 1 else 0
theorem ds_k_01 (A B : Int32) (fo fc : Nat → Int32) (w : Nat) : ds_k A B fo fc w = 0 ∨ ds_k A B fo fc w = 1 := by
  unfold ds_k
  by_cases h : 0 ≤ A ∧ A < 12 ∧ 0 ≤ B ∧ B < 10 ∧ fo (12 * B.toNatClampNeg + A.toNatClampNeg) = nI w ∧ fc (12 * B.toNatClampNeg + A.toNatClampNeg) ≠ 0
  · rw [if_pos h]; exact Or.inr rfl
  · rw [if_neg h]; exact Or.inl rfl
theorem ds_le_of {A : Int32} {N : Nat} (hN : N < 2 ^ 31) (h0 : 0 ≤ A) (h : A < nI N) : ∃ a : Nat, a < N ∧ A = nI a := by
  obtain ⟨a, ha, rfl⟩ := nI_of (x := A) (Int32.not_lt.mpr h0)
  rw [nI_ltI ha hN] at h
  exact ⟨a, h, rfl⟩
theorem ds_k_ix {A B : Int32} (h1 : 0 ≤ A) (h2 : A < 12) (h3 : 0 ≤ B) (h4 : B < 10) : ∃ a b : Nat, a < 12 ∧ b < 10 ∧ A = nI a ∧ B = nI b := by
  obtain ⟨a, ha, rfl⟩ := ds_le_of (N := 12) (by decide) h1 h2
  obtain ⟨b, hb, rfl⟩ := ds_le_of (N := 10) (by decide) h3 h4
  exact ⟨a, b, ha, hb, rfl, rfl⟩
theorem ds_k_lt {A B : Int32} (h1 : 0 ≤ A) (h2 : A < 12) (h3 : 0 ≤ B) (h4 : B < 10) : 12 * B.toNatClampNeg + A.toNatClampNeg < 120 := by
  obtain ⟨a, b, ha, hb, rfl, rfl⟩ := ds_k_ix h1 h2 h3 h4
  rw [nI_clamp (by omega), nI_clamp (by omega)]
  omega
theorem ds_k_0 {A B : Int32} {fo fc : Nat → Int32} {w : Nat} (h : ∀ j, j < 120 → fo j ≠ nI w) : ds_k A B fo fc w = 0 :=
  if_neg (fun z => h _ (ds_k_lt z.1 z.2.1 z.2.2.1 z.2.2.2.1) z.2.2.2.2.1)
theorem ds_k_c {A B : Int32} {fo fc fo' fc' : Nat → Int32} {w : Nat} (h : ∀ j, j < 120 → fo j = fo' j ∧ fc j = fc' j) : ds_k A B fo fc w = ds_k A B fo' fc' w := by
  unfold ds_k
  by_cases z : 0 ≤ A ∧ A < 12 ∧ 0 ≤ B ∧ B < 10
  · have e := h _ (ds_k_lt z.1 z.2.1 z.2.2.1 z.2.2.2)
    rw [e.1, e.2]
  · rw [if_neg (fun y => z ⟨y.1, y.2.1, y.2.2.1, y.2.2.2.1⟩), if_neg (fun y => z ⟨y.1, y.2.1, y.2.2.1, y.2.2.2.1⟩)]
