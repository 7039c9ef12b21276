/-! topmost, owner -/
def ds_tm (q : Nat → Bool) (lv : Nat → Int32) : Nat → Nat → Nat → Nat
  | 0, _, b => b
  | n + 1, c, b => ds_tm q lv n (c + 1) (if q c = true ∧ (b = 0 ∨ lv b < lv c) then c else b)
theorem ds_tm_y {q : Nat → Bool} {lv : Nat → Int32} {n c b : Nat} (h : q c = true ∧ (b = 0 ∨ lv b < lv c)) : ds_tm q lv (n + 1) c b = ds_tm q lv n (c + 1) c :=
  congrArg (ds_tm q lv n (c + 1)) (if_pos h)
theorem ds_tm_n {q : Nat → Bool} {lv : Nat → Int32} {n c b : Nat} (h : ¬ (q c = true ∧ (b = 0 ∨ lv b < lv c))) : ds_tm q lv (n + 1) c b = ds_tm q lv n (c + 1) b :=
  congrArg (ds_tm q lv n (c + 1)) (if_neg h)
theorem ds_tm_in {q : Nat → Bool} {lv : Nat → Int32} : ∀ n c b, 1 ≤ c → c + n = 6 → (b = 0 ∨ (1 ≤ b ∧ b < 6 ∧ q b = true)) → (ds_tm q lv n c b = 0 ∨ (1 ≤ ds_tm q lv n c b ∧ ds_tm q lv n c b < 6 ∧ q (ds_tm q lv n c b) = true)) := by
  intro n
  induction n with
  | zero => intro c b _ _ h; exact h
  | succ n ih =>
    intro c b hc hn h
    by_cases z : q c = true ∧ (b = 0 ∨ lv b < lv c)
    · rw [ds_tm_y z]; exact ih (c + 1) c (by omega) (by omega) (Or.inr ⟨hc, by omega, z.1⟩)
    · rw [ds_tm_n z]; exact ih (c + 1) b (by omega) (by omega) h
def ds_ow (f : Nat → Nat) : Nat → Nat → Nat
  | 0, a => a
  | n + 1, a => if f a = 0 then a else ds_ow f n (f a)
theorem ds_ow_y {f : Nat → Nat} {n a : Nat} (h : f a = 0) : ds_ow f (n + 1) a = a := if_pos h
theorem ds_ow_n {f : Nat → Nat} {n a : Nat} (h : ¬ f a = 0) : ds_ow f (n + 1) a = ds_ow f n (f a) := if_neg h
theorem ds_ow_in {f : Nat → Nat} {t : Nat → Int32} (hf : ∀ a, a < 6 → t a ≠ 0 → f a = 0 ∨ (f a < 6 ∧ t (f a) ≠ 0)) : ∀ n a, a < 6 → t a ≠ 0 → ds_ow f n a < 6 ∧ t (ds_ow f n a) ≠ 0 := by
  intro n
  induction n with
  | zero => intro a ha h; exact ⟨ha, h⟩
  | succ n ih =>
    intro a ha h
    by_cases z : f a = 0
    · rw [ds_ow_y z]; exact ⟨ha, h⟩
    · rw [ds_ow_n z]
      have := (hf a ha h).resolve_left z
      exact ih _ this.1 this.2
theorem ds_ow_s {f : Nat → Nat} {t : Nat → Int32} {dp : Nat → Nat} (hf : ∀ a, a < 6 → t a ≠ 0 → f a = 0 ∨ (f a < 6 ∧ t (f a) ≠ 0 ∧ dp (f a) = dp a + 1 ∧ dp (f a) ≤ 5)) : ∀ n a, a < 6 → t a ≠ 0 → 5 ≤ dp a + n → ds_ow f (n + 1) a = ds_ow f n a := by
  intro n
  induction n with
  | zero =>
    intro a ha h hd
    by_cases z : f a = 0
    · rw [ds_ow_y z]; rfl
    · have := (hf a ha h).resolve_left z
      omega
  | succ n ih =>
    intro a ha h hd
    by_cases z : f a = 0
    · rw [ds_ow_y z, ds_ow_y z]
    · rw [ds_ow_n z, ds_ow_n z]
      have := (hf a ha h).resolve_left z
      exact ih _ this.1 this.2.1 (by omega)
def ds_C (p dx dy wd hg sh : Nat → Int32) (x y c : Nat) : Bool :=
  decide (sh c ≠ 0 ∧ 0 ≤ nI x - ds_cs dx p 5 c 0 ∧ nI x - ds_cs dx p 5 c 0 < wd c ∧ 0 ≤ nI y - ds_cs dy p 5 c 0 ∧ nI y - ds_cs dy p 5 c 0 < hg c)
def ds_q (t p dx dy wd hg sh : Nat → Int32) (x y a : Nat) (c : Nat) : Bool :=
  decide (t c ≠ 0 ∧ p c = nI a ∧ ds_C p dx dy wd hg sh x y c = true)
def ds_nx (t p dx dy wd hg sh lv : Nat → Int32) (x y a : Nat) : Nat := ds_tm (ds_q t p dx dy wd hg sh x y a) lv 5 1 0
def ds_O (t p dx dy wd hg sh lv : Nat → Int32) (x y : Nat) : Nat := ds_ow (ds_nx t p dx dy wd hg sh lv x y) 5 0
section
variable {t p dx dy wd hg sh lv : Nat → Int32} {dp : Nat → Nat} {x y : Nat}
theorem ds_nx_in {a : Nat} : ds_nx t p dx dy wd hg sh lv x y a = 0 ∨ (1 ≤ ds_nx t p dx dy wd hg sh lv x y a ∧ ds_nx t p dx dy wd hg sh lv x y a < 6 ∧ t (ds_nx t p dx dy wd hg sh lv x y a) ≠ 0 ∧ p (ds_nx t p dx dy wd hg sh lv x y a) = nI a) := by
  have h := ds_tm_in (q := ds_q t p dx dy wd hg sh x y a) (lv := lv) 5 1 0 (by omega) (by omega) (Or.inl rfl)
  cases h with
  | inl h => exact Or.inl h
  | inr h =>
    have e := of_decide_eq_true h.2.2
    exact Or.inr ⟨h.1, h.2.1, e.1, e.2.1⟩
theorem ds_nx_d (H : ds_T t p dp) : ∀ a, a < 6 → t a ≠ 0 → ds_nx t p dx dy wd hg sh lv x y a = 0 ∨ (ds_nx t p dx dy wd hg sh lv x y a < 6 ∧ t (ds_nx t p dx dy wd hg sh lv x y a) ≠ 0 ∧ dp (ds_nx t p dx dy wd hg sh lv x y a) = dp a + 1 ∧ dp (ds_nx t p dx dy wd hg sh lv x y a) ≤ 5) := by
  intro a ha h
  cases ds_nx_in (t := t) (p := p) (dx := dx) (dy := dy) (wd := wd) (hg := hg) (sh := sh) (lv := lv) (x := x) (y := y) (a := a) with
  | inl e => exact Or.inl e
  | inr e =>
    have q := H.2.2 _ e.1 e.2.1 e.2.2.1
    have u : ds_up p (ds_nx t p dx dy wd hg sh lv x y a) = a := by
      unfold ds_up; rw [e.2.2.2]; exact nI_clamp (by omega)
    rw [u] at q
    exact Or.inr ⟨e.2.1, e.2.2.1, q.1, q.2.1⟩
theorem ds_O_in (H : ds_T t p dp) : ds_O t p dx dy wd hg sh lv x y < 6 ∧ t (ds_O t p dx dy wd hg sh lv x y) ≠ 0 :=
  ds_ow_in (fun a ha h => (ds_nx_d H a ha h).imp id (fun e => ⟨e.1, e.2.1⟩)) 5 0 (by omega) H.2.1
theorem ds_O_6 (H : ds_T t p dp) : ds_ow (ds_nx t p dx dy wd hg sh lv x y) 6 0 = ds_O t p dx dy wd hg sh lv x y :=
  ds_ow_s (ds_nx_d H) 5 0 (by omega) H.2.1 (by omega)
end
/-! covers: the two ways to ask -/
theorem ds_cov {x c w : Int32} (hx : 0 ≤ x.toInt) (hx2 : x.toInt ≤ 1000) (hc : -1000 ≤ c.toInt) (hc2 : c.toInt ≤ 1000) (hw : 0 ≤ w.toInt) (hw2 : w.toInt ≤ 1000) : (0 ≤ x - c ↔ c ≤ x) ∧ (x - c < w ↔ x < c + w) := by
  have e1 : (x - c).toInt = x.toInt - c.toInt := ds_sub (by omega) (by omega)
  have e2 : (c + w).toInt = c.toInt + w.toInt := ds_add (by omega) (by omega)
  rw [Int32.le_iff_toInt_le, Int32.le_iff_toInt_le, Int32.lt_iff_toInt_lt, Int32.lt_iff_toInt_lt, e1, e2, ds_i0]
  exact ⟨by omega, by omega⟩
/-! fills -/
def ds_fl (n : Nat) (g a : Nat → Int32) : Nat → Int32 := fun j => if j < n then g j else a j
theorem ds_fl_0 {g a : Nat → Int32} : ds_fl 0 g a = a := funext fun j => if_neg (Nat.not_lt_zero j)
theorem ds_fl_lt {n j : Nat} {g a : Nat → Int32} (h : j < n) : ds_fl n g a j = g j := if_pos h
theorem ds_fl_ge {n j : Nat} {g a : Nat → Int32} (h : ¬ j < n) : ds_fl n g a j = a j := if_neg h
theorem ds_fl_s {n : Nat} {g a : Nat → Int32} {z : Int32} (h : z = g n) : upd (ds_fl n g a) n z = ds_fl (n + 1) g a := by
  funext j
  show (if j = n then z else (if j < n then g j else a j)) = (if j < n + 1 then g j else a j)
  by_cases e : j = n
  · subst e; rw [if_pos rfl, if_pos (by omega), h]
  · rw [if_neg e]
    by_cases l : j < n
    · rw [if_pos l, if_pos (by omega)]
    · rw [if_neg l, if_neg (by omega)]
theorem ds_fl_k {n : Nat} {g a : Nat → Int32} (h : g n = a n) : ds_fl (n + 1) g a = ds_fl n g a := by
  funext j
  show (if j < n + 1 then g j else a j) = (if j < n then g j else a j)
  by_cases e : j = n
  · subst e; rw [if_pos (by omega), if_neg (by omega), h]
  · by_cases l : j < n
    · rw [if_pos l, if_pos (by omega)]
    · rw [if_neg l, if_neg (by omega)]
/-! counts -/
def ds_ct (q : Nat → Bool) : Nat → Nat
  | 0 => 0
  | n + 1 => ds_ct q n + (if q n = true then 1 else 0)
theorem ds_ct_y {q : Nat → Bool} {n : Nat} (h : q n = true) : ds_ct q (n + 1) = ds_ct q n + 1 := congrArg (ds_ct q n + ·) (if_pos h)
theorem ds_ct_n {q : Nat → Bool} {n : Nat} (h : ¬ q n = true) : ds_ct q (n + 1) = ds_ct q n := congrArg (ds_ct q n + ·) (if_neg h)
theorem ds_ct_le {q : Nat → Bool} : ∀ n, ds_ct q n ≤ n := by
  intro n
  induction n with
  | zero => exact Nat.le_refl 0
  | succ n ih =>
    by_cases h : q n = true
    · rw [ds_ct_y h]; omega
    · rw [ds_ct_n h]; omega
theorem ds_ct_c {q q' : Nat → Bool} : ∀ n, (∀ j, j < n → q j = q' j) → ds_ct q n = ds_ct q' n := by
  intro n
  induction n with
  | zero => intro _; rfl
  | succ n ih =>
    intro h
    have e := ih (fun j hj => h j (by omega))
    have z := h n (by omega)
    show ds_ct q n + (if q n = true then 1 else 0) = ds_ct q' n + (if q' n = true then 1 else 0)
    rw [e, z]
theorem ds_ct_d {q q' : Nat → Bool} {k : Nat} (h1 : q k = true) (h2 : q' k = false) (h : ∀ j, j ≠ k → q' j = q j) : ∀ n, k < n → ds_ct q' n + 1 = ds_ct q n := by
  intro n
  induction n with
  | zero => intro z; exact absurd z (Nat.not_lt_zero k)
  | succ n ih =>
    intro hk
    by_cases e : k = n
    · subst e
      rw [ds_ct_y h1, ds_ct_n (by rw [h2]; decide), ds_ct_c k (fun j hj => h j (by omega))]
    · have i := ih (by omega)
      have z := h n (by omega)
      show ds_ct q' n + (if q' n = true then 1 else 0) + 1 = ds_ct q n + (if q n = true then 1 else 0)
      rw [z]; omega
def ds_nz (a : Nat → Int32) : Nat → Bool := fun j => decide (a j ≠ 0)
theorem ds_nz_d {a : Nat → Int32} {k n : Nat} (hk : k < n) (h : a k ≠ 0) : ds_ct (ds_nz (upd a k 0)) n + 1 = ds_ct (ds_nz a) n :=
  ds_ct_d (decide_eq_true h) (decide_eq_false (by rw [pk_us]; exact fun z => z rfl)) (fun j hj => by show decide (upd a k 0 j ≠ 0) = decide (a j ≠ 0); rw [pk_un hj]) n hk
